/-! towers by a seed -/
def dS (s : Int32) : Int32 := s * 1103515245 + 12345
def dv (s : Int32) : Nat := ((s >>> ((16 : Int32) &&& 31)) &&& 32767).toNatClampNeg
theorem dv_e (s : Int32) : dv s < 32768 ∧ (s >>> ((16 : Int32) &&& 31)) &&& 32767 = nI (dv s) := by
  obtain ⟨j, h1, h2⟩ := pk_andE (s >>> ((16 : Int32) &&& 31)) (m := 32767) 15 (by decide)
  unfold dv
  rw [h2, q_cl (by omega)]
  exact ⟨by omega, rfl⟩
theorem b_32767 (i : Nat) : bt 32767 i = decide (i < 15) := by
  rcases Nat.lt_or_ge i 32 with h | h
  · exact (by decide +kernel : ∀ i, i < 32 → bt 32767 i = decide (i < 15)) i h
  · rw [b_big h, decide_eq_false (by omega)]
theorem dv_u (s : Int32) : (s.toUInt32 >>> (((16 : Int32)).toUInt32 &&& Int32.toUInt32 31)).toInt32 &&& 32767 = nI (dv s) := by
  rw [← (dv_e s).2]
  apply b_ext
  intro i hi
  rw [b_and, b_and, b_32767]
  by_cases e : i < 15
  · rw [show bt ((s.toUInt32 >>> (((16 : Int32)).toUInt32 &&& Int32.toUInt32 31)).toInt32) i = bt s (16 + i) from b_ushr 16 (by omega) s i, show bt (s >>> ((16 : Int32) &&& 31)) i = _ from b_sshr 16 (by omega) s hi, if_pos (by omega)]
  · rw [decide_eq_false e, Bool.and_false, Bool.and_false]
theorem c_draw {Fu : Nat} {I : mIT} {n : Nat} (h0 : 0 < n) (hn : n < 1000) : f_X10_draw Fu I (nI n) = some (nI (dv (dS (I 72 1)) % n), mU I 72 1 (dS (I 72 1))) := by
  unfold f_X10_draw
  rw [if_neg (by rw [q_le0 (by omega)]; omega), q_G (by rw [bne_iff_ne]; exact nI_ne0 h0 (by omega))]
  have := (dv_e (dS (I 72 1))).1
  rw [show I 72 1 * 1103515245 + 12345 = dS (I 72 1) from rfl, q_U, dv_u, pk_rem (by omega) h0 (by omega)]
theorem m_draw {Fu : Nat} {I : mIT} {n : Nat} (h0 : 0 < n) (hn : n < 1000) : f_X12_draw Fu I (nI n) = some (nI (dv (dS (I 75 59)) % n), mU I 75 59 (dS (I 75 59))) := by
  unfold f_X12_draw
  rw [q_G (by rw [bne_iff_ne]; exact nI_ne0 h0 (by omega))]
  have := (dv_e (dS (I 75 59))).1
  rw [show I 75 59 * 1103515245 + 12345 = dS (I 75 59) from rfl, q_U, (dv_e _).2, pk_rem (by omega) h0 (by omega)]
def upS (row : Nat → Int32) (r : Nat) : Nat → Int32 := fun j => if j = 21 + r then (if (99 : Int32) < row (21 + r) + 9 then 99 else row (21 + r) + 9) else row j
theorem upS_ok {A : aPl} {D r : Nat} {row : Nat → Int32} (ho : okPl A) (h : okR A D row) (hr : r < pR A) : okR A D (upS row r) := by
  have h10 := ho.1
  have e1 : ∀ j, j ≠ 21 + r → upS row r j = row j := fun j hj => if_neg hj
  have e2 : upS row r (21 + r) = (if (99 : Int32) < row (21 + r) + 9 then 99 else row (21 + r) + 9) := if_pos rfl
  obtain ⟨⟨d, h1, h2⟩, h3, h4⟩ := h
  refine ⟨⟨d, by rw [e1 0 (by omega)]; exact h1, h2⟩, fun q hq => ?_, fun q s hq hs hn h0 => ?_⟩
  · obtain ⟨s, hh, f, g1, g2, g3, g4, g5, g6, g7, g8⟩ := h3 q hq
    by_cases n : q = r
    · subst n
      have e3 : ∃ f', f' ≤ 99 ∧ upS row q (21 + q) = nI f' := by
        rw [e2, g3, a_9]
        simp (disch := omega) only [gt_99]
        by_cases e : 99 < f + 9
        · exact ⟨99, by omega, by rw [if_pos e]; rfl⟩
        · exact ⟨f + 9, by omega, by rw [if_neg e]⟩
      obtain ⟨f', e4, e5⟩ := e3
      exact ⟨s, hh, f', by rw [e1 _ (by omega)]; exact g1, by rw [e1 _ (by omega)]; exact g2, e5, g4, g5, g6, e4, by rw [e1 _ (by omega)]; exact g8⟩
    · exact ⟨s, hh, f, by rw [e1 _ (by omega)]; exact g1, by rw [e1 _ (by omega)]; exact g2, by rw [e1 _ (by omega)]; exact g3, g4, g5, g6, g7, by rw [e1 _ (by omega)]; exact g8⟩
  · rw [e1 (31 + q) (by omega)] at h0 ⊢
    rw [e1 (31 + s) (by omega)]
    exact h4 q s hq hs hn h0
/-- what comes ahead of a day: the row, the seed -/
def wE (A : aPl) (row : Nat → Int32) (s : Int32) : (Nat → Int32) × Int32 :=
  if pR A = 0 ∨ 1 < dv (dS s) % 8 then (row, dS s) else
  (if dv (dS s) % 8 = 0 then (if row (31 + dv (dS (dS s)) % pR A) = -1 then upE row (dv (dS (dS s)) % pR A) else row) else (if row (31 + dv (dS (dS s)) % pR A) < 0 then row else upS row (dv (dS (dS s)) % pR A)), dS (dS s))
def wD (A : aPl) (p : (Nat → Int32) × Int32) : (Nat → Int32) × Int32 := (sDay A (nI (dv (dS (wE A p.1 p.2).2) % 10)) (wE A p.1 p.2).1, dS (wE A p.1 p.2).2)
def wN (A : aPl) (row : Nat → Int32) (s : Int32) : Nat → (Nat → Int32) × Int32
  | 0 => (row, s)
  | n + 1 => wD A (wN A row s n)
theorem wE_ok {A : aPl} {D : Nat} {row : Nat → Int32} {s : Int32} (ho : okPl A) (h : okR A D row) : okR A D (wE A row s).1 := by
  unfold wE
  by_cases e : pR A = 0 ∨ 1 < dv (dS s) % 8
  · rw [if_pos e]; exact h
  · rw [if_neg e]
    have hr : dv (dS (dS s)) % pR A < pR A := Nat.mod_lt _ (by omega)
    dsimp only
    by_cases e2 : dv (dS s) % 8 = 0
    · rw [if_pos e2]
      by_cases e3 : row (31 + dv (dS (dS s)) % pR A) = -1
      · rw [if_pos e3]; exact upE_ok ho h hr
      · rw [if_neg e3]; exact h
    · rw [if_neg e2]
      by_cases e3 : row (31 + dv (dS (dS s)) % pR A) < 0
      · rw [if_pos e3]; exact h
      · rw [if_neg e3]; exact upS_ok ho h hr
theorem w10 (x : Nat) : ∃ k, k ≤ 9 ∧ nI (x % 10) = nI k := ⟨x % 10, by omega, rfl⟩
theorem wN_ok {A : aPl} {D : Nat} {row : Nat → Int32} {s : Int32} (ho : okPl A) (h : okR A D row) : ∀ n, okR A (D + n) (wN A row s n).1
  | 0 => h
  | n + 1 => okR_day ho (wE_ok ho (wN_ok ho h n)) (w10 _)
theorem rI_up {A : aPl} {I : mIT} {c b i : Nat} {row row' : Nat → Int32} {v : Int32} (h : rI A I c b row) (h1 : row' i = v) (h2 : ∀ j, j ≠ i → row' j = row j) : rI A (mU I c (b + i) v) c b row' := fun j hj => by
  by_cases e : j = i
  · subst e; rw [q_U, h1]
  · rw [q_Uj (by omega), h2 j e]; exact h j hj
theorem c_drawnDay {Fu : Nat} {I : mIT} {p D : Nat} {A : aPl} {row : Nat → Int32} (hF : 701 < Fu) (hp : p = 3 ∨ p = 22) (h : cPl I p A) (ho : okPl A) (hr : rI A I 74 0 row) (hk : okR A D row) : wp (f_X10_passDrawnDay Fu I p) (fun J => rI A J 74 0 (wD A (row, I 72 1)).1 ∧ J 72 1 = (wD A (row, I 72 1)).2 ∧ ∀ c, c ≠ 72 → c ≠ 74 → c ≠ p + 14 → c ≠ p + 15 → J c = I c) := by
  have h10 := ho.1
  have q7 : 72 ≠ p + 14 ∧ 72 ≠ p + 15 ∧ 74 ≠ p + 14 ∧ 74 ≠ p + 15 := by rcases hp with rfl | rfl <;> decide
  have fin : ∀ J : mIT, rI A J 74 0 (wE A row (I 72 1)).1 → J 72 1 = (wE A row (I 72 1)).2 → (∀ c, c ≠ 72 → c ≠ 74 → J c = I c) → wp (oB (f_X10_draw Fu J (10 : Int32)) (fun r89 => oB (f_X9_passDay Fu r89.2 73 p r89.1) (fun r92 => some (r92)))) (fun J => rI A J 74 0 (wD A (row, I 72 1)).1 ∧ J 72 1 = (wD A (row, I 72 1)).2 ∧ ∀ c, c ≠ 72 → c ≠ 74 → c ≠ p + 14 → c ≠ p + 15 → J c = I c) := by
    intro J h1 h2 h3
    refine wp_Be (c_draw (n := 10) (by omega) (by omega)) ?_
    dsimp only
    have hJp : cPl (mU J 72 1 (dS (J 72 1))) p A := cPl_fr h (fun c c1 c2 _ _ _ _ => by rw [mU_other (by rcases hp with rfl | rfl <;> omega)]; exact h3 c (by rcases hp with rfl | rfl <;> omega) (by rcases hp with rfl | rfl <;> omega))
    refine wp_B (c_pass (k := 73) (row := (wE A row (I 72 1)).1) hF hJp ho (fun j hj => by rw [mU_other (by decide)]; exact h1 j hj) (by rcases hp with rfl | rfl <;> omega)) ?_
    rintro K ⟨u1, u2⟩
    refine wp_s ⟨?_, ?_, fun c c1 c2 c3 c4 => ?_⟩
    · unfold wD
      dsimp only
      rw [← h2]
      exact u1
    · rw [u2 72 (by decide) q7.1 q7.2.1, q_U, h2]; rfl
    · rw [u2 c c2 c3 c4, mU_other c1]; exact h3 c c1 c2
  unfold f_X10_passDrawnDay
  refine wp_Be (c_draw (n := 8) (by omega) (by omega)) ?_
  dsimp only
  have hp3 : (mU I 72 1 (dS (I 72 1))) p 3 = nI (pR A) := by rw [mU_other (by rcases hp with rfl | rfl <;> decide)]; exact h.1
  have hm8 : dv (dS (I 72 1)) % 8 < 8 := Nat.mod_lt _ (by omega)
  refine wp_i (by rw [hp3, q_le0 (by omega)]) (fun e => ?_) (fun e => ?_)
  · have ew : wE A row (I 72 1) = (row, dS (I 72 1)) := by unfold wE; rw [if_pos (Or.inl e)]
    exact fin _ (by rw [ew]; exact fun j hj => by rw [mU_other (by decide)]; exact hr j hj) (by rw [ew, q_U]) (fun c c1 _ => mU_other c1)
  · refine wp_i (gt_1 (by omega)) (fun e2 => ?_) (fun e2 => ?_)
    · have ew : wE A row (I 72 1) = (row, dS (I 72 1)) := by unfold wE; rw [if_pos (Or.inr e2)]
      exact fin _ (by rw [ew]; exact fun j hj => by rw [mU_other (by decide)]; exact hr j hj) (by rw [ew, q_U]) (fun c c1 _ => mU_other c1)
    · have hq : dv (dS (dS (I 72 1))) % pR A < pR A := Nat.mod_lt _ (by omega)
      rw [hp3]
      refine wp_Be (c_draw (n := pR A) (by omega) (by omega)) ?_
      dsimp only
      rw [q_U, mU_mU]
      generalize hrr : dv (dS (dS (I 72 1))) % pR A = r at hq
      generalize hs2 : dS (dS (I 72 1)) = s2 at hrr
      have hJr : rI A (mU I 72 1 s2) 74 0 row := fun j hj => by rw [mU_other (by decide)]; exact hr j hj
      have ew : wE A row (I 72 1) = ((if dv (dS (I 72 1)) % 8 = 0 then (if row (31 + r) = -1 then upE row r else row) else (if row (31 + r) < 0 then row else upS row r)), s2) := by unfold wE; rw [if_neg (by omega), hs2, hrr]
      refine wp_Be (c_place (by omega)) ?_
      rw [show (mU I 72 1 s2) (73 + 1) (31 + r) = row (31 + r) from r0 hJr (lv_31 hq)]
      have f61 : ∀ J : mIT, J = mU I 72 1 s2 → (dv (dS (I 72 1)) % 8 = 0 → row (31 + r) ≠ -1) → wp (b_X10_passDrawnDay_61 Fu p (nI (dv (dS (I 72 1)) % 8)) (nI r) (row (31 + r)) J) (fun J => rI A J 74 0 (wD A (row, I 72 1)).1 ∧ J 72 1 = (wD A (row, I 72 1)).2 ∧ ∀ c, c ≠ 72 → c ≠ 74 → c ≠ p + 14 → c ≠ p + 15 → J c = I c) := by
        rintro J rfl hne
        unfold b_X10_passDrawnDay_61
        refine wp_i (eq_1 (by omega)) (fun e3 => ?_) (fun e3 => ?_)
        · rw [if_neg (by omega)] at ew
          refine wp_f (fun e4 => ?_) (fun e4 => ?_)
          · rw [if_pos e4] at ew
            exact fin _ (by rw [ew]; exact hJr) (by rw [ew, q_U]) (fun c c1 _ => mU_other c1)
          · rw [if_neg e4] at ew
            refine wp_Be (c_soften (by omega)) ?_
            rw [show (mU I 72 1 s2) (73 + 1) (21 + r) = row (21 + r) from r0 hJr (lv_21 hq)]
            refine fin _ ?_ ?_ (fun c c1 c2 => by rw [mU_other c2, mU_other c1])
            · rw [ew]
              have := rI_up (i := 21 + r) (row' := upS row r) hJr (if_pos rfl) (fun j hj => if_neg hj)
              rwa [Nat.zero_add] at this
            · rw [ew, mU_other (by decide), q_U]
        · rw [if_pos (by omega), if_neg (hne (by omega))] at ew
          exact fin _ (by rw [ew]; exact hJr) (by rw [ew, q_U]) (fun c c1 _ => mU_other c1)
      refine wp_i (q_eq0 (by omega)) (fun e3 => ?_) (fun e3 => f61 _ rfl (fun e4 => absurd e4 e3))
      refine wp_f (fun e4 => ?_) (fun e4 => f61 _ rfl (fun _ => e4))
      rw [if_pos e3, if_pos e4] at ew
      refine wp_Be (c_setPlace (by omega)) ?_
      refine fin _ ?_ ?_ (fun c c1 c2 => by rw [mU_other c2, mU_other c1])
      · rw [ew]
        have := rI_up (i := 31 + r) (row' := upE row r) hJr (if_pos rfl) (fun j hj => if_neg hj)
        rwa [Nat.zero_add] at this
      · rw [ew, mU_other (by decide), q_U]
def sSz (A : aPl) (row : Nat → Int32) : Nat → Int32
  | 0 => 0
  | n + 1 => sSz A row n + (if sWh A row (-1) n then row (1 + n) else 0)
def sTw (A : aPl) (row : Nat → Int32) (w : Nat) : Int32 := if w = 0 then nI (fb_ct (sSd A row) (pR A)) else if w = 1 then nI (fb_ct (sWh A row (-2)) (pR A)) else sSz A row (pR A)
theorem c_wSnd {Fu : Nat} {I : mIT} {p : Nat} {A : aPl} {row : Nat → Int32} (hF : 701 < Fu) (h : cPl I p A) (ho : okPl A) (hr : rI A I 74 0 row) : f_X10_sounding Fu I p = some (nI (fb_ct (sSd A row) (pR A))) := by
  have h10 := ho.1
  unfold f_X10_sounding w_X10_sounding_4
  refine q_for (fun i => (nI (fb_ct (sSd A row) i), nI i)) (pR A) _ ?_ ?_ Fu (by omega)
  · intro i hi self
    show b_X10_sounding_4 Fu I p self _ (nI i) = _
    unfold b_X10_sounding_4
    rw [h.1, if_neg (by rw [q_le (by omega) (by omega)]; omega), c_place (by omega), q_B, show I (73 + 1) (31 + i) = row (31 + i) from r0 hr (lv_31 hi), q_1, fb_ct_succ]
    have e : sSd A row i = (decide (0 ≤ row (31 + i)) && decide (row (21 + i) < pL A)) := by unfold sSd; rw [decide_eq_true hi, Bool.true_and]
    by_cases e1 : row (31 + i) < 0
    · rw [if_pos e1, e, decide_eq_false (Int32.not_le.mpr e1), Bool.false_and, if_neg (by simp), q_p0]; rfl
    · rw [if_neg e1, c_soft (by omega), q_B, show I (73 + 1) (21 + i) = row (21 + i) from r0 hr (lv_21 hi), h.2.2.1, e, decide_eq_true (Int32.not_lt.mp e1), Bool.true_and]
      by_cases e2 : pL A ≤ row (21 + i)
      · rw [if_pos e2, decide_eq_false (Int32.not_lt.mpr e2), if_neg (by simp), q_p0]; rfl
      · rw [if_neg e2, decide_eq_true (Int32.not_le.mp e2), if_pos rfl, q_1]
  · intro self
    show b_X10_sounding_4 Fu I p self _ (nI (pR A)) = _
    unfold b_X10_sounding_4
    rw [h.1, if_pos (by rw [q_le (by omega) (by omega)]; omega)]
theorem c_wGone {Fu : Nat} {I : mIT} {p : Nat} {A : aPl} {row : Nat → Int32} (hF : 701 < Fu) (h : cPl I p A) (ho : okPl A) (hr : rI A I 74 0 row) : f_X10_gone Fu I p = some (nI (fb_ct (sWh A row (-2)) (pR A))) := by
  have h10 := ho.1
  unfold f_X10_gone w_X10_gone_4
  refine q_for (fun i => (nI (fb_ct (sWh A row (-2)) i), nI i)) (pR A) _ ?_ ?_ Fu (by omega)
  · intro i hi self
    show b_X10_gone_4 Fu I p self _ (nI i) = _
    unfold b_X10_gone_4
    rw [h.1, if_neg (by rw [q_le (by omega) (by omega)]; omega), c_place (by omega), q_B, show I (73 + 1) (31 + i) = row (31 + i) from r0 hr (lv_31 hi), q_1, fb_ct_succ]
    have e : sWh A row (-2) i = decide (row (31 + i) = -2) := by unfold sWh; rw [decide_eq_true hi, Bool.true_and]
    by_cases e1 : row (31 + i) = -2
    · rw [if_pos e1, e, decide_eq_true e1, if_pos rfl, q_1]
    · rw [if_neg e1, e, decide_eq_false e1, if_neg (by simp), q_p0, q_1]; rfl
  · intro self
    show b_X10_gone_4 Fu I p self _ (nI (pR A)) = _
    unfold b_X10_gone_4
    rw [h.1, if_pos (by rw [q_le (by omega) (by omega)]; omega)]
theorem c_wSize {Fu : Nat} {I : mIT} {p : Nat} {A : aPl} {row : Nat → Int32} (hF : 701 < Fu) (h : cPl I p A) (ho : okPl A) (hr : rI A I 74 0 row) : f_X10_sizeInGarden Fu I p = some (sSz A row (pR A)) := by
  have h10 := ho.1
  unfold f_X10_sizeInGarden w_X10_sizeInGarden_4
  refine q_for (fun i => (sSz A row i, nI i)) (pR A) _ ?_ ?_ Fu (by omega)
  · intro i hi self
    show b_X10_sizeInGarden_4 Fu I p self _ (nI i) = _
    unfold b_X10_sizeInGarden_4
    rw [h.1, if_neg (by rw [q_le (by omega) (by omega)]; omega), c_place (by omega), q_B, show I (73 + 1) (31 + i) = row (31 + i) from r0 hr (lv_31 hi), q_1, sSz]
    have e : sWh A row (-1) i = decide (row (31 + i) = -1) := by unfold sWh; rw [decide_eq_true hi, Bool.true_and]
    by_cases e1 : row (31 + i) = -1
    · rw [if_pos e1, e, decide_eq_true e1, if_pos rfl, c_size (by omega), q_B, show I (73 + 1) (1 + i) = row (1 + i) from r0 hr (lv_1 hi)]
    · rw [if_neg e1, e, decide_eq_false e1, if_neg (by simp)]
  · intro self
    show b_X10_sizeInGarden_4 Fu I p self _ (nI (pR A)) = _
    unfold b_X10_sizeInGarden_4
    rw [h.1, if_pos (by rw [q_le (by omega) (by omega)]; omega)]
theorem c_towers {Fu : Nat} {I : mIT} {R : mRT} {p n m w : Nat} {A : aPl} {row : Nat → Int32} {s : Int32} (hF : 701 < Fu) (ho : okPl A) (hk : okR A 999 row) (h : cQ I R p A row n) (hm : m < 61) (hw : w < 3) : wp (f_X11_towers Fu R I s (nI m) (nI w)) (cX I R p A row (sTw A (wN A row s m).1 w)) := by
  have hp := h.2.1
  unfold f_X11_towers
  refine wp_n (by rw [q_lt0 (by omega)]; simp) (wp_p (by rw [le_2 (by omega)]; omega) (wp_X (c_far1 hm) ?_))
  unfold f_X10_begin
  rw [c_copy9, q_B, q_B]
  unfold w_X11_towers_40
  refine wp_loop (fun dd (st : Int32 × Int32 × Int32 × mIT) => ∃ (i : Nat) (J : mIT), st = (nI m, nI w, nI i, J) ∧ dd = m - i ∧ i ≤ m ∧ rI A J 74 0 (wN A row s i).1 ∧ J 72 1 = (wN A row s i).2 ∧ ∀ c, c ≠ 72 → c ≠ 74 → c ≠ p + 14 → c ≠ p + 15 → J c = I c) _ ?_ Fu m _ ⟨0, _, rfl, rfl, by omega, fun j hj => ?_, by rw [q_U]; rfl, fun c c1 c2 _ _ => by rw [mU_other c1]; exact mCp_o c2⟩ (by omega)
  · rintro dd st self ⟨i, J, rfl, hdd, hi, f1, f2, f3⟩ hself
    have hcs : cS I J := fun c hc => by
      refine f3 c (fun e => by subst e; exact nomatch hc) (fun e => by subst e; exact nomatch hc) ?_ ?_
      · rcases hp with rfl | rfl <;> (intro e; subst e; exact nomatch hc)
      · rcases hp with rfl | rfl <;> (intro e; subst e; exact nomatch hc)
    have hJ : cQ J R p A row n := cQ_s h hcs (fun c c1 c2 => f3 c (by omega) (by omega) (by rcases hp with rfl | rfl <;> omega) (by rcases hp with rfl | rfl <;> omega))
    show wp (b_X11_towers_40 Fu R self (nI m) (nI w) (nI i) J) _
    unfold b_X11_towers_40
    refine wp_i (q_le (by omega) (by omega)) (fun hle => ?_) (fun hlt => ?_)
    · have hie : i = m := by omega
      subst hie
      unfold sTw
      refine wp_i (q_eq0 (by omega)) (fun e => ?_) (fun e => ?_)
      · rw [if_pos e]
        exact wp_Be h.1 (wp_Be (c_wSnd hF hJ.2.2.1 ho f1) (wp_s ⟨_, rfl, rfl, hcs, n, hJ⟩))
      · rw [if_neg e]
        refine wp_i (eq_1 (by omega)) (fun e => ?_) (fun e => ?_)
        · rw [if_pos e]
          exact wp_Be h.1 (wp_Be (c_wGone hF hJ.2.2.1 ho f1) (wp_s ⟨_, rfl, rfl, hcs, n, hJ⟩))
        · rw [if_neg e]
          exact wp_Be h.1 (wp_Be (c_wSize hF hJ.2.2.1 ho f1) (wp_s ⟨_, rfl, rfl, hcs, n, hJ⟩))
    · refine wp_Be h.1 ?_
      refine wp_B (c_drawnDay hF hp hJ.2.2.1 ho f1 (wN_ok ho hk i)) ?_
      rintro K ⟨u1, u2, u3⟩
      rw [f2] at u1 u2
      exact hself (m - (i + 1)) _ (by omega) ⟨i + 1, K, by rw [q_1], rfl, by omega, u1, u2, fun c c1 c2 c3 c4 => by rw [u3 c c1 c2 c3 c4]; exact f3 c c1 c2 c3 c4⟩
  · have h53 := live_53 ho hj
    rw [Nat.zero_add, mU_other (by decide), mCp_i (by omega) (by omega), Nat.zero_add, Nat.sub_zero]
    exact r0 h.2.2.2.1 hj
