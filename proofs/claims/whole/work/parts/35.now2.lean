theorem sNt_b0 {A : aPl} {D r : Nat} {row : Nat → Int32} (hk : okR A D row) (hr : r < pR A) : ∃ g, g ≤ 15 ∧ sNt A row r 0 = nI g := by
  obtain ⟨s, hh, f, g1, g2, g3, g4, g5, g6, g7, g8⟩ := hk.2.1 r hr
  unfold sNt sNo
  by_cases e : pNo A = []
  · rw [if_pos e, g1, g2, Int32.sub_zero, pk_sub (by omega), k_2, pk_div (by omega) (by omega) (by omega)]
    exact (by decide +kernel : ∀ k, k < 31 → ∃ g, g ≤ 15 ∧ (if (0 : Int32) < 15 - nI k then 15 - nI k else 0) = nI g) ((s - hh) / 2) (by omega)
  · rw [if_neg e]
    exact sCl_b (m := 15) (by omega)
theorem sNt_b {A : aPl} {D r k : Nat} {row : Nat → Int32} (ho : okPl A) (hk : okR A D row) (hr : r < pR A) (hg : row (31 + r) ≠ -2) (h : k ≤ sMy row r) : ∃ g, g ≤ 15 ∧ sNt A row r (nI k) = nI g := by
  rw [← upH_nt]
  exact sNt_b0 (upH_ok ho hk hr hg h) hr
theorem m_notesOf {Fu : Nat} {I : mIT} {D : Nat} {A : aPl} {row : Nat → Int32} {p : Nat → Bool} (hF : 701 < Fu) (ho : okPl A) (h : mQ I A row) (hk : okR A D row) (hD : D < 2000) (hp : ∀ r, pR A ≤ r → p r = false) : wp (f_X12_notesOf Fu I (mkB p 10)) (fun y => y.1 = sNB A row p ∧ ∀ c, c ≠ 91 → c ≠ 92 → y.2 c = I c) := by
  have h10 := ho.1
  rw [← sNB_n h10 hp]
  unfold f_X12_notesOf w_X12_notesOf_4
  refine wp_loop (fun dd (s : Int32 × Int32 × Int32 × mIT) => ∃ (i : Nat) (J : mIT), s = (mkB p 10, orF (fun r => if p r then (1 : Int32) <<< (sNt A row r 0 &&& 31) else 0) i, nI i, J) ∧ dd = pR A - i ∧ i ≤ pR A ∧ ∀ c, c ≠ 91 → c ≠ 92 → J c = I c) _ ?_ Fu (pR A) _ ⟨0, I, rfl, rfl, by omega, fun _ _ _ => rfl⟩ (by omega)
  rintro dd s self ⟨i, J, rfl, hdd, hi, f1⟩ hself
  have hJ := mQ_s ho h (mS_n f1)
  show wp (b_X12_notesOf_4 Fu self _ _ (nI i) J) _
  unfold b_X12_notesOf_4
  refine wp_i (by rw [hJ.1.1, q_le (by omega) (by omega)]) (fun hle => ?_) (fun hlt => ?_)
  · have hie : i = pR A := by omega
    subst hie
    exact wp_s ⟨rfl, f1⟩
  · refine wp_i (b_at1 (by omega) _) (fun e => ?_) (fun e => ?_)
    · rw [b_mkB (by omega) (by omega), decide_eq_true (by omega : i < 10), Bool.true_and] at e
      refine wp_B (m_noteOf (b := 0) hF hJ.1 ho hJ.2.2 (by omega) hJ.2.1 hk hD (by omega)) ?_
      rintro ⟨v, J'⟩ ⟨e1, e2⟩
      dsimp only at e1 e2 ⊢
      refine hself (pR A - (i + 1)) _ (by omega) ⟨i + 1, J', ?_, rfl, by omega, fun c c1 c2 => by rw [e2 c c1 c2]; exact f1 c c1 c2⟩
      rw [orF, if_pos e, e1, q_1]
    · rw [b_mkB (by omega) (by omega), decide_eq_true (by omega : i < 10), Bool.true_and] at e
      refine hself (pR A - (i + 1)) _ (by omega) ⟨i + 1, J, ?_, rfl, by omega, f1⟩
      rw [orF, if_neg e, q_1]
/-! spare -/
def sSp (A : aPl) (row : Nat → Int32) (r : Nat) : Bool := sSd A row r && sTu A (sNB A row (fun q => sSd A row q && !(decide (q = r))))
theorem and_b1 {p : Nat → Bool} {r : Nat} (hr : r < 10) : (mkB p 10 &&& b1 r = 0) = (p r = false) := by
  apply propext
  constructor
  · intro e
    have e2 : bt (mkB p 10 &&& b1 r) r = false := by rw [e]; exact b_0 r
    rw [b_and, b_mkB (by omega) (by omega), b_b1 (by omega) (by omega), decide_eq_true rfl, decide_eq_true hr, Bool.true_and, Bool.and_true] at e2
    exact e2
  · intro e
    apply b_ext
    intro i hi
    rw [b_0, b_and, b_mkB (by omega) hi, b_b1 (by omega) hi]
    by_cases e2 : i = r
    · subst e2; rw [e]; simp
    · rw [decide_eq_false e2, Bool.and_false]
theorem c_spare {Fu : Nat} {I : mIT} {R : mRT} {p n : Nat} {A : aPl} {row : Nat → Int32} (hF : 701 < Fu) (ho : okPl A) (hk : okR A 999 row) (h : cQ I R p A row n) : wp (f_X11_spare Fu R I) (cA I R p A row (mkB (sSp A row) (pR A))) := by
  have h10 := ho.1
  unfold f_X11_spare
  refine wp_B (c_now hF ho hk h) ?_
  rintro ⟨v, J⟩ ⟨e1, e2, n', e3, e4⟩
  dsimp only at e1 e2 e4 ⊢
  subst e1
  unfold w_X11_spare_9
  refine wp_loop (fun dd (s : Int32 × Int32 × Int32 × mIT) => ∃ (i : Nat), s = (mkB (sSd A row) 10, mkB (sSp A row) i, nI i, J) ∧ dd = pR A - i ∧ i ≤ pR A) _ ?_ Fu (pR A) _ ⟨0, rfl, rfl, by omega⟩ (by omega)
  rintro dd s self ⟨i, rfl, hdd, hi⟩ hself
  show wp (b_X11_spare_9 Fu R self _ _ (nI i) J) _
  unfold b_X11_spare_9
  refine wp_Be h.1 ?_
  refine wp_i (by rw [e4.2.2.1.1, q_le (by omega) (by omega)]) (fun hle => ?_) (fun hlt => ?_)
  · have hie : i = pR A := by omega
    subst hie
    exact wp_s ⟨rfl, e2, n', e4⟩
  · simp only [b1_d, q_1]
    have no : sSp A row i = false → wp (self (mkB (sSd A row) 10, mkB (sSp A row) i, nI (i + 1), J)) (cA I R p A row (mkB (sSp A row) (pR A))) := fun e => hself (pR A - (i + 1)) _ (by omega) ⟨i + 1, by rw [mkB_s (sSp A row) i, e, if_neg (by simp), or_z], rfl, by omega⟩
    refine wp_i (and_b1 (by omega)) (fun e => no ?_) (fun e => ?_)
    · unfold sSp; rw [e, Bool.false_and]
    · have e5 : sSd A row i = true := by simpa using e
      refine wp_Be h.1 ?_
      rw [mkB_out (by omega) (by omega)]
      refine wp_Be (c_bits (k := 0) hF h10 e4.2.2.2.2.2.2.2 e3 e4.2.2.2.2.2.1 (fun q hq => by rw [sSd_o q hq]; rfl)) ?_
      refine wp_Be (c_isTune e4.2.2.1 ho) ?_
      by_cases e6 : sTu A (sNB A row (fun q => sSd A row q && !(decide (q = i)))) = true
      · rw [if_pos (show sTu A (sNB A (sDs A row 0) (fun q => sSd A row q && !(decide (q = i)))) = true from e6)]
        refine wp_n (by decide) ?_
        exact hself (pR A - (i + 1)) _ (by omega) ⟨i + 1, by rw [mkB_s (sSp A row) i, show sSp A row i = true by unfold sSp; rw [e5, e6]; rfl, if_pos rfl], rfl, by omega⟩
      · rw [if_neg (show ¬ sTu A (sNB A (sDs A row 0) (fun q => sSd A row q && !(decide (q = i)))) = true from e6)]
        refine wp_p rfl (no ?_)
        unfold sSp
        rw [e5, Bool.true_and]
        exact Bool.eq_false_iff.mpr e6
theorem m_spare {Fu : Nat} {I : mIT} {A : aPl} {row : Nat → Int32} (hF : 701 < Fu) (ho : okPl A) (hk : okR A 999 row) (h : mQ I A row) : wp (f_X12_spare Fu I) (fun y => y.1 = mkB (sSp A row) (pR A) ∧ mS (mU I 75 0 0) y.2) := by
  have h0 := mQ_0 (v := 0) h
  have h10 := ho.1
  unfold f_X12_spare
  refine wp_Be (m_soundingIn (b := 0) hF h0.1 ho (by omega) h0.2.1) ?_
  unfold w_X12_spare_15
  refine wp_loop (fun dd (s : Int32 × Int32 × Int32 × mIT) => ∃ (i : Nat) (J : mIT), s = (mkB (sSd A row) 10, mkB (sSp A row) i, nI i, J) ∧ dd = pR A - i ∧ i ≤ pR A ∧ mS (mU I 75 0 0) J) _ ?_ Fu (pR A) _ ⟨0, _, rfl, rfl, by omega, mS_r _⟩ (by omega)
  rintro dd s self ⟨i, J, rfl, hdd, hi, f1⟩ hself
  have hJ := mQ_s ho h0 f1
  show wp (b_X12_spare_15 Fu self _ _ (nI i) J) _
  unfold b_X12_spare_15
  refine wp_i (by rw [hJ.1.1, q_le (by omega) (by omega)]) (fun hle => ?_) (fun hlt => ?_)
  · have hie : i = pR A := by omega
    subst hie
    exact wp_s ⟨rfl, f1⟩
  · simp only [b1_d, q_1]
    have no : ∀ K, mS (mU I 75 0 0) K → sSp A row i = false → wp (self (mkB (sSd A row) 10, mkB (sSp A row) i ||| 0, nI (i + 1), K)) (fun y => y.1 = mkB (sSp A row) (pR A) ∧ mS (mU I 75 0 0) y.2) := fun K hK e => hself (pR A - (i + 1)) _ (by omega) ⟨i + 1, K, by rw [mkB_s (sSp A row) i, e, if_neg (by simp)], rfl, by omega, hK⟩
    refine wp_i (b_at1 (by omega) _) (fun e => ?_) (fun e => no J f1 ?_)
    · rw [b_mkB (by omega) (by omega), decide_eq_true (by omega : i < 10), Bool.true_and] at e
      rw [mkB_out (by omega) (by omega)]
      refine wp_B (m_notesOf hF ho hJ hk (by omega) (fun q hq => by rw [sSd_o q hq]; rfl)) ?_
      rintro ⟨v, K⟩ ⟨u1, u2⟩
      dsimp only at u1 u2 ⊢
      subst u1
      have hK := mS_t f1 (mS_n u2)
      refine wp_Be (m_hasTune hF (mQ_s ho h0 hK).1 ho) ?_
      by_cases e6 : sTu A (sNB A row (fun q => sSd A row q && !(decide (q = i)))) = true
      · rw [if_pos e6]
        refine wp_n (by decide) ?_
        exact hself (pR A - (i + 1)) _ (by omega) ⟨i + 1, K, by rw [mkB_s (sSp A row) i, show sSp A row i = true by unfold sSp; rw [e, e6]; rfl, if_pos rfl], rfl, by omega, hK⟩
      · rw [if_neg e6]
        refine wp_p rfl (no K hK ?_)
        unfold sSp
        rw [e, Bool.true_and]
        exact Bool.eq_false_iff.mpr e6
    · rw [b_mkB (by omega) (by omega), decide_eq_true (by omega : i < 10), Bool.true_and] at e
      unfold sSp
      rw [Bool.eq_false_iff.mpr e, Bool.false_and]
/-! tenor and treble -/
def sMo (A : aPl) (row : Nat → Int32) (w : Nat) : Nat → Nat
  | 0 => 10
  | n + 1 => if sSd A row n && (decide (sMo A row w n = 10) || (if w = 0 then decide (sNt A row n 0 < sNt A row (sMo A row w n) 0) else decide (sNt A row (sMo A row w n) 0 < sNt A row n 0))) then n else sMo A row w n
theorem sMo_s {A : aPl} {row : Nat → Int32} {w n : Nat} : sMo A row w (n + 1) = if sSd A row n && (decide (sMo A row w n = 10) || (if w = 0 then decide (sNt A row n 0 < sNt A row (sMo A row w n) 0) else decide (sNt A row (sMo A row w n) 0 < sNt A row n 0))) then n else sMo A row w n := rfl
theorem sMo_lt {A : aPl} {row : Nat → Int32} {w : Nat} : ∀ n, sMo A row w n = 10 ∨ (sMo A row w n < n)
  | 0 => Or.inl rfl
  | n + 1 => by
    have ih := sMo_lt (A := A) (row := row) (w := w) n
    by_cases h : (sSd A row n && (decide (sMo A row w n = 10) || (if w = 0 then decide (sNt A row n 0 < sNt A row (sMo A row w n) 0) else decide (sNt A row (sMo A row w n) 0 < sNt A row n 0)))) = true
    · rw [sMo_s, if_pos h]
      right; omega
    · rw [sMo_s, if_neg h]
      omega
theorem c_mouth {Fu : Nat} {I : mIT} {R : mRT} {p n w : Nat} {A : aPl} {row : Nat → Int32} (hF : 701 < Fu) (ho : okPl A) (hk : okR A 999 row) (h : cQ I R p A row n) (hw : w < 2) : wp (f_X11_mouth Fu R I (nI w)) (cX I R p A row (mnI (sMo A row w (pR A)))) := by
  have h10 := ho.1
  unfold f_X11_mouth
  refine wp_X (c_two1 hw) ?_
  refine wp_B (c_now hF ho hk h) ?_
  rintro ⟨v, J⟩ ⟨e1, e2, n', e3, e4⟩
  dsimp only at e1 e2 e4 ⊢
  subst e1
  unfold w_X11_mouth_15
  refine wp_loop (fun dd (s : Int32 × Int32 × Int32 × Int32 × mIT) => ∃ (i : Nat), s = (nI w, mkB (sSd A row) 10, mnI (sMo A row w i), nI i, J) ∧ dd = pR A - i ∧ i ≤ pR A) _ ?_ Fu (pR A) _ ⟨0, rfl, rfl, by omega⟩ (by omega)
  rintro dd s self ⟨i, rfl, hdd, hi⟩ hself
  show wp (b_X11_mouth_15 Fu R self _ _ _ (nI i) J) _
  unfold b_X11_mouth_15
  refine wp_Be h.1 ?_
  refine wp_i (by rw [e4.2.2.1.1, q_le (by omega) (by omega)]) (fun hle => ?_) (fun hlt => ?_)
  · have hie : i = pR A := by omega
    subst hie
    exact wp_s ⟨_, rfl, rfl, e2, n', e4⟩
  · rw [q_1]
    have keep : sMo A row w (i + 1) = sMo A row w i → wp (self (nI w, mkB (sSd A row) 10, mnI (sMo A row w i), nI (i + 1), J)) (cX I R p A row (mnI (sMo A row w (pR A)))) := fun e => hself (pR A - (i + 1)) _ (by omega) ⟨i + 1, by rw [e], rfl, by omega⟩
    have new : sMo A row w (i + 1) = i → wp (self (nI w, mkB (sSd A row) 10, nI i, nI (i + 1), J)) (cX I R p A row (mnI (sMo A row w (pR A)))) := fun e => hself (pR A - (i + 1)) _ (by omega) ⟨i + 1, by rw [e]; unfold mnI; rw [if_neg (by omega)], rfl, by omega⟩
    refine wp_i (b_at1 (by omega) _) (fun e => ?_) (fun e => keep ?_)
    · rw [b_mkB (by omega) (by omega), decide_eq_true (by omega : i < 10), Bool.true_and] at e
      rcases sMo_lt (A := A) (row := row) (w := w) i with e5 | e5
      · rw [e5]
        refine wp_p rfl (new ?_)
        rw [sMo, e, e5, decide_eq_true rfl, Bool.true_or, Bool.and_true, if_pos rfl]
      · have hmi : mnI (sMo A row w i) = nI (sMo A row w i) := by unfold mnI; rw [if_neg (by omega)]
        rw [hmi] at keep ⊢
        refine wp_n (by rw [q_eqm1 (by omega)]; simp) ?_
        have l0 := (e4.2.2.2.2.2.2.2 0 e3).1
        obtain ⟨a, ha, hae⟩ := sNt_b0 hk (show i < pR A by omega)
        obtain ⟨b, hb, hbe⟩ := sNt_b0 hk (show sMo A row w i < pR A by omega)
        have hs : sMo A row w (i + 1) = if (if w = 0 then decide (a < b) else decide (b < a)) = true then i else sMo A row w i := by
          rw [sMo, e, decide_eq_false (by omega : ¬ sMo A row w i = 10), Bool.true_and, Bool.false_or, hae, hbe]
          simp (disch := omega) only [q_lt]
        have hby : f_X11_isBeyond Fu J (nI i) (nI (sMo A row w i)) (nI w) = some (if (if w = 0 then decide (a < b) else decide (b < a)) = true then 1 else 0) := by
          unfold f_X11_isBeyond
          rw [show f_X1_noteOn Fu J 0 (nI i) = some (nI a) by
                have := c_noteOn (Fu := Fu) (I := J) (k := 0) (r := i) (by omega) (by omega)
                rw [l0 i (by omega)] at this
                exact this.trans (by rw [show sNt A (sDs A row 0) i 0 = nI a from hae]), q_B,
              show f_X1_noteOn Fu J 0 (nI (sMo A row w i)) = some (nI b) by
                have := c_noteOn (Fu := Fu) (I := J) (k := 0) (r := sMo A row w i) (by omega) (by omega)
                rw [l0 (sMo A row w i) (by omega)] at this
                exact this.trans (by rw [show sNt A (sDs A row 0) (sMo A row w i) 0 = nI b from hbe]), q_B]
          exact (by decide +kernel : ∀ a, a < 16 → ∀ b, b < 16 → ∀ w, w < 2 → (if nI w = 0 then (if 0 ≤ nI a - nI b then some (0 : Int32) else some 1) else (if nI a - nI b ≤ 0 then some 0 else some 1)) = some (if (if w = 0 then decide (a < b) else decide (b < a)) = true then 1 else 0)) a (by omega) b (by omega) w hw
        refine wp_Be hby ?_
        by_cases e6 : (if w = 0 then decide (a < b) else decide (b < a)) = true
        · rw [if_pos e6]
          rw [if_pos e6] at hs
          exact wp_n (by decide) (new hs)
        · rw [if_neg e6]
          rw [if_neg e6] at hs
          exact wp_p rfl (keep hs)
    · rw [b_mkB (by omega) (by omega), decide_eq_true (by omega : i < 10), Bool.true_and] at e
      rw [sMo, Bool.eq_false_iff.mpr e, Bool.false_and, if_neg (by simp)]
theorem m_mouth {Fu : Nat} {I : mIT} {w : Nat} {A : aPl} {row : Nat → Int32} (hF : 701 < Fu) (ho : okPl A) (hk : okR A 999 row) (h : mQ I A row) (hw : w < 2) : wp (f_X12_mouth Fu I (nI w)) (fun y => y.1 = mnI (sMo A row w (pR A)) ∧ mS (mU I 75 0 0) y.2) := by
  have h0 := mQ_0 (v := 0) h
  have h10 := ho.1
  unfold f_X12_mouth
  refine wp_Be (m_what1 (m := 1) (q_U0 I) hw (by omega)) (wp_n ne10 ?_)
  unfold w_X12_mouth_23
  refine wp_loop (fun dd (s : Int32 × Int32 × Int32 × Int32 × mIT) => ∃ (i : Nat) (J : mIT) (x : Int32), s = (nI w, mnI (sMo A row w i), x, nI i, J) ∧ dd = pR A - i ∧ i ≤ pR A ∧ mS (mU I 75 0 0) J ∧ (sMo A row w i ≠ 10 → x = if w = 0 then 15 - sNt A row (sMo A row w i) 0 else sNt A row (sMo A row w i) 0)) _ ?_ Fu (pR A) _ ⟨0, _, _, rfl, rfl, by omega, mS_r _, fun e => absurd rfl e⟩ (by omega)
  rintro dd s self ⟨i, J, x, rfl, hdd, hi, f1, f2⟩ hself
  have hJ := mQ_s ho h0 f1
  show wp (b_X12_mouth_23 Fu self _ _ _ (nI i) J) _
  unfold b_X12_mouth_23
  refine wp_i (by rw [hJ.1.1, q_le (by omega) (by omega)]) (fun hle => ?_) (fun hlt => ?_)
  · have hie : i = pR A := by omega
    subst hie
    exact wp_s ⟨rfl, f1⟩
  · refine wp_Be (m_sounds (b := 0) hJ.1 ho (by omega) hJ.2.1 (by omega)) ?_
    by_cases e : sSd A row i = true
    · rw [if_pos e]
      refine wp_n (by decide) ?_
      obtain ⟨a, ha, hae⟩ := sNt_b0 hk (show i < pR A by omega)
      have core : ∀ K, mS (mU I 75 0 0) K → wp (b_X12_mouth_69 Fu self (nI w) (mnI (sMo A row w i)) x (nI i) (if w = 0 then 15 - nI a else nI a) K) (fun y => y.1 = mnI (sMo A row w (pR A)) ∧ mS (mU I 75 0 0) y.2) := by
        intro K hK
        unfold b_X12_mouth_69
        have new : sMo A row w (i + 1) = i → wp (self (nI w, nI i, (if w = 0 then 15 - nI a else nI a), nI i + 1, K)) (fun y => y.1 = mnI (sMo A row w (pR A)) ∧ mS (mU I 75 0 0) y.2) := fun e7 => hself (pR A - (i + 1)) _ (by omega) ⟨i + 1, K, (if w = 0 then 15 - nI a else nI a), by rw [e7, q_1, show mnI i = nI i from if_neg (by omega)], rfl, by omega, hK, fun _ => by rw [e7, hae]⟩
        rcases sMo_lt (A := A) (row := row) (w := w) i with e5 | e5
        · refine wp_p (by rw [e5]; rfl) (new ?_)
          rw [sMo, e, e5, decide_eq_true rfl, Bool.true_or, Bool.and_true, if_pos rfl]
        · have hmi : mnI (sMo A row w i) = nI (sMo A row w i) := by unfold mnI; rw [if_neg (by omega)]
          refine wp_n (by rw [hmi, q_eqm1 (by omega)]; simp) ?_
          obtain ⟨b, hb, hbe⟩ := sNt_b0 hk (show sMo A row w i < pR A by omega)
          have hx := f2 (by omega)
          rw [hbe] at hx
          have hs : sMo A row w (i + 1) = if (if w = 0 then decide (a < b) else decide (b < a)) = true then i else sMo A row w i := by
            rw [sMo, e, decide_eq_false (by omega : ¬ sMo A row w i = 10), Bool.true_and, Bool.false_or, hae, hbe]
            simp (disch := omega) only [q_lt]
          have hc : (x < (if w = 0 then 15 - nI a else nI a)) = ((if w = 0 then decide (a < b) else decide (b < a)) = true) := by
            rw [hx]
            exact (by decide +kernel : ∀ a, a < 16 → ∀ b, b < 16 → ∀ w, w < 2 → decide ((if w = 0 then 15 - nI b else nI b) < (if w = 0 then 15 - nI a else nI a)) = (if w = 0 then decide (a < b) else decide (b < a))) a (by omega) b (by omega) w hw ▸ (by rw [decide_eq_true_eq])
          refine wp_i hc (fun e6 => new (by rw [hs, if_pos e6])) (fun e6 => ?_)
          rw [if_neg e6] at hs
          exact hself (pR A - (i + 1)) _ (by omega) ⟨i + 1, K, x, by rw [hs, q_1], rfl, by omega, hK, fun e7 => by rw [hs]; exact f2 (by omega)⟩
      have note : wp (f_X12_noteOf Fu J 0 (nI i)) (fun y => y.1 = sNt A row i 0 ∧ ∀ c, c ≠ 91 → c ≠ 92 → y.2 c = J c) := m_noteOf (b := 0) hF hJ.1 ho hJ.2.2 (by omega) hJ.2.1 hk (by omega) (by omega)
      refine wp_i (q_eq0 (by omega)) (fun e8 => ?_) (fun e8 => ?_)
      · refine wp_B note ?_
        rintro ⟨v, K⟩ ⟨u1, u2⟩
        dsimp only at u1 u2 ⊢
        have := core K (mS_t f1 (mS_n u2))
        rw [if_pos e8] at this
        rw [u1, hae]
        exact this
      · refine wp_B note ?_
        rintro ⟨v, K⟩ ⟨u1, u2⟩
        dsimp only at u1 u2 ⊢
        have := core K (mS_t f1 (mS_n u2))
        rw [if_neg e8] at this
        rw [u1, hae]
        exact this
    · rw [if_neg e]
      refine wp_p rfl ?_
      have hs : sMo A row w (i + 1) = sMo A row w i := by rw [sMo, Bool.eq_false_iff.mpr e, Bool.false_and, if_neg (by simp)]
      exact hself (pR A - (i + 1)) _ (by omega) ⟨i + 1, J, x, by rw [hs, q_1], rfl, by omega, f1, fun e7 => by rw [hs] at e7 ⊢; exact f2 e7⟩
/-! a scale: most, lowest, run -/
def sSc (v : Int32) : Nat → Int32 × Int32 × Int32
  | 0 => (0, -1, 0)
  | n + 1 => let r := (if bt v n then (sSc v n).2.2 + 1 else 0)
    if r ≤ (sSc v n).1 then ((sSc v n).1, (sSc v n).2.1, r) else (r, (nI n - r) + 1, r)
theorem c_scale {Fu : Nat} {I : mIT} {R : mRT} {p n w : Nat} {A : aPl} {row : Nat → Int32} (hF : 701 < Fu) (ho : okPl A) (hk : okR A 999 row) (h : cQ I R p A row n) (hw : w < 2) : wp (f_X11_scale Fu R I (nI w)) (cX I R p A row (if w = 0 then (sSc (sNB A row (sSd A row)) 16).1 else (sSc (sNB A row (sSd A row)) 16).2.1)) := by
  have h10 := ho.1
  unfold f_X11_scale
  refine wp_X (c_two1 hw) ?_
  refine wp_B (c_now hF ho hk h) ?_
  rintro ⟨v, J⟩ ⟨e1, e2, n', e3, e4⟩
  dsimp only at e1 e2 e4 ⊢
  subst e1
  refine wp_Be (c_bits (k := 0) hF h10 e4.2.2.2.2.2.2.2 e3 e4.2.2.2.2.2.1 sSd_o) ?_
  rw [show sDs A row 0 = row from rfl]
  generalize sNB A row (sSd A row) = z
  generalize hS : sSc z = S
  unfold w_X11_scale_29
  refine wp_loop (fun dd (s : Int32 × Int32 × Int32 × Int32 × Int32 × Int32 × mIT) => ∃ (i : Nat), s = (nI w, z, (S i).1, (S i).2.1, (S i).2.2, nI i, J) ∧ dd = 16 - i ∧ i ≤ 16) _ ?_ Fu 16 _ ⟨0, by rw [← hS]; rfl, rfl, by omega⟩ (by omega)
  rintro dd s self ⟨i, rfl, hdd, hi⟩ hself
  show wp (b_X11_scale_29 Fu R self _ _ _ _ _ (nI i) J) _
  unfold b_X11_scale_29 b_X11_scale_54
  refine wp_i (ge_16 (by omega)) (fun hle => ?_) (fun hlt => ?_)
  · have hie : i = 16 := by omega
    subst hie
    refine wp_i (q_eq0 (by omega)) (fun e => ?_) (fun e => ?_)
    · rw [if_pos e]; exact wp_s ⟨_, rfl, rfl, e2, n', e4⟩
    · rw [if_neg e]; exact wp_s ⟨_, rfl, rfl, e2, n', e4⟩
  · rw [q_1]
    have go : ∀ s0, s0 = (if bt z i then (S i).2.2 + 1 else 0) → wp (if s0 ≤ (S i).1 then (self (nI w, z, (S i).1, (S i).2.1, s0, nI (i + 1), J)) else (self (nI w, z, s0, ((nI i - s0) + 1), s0, nI (i + 1), J))) (cX I R p A row (if w = 0 then (S 16).1 else (S 16).2.1)) := by
      intro s0 hs0
      have hu : S (i + 1) = if s0 ≤ (S i).1 then ((S i).1, (S i).2.1, s0) else (s0, (nI i - s0) + 1, s0) := by rw [hs0, ← hS, sSc]
      refine wp_f (fun e => ?_) (fun e => ?_)
      · rw [if_pos e] at hu
        exact hself (16 - (i + 1)) _ (by omega) ⟨i + 1, by rw [hu], rfl, by omega⟩
      · rw [if_neg e] at hu
        exact hself (16 - (i + 1)) _ (by omega) ⟨i + 1, by rw [hu], rfl, by omega⟩
    refine wp_i (b_at1 (by omega) _) (fun e => go _ (by rw [if_pos e])) (fun e => go _ (by rw [if_neg e]))
theorem m_scale {Fu : Nat} {I : mIT} {w : Nat} {A : aPl} {row : Nat → Int32} (hF : 701 < Fu) (ho : okPl A) (hk : okR A 999 row) (h : mQ I A row) (hw : w < 2) : wp (f_X12_scale Fu I (nI w)) (fun y => y.1 = (if w = 0 then (sSc (sNB A row (sSd A row)) 16).1 else (sSc (sNB A row (sSd A row)) 16).2.1) ∧ mS (mU I 75 0 0) y.2) := by
  have h0 := mQ_0 (v := 0) h
  unfold f_X12_scale
  refine wp_Be (m_what1 (m := 1) (q_U0 I) hw (by omega)) (wp_n ne10 ?_)
  refine wp_B (m_notesIn (b := 0) hF h0.1 ho h0.2.2 (by omega) h0.2.1 hk (by omega)) ?_
  rintro ⟨v, J⟩ ⟨e1, e2⟩
  dsimp only at e1 e2 ⊢
  subst e1
  generalize sNB A row (sSd A row) = z
  generalize hS : sSc z = S
  unfold w_X12_scale_33
  refine wp_loop (fun dd (s : Int32 × Int32 × Int32 × Int32 × Int32 × Int32 × mIT) => ∃ (i : Nat), s = (nI w, z, (S i).2.1, (S i).1, (S i).2.2, nI i, J) ∧ dd = 16 - i ∧ i ≤ 16) _ ?_ Fu 16 _ ⟨0, by rw [← hS]; rfl, rfl, by omega⟩ (by omega)
  rintro dd s self ⟨i, rfl, hdd, hi⟩ hself
  show wp (b_X12_scale_33 Fu self _ _ _ _ _ (nI i) J) _
  unfold b_X12_scale_33 b_X12_scale_58
  refine wp_i (ge_16 (by omega)) (fun hle => ?_) (fun hlt => ?_)
  · have hie : i = 16 := by omega
    subst hie
    refine wp_i (q_eq0 (by omega)) (fun e => ?_) (fun e => ?_)
    · rw [if_pos e]; exact wp_s ⟨rfl, mS_n e2⟩
    · rw [if_neg e]; exact wp_s ⟨rfl, mS_n e2⟩
  · rw [q_1]
    have go : ∀ s0, s0 = (if bt z i then (S i).2.2 + 1 else 0) → wp (if (S i).1 < s0 then (self (nI w, z, ((nI i - s0) + 1), s0, s0, nI (i + 1), J)) else (self (nI w, z, (S i).2.1, (S i).1, s0, nI (i + 1), J))) (fun y => y.1 = (if w = 0 then (S 16).1 else (S 16).2.1) ∧ mS (mU I 75 0 0) y.2) := by
      intro s0 hs0
      have hu : S (i + 1) = if s0 ≤ (S i).1 then ((S i).1, (S i).2.1, s0) else (s0, (nI i - s0) + 1, s0) := by rw [hs0, ← hS, sSc]
      refine wp_f (fun e => ?_) (fun e => ?_)
      · rw [if_neg (Int32.not_le.mpr e)] at hu
        exact hself (16 - (i + 1)) _ (by omega) ⟨i + 1, by rw [hu], rfl, by omega⟩
      · rw [if_pos (Int32.not_lt.mp e)] at hu
        exact hself (16 - (i + 1)) _ (by omega) ⟨i + 1, by rw [hu], rfl, by omega⟩
    refine wp_i (b_at1 (by omega) _) (fun e => go _ (by rw [if_pos e])) (fun e => go _ (by rw [if_neg e]))
