theorem cH_f {I J : mIT} {hl : hLs} (h : cH I 44 hl) (f : ∀ c, 44 ≤ c → c ≤ 47 → J c = I c) : cH J 44 hl := by
  unfold cH
  rw [f 44 (by omega) (by omega), f (44 + 1) (by omega) (by omega), f (44 + 2) (by omega) (by omega), f (44 + 3) (by omega) (by omega)]
  exact h
theorem laid_f {I J : mIT} {A : aPl} {row : Nat → Int32} {n : Nat} (h : laid I A row n) (f : ∀ c, 59 ≤ c → c ≤ 61 → J c = I c) : laid J A row n := by
  unfold laid
  rw [f 59 (by omega) (by omega), f 60 (by omega) (by omega), f 61 (by omega) (by omega)]
  exact h
theorem mkB_z {p : Nat → Bool} {n : Nat} (h : ∀ r, r < n → p r = false) : mkB p n = 0 := by
  have := orF_z (f := fun r => if p r then b1 r else 0) (m := 0) n (by omega) (fun r _ hr => by rw [h r hr]; rfl)
  exact this
theorem c_find {Fu : Nat} {I : mIT} {A : aPl} {row : Nat → Int32} {n : Nat} {hl : hLs} (hF : 701 < Fu) (ho : okPl A) (h : laid I A row n) (hn : 30 < n) (hn2 : n ≤ 61) (hh : cH I 44 hl) (hok : okH hl) : wp (f_X3_find Fu I 44 (nI (pR A)) (mkB (sWh A row (-2)) 10)) (fun J => J 69 2 = nI (eG (eP A row hl) (10 * pR A)).1 ∧ J 69 3 = (eG (eP A row hl) (10 * pR A)).2 ∧ (∀ r, r < 10 → J 70 r = mkB (fun d => eP A row hl (10 * r + d)) 10) ∧ ∀ c, c ≠ 69 → c ≠ 70 → J c = I c) := by
  have h10 := ho.1
  have hPo : ∀ r d, d < 10 → (pR A ≤ r ∨ row (31 + r) = -2) → eP A row hl (10 * r + d) = false := fun r d hd e => by
    unfold eP
    rw [show (10 * r + d) / 10 = r by omega]
    rcases e with e | e
    · rw [decide_eq_false (by omega)]; rfl
    · rw [decide_eq_false (show ¬ row (31 + r) ≠ -2 from fun q => q e), Bool.false_and, Bool.and_false]
  have hPi : ∀ r d, d < 10 → r < pR A → row (31 + r) ≠ -2 → eP A row hl (10 * r + d) = hOk A row hl (ppE A row r d) := fun r d hd hr e => by
    unfold eP
    rw [show (10 * r + d) / 10 = r by omega, show (10 * r + d) % 10 = d by omega, decide_eq_true hr, decide_eq_true e]
    rfl
  have hend : eG (eP A row hl) (10 * 10) = eG (eP A row hl) (10 * pR A) := by
    have := eG_up (P := eP A row hl) (m := 10 * pR A) (100 - 10 * pR A) (fun k h1 h2 => by
      have := hPo (k / 10) (k % 10) (Nat.mod_lt _ (by omega)) (Or.inl (by omega))
      rwa [show 10 * (k / 10) + k % 10 = k by omega] at this)
    rwa [show 10 * pR A + (100 - 10 * pR A) = 10 * 10 by omega] at this
  rw [← hend]
  generalize hP : eP A row hl = P at hPo hPi
  unfold f_X3_find w_X3_find_13
  refine wp_loop (fun dd (s : Int32 × Int32 × Int32 × mIT) => ∃ (i : Nat) (J : mIT), s = (nI (pR A), mkB (sWh A row (-2)) 10, nI i, J) ∧ dd = 10 - i ∧ i ≤ 10 ∧ J 69 2 = nI (eG P (10 * i)).1 ∧ J 69 3 = (eG P (10 * i)).2 ∧ (∀ r, r < i → J 70 r = mkB (fun d => P (10 * r + d)) 10) ∧ ∀ c, c ≠ 69 → c ≠ 70 → J c = I c) _ ?_ Fu 10 _ ⟨0, _, rfl, rfl, by omega, by rw [q_Uj (by decide), q_U]; rfl, by rw [q_U]; rfl, fun _ hj => absurd hj (by omega), fun c c1 _ => by rw [mU_other c1, mU_other c1]⟩ (by omega)
  rintro dd s self ⟨i, J, rfl, hdd, hi, f1, f2, f3, f4⟩ hself
  show wp (b_X3_find_13 Fu 44 self _ _ (nI i) J) _
  unfold b_X3_find_13
  refine wp_i (q_le (by omega) (by omega)) (fun hle => ?_) (fun hlt => ?_)
  · have hie : i = 10 := by omega
    subst hie
    exact wp_s ⟨f1, f2, f3, f4⟩
  · simp (disch := omega) only [q_GI, q_cl]
    unfold w_X3_find_34
    refine wp_loop (fun dd (s : Int32 × Int32 × Int32 × Int32 × mIT) => ∃ (d : Nat) (K : mIT), s = (nI (pR A), mkB (sWh A row (-2)) 10, nI i, nI d, K) ∧ dd = 10 - d ∧ d ≤ 10 ∧ K 69 2 = nI (eG P (10 * i + d)).1 ∧ K 69 3 = (eG P (10 * i + d)).2 ∧ (∀ r, r < i → K 70 r = mkB (fun d => P (10 * r + d)) 10) ∧ K 70 i = mkB (fun d => P (10 * i + d)) d ∧ ∀ c, c ≠ 69 → c ≠ 70 → K c = I c) _ ?_ Fu 10 _ ⟨0, _, rfl, rfl, by omega, by rw [mU_other (by decide)]; exact f1, by rw [mU_other (by decide)]; exact f2, fun r hr => by rw [q_Uj (by omega)]; exact f3 r hr, by rw [q_U]; rfl, fun c c1 c2 => by rw [mU_other c2]; exact f4 c c1 c2⟩ (by omega)
    rintro dq s self2 ⟨d, K, rfl, hdq, hd, g1, g2, g3, g4, g5⟩ hself2
    have hKl := laid_f h (J := K) (fun c c1 c2 => g5 c (by omega) (by omega))
    have hKh := cH_f hh (J := K) (fun c c1 c2 => g5 c (by omega) (by omega))
    show wp (b_X3_find_34 Fu 44 self self2 _ _ (nI i) (nI d) K) _
    have out : (d = 10 ∨ ∀ e, e < 10 → P (10 * i + e) = false) → wp (self (nI (pR A), mkB (sWh A row (-2)) 10, nI i + 1, K)) (fun J => J 69 2 = nI (eG P (10 * 10)).1 ∧ J 69 3 = (eG P (10 * 10)).2 ∧ (∀ r, r < 10 → J 70 r = mkB (fun d => P (10 * r + d)) 10) ∧ ∀ c, c ≠ 69 → c ≠ 70 → J c = I c) := by
      intro e
      have e1 : eG P (10 * i + d) = eG P (10 * (i + 1)) ∧ mkB (fun d => P (10 * i + d)) d = mkB (fun d => P (10 * i + d)) 10 := by
        rcases e with e | e
        · subst e; exact ⟨rfl, rfl⟩
        · have := eG_up (P := P) (m := 10 * i + d) (10 - d) (fun k h1 h2 => by have := e (k - 10 * i) (by omega); rwa [show 10 * i + (k - 10 * i) = k by omega] at this)
          rw [show 10 * i + d + (10 - d) = 10 * (i + 1) by omega] at this
          exact ⟨this.symm, by rw [mkB_z (fun r hr => e r (by omega)), mkB_z (fun r hr => e r hr)]⟩
      refine hself (10 - (i + 1)) _ (by omega) ⟨i + 1, K, by rw [q_1], rfl, by omega, by rw [g1, e1.1], by rw [g2, e1.1], fun r hr => ?_, g5⟩
      by_cases e2 : r = i
      · subst e2; rw [g4, e1.2]
      · exact g3 r (by omega)
    unfold b_X3_find_34
    refine wp_i (ge_10 (by omega)) (fun e => out (Or.inl (by omega))) (fun e => ?_)
    refine wp_i (q_le (by omega) (by omega)) (fun e2 => out (Or.inr (fun x hx => hPo i x hx (Or.inl e2)))) (fun e2 => ?_)
    refine wp_i (b_at0 (by omega) _) (fun e3 => ?_) (fun e3 => ?_)
    · rw [b_mkB (by omega) (by omega), decide_eq_true (by omega : i < 10), Bool.true_and] at e3
      unfold sWh at e3
      rw [decide_eq_true (show i < pR A by omega), Bool.true_and, decide_eq_false_iff_not] at e3
      rw [b1_d]
      refine wp_Be (c_agE hF ho hKl hn hn2 hKh hok (by omega) (by omega)) ?_
      rw [← hPi i d (by omega) (by omega) e3]
      have hb := eG_b (P := P) (10 * i + d) (by omega)
      have es := eG_s (P := P) (10 * i + d)
      by_cases e4 : P (10 * i + d) = true
      · rw [if_pos e4] at es ⊢
        refine wp_n (by decide) ?_
        simp (disch := omega) only [q_GI, q_cl, b1_d, g4]
        have hn69 : ∀ x, (mU K 70 i x) 69 2 = nI (eG P (10 * i + d)).1 := fun x => by rw [mU_other (by decide)]; exact g1
        have hn693 : ∀ x, (mU K 70 i x) 69 3 = (eG P (10 * i + d)).2 := fun x => by rw [mU_other (by decide)]; exact g2
        have fin : ∀ (y z : Int32), y = (eG P (10 * i + (d + 1))).2 → z = nI (eG P (10 * i + (d + 1))).1 → wp (self2 (nI (pR A), mkB (sWh A row (-2)) 10, nI i, nI d + 1, mU (mU (mU K 70 i (mkB (fun d => P (10 * i + d)) d ||| b1 d)) 69 3 y) 69 2 z)) (fun J => J 69 2 = nI (eG P (10 * 10)).1 ∧ J 69 3 = (eG P (10 * 10)).2 ∧ (∀ r, r < 10 → J 70 r = mkB (fun d => P (10 * r + d)) 10) ∧ ∀ c, c ≠ 69 → c ≠ 70 → J c = I c) := by
          rintro y z rfl rfl
          refine hself2 (10 - (d + 1)) _ (by omega) ⟨d + 1, _, by rw [q_1], rfl, by omega, by rw [q_U], by rw [q_Uj (by decide), q_U], fun r hr => ?_, ?_, fun c c1 c2 => ?_⟩
          · rw [mU_other (by decide), mU_other (by decide), q_Uj (by omega)]; exact g3 r hr
          · rw [mU_other (by decide), mU_other (by decide), q_U, mkB_s (fun d => P (10 * i + d)) d, if_pos e4]
          · rw [mU_other c1, mU_other c1, mU_other c2]; exact g5 c c1 c2
        rw [← Nat.add_assoc, es] at fin
        refine wp_i (by rw [hn69, q_eq0 (by omega)]) (fun e7 => ?_) (fun e7 => ?_)
        · rw [if_pos e7] at fin
          rw [ml_10, nI_add]
          exact fin _ _ rfl (by rw [q_Uj (by decide), hn69, q_1])
        · rw [if_neg e7] at fin
          exact fin _ _ (hn693 _) (by rw [q_Uj (by decide), hn69, q_1])
      · rw [if_neg e4] at es ⊢
        refine wp_p rfl (hself2 (10 - (d + 1)) _ (by omega) ⟨d + 1, K, by rw [q_1], rfl, by omega, by rw [← Nat.add_assoc, es]; exact g1, by rw [← Nat.add_assoc, es]; exact g2, g3, ?_, g5⟩)
        rw [mkB_s (fun d => P (10 * i + d)) d, if_neg e4, or_z]
        exact g4
    · rw [b_mkB (by omega) (by omega), decide_eq_true (by omega : i < 10), Bool.true_and] at e3
      unfold sWh at e3
      rw [decide_eq_true (show i < pR A by omega), Bool.true_and, decide_eq_false_iff_not, Classical.not_not] at e3
      exact out (Or.inr (fun x hx => hPo i x hx (Or.inr e3)))
theorem cS_g {I J : mIT} (f : ∀ c, c ≠ 69 → c ≠ 70 → c ≠ 71 → J c = I c) : cS I J := fun c hc => f c (fun e => by subst e; exact nomatch hc) (fun e => by subst e; exact nomatch hc) (fun e => by subst e; exact nomatch hc)
theorem cQ_g {I J : mIT} {R : mRT} {p n : Nat} {A : aPl} {row : Nat → Int32} (h : cQ I R p A row n) (f : ∀ c, c ≠ 69 → c ≠ 70 → c ≠ 71 → J c = I c) : cQ J R p A row n := cQ_s h (cS_g f) (fun c c1 c2 => f c (by omega) (by omega) (by omega))
theorem cH_s {I J : mIT} {hl : hLs} (h : cH I 44 hl) (f : cS I J) : cH J 44 hl := cH_f h (fun c c1 c2 => f c (by
  rcases (show c = 44 ∨ c = 45 ∨ c = 46 ∨ c = 47 by omega) with rfl | rfl | rfl | rfl <;> rfl))
theorem c_eaten {Fu : Nat} {I : mIT} {R : mRT} {p n w : Nat} {A : aPl} {row : Nat → Int32} {hl : hLs} (hF : 701 < Fu) (ho : okPl A) (hk : okR A 999 row) (h : cQ I R p A row n) (hh : cH I 44 hl) (hok : okH hl) (hw : w < 3) : wp (f_X11_eaten Fu R I (nI w)) (cX I R p A row (sEa A row hl w)) := by
  unfold f_X11_eaten
  refine wp_n (by rw [q_lt0 (by omega)]; simp) (wp_p (by rw [le_2 (by omega)]; omega) (wp_Be h.1 ?_))
  refine wp_B (c_lay (m := 30) hF ho hk h (by omega)) ?_
  rintro J ⟨h1, n', h2, h3, h4⟩
  have hl4 := h4.2.2.2.2.2.2.2
  have hn61 := h4.2.2.2.2.2.1
  unfold sEa
  refine wp_i (eq_2 (by omega)) (fun e => ?_) (fun e => ?_)
  · rw [if_pos e]
    refine wp_Be (c_ag0 hF ho hl4 h3 hn61 (cH_s hh h1) hok) ?_
    by_cases e3 : hOk A row hl (fun k => sSd A (sDs A row k)) = true
    · rw [if_pos e3]; exact wp_n (by decide) (wp_s ⟨_, rfl, rfl, h1, n', h4⟩)
    · rw [if_neg e3]; exact wp_p rfl (wp_s ⟨_, rfl, rfl, h1, n', h4⟩)
  · rw [if_neg e]
    refine wp_Be h.1 (wp_Be (c_bitsAt hF ho h4) ?_)
    rw [h4.2.2.1.1]
    refine wp_B (c_find hF ho hl4 h3 hn61 (cH_s hh h1) hok) ?_
    rintro K ⟨u1, u2, u3, u4⟩
    have hf : ∀ c, c ≠ 69 → c ≠ 70 → c ≠ 71 → K c = J c := fun c c1 c2 _ => u4 c c1 c2
    refine wp_i (q_eq0 (by omega)) (fun e => ?_) (fun e => ?_)
    · rw [if_pos e]
      exact wp_Be (show f_X3_many Fu K = some (K 69 2) from rfl) (wp_s ⟨_, rfl, u1, cS_t h1 (cS_g hf), n', cQ_g h4 hf⟩)
    · rw [if_neg e]
      exact wp_Be (show f_X3_first Fu K = some (K 69 3) from rfl) (wp_s ⟨_, rfl, u2, cS_t h1 (cS_g hf), n', cQ_g h4 hf⟩)
/-! lists without doubles -/
def insL (D : List Int32) (x : Int32) : List Int32 := if x ∈ D then D else D ++ [x]
theorem insL_m {D : List Int32} {x y : Int32} : y ∈ insL D x ↔ y ∈ D ∨ y = x := by
  unfold insL
  by_cases e : x ∈ D
  · rw [if_pos e]
    exact ⟨Or.inl, fun h => h.elim id (fun e2 => by rw [e2]; exact e)⟩
  · rw [if_neg e, List.mem_append, List.mem_singleton]
theorem insL_n {D : List Int32} {x : Int32} (h : D.Nodup) : (insL D x).Nodup := by
  unfold insL
  by_cases e : x ∈ D
  · rw [if_pos e]; exact h
  · rw [if_neg e, List.nodup_append]
    exact ⟨h, by simp, fun a ha b hb e2 => by rw [List.mem_singleton] at hb; rw [e2, hb] at ha; exact e ha⟩
theorem nd_le : ∀ (l1 l2 : List Int32), l1.Nodup → (∀ x, x ∈ l1 → x ∈ l2) → l1.length ≤ l2.length := by
  intro l1
  induction l1 with
  | nil => intro l2 _ _; exact Nat.zero_le _
  | cons a t ih =>
    intro l2 h1 h2
    rw [List.nodup_cons] at h1
    have ha := h2 a List.mem_cons_self
    have := ih (l2.erase a) h1.2 (fun x hx => (List.mem_erase_of_ne (fun e => by subst e; exact h1.1 hx)).mpr (h2 x (List.mem_cons_of_mem _ hx)))
    rw [List.length_erase_of_mem ha] at this
    have hpos : 0 < l2.length := List.length_pos_of_mem ha
    rw [List.length_cons]
    omega
theorem nd_eq {l1 l2 : List Int32} (h1 : l1.Nodup) (h2 : l2.Nodup) (h : ∀ x, x ∈ l1 ↔ x ∈ l2) : l1.length = l2.length := Nat.le_antisymm (nd_le l1 l2 h1 (fun x => (h x).mp)) (nd_le l2 l1 h2 (fun x => (h x).mpr))
def dl (f : Nat → Int32) : Nat → List Int32
  | 0 => []
  | n + 1 => insL (dl f n) (f n)
theorem dl_n (f : Nat → Int32) : ∀ n, (dl f n).Nodup
  | 0 => List.nodup_nil
  | n + 1 => insL_n (dl_n f n)
theorem dl_m {f : Nat → Int32} {x : Int32} : ∀ n, x ∈ dl f n ↔ ∃ b, b < n ∧ f b = x
  | 0 => ⟨fun h => absurd h (List.not_mem_nil), fun ⟨b, h, _⟩ => absurd h (by omega)⟩
  | n + 1 => by
    rw [dl, insL_m, dl_m n]
    constructor
    · rintro (⟨b, h1, h2⟩ | h)
      · exact ⟨b, by omega, h2⟩
      · exact ⟨n, by omega, h.symm⟩
    · rintro ⟨b, h1, h2⟩
      by_cases e : b = n
      · subst e; exact Or.inr h2.symm
      · exact Or.inl ⟨b, by omega, h2⟩
theorem dl_le (f : Nat → Int32) : ∀ n, (dl f n).length ≤ n
  | 0 => Nat.le_refl _
  | n + 1 => by
    have := dl_le f n
    rw [dl]
    unfold insL
    by_cases e : f n ∈ dl f n
    · rw [if_pos e]; omega
    · rw [if_neg e, List.length_append, List.length_singleton]; omega
/-! the next day that tells -/
def gs (P : Nat → Bool) (n : Nat) : List Nat := (List.range n).filter P
theorem gs_s (P : Nat → Bool) (n : Nat) : gs P (n + 1) = if P n then gs P n ++ [n] else gs P n := by
  unfold gs
  rw [List.range_succ, List.filter_append]
  by_cases e : P n = true
  · rw [if_pos e]; simp [e]
  · rw [if_neg e]; simp [e]
theorem gs_m {P : Nat → Bool} {n g : Nat} : g ∈ gs P n ↔ g < n ∧ P g = true := by
  unfold gs
  rw [List.mem_filter, List.mem_range]
theorem gs_le (P : Nat → Bool) (n : Nat) : (gs P n).length ≤ n := by
  unfold gs
  have := List.length_filter_le P (List.range n)
  rw [List.length_range] at this
  exact this
/-- notes on a day by a guess -/
def vG (A : aPl) (row : Nat → Int32) (g k : Nat) : Int32 := sNB A (sDs A row k) (ppE A row (g / 10) (g % 10) k)
def uN (A : aPl) (row : Nat → Int32) (P : Nat → Bool) (k : Nat) : Nat := (dl (fun a => vG A row ((gs P (10 * pR A)).getD a 0) k) (gs P (10 * pR A)).length).length
def nD (f : Nat → Nat) : Nat → Int32 × Nat
  | 0 => (-1, 0)
  | k + 1 => if (nD f k).2 < f k then (nI k, f k) else nD f k
theorem nD_s {f : Nat → Nat} (k : Nat) : nD f (k + 1) = if (nD f k).2 < f k then (nI k, f k) else nD f k := rfl
theorem nD_b {f : Nat → Nat} {m : Nat} (h : ∀ k, f k ≤ m) : ∀ k, (nD f k).2 ≤ m
  | 0 => Nat.zero_le _
  | k + 1 => by
    rw [nD_s]
    by_cases e : (nD f k).2 < f k
    · rw [if_pos e]; exact h k
    · rw [if_neg e]; exact nD_b h k
def sNe (A : aPl) (row : Nat → Int32) (hl : hLs) (w : Nat) : Int32 := if w = 0 then (nD (uN A row (eP A row hl)) 31).1 else nI (nD (uN A row (eP A row hl)) 31).2
theorem uN_le {A : aPl} {row : Nat → Int32} {P : Nat → Bool} (ho : okPl A) (k : Nat) : uN A row P k ≤ 100 := by
  have h10 := ho.1
  have h1 := dl_le (fun a => vG A row ((gs P (10 * pR A)).getD a 0) k) (gs P (10 * pR A)).length
  have h2 := gs_le P (10 * pR A)
  unfold uN
  omega
theorem c_withSet {Fu : Nat} {K : mIT} {D : List Int32} {x : Int32} (hF : 701 < Fu) (hD : D.length ≤ 10) (h : ∀ j, j < D.length → K 71 j = D.getD j 0) : wp (f_X3_withSet Fu K x (nI D.length)) (fun y => y.1 = nI (insL D x).length ∧ (∀ j, j < (insL D x).length → y.2 71 j = (insL D x).getD j 0) ∧ ∀ c, c ≠ 71 → y.2 c = K c) := by
  unfold f_X3_withSet w_X3_withSet_2
  refine wp_loop (fun dd (s : Int32 × Int32 × Int32 × mIT) => ∃ (i : Nat), s = (x, nI D.length, nI i, K) ∧ dd = D.length - i ∧ i ≤ D.length ∧ ∀ j, j < i → D.getD j 0 ≠ x) _ ?_ Fu D.length _ ⟨0, rfl, rfl, by omega, fun _ hj => absurd hj (by omega)⟩ (by omega)
  rintro dd s self ⟨i, rfl, hdd, hi, f1⟩ hself
  show wp (b_X3_withSet_2 Fu self x (nI D.length) (nI i) K) _
  unfold b_X3_withSet_2
  refine wp_i (q_le (by omega) (by omega)) (fun hle => ?_) (fun hlt => ?_)
  · have hie : i = D.length := by omega
    have hx : ¬ x ∈ D := fun hm => by
      obtain ⟨j, hj, e⟩ := List.mem_iff_getElem.mp hm
      have := f1 j (by omega)
      rw [List.getD_eq_getElem?_getD, List.getElem?_eq_getElem hj] at this
      exact this e
    have hins : insL D x = D ++ [x] := if_neg hx
    unfold b_X3_withSet_34
    simp (disch := omega) only [q_lt0, if_false, q_GI, q_cl, q_1]
    refine wp_n (by rw [q_le (by omega) (by omega)]; omega) (wp_s ⟨?_, fun j hj => ?_, fun c hc => mU_other hc⟩)
    · rw [hins, List.length_append, List.length_singleton]
    · dsimp only
      rw [hins] at hj ⊢
      rw [List.length_append, List.length_singleton] at hj
      by_cases e : j = D.length
      · subst e; rw [q_U]; simp
      · rw [q_Uj e, h j (by omega)]
        rw [List.getD_eq_getElem?_getD, List.getD_eq_getElem?_getD, List.getElem?_append_left (by omega)]
  · refine wp_n (by rw [q_le (by omega) (by omega)]; omega) ?_
    simp (disch := omega) only [q_GI, q_cl, h i (show i < D.length by omega), q_1]
    refine wp_f (fun e => ?_) (fun e => ?_)
    · have hx : x ∈ D := by
        have hi2 : i < D.length := by omega
        rw [← e, List.getD_eq_getElem?_getD, List.getElem?_eq_getElem hi2]
        exact List.getElem_mem hi2
      have hins : insL D x = D := if_pos hx
      rw [hins]
      exact wp_s ⟨rfl, h, fun _ _ => rfl⟩
    · refine hself (D.length - (i + 1)) _ (by omega) ⟨i + 1, rfl, rfl, by omega, fun j hj => ?_⟩
      by_cases e2 : j = i
      · subst e2; exact e
      · exact f1 j (by omega)
