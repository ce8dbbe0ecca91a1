/-! the class's tests ahead of an answer; questions by the course -/
theorem wp_X {α β : Type} {x : Option (α ⊕ (Nat × mIT))} {a : α} {f : α → Option (β ⊕ (Nat × mIT))} {Q : β ⊕ (Nat × mIT) → Prop} (e : x = some (.inl a)) (k : wp (f a) Q) : wp (oX x f) Q := by
  subst e
  exact k
theorem wp_Xr {α β : Type} {x : Option (α ⊕ (Nat × mIT))} {q : Nat × mIT} {f : α → Option (β ⊕ (Nat × mIT))} (e : x = some (.inr q)) : oX x f = some (.inr q) := by
  subst e
  rfl
theorem c_root1 {Fu : Nat} {I : mIT} {R : mRT} {p r : Nat} {A : aPl} (hR : R 0 3 = some p) (h : cPl I p A) (ho : okPl A) (hr : r < pR A) : f_X11_checkRoot Fu R I (nI r) = some (.inl ()) := by
  have h10 := ho.1
  unfold f_X11_checkRoot
  rw [if_neg (by rw [q_lt0 (by omega)]; simp), hR, q_B, h.1, if_pos (by rw [q_lt (by omega) (by omega)]; omega)]
theorem c_root0 {Fu : Nat} {I : mIT} {R : mRT} {p : Nat} {A : aPl} {v : Int32} (hR : R 0 3 = some p) (h : cPl I p A) (hv : v < 0 ∨ nI (pR A) ≤ v) : f_X11_checkRoot Fu R I v = some (.inr (1, I)) := by
  unfold f_X11_checkRoot
  by_cases e : v < 0
  · rw [if_pos e]
  · rw [if_neg e, hR, q_B, h.1, if_neg (Int32.not_lt.mpr (hv.resolve_left e))]
theorem nle_lt {v : Int32} {m : Nat} (hm : m < 1000000) (h : nI (m + 1) ≤ v) : nI m < v := by
  rw [Int32.lt_iff_toInt_lt, nI_toInt (by omega)]
  rw [Int32.le_iff_toInt_le, nI_toInt (by omega)] at h
  omega
theorem c_far1 {Fu : Nat} {I : mIT} {j : Nat} (hj : j < 61) : f_X11_checkFar Fu I (nI j) = some (.inl ()) := by
  unfold f_X11_checkFar
  rw [if_neg (by rw [q_lt0 (by omega)]; simp), if_pos (by rw [le_60 (by omega)]; omega)]
theorem c_far0 {Fu : Nat} {I : mIT} {v : Int32} (hv : v < 0 ∨ nI 61 ≤ v) : f_X11_checkFar Fu I v = some (.inr (2, I)) := by
  unfold f_X11_checkFar
  by_cases e : v < 0
  · rw [if_pos e]
  · rw [if_neg e, if_neg (show ¬ v ≤ 60 from Int32.not_le.mpr (nle_lt (m := 60) (by omega) (hv.resolve_left e)))]
theorem c_two1 {Fu : Nat} {I : mIT} {j : Nat} (hj : j < 2) : f_X11_checkTwo Fu I (nI j) = some (.inl ()) := by
  unfold f_X11_checkTwo
  rw [if_neg (by rw [q_lt0 (by omega)]; simp), if_pos (by rw [le_1 (by omega)]; omega)]
theorem c_two0 {Fu : Nat} {I : mIT} {v : Int32} (hv : v < 0 ∨ nI 2 ≤ v) : f_X11_checkTwo Fu I v = some (.inr (1, I)) := by
  unfold f_X11_checkTwo
  by_cases e : v < 0
  · rw [if_pos e]
  · rw [if_neg e, if_neg (show ¬ v ≤ 1 from Int32.not_le.mpr (nle_lt (m := 1) (by omega) (hv.resolve_left e)))]
theorem c_hook1 {Fu : Nat} {I : mIT} {j : Nat} (hj : j < 6) : f_X11_checkHook Fu I (nI j) = some (.inl ()) := by
  unfold f_X11_checkHook
  rw [if_neg (by rw [q_lt0 (by omega)]; simp), if_pos (by rw [lt_6 (by omega)]; omega)]
theorem c_hook0 {Fu : Nat} {I : mIT} {v : Int32} (hv : v < 0 ∨ nI 6 ≤ v) : f_X11_checkHook Fu I v = some (.inr (1, I)) := by
  unfold f_X11_checkHook
  by_cases e : v < 0
  · rw [if_pos e]
  · rw [if_neg e, if_neg (show ¬ v < 6 from Int32.not_lt.mpr (hv.resolve_left e))]
theorem c_note1 {Fu : Nat} {I : mIT} {j : Nat} (hj : j < 16) : f_X11_checkNote Fu I (nI j) = some (.inl ()) := by
  unfold f_X11_checkNote f_X11_isNote
  rw [if_neg (by rw [q_lt0 (by omega)]; simp), if_neg (by rw [ge_16 (by omega)]; omega), q_B, if_neg (by decide)]
theorem c_note0 {Fu : Nat} {I : mIT} {v : Int32} (hv : v < 0 ∨ nI 16 ≤ v) : f_X11_checkNote Fu I v = some (.inr (1, I)) := by
  unfold f_X11_checkNote f_X11_isNote
  by_cases e : v < 0
  · rw [if_pos e, q_B, if_pos rfl]
  · rw [if_neg e, if_pos (show (16 : Int32) ≤ v from hv.resolve_left e), q_B, if_pos rfl]
/-- an answer, all that counts as it was, a course that is right -/
def cA (I : mIT) (R : mRT) (p : Nat) (A : aPl) (row : Nat → Int32) (a : Int32) (J : Int32 × mIT) : Prop := J.1 = a ∧ cS I J.2 ∧ ∃ n, cQ J.2 R p A row n
def cX (I : mIT) (R : mRT) (p : Nat) (A : aPl) (row : Nat → Int32) (a : Int32) (o : (Int32 × mIT) ⊕ (Nat × mIT)) : Prop := ∃ J, o = .inl J ∧ cA I R p A row a J
theorem c_then {Fu : Nat} {I : mIT} {R : mRT} {p n m r : Nat} {A : aPl} {row : Nat → Int32} (hF : 701 < Fu) (ho : okPl A) (hk : okR A 999 row) (h : cQ I R p A row n) (hr : r < pR A) (hm : m < 61) : wp (f_X11_then Fu R I (nI r) (nI m)) (cX I R p A row (sNt A (sDs A row m) r 0)) := by
  have h10 := ho.1
  unfold f_X11_then
  refine wp_X (c_root1 h.1 h.2.2.1 ho hr) (wp_X (c_far1 hm) (wp_Be h.1 ?_))
  refine wp_B (c_lay hF ho hk h (by omega)) ?_
  rintro J ⟨h1, n', h2, h3, h4⟩
  refine wp_Be (c_noteOn (by omega) (by omega)) (wp_s ⟨_, rfl, ?_, h1, n', h4⟩)
  exact (h4.2.2.2.2.2.2.2 m h3).1 r hr
theorem c_rings {Fu : Nat} {I : mIT} {R : mRT} {p n m : Nat} {A : aPl} {row : Nat → Int32} (hF : 701 < Fu) (ho : okPl A) (hk : okR A 999 row) (h : cQ I R p A row n) (hm : m < 61) : wp (f_X11_rings Fu R I (nI m)) (cX I R p A row (if sTu A (sNB A (sDs A row m) (sSd A (sDs A row m))) then 1 else 0)) := by
  unfold f_X11_rings
  refine wp_X (c_far1 hm) (wp_Be h.1 ?_)
  refine wp_B (c_lay hF ho hk h (by omega)) ?_
  rintro J ⟨h1, n', h2, h3, h4⟩
  refine wp_Be h.1 (wp_Be (c_sndOn (by omega)) ?_)
  rw [(h4.2.2.2.2.2.2.2 m h3).2.1]
  refine wp_Be (c_bits hF ho.1 h4.2.2.2.2.2.2.2 h3 h4.2.2.2.2.2.1 sSd_o) ?_
  refine wp_Be (c_isTune h4.2.2.1 ho) ?_
  exact wp_G (by split <;> decide) (wp_s ⟨_, rfl, rfl, h1, n', h4⟩)
theorem sGo_I {A : aPl} {row : Nat → Int32} {r : Nat} : ∀ k i, i + k = 61 → sFd (fun k => if sDs A row k (21 + r) < pL A then none else some (nI k)) (-1) i k = gN (sGo A row r i k)
  | 0, _, _ => rfl
  | k + 1, i, h => by
    rw [sGo_s, sFd]
    by_cases e : sDs A row i (21 + r) < pL A
    · rw [if_pos e, if_pos e]
      exact sGo_I k (i + 1) (by omega)
    · rw [if_neg e, if_neg e]
      unfold gN
      rw [if_neg (by omega)]
theorem c_going {Fu : Nat} {I : mIT} {r : Nat} {A : aPl} {row : Nat → Int32} (hF : 701 < Fu) (ho : okPl A) (h : laid I A row 61) (hrow : rI A I 41 0 row) (hr : r < pR A) : f_X11_goingOf Fu I (nI r) = some (if row (31 + r) < 0 then -1 else gN (gv A row r)) := by
  have h10 := ho.1
  have hpl : I (40 + 1) (31 + r) = row (31 + r) := by have := hrow _ (lv_31 hr); rwa [Nat.zero_add] at this
  unfold f_X11_goingOf
  rw [c_place (by omega), q_B, hpl]
  by_cases e : row (31 + r) < 0
  · rw [if_pos e, if_neg (Int32.not_le.mpr e)]
  · rw [if_neg e, if_pos (Int32.not_lt.mp e)]
    unfold w_X11_goingOf_15 gv
    rw [← sGo_I 61 0 rfl]
    refine q_find (fun i => (nI r, nI i)) 61 (-1) _ ?_ ?_ Fu (by omega)
    · intro i hi self
      show b_X11_goingOf_15 Fu I self (nI r) (nI i) = _
      unfold b_X11_goingOf_15
      rw [if_neg (by rw [gt_60 (by omega)]; omega), c_sndOn hi, q_B, (h i hi).2.1]
      simp (disch := omega) only [b_at0]
      rw [b_mkB (by omega) (by omega), decide_eq_true (by omega : r < 10), Bool.true_and]
      have e2 : sSd A (sDs A row i) r = decide (sDs A row i (21 + r) < pL A) := by
        unfold sSd
        rw [decide_eq_true hr, Bool.true_and, sDs_hi (by omega), decide_eq_true (Int32.not_lt.mp e), Bool.true_and]
      rw [e2, q_1]
      by_cases e3 : sDs A row i (21 + r) < pL A
      · rw [decide_eq_true e3, if_neg (by simp), if_pos e3]
      · rw [decide_eq_false e3, if_pos rfl, if_neg e3]
    · intro self
      show b_X11_goingOf_15 Fu I self (nI r) (nI 61) = _
      unfold b_X11_goingOf_15
      rw [if_pos (by decide)]
theorem c_goes {Fu : Nat} {I : mIT} {R : mRT} {p n r : Nat} {A : aPl} {row : Nat → Int32} (hF : 701 < Fu) (ho : okPl A) (hk : okR A 999 row) (h : cQ I R p A row n) (hr : r < pR A) : wp (f_X11_goes Fu R I (nI r)) (cX I R p A row (if row (31 + r) < 0 then -1 else gN (gv A row r))) := by
  unfold f_X11_goes
  refine wp_X (c_root1 h.1 h.2.2.1 ho hr) (wp_Be h.1 ?_)
  refine wp_B (c_lay (m := 60) hF ho hk h (by omega)) ?_
  rintro J ⟨h1, n', h2, h3, h4⟩
  have hn : n' = 61 := by have := h4.2.2.2.2.2.1; omega
  subst hn
  exact wp_Be (c_going hF ho h4.2.2.2.2.2.2.2 h4.2.2.2.1 hr) (wp_s ⟨_, rfl, rfl, h1, _, h4⟩)
theorem c_softQ {Fu : Nat} {I : mIT} {R : mRT} {p n : Nat} {A : aPl} {row : Nat → Int32} (hF : 701 < Fu) (ho : okPl A) (hk : okR A 999 row) (h : cQ I R p A row n) : wp (f_X11_soft Fu R I) (cA I R p A row (mnI (mnR (hv A row) (pR A)))) := by
  have h10 := ho.1
  unfold f_X11_soft
  refine wp_Be h.1 ?_
  refine wp_B (c_lay (m := 60) hF ho hk h (by omega)) ?_
  rintro J ⟨h1, n', h2, h3, h4⟩
  have hn : n' = 61 := by have := h4.2.2.2.2.2.1; omega
  subst hn
  unfold w_X11_soft_24
  refine wp_loop (fun dd (s : Int32 × Int32 × Int32 × mIT) => ∃ (i : Nat), s = (mnI (mnR (hv A row) i), nI (if mnR (hv A row) i = 10 then 61 else hv A row (mnR (hv A row) i)), nI i, J) ∧ dd = pR A - i ∧ i ≤ pR A) _ ?_ Fu (pR A) _ ⟨0, rfl, rfl, by omega⟩ (by omega)
  rintro dd s self ⟨i, rfl, hdd, hi⟩ hself
  show wp (b_X11_soft_24 Fu R self _ _ (nI i) J) _
  unfold b_X11_soft_24
  refine wp_Be h.1 ?_
  refine wp_i (by rw [h4.2.2.1.1, q_le (by omega) (by omega)]) (fun hle => ?_) (fun hlt => ?_)
  · have hie : i = pR A := by omega
    subst hie
    exact wp_s ⟨rfl, h1, _, h4⟩
  · refine wp_Be (c_going hF ho h4.2.2.2.2.2.2.2 h4.2.2.2.1 (by omega)) ?_
    rw [q_1]
    have hlt61 : (if mnR (hv A row) i = 10 then 61 else hv A row (mnR (hv A row) i)) ≤ 61 := by
      split
      · omega
      · exact hv_le
    have keep : ¬ (hv A row i < (if mnR (hv A row) i = 10 then 61 else hv A row (mnR (hv A row) i))) → wp (self (mnI (mnR (hv A row) i), nI (if mnR (hv A row) i = 10 then 61 else hv A row (mnR (hv A row) i)), nI (i + 1), J)) (cA I R p A row (mnI (mnR (hv A row) (pR A)))) := fun e => hself (pR A - (i + 1)) _ (by omega) ⟨i + 1, by rw [mnR, if_neg e], rfl, by omega⟩
    have hve : (if row (31 + i) < 0 then -1 else gN (gv A row i)) = gN (hv A row i) := by
      unfold hv
      split
      · rfl
      · rfl
    rw [hve]
    have hle := hv_le (A := A) (row := row) (r := i)
    by_cases e : hv A row i = 61
    · rw [show gN (hv A row i) = -1 by unfold gN; rw [if_pos e], if_pos rfl]
      exact keep (by omega)
    · rw [show gN (hv A row i) = nI (hv A row i) by unfold gN; rw [if_neg e], if_neg (by rw [q_eqm1 (by omega)]; simp)]
      refine wp_i (q_le (by omega) (by omega)) (fun e8 => keep (by omega)) (fun e8 => ?_)
      have e9 : mnR (hv A row) (i + 1) = i := by rw [mnR, if_pos (by omega)]
      refine hself (pR A - (i + 1)) _ (by omega) ⟨i + 1, ?_, rfl, by omega⟩
      rw [e9, if_neg (by omega)]
      unfold mnI
      rw [if_neg (by omega)]
def dN (i : Nat) : Int32 := if i = 0 then -1 else nI (i - 1)
theorem dN_s (i : Nat) : nI i + (-1) = dN i := by
  unfold dN
  by_cases e : i = 0
  · subst e; rfl
  · rw [if_neg e, q_pm1 (by omega)]
theorem lastB_s {p : Nat → Bool} (n : Nat) : lastB p (n + 1) = if p n then nI n else lastB p n := rfl
theorem c_lastA {Fu : Nat} {I : mIT} {R : mRT} {p : Nat} {A : aPl} {row : Nat → Int32} {v : Int32} {pp : Nat → Nat → Bool} (hF : 701 < Fu) (ho : okPl A) (h : cQ I R p A row 61) (hv : ∀ k, k < 61 → mkB (sSd A (sDs A row k)) 10 &&& v = mkB (pp k) 10) (hp : ∀ k, k < 61 → ∀ r, pR A ≤ r → pp k r = false) : f_X11_lastDayAmong Fu R I v = some (lastB (fun k => sTu A (sNB A (sDs A row k) (pp k))) 61) := by
  apply wp_q
  unfold f_X11_lastDayAmong w_X11_lastDayAmong_3
  refine wp_loop (fun dd (s : Int32 × Int32) => ∃ (i : Nat), s = (v, dN i) ∧ dd = i ∧ i ≤ 61 ∧ lastB (fun k => sTu A (sNB A (sDs A row k) (pp k))) 61 = lastB (fun k => sTu A (sNB A (sDs A row k) (pp k))) i) _ ?_ Fu 61 _ ⟨61, rfl, rfl, by omega, rfl⟩ (by omega)
  rintro dd s self ⟨i, rfl, hdd, hi, f1⟩ hself
  show wp (b_X11_lastDayAmong_3 Fu R I self v (dN i)) _
  unfold b_X11_lastDayAmong_3
  by_cases e : i = 0
  · subst e
    exact wp_p (by decide) (wp_s f1.symm)
  · obtain ⟨k, rfl⟩ : ∃ k, i = k + 1 := ⟨i - 1, by omega⟩
    have hd : dN (k + 1) = nI k := by unfold dN; rw [if_neg (by omega)]; rfl
    rw [hd]
    refine wp_n (by rw [q_lt0 (by omega)]; simp) ?_
    refine wp_Be (c_sndOn (by omega)) (wp_Be h.1 ?_)
    rw [(h.2.2.2.2.2.2.2 k (by omega)).2.1, hv k (by omega)]
    refine wp_Be (c_bits hF ho.1 h.2.2.2.2.2.2.2 (by omega) (by omega) (hp k (by omega))) ?_
    refine wp_Be (c_isTune h.2.2.1 ho) ?_
    rw [lastB_s k] at f1
    by_cases e2 : sTu A (sNB A (sDs A row k) (pp k)) = true
    · rw [if_pos e2] at f1 ⊢
      exact wp_n (by decide) (wp_s f1.symm)
    · rw [if_neg e2] at f1 ⊢
      refine wp_p rfl ?_
      rw [dN_s]
      exact hself k _ (by omega) ⟨k, rfl, rfl, by omega, f1⟩
theorem and_m1 (x : Int32) : x &&& (-1) = x := by
  apply b_ext
  intro i hi
  rw [b_and, b_m1 i hi, Bool.and_true]
theorem c_last {Fu : Nat} {I : mIT} {R : mRT} {p n : Nat} {A : aPl} {row : Nat → Int32} (hF : 701 < Fu) (ho : okPl A) (hk : okR A 999 row) (h : cQ I R p A row n) : wp (f_X11_last Fu R I) (cA I R p A row (lastB (sRg A row) 61)) := by
  unfold f_X11_last
  refine wp_Be h.1 ?_
  refine wp_B (c_lay (m := 60) hF ho hk h (by omega)) ?_
  rintro J ⟨h1, n', h2, h3, h4⟩
  have hn : n' = 61 := by have := h4.2.2.2.2.2.1; omega
  subst hn
  exact wp_Be (c_lastA (pp := fun k => sSd A (sDs A row k)) hF ho h4 (fun k _ => and_m1 _) (fun k _ => sSd_o)) (wp_s ⟨rfl, h1, _, h4⟩)
theorem c_without {Fu : Nat} {I : mIT} {R : mRT} {p n r : Nat} {A : aPl} {row : Nat → Int32} (hF : 701 < Fu) (ho : okPl A) (hk : okR A 999 row) (h : cQ I R p A row n) (hr : r < pR A) : wp (f_X11_without Fu R I (nI r)) (cX I R p A row (lastB (fun k => sTu A (sNB A (sDs A row k) (fun q => sSd A (sDs A row k) q && !(decide (q = r))))) 61)) := by
  have h10 := ho.1
  unfold f_X11_without
  refine wp_X (c_root1 h.1 h.2.2.1 ho hr) (wp_Be h.1 ?_)
  refine wp_B (c_lay (m := 60) hF ho hk h (by omega)) ?_
  rintro J ⟨h1, n', h2, h3, h4⟩
  have hn : n' = 61 := by have := h4.2.2.2.2.2.1; omega
  subst hn
  exact wp_Be (c_lastA (pp := fun k q => sSd A (sDs A row k) q && !(decide (q = r))) hF ho h4 (fun k _ => mkB_out (by omega) (by omega)) (fun k _ q hq => by rw [sSd_o q hq]; rfl)) (wp_s ⟨_, rfl, rfl, h1, _, h4⟩)
theorem c_earliest {Fu : Nat} {I : mIT} {R : mRT} {p n : Nat} {A : aPl} {row : Nat → Int32} (hF : 701 < Fu) (ho : okPl A) (hk : okR A 999 row) (h : cQ I R p A row n) : wp (f_X11_earliest Fu R I) (cA I R p A row (sFi (sEr A row) 0 61)) := by
  unfold f_X11_earliest w_X11_earliest_2
  refine wp_loop (fun dd (s : Int32 × mIT) => ∃ (i : Nat) (J : mIT), s = (nI i, J) ∧ dd = 61 - i ∧ i ≤ 61 ∧ cS I J ∧ (∃ n, cQ J R p A row n) ∧ sFi (sEr A row) 0 61 = sFi (sEr A row) i (61 - i)) _ ?_ Fu 61 _ ⟨0, I, rfl, rfl, by omega, cS_r I, ⟨n, h⟩, rfl⟩ (by omega)
  rintro dd s self ⟨i, J, rfl, hdd, hi, f1, ⟨m, f2⟩, f3⟩ hself
  show wp (b_X11_earliest_2 Fu R self (nI i) J) _
  unfold b_X11_earliest_2
  refine wp_i (gt_60 (by omega)) (fun hle => ?_) (fun hlt => ?_)
  · have hie : i = 61 := by omega
    subst hie
    exact wp_s ⟨by rw [f3]; rfl, f1, m, f2⟩
  · rw [sFi_t (i := i) (by omega)] at f3
    refine wp_Be h.1 ?_
    refine wp_B (c_lay hF ho hk f2 (by omega)) ?_
    rintro K ⟨h1, n', h2, h3, h4⟩
    refine wp_Be h.1 (wp_Be (c_firmOn (by omega)) ?_)
    rw [(h4.2.2.2.2.2.2.2 i h3).2.2]
    refine wp_Be (c_bits hF ho.1 h4.2.2.2.2.2.2.2 h3 h4.2.2.2.2.2.1 sFm_o) ?_
    refine wp_Be (c_isTune h4.2.2.1 ho) ?_
    by_cases e : sEr A row i = true
    · rw [if_pos e] at f3
      rw [if_pos (show sTu A (sNB A (sDs A row i) (sFm A (sDs A row i))) = true from e)]
      exact wp_n (by decide) (wp_s ⟨f3.symm, cS_t f1 h1, n', h4⟩)
    · rw [if_neg e] at f3
      rw [if_neg (show ¬ sTu A (sNB A (sDs A row i) (sFm A (sDs A row i))) = true from e)]
      refine wp_p rfl ?_
      exact hself (61 - (i + 1)) _ (by omega) ⟨i + 1, K, by rw [q_1], rfl, by omega, cS_t f1 h1, ⟨n', h4⟩, f3⟩
theorem c_grown {Fu : Nat} {I : mIT} {R : mRT} {p n r t : Nat} {A : aPl} {row : Nat → Int32} (hF : 701 < Fu) (ho : okPl A) (hk : okR A 999 row) (h : cQ I R p A row n) (hr : r < pR A) (ht : t < 16) : wp (f_X11_grown Fu R I (nI r) (nI t)) (cX I R p A row (if row (31 + r) = -1 then sFi (fun k => decide (sNt A (sDs A row k) r 0 = nI t)) 0 61 else -1)) := by
  have h10 := ho.1
  have hpl : I (40 + 1) (31 + r) = row (31 + r) := by have := h.2.2.2.1 _ (lv_31 hr); rwa [Nat.zero_add] at this
  unfold f_X11_grown
  refine wp_X (c_root1 h.1 h.2.2.1 ho hr) (wp_X (c_note1 ht) (wp_Be (c_place (by omega)) ?_))
  rw [hpl]
  refine wp_f (fun e => ?_) (fun e => ?_)
  · rw [if_pos e]
    unfold w_X11_grown_26
    refine wp_loop (fun dd (s : Int32 × Int32 × Int32 × mIT) => ∃ (i : Nat) (J : mIT), s = (nI r, nI t, nI i, J) ∧ dd = 61 - i ∧ i ≤ 61 ∧ cS I J ∧ (∃ n, cQ J R p A row n) ∧ sFi (fun k => decide (sNt A (sDs A row k) r 0 = nI t)) 0 61 = sFi (fun k => decide (sNt A (sDs A row k) r 0 = nI t)) i (61 - i)) _ ?_ Fu 61 _ ⟨0, I, rfl, rfl, by omega, cS_r I, ⟨n, h⟩, rfl⟩ (by omega)
    rintro dd s self ⟨i, J, rfl, hdd, hi, f1, ⟨m, f2⟩, f3⟩ hself
    show wp (b_X11_grown_26 Fu R self (nI r) (nI t) (nI i) J) _
    unfold b_X11_grown_26
    refine wp_i (gt_60 (by omega)) (fun hle => ?_) (fun hlt => ?_)
    · have hie : i = 61 := by omega
      subst hie
      exact wp_s ⟨_, rfl, by rw [f3]; rfl, f1, m, f2⟩
    · rw [sFi_t (i := i) (by omega)] at f3
      refine wp_Be h.1 ?_
      refine wp_B (c_lay hF ho hk f2 (by omega)) ?_
      rintro K ⟨h1, n', h2, h3, h4⟩
      refine wp_Be (c_noteOn (by omega) (by omega)) ?_
      rw [(h4.2.2.2.2.2.2.2 i h3).1 r hr]
      refine wp_f (fun e2 => ?_) (fun e2 => ?_)
      · rw [decide_eq_true e2, if_pos rfl] at f3
        exact wp_s ⟨_, rfl, f3.symm, cS_t f1 h1, n', h4⟩
      · rw [decide_eq_false e2, if_neg (by simp)] at f3
        exact hself (61 - (i + 1)) _ (by omega) ⟨i + 1, K, by rw [q_1], rfl, by omega, cS_t f1 h1, ⟨n', h4⟩, f3⟩
  · rw [if_neg e]
    exact wp_s ⟨_, rfl, rfl, cS_r I, n, h⟩
theorem c_often {Fu : Nat} {I : mIT} {R : mRT} {p n t : Nat} {A : aPl} {row : Nat → Int32} (hF : 701 < Fu) (ho : okPl A) (hk : okR A 999 row) (h : cQ I R p A row n) (ht : t < 16) : wp (f_X11_often Fu R I (nI t)) (cX I R p A row (sOf A row t 60)) := by
  unfold f_X11_often
  refine wp_X (c_note1 ht) (wp_Be h.1 ?_)
  refine wp_B (c_lay (m := 60) hF ho hk h (by omega)) ?_
  rintro J ⟨h1, n', h2, h3, h4⟩
  have hn : n' = 61 := by have := h4.2.2.2.2.2.1; omega
  subst hn
  unfold w_X11_often_26
  refine wp_loop (fun dd (s : Int32 × Int32 × Int32 × mIT) => ∃ (i : Nat), s = (nI t, sOf A row t i, nI (i + 1), J) ∧ dd = 60 - i ∧ i ≤ 60) _ ?_ Fu 60 _ ⟨0, rfl, rfl, by omega⟩ (by omega)
  rintro dd s self ⟨i, rfl, hdd, hi⟩ hself
  show wp (b_X11_often_26 Fu R self (nI t) _ (nI (i + 1)) J) _
  unfold b_X11_often_26
  refine wp_i (gt_60 (by omega)) (fun hle => ?_) (fun hlt => ?_)
  · have hie : i = 60 := by omega
    subst hie
    exact wp_s ⟨_, rfl, rfl, h1, _, h4⟩
  · refine wp_Be (c_sndOn (by omega)) ?_
    rw [(h4.2.2.2.2.2.2.2 (i + 1) (by omega)).2.1]
    refine wp_Be (c_bits hF ho.1 h4.2.2.2.2.2.2.2 (by omega) (by omega) sSd_o) ?_
    exact hself (60 - (i + 1)) _ (by omega) ⟨i + 1, by rw [q_1]; rfl, rfl, by omega⟩
