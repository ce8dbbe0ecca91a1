/-! questions of the state as it is -/
theorem r0 {A : aPl} {I : mIT} {c j : Nat} {row : Nat → Int32} (h : rI A I c 0 row) (hj : live A j) : I c j = row j := by have := h j hj; rwa [Nat.zero_add] at this
def sOn (A : aPl) (row : Nat → Int32) (h : Int32) : Int32 := sFi (fun r => decide (row (31 + r) = h)) 0 (pR A)
theorem c_rootOn {Fu : Nat} {I : mIT} {k : Nat} {A : aPl} {row : Nat → Int32} {h : Int32} (hF : 701 < Fu) (h10 : pR A ≤ 10) (hr : rI A I (k + 1) 0 row) : f_X9_rootOn Fu I k h (nI (pR A)) = some (sOn A row h) := by
  unfold f_X9_rootOn w_X9_rootOn_2 sOn sFi
  refine q_find (fun i => (h, nI (pR A), nI i)) (pR A) (-1) _ ?_ ?_ Fu (by omega)
  · intro i hi self
    show b_X9_rootOn_2 Fu I k self h (nI (pR A)) (nI i) = _
    unfold b_X9_rootOn_2
    rw [if_neg (by rw [q_le (by omega) (by omega)]; omega), c_place (by omega), q_B, r0 hr (lv_31 hi), q_1]
    dsimp only
    by_cases e : row (31 + i) = h
    · rw [if_pos e, if_pos (decide_eq_true e)]
    · rw [if_neg e, if_neg (by simp [e])]
  · intro self
    show b_X9_rootOn_2 Fu I k self h (nI (pR A)) (nI (pR A)) = _
    unfold b_X9_rootOn_2
    rw [if_pos (by rw [q_le (by omega) (by omega)]; omega)]
theorem c_hook {Fu : Nat} {I : mIT} {R : mRT} {p n j : Nat} {A : aPl} {row : Nat → Int32} (hF : 701 < Fu) (ho : okPl A) (h : cQ I R p A row n) (hj : j < 6) : f_X11_hook Fu R I (nI j) = some (.inl (sOn A row (nI j))) := by
  unfold f_X11_hook
  rw [c_hook1 hj, q_Xl, h.1, q_B, h.2.2.1.1, c_rootOn hF ho.1 h.2.2.2.1, q_B]
theorem m_hook {Fu : Nat} {I : mIT} {j : Nat} {A : aPl} {row : Nat → Int32} (hF : 701 < Fu) (ho : okPl A) (h : mQ I A row) (hj : j < 6) : f_X12_hook Fu I (nI j) = some (sOn A row (nI j), mU I 75 0 0) := by
  have h0 := mQ_0 (v := 0) h
  have h10 := ho.1
  unfold f_X12_hook
  rw [show f_X12_isWhat Fu (mU I 75 0 0) (nI j) 5 = some (1, mU I 75 0 0) from m_what1 (m := 5) (q_U0 I) hj (by omega), q_B]
  dsimp only
  rw [if_neg ne10]
  apply wp_q
  unfold w_X12_hook_18
  refine wp_loop (fun dd (s : Int32 × Int32 × mIT) => ∃ (i : Nat), s = (nI j, nI i, mU I 75 0 0) ∧ dd = pR A - i ∧ i ≤ pR A ∧ sOn A row (nI j) = sFi (fun r => decide (row (31 + r) = nI j)) i (pR A - i)) _ ?_ Fu (pR A) _ ⟨0, rfl, rfl, by omega, rfl⟩ (by omega)
  rintro dd s self ⟨i, rfl, hdd, hi, f3⟩ hself
  show wp (b_X12_hook_18 Fu self (nI j) (nI i) (mU I 75 0 0)) _
  unfold b_X12_hook_18
  refine wp_i (by rw [h0.1.1, q_le (by omega) (by omega)]) (fun hle => ?_) (fun hlt => ?_)
  · have hie : i = pR A := by omega
    subst hie
    rw [Nat.sub_self] at f3
    exact wp_s (by rw [f3]; rfl)
  · simp (disch := omega) only [l_31, q_GI, q_cl, r0 h0.2.1 (lv_31 (show i < pR A by omega)), q_1]
    rw [sFi_t (i := i) (by omega)] at f3
    refine wp_f (fun e => ?_) (fun e => ?_)
    · rw [decide_eq_true e, if_pos rfl] at f3
      exact wp_s (by rw [f3])
    · rw [decide_eq_false e, if_neg (by simp)] at f3
      exact hself (pR A - (i + 1)) _ (by omega) ⟨i + 1, rfl, rfl, by omega, f3⟩
theorem c_tune {Fu : Nat} {I : mIT} {R : mRT} {p n j : Nat} {A : aPl} {row : Nat → Int32} (ho : okPl A) (h : cQ I R p A row n) (hj : j < pT A) : f_X11_tune Fu R I (nI j) = some (.inl (pU A j)) := by
  have h8 := ho.2.2.2.1
  unfold f_X11_tune
  rw [if_neg (by rw [q_lt0 (by omega)]; simp), h.1, q_B, h.2.2.1.2.2.2.1, if_pos (by rw [q_lt (by omega) (by omega)]; omega), q_B, c_tuneNote (by omega), q_B, h.2.2.1.2.2.2.2.2.2.2.2.1 j hj]
theorem c_tune0 {Fu : Nat} {I : mIT} {R : mRT} {p n : Nat} {A : aPl} {row : Nat → Int32} {v : Int32} (h : cQ I R p A row n) (hv : v < 0 ∨ nI (pT A) ≤ v) : f_X11_tune Fu R I v = some (.inr (1, I)) := by
  unfold f_X11_tune
  by_cases e : v < 0
  · rw [if_pos e]
  · rw [if_neg e, h.1, q_B, h.2.2.1.2.2.2.1, if_neg (Int32.not_lt.mpr (hv.resolve_left e))]
theorem m_tune {Fu : Nat} {I : mIT} {j : Nat} {A : aPl} {row : Nat → Int32} (ho : okPl A) (h : mQ I A row) (hj : j < pT A) : f_X12_tune Fu I (nI j) = some (pU A j, mU I 75 0 0) := by
  have h0 := mQ_0 (v := 0) h
  have h8 := ho.2.2.2.1
  unfold f_X12_tune
  rw [if_neg (by rw [q_lt0 (by omega)]; simp), h0.1.2.2.2.1, if_neg (by rw [q_le (by omega) (by omega)]; omega), m_right1 (q_U0 I), q_B]
  dsimp only
  rw [if_neg ne10, q_GI (by omega) (by omega), q_cl (by omega)]
  show some ((mU I 75 0 0) 78 j, mU I 75 0 0) = _
  rw [h0.1.2.2.2.2.2.2.2.1 j hj]
theorem m_tune0 {Fu : Nat} {I : mIT} {A : aPl} {row : Nat → Int32} {v : Int32} (h : mQ I A row) (hv : v < 0 ∨ nI (pT A) ≤ v) : f_X12_tune Fu I v = some (0, mU I 75 0 1) := by
  have h0 := mQ_0 (v := 0) h
  unfold f_X12_tune b_X12_tune_22
  rw [m_right0 (q_U0 I) (by decide), q_B, if_pos rfl, mU_mU]
  by_cases e : v < 0
  · rw [if_pos e]
  · rw [if_neg e, h0.1.2.2.2.1, if_pos (hv.resolve_left e)]
theorem c_chg1 {Fu : Nat} {I : mIT} {R : mRT} {p j : Nat} {A : aPl} (hR : R 0 3 = some p) (h : cPl I p A) (ho : okPl A) (hj : j < pC A) : f_X11_checkChange Fu R I (nI j) = some (.inl ()) := by
  have h12 := ho.2.2.2.2.1
  unfold f_X11_checkChange
  rw [if_neg (by rw [q_lt0 (by omega)]; simp), hR, q_B, h.2.2.2.2.2.1, if_pos (by rw [q_lt (by omega) (by omega)]; omega)]
theorem c_chg0 {Fu : Nat} {I : mIT} {R : mRT} {p : Nat} {A : aPl} {v : Int32} (hR : R 0 3 = some p) (h : cPl I p A) (hv : v < 0 ∨ nI (pC A) ≤ v) : f_X11_checkChange Fu R I v = some (.inr (1, I)) := by
  unfold f_X11_checkChange
  by_cases e : v < 0
  · rw [if_pos e]
  · rw [if_neg e, hR, q_B, h.2.2.2.2.2.1, if_neg (Int32.not_lt.mpr (hv.resolve_left e))]
theorem c_changeQ {Fu : Nat} {I : mIT} {R : mRT} {p n j : Nat} {A : aPl} {row : Nat → Int32} (ho : okPl A) (h : cQ I R p A row n) (hj : j < pC A) : f_X11_change Fu R I (nI j) = some (.inl (row (41 + j))) := by
  have h12 := ho.2.2.2.2.1
  unfold f_X11_change
  rw [c_chg1 h.1 h.2.2.1 ho hj, q_Xl, c_change (by omega), q_B, r0 h.2.2.2.1 (lv_41 hj)]
theorem m_changeQ {Fu : Nat} {I : mIT} {j : Nat} {A : aPl} {row : Nat → Int32} (ho : okPl A) (h : mQ I A row) (hj : j < pC A) : f_X12_change Fu I (nI j) = some (row (41 + j), mU I 75 0 0) := by
  have h0 := mQ_0 (v := 0) h
  have h12 := ho.2.2.2.2.1
  unfold f_X12_change b_X12_change_23
  rw [if_neg (by rw [q_lt0 (by omega)]; simp), h0.1.2.2.2.2.1, if_neg (by rw [q_le (by omega) (by omega)]; omega), m_right1 (q_U0 I), q_B]
  dsimp only
  rw [if_neg ne10]
  simp (disch := omega) only [l_41, q_GI, q_cl, r0 h0.2.1 (lv_41 hj)]
theorem m_change0 {Fu : Nat} {I : mIT} {A : aPl} {row : Nat → Int32} {v : Int32} (h : mQ I A row) (hv : v < 0 ∨ nI (pC A) ≤ v) : f_X12_change Fu I v = some (0, mU I 75 0 1) := by
  have h0 := mQ_0 (v := 0) h
  unfold f_X12_change b_X12_change_22 b_X12_change_23
  rw [m_right0 (q_U0 I) (by decide), q_B, if_pos rfl, mU_mU]
  by_cases e : v < 0
  · rw [if_pos e]
  · rw [if_neg e, h0.1.2.2.2.2.1, if_pos (hv.resolve_left e)]
/-- by how much a root may be hollowed -/
def sMy (row : Nat → Int32) (r : Nat) : Nat := if row (31 + r) = -2 then 0 else min ((row (1 + r)).toNatClampNeg - 1 - (row (11 + r)).toNatClampNeg) (20 - (row (11 + r)).toNatClampNeg)
theorem sMy_le (row : Nat → Int32) (r : Nat) : sMy row r ≤ 20 := by
  unfold sMy
  split <;> omega
theorem sMy_b {row : Nat → Int32} {r s h : Nat} (h1 : row (1 + r) = nI s) (h2 : row (11 + r) = nI h) (hs : s ≤ 60) (hh : h < s) : sMy row r = if row (31 + r) = -2 then 0 else min (s - 1 - h) (20 - h) := by
  unfold sMy
  rw [h1, h2, q_cl (by omega), q_cl (by omega)]
theorem my_a {s h : Nat} (hs : s ≤ 60) (hh : h < s) (h20 : h ≤ 20) : (if (nI s - 1 - nI h) < (20 - nI h) then (nI s - 1 - nI h) else (20 - nI h)) = nI (min (s - 1 - h) (20 - h)) := by
  rw [k_1, pk_sub (by omega), pk_sub (by omega), k_20, pk_sub (by omega)]
  simp (disch := omega) only [q_lt]
  by_cases e : s - 1 - h < 20 - h
  · rw [if_pos e, Nat.min_eq_left (by omega)]
  · rw [if_neg e, Nat.min_eq_right (by omega)]
theorem c_room {Fu : Nat} {I : mIT} {k r D : Nat} {A : aPl} {row : Nat → Int32} (ho : okPl A) (hk : okR A D row) (hr : rI A I (k + 1) 0 row) (hrr : r < pR A) : f_X9_roomToHollow Fu I k (nI r) = some (nI (sMy row r)) := by
  have h10 := ho.1
  obtain ⟨s, hh, f, g1, g2, g3, g4, g5, g6, g7, g8⟩ := hk.2.1 r hrr
  unfold f_X9_roomToHollow
  rw [c_place (by omega), q_B, r0 hr (lv_31 hrr), sMy_b g1 g2 g4 g6]
  by_cases e : row (31 + r) = -2
  · rw [if_pos e, if_pos e]; rfl
  · rw [if_neg e, if_neg e, c_hollow (by omega), q_B, c_size (by omega), q_B, r0 hr (lv_11 hrr), r0 hr (lv_1 hrr), g1, g2, my_a g4 g6 g5]
theorem m_mayBe {Fu : Nat} {I : mIT} {r D : Nat} {A : aPl} {row : Nat → Int32} (ho : okPl A) (hk : okR A D row) (hr : rI A I 89 0 row) (hrr : r < pR A) : f_X12_mayBe Fu I (nI r) = some (nI (sMy row r)) := by
  have h10 := ho.1
  obtain ⟨s, hh, f, g1, g2, g3, g4, g5, g6, g7, g8⟩ := hk.2.1 r hrr
  unfold f_X12_mayBe
  simp (disch := omega) only [l_31, l_11, l_1, q_GI, q_cl, r0 hr (lv_31 hrr), r0 hr (lv_11 hrr), r0 hr (lv_1 hrr)]
  rw [sMy_b g1 g2 g4 g6]
  by_cases e : row (31 + r) = -2
  · rw [if_pos e, if_pos e]; rfl
  · rw [if_neg e, if_neg e, g1, g2, ← my_a g4 g6 g5]
    by_cases e2 : nI s - 1 - nI hh ≤ 20 - nI hh
    · rw [if_pos e2]
      by_cases e3 : nI s - 1 - nI hh < 20 - nI hh
      · rw [if_pos e3]
      · rw [if_neg e3, Int32.le_antisymm e2 (Int32.not_lt.mp e3)]
    · rw [if_neg e2, if_neg (fun e3 => e2 (Int32.le_of_lt e3))]
/-- what root() tells -/
def sRt (A : aPl) (row : Nat → Int32) (r k : Nat) : Int32 := if k = 0 then pK A r else if k = 1 then row (1 + r) else if k = 2 then row (11 + r) else if k = 3 then row (21 + r) else if k = 4 then sNt A row r 0 else if k = 5 then row (31 + r) else if k = 6 then (if sSd A row r then 1 else 0) else nI (sMy row r)
theorem c_rootQ {Fu : Nat} {I : mIT} {R : mRT} {p n r k : Nat} {A : aPl} {row : Nat → Int32} (hF : 701 < Fu) (ho : okPl A) (hk : okR A 999 row) (h : cQ I R p A row n) (hr : r < pR A) (hk8 : k < 8) : wp (f_X11_root Fu R I (nI r) (nI k)) (cX I R p A row (sRt A row r k)) := by
  have h10 := ho.1
  have hrow := h.2.2.2.1
  unfold f_X11_root
  refine wp_X (c_root1 h.1 h.2.2.1 ho hr) ?_
  simp (disch := omega) only [q_eq0, eq_1, eq_2, eq_3, eq_4, eq_5, eq_6, eq_7]
  unfold sRt
  rcases (show k = 0 ∨ k = 1 ∨ k = 2 ∨ k = 3 ∨ k = 4 ∨ k = 5 ∨ k = 6 ∨ k = 7 by omega) with rfl | rfl | rfl | rfl | rfl | rfl | rfl | rfl
  · exact wp_p rfl (wp_Be h.1 (wp_Be (c_kind (by omega)) (wp_s ⟨_, rfl, h.2.2.1.2.2.2.2.2.2.1 r hr, cS_r I, n, h⟩)))
  · exact wp_n (by decide) (wp_p rfl (wp_Be (c_size (by omega)) (wp_s ⟨_, rfl, r0 hrow (lv_1 hr), cS_r I, n, h⟩)))
  · exact wp_n (by decide) (wp_n (by decide) (wp_p rfl (wp_Be (c_hollow (by omega)) (wp_s ⟨_, rfl, r0 hrow (lv_11 hr), cS_r I, n, h⟩))))
  · exact wp_n (by decide) (wp_n (by decide) (wp_n (by decide) (wp_p rfl (wp_Be (c_soft (by omega)) (wp_s ⟨_, rfl, r0 hrow (lv_21 hr), cS_r I, n, h⟩)))))
  · refine wp_n (by decide) (wp_n (by decide) (wp_n (by decide) (wp_n (by decide) (wp_p rfl (wp_Be h.1 ?_)))))
    refine wp_B (c_note (k := 40) hF h.2.2.1 ho hrow hk (by omega) hr) ?_
    rintro ⟨v, J⟩ ⟨e1, e2⟩
    exact wp_s ⟨_, rfl, e1, cS_n h.2.1 e2, n, cQ_n h e2⟩
  · exact wp_n (by decide) (wp_n (by decide) (wp_n (by decide) (wp_n (by decide) (wp_n (by decide) (wp_p rfl (wp_Be (c_place (by omega)) (wp_s ⟨_, rfl, r0 hrow (lv_31 hr), cS_r I, n, h⟩)))))))
  · refine wp_n (by decide) (wp_n (by decide) (wp_n (by decide) (wp_n (by decide) (wp_n (by decide) (wp_n (by decide) (wp_p rfl ?_))))))
    refine wp_B (c_now hF ho hk h) ?_
    rintro ⟨v, J⟩ ⟨e1, e2, n', e3, e4⟩
    dsimp only at e1 e2 e4 ⊢
    refine wp_s ⟨_, rfl, ?_, e2, n', e4⟩
    show (v >>> (nI r &&& 31)) &&& 1 = if sSd A row r then 1 else 0
    rw [e1, b_at (by omega), b_mkB (by omega) (by omega), decide_eq_true (by omega : r < 10), Bool.true_and]
  · exact wp_n (by decide) (wp_n (by decide) (wp_n (by decide) (wp_n (by decide) (wp_n (by decide) (wp_n (by decide) (wp_n (by decide) (wp_p rfl (wp_Be (c_room (k := 40) ho hk hrow hr) (wp_s ⟨_, rfl, rfl, cS_r I, n, h⟩)))))))))
theorem c_rootQ0 {Fu : Nat} {I : mIT} {R : mRT} {p n r : Nat} {A : aPl} {row : Nat → Int32} {v : Int32} (ho : okPl A) (h : cQ I R p A row n) (hr : r < pR A) (hv : v < 0 ∨ nI 8 ≤ v) : f_X11_root Fu R I (nI r) v = some (.inr (1, I)) := by
  have hne : ∀ k, k < 8 → ¬ v = nI k := fun k hk e => by
    subst e
    rcases hv with e | e
    · rw [q_lt0 (by omega)] at e; exact e
    · rw [q_le (by omega) (by omega)] at e; omega
  unfold f_X11_root
  rw [c_root1 h.1 h.2.2.1 ho hr, q_Xl, if_neg (show ¬ v = 0 from hne 0 (by omega)), if_neg (show ¬ v = 1 from hne 1 (by omega)), if_neg (show ¬ v = 2 from hne 2 (by omega)), if_neg (show ¬ v = 3 from hne 3 (by omega)), if_neg (show ¬ v = 4 from hne 4 (by omega)), if_neg (show ¬ v = 5 from hne 5 (by omega)), if_neg (show ¬ v = 6 from hne 6 (by omega)), if_neg (show ¬ v = 7 from hne 7 (by omega))]
theorem m_rootQ {Fu : Nat} {I : mIT} {r k : Nat} {A : aPl} {row : Nat → Int32} (hF : 701 < Fu) (ho : okPl A) (hk : okR A 999 row) (h : mQ I A row) (hr : r < pR A) (hk8 : k < 8) : wp (f_X12_root Fu I (nI r) (nI k)) (fun y => y.1 = sRt A row r k ∧ mS (mU I 75 0 0) y.2) := by
  have h0 := mQ_0 (v := 0) h
  have h10 := ho.1
  have hrow := h0.2.1
  unfold f_X12_root
  refine wp_Be (m_isRoot1 (q_U0 I) h0.1 ho hr) (wp_n ne10 ?_)
  refine wp_Be (m_what1 (m := 7) (q_U0 I) hk8 (by omega)) (wp_n ne10 ?_)
  simp (disch := omega) only [q_eq0, eq_1, eq_2, eq_3, eq_4, eq_5, eq_6, eq_7, l_1, l_11, l_21, l_31, q_GI, q_cl, r0 hrow (lv_1 hr), r0 hrow (lv_11 hr), r0 hrow (lv_21 hr), r0 hrow (lv_31 hr), h0.1.2.2.2.2.2.1 r hr]
  unfold sRt
  rcases (show k = 0 ∨ k = 1 ∨ k = 2 ∨ k = 3 ∨ k = 4 ∨ k = 5 ∨ k = 6 ∨ k = 7 by omega) with rfl | rfl | rfl | rfl | rfl | rfl | rfl | rfl
  · exact wp_p rfl (wp_s ⟨rfl, mS_r _⟩)
  · exact wp_n (by decide) (wp_p rfl (wp_s ⟨rfl, mS_r _⟩))
  · exact wp_n (by decide) (wp_n (by decide) (wp_p rfl (wp_s ⟨rfl, mS_r _⟩)))
  · exact wp_n (by decide) (wp_n (by decide) (wp_n (by decide) (wp_p rfl (wp_s ⟨rfl, mS_r _⟩))))
  · refine wp_n (by decide) (wp_n (by decide) (wp_n (by decide) (wp_n (by decide) (wp_p rfl ?_))))
    refine wp_B (m_noteOf (b := 0) hF h0.1 ho h0.2.2 (by omega) hrow hk (by omega) hr) ?_
    rintro ⟨v, J⟩ ⟨e1, e2⟩
    exact wp_s ⟨e1, mS_n e2⟩
  · exact wp_n (by decide) (wp_n (by decide) (wp_n (by decide) (wp_n (by decide) (wp_n (by decide) (wp_p rfl (wp_s ⟨rfl, mS_r _⟩))))))
  · refine wp_n (by decide) (wp_n (by decide) (wp_n (by decide) (wp_n (by decide) (wp_n (by decide) (wp_n (by decide) (wp_p rfl ?_))))))
    refine wp_Be (m_sounds (b := 0) h0.1 ho (by omega) hrow hr) ?_
    by_cases e : sSd A row r = true
    · rw [if_pos e]; exact wp_n (by decide) (wp_s ⟨rfl, mS_r _⟩)
    · rw [if_neg e]; exact wp_p rfl (wp_s ⟨rfl, mS_r _⟩)
  · exact wp_n (by decide) (wp_n (by decide) (wp_n (by decide) (wp_n (by decide) (wp_n (by decide) (wp_n (by decide) (wp_n (by decide) (wp_Be (m_mayBe ho hk hrow hr) (wp_s ⟨rfl, mS_r _⟩))))))))
/-! hollowed by so much more -/
def upH (row : Nat → Int32) (r k : Nat) : Nat → Int32 := fun j => if j = 11 + r then row (11 + r) + nI k else row j
theorem upH_nt {A : aPl} {row : Nat → Int32} {r k : Nat} : sNt A (upH row r k) r 0 = sNt A row r (nI k) := by
  have e1 : ∀ j, j ≠ 11 + r → upH row r k j = row j := fun j hj => if_neg hj
  have e2 : upH row r k (11 + r) = row (11 + r) + nI k := if_pos rfl
  unfold sNt sNo sV
  rw [e1 0 (by omega), e1 (1 + r) (by omega), e2, e1 (21 + r) (by omega), e1 (31 + r) (by omega), Int32.add_zero, Int32.sub_zero]
  have e3 : row (1 + r) - (row (11 + r) + nI k) = row (1 + r) - row (11 + r) - nI k := by grind
  rw [e3]
theorem upH_ok {A : aPl} {D : Nat} {row : Nat → Int32} {r k : Nat} (ho : okPl A) (h : okR A D row) (hr : r < pR A) (hg : row (31 + r) ≠ -2) (hk : k ≤ sMy row r) : okR A D (upH row r k) := by
  have h10 := ho.1
  have e1 : ∀ j, j ≠ 11 + r → upH row r k j = row j := fun j hj => if_neg hj
  have e2 : upH row r k (11 + r) = row (11 + r) + nI k := if_pos rfl
  obtain ⟨⟨d, h1, h2⟩, h3, h4⟩ := h
  refine ⟨⟨d, by rw [e1 0 (by omega)]; exact h1, h2⟩, fun q hq => ?_, fun q s hq hs hn h0 => ?_⟩
  · obtain ⟨s, hh, f, g1, g2, g3, g4, g5, g6, g7, g8⟩ := h3 q hq
    by_cases n : q = r
    · subst n
      rw [sMy_b g1 g2 g4 g6, if_neg hg] at hk
      exact ⟨s, hh + k, f, by rw [e1 _ (by omega)]; exact g1, by rw [e2, g2, nI_add], by rw [e1 _ (by omega)]; exact g3, g4, by omega, by omega, g7, by rw [e1 _ (by omega)]; exact g8⟩
    · exact ⟨s, hh, f, by rw [e1 _ (by omega)]; exact g1, by rw [e1 _ (by omega)]; exact g2, by rw [e1 _ (by omega)]; exact g3, g4, g5, g6, g7, by rw [e1 _ (by omega)]; exact g8⟩
  · rw [e1 (31 + q) (by omega)] at h0 ⊢
    rw [e1 (31 + s) (by omega)]
    exact h4 q s hq hs hn h0
def sFk (p : Nat → Bool) (i k : Nat) : Nat := sFd (fun i => if p i then some i else none) 9999 i k
theorem sFk_s {p : Nat → Bool} {i k : Nat} : sFk p i (k + 1) = if p i then i else sFk p (i + 1) k := by
  unfold sFk
  rw [sFd]
  by_cases e : p i = true
  · rw [if_pos e, if_pos e]
  · rw [if_neg e, if_neg e]
theorem sFk_b {p : Nat → Bool} : ∀ k i, sFk p i k = 9999 ∨ (i ≤ sFk p i k ∧ sFk p i k < i + k)
  | 0, _ => Or.inl rfl
  | k + 1, i => by
    rw [sFk_s]
    split
    · right; omega
    · rcases sFk_b k (i + 1) with e | e
      · exact Or.inl e
      · right; omega
def kN (n : Nat) : Int32 := if n = 9999 then -1 else nI n
theorem sFk_I {p : Nat → Bool} : ∀ k i, i + k < 1000 → sFi p i k = kN (sFk p i k)
  | 0, _, _ => rfl
  | k + 1, i, h => by
    rw [sFk_s, sFi_s]
    by_cases e : p i = true
    · rw [if_pos e, if_pos e]; unfold kN; rw [if_neg (by omega)]
    · rw [if_neg e, if_neg e]; exact sFk_I k (i + 1) (by omega)
/-- the least hollowing for a note, 9999: none -/
def sCs (A : aPl) (row : Nat → Int32) (r t : Nat) : Nat := if row (31 + r) = -2 then 9999 else sFk (fun k => decide (sNt A row r (nI k) = nI t)) 0 (sMy row r + 1)
theorem m_costOf {Fu : Nat} {I : mIT} {r t : Nat} {A : aPl} {row : Nat → Int32} (hF : 701 < Fu) (ho : okPl A) (hk : okR A 999 row) (h : mQ I A row) (hr : r < pR A) : wp (f_X12_costOf Fu I (nI r) (nI t)) (fun y => y.1 = nI (sCs A row r t) ∧ mS I y.2 ∧ y.2 97 = I 97) := by
  have h10 := ho.1
  unfold f_X12_costOf
  refine wp_Be (m_mayBe ho hk h.2.1 hr) ?_
  simp (disch := omega) only [l_31, q_GI, q_cl, r0 h.2.1 (lv_31 hr)]
  unfold sCs
  refine wp_f (fun e => ?_) (fun e => ?_)
  · rw [if_pos e]; exact wp_s ⟨rfl, mS_r I, rfl⟩
  · rw [if_neg e]
    obtain ⟨I1, t1, t2, t3⟩ := m_tries (Fu := Fu) hF ho h
    obtain ⟨I1', t4, t5⟩ := m_triesF (Fu := Fu) (I := I) hF
    rw [t4] at t1
    cases t1
    refine wp_Be t4 ?_
    have hmy := sMy_le row r
    unfold w_X12_costOf_36
    refine wp_loop (fun dd (s : Int32 × Int32 × Int32 × Int32 × mIT) => ∃ (i : Nat) (J : mIT), s = (nI r, nI t, nI (sFk (fun k => decide (sNt A row r (nI k) = nI t)) i (sMy row r + 1 - i)), dN i, J) ∧ dd = i ∧ i ≤ sMy row r + 1 ∧ mS I J ∧ (∀ j, live A j → j ≠ 11 + r → J 89 (53 + j) = row j) ∧ J 97 = I 97) _ ?_ Fu (sMy row r + 1) _ ⟨sMy row r + 1, I1, by rw [Nat.sub_self]; rfl, rfl, by omega, t2, fun j hj _ => t3 j hj, t5 97 (by decide)⟩ (by omega)
    rintro dd s self ⟨i, J, rfl, hdd, hi, f1, f2, f3⟩ hself
    show wp (b_X12_costOf_36 Fu self (nI r) (nI t) _ (dN i) J) _
    unfold b_X12_costOf_36
    by_cases e0 : i = 0
    · subst e0
      exact wp_p (by decide) (wp_s ⟨by rw [Nat.sub_zero], f1, f3⟩)
    · obtain ⟨k, rfl⟩ : ∃ k, i = k + 1 := ⟨i - 1, by omega⟩
      have hd : dN (k + 1) = nI k := by unfold dN; rw [if_neg (by omega)]; rfl
      rw [hd]
      refine wp_n (by rw [q_lt0 (by omega)]; simp) ?_
      have hJ := mQ_s ho h f1
      rw [show (64 : Int32) + nI r = nI (64 + r) from nI_add 64 r]
      simp (disch := omega) only [l_11, q_GI, q_cl, r0 hJ.2.1 (lv_11 hr)]
      have hr2 : rI A (mU J 89 (64 + r) (row (11 + r) + nI k)) 89 53 (upH row r k) := fun j hj => by
        unfold upH
        by_cases e1 : j = 11 + r
        · subst e1; rw [if_pos rfl, show 53 + (11 + r) = 64 + r by omega, q_U]
        · rw [if_neg e1, q_Uj (by omega)]; exact f2 j hj e1
      have hS : mS I (mU J 89 (64 + r) (row (11 + r) + nI k)) := mS_u f1 (kM_hi (by omega))
      have hK := mQ_s ho h hS
      refine wp_B (m_noteOf (b := 53) hF hK.1 ho hK.2.2 (by omega) hr2 (upH_ok ho hk hr e (by omega)) (by omega) hr) ?_
      rintro ⟨v, K⟩ ⟨u1, u2⟩
      dsimp only at u1 u2 ⊢
      rw [upH_nt] at u1
      subst u1
      have nx : ∀ x, x = nI (sFk (fun k => decide (sNt A row r (nI k) = nI t)) k (sMy row r + 1 - k)) → wp (self (nI r, nI t, x, nI k + (-1), K)) (fun y => y.1 = nI (sFk (fun k => decide (sNt A row r (nI k) = nI t)) 0 (sMy row r + 1)) ∧ mS I y.2 ∧ y.2 97 = I 97) := by
        intro x hx
        refine hself k _ (by omega) ⟨k, K, by rw [hx, dN_s], rfl, by omega, mS_t hS (mS_n u2), fun j hj hn => ?_, by rw [u2 97 (by decide) (by decide), mU_other (by decide), f3]⟩
        rw [u2 89 (by decide) (by decide), q_Uj (by omega)]
        exact f2 j hj hn
      have hs2 : sFk (fun k => decide (sNt A row r (nI k) = nI t)) k (sMy row r + 1 - k) = if decide (sNt A row r (nI k) = nI t) = true then k else sFk (fun k => decide (sNt A row r (nI k) = nI t)) (k + 1) (sMy row r + 1 - (k + 1)) := by
        rw [show sMy row r + 1 - k = (sMy row r + 1 - (k + 1)) + 1 by omega, sFk_s]
      refine wp_f (fun e2 => nx _ ?_) (fun e2 => nx _ ?_)
      · rw [hs2, decide_eq_true e2, if_pos rfl]
      · rw [hs2, decide_eq_false e2, if_neg (by simp)]
theorem sCs_b {A : aPl} {row : Nat → Int32} {r t : Nat} : sCs A row r t = 9999 ∨ sCs A row r t ≤ 20 := by
  unfold sCs
  split
  · exact Or.inl rfl
  · rcases sFk_b (p := fun k => decide (sNt A row r (nI k) = nI t)) (sMy row r + 1) 0 with e | e
    · exact Or.inl e
    · have := sMy_le row r
      right; omega
theorem m_needed {Fu : Nat} {I : mIT} {r t : Nat} {A : aPl} {row : Nat → Int32} (hF : 701 < Fu) (ho : okPl A) (hk : okR A 999 row) (h : mQ I A row) (hr : r < pR A) (ht : t < 16) : wp (f_X12_needed Fu I (nI r) (nI t)) (fun y => y.1 = kN (sCs A row r t) ∧ mS (mU I 75 0 0) y.2) := by
  have h0 := mQ_0 (v := 0) h
  unfold f_X12_needed
  refine wp_Be (m_isRoot1 (q_U0 I) h0.1 ho hr) (wp_n ne10 ?_)
  refine wp_Be (m_isNote1 (q_U0 I) ht) (wp_n ne10 ?_)
  refine wp_B (m_costOf hF ho hk h0 hr) ?_
  rintro ⟨v, K⟩ ⟨u1, u2, u3⟩
  dsimp only at u1 u2 ⊢
  subst u1
  unfold kN
  have hb := sCs_b (A := A) (row := row) (r := r) (t := t)
  by_cases e : sCs A row r t = 9999
  · rw [if_pos e, e]; exact wp_p rfl (wp_s ⟨rfl, u2⟩)
  · rw [if_neg e]
    exact wp_n (fun e5 => by rw [show (9999 : Int32) = nI 9999 from rfl, q_eq (by omega) (by omega)] at e5; omega) (wp_s ⟨rfl, u2⟩)
theorem c_needed {Fu : Nat} {I : mIT} {R : mRT} {p n r t : Nat} {A : aPl} {row : Nat → Int32} (hF : 701 < Fu) (ho : okPl A) (hk : okR A 999 row) (h : cQ I R p A row n) (hr : r < pR A) (ht : t < 16) : wp (f_X11_needed Fu R I (nI r) (nI t)) (cX I R p A row (kN (sCs A row r t))) := by
  have h10 := ho.1
  unfold f_X11_needed f_X9_neededFor
  refine wp_X (c_root1 h.1 h.2.2.1 ho hr) (wp_X (c_note1 ht) (wp_Be h.1 ?_))
  unfold sCs
  have core : wp (oB (f_X9_placeOf Fu I 40 (nI r)) (fun r2 => if r2 = (-2) then (some ((-1), I)) else (oB (f_X9_roomToHollow Fu I 40 (nI r)) (fun r14 => w_X9_neededFor_22 Fu 40 p Fu (nI r) (nI t) r14 0 I)))) (cA I R p A row (kN (if row (31 + r) = -2 then 9999 else sFk (fun k => decide (sNt A row r (nI k) = nI t)) 0 (sMy row r + 1)))) := by
    refine wp_Be (c_place (by omega)) ?_
    rw [r0 h.2.2.2.1 (lv_31 hr)]
    refine wp_f (fun e => ?_) (fun e => ?_)
    · rw [if_pos e]; exact wp_s ⟨rfl, cS_r I, n, h⟩
    · rw [if_neg e]
      refine wp_Be (c_room ho hk h.2.2.2.1 hr) ?_
      have hmy := sMy_le row r
      rw [← sFk_I _ _ (by omega)]
      unfold w_X9_neededFor_22
      refine wp_loop (fun dd (s : Int32 × Int32 × Int32 × Int32 × mIT) => ∃ (i : Nat) (J : mIT), s = (nI r, nI t, nI (sMy row r), nI i, J) ∧ dd = sMy row r + 1 - i ∧ i ≤ sMy row r + 1 ∧ (∀ c, c ≠ p + 8 → c ≠ p + 9 → J c = I c) ∧ sFi (fun k => decide (sNt A row r (nI k) = nI t)) 0 (sMy row r + 1) = sFi (fun k => decide (sNt A row r (nI k) = nI t)) i (sMy row r + 1 - i)) _ ?_ Fu (sMy row r + 1) _ ⟨0, I, rfl, rfl, by omega, fun _ _ _ => rfl, rfl⟩ (by omega)
      rintro dd s self ⟨i, J, rfl, hdd, hi, f1, f3⟩ hself
      have hJ := cQ_n h f1
      show wp (b_X9_neededFor_22 Fu 40 p self (nI r) (nI t) (nI (sMy row r)) (nI i) J) _
      unfold b_X9_neededFor_22
      refine wp_i (q_lt (by omega) (by omega)) (fun hle => ?_) (fun hlt => ?_)
      · have hie : i = sMy row r + 1 := by omega
        subst hie
        rw [Nat.sub_self] at f3
        exact wp_s ⟨by rw [f3]; rfl, cS_n h.2.1 f1, n, hJ⟩
      · rw [sFi_t (i := i) (by omega)] at f3
        refine wp_B (c_note (k := 40) hF hJ.2.2.1 ho hJ.2.2.2.1 hk (by omega) hr) ?_
        rintro ⟨v, K⟩ ⟨u1, u2⟩
        dsimp only at u1 u2 ⊢
        subst u1
        have hf : ∀ c, c ≠ p + 8 → c ≠ p + 9 → K c = I c := fun c c1 c2 => by rw [u2 c c1 c2]; exact f1 c c1 c2
        refine wp_f (fun e2 => ?_) (fun e2 => ?_)
        · rw [decide_eq_true e2, if_pos rfl] at f3
          exact wp_s ⟨f3.symm, cS_n h.2.1 hf, n, cQ_n h hf⟩
        · rw [decide_eq_false e2, if_neg (by simp)] at f3
          exact hself (sMy row r + 1 - (i + 1)) _ (by omega) ⟨i + 1, K, by rw [q_1], rfl, by omega, hf, f3⟩
  refine wp_B core ?_
  rintro ⟨v, J⟩ hJ
  exact wp_s ⟨_, rfl, hJ⟩
