/-! what was heard, the image, the tape -/
theorem pic_hl {I K : mIT} {R : mRT} {p n : Nat} {A : aPl} {row : Nat → Int32} {na : Nat} {ac : Nat → Nat → Int32} {hl hl' : hLs} (hp : pic I R p n A row na ac hl) (hH : okH hl') (h1 : cH K 44 hl') (h2 : mH K 55 99 hl') (f : ∀ c, c ≠ 75 → (c < 44 ∨ 47 < c) → c ≠ 99 → K c = I c) (f5 : ∀ j, j ≠ 0 → j ≠ 55 → K 75 j = I 75 j) : pic K R p n A row na ac hl' := by
  obtain ⟨hW, hq0, ho, hk, hA, _, hc, hf, hm, hX, hI, hT⟩ := hp
  have hpp := hc.2.1
  refine ⟨hW, hq0, ho, hk, hA, hH, ⟨hc.1, hpp, cPl_fr hc.2.2.1 (fun c a1 a2 _ _ _ _ => f c (by omega) (by omega) (by omega)), fun j hj => by rw [f 41 (by omega) (by omega) (by omega)]; exact hc.2.2.2.1 j hj, cCo_f hc.2.2.2.2 (fun c a1 a2 => f c (by omega) (by omega) (by omega))⟩, cFv_f hf (fun c a1 a2 => f c (by omega) (by omega) (by omega)), ?_, ⟨?_, ?_, h1, h2⟩, ?_, ?_⟩
  · exact ⟨mPl_fr hm.1 (fun j j1 j2 => f5 j (by omega) (by omega)) (f 76 (by omega) (by omega) (by omega)) (f 77 (by omega) (by omega) (by omega)) (f 78 (by omega) (by omega) (by omega)) (f 79 (by omega) (by omega) (by omega)), fun j hj => by rw [f 89 (by omega) (by omega) (by omega)]; exact hm.2.1 j hj, by rw [f5 47 (by omega) (by omega)]; exact hm.2.2⟩
  · have := hX.1
    unfold cAc rI at *
    rw [f 42 (by omega) (by omega) (by omega), f (42 + 1) (by omega) (by omega) (by omega)]
    exact this
  · have := hX.2.1
    unfold mAc rI at *
    rw [f5 44 (by omega) (by omega), f 90 (by omega) (by omega) (by omega)]
    exact this
  · exact gI_k (by rw [f 0 (by omega) (by omega) (by omega)]) (fun c a1 a2 => f c (by omega) (by omega) (by omega)) (f 102 (by omega) (by omega) (by omega)) (f 103 (by omega) (by omega) (by omega)) (f 104 (by omega) (by omega) (by omega)) (f5 60 (by omega) (by omega)) (f5 61 (by omega) (by omega)) (f5 62 (by omega) (by omega)) hI
  · exact gT_k (by rw [f 0 (by omega) (by omega) (by omega)]) (by rw [f 1 (by omega) (by omega) (by omega)]) (f 2 (by omega) (by omega) (by omega)) (f 21 (by omega) (by omega) (by omega)) (f 80 (by omega) (by omega) (by omega)) (f 81 (by omega) (by omega) (by omega)) (f5 13 (by omega) (by omega)) (f5 15 (by omega) (by omega)) hT
theorem pq_forget {Fu : Nat} {I : mIT} {R : mRT} {L : mLT} (_ : 2200 < Fu) (h : pP I R L) : st_forget Fu I R L pP := by
  obtain ⟨p, n, A, row, na, ac, hl, hp⟩ := h
  unfold st_forget
  refine ⟨_, rfl, _, rfl, p, n, A, row, na, ac, [], pic_hl hp ⟨Nat.zero_le _, fun i hi => absurd hi (Nat.not_lt_zero _)⟩ ⟨?_, fun i hi => absurd hi (Nat.not_lt_zero _)⟩ ⟨?_, fun i hi => absurd hi (Nat.not_lt_zero _)⟩ (fun c c1 c2 c3 => ?_) (fun j j1 j2 => ?_)⟩
  · rw [mU_other (by decide), mU_other (by decide), q_U]; rfl
  · rw [q_U]; rfl
  · rw [mU_other c1, mU_other c1, mU_other (by omega)]
  · rw [q_Uj j2, q_Uj j1, mU_other (by decide)]
theorem pq_fault {Fu : Nat} {I : mIT} {R : mRT} {L : mLT} (_ : 2200 < Fu) (h : pP I R L) : st_fault Fu I R L pP := by
  obtain ⟨p, n, A, row, na, ac, hl, hp⟩ := h
  unfold st_fault
  refine ⟨_, rfl, _, rfl, ?_, p, n, A, row, na, ac, hl, pic_mS hp (mS_r _)⟩
  show I 0 1 = mU I 75 0 0 75 15
  rw [q_Uj (by decide)]
  exact hp.2.2.2.2.2.2.2.2.2.2.2.2.1
theorem c_add {Fu : Nat} {I : mIT} {k : Nat} {v1 v2 v3 : Int32} (h : I 44 3 = nI k) (hk : k < 8) (h3 : v3 = 0 ∨ v3 = 1) : f_X4_add Fu I 44 v1 v2 v3 = some (1, mU (mU (mU (mU I 45 k v1) 46 k v2) 47 k v3) 44 3 (nI (k + 1))) := by
  unfold f_X4_add
  simp (disch := omega) only [mU_other (show (44 : Nat) ≠ 44 + 1 by decide), mU_other (show (44 : Nat) ≠ 44 + 2 by decide), mU_other (show (44 : Nat) ≠ 44 + 3 by decide), h, q_cl, q_GI, q_lt0, q_1, if_false]
  rw [if_pos (by rw [show (8 : Int32) = nI 8 from rfl, q_lt (by omega) (by omega)]; exact hk)]
  rcases h3 with rfl | rfl
  · rw [if_pos rfl]
  · rw [if_neg (by decide)]
theorem c_add0 {Fu : Nat} {I : mIT} {k : Nat} {v1 v2 v3 : Int32} (h : I 44 3 = nI k) (hk : k = 8) : f_X4_add Fu I 44 v1 v2 v3 = some (0, I) := by
  subst hk
  unfold f_X4_add
  rw [h, if_neg (by decide), if_neg (by decide)]
theorem m_hear1 {Fu : Nat} {J : mIT} {k : Nat} {v1 v2 v3 : Int32} (h : J 75 55 = nI k) (hk : k < 8) (e1 : ¬ v1 < 0) (e2 : ¬ 30 < v1) (e3 : ¬ v2 < 0) (e4 : ¬ 15 < v2) (h3 : v3 = 0 ∨ v3 = 1) : f_X12_hear Fu J v1 v2 v3 = some (nI (k + 1), mU (mU (mU (mU (mU J 75 0 0) 99 (3 * k) v1) 99 (3 * k + 1) v2) 99 (3 * k + 2) v3) 75 55 (nI (k + 1))) := by
  unfold f_X12_hear f_X12_within
  simp (disch := omega) only [q_Uj (show (55 : Nat) ≠ 0 by decide), mU_other (show (75 : Nat) ≠ 99 by decide), h, ml_3, a_1, a_2, q_cl, q_GI, q_1, q_U]
  rw [if_neg (by rw [show (8 : Int32) = nI 8 from rfl, q_eq (by omega) (by omega)]; omega), if_neg e1, if_neg e2, q_B, if_neg (by decide), if_neg e3, if_neg e4, q_B, if_neg (by decide)]
  rcases h3 with rfl | rfl
  · rw [if_pos rfl]
  · rw [if_neg (by decide)]
theorem m_hear0 {Fu : Nat} {J : mIT} {k : Nat} {v1 v2 v3 : Int32} (h : J 75 55 = nI k) (hk : k ≤ 8) (hn : k = 8 ∨ v1 < 0 ∨ 30 < v1 ∨ v2 < 0 ∨ 15 < v2) : f_X12_hear Fu J v1 v2 v3 = some (-1, mU (mU J 75 0 0) 81 2 ((mU J 75 0 0) 81 2 + 1)) := by
  have rf : oB (f_X12_refuses Fu (mU J 75 0 0) (2 : Int32)) (fun r36 => some (r36.1, r36.2)) = some (-1, mU (mU J 75 0 0) 81 2 ((mU J 75 0 0) 81 2 + 1)) := rfl
  unfold f_X12_hear f_X12_within
  rw [rf]
  simp only [q_Uj (show (55 : Nat) ≠ 0 by decide), h]
  by_cases e0 : k = 8
  · rw [if_pos (by rw [e0]; rfl)]
  · rw [if_neg (by rw [show (8 : Int32) = nI 8 from rfl, q_eq (by omega) (by omega)]; exact e0)]
    by_cases e1 : v1 < 0
    · rw [if_pos e1, q_B, if_pos rfl]
    · rw [if_neg e1]
      by_cases e2 : 30 < v1
      · rw [if_pos e2, q_B, if_pos rfl]
      · rw [if_neg e2, q_B, if_neg (by decide)]
        by_cases e3 : v2 < 0
        · rw [if_pos e3, q_B, if_pos rfl]
        · rw [if_neg e3, if_pos (by rcases hn with q | q | q | q | q <;> first | exact q | contradiction), q_B, if_pos rfl]
theorem le15 {v : Int32} : (16 ≤ v) ↔ 15 < v := by
  rw [Int32.le_iff_toInt_le, Int32.lt_iff_toInt_lt, show (16 : Int32).toInt = 16 from rfl, show (15 : Int32).toInt = 15 from rfl]
  omega
theorem getD_ap {hl : hLs} {x : Nat × Nat × Int32} {i : Nat} (hi : i < hl.length + 1) : (hl ++ [x]).getD i (0, 0, 0) = if i < hl.length then hl.getD i (0, 0, 0) else x := by
  by_cases e : i < hl.length
  · rw [if_pos e, List.getD_eq_getElem?_getD, List.getD_eq_getElem?_getD, List.getElem?_append_left e]
  · rw [if_neg e, List.getD_eq_getElem?_getD, List.getElem?_append_right (by omega), show i - hl.length = 0 by omega]
    rfl
theorem pq_hear {Fu : Nat} {I : mIT} {R : mRT} {L : mLT} {a1 a2 a3 : Int32} (_ : 2200 < Fu) (h : pP I R L) : st_hear Fu I R L a1 a2 a3 pP := by
  obtain ⟨p, n, A, row, na, ac, hl, hp⟩ := h
  have ⟨hW, hq0, ho, hk, hA, hH, hc, hf, hm, hX, hI, hT⟩ := hp
  unfold st_hear
  have hb : (if a3 = 0 then 0 else 1 : Int32) = 0 ∨ (if a3 = 0 then 0 else 1 : Int32) = 1 := by
    by_cases e : a3 = 0
    · rw [if_pos e]; exact Or.inl rfl
    · rw [if_neg e]; exact Or.inr rfl
  generalize (if a3 = 0 then 0 else 1 : Int32) = b at hb
  have hc3 := hX.2.2.1.1
  have hm5 := hX.2.2.2.1
  have h8 := hH.1
  by_cases e : hl.length = 8 ∨ a1 < 0 ∨ 30 < a1 ∨ a2 < 0 ∨ 15 < a2
  · refine st_rfv (L := L) (k := 2) (f2 := fun J => f_X12_hear Fu J a1 a2 b) (a := -1) hp ?_ ?_
    · have rf : ∀ K : mIT, oG (inB (2 : Int32) 3) (oG (inB (2 : Int32) 3) (some ((-1 : Int32), (mU K 21 ((2 : Int32)).toNatClampNeg ((K 21 ((2 : Int32)).toNatClampNeg) + (1 : Int32)))))) = some (-1, mU K 21 2 (K 21 2 + 1)) := fun K => rfl
      unfold f_X11_hear f_X11_isNote
      simp only [rf]
      by_cases e1 : a1 < 0
      · rw [if_pos e1]
      · rw [if_neg e1]
        by_cases e2 : 30 < a1
        · rw [if_pos e2]
        · rw [if_neg e2]
          by_cases e3 : a2 < 0
          · rw [if_pos e3, q_B, if_pos rfl]
          · rw [if_neg e3]
            by_cases e4 : 15 < a2
            · rw [if_pos (le15.mpr e4), q_B, if_pos rfl]
            · rw [if_neg (fun q => e4 (le15.mp q)), q_B, if_neg (by decide), c_add0 hc3 (by rcases e with q | q | q | q | q <;> first | exact q | contradiction), q_B, if_pos rfl]
    · intro J hJ g
      exact m_hear0 (by rw [g 75 (by omega)]; exact hm5) h8 e
  · have e0 : ¬ hl.length = 8 := fun q => e (Or.inl q)
    have e1 : ¬ a1 < 0 := fun q => e (Or.inr (Or.inl q))
    have e2 : ¬ 30 < a1 := fun q => e (Or.inr (Or.inr (Or.inl q)))
    have e3 : ¬ a2 < 0 := fun q => e (Or.inr (Or.inr (Or.inr (Or.inl q))))
    have e4 : ¬ 15 < a2 := fun q => e (Or.inr (Or.inr (Or.inr (Or.inr q))))
    obtain ⟨d, hd, rfl⟩ : ∃ d : Nat, d ≤ 30 ∧ a1 = nI d := by
      rcases ix a1 31 with (q | q) | ⟨m, q1, q2⟩
      · exact absurd q e1
      · exact absurd (Int32.lt_of_lt_of_le (by decide) q) e2
      · exact ⟨m, by omega, q2⟩
    obtain ⟨t, ht, rfl⟩ : ∃ t : Nat, t ≤ 15 ∧ a2 = nI t := by
      rcases ix a2 16 with (q | q) | ⟨m, q1, q2⟩
      · exact absurd q e3
      · exact absurd (Int32.lt_of_lt_of_le (by decide) q) e4
      · exact ⟨m, by omega, q2⟩
    have hadd := c_add (Fu := Fu) (v1 := nI d) (v2 := nI t) hc3 (by omega) hb
    have hh : f_X11_hear Fu I (nI d) (nI t) b = some (nI (hl.length + 1), mU (mU (mU (mU I 45 hl.length (nI d)) 46 hl.length (nI t)) 47 hl.length b) 44 3 (nI (hl.length + 1))) := by
      unfold f_X11_hear f_X11_isNote
      rw [if_neg e1, if_neg e2, if_neg e3, if_neg (fun q => e4 (le15.mp q)), q_B, if_neg (by decide), hadd, q_B, if_neg ne10]
      unfold f_X4_many
      rw [q_B]
      dsimp only
      rw [q_U]
    refine ⟨_, hh, _, m_hear1 (k := hl.length) (by dsimp only; rw [mU_other (by decide), mU_other (by decide), mU_other (by decide), mU_other (by decide)]; exact hm5) (by omega) e1 e2 e3 e4 hb, rfl, p, n, A, row, na, ac, hl ++ [(d, t, b)], ?_⟩
    dsimp only
    generalize hK : mU (mU (mU (mU (mU (mU (mU (mU (mU I 45 hl.length (nI d)) 46 hl.length (nI t)) 47 hl.length b) 44 3 (nI (hl.length + 1))) 75 0 0) 99 (3 * hl.length) (nI d)) 99 (3 * hl.length + 1) (nI t)) 99 (3 * hl.length + 2) b) 75 55 (nI (hl.length + 1)) = K
    have el : (hl ++ [(d, t, b)]).length = hl.length + 1 := by rw [List.length_append]; rfl
    have e45 : ∀ i, i ≠ hl.length → K 45 i = I 45 i := fun i hi => by rw [← hK]; simp [mU, hi]
    have e46 : ∀ i, i ≠ hl.length → K 46 i = I 46 i := fun i hi => by rw [← hK]; simp [mU, hi]
    have e47 : ∀ i, i ≠ hl.length → K 47 i = I 47 i := fun i hi => by rw [← hK]; simp [mU, hi]
    have f45 : K 45 hl.length = nI d := by rw [← hK]; simp [mU]
    have f46 : K 46 hl.length = nI t := by rw [← hK]; simp [mU]
    have f47 : K 47 hl.length = b := by rw [← hK]; simp [mU]
    have e99 : ∀ i, i ≠ 3 * hl.length → i ≠ 3 * hl.length + 1 → i ≠ 3 * hl.length + 2 → K 99 i = I 99 i := fun i h1 h2 h3 => by rw [← hK]; simp [mU, h1, h2, h3]
    have f99 : K 99 (3 * hl.length) = nI d := by rw [← hK]; simp [mU]
    have g99 : K 99 (3 * hl.length + 1) = nI t := by rw [← hK]; simp [mU]
    have h99 : K 99 (3 * hl.length + 2) = b := by rw [← hK]; simp [mU]
    refine pic_hl hp ⟨by rw [el]; omega, fun i hi => ?_⟩ ⟨?_, fun i hi => ?_⟩ ⟨?_, fun i hi => ?_⟩ (fun c c1 c2 c3 => ?_) (fun j j1 j2 => ?_)
    · rw [el] at hi
      rw [getD_ap hi]
      by_cases q : i < hl.length
      · rw [if_pos q]; exact hH.2 i q
      · rw [if_neg q]; exact ⟨hd, ht⟩
    · rw [el, ← hK, mU_other (by decide), mU_other (by decide), mU_other (by decide), mU_other (by decide), mU_other (by decide), q_U]
    · rw [el] at hi
      rw [getD_ap hi]
      by_cases q : i < hl.length
      · rw [if_pos q, show K (44 + 1) i = I (44 + 1) i from e45 i (by omega), show K (44 + 2) i = I (44 + 2) i from e46 i (by omega), show K (44 + 3) i = I (44 + 3) i from e47 i (by omega)]; exact hX.2.2.1.2 i q
      · have ei : i = hl.length := by omega
        rw [if_neg q, ei]
        exact ⟨f45, f46, f47⟩
    · rw [el, ← hK, q_U]
    · rw [el] at hi
      rw [getD_ap hi]
      by_cases q : i < hl.length
      · rw [if_pos q, e99 _ (by omega) (by omega) (by omega), e99 _ (by omega) (by omega) (by omega), e99 _ (by omega) (by omega) (by omega)]
        exact hX.2.2.2.2 i q
      · have ei : i = hl.length := by omega
        rw [if_neg q, ei]
        exact ⟨f99, g99, h99⟩
    · rw [← hK, mU_other c1, mU_other c3, mU_other c3, mU_other c3, mU_other c1, mU_other (by omega), mU_other (by omega), mU_other (by omega), mU_other (by omega)]
    · rw [← hK, q_Uj j2, mU_other (by decide), mU_other (by decide), mU_other (by decide), q_Uj j1, mU_other (by decide), mU_other (by decide), mU_other (by decide), mU_other (by decide)]
