/-! the image and what is restored from it -/
theorem c_cp0 {Fu : Nat} {I : mIT} {k0 k1 na : Nat} {A : aPl} {ac : Nat → Nat → Int32} (ho : okPl A) (h : cAc I k1 A na ac) (hne : k1 + 1 < k0 ∨ k0 + 1 < k1) : wp (f_X0_copyFrom Fu I k0 k1) (fun J => cAc J k0 A na ac ∧ ∀ c, c ≠ k0 → c ≠ k0 + 1 → J c = I c) := by
  obtain ⟨o, h0, h1, h2, h3⟩ := h
  unfold f_X0_copyFrom
  rw [q_G (show cpB 0 0 2120 2120 2120 = true from rfl), mCp_o (by omega), mU_other (by omega), mCp_o (by omega)]
  refine wp_s ⟨⟨o, h0, by rw [q_Uj (by decide), q_U]; exact h1, by rw [q_U]; exact h2, fun i hi j hj => ?_⟩, fun c c1 c2 => by rw [mU_other c1, mU_other c1, mCp_o c2]⟩
  have := live_53 ho hj
  rw [mU_other (by omega), mU_other (by omega)]
  show mCp I (k1 + 1) (k0 + 1) 0 0 2120 (k0 + 1) _ = _
  rw [mCp_i (by omega) (by omega), ← h3 i hi j hj]
  congr 1
  omega
theorem c_cp4 {Fu : Nat} {I : mIT} {k0 k1 : Nat} {hl : hLs} (h8 : hl.length ≤ 8) (h : cH I k1 hl) (hne : k1 + 3 < k0 ∨ k0 + 3 < k1) : wp (f_X4_copyFrom Fu I k0 k1) (fun J => cH J k0 hl ∧ ∀ c, (c < k0 ∨ k0 + 3 < c) → J c = I c) := by
  obtain ⟨h1, h2⟩ := h
  unfold f_X4_copyFrom
  rw [q_G (show cpB 0 0 8 8 8 = true from rfl), q_G (show cpB 0 0 8 8 8 = true from rfl), q_G (show cpB 0 0 8 8 8 = true from rfl), show (0 : Int32).toNatClampNeg = 0 from rfl, show (8 : Int32).toNatClampNeg = 8 from rfl, mCp_o (c := k1) (by omega), mCp_o (c := k1) (by omega), mCp_o (c := k1) (by omega)]
  refine wp_s ⟨⟨by rw [q_U]; exact h1, fun i hi => ?_⟩, fun c c1 => by rw [mU_other (by omega), mCp_o (by omega), mCp_o (by omega), mCp_o (by omega)]⟩
  have := h2 i hi
  refine ⟨?_, ?_, ?_⟩
  · rw [mU_other (by omega), mCp_o (by omega), mCp_o (by omega), mCp_i (by omega) (by omega), Nat.zero_add, Nat.sub_zero]
    exact this.1
  · rw [mU_other (by omega), mCp_o (by omega), mCp_i (by omega) (by omega), mCp_o (by omega), Nat.zero_add, Nat.sub_zero]
    exact this.2.1
  · rw [mU_other (by omega), mCp_i (by omega) (by omega), mCp_o (by omega), mCp_o (by omega), Nat.zero_add, Nat.sub_zero]
    exact this.2.2
theorem m_copies {Fu : Nat} {I : mIT} {k1 k2 n m : Nat} (h1 : (mT k1).2 = n) (h2 : (mT k2).2 = m) (hnm : n ≤ m) (hm : m < 100000) (hne : k1 ≠ k2) (hF : n < Fu) : wp (f_X12_copies Fu I k1 k2) (fun J => (∀ j, j < n → J k2 j = I k1 j) ∧ ∀ c, c ≠ k2 → J c = I c) := by
  unfold f_X12_copies w_X12_copies_2
  refine wp_loop (fun dd (s : Int32 × mIT) => ∃ (i : Nat) (J : mIT), s = (nI i, J) ∧ dd = n - i ∧ i ≤ n ∧ (∀ j, j < i → J k2 j = I k1 j) ∧ ∀ c, c ≠ k2 → J c = I c) _ ?_ Fu n _ ⟨0, I, rfl, rfl, by omega, fun j hj => absurd hj (by omega), fun _ _ => rfl⟩ hF
  rintro dd s self ⟨i, J, rfl, hdd, hi, f1, f2⟩ hself
  show wp (b_X12_copies_2 Fu k1 k2 self (nI i) J) _
  unfold b_X12_copies_2
  rw [h1, h2]
  refine wp_i (by rw [q_le (by omega) (by omega)]) (fun e => ?_) (fun e => ?_)
  · exact wp_s ⟨fun j hj => f1 j (by omega), f2⟩
  · rw [q_GI (by omega) (by omega), q_GI (by omega) (by omega), q_cl (by omega), q_1]
    refine hself (n - (i + 1)) _ (by omega) ⟨i + 1, _, rfl, rfl, by omega, fun j hj => ?_, fun c hc => by rw [mU_other hc]; exact f2 c hc⟩
    by_cases e2 : j = i
    · subst e2
      rw [q_U, f2 k1 hne]
    · rw [q_Uj e2]; exact f1 j (by omega)
theorem m_copyA {Fu : Nat} {I : mIT} {k1 k2 f f' na : Nat} {A : aPl} {ac : Nat → Nat → Int32} (ho : okPl A) (hF : 2200 < Fu) (h1 : (mT k1).2 = 2120) (h2 : (mT k2).2 = 2120) (hne : k1 ≠ k2) (h5 : k2 ≠ 75) (hn : na ≤ 40) (h : mAc I f k1 A na ac) (hf : I 75 f' = I 75 f) : wp (f_X12_copies Fu I k1 k2) (fun J => mAc J f' k2 A na ac ∧ ∀ c, c ≠ k2 → J c = I c) := by
  refine wp_m (m_copies h1 h2 (by omega) (by omega) hne (by omega)) ?_
  rintro J ⟨j1, j2⟩
  refine ⟨⟨by rw [j2 75 (fun q => h5 q.symm), hf]; exact h.1, fun i hi j hj => ?_⟩, j2⟩
  have := live_53 ho hj
  rw [j1 _ (by omega)]
  exact h.2 i hi j hj
theorem m_copyH {Fu : Nat} {I : mIT} {k1 k2 f f' : Nat} {hl : hLs} (hF : 2200 < Fu) (h1 : (mT k1).2 = 24) (h2 : (mT k2).2 = 24) (hne : k1 ≠ k2) (h5 : k2 ≠ 75) (hn : hl.length ≤ 8) (h : mH I f k1 hl) (hf : I 75 f' = I 75 f) : wp (f_X12_copies Fu I k1 k2) (fun J => mH J f' k2 hl ∧ ∀ c, c ≠ k2 → J c = I c) := by
  refine wp_m (m_copies h1 h2 (by omega) (by omega) hne (by omega)) ?_
  rintro J ⟨j1, j2⟩
  refine ⟨⟨by rw [j2 75 (fun q => h5 q.symm), hf]; exact h.1, fun i hi => ?_⟩, j2⟩
  rw [j1 _ (by omega), j1 _ (by omega), j1 _ (by omega)]
  exact h.2 i hi
theorem cAc_f {I J : mIT} {k na : Nat} {A : aPl} {ac : Nat → Nat → Int32} (h : cAc I k A na ac) (f0 : J k = I k) (f1 : J (k + 1) = I (k + 1)) : cAc J k A na ac := by
  unfold cAc rI at *
  rw [f0, f1]
  exact h
theorem cHk_f {I J : mIT} {k : Nat} {hl : hLs} (h : cH I k hl) (f : ∀ c, k ≤ c → c ≤ k + 3 → J c = I c) : cH J k hl := by
  unfold cH at *
  rw [f k (by omega) (by omega), f (k + 1) (by omega) (by omega), f (k + 2) (by omega) (by omega), f (k + 3) (by omega) (by omega)]
  exact h
theorem mAc_f {I J : mIT} {f k na : Nat} {A : aPl} {ac : Nat → Nat → Int32} (h : mAc I f k A na ac) (f0 : J 75 f = I 75 f) (f1 : J k = I k) : mAc J f k A na ac := by
  unfold mAc rI at *
  rw [f0, f1]
  exact h
theorem mH_f {I J : mIT} {f k : Nat} {hl : hLs} (h : mH I f k hl) (f0 : J 75 f = I 75 f) (f1 : J k = I k) : mH J f k hl := by
  unfold mH at *
  rw [f0, f1]
  exact h
theorem c_image {Fu : Nat} {I : mIT} {na : Nat} {A : aPl} {row : Nat → Int32} {ac : Nat → Nat → Int32} {hl : hLs} (ho : okPl A) (h8 : hl.length ≤ 8) (hr : rI A I 41 0 row) (h1 : cAc I 42 A na ac) (h2 : cH I 44 hl) : wp (f_X11_image Fu I) (fun J => rI A J 49 0 row ∧ cAc J 50 A na ac ∧ cH J 52 hl ∧ J 0 10 = 1 ∧ (∀ j, j ≠ 10 → J 0 j = I 0 j) ∧ ∀ c, c ≠ 0 → (c < 49 ∨ 55 < c) → J c = I c) := by
  unfold f_X11_image
  refine wp_Be c_copy9 ?_
  generalize hJ1 : mCp I (40 + 1) (48 + 1) 0 0 53 = J1
  have g1 : ∀ c, c ≠ 49 → J1 c = I c := fun c hc => by rw [← hJ1, mCp_o hc]
  have r1 : rI A J1 49 0 row := fun j hj => by
    have := live_53 ho hj
    rw [← hJ1, mCp_i (by omega) (by omega), ← hr j hj]
    congr 1
    omega
  refine wp_B (c_cp0 (k0 := 50) ho (cAc_f h1 (g1 42 (by decide)) (g1 (42 + 1) (by decide))) (by omega)) ?_
  rintro J2 ⟨a2, g2⟩
  refine wp_B (c_cp4 (k0 := 52) h8 (cHk_f h2 (fun c c1 c2 => by rw [g2 c (by omega) (by omega), g1 c (by omega)])) (by omega)) ?_
  rintro J3 ⟨a3, g3⟩
  refine wp_s ⟨fun j hj => ?_, ?_, ?_, q_U _ _ _ _, fun j hj => ?_, fun c c1 c2 => ?_⟩
  · rw [mU_other (by decide), g3 49 (by omega), g2 49 (by decide) (by decide)]
    exact r1 j hj
  · exact cAc_f a2 (by rw [mU_other (by decide), g3 50 (by omega)]) (by rw [mU_other (by decide), g3 _ (by omega)])
  · exact cHk_f a3 (fun c c1 c2 => mU_other (by omega))
  · rw [q_Uj hj, g3 0 (by omega), g2 0 (by decide) (by decide), g1 0 (by decide)]
  · rw [mU_other c1, g3 c (by omega), g2 c (by omega) (by omega), g1 c (by omega)]
theorem m_image {Fu : Nat} {I : mIT} {na : Nat} {A : aPl} {row : Nat → Int32} {ac : Nat → Nat → Int32} {hl : hLs} (hF : 2200 < Fu) (ho : okPl A) (hn : na ≤ 40) (h8 : hl.length ≤ 8) (hr : rI A I 89 0 row) (h1 : mAc I 44 90 A na ac) (h2 : mH I 55 99 hl) : wp (f_X12_image Fu I) (fun J => rI A J 102 0 row ∧ mAc J 61 103 A na ac ∧ mH J 62 104 hl ∧ J 75 60 = 1 ∧ (∀ j, j ≠ 0 → j ≠ 60 → j ≠ 61 → j ≠ 62 → J 75 j = I 75 j) ∧ ∀ c, c ≠ 75 → c ≠ 102 → c ≠ 103 → c ≠ 104 → J c = I c) := by
  unfold f_X12_image
  generalize hI1 : mU (mU (mU (mU I 75 0 0) 75 60 1) 75 61 ((mU (mU I 75 0 0) 75 60 1) 75 44)) 75 62 ((mU (mU (mU I 75 0 0) 75 60 1) 75 61 ((mU (mU I 75 0 0) 75 60 1) 75 44)) 75 55) = I1
  have g : ∀ c, c ≠ 75 → I1 c = I c := fun c hc => by rw [← hI1, mU_other hc, mU_other hc, mU_other hc, mU_other hc]
  have g5 : ∀ j, j ≠ 0 → j ≠ 60 → j ≠ 61 → j ≠ 62 → I1 75 j = I 75 j := fun j a b c d => by rw [← hI1, q_Uj d, q_Uj c, q_Uj b, q_Uj a]
  have e60 : I1 75 60 = 1 := by rw [← hI1, q_Uj (by decide), q_Uj (by decide), q_U]
  have e61 : I1 75 61 = I 75 44 := by rw [← hI1, q_Uj (by decide), q_U, q_Uj (by decide), q_Uj (by decide)]
  have e62 : I1 75 62 = I 75 55 := by rw [← hI1, q_U, q_Uj (by decide), q_Uj (by decide), q_Uj (by decide)]
  unfold w_X12_image_28
  refine wp_loop (fun dd (s : Int32 × mIT) => ∃ (i : Nat) (J : mIT), s = (nI i, J) ∧ dd = 53 - i ∧ i ≤ 53 ∧ (∀ j, j < i → J 102 j = I 89 j) ∧ ∀ c, c ≠ 102 → J c = I1 c) _ ?_ Fu 53 _ ⟨0, I1, rfl, rfl, by omega, fun j hj => absurd hj (by omega), fun _ _ => rfl⟩ (by omega)
  rintro dd s self ⟨i, J, rfl, hdd, hi, f1, f2⟩ hself
  show wp (b_X12_image_28 Fu self (nI i) J) _
  unfold b_X12_image_28
  rw [show (53 : Int32) = nI 53 from rfl]
  refine wp_i (by rw [q_le (by omega) (by omega)]) (fun e => ?_) (fun e => ?_)
  · have k1 : mAc J 44 90 A na ac := mAc_f h1 (by rw [f2 75 (by decide), g5 44 (by decide) (by decide) (by decide) (by decide)]) (by rw [f2 90 (by decide), g 90 (by decide)])
    refine wp_B (m_copyA (f' := 61) ho hF rfl rfl (by decide) (by decide) hn k1 (by rw [f2 75 (by decide), e61, g5 44 (by decide) (by decide) (by decide) (by decide)])) ?_
    rintro J2 ⟨a2, g2⟩
    have k2 : mH J2 55 99 hl := mH_f h2 (by rw [g2 75 (by decide), f2 75 (by decide), g5 55 (by decide) (by decide) (by decide) (by decide)]) (by rw [g2 99 (by decide), f2 99 (by decide), g 99 (by decide)])
    refine wp_B (m_copyH (f' := 62) hF rfl rfl (by decide) (by decide) h8 k2 (by rw [g2 75 (by decide), f2 75 (by decide), e62, g5 55 (by decide) (by decide) (by decide) (by decide)])) ?_
    rintro J3 ⟨a3, g3⟩
    refine wp_s ⟨fun j hj => ?_, mAc_f a2 (by rw [g3 75 (by decide)]) (g3 103 (by decide)), a3, by rw [g3 75 (by decide), g2 75 (by decide), f2 75 (by decide)]; exact e60, fun j a b c d => by rw [g3 75 (by decide), g2 75 (by decide), f2 75 (by decide)]; exact g5 j a b c d, fun c c1 c2 c3 c4 => by rw [g3 c c4, g2 c c3, f2 c c2, g c c1]⟩
    have := live_53 ho hj
    rw [g3 102 (by decide), g2 102 (by decide), Nat.zero_add, f1 j (by omega)]
    exact r0 hr hj
  · rw [q_GI (by omega) (by omega), q_GI (by omega) (by omega), q_cl (by omega), q_1]
    refine hself (53 - (i + 1)) _ (by omega) ⟨i + 1, _, rfl, rfl, by omega, fun j hj => ?_, fun c hc => by rw [mU_other hc]; exact f2 c hc⟩
    by_cases e2 : j = i
    · subst e2
      rw [q_U, f2 89 (by decide), g 89 (by decide)]
    · rw [q_Uj e2]; exact f1 j (by omega)
theorem pq_image {Fu : Nat} {I : mIT} {R : mRT} {L : mLT} (hF : 2200 < Fu) (h : pP I R L) : st_image Fu I R L pP := by
  obtain ⟨p, n, A, row, na, ac, hl, hp⟩ := h
  have ⟨hW, hq0, ho, hk, hA, hH, hc, hf, hm, hX, hI, hT⟩ := hp
  have hpp := hc.2.1
  unfold st_image
  obtain ⟨J, e1, j1, j2, j3, j4, j5, j6⟩ := c_image (Fu := Fu) ho hH.1 hc.2.2.2.1 hX.1 hX.2.2.1
  have gJ : ∀ c, 75 ≤ c → J c = I c := fun c hc => j6 c (by omega) (by omega)
  obtain ⟨K, e2, k1, k2, k3, k4, k5, k6⟩ := m_image hF ho hA.1 hH.1 (mQ_ge hm gJ).2.1 (mAc_ge hX.2.1 gJ) (mH_f hX.2.2.2 (by rw [gJ 75 (by omega)]) (gJ 99 (by omega)))
  refine ⟨J, e1, K, e2, p, n, A, row, na, ac, hl, ?_⟩
  have f : ∀ c, c ≠ 0 → (c < 49 ∨ 55 < c) → c ≠ 75 → c ≠ 102 → c ≠ 103 → c ≠ 104 → K c = I c := fun c a b d e f g => by rw [k6 c d e f g, j6 c a b]
  have f5 : ∀ j, j ≠ 0 → j ≠ 60 → j ≠ 61 → j ≠ 62 → K 75 j = I 75 j := fun j a b c d => by rw [k5 j a b c d, gJ 75 (by omega)]
  have f0 : ∀ j, K 0 j = J 0 j := fun j => by rw [k6 0 (by decide) (by decide) (by decide) (by decide)]
  have fk : ∀ c, 49 ≤ c → c ≤ 55 → K c = J c := fun c a b => k6 c (by omega) (by omega) (by omega) (by omega)
  refine ⟨hW, hq0, ho, hk, hA, hH, ⟨hc.1, hpp, cPl_fr hc.2.2.1 (fun c a1 a2 _ _ _ _ => f c (by omega) (by omega) (by omega) (by omega) (by omega) (by omega)), fun j hj => by rw [f 41 (by omega) (by omega) (by omega) (by omega) (by omega) (by omega)]; exact hc.2.2.2.1 j hj, cCo_f hc.2.2.2.2 (fun c a1 a2 => f c (by omega) (by omega) (by omega) (by omega) (by omega) (by omega))⟩, cFv_f hf (fun c a1 a2 => f c (by omega) (by omega) (by omega) (by omega) (by omega) (by omega)), ?_, ?_, ?_, ?_⟩
  · exact ⟨mPl_fr hm.1 (fun j a1 a2 => f5 j (by omega) (by omega) (by omega) (by omega)) (f 76 (by omega) (by omega) (by omega) (by omega) (by omega) (by omega)) (f 77 (by omega) (by omega) (by omega) (by omega) (by omega) (by omega)) (f 78 (by omega) (by omega) (by omega) (by omega) (by omega) (by omega)) (f 79 (by omega) (by omega) (by omega) (by omega) (by omega) (by omega)), fun j hj => by rw [f 89 (by omega) (by omega) (by omega) (by omega) (by omega) (by omega)]; exact hm.2.1 j hj, by rw [f5 47 (by omega) (by omega) (by omega) (by omega)]; exact hm.2.2⟩
  · exact gX_k (fun c a1 a2 => f c (by omega) (by omega) (by omega) (by omega) (by omega) (by omega)) (f 90 (by omega) (by omega) (by omega) (by omega) (by omega) (by omega)) (f 99 (by omega) (by omega) (by omega) (by omega) (by omega) (by omega)) (f5 44 (by omega) (by omega) (by omega) (by omega)) (f5 55 (by omega) (by omega) (by omega) (by omega)) hX
  · refine Or.inr ⟨by rw [f0]; exact j4, k4, row, na, ac, hl, hk, hA, hH, fun j hj => by rw [fk 49 (by omega) (by omega)]; exact j1 j hj, k1, cAc_f j2 (fk 50 (by omega) (by omega)) (fk 51 (by omega) (by omega)), k2, cHk_f j3 (fun c a1 a2 => fk c (by omega) (by omega)), k3⟩
  · exact gT_k (by rw [f0, j5 1 (by decide)]) (by rw [f 1 (by omega) (by omega) (by omega) (by omega) (by omega) (by omega)]) (f 2 (by omega) (by omega) (by omega) (by omega) (by omega) (by omega)) (f 21 (by omega) (by omega) (by omega) (by omega) (by omega) (by omega)) (f 80 (by omega) (by omega) (by omega) (by omega) (by omega) (by omega)) (f 81 (by omega) (by omega) (by omega) (by omega) (by omega) (by omega)) (f5 13 (by omega) (by omega) (by omega) (by omega)) (f5 15 (by omega) (by omega) (by omega) (by omega)) hT
theorem c_restore {Fu : Nat} {I : mIT} {na : Nat} {A : aPl} {row : Nat → Int32} {ac : Nat → Nat → Int32} {hl : hLs} (ho : okPl A) (h8 : hl.length ≤ 8) (h0 : I 0 10 = 1) (hr : rI A I 49 0 row) (h1 : cAc I 50 A na ac) (h2 : cH I 52 hl) : wp (f_X11_restore Fu I) (fun y => y.1 = 1 ∧ rI A y.2 41 0 row ∧ cAc y.2 42 A na ac ∧ cH y.2 44 hl ∧ y.2 56 4 = 0 ∧ y.2 66 4 = 0 ∧ ∀ c, (c < 41 ∨ 47 < c) → c ≠ 56 → c ≠ 66 → y.2 c = I c) := by
  unfold f_X11_restore
  refine wp_n (by rw [h0]; decide) (wp_Be c_copy9 ?_)
  generalize hJ1 : mCp I (48 + 1) (40 + 1) 0 0 53 = J1
  have g1 : ∀ c, c ≠ 41 → J1 c = I c := fun c hc => by rw [← hJ1, mCp_o hc]
  have r1 : rI A J1 41 0 row := fun j hj => by
    have := live_53 ho hj
    rw [← hJ1, mCp_i (by omega) (by omega), ← hr j hj]
    congr 1
    omega
  refine wp_B (c_cp0 (k0 := 42) ho (cAc_f h1 (g1 50 (by decide)) (g1 (50 + 1) (by decide))) (by omega)) ?_
  rintro J2 ⟨a2, g2⟩
  refine wp_B (c_cp4 (k0 := 44) h8 (cHk_f h2 (fun c c1 c2 => by rw [g2 c (by omega) (by omega), g1 c (by omega)])) (by omega)) ?_
  rintro J3 ⟨a3, g3⟩
  unfold f_X11_forgetWork f_X1_clear f_X2_clear
  refine wp_s ?_
  dsimp only
  refine ⟨rfl, fun j hj => ?_, ?_, ?_, ?_, q_U _ _ _ _, fun c c1 c2 c3 => ?_⟩
  · rw [mU_other (by decide), mU_other (by decide), g3 41 (by omega), g2 41 (by decide) (by decide)]
    exact r1 j hj
  · exact cAc_f a2 (by rw [mU_other (by decide), mU_other (by decide), g3 42 (by omega)]) (by rw [mU_other (by decide), mU_other (by decide), g3 _ (by omega)])
  · exact cHk_f a3 (fun c c1 c2 => by rw [mU_other (by omega), mU_other (by omega)])
  · rw [mU_other (by decide), q_U]
  · rw [mU_other c3, mU_other c2, g3 c (by omega), g2 c (by omega) (by omega), g1 c (by omega)]
theorem m_restore {Fu : Nat} {I : mIT} {na : Nat} {A : aPl} {row : Nat → Int32} {ac : Nat → Nat → Int32} {hl : hLs} (hF : 2200 < Fu) (ho : okPl A) (hn : na ≤ 40) (h8 : hl.length ≤ 8) (h0 : I 75 60 = 1) (hr : rI A I 102 0 row) (h1 : mAc I 61 103 A na ac) (h2 : mH I 62 104 hl) : wp (f_X12_restore Fu I) (fun y => y.1 = 1 ∧ rI A y.2 89 0 row ∧ mAc y.2 44 90 A na ac ∧ mH y.2 55 99 hl ∧ (∀ j, j ≠ 0 → j ≠ 44 → j ≠ 55 → y.2 75 j = I 75 j) ∧ ∀ c, c ≠ 75 → c ≠ 89 → c ≠ 90 → c ≠ 99 → y.2 c = I c) := by
  unfold f_X12_restore
  refine wp_n (by rw [q_Uj (by decide), h0]; decide) ?_
  generalize hI1 : mU (mU (mU I 75 0 0) 75 44 ((mU I 75 0 0) 75 61)) 75 55 ((mU (mU I 75 0 0) 75 44 ((mU I 75 0 0) 75 61)) 75 62) = I1
  have g : ∀ c, c ≠ 75 → I1 c = I c := fun c hc => by rw [← hI1, mU_other hc, mU_other hc, mU_other hc]
  have g5 : ∀ j, j ≠ 0 → j ≠ 44 → j ≠ 55 → I1 75 j = I 75 j := fun j a b c => by rw [← hI1, q_Uj c, q_Uj b, q_Uj a]
  have e44 : I1 75 44 = I 75 61 := by rw [← hI1, q_Uj (by decide), q_U, q_Uj (by decide)]
  have e55 : I1 75 55 = I 75 62 := by rw [← hI1, q_U, q_Uj (by decide), q_Uj (by decide)]
  unfold w_X12_restore_32
  refine wp_loop (fun dd (s : Int32 × mIT) => ∃ (i : Nat) (J : mIT), s = (nI i, J) ∧ dd = 53 - i ∧ i ≤ 53 ∧ (∀ j, j < i → J 89 j = I 102 j) ∧ ∀ c, c ≠ 89 → J c = I1 c) _ ?_ Fu 53 _ ⟨0, I1, rfl, rfl, by omega, fun j hj => absurd hj (by omega), fun _ _ => rfl⟩ (by omega)
  rintro dd s self ⟨i, J, rfl, hdd, hi, f1, f2⟩ hself
  show wp (b_X12_restore_32 Fu self (nI i) J) _
  unfold b_X12_restore_32
  rw [show (53 : Int32) = nI 53 from rfl]
  refine wp_i (by rw [q_le (by omega) (by omega)]) (fun e => ?_) (fun e => ?_)
  · have k1 : mAc J 61 103 A na ac := mAc_f h1 (by rw [f2 75 (by decide), g5 61 (by decide) (by decide) (by decide)]) (by rw [f2 103 (by decide), g 103 (by decide)])
    refine wp_B (m_copyA (f' := 44) ho hF rfl rfl (by decide) (by decide) hn k1 (by rw [f2 75 (by decide), e44, g5 61 (by decide) (by decide) (by decide)])) ?_
    rintro J2 ⟨a2, g2⟩
    have k2 : mH J2 62 104 hl := mH_f h2 (by rw [g2 75 (by decide), f2 75 (by decide), g5 62 (by decide) (by decide) (by decide)]) (by rw [g2 104 (by decide), f2 104 (by decide), g 104 (by decide)])
    refine wp_B (m_copyH (f' := 55) hF rfl rfl (by decide) (by decide) h8 k2 (by rw [g2 75 (by decide), f2 75 (by decide), e55, g5 62 (by decide) (by decide) (by decide)])) ?_
    rintro J3 ⟨a3, g3⟩
    refine wp_s ?_
    dsimp only
    refine ⟨rfl, fun j hj => ?_, mAc_f a2 (by rw [g3 75 (by decide)]) (g3 90 (by decide)), a3, fun j a b c => by rw [g3 75 (by decide), g2 75 (by decide), f2 75 (by decide)]; exact g5 j a b c, fun c c1 c2 c3 c4 => by rw [g3 c c4, g2 c c3, f2 c c2, g c c1]⟩
    have := live_53 ho hj
    rw [g3 89 (by decide), g2 89 (by decide), Nat.zero_add, f1 j (by omega)]
    exact r0 hr hj
  · rw [q_GI (by omega) (by omega), q_GI (by omega) (by omega), q_cl (by omega), q_1]
    refine hself (53 - (i + 1)) _ (by omega) ⟨i + 1, _, rfl, rfl, by omega, fun j hj => ?_, fun c hc => by rw [mU_other hc]; exact f2 c hc⟩
    by_cases e2 : j = i
    · subst e2
      rw [q_U, f2 102 (by decide), g 102 (by decide)]
    · rw [q_Uj e2]; exact f1 j (by omega)
theorem pq_restore {Fu : Nat} {I : mIT} {R : mRT} {L : mLT} (hF : 2200 < Fu) (h : pP I R L) : st_restore Fu I R L pP := by
  obtain ⟨p, n, A, row, na, ac, hl, hp⟩ := h
  have ⟨hW, hq0, ho, hk, hA, hH, hc, hf, hm, hX, hI, hT⟩ := hp
  have hpp := hc.2.1
  unfold st_restore
  rcases hI with ⟨z1, z2⟩ | ⟨z1, z2, row', na', ac', hl', i1, i2, i3, i4, i5, i6, i7, i8, i9⟩
  · refine ⟨(0, I), by unfold f_X11_restore; rw [z1]; rfl, (0, mU I 75 0 0), by unfold f_X12_restore; dsimp only; rw [q_Uj (by decide), z2]; rfl, rfl, p, n, A, row, na, ac, hl, pic_mS hp (mS_r _)⟩
  · obtain ⟨J, e1, j0, j1, j2, j3, j4, j5, j6⟩ := c_restore (Fu := Fu) ho i3.1 z1 i4 i6 i8
    have gJ : ∀ c, 75 ≤ c → J.2 c = I c := fun c hc => j6 c (by omega) (by omega) (by omega)
    obtain ⟨K, e2, k0, k1, k2, k3, k4, k5⟩ := m_restore hF ho i2.1 i3.1 (by rw [gJ 75 (by omega)]; exact z2) (rI_f i5 (fun j _ => by rw [gJ 102 (by omega)])) (mAc_f i7 (by rw [gJ 75 (by omega)]) (gJ 103 (by omega))) (mH_f i9 (by rw [gJ 75 (by omega)]) (gJ 104 (by omega)))
    refine ⟨J, e1, K, e2, by rw [j0, k0], p, 0, A, row', na', ac', hl', ?_⟩
    have f : ∀ c, (c < 41 ∨ 47 < c) → c ≠ 56 → c ≠ 66 → c ≠ 75 → c ≠ 89 → c ≠ 90 → c ≠ 99 → K.2 c = I c := fun c a b d e f g h => by rw [k5 c e f g h, j6 c a b d]
    have f5 : ∀ j, j ≠ 0 → j ≠ 44 → j ≠ 55 → K.2 75 j = I 75 j := fun j a b c => by rw [k4 j a b c, gJ 75 (by omega)]
    have fk : ∀ c, c < 75 → K.2 c = J.2 c := fun c a => k5 c (by omega) (by omega) (by omega) (by omega)
    refine ⟨hW, hq0, ho, i1, i2, i3, ⟨hc.1, hpp, cPl_fr hc.2.2.1 (fun c a1 a2 _ _ _ _ => f c (by omega) (by omega) (by omega) (by omega) (by omega) (by omega) (by omega)), fun j hj => by rw [fk 41 (by omega)]; exact j1 j hj, ⟨by rw [fk 56 (by omega)]; exact j4, by omega, fun q => absurd q (by omega), fun k hk => absurd hk (by omega)⟩⟩, Or.inl (by rw [fk 66 (by omega)]; exact j5), ?_, ?_, ?_, ?_⟩
    · exact ⟨mPl_fr hm.1 (fun j a1 a2 => f5 j (by omega) (by omega) (by omega)) (f 76 (by omega) (by omega) (by omega) (by omega) (by omega) (by omega) (by omega)) (f 77 (by omega) (by omega) (by omega) (by omega) (by omega) (by omega) (by omega)) (f 78 (by omega) (by omega) (by omega) (by omega) (by omega) (by omega) (by omega)) (f 79 (by omega) (by omega) (by omega) (by omega) (by omega) (by omega) (by omega)), k1, by rw [f5 47 (by omega) (by omega) (by omega)]; exact hm.2.2⟩
    · exact ⟨cAc_f j2 (fk 42 (by omega)) (fk _ (by omega)), k2, cHk_f j3 (fun c a1 a2 => fk c (by omega)), k3⟩
    · exact gI_k (by rw [f 0 (by omega) (by omega) (by omega) (by omega) (by omega) (by omega) (by omega)]) (fun c a1 a2 => f c (by omega) (by omega) (by omega) (by omega) (by omega) (by omega) (by omega)) (f 102 (by omega) (by omega) (by omega) (by omega) (by omega) (by omega) (by omega)) (f 103 (by omega) (by omega) (by omega) (by omega) (by omega) (by omega) (by omega)) (f 104 (by omega) (by omega) (by omega) (by omega) (by omega) (by omega) (by omega)) (f5 60 (by omega) (by omega) (by omega)) (f5 61 (by omega) (by omega) (by omega)) (f5 62 (by omega) (by omega) (by omega)) hp.2.2.2.2.2.2.2.2.2.2.1
    · exact gT_k (by rw [f 0 (by omega) (by omega) (by omega) (by omega) (by omega) (by omega) (by omega)]) (by rw [f 1 (by omega) (by omega) (by omega) (by omega) (by omega) (by omega) (by omega)]) (f 2 (by omega) (by omega) (by omega) (by omega) (by omega) (by omega) (by omega)) (f 21 (by omega) (by omega) (by omega) (by omega) (by omega) (by omega) (by omega)) (f 80 (by omega) (by omega) (by omega) (by omega) (by omega) (by omega) (by omega)) (f 81 (by omega) (by omega) (by omega) (by omega) (by omega) (by omega) (by omega)) (f5 13 (by omega) (by omega) (by omega)) (f5 15 (by omega) (by omega) (by omega)) hT
