/-! tower -/
theorem mWd_11 {R : mRT} {u : Nat} (hW : mWd R) (hu : u = 3 ∨ u = 22) : mWd (mUR R 1 11 (some u)) :=
  ⟨mSR_mu hW.1 (Or.inr ⟨rfl, Or.inl rfl⟩), fun v hv => hW.2.1 v (by simpa [mUR] using hv), fun v hv => by simp only [mUR, and_self, if_true] at hv; cases hv; exact hu, fun v hv => hW.2.2.2 v (by simpa [mUR] using hv)⟩
theorem mWd_033 {R : mRT} {u : Nat} (hW : mWd R) (hu : u = 3 ∨ u = 22) : mWd (mUR R 0 3 (some u)) :=
  ⟨mSR_mu hW.1 (Or.inl ⟨rfl, rfl⟩), fun v hv => by simp only [mUR, and_self, if_true] at hv; cases hv; exact hu, fun v hv => hW.2.2.1 v (by simpa [mUR] using hv), fun v hv => hW.2.2.2 v (by simpa [mUR] using hv)⟩
def mTyr (C : mIT) (L : mLT) (r : pO lS) (J : mIT) (M : mLT) : Prop := J 75 0 = 0 ∧ J 75 13 = 0 ∧ (∀ j, (1 ≤ j ∧ j ≤ 7) ∨ 34 < j → J 75 j = C 75 j) ∧ (∀ c, c ≠ 75 → c < 82 ∨ 88 < c → J c = C c) ∧ lF L M ∧ match r with
  | .inl e => J 75 14 = nI e.1 ∧ k15 e.1 ∧ J 75 15 = nI e.2
  | .inr S => J 75 14 = 0 ∧ J 75 15 = -1 ∧ okS S ∧ ∃ ce, mL J S ce
theorem m_towerR {Fu : Nat} {C : mIT} {L : mLT} {B : Nat → Nat} {n nt : Nat} {Q : Int32 × mIT × mLT → Prop} (hF : 2200 < Fu) (ht : tpe B n) (hn : n ≤ nt) (hnt : nt ≤ 700) (h13 : C 75 13 = nI nt) (h80 : ∀ j, j < n → C 80 j = nI (B j)) (k : ∀ J M, mTyr C L (twS B n (n - tA B n 0 + 1) (tA B n 0) S0) J M → wp (b_X12_tower_129 Fu J M) Q) : wp (f_X12_tower Fu C L (nI n)) Q := by
  unfold f_X12_tower
  refine wp_n (by rw [q_lt0 (by omega)]; exact id) (wp_n (by rw [q_Uj (by decide), h13, q_lt (by omega) (by omega)]; omega) ?_)
  unfold b_X12_tower_23
  refine wp_Be (m_right1 (q_U _ _ _ _)) (wp_n (show ¬ ((1 : Int32) = 0) by decide) ?_)
  dsimp only
  rw [q_G0 (by omega) (by omega), q_k0]
  generalize hK : mU (mU (mU (mU (mU (mU (mU (mU (mU (mU (mU (mU (mU (mU (mU C 75 0 0) 75 13 0) 75 15 (-1)) 75 14 0) 75 17 (nI n)) 75 18 0) 75 25 0) 75 26 0) 75 27 (-1)) 75 28 0) 75 29 0) 75 30 (-1)) 75 31 (-1)) 85 0 0) 75 32 0 = K
  have kj : ∀ j, j ≠ 0 → j ≠ 13 → j ≠ 14 → j ≠ 15 → j ≠ 17 → j ≠ 18 → (j < 25 ∨ 32 < j) → K 75 j = C 75 j := fun j a1 a2 a3 a4 a5 a6 a7 => by
    rw [← hK, q_Uj (by omega), mU_other (by decide), q_Uj (by omega), q_Uj (by omega), q_Uj (by omega), q_Uj (by omega), q_Uj (by omega), q_Uj (by omega), q_Uj (by omega), q_Uj a6, q_Uj a5, q_Uj a3, q_Uj a4, q_Uj a2, q_Uj a1]
  have kc : ∀ c, c ≠ 75 → c ≠ 85 → K c = C c := fun c a b => by
    rw [← hK, mU_other a, mU_other b, mU_other a, mU_other a, mU_other a, mU_other a, mU_other a, mU_other a, mU_other a, mU_other a, mU_other a, mU_other a, mU_other a, mU_other a, mU_other a]
  have k32 : K 75 32 = nI 0 := by rw [← hK, q_U]; rfl
  have k85 : K 85 0 = 0 := by rw [← hK, mU_other (by decide), q_U]
  have k31 : K 75 31 = -1 := by rw [← hK, q_Uj (by decide), mU_other (by decide), q_U]
  have k30 : K 75 30 = -1 := by rw [← hK, q_Uj (by decide), mU_other (by decide), q_Uj (by decide), q_U]
  have k29 : K 75 29 = nI 0 := by rw [← hK, q_Uj (by decide), mU_other (by decide), q_Uj (by decide), q_Uj (by decide), q_U]; rfl
  have k28 : K 75 28 = nI 0 := by rw [← hK, q_Uj (by decide), mU_other (by decide), q_Uj (by decide), q_Uj (by decide), q_Uj (by decide), q_U]; rfl
  have k27 : K 75 27 = -1 := by rw [← hK, q_Uj (by decide), mU_other (by decide), q_Uj (by decide), q_Uj (by decide), q_Uj (by decide), q_Uj (by decide), q_U]
  have k26 : K 75 26 = nI 0 := by rw [← hK, q_Uj (by decide), mU_other (by decide), q_Uj (by decide), q_Uj (by decide), q_Uj (by decide), q_Uj (by decide), q_Uj (by decide), q_U]; rfl
  have k25 : K 75 25 = nI 0 := by rw [← hK, q_Uj (by decide), mU_other (by decide), q_Uj (by decide), q_Uj (by decide), q_Uj (by decide), q_Uj (by decide), q_Uj (by decide), q_Uj (by decide), q_U]; rfl
  have k18 : K 75 18 = nI 0 := by rw [← hK, q_Uj (by decide), mU_other (by decide), q_Uj (by decide), q_Uj (by decide), q_Uj (by decide), q_Uj (by decide), q_Uj (by decide), q_Uj (by decide), q_Uj (by decide), q_U]; rfl
  have k17 : K 75 17 = nI n := by rw [← hK, q_Uj (by decide), mU_other (by decide), q_Uj (by decide), q_Uj (by decide), q_Uj (by decide), q_Uj (by decide), q_Uj (by decide), q_Uj (by decide), q_Uj (by decide), q_Uj (by decide), q_U]
  have k14 : K 75 14 = 0 := by rw [← hK, q_Uj (by decide), mU_other (by decide), q_Uj (by decide), q_Uj (by decide), q_Uj (by decide), q_Uj (by decide), q_Uj (by decide), q_Uj (by decide), q_Uj (by decide), q_Uj (by decide), q_Uj (by decide), q_U]
  have kk15 : K 75 15 = -1 := by rw [← hK, q_Uj (by decide), mU_other (by decide), q_Uj (by decide), q_Uj (by decide), q_Uj (by decide), q_Uj (by decide), q_Uj (by decide), q_Uj (by decide), q_Uj (by decide), q_Uj (by decide), q_Uj (by decide), q_Uj (by decide), q_U]
  have k13 : K 75 13 = 0 := by rw [← hK, q_Uj (by decide), mU_other (by decide), q_Uj (by decide), q_Uj (by decide), q_Uj (by decide), q_Uj (by decide), q_Uj (by decide), q_Uj (by decide), q_Uj (by decide), q_Uj (by decide), q_Uj (by decide), q_Uj (by decide), q_Uj (by decide), q_U]
  have k0 : K 75 0 = 0 := by rw [← hK, q_Uj (by decide), mU_other (by decide), q_Uj (by decide), q_Uj (by decide), q_Uj (by decide), q_Uj (by decide), q_Uj (by decide), q_Uj (by decide), q_Uj (by decide), q_Uj (by decide), q_Uj (by decide), q_Uj (by decide), q_Uj (by decide), q_Uj (by decide), q_U]
  have kT : mTq K B n := ⟨k17, fun j hj => by rw [kc 80 (by decide) (by decide)]; exact h80 j hj⟩
  have kL : mL K S0 0 := ⟨k25, k26, k27, k28, k29, fun r hr => absurd hr (Nat.not_lt_zero _), fun r hr => absurd hr (Nat.not_lt_zero _), fun r hr => absurd hr (Nat.not_lt_zero _), fun j hj => by rw [live_0 hj]; exact k85, k30, k31, k32, Nat.zero_le _⟩
  refine wp_B (m_reads hF ht kT k18 (Nat.zero_le _)) ?_
  rintro ⟨J1, M1⟩ ⟨j1, j2, j3⟩
  dsimp only at j1 j2 j3 ⊢
  refine m_twLoop hF ht j1 (by rw [j2.1 14 (by omega)]; exact k14) (mL_s kL j2) (fun J M h => k J M ?_)
  obtain ⟨f1, f2, f3⟩ := h
  refine ⟨by rw [f1.1 0 (by omega), j2.1 0 (by omega)]; exact k0, by rw [f1.1 13 (by omega), j2.1 13 (by omega)]; exact k13, fun j hj => by rw [f1.1 j (by omega), j2.1 j (by omega)]; exact kj j (by omega) (by omega) (by omega) (by omega) (by omega) (by omega) (by omega), fun c a b => by rw [f1.2 c a b, j2.2 c a]; exact kc c a (by omega), lF_t j3 f2, ?_⟩
  cases e : twS B n (n - tA B n 0 + 1) (tA B n 0) S0 with
  | inl ee =>
    rw [e] at f3
    exact f3
  | inr S =>
    rw [e] at f3
    obtain ⟨g1, g2, g3, g4⟩ := f3
    exact ⟨g1, by rw [g2, j2.1 15 (by omega)]; exact kk15, g3, g4⟩
theorem lF_105 {L M : mLT} {v : Int64} (h : lF (mUL L 105 0 v) M) : M 105 0 = v := by
  rw [h 105 0 (by decide)]
  unfold mUL
  rw [if_pos ⟨rfl, rfl⟩]
