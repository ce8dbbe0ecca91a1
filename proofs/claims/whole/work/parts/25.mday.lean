/-! the reference's plan and rows -/
def mPl (I : mIT) (A : aPl) : Prop := I 75 1 = nI (pR A) ∧ I 75 2 = nI (pN A) ∧ I 75 3 = pL A ∧ I 75 4 = nI (pT A) ∧ I 75 5 = nI (pC A) ∧ (∀ r, r < pR A → I 76 r = pK A r) ∧ (∀ j, j < pN A → I 77 j = pW A j) ∧ (∀ j, j < pT A → I 78 j = pU A j) ∧ ((pNo A = [] ∧ I 75 6 = -1) ∨ (pNo A ≠ [] ∧ ∃ a, I 75 6 = nI a ∧ mCo I 79 a (pNo A))) ∧ ((pGr A = [] ∧ I 75 7 = -1) ∨ (pGr A ≠ [] ∧ ∃ a, I 75 7 = nI a ∧ mCo I 79 a (pGr A)))
theorem mPl_fr {I J : mIT} {A : aPl} (h : mPl I A) (h5 : ∀ j, 1 ≤ j → j < 8 → J 75 j = I 75 j) (h6 : J 76 = I 76) (h7 : J 77 = I 77) (h8 : J 78 = I 78) (h9 : J 79 = I 79) : mPl J A := by
  unfold mPl mCo
  rw [h5 1 (by omega) (by omega), h5 2 (by omega) (by omega), h5 3 (by omega) (by omega), h5 4 (by omega) (by omega), h5 5 (by omega) (by omega), h5 6 (by omega) (by omega), h5 7 (by omega) (by omega), h6, h7, h8, h9]
  exact h
theorem m_kept {Fu : Nat} {v m : Int32} (hm : 0 ≤ m) : f_X12_kept Fu v 0 m = some (sCl v m) := by
  unfold f_X12_kept sCl
  grind
theorem m_weather {Fu : Nat} {I : mIT} {d : Nat} {A : aPl} (h : mPl I A) (ho : okPl A) (hw : I 75 47 = -1) (hd : d < 2000) : f_X12_weatherOf Fu I (nI d) = some (sWe A d) := by
  obtain ⟨-, h2, -, -, -, -, h7, -⟩ := h
  obtain ⟨-, o2, -⟩ := ho
  unfold f_X12_weatherOf sWe
  rw [if_pos hw, h2]
  by_cases hn : pN A = 0
  · rw [hn, if_pos (by decide), if_pos rfl]
  · have hne : ¬ nI (pN A) = 0 := by
      intro e
      rw [show (0 : Int32) = nI 0 from rfl, q_eq (by omega) (by omega)] at e
      exact hn e
    have hm : d % pN A < pN A := Nat.mod_lt _ (by omega)
    rw [if_neg hne, if_neg hn, q_G (by rw [bne_iff_ne]; exact hne), pk_rem (by omega) (by omega) (by omega), q_G (q_in (by omega) (by omega)), q_cl (by omega), h7 _ hm]
/-- which weather the reference takes: as drawn, or the day's -/
def mWea (I : mIT) (A : aPl) (d : Nat) (w : Int32) : Prop := (I 75 47 = -1 ∧ w = sWe A d) ∨ (I 75 47 ≠ -1 ∧ w = I 75 47)
theorem m_wea {Fu : Nat} {I : mIT} {d : Nat} {A : aPl} {w : Int32} (h : mPl I A) (ho : okPl A) (hw : mWea I A d w) (hd : d < 2000) : f_X12_weatherOf Fu I (nI d) = some w := by
  rcases hw with ⟨h1, h2⟩ | ⟨h1, h2⟩
  · rw [h2]; exact m_weather h ho h1 hd
  · unfold f_X12_weatherOf; rw [if_neg h1, h2]
theorem q_b {b g r : Nat} {c : Int32} (hc : c = nI g) : nI b + c + nI r = nI (b + g + r) := by rw [hc, nI_add, nI_add]
/-- the places of a row that count: the day, what is of the roots that are, the changes that are -/
def live (A : aPl) (j : Nat) : Prop := j = 0 ∨ (1 ≤ j ∧ j < 1 + pR A) ∨ (11 ≤ j ∧ j < 11 + pR A) ∨ (21 ≤ j ∧ j < 21 + pR A) ∨ (31 ≤ j ∧ j < 31 + pR A) ∨ (41 ≤ j ∧ j < 41 + pC A)
def rI (A : aPl) (I : mIT) (c b : Nat) (row : Nat → Int32) : Prop := ∀ j, live A j → I c (b + j) = row j
theorem lv_1 {A : aPl} {r : Nat} (h : r < pR A) : live A (1 + r) := by unfold live; omega
theorem lv_11 {A : aPl} {r : Nat} (h : r < pR A) : live A (11 + r) := by unfold live; omega
theorem lv_21 {A : aPl} {r : Nat} (h : r < pR A) : live A (21 + r) := by unfold live; omega
theorem lv_31 {A : aPl} {r : Nat} (h : r < pR A) : live A (31 + r) := by unfold live; omega
theorem lv_41 {A : aPl} {r : Nat} (h : r < pC A) : live A (41 + r) := by unfold live; omega
theorem lv_0 {A : aPl} : live A 0 := Or.inl rfl
theorem m_hangs {Fu : Nat} {I : mIT} {b r : Nat} {A : aPl} {row : Nat → Int32} (hb : b ≤ 53) (hr : rI A I 89 b row) (hrr : r < pR A) (h10 : r < 10) : f_X12_hangs Fu I (nI b) (nI r) = some (if row (31 + r) < 0 then 0 else 1) := by
  unfold f_X12_hangs
  rw [q_b (c := 31) (g := 31) rfl, q_G (q_in (by omega) (by omega)), q_cl (by omega), show b + 31 + r = b + (31 + r) by omega, hr _ (lv_31 hrr)]
  split <;> rfl
set_option maxHeartbeats 1000000 in
theorem m_tells {Fu : Nat} {I : mIT} {b d r : Nat} {A : aPl} {row : Nat → Int32} {w : Int32} (h : mPl I A) (ho : okPl A) (hb : b ≤ 53) (hr : rI A I 89 b row) (hd : row 0 = nI d) (hd2 : d < 2000) (hw : mWea I A d w) (hrr : r < pR A) :
    ∃ I', f_X12_tells Fu I (nI b) (nI r) = some I' ∧ (∀ m, m < 7 → I' 91 m = sV A row r 0 w m) ∧ ∀ c, c ≠ 91 → I' c = I c := by
  have h10 : r < 10 := by have := ho.1; omega
  have fr : ∀ {J : mIT} {j : Nat} {v : Int32} {c i : Nat}, c ≠ 91 → mU J 91 j v c i = J c i := fun hc => q_Uc hc
  have e1 : ∀ g, live A (g + r) → I 89 (b + g + r) = row (g + r) := fun g hg => by rw [Nat.add_assoc]; exact hr _ hg
  unfold f_X12_tells
  rw [q_b (c := 1) (g := 1) rfl, q_b (c := 11) (g := 11) rfl, q_b (c := 21) (g := 21) rfl, show nI b + (0 : Int32) = nI b from Int32.add_zero _]
  rw [q_G (q_in (by omega) (by omega)), q_G (show inB (0 : Int32) 7 = true by decide), q_G (q_in (by omega) (by omega)), q_G (show inB (1 : Int32) 7 = true by decide), q_G (q_in (by omega) (by omega)), q_G (show inB (2 : Int32) 7 = true by decide), q_G (q_in (by omega) (by omega)), q_G (show inB (3 : Int32) 7 = true by decide), q_G (q_in (by omega) (by omega))]
  rw [q_cl (by omega : b + 1 + r < 2147483648), q_cl (by omega : b + 11 + r < 2147483648), q_cl (by omega : b + 21 + r < 2147483648), q_cl (by omega : b < 2147483648), q_cl (by omega : r < 2147483648)]
  simp only [fr (show 89 ≠ 91 by decide), fr (show 76 ≠ 91 by decide), q_k0, q_k1, q_k2, q_k3, q_k4, q_k5, q_k6]
  have hd0 : I 89 b = nI d := by have := hr 0 lv_0; rw [Nat.add_zero] at this; rw [this, hd]
  rw [e1 1 (lv_1 hrr), e1 11 (lv_11 hrr), e1 21 (lv_21 hrr), h.2.2.2.2.2.1 r hrr, hd0]
  have hf5 : ∀ (J : mIT), (∀ c, c ≠ 91 → J c = I c) → f_X12_weatherOf Fu J (nI d) = some w ∧ f_X12_hangs Fu J (nI b) (nI r) = some (if row (31 + r) < 0 then 0 else 1) := fun J hJ => by
    refine ⟨m_wea (mPl_fr h (fun j _ _ => by rw [hJ 75 (by decide)]) (hJ _ (by decide)) (hJ _ (by decide)) (hJ _ (by decide)) (hJ _ (by decide))) ho ?_ hd2, m_hangs hb (fun j hj => by rw [hJ 89 (by decide)]; exact hr j hj) hrr h10⟩
    unfold mWea
    rw [hJ 75 (by decide)]
    exact hw
  rw [(hf5 _ (fun c hc => by simp only [mU_other hc])).1, q_B, q_G (show inB (4 : Int32) 7 = true by decide), q_G (q_in (by omega) (by omega)), q_G (show inB (5 : Int32) 7 = true by decide)]
  rw [(hf5 _ (fun c hc => by simp only [mU_other hc])).2, q_B]
  by_cases hp : row (31 + r) < 0
  · rw [if_pos hp]
    simp only [if_true]
    rw [q_G (show inB (6 : Int32) 7 = true by decide)]
    refine ⟨_, rfl, fun m hm => ?_, fun c hc => by simp only [mU_other hc]⟩
    unfold sV
    rw [if_pos hp, hd, Int32.add_zero]
    rcases (show m = 0 ∨ m = 1 ∨ m = 2 ∨ m = 3 ∨ m = 4 ∨ m = 5 ∨ m = 6 by omega) with rfl | rfl | rfl | rfl | rfl | rfl | rfl <;> simp [mU]
  · rw [if_neg hp]
    rw [if_neg (by decide : ¬ (1 : Int32) = 0)]
    rw [q_G (show inB (6 : Int32) 7 = true by decide)]
    refine ⟨_, rfl, fun m hm => ?_, fun c hc => by simp only [mU_other hc]⟩
    unfold sV
    rw [if_neg hp, hd, Int32.add_zero]
    rcases (show m = 0 ∨ m = 1 ∨ m = 2 ∨ m = 3 ∨ m = 4 ∨ m = 5 ∨ m = 6 by omega) with rfl | rfl | rfl | rfl | rfl | rfl | rfl <;> simp [mU]
