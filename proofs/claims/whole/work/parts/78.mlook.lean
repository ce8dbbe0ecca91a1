/-! the reference looks at a token -/
theorem m_good1 {Fu : Nat} {I : mIT} (h : I 75 14 = 0) : f_X12_isGood Fu I = some 1 := by
  unfold f_X12_isGood
  rw [if_pos h]
theorem m_good0 {Fu : Nat} {I : mIT} (h : I 75 14 ≠ 0) : f_X12_isGood Fu I = some 0 := by
  unfold f_X12_isGood
  rw [if_neg h]
theorem m_wrong {Fu : Nat} {I : mIT} {v : Int32} (h : I 75 14 = 0) : f_X12_wrong Fu I v = some (mU (mU I 75 14 v) 75 15 (I 75 20)) := by
  unfold f_X12_wrong
  rw [if_pos h, q_Uj (by decide)]
theorem m_isSgn {Fu : Nat} {I : mIT} {L : mLT} {B : Nat → Nat} {n a c : Nat} (ht : tpe B n) (h : mTk I L B n a) (hc : c < 256) : f_X12_isSign Fu I (nI c) = some (if sg B n a c then 1 else 0) := by
  obtain ⟨h1, h2, h3, h4, h5, h6, h7, h8, h9⟩ := h
  have hK := tK_4 (B := B) (n := n) (a := a)
  have hB := tB_lt (v := a) ht
  unfold f_X12_isSign sg
  rw [h4, h8, show (3 : Int32) = nI 3 from rfl]
  by_cases e : tK B n a = 3
  · rw [if_pos (by rw [e])]
    by_cases e2 : tB B n a = c
    · rw [if_pos (by rw [e2]), decide_eq_true ⟨e, e2⟩]; rfl
    · rw [if_neg (by rw [q_eq (by omega) (by omega)]; exact e2), decide_eq_false (fun q => e2 q.2)]; rfl
  · rw [if_neg (by rw [q_eq (by omega) (by omega)]; exact e), decide_eq_false (fun q => e q.1)]; rfl
theorem mTk_k {I J : mIT} {L : mLT} {B : Nat → Nat} {n a : Nat} (h : mTk I L B n a) (f : ∀ j, 17 ≤ j → j ≤ 23 → J 75 j = I 75 j) (f2 : J 80 = I 80) : mTk J L B n a := by
  unfold mTk mTq at *
  rw [f 17 (by omega) (by omega), f 18 (by omega) (by omega), f 19 (by omega) (by omega), f 20 (by omega) (by omega), f 21 (by omega) (by omega), f 22 (by omega) (by omega), f 23 (by omega) (by omega), f2]
  exact h
/-- the reference while it reads an EXPR whose code begins at c0 -/
def mXs (I : mIT) (c0 : Nat) (x : xS) : Prop := mRs I c0 x.1 x.2.1 ∧ I 75 34 = nI (x.2.2.2.1 + 1) ∧ ∀ d, d ≤ x.2.2.2.1 → d ≤ 6 → I 88 (d + 1) = if x.2.2.2.2.1 d then 1 else 0
