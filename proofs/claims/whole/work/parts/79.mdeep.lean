theorem m_deep1 {Fu : Nat} {I : mIT} {l : Nat} (h : I 75 34 = nI l) (hl : l < 6) : f_X12_deeper Fu I = some (mU (mU I 75 34 (nI (l + 1))) 88 (l + 1) 0) := by
  unfold f_X12_deeper
  rw [h, if_neg (by rw [show (6 : Int32) = nI 6 from rfl, q_le (by omega) (by omega)]; omega), q_1, q_U, q_GI (by omega) (by omega), q_cl (by omega)]
  rfl
theorem m_deep0 {Fu : Nat} {I : mIT} {L : mLT} {B : Nat → Nat} {n a l : Nat} (ht : tpe B n) (hT : mTk I L B n a) (hg : I 75 14 = 0) (h : I 75 34 = nI l) (hl : 6 ≤ l) (hl2 : l < 100) : f_X12_deeper Fu I = some (mU (mU I 75 14 (nI (if tK B n a = 2 ∨ tK B n a = 1 ∨ sg B n a 40 = true then 2 else 1))) 75 15 (nI a)) := by
  have hK := tK_4 (B := B) (n := n) (a := a)
  have h4 := hT.2.2.2.1
  have h20 := hT.2.2.2.2.1
  apply wp_q
  unfold f_X12_deeper
  rw [h, h4, show (6 : Int32) = nI 6 from rfl, show (2 : Int32) = nI 2 from rfl, show (1 : Int32) = nI 1 from rfl, show (40 : Int32) = nI 40 from rfl]
  refine wp_p (by rw [q_le (by omega) (by omega)]; exact hl) ?_
  have w : ∀ k : Nat, wp (oB (f_X12_wrong Fu I (nI k)) (fun r61 => some r61)) (fun y => y = mU (mU I 75 14 (nI k)) 75 15 (nI a)) := fun k => wp_Be (m_wrong hg) (wp_s (by rw [h20]))
  refine wp_i (q_eq (by omega) (by omega)) (fun c2 => ?_) (fun c2 => wp_i (q_eq (by omega) (by omega)) (fun c3 => ?_) (fun c3 => ?_))
  · rw [if_pos (Or.inl c2)]; exact w 2
  · rw [if_pos (Or.inr (Or.inl c3))]; exact w 2
  · refine wp_Be (m_isSgn ht hT (by omega)) ?_
    by_cases c4 : sg B n a 40 = true
    · rw [if_pos c4, if_pos (Or.inr (Or.inr c4))]
      exact wp_n (by decide) (w 2)
    · rw [if_neg c4, if_neg (show ¬ (tK B n a = 2 ∨ tK B n a = 1 ∨ sg B n a 40 = true) by rintro (e | e | e) <;> contradiction)]
      exact wp_p rfl (w 1)
