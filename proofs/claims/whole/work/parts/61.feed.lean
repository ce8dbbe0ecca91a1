/-! the tape -/
def by8 (v : Int32) (s : Nat) : Nat := ((v >>> (nI s &&& 31)) &&& 255).toNatClampNeg
theorem by8_e (v : Int32) (s : Nat) : (v >>> (nI s &&& 31)) &&& 255 = nI (by8 v s) ∧ by8 v s < 256 := by
  obtain ⟨j, hj, e⟩ := pk_andE (v >>> (nI s &&& 31)) (m := 255) 8 (by decide)
  unfold by8
  rw [e, q_cl (by omega)]
  exact ⟨rfl, hj⟩
theorem bt_255 : ∀ i : Nat, i < 32 → bt 255 i = decide (i < 8) := by decide +kernel
theorem by8_u {v : Int32} {s : Nat} (hs : s ≤ 24) : ((v.toUInt32 >>> ((nI s).toUInt32 &&& Int32.toUInt32 31)).toInt32) &&& 255 = (v >>> (nI s &&& 31)) &&& 255 := by
  apply b_ext
  intro i hi
  rw [b_and, b_and, b_ushr s (by omega), bt_255 i hi]
  by_cases e : i < 8
  · rw [b_sshr s (by omega) v hi, if_pos (by omega)]
  · rw [decide_eq_false e, Bool.and_false, Bool.and_false]
theorem i8_255 (z : Int32) : z.toInt8 = (z &&& 255).toInt8 := by
  apply Int8.toBitVec_inj.mp
  apply BitVec.eq_of_getLsbD_eq
  intro i hi
  have h255 : ∀ i : Nat, i < 8 → (Int32.toBitVec 255).getLsbD i = true := by decide +kernel
  rw [Int32.toBitVec_toInt8, Int32.toBitVec_toInt8, BitVec.getLsbD_signExtend, BitVec.getLsbD_signExtend]
  simp only [Int32.toBitVec_and, BitVec.getLsbD_and, h255 i hi, Bool.and_true]
  simp [show i < 32 by omega]
theorem by8_c {v : Int32} {s : Nat} (hs : s ≤ 24) : ((((v.toUInt32 >>> ((nI s).toUInt32 &&& Int32.toUInt32 31)).toInt32).toInt8.toInt32)).toInt8.toInt32 = (nI (by8 v s)).toInt8.toInt32 := by
  rw [Int8.toInt8_toInt32, i8_255, by8_u hs, (by8_e v s).1]
