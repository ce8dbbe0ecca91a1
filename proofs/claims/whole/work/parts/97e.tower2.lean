/-- a TEXT that has a fault -/
theorem c_twBad {Fu : Nat} {I J : mIT} {R R' : mRT} {n : Nat} {v e5 : Int32} (hn : n ≤ 700) (ht : nI n ≤ I 1 1) (hy : f_X6_readTower Fu R I (nI n) = some (v, J, R')) (hw : wB R' = true) (hv : v ≠ 0) (h5 : J 1 5 = e5) : f_X11_tower Fu R I (nI n) = some (.inl (v, mU (mU J 0 1 e5) 21 0 (J 21 0 + 1), R')) := by
  unfold f_X11_tower f_X6_taped f_X6_faultPlace
  rw [if_neg (by rw [q_lt0 (by omega)]; exact id), q_B, if_pos ht, hy, q_B]
  dsimp only
  rw [q_G hw, if_neg hv, q_B, q_G0 (by omega) (by omega), q_G0 (by omega) (by omega), q_k0, h5, mU_other (show (21 : Nat) ≠ 0 by decide)]
/-- what the class has when it took the TEXT over -/
def cTo (J : mIT) (q : Nat) (C : mIT) : Prop := (∀ j, j < 53 → C 41 j = J (q + 17) j) ∧ C 0 1 = -1 ∧ C 0 10 = 0 ∧ C 42 1 = 0 ∧ C 42 2 = 0 ∧ C 44 3 = 0 ∧ C 56 4 = 0 ∧ C 66 4 = 0 ∧ ∀ c, c ≠ 0 → c ≠ 41 → c ≠ 42 → c ≠ 44 → c ≠ 56 → c ≠ 66 → C c = J c
theorem c_twGood {Fu : Nat} {I J : mIT} {R R' : mRT} {n p q : Nat} (hn : n ≤ 700) (ht : nI n ≤ I 1 1) (hy : f_X6_readTower Fu R I (nI n) = some (0, J, R')) (hW : mWd R') (h03 : R' 0 3 = some p) (h11 : R' 1 11 = some q) (hp : p = 3 ∨ p = 22) (hq : q = 3 ∨ q = 22) : ∃ C, f_X11_tower Fu R I (nI n) = some (.inl (0, C, mUR (mUR R' 1 11 (some p)) 0 3 (some q))) ∧ cTo J q C := by
  have hW1 := mWd_11 hW hp
  have hR3 : (mUR (mUR R' 1 11 (some p)) 0 3 (some q)) 0 3 = some q := by
    unfold mUR
    rw [if_pos ⟨rfl, rfl⟩]
  unfold f_X11_tower f_X6_taped f_X6_handOver f_X0_clear f_X4_clear f_X11_forgetWork f_X1_clear f_X2_clear
  rw [if_neg (by rw [q_lt0 (by omega)]; exact id), q_B, if_pos ht, hy, q_B]
  dsimp only
  rw [q_G (wB_of hW), if_pos rfl, h03, q_B, h11, q_B, q_B]
  dsimp only
  rw [q_G (wB_of hW1), q_G (show isP q = true by unfold isP; exact decide_eq_true hq), hR3, q_B, c_copy9, q_B, q_B, q_B, q_B, q_B, q_B]
  refine ⟨_, rfl, fun j hj => ?_, ?_, ?_, ?_, ?_, ?_, ?_, ?_, fun c c0 c1 c2 c4 c6 c7 => ?_⟩
  · rw [mU_other (by decide), mU_other (by decide), mU_other (by decide), mU_other (by decide), mU_other (by decide), mU_other (by decide), mCp_i (by omega) (by omega), mU_other (by omega)]
    congr 1
    omega
  · rw [mU_other (by decide), mU_other (by decide), q_Uj (by decide), mU_other (by decide), mU_other (by decide), mU_other (by decide), mCp_o (by decide), q_U]
  · rw [mU_other (by decide), mU_other (by decide), q_U]
  · rw [mU_other (by decide), mU_other (by decide), mU_other (by decide), mU_other (by decide), q_Uj (by decide), q_U]
  · rw [mU_other (by decide), mU_other (by decide), mU_other (by decide), mU_other (by decide), q_U]
  · rw [mU_other (by decide), mU_other (by decide), mU_other (by decide), q_U]
  · rw [mU_other (by decide), q_U]
  · rw [q_U]
  · rw [mU_other c7, mU_other c6, mU_other c0, mU_other c4, mU_other c2, mU_other c2, mCp_o c1, mU_other c0]
