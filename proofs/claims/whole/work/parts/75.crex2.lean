theorem c_readExpr {Fu : Nat} {I : mIT} {R : mRT} {B : Nat → Nat} {n a q : Nat} (hF : 2200 < Fu) (ht : tpe B n) (h : cTk I B n a) (ha1 : 1 ≤ a) (hw : wB (mUR R 1 12 (some q)) = true) (hq : 3 ≤ q) (h5 : I q 5 = 0) (h6 : I q 6 = 0) : wp (f_X6_readExpr Fu R I q) (fun y => y.2.2 = mUR R 1 12 (some q) ∧ xRe I q B n (exR B n (n - a + 1) a x0) (y.1, y.2.1)) := by
  have h7 := ht.1
  unfold f_X6_readExpr
  have hR : (mUR R 1 12 (some q)) 1 12 = some q := by
    unfold mUR
    rw [if_pos ⟨rfl, rfl⟩]
  refine c_exLoop (I0 := I) hF ht hR hw hq (n - a + 1) Fu _ a 0 x0 (by omega) (by omega) (cTk_u (cTk_u (cTk_u (cTk_u h (by omega)) (by omega)) (by omega)) (by omega)) ⟨cRs_u hq (cRs_u hq (cRs_u hq (cRs_u hq ⟨h5, h6, fun i hi => absurd hi (Nat.not_lt_zero _), trivial⟩))), ?_, ?_, fun d hd => ?_, ?_⟩ (xI_0 a) ha1 (xFr_u hq (xFr_u hq (xFr_u hq (xFr_u hq (xFr_r q I) (by omega)) (by omega)) (by omega)) (by omega))
  · rw [q_Uj (by decide), q_Uj (by decide), q_Uj (by decide), q_U]; rfl
  · rw [q_Uj (by decide), q_Uj (by decide), q_U]; rfl
  · rw [q_Uj (by decide), q_U]
    show bt 0 d = false
    unfold bt
    exact BitVec.getLsbD_zero
  · rw [q_U]; rfl
