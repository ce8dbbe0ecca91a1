noncomputable def b_X7_isRung_2 (Fu : Nat) (I : mIT) (k2_ : Int32 × Int32 → Option (Int32)) (v1 : Int32) (v3 : Int32) : Option (Int32) :=
  if v3 < 0 then (some (0 : Int32)) else (if (nI 72) ≤ v3 then (k2_ (v1, (v3 + (-1 : Int32)))) else (oG (inB v3 72) (if (I 65 (v3).toNatClampNeg) = v1 then (some (1 : Int32)) else (k2_ (v1, (v3 + (-1 : Int32)))))))
set_option maxRecDepth 20000 in
theorem bo_X7_isRung_2 {X : mXT} {E : mEn} {Fu : Nat} {I : mIT} {R : mRT} {L : mLT}  (hC : mC X E mX7_isRung RX7 cX7_isRung) (hW : mWd R)   {out : Int32} (hE : mEd X E 0 0 (mSame (some (.int (out))) 106 1 I R L)) (k2_ : Int32 × Int32 → Option (Int32)) (hk2_ : ∀ (v1 : Int32) (v3 : Int32),  k2_ (v1, v3) = some out → mG X E 2 [(0, .ref (mB E + 62)), (1, .int v1), (3, .int v3)] [] 106 1 I R L 0 0) (v1 : Int32) (v3 : Int32) (h : b_X7_isRung_2 Fu I k2_ v1 v3 = some out) : mG X E 2 [(0, .ref (mB E + 62)), (1, .int v1), (3, .int v3)] [] 106 1 I R L 0 0 := by
  unfold b_X7_isRung_2 at h
  refine g_iload_n hC dX7_isRung_2 rfl (q := 2) rfl ?_
  refine g_if_lt hC dX7_isRung_3 (tgt := 33) (by decide) (fun c3 => ?_) (fun c3 => ?_)
  · replace h := (if_pos c3).symm.trans h
    refine g_iconst hC dX7_isRung_33 (v := (0 : Int32)) (by decide) ?_
    cases h
    exact g_zret hC (by decide) hE rfl dX7_isRung_34 (Nat.zero_le _) (Nat.zero_le _) ⟨rfl, rfl, rfl, rfl, rfl, rfl⟩
  · replace h := (if_neg c3).symm.trans h
    refine g_iload_n hC dX7_isRung_6 rfl (q := 2) rfl ?_
    refine g_aload_n hC dX7_isRung_7 rfl (q := 0) rfl ?_
    refine g_getr hC fd_RX7_18 rfl (by decide) (C0 := "") (t0 := _) (Or.inr rfl) (rr_62_2 hW.1) dX7_isRung_8 ?_
    refine g_alenI hC rfl (by decide) dX7_isRung_11 ?_
    refine g_ic_ge hC dX7_isRung_12 (tgt := 27) (by decide) (fun c12 => ?_) (fun c12 => ?_)
    · replace h := (if_pos c12).symm.trans h
      refine g_iinc hC dX7_isRung_27 rfl (q := 2) rfl (w := (v3 + (-1 : Int32))) rfl (by decide) (lv' := [(3, .int (v3 + (-1 : Int32))), (0, .ref (mB E + 62)), (1, .int v1)]) rfl ?_
      refine g_goto hC dX7_isRung_30 (tgt := 2) (by decide) ?_
      refine g_lv [1, 2, 0] rfl ?_
      exact hk2_ v1 (v3 + (-1 : Int32)) h
    · replace h := (if_neg c12).symm.trans h
      refine g_aload_n hC dX7_isRung_15 rfl (q := 0) rfl ?_
      refine g_getr hC fd_RX7_18 rfl (by decide) (C0 := "") (t0 := _) (Or.inr rfl) (rr_62_2 hW.1) dX7_isRung_16 ?_
      refine g_iload_n hC dX7_isRung_19 rfl (q := 2) rfl ?_
      obtain ⟨g20, h⟩ := oG_some h
      refine g_iald hC rfl (by decide) (inB_in g20) dX7_isRung_20 ?_
      refine g_iload_n hC dX7_isRung_21 rfl (q := 1) rfl ?_
      refine g_ic_ne hC dX7_isRung_22 (tgt := 27) (by decide) (fun c22 => ?_) (fun c22 => ?_)
      · replace h := (if_neg c22).symm.trans h
        refine g_iinc hC dX7_isRung_27 rfl (q := 2) rfl (w := (v3 + (-1 : Int32))) rfl (by decide) (lv' := [(3, .int (v3 + (-1 : Int32))), (0, .ref (mB E + 62)), (1, .int v1)]) rfl ?_
        refine g_goto hC dX7_isRung_30 (tgt := 2) (by decide) ?_
        refine g_lv [1, 2, 0] rfl ?_
        exact hk2_ v1 (v3 + (-1 : Int32)) h
      · replace h := (if_pos c22).symm.trans h
        refine g_iconst hC dX7_isRung_25 (v := (1 : Int32)) (by decide) ?_
        cases h
        exact g_zret hC (by decide) hE rfl dX7_isRung_26 (Nat.zero_le _) (Nat.zero_le _) ⟨rfl, rfl, rfl, rfl, rfl, rfl⟩
noncomputable def w_X7_isRung_2 (Fu : Nat) (I : mIT)  (N : Nat) (v1 : Int32) (v3 : Int32) : Option (Int32) :=
  loopF (fun self (s : Int32 × Int32) => b_X7_isRung_2 Fu I self s.1 s.2) N (v1, v3)
theorem wo_X7_isRung_2 {X : mXT} {E : mEn} {Fu : Nat} {I : mIT} {R : mRT} {L : mLT}  (hC : mC X E mX7_isRung RX7 cX7_isRung) (hW : mWd R)   {out : Int32} (hE : mEd X E 0 0 (mSame (some (.int (out))) 106 1 I R L))  (N : Nat) (v1 : Int32) (v3 : Int32) (h : w_X7_isRung_2 Fu I  N v1 v3 = some out) : mG X E 2 [(0, .ref (mB E + 62)), (1, .int v1), (3, .int v3)] [] 106 1 I R L 0 0 :=
  loopF_ok (Gd := fun s : Int32 × Int32 => mG X E 2 [(0, .ref (mB E + 62)), (1, .int s.1), (3, .int s.2)] [] 106 1 I R L 0 0) (fun self hs s h => bo_X7_isRung_2 hC hW hE self (fun v1 v3 h => hs (v1, v3) h) s.1 s.2 h) N (v1, v3) h
noncomputable def f_X7_isRung (Fu : Nat) (I : mIT) (v1 : Int32) (v2 : Int32) : Option (Int32) :=
  w_X7_isRung_2 Fu I Fu v1 v2
set_option maxRecDepth 20000 in
theorem ok_X7_isRung {l : Launch} {E : mEn} {Fu : Nat} {I : mIT} {R : mRT} {L : mLT} {v1 : Int32} {v2 : Int32} (hst : l.stackTraces = false) (hW : mWd R)  {out : Int32} (h : f_X7_isRung Fu I v1 v2 = some out) : mOk l E mX7_isRung [.ref (mB E + 62), .int v1, .int v2] 106 1 I R L 0 0 (mSame (some (.int (out))) 106 1 I R L) := by
  refine mOk_of hst (by decide) (Nat.le_of_ble_eq_true rfl) (fun X hC hE _ => ?_)
  have hC : mC X E mX7_isRung RX7 cX7_isRung := hC
  show mG X E 0 [(0, .ref (mB E + 62)), (1, .int v1), (2, .int v2)] [] 106 1 I R L 0 0
  unfold f_X7_isRung at h
  refine g_iload_n hC dX7_isRung_0 rfl (q := 2) rfl ?_
  refine g_istore_n hC dX7_isRung_1 rfl rfl (by decide) (lv' := [(3, .int v2), (0, .ref (mB E + 62)), (1, .int v1), (2, .int v2)]) rfl ?_
  refine g_lv [1, 2, 0] rfl ?_
  exact wo_X7_isRung_2 hC hW hE Fu (v1) (v2) h
noncomputable def b_X7_trueLength_5 (Fu : Nat) (k5_ : Int32 × Int32 × mIT → Option (Int32 × mIT)) (v1 : Int32) (v2 : Int32) (I : mIT) : Option (Int32 × mIT) :=
  if (72 : Int32) ≤ v2 then (some ((0 : Int32), I)) else (if (nI 72) ≤ v2 then (some ((0 : Int32), I)) else (oG (inB v2 72) (oB (f_X7_behindOne Fu (mU I 65 (v2).toNatClampNeg v1) v1 v2) (fun r30 => if r30 = (181896 : Int32) then (some ((v2 + (1 : Int32)), (mU I 65 (v2).toNatClampNeg v1))) else (oB (f_X7_isRung Fu (mU I 65 (v2).toNatClampNeg v1) r30 v2) (fun r47 => if r47 = 0 then (k5_ (r30, (v2 + (1 : Int32)), (mU I 65 (v2).toNatClampNeg v1))) else (some ((0 : Int32), (mU I 65 (v2).toNatClampNeg v1)))))))))
set_option maxRecDepth 20000 in
theorem bo_X7_trueLength_5 {X : mXT} {E : mEn} {Fu : Nat} {R : mRT} {L : mLT}  (hC : mC X E mX7_trueLength RX7 cX7_trueLength) (hW : mWd R)   {out : Int32 × mIT} (hE : mEd X E 0 0 (mSame (some (.int (out.1))) 106 1 (out.2) R L)) (k5_ : Int32 × Int32 × mIT → Option (Int32 × mIT)) (hk5_ : ∀ (v1 : Int32) (v2 : Int32) (I : mIT),  k5_ (v1, v2, I) = some out → mG X E 5 [(0, .ref (mB E + 62)), (1, .int v1), (2, .int v2)] [] 106 1 I R L 0 0) (v1 : Int32) (v2 : Int32) (I : mIT) (h : b_X7_trueLength_5 Fu k5_ v1 v2 I = some out) : mG X E 5 [(0, .ref (mB E + 62)), (1, .int v1), (2, .int v2)] [] 106 1 I R L 0 0 := by
  unfold b_X7_trueLength_5 at h
  refine g_iload_n hC dX7_trueLength_5 rfl (q := 2) rfl ?_
  refine g_bipush hC dX7_trueLength_6 (v := (72 : Int32)) (by decide) ?_
  refine g_ic_ge hC dX7_trueLength_8 (tgt := 61) (by decide) (fun c8 => ?_) (fun c8 => ?_)
  · replace h := (if_pos c8).symm.trans h
    refine g_iconst hC dX7_trueLength_61 (v := (0 : Int32)) (by decide) ?_
    cases h
    exact g_iret hC hE rfl dX7_trueLength_62 (Nat.zero_le _) (Nat.zero_le _) ⟨rfl, rfl, rfl, rfl, rfl, rfl⟩
  · replace h := (if_neg c8).symm.trans h
    refine g_iload_n hC dX7_trueLength_11 rfl (q := 2) rfl ?_
    refine g_aload_n hC dX7_trueLength_12 rfl (q := 0) rfl ?_
    refine g_getr hC fd_RX7_18 rfl (by decide) (C0 := "") (t0 := _) (Or.inr rfl) (rr_62_2 hW.1) dX7_trueLength_13 ?_
    refine g_alenI hC rfl (by decide) dX7_trueLength_16 ?_
    refine g_ic_ge hC dX7_trueLength_17 (tgt := 61) (by decide) (fun c17 => ?_) (fun c17 => ?_)
    · replace h := (if_pos c17).symm.trans h
      refine g_iconst hC dX7_trueLength_61 (v := (0 : Int32)) (by decide) ?_
      cases h
      exact g_iret hC hE rfl dX7_trueLength_62 (Nat.zero_le _) (Nat.zero_le _) ⟨rfl, rfl, rfl, rfl, rfl, rfl⟩
    · replace h := (if_neg c17).symm.trans h
      refine g_aload_n hC dX7_trueLength_20 rfl (q := 0) rfl ?_
      refine g_getr hC fd_RX7_18 rfl (by decide) (C0 := "") (t0 := _) (Or.inr rfl) (rr_62_2 hW.1) dX7_trueLength_21 ?_
      refine g_iload_n hC dX7_trueLength_24 rfl (q := 2) rfl ?_
      refine g_iload_n hC dX7_trueLength_25 rfl (q := 1) rfl ?_
      obtain ⟨g26, h⟩ := oG_some h
      refine g_iast hC rfl (by decide) (inB_in g26) dX7_trueLength_26 (nm_e ?_)
      refine g_aload_n hC dX7_trueLength_27 rfl (q := 0) rfl ?_
      refine g_iload_n hC dX7_trueLength_28 rfl (q := 1) rfl ?_
      refine g_iload_n hC dX7_trueLength_29 rfl (q := 2) rfl ?_
      obtain ⟨r30, h30, h⟩ := oB_some h
      refine g_cV1 hC cv_X7_behindOne wd_741 ⟨Nat.le_of_ble_eq_true rfl, Nat.le_of_ble_eq_true rfl⟩ rfl (by decide) dX7_trueLength_30 (As := [.int v1, .int v2]) (st := []) (ok_X7_behindOne hC.2.2.2.2.2.2.2.1 hW h30) rfl rfl (Nat.le_of_ble_eq_true rfl) ⟨Nat.zero_le _, Nat.zero_le _⟩ ?_
      refine g_istore_n hC dX7_trueLength_33 rfl rfl (by decide) (lv' := [(1, .int r30), (0, .ref (mB E + 62)), (2, .int v2)]) rfl ?_
      refine g_iload_n hC dX7_trueLength_34 rfl (q := 0) rfl ?_
      refine g_ldc hC dX7_trueLength_35 wd_740 ?_
      refine g_ic_ne hC dX7_trueLength_37 (tgt := 44) (by decide) (fun c37 => ?_) (fun c37 => ?_)
      · replace h := (if_neg c37).symm.trans h
        refine g_aload_n hC dX7_trueLength_44 rfl (q := 1) rfl ?_
        refine g_iload_n hC dX7_trueLength_45 rfl (q := 0) rfl ?_
        refine g_iload_n hC dX7_trueLength_46 rfl (q := 2) rfl ?_
        obtain ⟨r47, h47, h⟩ := oB_some h
        refine g_cV1 hC cv_X7_isRung wd_756 ⟨Nat.le_of_ble_eq_true rfl, Nat.le_of_ble_eq_true rfl⟩ rfl (by decide) dX7_trueLength_47 (As := [.int r30, .int v2]) (st := []) (ok_X7_isRung hC.2.2.2.2.2.2.2.1 hW h47) rfl rfl (Nat.le_of_ble_eq_true rfl) ⟨Nat.zero_le _, Nat.zero_le _⟩ ?_
        refine g_if_eq hC dX7_trueLength_50 (tgt := 55) (by decide) (fun c50 => ?_) (fun c50 => ?_)
        · replace h := (if_pos c50).symm.trans h
          refine g_iinc hC dX7_trueLength_55 rfl (q := 2) rfl (w := (v2 + (1 : Int32))) rfl (by decide) (lv' := [(2, .int (v2 + (1 : Int32))), (1, .int r30), (0, .ref (mB E + 62))]) rfl ?_
          refine g_goto hC dX7_trueLength_58 (tgt := 5) (by decide) ?_
          refine g_lv [2, 1, 0] rfl ?_
          exact hk5_ r30 (v2 + (1 : Int32)) (mU I 65 (v2).toNatClampNeg v1) h
        · replace h := (if_neg c50).symm.trans h
          refine g_iconst hC dX7_trueLength_53 (v := (0 : Int32)) (by decide) ?_
          cases h
          exact g_iret hC hE rfl dX7_trueLength_54 (Nat.zero_le _) (Nat.zero_le _) ⟨rfl, rfl, rfl, rfl, rfl, rfl⟩
      · replace h := (if_pos c37).symm.trans h
        refine g_iload_n hC dX7_trueLength_40 rfl (q := 2) rfl ?_
        refine g_iconst hC dX7_trueLength_41 (v := (1 : Int32)) (by decide) ?_
        refine g_iadd hC dX7_trueLength_42 ?_
        cases h
        exact g_iret hC hE rfl dX7_trueLength_43 (Nat.zero_le _) (Nat.zero_le _) ⟨rfl, rfl, rfl, rfl, rfl, rfl⟩
noncomputable def w_X7_trueLength_5 (Fu : Nat)  (N : Nat) (v1 : Int32) (v2 : Int32) (I : mIT) : Option (Int32 × mIT) :=
  loopF (fun self (s : Int32 × Int32 × mIT) => b_X7_trueLength_5 Fu self s.1 s.2.1 s.2.2) N (v1, v2, I)
theorem wo_X7_trueLength_5 {X : mXT} {E : mEn} {Fu : Nat} {R : mRT} {L : mLT}  (hC : mC X E mX7_trueLength RX7 cX7_trueLength) (hW : mWd R)   {out : Int32 × mIT} (hE : mEd X E 0 0 (mSame (some (.int (out.1))) 106 1 (out.2) R L))  (N : Nat) (v1 : Int32) (v2 : Int32) (I : mIT) (h : w_X7_trueLength_5 Fu  N v1 v2 I = some out) : mG X E 5 [(0, .ref (mB E + 62)), (1, .int v1), (2, .int v2)] [] 106 1 I R L 0 0 :=
  loopF_ok (Gd := fun s : Int32 × Int32 × mIT => mG X E 5 [(0, .ref (mB E + 62)), (1, .int s.1), (2, .int s.2.1)] [] 106 1 s.2.2 R L 0 0) (fun self hs s h => bo_X7_trueLength_5 hC hW hE self (fun v1 v2 I h => hs (v1, v2, I) h) s.1 s.2.1 s.2.2 h) N (v1, v2, I) h
noncomputable def f_X7_trueLength (Fu : Nat) (I : mIT)  : Option (Int32 × mIT) :=
  w_X7_trueLength_5 Fu Fu (181896 : Int32) (0 : Int32) I
set_option maxRecDepth 20000 in
theorem ok_X7_trueLength {l : Launch} {E : mEn} {Fu : Nat} {I : mIT} {R : mRT} {L : mLT}  (hst : l.stackTraces = false) (hW : mWd R)  {out : Int32 × mIT} (h : f_X7_trueLength Fu I  = some out) : mOk l E mX7_trueLength [.ref (mB E + 62)] 106 1 I R L 0 0 (mSame (some (.int (out.1))) 106 1 (out.2) R L) := by
  refine mOk_of hst (by decide) (Nat.le_of_ble_eq_true rfl) (fun X hC hE _ => ?_)
  have hC : mC X E mX7_trueLength RX7 cX7_trueLength := hC
  show mG X E 0 [(0, .ref (mB E + 62))] [] 106 1 I R L 0 0
  unfold f_X7_trueLength at h
  refine g_ldc hC dX7_trueLength_0 wd_740 ?_
  refine g_istore_n hC dX7_trueLength_2 rfl rfl (by decide) (lv' := [(1, .int (181896 : Int32)), (0, .ref (mB E + 62))]) rfl ?_
  refine g_iconst hC dX7_trueLength_3 (v := (0 : Int32)) (by decide) ?_
  refine g_istore_n hC dX7_trueLength_4 rfl rfl (by decide) (lv' := [(2, .int (0 : Int32)), (1, .int (181896 : Int32)), (0, .ref (mB E + 62))]) rfl ?_
  refine g_lv [2, 1, 0] rfl ?_
  exact wo_X7_trueLength_5 hC hW hE Fu ((181896 : Int32)) ((0 : Int32)) (I) h
noncomputable def f_X11_isTrue (Fu : Nat) (R : mRT) (I : mIT)  : Option (Int32 × mIT) :=
  oB (R 0 3) (fun p1 => if (I p1 8) = 0 then (some ((1 : Int32), I)) else (oB (R 0 3) (fun p17 => oB (f_X7_load Fu I p17 40) (fun r24 => oB (f_X7_trueLength Fu r24) (fun r31 => if r31.1 ≤ 0 then (some ((0 : Int32), r31.2)) else (some ((1 : Int32), r31.2)))))))
set_option maxRecDepth 20000 in
theorem ok_X11_isTrue {l : Launch} {E : mEn} {Fu : Nat} {I : mIT} {R : mRT} {L : mLT}  (hst : l.stackTraces = false) (hW : mWd R)  {out : Int32 × mIT} (h : f_X11_isTrue Fu R I  = some out) : mOk l E mX11_isTrue [.ref (mB E + 0)] 106 1 I R L 0 0 (mSame (some (.int (out.1))) 106 1 (out.2) R L) := by
  refine mOk_of hst (by decide) (Nat.le_of_ble_eq_true rfl) (fun X hC hE _ => ?_)
  have hC : mC X E mX11_isTrue RX11 cX11_isTrue := hC
  show mG X E 0 [(0, .ref (mB E + 0))] [] 106 1 I R L 0 0
  unfold f_X11_isTrue at h
  refine g_aload_n hC dX11_isTrue_0 rfl (q := 0) rfl ?_
  obtain ⟨p1, e1, h⟩ := oB_some h
  have hp1 : mO5 R p1 := ob5 hW.1 (hW.2.1 p1 e1)
  refine g_getr hC fd_RX11_27 rfl (by decide) (C0 := _) (t0 := .int) (Or.inl rfl) e1 dX11_isTrue_1 ?_
  refine g_geti hC fd_RX11_163 hp1.2.1 hp1.1 (Or.inl rfl) dX11_isTrue_4 ?_
  refine g_if_ne hC dX11_isTrue_7 (tgt := 12) (by decide) (fun c7 => ?_) (fun c7 => ?_)
  · replace h := (if_neg c7).symm.trans h
    refine g_aload_n hC dX11_isTrue_12 rfl (q := 0) rfl ?_
    refine g_getr hC fd_RX11_75 rfl (by decide) (C0 := _) (t0 := .int) (Or.inl rfl) (rr_0_12 hW.1) dX11_isTrue_13 ?_
    refine g_aload_n hC dX11_isTrue_16 rfl (q := 0) rfl ?_
    obtain ⟨p17, e17, h⟩ := oB_some h
    have hp17 : mO5 R p17 := ob5 hW.1 (hW.2.1 p17 e17)
    refine g_getr hC fd_RX11_27 rfl (by decide) (C0 := _) (t0 := .int) (Or.inl rfl) e17 dX11_isTrue_17 ?_
    refine g_aload_n hC dX11_isTrue_20 rfl (q := 0) rfl ?_
    refine g_getr hC fd_RX11_34 rfl (by decide) (C0 := _) (t0 := .int) (Or.inl rfl) (rr_0_4 hW.1) dX11_isTrue_21 ?_
    obtain ⟨r24, h24, h⟩ := oB_some h
    refine g_cV0 hC cv_X7_load wd_724 ⟨Nat.le_of_ble_eq_true rfl, Nat.le_of_ble_eq_true rfl⟩ rfl (by decide) dX11_isTrue_24 (As := [.ref (mB E + p17), .ref (mB E + 40)]) (st := []) (ok_X7_load hC.2.2.2.2.2.2.2.1 hW hp17 (ob_40 hW.1) h24) rfl rfl (Nat.le_of_ble_eq_true rfl) ⟨Nat.zero_le _, Nat.zero_le _⟩ ?_
    refine g_aload_n hC dX11_isTrue_27 rfl (q := 0) rfl ?_
    refine g_getr hC fd_RX11_75 rfl (by decide) (C0 := _) (t0 := .int) (Or.inl rfl) (rr_0_12 hW.1) dX11_isTrue_28 ?_
    obtain ⟨r31, h31, h⟩ := oB_some h
    refine g_cV1 hC cv_X7_trueLength wd_752 ⟨Nat.le_of_ble_eq_true rfl, Nat.le_of_ble_eq_true rfl⟩ rfl (by decide) dX11_isTrue_31 (As := []) (st := []) (ok_X7_trueLength hC.2.2.2.2.2.2.2.1 hW h31) rfl rfl (Nat.le_of_ble_eq_true rfl) ⟨Nat.zero_le _, Nat.zero_le _⟩ ?_
    refine g_if_le hC dX11_isTrue_34 (tgt := 41) (by decide) (fun c34 => ?_) (fun c34 => ?_)
    · replace h := (if_pos c34).symm.trans h
      refine g_iconst hC dX11_isTrue_41 (v := (0 : Int32)) (by decide) ?_
      cases h
      exact g_zret hC (by decide) hE rfl dX11_isTrue_42 (Nat.zero_le _) (Nat.zero_le _) ⟨rfl, rfl, rfl, rfl, rfl, rfl⟩
    · replace h := (if_neg c34).symm.trans h
      refine g_iconst hC dX11_isTrue_37 (v := (1 : Int32)) (by decide) ?_
      refine g_goto hC dX11_isTrue_38 (tgt := 42) (by decide) ?_
      cases h
      exact g_zret hC (by decide) hE rfl dX11_isTrue_42 (Nat.zero_le _) (Nat.zero_le _) ⟨rfl, rfl, rfl, rfl, rfl, rfl⟩
  · replace h := (if_pos c7).symm.trans h
    refine g_iconst hC dX11_isTrue_10 (v := (1 : Int32)) (by decide) ?_
    cases h
    exact g_zret hC (by decide) hE rfl dX11_isTrue_11 (Nat.zero_le _) (Nat.zero_le _) ⟨rfl, rfl, rfl, rfl, rfl, rfl⟩
noncomputable def b_X11_keepers_18 (Fu : Nat) (R : mRT) (k18_ : Int32 × Int32 × Int32 × Int32 × mIT → Option (Int32 × mIT)) (v1 : Int32) (v2 : Int32) (v3 : Int32) (v4 : Int32) (I : mIT) : Option (Int32 × mIT) :=
  oB (R 0 3) (fun p21 => if (I p21 3) ≤ v4 then (if v2 = 0 then (some (v3, I)) else (some ((-1 : Int32), I))) else (oB (f_X1_noteBits Fu I (0 : Int32) (v1 &&& ((1 : Int32) <<< (v4 &&& 31)))) (fun r41 => if (v2 &&& r41) = 0 then (k18_ (v1, v2, v3, (v4 + (1 : Int32)), I)) else (k18_ (v1, (v2 &&& (r41 ^^^ (-1 : Int32))), (v3 ||| ((1 : Int32) <<< (v4 &&& 31))), (v4 + (1 : Int32)), I)))))
set_option maxRecDepth 20000 in
theorem bo_X11_keepers_18 {X : mXT} {E : mEn} {Fu : Nat} {R : mRT} {L : mLT}  (hC : mC X E mX11_keepers RX11 cX11_keepers) (hW : mWd R)   {out : Int32 × mIT} (hE : mEd X E 0 0 (mSame (some (.int (out.1))) 106 1 (out.2) R L)) (k18_ : Int32 × Int32 × Int32 × Int32 × mIT → Option (Int32 × mIT)) (hk18_ : ∀ (v1 : Int32) (v2 : Int32) (v3 : Int32) (v4 : Int32) (I : mIT),  k18_ (v1, v2, v3, v4, I) = some out → mG X E 18 [(0, .ref (mB E + 0)), (1, .int v1), (2, .int v2), (3, .int v3), (4, .int v4)] [] 106 1 I R L 0 0) (v1 : Int32) (v2 : Int32) (v3 : Int32) (v4 : Int32) (I : mIT) (h : b_X11_keepers_18 Fu R k18_ v1 v2 v3 v4 I = some out) : mG X E 18 [(0, .ref (mB E + 0)), (1, .int v1), (2, .int v2), (3, .int v3), (4, .int v4)] [] 106 1 I R L 0 0 := by
  unfold b_X11_keepers_18 at h
  refine g_iload hC dX11_keepers_18 (q := 4) rfl ?_
  refine g_aload_n hC dX11_keepers_20 rfl (q := 0) rfl ?_
  obtain ⟨p21, e21, h⟩ := oB_some h
  have hp21 : mO5 R p21 := ob5 hW.1 (hW.2.1 p21 e21)
  refine g_getr hC fd_RX11_27 rfl (by decide) (C0 := _) (t0 := .int) (Or.inl rfl) e21 dX11_keepers_21 ?_
  refine g_geti hC fd_RX11_140 hp21.2.1 hp21.1 (Or.inl rfl) dX11_keepers_24 ?_
  refine g_ic_ge hC dX11_keepers_27 (tgt := 73) (by decide) (fun c27 => ?_) (fun c27 => ?_)
  · replace h := (if_pos c27).symm.trans h
    refine g_iload_n hC dX11_keepers_73 rfl (q := 2) rfl ?_
    refine g_if_ne hC dX11_keepers_74 (tgt := 81) (by decide) (fun c74 => ?_) (fun c74 => ?_)
    · replace h := (if_neg c74).symm.trans h
      refine g_iconst hC dX11_keepers_81 (v := (-1 : Int32)) (by decide) ?_
      cases h
      exact g_iret hC hE rfl dX11_keepers_82 (Nat.zero_le _) (Nat.zero_le _) ⟨rfl, rfl, rfl, rfl, rfl, rfl⟩
    · replace h := (if_pos c74).symm.trans h
      refine g_iload_n hC dX11_keepers_77 rfl (q := 3) rfl ?_
      refine g_goto hC dX11_keepers_78 (tgt := 82) (by decide) ?_
      cases h
      exact g_iret hC hE rfl dX11_keepers_82 (Nat.zero_le _) (Nat.zero_le _) ⟨rfl, rfl, rfl, rfl, rfl, rfl⟩
  · replace h := (if_neg c27).symm.trans h
    refine g_aload_n hC dX11_keepers_30 rfl (q := 0) rfl ?_
    refine g_getr hC fd_RX11_68 rfl (by decide) (C0 := _) (t0 := .int) (Or.inl rfl) (rr_0_11 hW.1) dX11_keepers_31 ?_
    refine g_iconst hC dX11_keepers_34 (v := (0 : Int32)) (by decide) ?_
    refine g_iload_n hC dX11_keepers_35 rfl (q := 1) rfl ?_
    refine g_iconst hC dX11_keepers_36 (v := (1 : Int32)) (by decide) ?_
    refine g_iload hC dX11_keepers_37 (q := 4) rfl ?_
    refine g_ishl hC dX11_keepers_39 ?_
    refine g_iand hC dX11_keepers_40 ?_
    obtain ⟨r41, h41, h⟩ := oB_some h
    refine g_cV1 hC cv_X1_noteBits wd_699 ⟨Nat.le_of_ble_eq_true rfl, Nat.le_of_ble_eq_true rfl⟩ rfl (by decide) dX11_keepers_41 (As := [.int (0 : Int32), .int (v1 &&& ((1 : Int32) <<< (v4 &&& 31)))]) (st := []) (ok_X1_noteBits hC.2.2.2.2.2.2.2.1 hW h41) rfl rfl (Nat.le_of_ble_eq_true rfl) ⟨Nat.zero_le _, Nat.zero_le _⟩ ?_
    refine g_istore hC dX11_keepers_44 rfl (by decide) (lv' := [(5, .int r41), (0, .ref (mB E + 0)), (1, .int v1), (2, .int v2), (3, .int v3), (4, .int v4)]) rfl ?_
    refine g_iload_n hC dX11_keepers_46 rfl (q := 3) rfl ?_
    refine g_iload hC dX11_keepers_47 (q := 0) rfl ?_
    refine g_iand hC dX11_keepers_49 ?_
    refine g_if_eq hC dX11_keepers_50 (tgt := 67) (by decide) (fun c50 => ?_) (fun c50 => ?_)
    · replace h := (if_pos c50).symm.trans h
      refine g_iinc hC dX11_keepers_67 rfl (q := 5) rfl (w := (v4 + (1 : Int32))) rfl (by decide) (lv' := [(4, .int (v4 + (1 : Int32))), (5, .int r41), (0, .ref (mB E + 0)), (1, .int v1), (2, .int v2), (3, .int v3)]) rfl ?_
      refine g_goto hC dX11_keepers_70 (tgt := 18) (by decide) ?_
      refine g_lv [2, 3, 4, 5, 0] rfl ?_
      exact hk18_ v1 v2 v3 (v4 + (1 : Int32)) I h
    · replace h := (if_neg c50).symm.trans h
      refine g_iload_n hC dX11_keepers_53 rfl (q := 3) rfl ?_
      refine g_iload hC dX11_keepers_54 (q := 0) rfl ?_
      refine g_iconst hC dX11_keepers_56 (v := (-1 : Int32)) (by decide) ?_
      refine g_ixor hC dX11_keepers_57 ?_
      refine g_iand hC dX11_keepers_58 ?_
      refine g_istore_n hC dX11_keepers_59 rfl rfl (by decide) (lv' := [(2, .int (v2 &&& (r41 ^^^ (-1 : Int32)))), (5, .int r41), (0, .ref (mB E + 0)), (1, .int v1), (3, .int v3), (4, .int v4)]) rfl ?_
      refine g_iload_n hC dX11_keepers_60 rfl (q := 4) rfl ?_
      refine g_iconst hC dX11_keepers_61 (v := (1 : Int32)) (by decide) ?_
      refine g_iload hC dX11_keepers_62 (q := 5) rfl ?_
      refine g_ishl hC dX11_keepers_64 ?_
      refine g_ior hC dX11_keepers_65 ?_
      refine g_istore_n hC dX11_keepers_66 rfl rfl (by decide) (lv' := [(3, .int (v3 ||| ((1 : Int32) <<< (v4 &&& 31)))), (2, .int (v2 &&& (r41 ^^^ (-1 : Int32)))), (5, .int r41), (0, .ref (mB E + 0)), (1, .int v1), (4, .int v4)]) rfl ?_
      refine g_iinc hC dX11_keepers_67 rfl (q := 5) rfl (w := (v4 + (1 : Int32))) rfl (by decide) (lv' := [(4, .int (v4 + (1 : Int32))), (3, .int (v3 ||| ((1 : Int32) <<< (v4 &&& 31)))), (2, .int (v2 &&& (r41 ^^^ (-1 : Int32)))), (5, .int r41), (0, .ref (mB E + 0)), (1, .int v1)]) rfl ?_
      refine g_goto hC dX11_keepers_70 (tgt := 18) (by decide) ?_
      refine g_lv [4, 5, 2, 1, 0] rfl ?_
      exact hk18_ v1 (v2 &&& (r41 ^^^ (-1 : Int32))) (v3 ||| ((1 : Int32) <<< (v4 &&& 31))) (v4 + (1 : Int32)) I h
noncomputable def w_X11_keepers_18 (Fu : Nat) (R : mRT)  (N : Nat) (v1 : Int32) (v2 : Int32) (v3 : Int32) (v4 : Int32) (I : mIT) : Option (Int32 × mIT) :=
  loopF (fun self (s : Int32 × Int32 × Int32 × Int32 × mIT) => b_X11_keepers_18 Fu R self s.1 s.2.1 s.2.2.1 s.2.2.2.1 s.2.2.2.2) N (v1, v2, v3, v4, I)
theorem wo_X11_keepers_18 {X : mXT} {E : mEn} {Fu : Nat} {R : mRT} {L : mLT}  (hC : mC X E mX11_keepers RX11 cX11_keepers) (hW : mWd R)   {out : Int32 × mIT} (hE : mEd X E 0 0 (mSame (some (.int (out.1))) 106 1 (out.2) R L))  (N : Nat) (v1 : Int32) (v2 : Int32) (v3 : Int32) (v4 : Int32) (I : mIT) (h : w_X11_keepers_18 Fu R  N v1 v2 v3 v4 I = some out) : mG X E 18 [(0, .ref (mB E + 0)), (1, .int v1), (2, .int v2), (3, .int v3), (4, .int v4)] [] 106 1 I R L 0 0 :=
  loopF_ok (Gd := fun s : Int32 × Int32 × Int32 × Int32 × mIT => mG X E 18 [(0, .ref (mB E + 0)), (1, .int s.1), (2, .int s.2.1), (3, .int s.2.2.1), (4, .int s.2.2.2.1)] [] 106 1 s.2.2.2.2 R L 0 0) (fun self hs s h => bo_X11_keepers_18 hC hW hE self (fun v1 v2 v3 v4 I h => hs (v1, v2, v3, v4, I) h) s.1 s.2.1 s.2.2.1 s.2.2.2.1 s.2.2.2.2 h) N (v1, v2, v3, v4, I) h
noncomputable def f_X11_keepers (Fu : Nat) (R : mRT) (I : mIT)  : Option (Int32 × mIT) :=
  oB (f_X11_soundingNow Fu R I) (fun r1 => oB (R 0 3) (fun p6 => w_X11_keepers_18 Fu R Fu r1.1 (r1.2 p6 7) (0 : Int32) (0 : Int32) r1.2))
set_option maxRecDepth 20000 in
theorem ok_X11_keepers {l : Launch} {E : mEn} {Fu : Nat} {I : mIT} {R : mRT} {L : mLT}  (hst : l.stackTraces = false) (hW : mWd R)  {out : Int32 × mIT} (h : f_X11_keepers Fu R I  = some out) : mOk l E mX11_keepers [.ref (mB E + 0)] 106 1 I R L 0 0 (mSame (some (.int (out.1))) 106 1 (out.2) R L) := by
  refine mOk_of hst (by decide) (Nat.le_of_ble_eq_true rfl) (fun X hC hE _ => ?_)
  have hC : mC X E mX11_keepers RX11 cX11_keepers := hC
  show mG X E 0 [(0, .ref (mB E + 0))] [] 106 1 I R L 0 0
  unfold f_X11_keepers at h
  refine g_aload_n hC dX11_keepers_0 rfl (q := 0) rfl ?_
  obtain ⟨r1, h1, h⟩ := oB_some h
  refine g_cV1 hC cv_X11_soundingNow wd_776 ⟨Nat.le_of_ble_eq_true rfl, Nat.le_of_ble_eq_true rfl⟩ rfl (by decide) dX11_keepers_1 (As := []) (st := []) (ok_X11_soundingNow hC.2.2.2.2.2.2.2.1 hW h1) rfl rfl (Nat.le_of_ble_eq_true rfl) ⟨Nat.zero_le _, Nat.zero_le _⟩ ?_
  refine g_istore_n hC dX11_keepers_4 rfl rfl (by decide) (lv' := [(1, .int r1.1), (0, .ref (mB E + 0))]) rfl ?_
  refine g_aload_n hC dX11_keepers_5 rfl (q := 1) rfl ?_
  obtain ⟨p6, e6, h⟩ := oB_some h
  have hp6 : mO5 R p6 := ob5 hW.1 (hW.2.1 p6 e6)
  refine g_getr hC fd_RX11_27 rfl (by decide) (C0 := _) (t0 := .int) (Or.inl rfl) e6 dX11_keepers_6 ?_
  refine g_geti hC fd_RX11_320 hp6.2.1 hp6.1 (Or.inl rfl) dX11_keepers_9 ?_
  refine g_istore_n hC dX11_keepers_12 rfl rfl (by decide) (lv' := [(2, .int (r1.2 p6 7)), (1, .int r1.1), (0, .ref (mB E + 0))]) rfl ?_
  refine g_iconst hC dX11_keepers_13 (v := (0 : Int32)) (by decide) ?_
  refine g_istore_n hC dX11_keepers_14 rfl rfl (by decide) (lv' := [(3, .int (0 : Int32)), (2, .int (r1.2 p6 7)), (1, .int r1.1), (0, .ref (mB E + 0))]) rfl ?_
  refine g_iconst hC dX11_keepers_15 (v := (0 : Int32)) (by decide) ?_
  refine g_istore hC dX11_keepers_16 rfl (by decide) (lv' := [(4, .int (0 : Int32)), (3, .int (0 : Int32)), (2, .int (r1.2 p6 7)), (1, .int r1.1), (0, .ref (mB E + 0))]) rfl ?_
  refine g_lv [4, 3, 2, 1, 0] rfl ?_
  exact wo_X11_keepers_18 hC hW hE Fu (r1.1) ((r1.2 p6 7)) ((0 : Int32)) ((0 : Int32)) (r1.2) h
noncomputable def b_X11_lastDayAmong_3 (Fu : Nat) (R : mRT) (I : mIT) (k3_ : Int32 × Int32 → Option (Int32)) (v1 : Int32) (v2 : Int32) : Option (Int32) :=
  if v2 < 0 then (some (-1 : Int32)) else (oB (f_X1_soundingOn Fu I v2) (fun r12 => oB (R 0 3) (fun p19 => oB (f_X1_noteBits Fu I v2 (r12 &&& v1)) (fun r28 => oB (f_X5_isTuneIn Fu I p19 r28) (fun r31 => if r31 = 0 then (k3_ (v1, (v2 + (-1 : Int32)))) else (some (v2)))))))
set_option maxRecDepth 20000 in
theorem bo_X11_lastDayAmong_3 {X : mXT} {E : mEn} {Fu : Nat} {I : mIT} {R : mRT} {L : mLT}  (hC : mC X E mX11_lastDayAmong RX11 cX11_lastDayAmong) (hW : mWd R)   {out : Int32} (hE : mEd X E 0 0 (mSame (some (.int (out))) 106 1 I R L)) (k3_ : Int32 × Int32 → Option (Int32)) (hk3_ : ∀ (v1 : Int32) (v2 : Int32),  k3_ (v1, v2) = some out → mG X E 3 [(0, .ref (mB E + 0)), (1, .int v1), (2, .int v2)] [] 106 1 I R L 0 0) (v1 : Int32) (v2 : Int32) (h : b_X11_lastDayAmong_3 Fu R I k3_ v1 v2 = some out) : mG X E 3 [(0, .ref (mB E + 0)), (1, .int v1), (2, .int v2)] [] 106 1 I R L 0 0 := by
  unfold b_X11_lastDayAmong_3 at h
  refine g_iload_n hC dX11_lastDayAmong_3 rfl (q := 2) rfl ?_
  refine g_if_lt hC dX11_lastDayAmong_4 (tgt := 45) (by decide) (fun c4 => ?_) (fun c4 => ?_)
  · replace h := (if_pos c4).symm.trans h
    refine g_iconst hC dX11_lastDayAmong_45 (v := (-1 : Int32)) (by decide) ?_
    cases h
    exact g_iret hC hE rfl dX11_lastDayAmong_46 (Nat.zero_le _) (Nat.zero_le _) ⟨rfl, rfl, rfl, rfl, rfl, rfl⟩
  · replace h := (if_neg c4).symm.trans h
    refine g_aload_n hC dX11_lastDayAmong_7 rfl (q := 0) rfl ?_
    refine g_getr hC fd_RX11_68 rfl (by decide) (C0 := _) (t0 := .int) (Or.inl rfl) (rr_0_11 hW.1) dX11_lastDayAmong_8 ?_
    refine g_iload_n hC dX11_lastDayAmong_11 rfl (q := 2) rfl ?_
    obtain ⟨r12, h12, h⟩ := oB_some h
    refine g_cV1 hC cv_X1_soundingOn wd_695 ⟨Nat.le_of_ble_eq_true rfl, Nat.le_of_ble_eq_true rfl⟩ rfl (by decide) dX11_lastDayAmong_12 (As := [.int v2]) (st := []) (ok_X1_soundingOn hC.2.2.2.2.2.2.2.1 hW h12) rfl rfl (Nat.le_of_ble_eq_true rfl) ⟨Nat.zero_le _, Nat.zero_le _⟩ ?_
    refine g_iload_n hC dX11_lastDayAmong_15 rfl (q := 1) rfl ?_
    refine g_iand hC dX11_lastDayAmong_16 ?_
    refine g_istore_n hC dX11_lastDayAmong_17 rfl rfl (by decide) (lv' := [(3, .int (r12 &&& v1)), (0, .ref (mB E + 0)), (1, .int v1), (2, .int v2)]) rfl ?_
    refine g_aload_n hC dX11_lastDayAmong_18 rfl (q := 1) rfl ?_
    obtain ⟨p19, e19, h⟩ := oB_some h
    have hp19 : mO5 R p19 := ob5 hW.1 (hW.2.1 p19 e19)
    refine g_getr hC fd_RX11_27 rfl (by decide) (C0 := _) (t0 := .int) (Or.inl rfl) e19 dX11_lastDayAmong_19 ?_
    refine g_aload_n hC dX11_lastDayAmong_22 rfl (q := 1) rfl ?_
    refine g_getr hC fd_RX11_68 rfl (by decide) (C0 := _) (t0 := .int) (Or.inl rfl) (rr_0_11 hW.1) dX11_lastDayAmong_23 ?_
    refine g_iload_n hC dX11_lastDayAmong_26 rfl (q := 3) rfl ?_
    refine g_iload_n hC dX11_lastDayAmong_27 rfl (q := 0) rfl ?_
    obtain ⟨r28, h28, h⟩ := oB_some h
    refine g_cV1 hC cv_X1_noteBits wd_699 ⟨Nat.le_of_ble_eq_true rfl, Nat.le_of_ble_eq_true rfl⟩ rfl (by decide) dX11_lastDayAmong_28 (As := [.int v2, .int (r12 &&& v1)]) (st := [.ref (mB E + p19)]) (ok_X1_noteBits hC.2.2.2.2.2.2.2.1 hW h28) rfl rfl (Nat.le_of_ble_eq_true rfl) ⟨Nat.zero_le _, Nat.zero_le _⟩ ?_
    obtain ⟨r31, h31, h⟩ := oB_some h
    refine g_cV1 hC cv_X5_isTuneIn wd_707 ⟨Nat.le_of_ble_eq_true rfl, Nat.le_of_ble_eq_true rfl⟩ hp19.2.1 hp19.1 dX11_lastDayAmong_31 (As := [.int r28]) (st := []) (ok_X5_isTuneIn hC.2.2.2.2.2.2.2.1 hp19 h31) rfl rfl (Nat.le_of_ble_eq_true rfl) ⟨Nat.zero_le _, Nat.zero_le _⟩ ?_
    refine g_if_eq hC dX11_lastDayAmong_34 (tgt := 39) (by decide) (fun c34 => ?_) (fun c34 => ?_)
    · replace h := (if_pos c34).symm.trans h
      refine g_iinc hC dX11_lastDayAmong_39 rfl (q := 3) rfl (w := (v2 + (-1 : Int32))) rfl (by decide) (lv' := [(2, .int (v2 + (-1 : Int32))), (3, .int (r12 &&& v1)), (0, .ref (mB E + 0)), (1, .int v1)]) rfl ?_
      refine g_goto hC dX11_lastDayAmong_42 (tgt := 3) (by decide) ?_
      refine g_lv [2, 3, 0] rfl ?_
      exact hk3_ v1 (v2 + (-1 : Int32)) h
    · replace h := (if_neg c34).symm.trans h
      refine g_iload_n hC dX11_lastDayAmong_37 rfl (q := 3) rfl ?_
      cases h
      exact g_iret hC hE rfl dX11_lastDayAmong_38 (Nat.zero_le _) (Nat.zero_le _) ⟨rfl, rfl, rfl, rfl, rfl, rfl⟩
noncomputable def w_X11_lastDayAmong_3 (Fu : Nat) (R : mRT) (I : mIT)  (N : Nat) (v1 : Int32) (v2 : Int32) : Option (Int32) :=
  loopF (fun self (s : Int32 × Int32) => b_X11_lastDayAmong_3 Fu R I self s.1 s.2) N (v1, v2)
theorem wo_X11_lastDayAmong_3 {X : mXT} {E : mEn} {Fu : Nat} {I : mIT} {R : mRT} {L : mLT}  (hC : mC X E mX11_lastDayAmong RX11 cX11_lastDayAmong) (hW : mWd R)   {out : Int32} (hE : mEd X E 0 0 (mSame (some (.int (out))) 106 1 I R L))  (N : Nat) (v1 : Int32) (v2 : Int32) (h : w_X11_lastDayAmong_3 Fu R I  N v1 v2 = some out) : mG X E 3 [(0, .ref (mB E + 0)), (1, .int v1), (2, .int v2)] [] 106 1 I R L 0 0 :=
  loopF_ok (Gd := fun s : Int32 × Int32 => mG X E 3 [(0, .ref (mB E + 0)), (1, .int s.1), (2, .int s.2)] [] 106 1 I R L 0 0) (fun self hs s h => bo_X11_lastDayAmong_3 hC hW hE self (fun v1 v2 h => hs (v1, v2) h) s.1 s.2 h) N (v1, v2) h
noncomputable def f_X11_lastDayAmong (Fu : Nat) (R : mRT) (I : mIT) (v1 : Int32) : Option (Int32) :=
  w_X11_lastDayAmong_3 Fu R I Fu v1 (60 : Int32)
set_option maxRecDepth 20000 in
theorem ok_X11_lastDayAmong {l : Launch} {E : mEn} {Fu : Nat} {I : mIT} {R : mRT} {L : mLT} {v1 : Int32} (hst : l.stackTraces = false) (hW : mWd R)  {out : Int32} (h : f_X11_lastDayAmong Fu R I v1 = some out) : mOk l E mX11_lastDayAmong [.ref (mB E + 0), .int v1] 106 1 I R L 0 0 (mSame (some (.int (out))) 106 1 I R L) := by
  refine mOk_of hst (by decide) (Nat.le_of_ble_eq_true rfl) (fun X hC hE _ => ?_)
  have hC : mC X E mX11_lastDayAmong RX11 cX11_lastDayAmong := hC
  show mG X E 0 [(0, .ref (mB E + 0)), (1, .int v1)] [] 106 1 I R L 0 0
  unfold f_X11_lastDayAmong at h
  refine g_bipush hC dX11_lastDayAmong_0 (v := (60 : Int32)) (by decide) ?_
  refine g_istore_n hC dX11_lastDayAmong_2 rfl rfl (by decide) (lv' := [(2, .int (60 : Int32)), (0, .ref (mB E + 0)), (1, .int v1)]) rfl ?_
  refine g_lv [1, 2, 0] rfl ?_
  exact wo_X11_lastDayAmong_3 hC hW hE Fu (v1) ((60 : Int32)) h
noncomputable def f_X11_last (Fu : Nat) (R : mRT) (I : mIT)  : Option (Int32 × mIT) :=
  oB (R 0 3) (fun p5 => oB (f_X1_layTo Fu I p5 40 (60 : Int32)) (fun r14 => oB (f_X11_lastDayAmong Fu R r14 (-1 : Int32)) (fun r19 => some (r19, r14))))
set_option maxRecDepth 20000 in
theorem ok_X11_last {l : Launch} {E : mEn} {Fu : Nat} {I : mIT} {R : mRT} {L : mLT}  (hst : l.stackTraces = false) (hW : mWd R)  {out : Int32 × mIT} (h : f_X11_last Fu R I  = some out) : mOk l E mX11_last [.ref (mB E + 0)] 106 1 I R L 0 0 (mSame (some (.int (out.1))) 106 1 (out.2) R L) := by
  refine mOk_of hst (by decide) (Nat.le_of_ble_eq_true rfl) (fun X hC hE _ => ?_)
  have hC : mC X E mX11_last RX11 cX11_last := hC
  show mG X E 0 [(0, .ref (mB E + 0))] [] 106 1 I R L 0 0
  unfold f_X11_last at h
  refine g_aload_n hC dX11_last_0 rfl (q := 0) rfl ?_
  refine g_getr hC fd_RX11_68 rfl (by decide) (C0 := _) (t0 := .int) (Or.inl rfl) (rr_0_11 hW.1) dX11_last_1 ?_
  refine g_aload_n hC dX11_last_4 rfl (q := 0) rfl ?_
  obtain ⟨p5, e5, h⟩ := oB_some h
  have hp5 : mO5 R p5 := ob5 hW.1 (hW.2.1 p5 e5)
  refine g_getr hC fd_RX11_27 rfl (by decide) (C0 := _) (t0 := .int) (Or.inl rfl) e5 dX11_last_5 ?_
  refine g_aload_n hC dX11_last_8 rfl (q := 0) rfl ?_
  refine g_getr hC fd_RX11_34 rfl (by decide) (C0 := _) (t0 := .int) (Or.inl rfl) (rr_0_4 hW.1) dX11_last_9 ?_
  refine g_bipush hC dX11_last_12 (v := (60 : Int32)) (by decide) ?_
  obtain ⟨r14, h14, h⟩ := oB_some h
  refine g_cV0 hC cv_X1_layTo wd_664 ⟨Nat.le_of_ble_eq_true rfl, Nat.le_of_ble_eq_true rfl⟩ rfl (by decide) dX11_last_14 (As := [.ref (mB E + p5), .ref (mB E + 40), .int (60 : Int32)]) (st := []) (ok_X1_layTo hC.2.2.2.2.2.2.2.1 hW hp5 (ob_40 hW.1) h14) rfl rfl (Nat.le_of_ble_eq_true rfl) ⟨Nat.zero_le _, Nat.zero_le _⟩ ?_
  refine g_aload_n hC dX11_last_17 rfl (q := 0) rfl ?_
  refine g_iconst hC dX11_last_18 (v := (-1 : Int32)) (by decide) ?_
  obtain ⟨r19, h19, h⟩ := oB_some h
  refine g_cV1 hC cv_X11_lastDayAmong wd_691 ⟨Nat.le_of_ble_eq_true rfl, Nat.le_of_ble_eq_true rfl⟩ rfl (by decide) dX11_last_19 (As := [.int (-1 : Int32)]) (st := []) (ok_X11_lastDayAmong hC.2.2.2.2.2.2.2.1 hW h19) rfl rfl (Nat.le_of_ble_eq_true rfl) ⟨Nat.zero_le _, Nat.zero_le _⟩ ?_
  cases h
  exact g_iret hC hE rfl dX11_last_22 (Nat.zero_le _) (Nat.zero_le _) ⟨rfl, rfl, rfl, rfl, rfl, rfl⟩
noncomputable def b_X7_bellOf_2 (Fu : Nat) (I : mIT) (k2_ : Int32 × Int32 → Option (Int32)) (v1 : Int32) (v2 : Int32) : Option (Int32) :=
  if (I 62 3) ≤ v2 then (some (-1 : Int32)) else (if (nI 6) ≤ v2 then (some (-1 : Int32)) else (oG (inB v2 6) (if (I 63 (v2).toNatClampNeg) = v1 then (some (v2)) else (k2_ (v1, (v2 + (1 : Int32)))))))
set_option maxRecDepth 20000 in
theorem bo_X7_bellOf_2 {X : mXT} {E : mEn} {Fu : Nat} {I : mIT} {R : mRT} {L : mLT}  (hC : mC X E mX7_bellOf RX7 cX7_bellOf) (hW : mWd R)   {out : Int32} (hE : mEd X E 0 0 (mSame (some (.int (out))) 106 1 I R L)) (k2_ : Int32 × Int32 → Option (Int32)) (hk2_ : ∀ (v1 : Int32) (v2 : Int32),  k2_ (v1, v2) = some out → mG X E 2 [(0, .ref (mB E + 62)), (1, .int v1), (2, .int v2)] [] 106 1 I R L 0 0) (v1 : Int32) (v2 : Int32) (h : b_X7_bellOf_2 Fu I k2_ v1 v2 = some out) : mG X E 2 [(0, .ref (mB E + 62)), (1, .int v1), (2, .int v2)] [] 106 1 I R L 0 0 := by
  unfold b_X7_bellOf_2 at h
  refine g_iload_n hC dX7_bellOf_2 rfl (q := 2) rfl ?_
  refine g_aload_n hC dX7_bellOf_3 rfl (q := 0) rfl ?_
  refine g_geti hC fd_RX7_21 rfl (by decide) (Or.inl rfl) dX7_bellOf_4 ?_
  refine g_ic_ge hC dX7_bellOf_7 (tgt := 37) (by decide) (fun c7 => ?_) (fun c7 => ?_)
  · replace h := (if_pos c7).symm.trans h
    refine g_iconst hC dX7_bellOf_37 (v := (-1 : Int32)) (by decide) ?_
    cases h
    exact g_iret hC hE rfl dX7_bellOf_38 (Nat.zero_le _) (Nat.zero_le _) ⟨rfl, rfl, rfl, rfl, rfl, rfl⟩
  · replace h := (if_neg c7).symm.trans h
    refine g_iload_n hC dX7_bellOf_10 rfl (q := 2) rfl ?_
    refine g_aload_n hC dX7_bellOf_11 rfl (q := 0) rfl ?_
    refine g_getr hC fd_RX7_9 rfl (by decide) (C0 := "") (t0 := _) (Or.inr rfl) (rr_62_0 hW.1) dX7_bellOf_12 ?_
    refine g_alenI hC rfl (by decide) dX7_bellOf_15 ?_
    refine g_ic_ge hC dX7_bellOf_16 (tgt := 37) (by decide) (fun c16 => ?_) (fun c16 => ?_)
    · replace h := (if_pos c16).symm.trans h
      refine g_iconst hC dX7_bellOf_37 (v := (-1 : Int32)) (by decide) ?_
      cases h
      exact g_iret hC hE rfl dX7_bellOf_38 (Nat.zero_le _) (Nat.zero_le _) ⟨rfl, rfl, rfl, rfl, rfl, rfl⟩
    · replace h := (if_neg c16).symm.trans h
      refine g_aload_n hC dX7_bellOf_19 rfl (q := 0) rfl ?_
      refine g_getr hC fd_RX7_9 rfl (by decide) (C0 := "") (t0 := _) (Or.inr rfl) (rr_62_0 hW.1) dX7_bellOf_20 ?_
      refine g_iload_n hC dX7_bellOf_23 rfl (q := 2) rfl ?_
      obtain ⟨g24, h⟩ := oG_some h
      refine g_iald hC rfl (by decide) (inB_in g24) dX7_bellOf_24 ?_
      refine g_iload_n hC dX7_bellOf_25 rfl (q := 1) rfl ?_
      refine g_ic_ne hC dX7_bellOf_26 (tgt := 31) (by decide) (fun c26 => ?_) (fun c26 => ?_)
      · replace h := (if_neg c26).symm.trans h
        refine g_iinc hC dX7_bellOf_31 rfl (q := 2) rfl (w := (v2 + (1 : Int32))) rfl (by decide) (lv' := [(2, .int (v2 + (1 : Int32))), (0, .ref (mB E + 62)), (1, .int v1)]) rfl ?_
        refine g_goto hC dX7_bellOf_34 (tgt := 2) (by decide) ?_
        refine g_lv [1, 2, 0] rfl ?_
        exact hk2_ v1 (v2 + (1 : Int32)) h
      · replace h := (if_pos c26).symm.trans h
        refine g_iload_n hC dX7_bellOf_29 rfl (q := 2) rfl ?_
        cases h
        exact g_iret hC hE rfl dX7_bellOf_30 (Nat.zero_le _) (Nat.zero_le _) ⟨rfl, rfl, rfl, rfl, rfl, rfl⟩
noncomputable def w_X7_bellOf_2 (Fu : Nat) (I : mIT)  (N : Nat) (v1 : Int32) (v2 : Int32) : Option (Int32) :=
  loopF (fun self (s : Int32 × Int32) => b_X7_bellOf_2 Fu I self s.1 s.2) N (v1, v2)
theorem wo_X7_bellOf_2 {X : mXT} {E : mEn} {Fu : Nat} {I : mIT} {R : mRT} {L : mLT}  (hC : mC X E mX7_bellOf RX7 cX7_bellOf) (hW : mWd R)   {out : Int32} (hE : mEd X E 0 0 (mSame (some (.int (out))) 106 1 I R L))  (N : Nat) (v1 : Int32) (v2 : Int32) (h : w_X7_bellOf_2 Fu I  N v1 v2 = some out) : mG X E 2 [(0, .ref (mB E + 62)), (1, .int v1), (2, .int v2)] [] 106 1 I R L 0 0 :=
  loopF_ok (Gd := fun s : Int32 × Int32 => mG X E 2 [(0, .ref (mB E + 62)), (1, .int s.1), (2, .int s.2)] [] 106 1 I R L 0 0) (fun self hs s h => bo_X7_bellOf_2 hC hW hE self (fun v1 v2 h => hs (v1, v2) h) s.1 s.2 h) N (v1, v2) h
noncomputable def f_X7_bellOf (Fu : Nat) (I : mIT) (v1 : Int32) : Option (Int32) :=
  w_X7_bellOf_2 Fu I Fu v1 (0 : Int32)
set_option maxRecDepth 20000 in
theorem ok_X7_bellOf {l : Launch} {E : mEn} {Fu : Nat} {I : mIT} {R : mRT} {L : mLT} {v1 : Int32} (hst : l.stackTraces = false) (hW : mWd R)  {out : Int32} (h : f_X7_bellOf Fu I v1 = some out) : mOk l E mX7_bellOf [.ref (mB E + 62), .int v1] 106 1 I R L 0 0 (mSame (some (.int (out))) 106 1 I R L) := by
  refine mOk_of hst (by decide) (Nat.le_of_ble_eq_true rfl) (fun X hC hE _ => ?_)
  have hC : mC X E mX7_bellOf RX7 cX7_bellOf := hC
  show mG X E 0 [(0, .ref (mB E + 62)), (1, .int v1)] [] 106 1 I R L 0 0
  unfold f_X7_bellOf at h
  refine g_iconst hC dX7_bellOf_0 (v := (0 : Int32)) (by decide) ?_
  refine g_istore_n hC dX7_bellOf_1 rfl rfl (by decide) (lv' := [(2, .int (0 : Int32)), (0, .ref (mB E + 62)), (1, .int v1)]) rfl ?_
  refine g_lv [1, 2, 0] rfl ?_
  exact wo_X7_bellOf_2 hC hW hE Fu (v1) ((0 : Int32)) h
noncomputable def b_X7_lengthRung_5 (Fu : Nat) (I : mIT) (k5_ : Int32 × Int32 → Option (Int32)) (v1 : Int32) (v2 : Int32) : Option (Int32) :=
  if (72 : Int32) ≤ v2 then (some (72 : Int32)) else (oB (f_X7_behindOne Fu I v1 v2) (fun r14 => if r14 = (181896 : Int32) then (some (v2 + (1 : Int32))) else (k5_ (r14, (v2 + (1 : Int32))))))
set_option maxRecDepth 20000 in
theorem bo_X7_lengthRung_5 {X : mXT} {E : mEn} {Fu : Nat} {I : mIT} {R : mRT} {L : mLT}  (hC : mC X E mX7_lengthRung RX7 cX7_lengthRung) (hW : mWd R)   {out : Int32} (hE : mEd X E 0 0 (mSame (some (.int (out))) 106 1 I R L)) (k5_ : Int32 × Int32 → Option (Int32)) (hk5_ : ∀ (v1 : Int32) (v2 : Int32),  k5_ (v1, v2) = some out → mG X E 5 [(0, .ref (mB E + 62)), (1, .int v1), (2, .int v2)] [] 106 1 I R L 0 0) (v1 : Int32) (v2 : Int32) (h : b_X7_lengthRung_5 Fu I k5_ v1 v2 = some out) : mG X E 5 [(0, .ref (mB E + 62)), (1, .int v1), (2, .int v2)] [] 106 1 I R L 0 0 := by
  unfold b_X7_lengthRung_5 at h
  refine g_iload_n hC dX7_lengthRung_5 rfl (q := 2) rfl ?_
  refine g_bipush hC dX7_lengthRung_6 (v := (72 : Int32)) (by decide) ?_
  refine g_ic_ge hC dX7_lengthRung_8 (tgt := 34) (by decide) (fun c8 => ?_) (fun c8 => ?_)
  · replace h := (if_pos c8).symm.trans h
    refine g_bipush hC dX7_lengthRung_34 (v := (72 : Int32)) (by decide) ?_
    cases h
    exact g_iret hC hE rfl dX7_lengthRung_36 (Nat.zero_le _) (Nat.zero_le _) ⟨rfl, rfl, rfl, rfl, rfl, rfl⟩
  · replace h := (if_neg c8).symm.trans h
    refine g_aload_n hC dX7_lengthRung_11 rfl (q := 0) rfl ?_
    refine g_iload_n hC dX7_lengthRung_12 rfl (q := 1) rfl ?_
    refine g_iload_n hC dX7_lengthRung_13 rfl (q := 2) rfl ?_
    obtain ⟨r14, h14, h⟩ := oB_some h
    refine g_cV1 hC cv_X7_behindOne wd_741 ⟨Nat.le_of_ble_eq_true rfl, Nat.le_of_ble_eq_true rfl⟩ rfl (by decide) dX7_lengthRung_14 (As := [.int v1, .int v2]) (st := []) (ok_X7_behindOne hC.2.2.2.2.2.2.2.1 hW h14) rfl rfl (Nat.le_of_ble_eq_true rfl) ⟨Nat.zero_le _, Nat.zero_le _⟩ ?_
    refine g_istore_n hC dX7_lengthRung_17 rfl rfl (by decide) (lv' := [(1, .int r14), (0, .ref (mB E + 62)), (2, .int v2)]) rfl ?_
    refine g_iload_n hC dX7_lengthRung_18 rfl (q := 0) rfl ?_
    refine g_ldc hC dX7_lengthRung_19 wd_740 ?_
    refine g_ic_ne hC dX7_lengthRung_21 (tgt := 28) (by decide) (fun c21 => ?_) (fun c21 => ?_)
    · replace h := (if_neg c21).symm.trans h
      refine g_iinc hC dX7_lengthRung_28 rfl (q := 2) rfl (w := (v2 + (1 : Int32))) rfl (by decide) (lv' := [(2, .int (v2 + (1 : Int32))), (1, .int r14), (0, .ref (mB E + 62))]) rfl ?_
      refine g_goto hC dX7_lengthRung_31 (tgt := 5) (by decide) ?_
      refine g_lv [2, 1, 0] rfl ?_
      exact hk5_ r14 (v2 + (1 : Int32)) h
    · replace h := (if_pos c21).symm.trans h
      refine g_iload_n hC dX7_lengthRung_24 rfl (q := 2) rfl ?_
      refine g_iconst hC dX7_lengthRung_25 (v := (1 : Int32)) (by decide) ?_
      refine g_iadd hC dX7_lengthRung_26 ?_
      cases h
      exact g_iret hC hE rfl dX7_lengthRung_27 (Nat.zero_le _) (Nat.zero_le _) ⟨rfl, rfl, rfl, rfl, rfl, rfl⟩
noncomputable def w_X7_lengthRung_5 (Fu : Nat) (I : mIT)  (N : Nat) (v1 : Int32) (v2 : Int32) : Option (Int32) :=
  loopF (fun self (s : Int32 × Int32) => b_X7_lengthRung_5 Fu I self s.1 s.2) N (v1, v2)
theorem wo_X7_lengthRung_5 {X : mXT} {E : mEn} {Fu : Nat} {I : mIT} {R : mRT} {L : mLT}  (hC : mC X E mX7_lengthRung RX7 cX7_lengthRung) (hW : mWd R)   {out : Int32} (hE : mEd X E 0 0 (mSame (some (.int (out))) 106 1 I R L))  (N : Nat) (v1 : Int32) (v2 : Int32) (h : w_X7_lengthRung_5 Fu I  N v1 v2 = some out) : mG X E 5 [(0, .ref (mB E + 62)), (1, .int v1), (2, .int v2)] [] 106 1 I R L 0 0 :=
  loopF_ok (Gd := fun s : Int32 × Int32 => mG X E 5 [(0, .ref (mB E + 62)), (1, .int s.1), (2, .int s.2)] [] 106 1 I R L 0 0) (fun self hs s h => bo_X7_lengthRung_5 hC hW hE self (fun v1 v2 h => hs (v1, v2) h) s.1 s.2 h) N (v1, v2) h
noncomputable def f_X7_lengthRung (Fu : Nat) (I : mIT)  : Option (Int32) :=
  w_X7_lengthRung_5 Fu I Fu (181896 : Int32) (0 : Int32)
set_option maxRecDepth 20000 in
theorem ok_X7_lengthRung {l : Launch} {E : mEn} {Fu : Nat} {I : mIT} {R : mRT} {L : mLT}  (hst : l.stackTraces = false) (hW : mWd R)  {out : Int32} (h : f_X7_lengthRung Fu I  = some out) : mOk l E mX7_lengthRung [.ref (mB E + 62)] 106 1 I R L 0 0 (mSame (some (.int (out))) 106 1 I R L) := by
  refine mOk_of hst (by decide) (Nat.le_of_ble_eq_true rfl) (fun X hC hE _ => ?_)
  have hC : mC X E mX7_lengthRung RX7 cX7_lengthRung := hC
  show mG X E 0 [(0, .ref (mB E + 62))] [] 106 1 I R L 0 0
  unfold f_X7_lengthRung at h
  refine g_ldc hC dX7_lengthRung_0 wd_740 ?_
  refine g_istore_n hC dX7_lengthRung_2 rfl rfl (by decide) (lv' := [(1, .int (181896 : Int32)), (0, .ref (mB E + 62))]) rfl ?_
  refine g_iconst hC dX7_lengthRung_3 (v := (0 : Int32)) (by decide) ?_
  refine g_istore_n hC dX7_lengthRung_4 rfl rfl (by decide) (lv' := [(2, .int (0 : Int32)), (1, .int (181896 : Int32)), (0, .ref (mB E + 62))]) rfl ?_
  refine g_lv [2, 1, 0] rfl ?_
  exact wo_X7_lengthRung_5 hC hW hE Fu ((181896 : Int32)) ((0 : Int32)) h
noncomputable def b_X7_leadsOf_21 (Fu : Nat) (I : mIT) (k21_ : Int32 × Int32 × Int32 × Int32 × Int32 → Option (Int32)) (v2 : Int32) (v3 : Int32) (v4 : Int32) (v5 : Int32) (v6 : Int32) : Option (Int32) :=
  if v3 ≤ v6 then (some (v5)) else (oB (f_X7_bellAt Fu v4 (0 : Int32)) (fun r32 => if r32 = v2 then (oB (f_X7_behindOne Fu I v4 v6) (fun r52 => k21_ (v2, v3, r52, (v5 + (1 : Int32)), (v6 + (1 : Int32))))) else (oB (f_X7_behindOne Fu I v4 v6) (fun r52 => k21_ (v2, v3, r52, (v5 + (0 : Int32)), (v6 + (1 : Int32)))))))
set_option maxRecDepth 20000 in
theorem bo_X7_leadsOf_21 {X : mXT} {E : mEn} {Fu : Nat} {I : mIT} {R : mRT} {L : mLT}  (hC : mC X E mX7_leadsOf RX7 cX7_leadsOf) (hW : mWd R)   {out : Int32} (hE : mEd X E 0 0 (mSame (some (.int (out))) 106 1 I R L)) (k21_ : Int32 × Int32 × Int32 × Int32 × Int32 → Option (Int32)) (hk21_ : ∀ (v2 : Int32) (v3 : Int32) (v4 : Int32) (v5 : Int32) (v6 : Int32),  k21_ (v2, v3, v4, v5, v6) = some out → mG X E 21 [(0, .ref (mB E + 62)), (2, .int v2), (3, .int v3), (4, .int v4), (5, .int v5), (6, .int v6)] [] 106 1 I R L 0 0) (v2 : Int32) (v3 : Int32) (v4 : Int32) (v5 : Int32) (v6 : Int32) (h : b_X7_leadsOf_21 Fu I k21_ v2 v3 v4 v5 v6 = some out) : mG X E 21 [(0, .ref (mB E + 62)), (2, .int v2), (3, .int v3), (4, .int v4), (5, .int v5), (6, .int v6)] [] 106 1 I R L 0 0 := by
  unfold b_X7_leadsOf_21 at h
  refine g_iload hC dX7_leadsOf_21 (q := 5) rfl ?_
  refine g_iload_n hC dX7_leadsOf_23 rfl (q := 2) rfl ?_
  refine g_ic_ge hC dX7_leadsOf_24 (tgt := 63) (by decide) (fun c24 => ?_) (fun c24 => ?_)
  · replace h := (if_pos c24).symm.trans h
    refine g_iload hC dX7_leadsOf_63 (q := 4) rfl ?_
    cases h
    exact g_iret hC hE rfl dX7_leadsOf_65 (Nat.zero_le _) (Nat.zero_le _) ⟨rfl, rfl, rfl, rfl, rfl, rfl⟩
  · replace h := (if_neg c24).symm.trans h
    refine g_iload hC dX7_leadsOf_27 (q := 4) rfl ?_
    refine g_iload hC dX7_leadsOf_29 (q := 3) rfl ?_
    refine g_iconst hC dX7_leadsOf_31 (v := (0 : Int32)) (by decide) ?_
    obtain ⟨r32, h32, h⟩ := oB_some h
    refine g_cS1 hC cs_X7_bellAt wd_745 ⟨Nat.le_of_ble_eq_true rfl, Nat.le_of_ble_eq_true rfl⟩ dX7_leadsOf_32 (As := [.int v4, .int (0 : Int32)]) (st := [.int v5]) (ok_X7_bellAt hC.2.2.2.2.2.2.2.1  h32) rfl rfl (Nat.le_of_ble_eq_true rfl) ⟨Nat.zero_le _, Nat.zero_le _⟩ ?_
    refine g_iload_n hC dX7_leadsOf_35 rfl (q := 1) rfl ?_
    refine g_ic_ne hC dX7_leadsOf_36 (tgt := 43) (by decide) (fun c36 => ?_) (fun c36 => ?_)
    · replace h := (if_neg c36).symm.trans h
      refine g_iconst hC dX7_leadsOf_43 (v := (0 : Int32)) (by decide) ?_
      refine g_iadd hC dX7_leadsOf_44 ?_
      refine g_istore hC dX7_leadsOf_45 rfl (by decide) (lv' := [(5, .int (v5 + (0 : Int32))), (0, .ref (mB E + 62)), (2, .int v2), (3, .int v3), (4, .int v4), (6, .int v6)]) rfl ?_
      refine g_aload_n hC dX7_leadsOf_47 rfl (q := 1) rfl ?_
      refine g_iload hC dX7_leadsOf_48 (q := 4) rfl ?_
      refine g_iload hC dX7_leadsOf_50 (q := 5) rfl ?_
      obtain ⟨r52, h52, h⟩ := oB_some h
      refine g_cV1 hC cv_X7_behindOne wd_741 ⟨Nat.le_of_ble_eq_true rfl, Nat.le_of_ble_eq_true rfl⟩ rfl (by decide) dX7_leadsOf_52 (As := [.int v4, .int v6]) (st := []) (ok_X7_behindOne hC.2.2.2.2.2.2.2.1 hW h52) rfl rfl (Nat.le_of_ble_eq_true rfl) ⟨Nat.zero_le _, Nat.zero_le _⟩ ?_
      refine g_istore hC dX7_leadsOf_55 rfl (by decide) (lv' := [(4, .int r52), (5, .int (v5 + (0 : Int32))), (0, .ref (mB E + 62)), (2, .int v2), (3, .int v3), (6, .int v6)]) rfl ?_
      refine g_iinc hC dX7_leadsOf_57 rfl (q := 5) rfl (w := (v6 + (1 : Int32))) rfl (by decide) (lv' := [(6, .int (v6 + (1 : Int32))), (4, .int r52), (5, .int (v5 + (0 : Int32))), (0, .ref (mB E + 62)), (2, .int v2), (3, .int v3)]) rfl ?_
      refine g_goto hC dX7_leadsOf_60 (tgt := 21) (by decide) ?_
      refine g_lv [3, 4, 5, 1, 2, 0] rfl ?_
      exact hk21_ v2 v3 r52 (v5 + (0 : Int32)) (v6 + (1 : Int32)) h
    · replace h := (if_pos c36).symm.trans h
      refine g_iconst hC dX7_leadsOf_39 (v := (1 : Int32)) (by decide) ?_
      refine g_goto hC dX7_leadsOf_40 (tgt := 44) (by decide) ?_
      refine g_iadd hC dX7_leadsOf_44 ?_
      refine g_istore hC dX7_leadsOf_45 rfl (by decide) (lv' := [(5, .int (v5 + (1 : Int32))), (0, .ref (mB E + 62)), (2, .int v2), (3, .int v3), (4, .int v4), (6, .int v6)]) rfl ?_
      refine g_aload_n hC dX7_leadsOf_47 rfl (q := 1) rfl ?_
      refine g_iload hC dX7_leadsOf_48 (q := 4) rfl ?_
      refine g_iload hC dX7_leadsOf_50 (q := 5) rfl ?_
      obtain ⟨r52, h52, h⟩ := oB_some h
      refine g_cV1 hC cv_X7_behindOne wd_741 ⟨Nat.le_of_ble_eq_true rfl, Nat.le_of_ble_eq_true rfl⟩ rfl (by decide) dX7_leadsOf_52 (As := [.int v4, .int v6]) (st := []) (ok_X7_behindOne hC.2.2.2.2.2.2.2.1 hW h52) rfl rfl (Nat.le_of_ble_eq_true rfl) ⟨Nat.zero_le _, Nat.zero_le _⟩ ?_
      refine g_istore hC dX7_leadsOf_55 rfl (by decide) (lv' := [(4, .int r52), (5, .int (v5 + (1 : Int32))), (0, .ref (mB E + 62)), (2, .int v2), (3, .int v3), (6, .int v6)]) rfl ?_
      refine g_iinc hC dX7_leadsOf_57 rfl (q := 5) rfl (w := (v6 + (1 : Int32))) rfl (by decide) (lv' := [(6, .int (v6 + (1 : Int32))), (4, .int r52), (5, .int (v5 + (1 : Int32))), (0, .ref (mB E + 62)), (2, .int v2), (3, .int v3)]) rfl ?_
      refine g_goto hC dX7_leadsOf_60 (tgt := 21) (by decide) ?_
      refine g_lv [3, 4, 5, 1, 2, 0] rfl ?_
      exact hk21_ v2 v3 r52 (v5 + (1 : Int32)) (v6 + (1 : Int32)) h
noncomputable def w_X7_leadsOf_21 (Fu : Nat) (I : mIT)  (N : Nat) (v2 : Int32) (v3 : Int32) (v4 : Int32) (v5 : Int32) (v6 : Int32) : Option (Int32) :=
  loopF (fun self (s : Int32 × Int32 × Int32 × Int32 × Int32) => b_X7_leadsOf_21 Fu I self s.1 s.2.1 s.2.2.1 s.2.2.2.1 s.2.2.2.2) N (v2, v3, v4, v5, v6)
theorem wo_X7_leadsOf_21 {X : mXT} {E : mEn} {Fu : Nat} {I : mIT} {R : mRT} {L : mLT}  (hC : mC X E mX7_leadsOf RX7 cX7_leadsOf) (hW : mWd R)   {out : Int32} (hE : mEd X E 0 0 (mSame (some (.int (out))) 106 1 I R L))  (N : Nat) (v2 : Int32) (v3 : Int32) (v4 : Int32) (v5 : Int32) (v6 : Int32) (h : w_X7_leadsOf_21 Fu I  N v2 v3 v4 v5 v6 = some out) : mG X E 21 [(0, .ref (mB E + 62)), (2, .int v2), (3, .int v3), (4, .int v4), (5, .int v5), (6, .int v6)] [] 106 1 I R L 0 0 :=
  loopF_ok (Gd := fun s : Int32 × Int32 × Int32 × Int32 × Int32 => mG X E 21 [(0, .ref (mB E + 62)), (2, .int s.1), (3, .int s.2.1), (4, .int s.2.2.1), (5, .int s.2.2.2.1), (6, .int s.2.2.2.2)] [] 106 1 I R L 0 0) (fun self hs s h => bo_X7_leadsOf_21 hC hW hE self (fun v2 v3 v4 v5 v6 h => hs (v2, v3, v4, v5, v6) h) s.1 s.2.1 s.2.2.1 s.2.2.2.1 s.2.2.2.2 h) N (v2, v3, v4, v5, v6) h
noncomputable def f_X7_leadsOf (Fu : Nat) (I : mIT) (v1 : Int32) : Option (Int32) :=
  oB (f_X7_bellOf Fu I v1) (fun r2 => oB (f_X7_lengthRung Fu I) (fun r7 => w_X7_leadsOf_21 Fu I Fu r2 r7 (181896 : Int32) (0 : Int32) (0 : Int32)))
set_option maxRecDepth 20000 in
theorem ok_X7_leadsOf {l : Launch} {E : mEn} {Fu : Nat} {I : mIT} {R : mRT} {L : mLT} {v1 : Int32} (hst : l.stackTraces = false) (hW : mWd R)  {out : Int32} (h : f_X7_leadsOf Fu I v1 = some out) : mOk l E mX7_leadsOf [.ref (mB E + 62), .int v1] 106 1 I R L 0 0 (mSame (some (.int (out))) 106 1 I R L) := by
  refine mOk_of hst (by decide) (Nat.le_of_ble_eq_true rfl) (fun X hC hE _ => ?_)
  have hC : mC X E mX7_leadsOf RX7 cX7_leadsOf := hC
  show mG X E 0 [(0, .ref (mB E + 62)), (1, .int v1)] [] 106 1 I R L 0 0
  unfold f_X7_leadsOf at h
  refine g_aload_n hC dX7_leadsOf_0 rfl (q := 0) rfl ?_
  refine g_iload_n hC dX7_leadsOf_1 rfl (q := 1) rfl ?_
  obtain ⟨r2, h2, h⟩ := oB_some h
  refine g_cV1 hC cv_X7_bellOf wd_1594 ⟨Nat.le_of_ble_eq_true rfl, Nat.le_of_ble_eq_true rfl⟩ rfl (by decide) dX7_leadsOf_2 (As := [.int v1]) (st := []) (ok_X7_bellOf hC.2.2.2.2.2.2.2.1 hW h2) rfl rfl (Nat.le_of_ble_eq_true rfl) ⟨Nat.zero_le _, Nat.zero_le _⟩ ?_
  refine g_istore_n hC dX7_leadsOf_5 rfl rfl (by decide) (lv' := [(2, .int r2), (0, .ref (mB E + 62)), (1, .int v1)]) rfl ?_
  refine g_aload_n hC dX7_leadsOf_6 rfl (q := 1) rfl ?_
  obtain ⟨r7, h7, h⟩ := oB_some h
  refine g_cV1 hC cv_X7_lengthRung wd_1598 ⟨Nat.le_of_ble_eq_true rfl, Nat.le_of_ble_eq_true rfl⟩ rfl (by decide) dX7_leadsOf_7 (As := []) (st := []) (ok_X7_lengthRung hC.2.2.2.2.2.2.2.1 hW h7) rfl rfl (Nat.le_of_ble_eq_true rfl) ⟨Nat.zero_le _, Nat.zero_le _⟩ ?_
  refine g_istore_n hC dX7_leadsOf_10 rfl rfl (by decide) (lv' := [(3, .int r7), (2, .int r2), (0, .ref (mB E + 62)), (1, .int v1)]) rfl ?_
  refine g_ldc hC dX7_leadsOf_11 wd_740 ?_
  refine g_istore hC dX7_leadsOf_13 rfl (by decide) (lv' := [(4, .int (181896 : Int32)), (3, .int r7), (2, .int r2), (0, .ref (mB E + 62)), (1, .int v1)]) rfl ?_
  refine g_iconst hC dX7_leadsOf_15 (v := (0 : Int32)) (by decide) ?_
  refine g_istore hC dX7_leadsOf_16 rfl (by decide) (lv' := [(5, .int (0 : Int32)), (4, .int (181896 : Int32)), (3, .int r7), (2, .int r2), (0, .ref (mB E + 62)), (1, .int v1)]) rfl ?_
  refine g_iconst hC dX7_leadsOf_18 (v := (0 : Int32)) (by decide) ?_
  refine g_istore hC dX7_leadsOf_19 rfl (by decide) (lv' := [(6, .int (0 : Int32)), (5, .int (0 : Int32)), (4, .int (181896 : Int32)), (3, .int r7), (2, .int r2), (0, .ref (mB E + 62)), (1, .int v1)]) rfl ?_
  refine g_lv [5, 4, 3, 2, 1, 0] rfl ?_
  exact wo_X7_leadsOf_21 hC hW hE Fu (r2) (r7) ((181896 : Int32)) ((0 : Int32)) ((0 : Int32)) h
noncomputable def f_X11_leads (Fu : Nat) (R : mRT) (I : mIT) (v1 : Int32) : Option ((Int32 × mIT) ⊕ (Nat × mIT)) :=
  oX (f_X11_checkRoot Fu R I v1) (fun r2 => oB (R 0 3) (fun p6 => if (I p6 8) = 0 then (some (.inl ((0 : Int32), I))) else (oB (R 0 3) (fun p22 => oB (f_X7_load Fu I p22 40) (fun r29 => oB (f_X7_leadsOf Fu r29 v1) (fun r37 => some (.inl (r37, r29))))))))
set_option maxRecDepth 20000 in
theorem oy_X11_leads {l : Launch} {E : mEn} {Fu : Nat} {I : mIT} {R : mRT} {L : mLT} {v1 : Int32} (hst : l.stackTraces = false) (hW : mWd R)  {out : (Int32 × mIT) ⊕ (Nat × mIT)} (h : f_X11_leads Fu R I v1 = some out) {mc ms : Nat} {post : Option Value → Nat → Nat → mIT → mRT → mLT → Prop} {px : String → Nat → Nat → mIT → mRT → mLT → Prop} (ho : Sum.elim (fun o : Int32 × mIT => post (some (.int (o.1))) 106 1 (o.2) R L) (fun q : Nat × mIT => 1 ≤ mc ∧ 6 ≤ ms ∧ px (xNm q.1) 106 1 q.2 R L) out) : mOx l E mX11_leads [.ref (mB E + 0), .int v1] 106 1 I R L mc ms post px := by
  refine mOx_of hst (by decide) (Nat.le_of_ble_eq_true rfl) (fun X hC hE0 _ => ?_)
  have hE : mEx X E mc ms post px ∧ Sum.elim (fun o : Int32 × mIT => post (some (.int (o.1))) 106 1 (o.2) R L) (fun q : Nat × mIT => 1 ≤ mc ∧ 6 ≤ ms ∧ px (xNm q.1) 106 1 q.2 R L) out := ⟨hE0, ho⟩
  have hC : mC X E mX11_leads RX11 cX11_leads := hC
  show mG X E 0 [(0, .ref (mB E + 0)), (1, .int v1)] [] 106 1 I R L 0 0
  unfold f_X11_leads at h
  refine g_aload_n hC dX11_leads_0 rfl (q := 0) rfl ?_
  refine g_iload_n hC dX11_leads_1 rfl (q := 1) rfl ?_
  rcases oX_some h with ⟨r2, h2, h⟩ | ⟨q2, h2, h⟩
  case inr =>
    subst h
    have hq : 1 ≤ mc ∧ 6 ≤ ms ∧ px (xNm q2.1) 106 1 q2.2 R L := hE.2
    exact g_cVz hC hE.1 cv_X11_checkRoot wd_1183 ⟨Nat.le_of_ble_eq_true rfl, Nat.le_of_ble_eq_true rfl⟩ rfl (by decide) dX11_leads_2 (As := [.int v1]) (st := []) (ox_X11_checkRoot hC.2.2.2.2.2.2.2.1 hW h2) rfl rfl (Nat.le_of_ble_eq_true rfl) ⟨by omega, by omega⟩ hq.2.2
  refine g_cVy0 hC hE.1 cv_X11_checkRoot wd_1183 ⟨Nat.le_of_ble_eq_true rfl, Nat.le_of_ble_eq_true rfl⟩ rfl (by decide) dX11_leads_2 (As := [.int v1]) (st := []) (oi_X11_checkRoot hC.2.2.2.2.2.2.2.1 hW h2) rfl rfl (Nat.le_of_ble_eq_true rfl) ⟨Nat.zero_le _, Nat.zero_le _⟩ ?_
  refine g_aload_n hC dX11_leads_5 rfl (q := 0) rfl ?_
  obtain ⟨p6, e6, h⟩ := oB_some h
  have hp6 : mO5 R p6 := ob5 hW.1 (hW.2.1 p6 e6)
  refine g_getr hC fd_RX11_27 rfl (by decide) (C0 := _) (t0 := .int) (Or.inl rfl) e6 dX11_leads_6 ?_
  refine g_geti hC fd_RX11_163 hp6.2.1 hp6.1 (Or.inl rfl) dX11_leads_9 ?_
  refine g_if_ne hC dX11_leads_12 (tgt := 17) (by decide) (fun c12 => ?_) (fun c12 => ?_)
  · replace h := (if_neg c12).symm.trans h
    refine g_aload_n hC dX11_leads_17 rfl (q := 0) rfl ?_
    refine g_getr hC fd_RX11_75 rfl (by decide) (C0 := _) (t0 := .int) (Or.inl rfl) (rr_0_12 hW.1) dX11_leads_18 ?_
    refine g_aload_n hC dX11_leads_21 rfl (q := 0) rfl ?_
    obtain ⟨p22, e22, h⟩ := oB_some h
    have hp22 : mO5 R p22 := ob5 hW.1 (hW.2.1 p22 e22)
    refine g_getr hC fd_RX11_27 rfl (by decide) (C0 := _) (t0 := .int) (Or.inl rfl) e22 dX11_leads_22 ?_
    refine g_aload_n hC dX11_leads_25 rfl (q := 0) rfl ?_
    refine g_getr hC fd_RX11_34 rfl (by decide) (C0 := _) (t0 := .int) (Or.inl rfl) (rr_0_4 hW.1) dX11_leads_26 ?_
    obtain ⟨r29, h29, h⟩ := oB_some h
    refine g_cV0 hC cv_X7_load wd_724 ⟨Nat.le_of_ble_eq_true rfl, Nat.le_of_ble_eq_true rfl⟩ rfl (by decide) dX11_leads_29 (As := [.ref (mB E + p22), .ref (mB E + 40)]) (st := []) (ok_X7_load hC.2.2.2.2.2.2.2.1 hW hp22 (ob_40 hW.1) h29) rfl rfl (Nat.le_of_ble_eq_true rfl) ⟨Nat.zero_le _, Nat.zero_le _⟩ ?_
    refine g_aload_n hC dX11_leads_32 rfl (q := 0) rfl ?_
    refine g_getr hC fd_RX11_75 rfl (by decide) (C0 := _) (t0 := .int) (Or.inl rfl) (rr_0_12 hW.1) dX11_leads_33 ?_
    refine g_iload_n hC dX11_leads_36 rfl (q := 1) rfl ?_
    obtain ⟨r37, h37, h⟩ := oB_some h
    refine g_cV1 hC cv_X7_leadsOf wd_1590 ⟨Nat.le_of_ble_eq_true rfl, Nat.le_of_ble_eq_true rfl⟩ rfl (by decide) dX11_leads_37 (As := [.int v1]) (st := []) (ok_X7_leadsOf hC.2.2.2.2.2.2.2.1 hW h37) rfl rfl (Nat.le_of_ble_eq_true rfl) ⟨Nat.zero_le _, Nat.zero_le _⟩ ?_
    cases h
    exact g_xiret hC hE.1 rfl dX11_leads_40 (Nat.zero_le _) (Nat.zero_le _) hE.2
  · replace h := (if_pos c12).symm.trans h
    refine g_iconst hC dX11_leads_15 (v := (0 : Int32)) (by decide) ?_
    cases h
    exact g_xiret hC hE.1 rfl dX11_leads_16 (Nat.zero_le _) (Nat.zero_le _) hE.2
theorem oi_X11_leads {l : Launch} {E : mEn} {Fu : Nat} {I : mIT} {R : mRT} {L : mLT} {v1 : Int32} (hst : l.stackTraces = false) (hW : mWd R)  {out : Int32 × mIT} (h : f_X11_leads Fu R I v1 = some (.inl out)) : mOx l E mX11_leads [.ref (mB E + 0), .int v1] 106 1 I R L 0 0 (mSame (some (.int (out.1))) 106 1 (out.2) R L) (fun _ _ _ _ _ _ => False) := oy_X11_leads hst hW h ⟨rfl, rfl, rfl, rfl, rfl, rfl⟩
theorem ox_X11_leads {l : Launch} {E : mEn} {Fu : Nat} {I : mIT} {R : mRT} {L : mLT} {v1 : Int32} (hst : l.stackTraces = false) (hW : mWd R)  {q : Nat × mIT} (h : f_X11_leads Fu R I v1 = some (.inr q)) : mOx l E mX11_leads [.ref (mB E + 0), .int v1] 106 1 I R L 1 6 (fun _ _ _ _ _ _ => False) (mXp q.1 106 1 q.2 R L) := oy_X11_leads hst hW h ⟨Nat.le_refl _, Nat.le_refl _, rfl, rfl, rfl, rfl, rfl, rfl⟩
noncomputable def f_X11_length (Fu : Nat) (R : mRT) (I : mIT)  : Option (Int32 × mIT) :=
  oB (R 0 3) (fun p1 => if (I p1 8) = 0 then (some ((-1 : Int32), I)) else (oB (R 0 3) (fun p17 => oB (f_X7_load Fu I p17 40) (fun r24 => oB (f_X7_lengthRung Fu r24) (fun r31 => some (r31, r24))))))
set_option maxRecDepth 20000 in
theorem ok_X11_length {l : Launch} {E : mEn} {Fu : Nat} {I : mIT} {R : mRT} {L : mLT}  (hst : l.stackTraces = false) (hW : mWd R)  {out : Int32 × mIT} (h : f_X11_length Fu R I  = some out) : mOk l E mX11_length [.ref (mB E + 0)] 106 1 I R L 0 0 (mSame (some (.int (out.1))) 106 1 (out.2) R L) := by
  refine mOk_of hst (by decide) (Nat.le_of_ble_eq_true rfl) (fun X hC hE _ => ?_)
  have hC : mC X E mX11_length RX11 cX11_length := hC
  show mG X E 0 [(0, .ref (mB E + 0))] [] 106 1 I R L 0 0
  unfold f_X11_length at h
  refine g_aload_n hC dX11_length_0 rfl (q := 0) rfl ?_
  obtain ⟨p1, e1, h⟩ := oB_some h
  have hp1 : mO5 R p1 := ob5 hW.1 (hW.2.1 p1 e1)
  refine g_getr hC fd_RX11_27 rfl (by decide) (C0 := _) (t0 := .int) (Or.inl rfl) e1 dX11_length_1 ?_
  refine g_geti hC fd_RX11_163 hp1.2.1 hp1.1 (Or.inl rfl) dX11_length_4 ?_
  refine g_if_ne hC dX11_length_7 (tgt := 12) (by decide) (fun c7 => ?_) (fun c7 => ?_)
  · replace h := (if_neg c7).symm.trans h
    refine g_aload_n hC dX11_length_12 rfl (q := 0) rfl ?_
    refine g_getr hC fd_RX11_75 rfl (by decide) (C0 := _) (t0 := .int) (Or.inl rfl) (rr_0_12 hW.1) dX11_length_13 ?_
    refine g_aload_n hC dX11_length_16 rfl (q := 0) rfl ?_
    obtain ⟨p17, e17, h⟩ := oB_some h
    have hp17 : mO5 R p17 := ob5 hW.1 (hW.2.1 p17 e17)
    refine g_getr hC fd_RX11_27 rfl (by decide) (C0 := _) (t0 := .int) (Or.inl rfl) e17 dX11_length_17 ?_
    refine g_aload_n hC dX11_length_20 rfl (q := 0) rfl ?_
    refine g_getr hC fd_RX11_34 rfl (by decide) (C0 := _) (t0 := .int) (Or.inl rfl) (rr_0_4 hW.1) dX11_length_21 ?_
    obtain ⟨r24, h24, h⟩ := oB_some h
    refine g_cV0 hC cv_X7_load wd_724 ⟨Nat.le_of_ble_eq_true rfl, Nat.le_of_ble_eq_true rfl⟩ rfl (by decide) dX11_length_24 (As := [.ref (mB E + p17), .ref (mB E + 40)]) (st := []) (ok_X7_load hC.2.2.2.2.2.2.2.1 hW hp17 (ob_40 hW.1) h24) rfl rfl (Nat.le_of_ble_eq_true rfl) ⟨Nat.zero_le _, Nat.zero_le _⟩ ?_
    refine g_aload_n hC dX11_length_27 rfl (q := 0) rfl ?_
    refine g_getr hC fd_RX11_75 rfl (by decide) (C0 := _) (t0 := .int) (Or.inl rfl) (rr_0_12 hW.1) dX11_length_28 ?_
    obtain ⟨r31, h31, h⟩ := oB_some h
    refine g_cV1 hC cv_X7_lengthRung wd_736 ⟨Nat.le_of_ble_eq_true rfl, Nat.le_of_ble_eq_true rfl⟩ rfl (by decide) dX11_length_31 (As := []) (st := []) (ok_X7_lengthRung hC.2.2.2.2.2.2.2.1 hW h31) rfl rfl (Nat.le_of_ble_eq_true rfl) ⟨Nat.zero_le _, Nat.zero_le _⟩ ?_
    cases h
    exact g_iret hC hE rfl dX11_length_34 (Nat.zero_le _) (Nat.zero_le _) ⟨rfl, rfl, rfl, rfl, rfl, rfl⟩
  · replace h := (if_pos c7).symm.trans h
    refine g_iconst hC dX11_length_10 (v := (-1 : Int32)) (by decide) ?_
    cases h
    exact g_iret hC hE rfl dX11_length_11 (Nat.zero_le _) (Nat.zero_le _) ⟨rfl, rfl, rfl, rfl, rfl, rfl⟩
noncomputable def b_X7_longerBy_37 (Fu : Nat) (k9_ : Int32 × Int32 × Int32 × mIT → Option (Int32 × mIT)) (k37_ : Int32 × Int32 × Int32 × Int32 × Int32 × mIT → Option (Int32 × mIT)) (v1 : Int32) (v2 : Int32) (v3 : Int32) (v4 : Int32) (v5 : Int32) (I : mIT) : Option (Int32 × mIT) :=
  if (32 : Int32) ≤ v5 then (oG (inB v3 12) (k9_ (v1, v2, (v3 + (1 : Int32)), (mU I 64 (v3).toNatClampNeg v4)))) else (if v5 = v4 then (k37_ (v1, v2, v3, v4, (v5 + (1 : Int32)), I)) else (oB (f_X11_isChangeNumber Fu v5) (fun r53 => if r53 = 0 then (k37_ (v1, v2, v3, v4, (v5 + (1 : Int32)), I)) else (oG (inB v3 12) (oB (f_X7_trueLength Fu (mU I 64 (v3).toNatClampNeg v5)) (fun r68 => if r68.1 ≤ v1 then (k37_ (v1, v2, v3, v4, (v5 + (1 : Int32)), r68.2)) else (k37_ (r68.1, (((100 : Int32) * v3) + v5), v3, v4, (v5 + (1 : Int32)), r68.2))))))))
set_option maxRecDepth 20000 in
theorem bo_X7_longerBy_37 {X : mXT} {E : mEn} {Fu : Nat} {R : mRT} {L : mLT}  (hC : mC X E mX7_longerBy RX7 cX7_longerBy) (hW : mWd R)   {out : Int32 × mIT} (hE : mEd X E 0 0 (mSame (some (.int (out.1))) 106 1 (out.2) R L)) (k9_ : Int32 × Int32 × Int32 × mIT → Option (Int32 × mIT)) (hk9_ : ∀ (v1 : Int32) (v2 : Int32) (v3 : Int32) (I : mIT),  k9_ (v1, v2, v3, I) = some out → mG X E 9 [(0, .ref (mB E + 62)), (1, .int v1), (2, .int v2), (3, .int v3)] [] 106 1 I R L 0 0) (k37_ : Int32 × Int32 × Int32 × Int32 × Int32 × mIT → Option (Int32 × mIT)) (hk37_ : ∀ (v1 : Int32) (v2 : Int32) (v3 : Int32) (v4 : Int32) (v5 : Int32) (I : mIT),  k37_ (v1, v2, v3, v4, v5, I) = some out → mG X E 37 [(0, .ref (mB E + 62)), (1, .int v1), (2, .int v2), (3, .int v3), (4, .int v4), (5, .int v5)] [] 106 1 I R L 0 0) (v1 : Int32) (v2 : Int32) (v3 : Int32) (v4 : Int32) (v5 : Int32) (I : mIT) (h : b_X7_longerBy_37 Fu k9_ k37_ v1 v2 v3 v4 v5 I = some out) : mG X E 37 [(0, .ref (mB E + 62)), (1, .int v1), (2, .int v2), (3, .int v3), (4, .int v4), (5, .int v5)] [] 106 1 I R L 0 0 := by
  unfold b_X7_longerBy_37 at h
  refine g_iload hC dX7_longerBy_37 (q := 5) rfl ?_
  refine g_bipush hC dX7_longerBy_39 (v := (32 : Int32)) (by decide) ?_
  refine g_ic_ge hC dX7_longerBy_41 (tgt := 96) (by decide) (fun c41 => ?_) (fun c41 => ?_)
  · replace h := (if_pos c41).symm.trans h
    refine g_aload_n hC dX7_longerBy_96 rfl (q := 0) rfl ?_
    refine g_getr hC fd_RX7_15 rfl (by decide) (C0 := "") (t0 := _) (Or.inr rfl) (rr_62_1 hW.1) dX7_longerBy_97 ?_
    refine g_iload_n hC dX7_longerBy_100 rfl (q := 3) rfl ?_
    refine g_iload hC dX7_longerBy_101 (q := 4) rfl ?_
    obtain ⟨g103, h⟩ := oG_some h
    refine g_iast hC rfl (by decide) (inB_in g103) dX7_longerBy_103 (nm_e ?_)
    refine g_iinc hC dX7_longerBy_104 rfl (q := 3) rfl (w := (v3 + (1 : Int32))) rfl (by decide) (lv' := [(3, .int (v3 + (1 : Int32))), (0, .ref (mB E + 62)), (1, .int v1), (2, .int v2), (4, .int v4), (5, .int v5)]) rfl ?_
    refine g_goto hC dX7_longerBy_107 (tgt := 9) (by decide) ?_
    refine g_lv [1, 2, 3, 0] rfl ?_
    exact hk9_ v1 v2 (v3 + (1 : Int32)) (mU I 64 (v3).toNatClampNeg v4) h
  · replace h := (if_neg c41).symm.trans h
    refine g_iload hC dX7_longerBy_44 (q := 5) rfl ?_
    refine g_iload hC dX7_longerBy_46 (q := 4) rfl ?_
    refine g_ic_eq hC dX7_longerBy_48 (tgt := 90) (by decide) (fun c48 => ?_) (fun c48 => ?_)
    · replace h := (if_pos c48).symm.trans h
      refine g_iinc hC dX7_longerBy_90 rfl (q := 5) rfl (w := (v5 + (1 : Int32))) rfl (by decide) (lv' := [(5, .int (v5 + (1 : Int32))), (0, .ref (mB E + 62)), (1, .int v1), (2, .int v2), (3, .int v3), (4, .int v4)]) rfl ?_
      refine g_goto hC dX7_longerBy_93 (tgt := 37) (by decide) ?_
      refine g_lv [1, 2, 3, 4, 5, 0] rfl ?_
      exact hk37_ v1 v2 v3 v4 (v5 + (1 : Int32)) I h
    · replace h := (if_neg c48).symm.trans h
      refine g_iload hC dX7_longerBy_51 (q := 5) rfl ?_
      obtain ⟨r53, h53, h⟩ := oB_some h
      refine g_cN1 hC cs_X11_isChangeNumber (host := RX11) nl_RX7_63 ⟨Nat.le_of_ble_eq_true rfl, Nat.le_of_ble_eq_true rfl⟩ dX7_longerBy_53 (As := [.int v5]) (st := []) (ok_X11_isChangeNumber hC.2.2.2.2.2.2.2.1  h53) rfl rfl (Nat.le_of_ble_eq_true rfl) ⟨Nat.zero_le _, Nat.zero_le _⟩ ?_
      refine g_if_eq hC dX7_longerBy_56 (tgt := 90) (by decide) (fun c56 => ?_) (fun c56 => ?_)
      · replace h := (if_pos c56).symm.trans h
        refine g_iinc hC dX7_longerBy_90 rfl (q := 5) rfl (w := (v5 + (1 : Int32))) rfl (by decide) (lv' := [(5, .int (v5 + (1 : Int32))), (0, .ref (mB E + 62)), (1, .int v1), (2, .int v2), (3, .int v3), (4, .int v4)]) rfl ?_
        refine g_goto hC dX7_longerBy_93 (tgt := 37) (by decide) ?_
        refine g_lv [1, 2, 3, 4, 5, 0] rfl ?_
        exact hk37_ v1 v2 v3 v4 (v5 + (1 : Int32)) I h
      · replace h := (if_neg c56).symm.trans h
        refine g_aload_n hC dX7_longerBy_59 rfl (q := 0) rfl ?_
        refine g_getr hC fd_RX7_15 rfl (by decide) (C0 := "") (t0 := _) (Or.inr rfl) (rr_62_1 hW.1) dX7_longerBy_60 ?_
        refine g_iload_n hC dX7_longerBy_63 rfl (q := 3) rfl ?_
        refine g_iload hC dX7_longerBy_64 (q := 5) rfl ?_
        obtain ⟨g66, h⟩ := oG_some h
        refine g_iast hC rfl (by decide) (inB_in g66) dX7_longerBy_66 (nm_e ?_)
        refine g_aload_n hC dX7_longerBy_67 rfl (q := 0) rfl ?_
        obtain ⟨r68, h68, h⟩ := oB_some h
        refine g_cV1 hC cv_X7_trueLength wd_768 ⟨Nat.le_of_ble_eq_true rfl, Nat.le_of_ble_eq_true rfl⟩ rfl (by decide) dX7_longerBy_68 (As := []) (st := []) (ok_X7_trueLength hC.2.2.2.2.2.2.2.1 hW h68) rfl rfl (Nat.le_of_ble_eq_true rfl) ⟨Nat.zero_le _, Nat.zero_le _⟩ ?_
        refine g_istore hC dX7_longerBy_71 rfl (by decide) (lv' := [(6, .int r68.1), (0, .ref (mB E + 62)), (1, .int v1), (2, .int v2), (3, .int v3), (4, .int v4), (5, .int v5)]) rfl ?_
        refine g_iload hC dX7_longerBy_73 (q := 0) rfl ?_
        refine g_iload_n hC dX7_longerBy_75 rfl (q := 2) rfl ?_
        refine g_ic_le hC dX7_longerBy_76 (tgt := 90) (by decide) (fun c76 => ?_) (fun c76 => ?_)
        · replace h := (if_pos c76).symm.trans h
          refine g_iinc hC dX7_longerBy_90 rfl (q := 6) rfl (w := (v5 + (1 : Int32))) rfl (by decide) (lv' := [(5, .int (v5 + (1 : Int32))), (6, .int r68.1), (0, .ref (mB E + 62)), (1, .int v1), (2, .int v2), (3, .int v3), (4, .int v4)]) rfl ?_
          refine g_goto hC dX7_longerBy_93 (tgt := 37) (by decide) ?_
          refine g_lv [2, 3, 4, 5, 6, 0] rfl ?_
          exact hk37_ v1 v2 v3 v4 (v5 + (1 : Int32)) r68.2 h
        · replace h := (if_neg c76).symm.trans h
          refine g_iload hC dX7_longerBy_79 (q := 0) rfl ?_
          refine g_istore_n hC dX7_longerBy_81 rfl rfl (by decide) (lv' := [(1, .int r68.1), (6, .int r68.1), (0, .ref (mB E + 62)), (2, .int v2), (3, .int v3), (4, .int v4), (5, .int v5)]) rfl ?_
          refine g_bipush hC dX7_longerBy_82 (v := (100 : Int32)) (by decide) ?_
          refine g_iload_n hC dX7_longerBy_84 rfl (q := 4) rfl ?_
          refine g_imul hC dX7_longerBy_85 ?_
          refine g_iload hC dX7_longerBy_86 (q := 6) rfl ?_
          refine g_iadd hC dX7_longerBy_88 ?_
          refine g_istore_n hC dX7_longerBy_89 rfl rfl (by decide) (lv' := [(2, .int (((100 : Int32) * v3) + v5)), (1, .int r68.1), (6, .int r68.1), (0, .ref (mB E + 62)), (3, .int v3), (4, .int v4), (5, .int v5)]) rfl ?_
          refine g_iinc hC dX7_longerBy_90 rfl (q := 6) rfl (w := (v5 + (1 : Int32))) rfl (by decide) (lv' := [(5, .int (v5 + (1 : Int32))), (2, .int (((100 : Int32) * v3) + v5)), (1, .int r68.1), (6, .int r68.1), (0, .ref (mB E + 62)), (3, .int v3), (4, .int v4)]) rfl ?_
          refine g_goto hC dX7_longerBy_93 (tgt := 37) (by decide) ?_
          refine g_lv [4, 2, 1, 5, 6, 0] rfl ?_
          exact hk37_ r68.1 (((100 : Int32) * v3) + v5) v3 v4 (v5 + (1 : Int32)) r68.2 h
noncomputable def w_X7_longerBy_37 (Fu : Nat) (k9_ : Int32 × Int32 × Int32 × mIT → Option (Int32 × mIT)) (N : Nat) (v1 : Int32) (v2 : Int32) (v3 : Int32) (v4 : Int32) (v5 : Int32) (I : mIT) : Option (Int32 × mIT) :=
  loopF (fun self (s : Int32 × Int32 × Int32 × Int32 × Int32 × mIT) => b_X7_longerBy_37 Fu k9_ self s.1 s.2.1 s.2.2.1 s.2.2.2.1 s.2.2.2.2.1 s.2.2.2.2.2) N (v1, v2, v3, v4, v5, I)
theorem wo_X7_longerBy_37 {X : mXT} {E : mEn} {Fu : Nat} {R : mRT} {L : mLT}  (hC : mC X E mX7_longerBy RX7 cX7_longerBy) (hW : mWd R)   {out : Int32 × mIT} (hE : mEd X E 0 0 (mSame (some (.int (out.1))) 106 1 (out.2) R L)) (k9_ : Int32 × Int32 × Int32 × mIT → Option (Int32 × mIT)) (hk9_ : ∀ (v1 : Int32) (v2 : Int32) (v3 : Int32) (I : mIT),  k9_ (v1, v2, v3, I) = some out → mG X E 9 [(0, .ref (mB E + 62)), (1, .int v1), (2, .int v2), (3, .int v3)] [] 106 1 I R L 0 0) (N : Nat) (v1 : Int32) (v2 : Int32) (v3 : Int32) (v4 : Int32) (v5 : Int32) (I : mIT) (h : w_X7_longerBy_37 Fu k9_ N v1 v2 v3 v4 v5 I = some out) : mG X E 37 [(0, .ref (mB E + 62)), (1, .int v1), (2, .int v2), (3, .int v3), (4, .int v4), (5, .int v5)] [] 106 1 I R L 0 0 :=
  loopF_ok (Gd := fun s : Int32 × Int32 × Int32 × Int32 × Int32 × mIT => mG X E 37 [(0, .ref (mB E + 62)), (1, .int s.1), (2, .int s.2.1), (3, .int s.2.2.1), (4, .int s.2.2.2.1), (5, .int s.2.2.2.2.1)] [] 106 1 s.2.2.2.2.2 R L 0 0) (fun self hs s h => bo_X7_longerBy_37 hC hW hE k9_ hk9_ self (fun v1 v2 v3 v4 v5 I h => hs (v1, v2, v3, v4, v5, I) h) s.1 s.2.1 s.2.2.1 s.2.2.2.1 s.2.2.2.2.1 s.2.2.2.2.2 h) N (v1, v2, v3, v4, v5, I) h
noncomputable def b_X7_longerBy_9 (Fu : Nat) (k9_ : Int32 × Int32 × Int32 × mIT → Option (Int32 × mIT)) (v1 : Int32) (v2 : Int32) (v3 : Int32) (I : mIT) : Option (Int32 × mIT) :=
  if (I 62 4) ≤ v3 then (some (v2, I)) else (if (nI 12) ≤ v3 then (some (v2, I)) else (oG (inB v3 12) (w_X7_longerBy_37 Fu k9_ Fu v1 v2 v3 (I 64 (v3).toNatClampNeg) (0 : Int32) I)))
set_option maxRecDepth 20000 in
theorem bo_X7_longerBy_9 {X : mXT} {E : mEn} {Fu : Nat} {R : mRT} {L : mLT}  (hC : mC X E mX7_longerBy RX7 cX7_longerBy) (hW : mWd R)   {out : Int32 × mIT} (hE : mEd X E 0 0 (mSame (some (.int (out.1))) 106 1 (out.2) R L)) (k9_ : Int32 × Int32 × Int32 × mIT → Option (Int32 × mIT)) (hk9_ : ∀ (v1 : Int32) (v2 : Int32) (v3 : Int32) (I : mIT),  k9_ (v1, v2, v3, I) = some out → mG X E 9 [(0, .ref (mB E + 62)), (1, .int v1), (2, .int v2), (3, .int v3)] [] 106 1 I R L 0 0) (v1 : Int32) (v2 : Int32) (v3 : Int32) (I : mIT) (h : b_X7_longerBy_9 Fu k9_ v1 v2 v3 I = some out) : mG X E 9 [(0, .ref (mB E + 62)), (1, .int v1), (2, .int v2), (3, .int v3)] [] 106 1 I R L 0 0 := by
  unfold b_X7_longerBy_9 at h
  refine g_iload_n hC dX7_longerBy_9 rfl (q := 3) rfl ?_
  refine g_aload_n hC dX7_longerBy_10 rfl (q := 0) rfl ?_
  refine g_geti hC fd_RX7_25 rfl (by decide) (Or.inl rfl) dX7_longerBy_11 ?_
  refine g_ic_ge hC dX7_longerBy_14 (tgt := 110) (by decide) (fun c14 => ?_) (fun c14 => ?_)
  · replace h := (if_pos c14).symm.trans h
    refine g_iload_n hC dX7_longerBy_110 rfl (q := 2) rfl ?_
    cases h
    exact g_iret hC hE rfl dX7_longerBy_111 (Nat.zero_le _) (Nat.zero_le _) ⟨rfl, rfl, rfl, rfl, rfl, rfl⟩
  · replace h := (if_neg c14).symm.trans h
    refine g_iload_n hC dX7_longerBy_17 rfl (q := 3) rfl ?_
    refine g_aload_n hC dX7_longerBy_18 rfl (q := 0) rfl ?_
    refine g_getr hC fd_RX7_15 rfl (by decide) (C0 := "") (t0 := _) (Or.inr rfl) (rr_62_1 hW.1) dX7_longerBy_19 ?_
    refine g_alenI hC rfl (by decide) dX7_longerBy_22 ?_
    refine g_ic_ge hC dX7_longerBy_23 (tgt := 110) (by decide) (fun c23 => ?_) (fun c23 => ?_)
    · replace h := (if_pos c23).symm.trans h
      refine g_iload_n hC dX7_longerBy_110 rfl (q := 2) rfl ?_
      cases h
      exact g_iret hC hE rfl dX7_longerBy_111 (Nat.zero_le _) (Nat.zero_le _) ⟨rfl, rfl, rfl, rfl, rfl, rfl⟩
    · replace h := (if_neg c23).symm.trans h
      refine g_aload_n hC dX7_longerBy_26 rfl (q := 0) rfl ?_
      refine g_getr hC fd_RX7_15 rfl (by decide) (C0 := "") (t0 := _) (Or.inr rfl) (rr_62_1 hW.1) dX7_longerBy_27 ?_
      refine g_iload_n hC dX7_longerBy_30 rfl (q := 3) rfl ?_
      obtain ⟨g31, h⟩ := oG_some h
      refine g_iald hC rfl (by decide) (inB_in g31) dX7_longerBy_31 ?_
      refine g_istore hC dX7_longerBy_32 rfl (by decide) (lv' := [(4, .int (I 64 (v3).toNatClampNeg)), (0, .ref (mB E + 62)), (1, .int v1), (2, .int v2), (3, .int v3)]) rfl ?_
      refine g_iconst hC dX7_longerBy_34 (v := (0 : Int32)) (by decide) ?_
      refine g_istore hC dX7_longerBy_35 rfl (by decide) (lv' := [(5, .int (0 : Int32)), (4, .int (I 64 (v3).toNatClampNeg)), (0, .ref (mB E + 62)), (1, .int v1), (2, .int v2), (3, .int v3)]) rfl ?_
      refine g_lv [2, 3, 4, 5, 1, 0] rfl ?_
      exact wo_X7_longerBy_37 hC hW hE k9_ hk9_ Fu (v1) (v2) (v3) ((I 64 (v3).toNatClampNeg)) ((0 : Int32)) (I) h
noncomputable def w_X7_longerBy_9 (Fu : Nat)  (N : Nat) (v1 : Int32) (v2 : Int32) (v3 : Int32) (I : mIT) : Option (Int32 × mIT) :=
  loopF (fun self (s : Int32 × Int32 × Int32 × mIT) => b_X7_longerBy_9 Fu self s.1 s.2.1 s.2.2.1 s.2.2.2) N (v1, v2, v3, I)
theorem wo_X7_longerBy_9 {X : mXT} {E : mEn} {Fu : Nat} {R : mRT} {L : mLT}  (hC : mC X E mX7_longerBy RX7 cX7_longerBy) (hW : mWd R)   {out : Int32 × mIT} (hE : mEd X E 0 0 (mSame (some (.int (out.1))) 106 1 (out.2) R L))  (N : Nat) (v1 : Int32) (v2 : Int32) (v3 : Int32) (I : mIT) (h : w_X7_longerBy_9 Fu  N v1 v2 v3 I = some out) : mG X E 9 [(0, .ref (mB E + 62)), (1, .int v1), (2, .int v2), (3, .int v3)] [] 106 1 I R L 0 0 :=
  loopF_ok (Gd := fun s : Int32 × Int32 × Int32 × mIT => mG X E 9 [(0, .ref (mB E + 62)), (1, .int s.1), (2, .int s.2.1), (3, .int s.2.2.1)] [] 106 1 s.2.2.2 R L 0 0) (fun self hs s h => bo_X7_longerBy_9 hC hW hE self (fun v1 v2 v3 I h => hs (v1, v2, v3, I) h) s.1 s.2.1 s.2.2.1 s.2.2.2 h) N (v1, v2, v3, I) h
noncomputable def f_X7_longerBy (Fu : Nat) (I : mIT)  : Option (Int32 × mIT) :=
  oB (f_X7_trueLength Fu I) (fun r1 => w_X7_longerBy_9 Fu Fu r1.1 (-1 : Int32) (0 : Int32) r1.2)
set_option maxRecDepth 20000 in
theorem ok_X7_longerBy {l : Launch} {E : mEn} {Fu : Nat} {I : mIT} {R : mRT} {L : mLT}  (hst : l.stackTraces = false) (hW : mWd R)  {out : Int32 × mIT} (h : f_X7_longerBy Fu I  = some out) : mOk l E mX7_longerBy [.ref (mB E + 62)] 106 1 I R L 0 0 (mSame (some (.int (out.1))) 106 1 (out.2) R L) := by
  refine mOk_of hst (by decide) (Nat.le_of_ble_eq_true rfl) (fun X hC hE _ => ?_)
  have hC : mC X E mX7_longerBy RX7 cX7_longerBy := hC
  show mG X E 0 [(0, .ref (mB E + 62))] [] 106 1 I R L 0 0
  unfold f_X7_longerBy at h
  refine g_aload_n hC dX7_longerBy_0 rfl (q := 0) rfl ?_
  obtain ⟨r1, h1, h⟩ := oB_some h
  refine g_cV1 hC cv_X7_trueLength wd_768 ⟨Nat.le_of_ble_eq_true rfl, Nat.le_of_ble_eq_true rfl⟩ rfl (by decide) dX7_longerBy_1 (As := []) (st := []) (ok_X7_trueLength hC.2.2.2.2.2.2.2.1 hW h1) rfl rfl (Nat.le_of_ble_eq_true rfl) ⟨Nat.zero_le _, Nat.zero_le _⟩ ?_
  refine g_istore_n hC dX7_longerBy_4 rfl rfl (by decide) (lv' := [(1, .int r1.1), (0, .ref (mB E + 62))]) rfl ?_
  refine g_iconst hC dX7_longerBy_5 (v := (-1 : Int32)) (by decide) ?_
  refine g_istore_n hC dX7_longerBy_6 rfl rfl (by decide) (lv' := [(2, .int (-1 : Int32)), (1, .int r1.1), (0, .ref (mB E + 62))]) rfl ?_
  refine g_iconst hC dX7_longerBy_7 (v := (0 : Int32)) (by decide) ?_
  refine g_istore_n hC dX7_longerBy_8 rfl rfl (by decide) (lv' := [(3, .int (0 : Int32)), (2, .int (-1 : Int32)), (1, .int r1.1), (0, .ref (mB E + 62))]) rfl ?_
  refine g_lv [3, 2, 1, 0] rfl ?_
  exact wo_X7_longerBy_9 hC hW hE Fu (r1.1) ((-1 : Int32)) ((0 : Int32)) (r1.2) h
noncomputable def f_X11_longer (Fu : Nat) (R : mRT) (I : mIT)  : Option (Int32 × mIT) :=
  oB (R 0 3) (fun p1 => if (I p1 8) = 0 then (some ((-1 : Int32), I)) else (oB (R 0 3) (fun p17 => oB (f_X7_load Fu I p17 40) (fun r24 => oB (f_X7_longerBy Fu r24) (fun r31 => some (r31.1, r31.2))))))
set_option maxRecDepth 20000 in
theorem ok_X11_longer {l : Launch} {E : mEn} {Fu : Nat} {I : mIT} {R : mRT} {L : mLT}  (hst : l.stackTraces = false) (hW : mWd R)  {out : Int32 × mIT} (h : f_X11_longer Fu R I  = some out) : mOk l E mX11_longer [.ref (mB E + 0)] 106 1 I R L 0 0 (mSame (some (.int (out.1))) 106 1 (out.2) R L) := by
  refine mOk_of hst (by decide) (Nat.le_of_ble_eq_true rfl) (fun X hC hE _ => ?_)
  have hC : mC X E mX11_longer RX11 cX11_longer := hC
  show mG X E 0 [(0, .ref (mB E + 0))] [] 106 1 I R L 0 0
  unfold f_X11_longer at h
  refine g_aload_n hC dX11_longer_0 rfl (q := 0) rfl ?_
  obtain ⟨p1, e1, h⟩ := oB_some h
  have hp1 : mO5 R p1 := ob5 hW.1 (hW.2.1 p1 e1)
  refine g_getr hC fd_RX11_27 rfl (by decide) (C0 := _) (t0 := .int) (Or.inl rfl) e1 dX11_longer_1 ?_
  refine g_geti hC fd_RX11_163 hp1.2.1 hp1.1 (Or.inl rfl) dX11_longer_4 ?_
  refine g_if_ne hC dX11_longer_7 (tgt := 12) (by decide) (fun c7 => ?_) (fun c7 => ?_)
  · replace h := (if_neg c7).symm.trans h
    refine g_aload_n hC dX11_longer_12 rfl (q := 0) rfl ?_
    refine g_getr hC fd_RX11_75 rfl (by decide) (C0 := _) (t0 := .int) (Or.inl rfl) (rr_0_12 hW.1) dX11_longer_13 ?_
    refine g_aload_n hC dX11_longer_16 rfl (q := 0) rfl ?_
    obtain ⟨p17, e17, h⟩ := oB_some h
    have hp17 : mO5 R p17 := ob5 hW.1 (hW.2.1 p17 e17)
    refine g_getr hC fd_RX11_27 rfl (by decide) (C0 := _) (t0 := .int) (Or.inl rfl) e17 dX11_longer_17 ?_
    refine g_aload_n hC dX11_longer_20 rfl (q := 0) rfl ?_
    refine g_getr hC fd_RX11_34 rfl (by decide) (C0 := _) (t0 := .int) (Or.inl rfl) (rr_0_4 hW.1) dX11_longer_21 ?_
    obtain ⟨r24, h24, h⟩ := oB_some h
    refine g_cV0 hC cv_X7_load wd_724 ⟨Nat.le_of_ble_eq_true rfl, Nat.le_of_ble_eq_true rfl⟩ rfl (by decide) dX11_longer_24 (As := [.ref (mB E + p17), .ref (mB E + 40)]) (st := []) (ok_X7_load hC.2.2.2.2.2.2.2.1 hW hp17 (ob_40 hW.1) h24) rfl rfl (Nat.le_of_ble_eq_true rfl) ⟨Nat.zero_le _, Nat.zero_le _⟩ ?_
    refine g_aload_n hC dX11_longer_27 rfl (q := 0) rfl ?_
    refine g_getr hC fd_RX11_75 rfl (by decide) (C0 := _) (t0 := .int) (Or.inl rfl) (rr_0_12 hW.1) dX11_longer_28 ?_
    obtain ⟨r31, h31, h⟩ := oB_some h
    refine g_cV1 hC cv_X7_longerBy wd_764 ⟨Nat.le_of_ble_eq_true rfl, Nat.le_of_ble_eq_true rfl⟩ rfl (by decide) dX11_longer_31 (As := []) (st := []) (ok_X7_longerBy hC.2.2.2.2.2.2.2.1 hW h31) rfl rfl (Nat.le_of_ble_eq_true rfl) ⟨Nat.zero_le _, Nat.zero_le _⟩ ?_
    cases h
    exact g_iret hC hE rfl dX11_longer_34 (Nat.zero_le _) (Nat.zero_le _) ⟨rfl, rfl, rfl, rfl, rfl, rfl⟩
  · replace h := (if_pos c7).symm.trans h
    refine g_iconst hC dX11_longer_10 (v := (-1 : Int32)) (by decide) ?_
    cases h
    exact g_iret hC hE rfl dX11_longer_11 (Nat.zero_le _) (Nat.zero_le _) ⟨rfl, rfl, rfl, rfl, rfl, rfl⟩
noncomputable def b_X7_placeIn_2 (Fu : Nat) (I : mIT) (k2_ : Int32 × Int32 × Int32 → Option (Int32)) (v1 : Int32) (v2 : Int32) (v3 : Int32) : Option (Int32) :=
  if (I 62 3) ≤ v3 then (some (-1 : Int32)) else (oB (f_X7_bellAt Fu v1 v3) (fun r12 => if r12 = v2 then (some (v3)) else (k2_ (v1, v2, (v3 + (1 : Int32))))))
set_option maxRecDepth 20000 in
theorem bo_X7_placeIn_2 {X : mXT} {E : mEn} {Fu : Nat} {I : mIT} {R : mRT} {L : mLT}  (hC : mC X E mX7_placeIn RX7 cX7_placeIn) (hW : mWd R)   {out : Int32} (hE : mEd X E 0 0 (mSame (some (.int (out))) 106 1 I R L)) (k2_ : Int32 × Int32 × Int32 → Option (Int32)) (hk2_ : ∀ (v1 : Int32) (v2 : Int32) (v3 : Int32),  k2_ (v1, v2, v3) = some out → mG X E 2 [(0, .ref (mB E + 62)), (1, .int v1), (2, .int v2), (3, .int v3)] [] 106 1 I R L 0 0) (v1 : Int32) (v2 : Int32) (v3 : Int32) (h : b_X7_placeIn_2 Fu I k2_ v1 v2 v3 = some out) : mG X E 2 [(0, .ref (mB E + 62)), (1, .int v1), (2, .int v2), (3, .int v3)] [] 106 1 I R L 0 0 := by
  unfold b_X7_placeIn_2 at h
  refine g_iload_n hC dX7_placeIn_2 rfl (q := 3) rfl ?_
  refine g_aload_n hC dX7_placeIn_3 rfl (q := 0) rfl ?_
  refine g_geti hC fd_RX7_21 rfl (by decide) (Or.inl rfl) dX7_placeIn_4 ?_
  refine g_ic_ge hC dX7_placeIn_7 (tgt := 27) (by decide) (fun c7 => ?_) (fun c7 => ?_)
  · replace h := (if_pos c7).symm.trans h
    refine g_iconst hC dX7_placeIn_27 (v := (-1 : Int32)) (by decide) ?_
    cases h
    exact g_iret hC hE rfl dX7_placeIn_28 (Nat.zero_le _) (Nat.zero_le _) ⟨rfl, rfl, rfl, rfl, rfl, rfl⟩
  · replace h := (if_neg c7).symm.trans h
    refine g_iload_n hC dX7_placeIn_10 rfl (q := 1) rfl ?_
    refine g_iload_n hC dX7_placeIn_11 rfl (q := 3) rfl ?_
    obtain ⟨r12, h12, h⟩ := oB_some h
    refine g_cS1 hC cs_X7_bellAt wd_745 ⟨Nat.le_of_ble_eq_true rfl, Nat.le_of_ble_eq_true rfl⟩ dX7_placeIn_12 (As := [.int v1, .int v3]) (st := []) (ok_X7_bellAt hC.2.2.2.2.2.2.2.1  h12) rfl rfl (Nat.le_of_ble_eq_true rfl) ⟨Nat.zero_le _, Nat.zero_le _⟩ ?_
    refine g_iload_n hC dX7_placeIn_15 rfl (q := 2) rfl ?_
    refine g_ic_ne hC dX7_placeIn_16 (tgt := 21) (by decide) (fun c16 => ?_) (fun c16 => ?_)
    · replace h := (if_neg c16).symm.trans h
      refine g_iinc hC dX7_placeIn_21 rfl (q := 3) rfl (w := (v3 + (1 : Int32))) rfl (by decide) (lv' := [(3, .int (v3 + (1 : Int32))), (0, .ref (mB E + 62)), (1, .int v1), (2, .int v2)]) rfl ?_
      refine g_goto hC dX7_placeIn_24 (tgt := 2) (by decide) ?_
      refine g_lv [1, 2, 3, 0] rfl ?_
      exact hk2_ v1 v2 (v3 + (1 : Int32)) h
    · replace h := (if_pos c16).symm.trans h
      refine g_iload_n hC dX7_placeIn_19 rfl (q := 3) rfl ?_
      cases h
      exact g_iret hC hE rfl dX7_placeIn_20 (Nat.zero_le _) (Nat.zero_le _) ⟨rfl, rfl, rfl, rfl, rfl, rfl⟩
noncomputable def w_X7_placeIn_2 (Fu : Nat) (I : mIT)  (N : Nat) (v1 : Int32) (v2 : Int32) (v3 : Int32) : Option (Int32) :=
  loopF (fun self (s : Int32 × Int32 × Int32) => b_X7_placeIn_2 Fu I self s.1 s.2.1 s.2.2) N (v1, v2, v3)
theorem wo_X7_placeIn_2 {X : mXT} {E : mEn} {Fu : Nat} {I : mIT} {R : mRT} {L : mLT}  (hC : mC X E mX7_placeIn RX7 cX7_placeIn) (hW : mWd R)   {out : Int32} (hE : mEd X E 0 0 (mSame (some (.int (out))) 106 1 I R L))  (N : Nat) (v1 : Int32) (v2 : Int32) (v3 : Int32) (h : w_X7_placeIn_2 Fu I  N v1 v2 v3 = some out) : mG X E 2 [(0, .ref (mB E + 62)), (1, .int v1), (2, .int v2), (3, .int v3)] [] 106 1 I R L 0 0 :=
  loopF_ok (Gd := fun s : Int32 × Int32 × Int32 => mG X E 2 [(0, .ref (mB E + 62)), (1, .int s.1), (2, .int s.2.1), (3, .int s.2.2)] [] 106 1 I R L 0 0) (fun self hs s h => bo_X7_placeIn_2 hC hW hE self (fun v1 v2 v3 h => hs (v1, v2, v3) h) s.1 s.2.1 s.2.2 h) N (v1, v2, v3) h
noncomputable def f_X7_placeIn (Fu : Nat) (I : mIT) (v1 : Int32) (v2 : Int32) : Option (Int32) :=
  w_X7_placeIn_2 Fu I Fu v1 v2 (0 : Int32)
set_option maxRecDepth 20000 in
theorem ok_X7_placeIn {l : Launch} {E : mEn} {Fu : Nat} {I : mIT} {R : mRT} {L : mLT} {v1 : Int32} {v2 : Int32} (hst : l.stackTraces = false) (hW : mWd R)  {out : Int32} (h : f_X7_placeIn Fu I v1 v2 = some out) : mOk l E mX7_placeIn [.ref (mB E + 62), .int v1, .int v2] 106 1 I R L 0 0 (mSame (some (.int (out))) 106 1 I R L) := by
  refine mOk_of hst (by decide) (Nat.le_of_ble_eq_true rfl) (fun X hC hE _ => ?_)
  have hC : mC X E mX7_placeIn RX7 cX7_placeIn := hC
  show mG X E 0 [(0, .ref (mB E + 62)), (1, .int v1), (2, .int v2)] [] 106 1 I R L 0 0
  unfold f_X7_placeIn at h
  refine g_iconst hC dX7_placeIn_0 (v := (0 : Int32)) (by decide) ?_
  refine g_istore_n hC dX7_placeIn_1 rfl rfl (by decide) (lv' := [(3, .int (0 : Int32)), (0, .ref (mB E + 62)), (1, .int v1), (2, .int v2)]) rfl ?_
  refine g_lv [1, 2, 3, 0] rfl ?_
  exact wo_X7_placeIn_2 hC hW hE Fu (v1) (v2) ((0 : Int32)) h
noncomputable def b_X7_meetingsOf_42 (Fu : Nat) (I : mIT) (k42_ : Int32 × Int32 × Int32 × Int32 × Int32 × Int32 → Option (Int32)) (v3 : Int32) (v4 : Int32) (v5 : Int32) (v6 : Int32) (v7 : Int32) (v8 : Int32) : Option (Int32) :=
  if v5 ≤ v8 then (some (v7)) else (oB (f_X7_placeIn Fu I v6 v3) (fun r55 => oB (f_X7_placeIn Fu I v6 v4) (fun r63 => if (if 0 ≤ (r55 - r63) then (r55 - r63) else 0 - (r55 - r63)) = (1 : Int32) then (oB (f_X7_behindOne Fu I v6 v8) (fun r87 => k42_ (v3, v4, v5, r87, (v7 + (1 : Int32)), (v8 + (1 : Int32))))) else (oB (f_X7_behindOne Fu I v6 v8) (fun r87 => k42_ (v3, v4, v5, r87, (v7 + (0 : Int32)), (v8 + (1 : Int32))))))))
set_option maxRecDepth 20000 in
theorem bo_X7_meetingsOf_42 {X : mXT} {E : mEn} {Fu : Nat} {I : mIT} {R : mRT} {L : mLT}  (hC : mC X E mX7_meetingsOf RX7 cX7_meetingsOf) (hW : mWd R)   {out : Int32} (hE : mEd X E 0 0 (mSame (some (.int (out))) 106 1 I R L)) (k42_ : Int32 × Int32 × Int32 × Int32 × Int32 × Int32 → Option (Int32)) (hk42_ : ∀ (v3 : Int32) (v4 : Int32) (v5 : Int32) (v6 : Int32) (v7 : Int32) (v8 : Int32),  k42_ (v3, v4, v5, v6, v7, v8) = some out → mG X E 42 [(0, .ref (mB E + 62)), (3, .int v3), (4, .int v4), (5, .int v5), (6, .int v6), (7, .int v7), (8, .int v8)] [] 106 1 I R L 0 0) (v3 : Int32) (v4 : Int32) (v5 : Int32) (v6 : Int32) (v7 : Int32) (v8 : Int32) (h : b_X7_meetingsOf_42 Fu I k42_ v3 v4 v5 v6 v7 v8 = some out) : mG X E 42 [(0, .ref (mB E + 62)), (3, .int v3), (4, .int v4), (5, .int v5), (6, .int v6), (7, .int v7), (8, .int v8)] [] 106 1 I R L 0 0 := by
  unfold b_X7_meetingsOf_42 at h
  refine g_iload hC dX7_meetingsOf_42 (q := 6) rfl ?_
  refine g_iload hC dX7_meetingsOf_44 (q := 3) rfl ?_
  refine g_ic_ge hC dX7_meetingsOf_46 (tgt := 98) (by decide) (fun c46 => ?_) (fun c46 => ?_)
  · replace h := (if_pos c46).symm.trans h
    refine g_iload hC dX7_meetingsOf_98 (q := 5) rfl ?_
    cases h
    exact g_iret hC hE rfl dX7_meetingsOf_100 (Nat.zero_le _) (Nat.zero_le _) ⟨rfl, rfl, rfl, rfl, rfl, rfl⟩
  · replace h := (if_neg c46).symm.trans h
    refine g_iload hC dX7_meetingsOf_49 (q := 5) rfl ?_
    refine g_aload_n hC dX7_meetingsOf_51 rfl (q := 0) rfl ?_
    refine g_iload hC dX7_meetingsOf_52 (q := 4) rfl ?_
    refine g_iload_n hC dX7_meetingsOf_54 rfl (q := 1) rfl ?_
    obtain ⟨r55, h55, h⟩ := oB_some h
    refine g_cV1 hC cv_X7_placeIn wd_1610 ⟨Nat.le_of_ble_eq_true rfl, Nat.le_of_ble_eq_true rfl⟩ rfl (by decide) dX7_meetingsOf_55 (As := [.int v6, .int v3]) (st := [.int v7]) (ok_X7_placeIn hC.2.2.2.2.2.2.2.1 hW h55) rfl rfl (Nat.le_of_ble_eq_true rfl) ⟨Nat.zero_le _, Nat.zero_le _⟩ ?_
    refine g_aload_n hC dX7_meetingsOf_58 rfl (q := 0) rfl ?_
    refine g_iload hC dX7_meetingsOf_59 (q := 4) rfl ?_
    refine g_iload hC dX7_meetingsOf_61 (q := 2) rfl ?_
    obtain ⟨r63, h63, h⟩ := oB_some h
    refine g_cV1 hC cv_X7_placeIn wd_1610 ⟨Nat.le_of_ble_eq_true rfl, Nat.le_of_ble_eq_true rfl⟩ rfl (by decide) dX7_meetingsOf_63 (As := [.int v6, .int v4]) (st := [.int r55, .int v7]) (ok_X7_placeIn hC.2.2.2.2.2.2.2.1 hW h63) rfl rfl (Nat.le_of_ble_eq_true rfl) ⟨Nat.zero_le _, Nat.zero_le _⟩ ?_
    refine g_isub hC dX7_meetingsOf_66 ?_
    refine g_mabs hC wd_1614 wd_st_abs wd_in_math wd_cd_abs (Nat.le_of_ble_eq_true rfl) (Nat.le_of_ble_eq_true rfl) ⟨Nat.zero_le _, Nat.zero_le _⟩ dX7_meetingsOf_67 ?_
    refine g_iconst hC dX7_meetingsOf_70 (v := (1 : Int32)) (by decide) ?_
    refine g_ic_ne hC dX7_meetingsOf_71 (tgt := 78) (by decide) (fun c71 => ?_) (fun c71 => ?_)
    · replace h := (if_neg c71).symm.trans h
      refine g_iconst hC dX7_meetingsOf_78 (v := (0 : Int32)) (by decide) ?_
      refine g_iadd hC dX7_meetingsOf_79 ?_
      refine g_istore hC dX7_meetingsOf_80 rfl (by decide) (lv' := [(7, .int (v7 + (0 : Int32))), (0, .ref (mB E + 62)), (3, .int v3), (4, .int v4), (5, .int v5), (6, .int v6), (8, .int v8)]) rfl ?_
      refine g_aload_n hC dX7_meetingsOf_82 rfl (q := 1) rfl ?_
      refine g_iload hC dX7_meetingsOf_83 (q := 5) rfl ?_
      refine g_iload hC dX7_meetingsOf_85 (q := 6) rfl ?_
      obtain ⟨r87, h87, h⟩ := oB_some h
      refine g_cV1 hC cv_X7_behindOne wd_741 ⟨Nat.le_of_ble_eq_true rfl, Nat.le_of_ble_eq_true rfl⟩ rfl (by decide) dX7_meetingsOf_87 (As := [.int v6, .int v8]) (st := []) (ok_X7_behindOne hC.2.2.2.2.2.2.2.1 hW h87) rfl rfl (Nat.le_of_ble_eq_true rfl) ⟨Nat.zero_le _, Nat.zero_le _⟩ ?_
      refine g_istore hC dX7_meetingsOf_90 rfl (by decide) (lv' := [(6, .int r87), (7, .int (v7 + (0 : Int32))), (0, .ref (mB E + 62)), (3, .int v3), (4, .int v4), (5, .int v5), (8, .int v8)]) rfl ?_
      refine g_iinc hC dX7_meetingsOf_92 rfl (q := 6) rfl (w := (v8 + (1 : Int32))) rfl (by decide) (lv' := [(8, .int (v8 + (1 : Int32))), (6, .int r87), (7, .int (v7 + (0 : Int32))), (0, .ref (mB E + 62)), (3, .int v3), (4, .int v4), (5, .int v5)]) rfl ?_
      refine g_goto hC dX7_meetingsOf_95 (tgt := 42) (by decide) ?_
      refine g_lv [3, 4, 5, 6, 1, 2, 0] rfl ?_
      exact hk42_ v3 v4 v5 r87 (v7 + (0 : Int32)) (v8 + (1 : Int32)) h
    · replace h := (if_pos c71).symm.trans h
      refine g_iconst hC dX7_meetingsOf_74 (v := (1 : Int32)) (by decide) ?_
      refine g_goto hC dX7_meetingsOf_75 (tgt := 79) (by decide) ?_
      refine g_iadd hC dX7_meetingsOf_79 ?_
      refine g_istore hC dX7_meetingsOf_80 rfl (by decide) (lv' := [(7, .int (v7 + (1 : Int32))), (0, .ref (mB E + 62)), (3, .int v3), (4, .int v4), (5, .int v5), (6, .int v6), (8, .int v8)]) rfl ?_
      refine g_aload_n hC dX7_meetingsOf_82 rfl (q := 1) rfl ?_
      refine g_iload hC dX7_meetingsOf_83 (q := 5) rfl ?_
      refine g_iload hC dX7_meetingsOf_85 (q := 6) rfl ?_
      obtain ⟨r87, h87, h⟩ := oB_some h
      refine g_cV1 hC cv_X7_behindOne wd_741 ⟨Nat.le_of_ble_eq_true rfl, Nat.le_of_ble_eq_true rfl⟩ rfl (by decide) dX7_meetingsOf_87 (As := [.int v6, .int v8]) (st := []) (ok_X7_behindOne hC.2.2.2.2.2.2.2.1 hW h87) rfl rfl (Nat.le_of_ble_eq_true rfl) ⟨Nat.zero_le _, Nat.zero_le _⟩ ?_
      refine g_istore hC dX7_meetingsOf_90 rfl (by decide) (lv' := [(6, .int r87), (7, .int (v7 + (1 : Int32))), (0, .ref (mB E + 62)), (3, .int v3), (4, .int v4), (5, .int v5), (8, .int v8)]) rfl ?_
      refine g_iinc hC dX7_meetingsOf_92 rfl (q := 6) rfl (w := (v8 + (1 : Int32))) rfl (by decide) (lv' := [(8, .int (v8 + (1 : Int32))), (6, .int r87), (7, .int (v7 + (1 : Int32))), (0, .ref (mB E + 62)), (3, .int v3), (4, .int v4), (5, .int v5)]) rfl ?_
      refine g_goto hC dX7_meetingsOf_95 (tgt := 42) (by decide) ?_
      refine g_lv [3, 4, 5, 6, 1, 2, 0] rfl ?_
      exact hk42_ v3 v4 v5 r87 (v7 + (1 : Int32)) (v8 + (1 : Int32)) h
noncomputable def w_X7_meetingsOf_42 (Fu : Nat) (I : mIT)  (N : Nat) (v3 : Int32) (v4 : Int32) (v5 : Int32) (v6 : Int32) (v7 : Int32) (v8 : Int32) : Option (Int32) :=
  loopF (fun self (s : Int32 × Int32 × Int32 × Int32 × Int32 × Int32) => b_X7_meetingsOf_42 Fu I self s.1 s.2.1 s.2.2.1 s.2.2.2.1 s.2.2.2.2.1 s.2.2.2.2.2) N (v3, v4, v5, v6, v7, v8)
theorem wo_X7_meetingsOf_42 {X : mXT} {E : mEn} {Fu : Nat} {I : mIT} {R : mRT} {L : mLT}  (hC : mC X E mX7_meetingsOf RX7 cX7_meetingsOf) (hW : mWd R)   {out : Int32} (hE : mEd X E 0 0 (mSame (some (.int (out))) 106 1 I R L))  (N : Nat) (v3 : Int32) (v4 : Int32) (v5 : Int32) (v6 : Int32) (v7 : Int32) (v8 : Int32) (h : w_X7_meetingsOf_42 Fu I  N v3 v4 v5 v6 v7 v8 = some out) : mG X E 42 [(0, .ref (mB E + 62)), (3, .int v3), (4, .int v4), (5, .int v5), (6, .int v6), (7, .int v7), (8, .int v8)] [] 106 1 I R L 0 0 :=
  loopF_ok (Gd := fun s : Int32 × Int32 × Int32 × Int32 × Int32 × Int32 => mG X E 42 [(0, .ref (mB E + 62)), (3, .int s.1), (4, .int s.2.1), (5, .int s.2.2.1), (6, .int s.2.2.2.1), (7, .int s.2.2.2.2.1), (8, .int s.2.2.2.2.2)] [] 106 1 I R L 0 0) (fun self hs s h => bo_X7_meetingsOf_42 hC hW hE self (fun v3 v4 v5 v6 v7 v8 h => hs (v3, v4, v5, v6, v7, v8) h) s.1 s.2.1 s.2.2.1 s.2.2.2.1 s.2.2.2.2.1 s.2.2.2.2.2 h) N (v3, v4, v5, v6, v7, v8) h
noncomputable def f_X7_meetingsOf (Fu : Nat) (I : mIT) (v1 : Int32) (v2 : Int32) : Option (Int32) :=
  oB (f_X7_bellOf Fu I v1) (fun r2 => oB (f_X7_bellOf Fu I v2) (fun r8 => if r2 = (-1 : Int32) then (some (0 : Int32)) else (if r8 = (-1 : Int32) then (some (0 : Int32)) else (oB (f_X7_lengthRung Fu I) (fun r27 => w_X7_meetingsOf_42 Fu I Fu r2 r8 r27 (181896 : Int32) (0 : Int32) (0 : Int32))))))
set_option maxRecDepth 20000 in
theorem ok_X7_meetingsOf {l : Launch} {E : mEn} {Fu : Nat} {I : mIT} {R : mRT} {L : mLT} {v1 : Int32} {v2 : Int32} (hst : l.stackTraces = false) (hW : mWd R)  {out : Int32} (h : f_X7_meetingsOf Fu I v1 v2 = some out) : mOk l E mX7_meetingsOf [.ref (mB E + 62), .int v1, .int v2] 106 1 I R L 0 0 (mSame (some (.int (out))) 106 1 I R L) := by
  refine mOk_of hst (by decide) (Nat.le_of_ble_eq_true rfl) (fun X hC hE _ => ?_)
  have hC : mC X E mX7_meetingsOf RX7 cX7_meetingsOf := hC
  show mG X E 0 [(0, .ref (mB E + 62)), (1, .int v1), (2, .int v2)] [] 106 1 I R L 0 0
  unfold f_X7_meetingsOf at h
  refine g_aload_n hC dX7_meetingsOf_0 rfl (q := 0) rfl ?_
  refine g_iload_n hC dX7_meetingsOf_1 rfl (q := 1) rfl ?_
  obtain ⟨r2, h2, h⟩ := oB_some h
  refine g_cV1 hC cv_X7_bellOf wd_1594 ⟨Nat.le_of_ble_eq_true rfl, Nat.le_of_ble_eq_true rfl⟩ rfl (by decide) dX7_meetingsOf_2 (As := [.int v1]) (st := []) (ok_X7_bellOf hC.2.2.2.2.2.2.2.1 hW h2) rfl rfl (Nat.le_of_ble_eq_true rfl) ⟨Nat.zero_le _, Nat.zero_le _⟩ ?_
  refine g_istore_n hC dX7_meetingsOf_5 rfl rfl (by decide) (lv' := [(3, .int r2), (0, .ref (mB E + 62)), (1, .int v1), (2, .int v2)]) rfl ?_
  refine g_aload_n hC dX7_meetingsOf_6 rfl (q := 1) rfl ?_
  refine g_iload_n hC dX7_meetingsOf_7 rfl (q := 3) rfl ?_
  obtain ⟨r8, h8, h⟩ := oB_some h
  refine g_cV1 hC cv_X7_bellOf wd_1594 ⟨Nat.le_of_ble_eq_true rfl, Nat.le_of_ble_eq_true rfl⟩ rfl (by decide) dX7_meetingsOf_8 (As := [.int v2]) (st := []) (ok_X7_bellOf hC.2.2.2.2.2.2.2.1 hW h8) rfl rfl (Nat.le_of_ble_eq_true rfl) ⟨Nat.zero_le _, Nat.zero_le _⟩ ?_
  refine g_istore hC dX7_meetingsOf_11 rfl (by decide) (lv' := [(4, .int r8), (3, .int r2), (0, .ref (mB E + 62)), (1, .int v1), (2, .int v2)]) rfl ?_
  refine g_iload_n hC dX7_meetingsOf_13 rfl (q := 1) rfl ?_
  refine g_iconst hC dX7_meetingsOf_14 (v := (-1 : Int32)) (by decide) ?_
  refine g_ic_eq hC dX7_meetingsOf_15 (tgt := 24) (by decide) (fun c15 => ?_) (fun c15 => ?_)
  · replace h := (if_pos c15).symm.trans h
    refine g_iconst hC dX7_meetingsOf_24 (v := (0 : Int32)) (by decide) ?_
    cases h
    exact g_iret hC hE rfl dX7_meetingsOf_25 (Nat.zero_le _) (Nat.zero_le _) ⟨rfl, rfl, rfl, rfl, rfl, rfl⟩
  · replace h := (if_neg c15).symm.trans h
    refine g_iload hC dX7_meetingsOf_18 (q := 0) rfl ?_
    refine g_iconst hC dX7_meetingsOf_20 (v := (-1 : Int32)) (by decide) ?_
    refine g_ic_ne hC dX7_meetingsOf_21 (tgt := 26) (by decide) (fun c21 => ?_) (fun c21 => ?_)
    · replace h := (if_neg c21).symm.trans h
      refine g_aload_n hC dX7_meetingsOf_26 rfl (q := 2) rfl ?_
      obtain ⟨r27, h27, h⟩ := oB_some h
      refine g_cV1 hC cv_X7_lengthRung wd_1598 ⟨Nat.le_of_ble_eq_true rfl, Nat.le_of_ble_eq_true rfl⟩ rfl (by decide) dX7_meetingsOf_27 (As := []) (st := []) (ok_X7_lengthRung hC.2.2.2.2.2.2.2.1 hW h27) rfl rfl (Nat.le_of_ble_eq_true rfl) ⟨Nat.zero_le _, Nat.zero_le _⟩ ?_
      refine g_istore hC dX7_meetingsOf_30 rfl (by decide) (lv' := [(5, .int r27), (4, .int r8), (3, .int r2), (0, .ref (mB E + 62)), (1, .int v1), (2, .int v2)]) rfl ?_
      refine g_ldc hC dX7_meetingsOf_32 wd_740 ?_
      refine g_istore hC dX7_meetingsOf_34 rfl (by decide) (lv' := [(6, .int (181896 : Int32)), (5, .int r27), (4, .int r8), (3, .int r2), (0, .ref (mB E + 62)), (1, .int v1), (2, .int v2)]) rfl ?_
      refine g_iconst hC dX7_meetingsOf_36 (v := (0 : Int32)) (by decide) ?_
      refine g_istore hC dX7_meetingsOf_37 rfl (by decide) (lv' := [(7, .int (0 : Int32)), (6, .int (181896 : Int32)), (5, .int r27), (4, .int r8), (3, .int r2), (0, .ref (mB E + 62)), (1, .int v1), (2, .int v2)]) rfl ?_
      refine g_iconst hC dX7_meetingsOf_39 (v := (0 : Int32)) (by decide) ?_
      refine g_istore hC dX7_meetingsOf_40 rfl (by decide) (lv' := [(8, .int (0 : Int32)), (7, .int (0 : Int32)), (6, .int (181896 : Int32)), (5, .int r27), (4, .int r8), (3, .int r2), (0, .ref (mB E + 62)), (1, .int v1), (2, .int v2)]) rfl ?_
      refine g_lv [6, 5, 4, 3, 2, 1, 0] rfl ?_
      exact wo_X7_meetingsOf_42 hC hW hE Fu (r2) (r8) (r27) ((181896 : Int32)) ((0 : Int32)) ((0 : Int32)) h
    · replace h := (if_pos c21).symm.trans h
      refine g_iconst hC dX7_meetingsOf_24 (v := (0 : Int32)) (by decide) ?_
      cases h
      exact g_iret hC hE rfl dX7_meetingsOf_25 (Nat.zero_le _) (Nat.zero_le _) ⟨rfl, rfl, rfl, rfl, rfl, rfl⟩
noncomputable def f_X11_meets (Fu : Nat) (R : mRT) (I : mIT) (v1 : Int32) (v2 : Int32) : Option ((Int32 × mIT) ⊕ (Nat × mIT)) :=
  oX (f_X11_checkRoot Fu R I v1) (fun r2 => oX (f_X11_checkRoot Fu R I v2) (fun r7 => oB (R 0 3) (fun p11 => if (I p11 8) = 0 then (some (.inl ((0 : Int32), I))) else (if v1 = v2 then (some (.inl ((0 : Int32), I))) else (oB (R 0 3) (fun p32 => oB (f_X7_load Fu I p32 40) (fun r39 => oB (f_X7_meetingsOf Fu r39 v1 v2) (fun r48 => some (.inl (r48, r39))))))))))
set_option maxRecDepth 20000 in
theorem oy_X11_meets {l : Launch} {E : mEn} {Fu : Nat} {I : mIT} {R : mRT} {L : mLT} {v1 : Int32} {v2 : Int32} (hst : l.stackTraces = false) (hW : mWd R)  {out : (Int32 × mIT) ⊕ (Nat × mIT)} (h : f_X11_meets Fu R I v1 v2 = some out) {mc ms : Nat} {post : Option Value → Nat → Nat → mIT → mRT → mLT → Prop} {px : String → Nat → Nat → mIT → mRT → mLT → Prop} (ho : Sum.elim (fun o : Int32 × mIT => post (some (.int (o.1))) 106 1 (o.2) R L) (fun q : Nat × mIT => 1 ≤ mc ∧ 6 ≤ ms ∧ px (xNm q.1) 106 1 q.2 R L) out) : mOx l E mX11_meets [.ref (mB E + 0), .int v1, .int v2] 106 1 I R L mc ms post px := by
  refine mOx_of hst (by decide) (Nat.le_of_ble_eq_true rfl) (fun X hC hE0 _ => ?_)
  have hE : mEx X E mc ms post px ∧ Sum.elim (fun o : Int32 × mIT => post (some (.int (o.1))) 106 1 (o.2) R L) (fun q : Nat × mIT => 1 ≤ mc ∧ 6 ≤ ms ∧ px (xNm q.1) 106 1 q.2 R L) out := ⟨hE0, ho⟩
  have hC : mC X E mX11_meets RX11 cX11_meets := hC
  show mG X E 0 [(0, .ref (mB E + 0)), (1, .int v1), (2, .int v2)] [] 106 1 I R L 0 0
  unfold f_X11_meets at h
  refine g_aload_n hC dX11_meets_0 rfl (q := 0) rfl ?_
  refine g_iload_n hC dX11_meets_1 rfl (q := 1) rfl ?_
  rcases oX_some h with ⟨r2, h2, h⟩ | ⟨q2, h2, h⟩
  case inr =>
    subst h
    have hq : 1 ≤ mc ∧ 6 ≤ ms ∧ px (xNm q2.1) 106 1 q2.2 R L := hE.2
    exact g_cVz hC hE.1 cv_X11_checkRoot wd_1183 ⟨Nat.le_of_ble_eq_true rfl, Nat.le_of_ble_eq_true rfl⟩ rfl (by decide) dX11_meets_2 (As := [.int v1]) (st := []) (ox_X11_checkRoot hC.2.2.2.2.2.2.2.1 hW h2) rfl rfl (Nat.le_of_ble_eq_true rfl) ⟨by omega, by omega⟩ hq.2.2
  refine g_cVy0 hC hE.1 cv_X11_checkRoot wd_1183 ⟨Nat.le_of_ble_eq_true rfl, Nat.le_of_ble_eq_true rfl⟩ rfl (by decide) dX11_meets_2 (As := [.int v1]) (st := []) (oi_X11_checkRoot hC.2.2.2.2.2.2.2.1 hW h2) rfl rfl (Nat.le_of_ble_eq_true rfl) ⟨Nat.zero_le _, Nat.zero_le _⟩ ?_
  refine g_aload_n hC dX11_meets_5 rfl (q := 0) rfl ?_
  refine g_iload_n hC dX11_meets_6 rfl (q := 2) rfl ?_
  rcases oX_some h with ⟨r7, h7, h⟩ | ⟨q7, h7, h⟩
  case inr =>
    subst h
    have hq : 1 ≤ mc ∧ 6 ≤ ms ∧ px (xNm q7.1) 106 1 q7.2 R L := hE.2
    exact g_cVz hC hE.1 cv_X11_checkRoot wd_1183 ⟨Nat.le_of_ble_eq_true rfl, Nat.le_of_ble_eq_true rfl⟩ rfl (by decide) dX11_meets_7 (As := [.int v2]) (st := []) (ox_X11_checkRoot hC.2.2.2.2.2.2.2.1 hW h7) rfl rfl (Nat.le_of_ble_eq_true rfl) ⟨by omega, by omega⟩ hq.2.2
  refine g_cVy0 hC hE.1 cv_X11_checkRoot wd_1183 ⟨Nat.le_of_ble_eq_true rfl, Nat.le_of_ble_eq_true rfl⟩ rfl (by decide) dX11_meets_7 (As := [.int v2]) (st := []) (oi_X11_checkRoot hC.2.2.2.2.2.2.2.1 hW h7) rfl rfl (Nat.le_of_ble_eq_true rfl) ⟨Nat.zero_le _, Nat.zero_le _⟩ ?_
  refine g_aload_n hC dX11_meets_10 rfl (q := 0) rfl ?_
  obtain ⟨p11, e11, h⟩ := oB_some h
  have hp11 : mO5 R p11 := ob5 hW.1 (hW.2.1 p11 e11)
  refine g_getr hC fd_RX11_27 rfl (by decide) (C0 := _) (t0 := .int) (Or.inl rfl) e11 dX11_meets_11 ?_
  refine g_geti hC fd_RX11_163 hp11.2.1 hp11.1 (Or.inl rfl) dX11_meets_14 ?_
  refine g_if_eq hC dX11_meets_17 (tgt := 25) (by decide) (fun c17 => ?_) (fun c17 => ?_)
  · replace h := (if_pos c17).symm.trans h
    refine g_iconst hC dX11_meets_25 (v := (0 : Int32)) (by decide) ?_
    cases h
    exact g_xiret hC hE.1 rfl dX11_meets_26 (Nat.zero_le _) (Nat.zero_le _) hE.2
  · replace h := (if_neg c17).symm.trans h
    refine g_iload_n hC dX11_meets_20 rfl (q := 1) rfl ?_
    refine g_iload_n hC dX11_meets_21 rfl (q := 2) rfl ?_
    refine g_ic_ne hC dX11_meets_22 (tgt := 27) (by decide) (fun c22 => ?_) (fun c22 => ?_)
    · replace h := (if_neg c22).symm.trans h
      refine g_aload_n hC dX11_meets_27 rfl (q := 0) rfl ?_
      refine g_getr hC fd_RX11_75 rfl (by decide) (C0 := _) (t0 := .int) (Or.inl rfl) (rr_0_12 hW.1) dX11_meets_28 ?_
      refine g_aload_n hC dX11_meets_31 rfl (q := 0) rfl ?_
      obtain ⟨p32, e32, h⟩ := oB_some h
      have hp32 : mO5 R p32 := ob5 hW.1 (hW.2.1 p32 e32)
      refine g_getr hC fd_RX11_27 rfl (by decide) (C0 := _) (t0 := .int) (Or.inl rfl) e32 dX11_meets_32 ?_
      refine g_aload_n hC dX11_meets_35 rfl (q := 0) rfl ?_
      refine g_getr hC fd_RX11_34 rfl (by decide) (C0 := _) (t0 := .int) (Or.inl rfl) (rr_0_4 hW.1) dX11_meets_36 ?_
      obtain ⟨r39, h39, h⟩ := oB_some h
      refine g_cV0 hC cv_X7_load wd_724 ⟨Nat.le_of_ble_eq_true rfl, Nat.le_of_ble_eq_true rfl⟩ rfl (by decide) dX11_meets_39 (As := [.ref (mB E + p32), .ref (mB E + 40)]) (st := []) (ok_X7_load hC.2.2.2.2.2.2.2.1 hW hp32 (ob_40 hW.1) h39) rfl rfl (Nat.le_of_ble_eq_true rfl) ⟨Nat.zero_le _, Nat.zero_le _⟩ ?_
      refine g_aload_n hC dX11_meets_42 rfl (q := 0) rfl ?_
      refine g_getr hC fd_RX11_75 rfl (by decide) (C0 := _) (t0 := .int) (Or.inl rfl) (rr_0_12 hW.1) dX11_meets_43 ?_
      refine g_iload_n hC dX11_meets_46 rfl (q := 1) rfl ?_
      refine g_iload_n hC dX11_meets_47 rfl (q := 2) rfl ?_
      obtain ⟨r48, h48, h⟩ := oB_some h
      refine g_cV1 hC cv_X7_meetingsOf wd_1606 ⟨Nat.le_of_ble_eq_true rfl, Nat.le_of_ble_eq_true rfl⟩ rfl (by decide) dX11_meets_48 (As := [.int v1, .int v2]) (st := []) (ok_X7_meetingsOf hC.2.2.2.2.2.2.2.1 hW h48) rfl rfl (Nat.le_of_ble_eq_true rfl) ⟨Nat.zero_le _, Nat.zero_le _⟩ ?_
      cases h
      exact g_xiret hC hE.1 rfl dX11_meets_51 (Nat.zero_le _) (Nat.zero_le _) hE.2
    · replace h := (if_pos c22).symm.trans h
      refine g_iconst hC dX11_meets_25 (v := (0 : Int32)) (by decide) ?_
      cases h
      exact g_xiret hC hE.1 rfl dX11_meets_26 (Nat.zero_le _) (Nat.zero_le _) hE.2
theorem oi_X11_meets {l : Launch} {E : mEn} {Fu : Nat} {I : mIT} {R : mRT} {L : mLT} {v1 : Int32} {v2 : Int32} (hst : l.stackTraces = false) (hW : mWd R)  {out : Int32 × mIT} (h : f_X11_meets Fu R I v1 v2 = some (.inl out)) : mOx l E mX11_meets [.ref (mB E + 0), .int v1, .int v2] 106 1 I R L 0 0 (mSame (some (.int (out.1))) 106 1 (out.2) R L) (fun _ _ _ _ _ _ => False) := oy_X11_meets hst hW h ⟨rfl, rfl, rfl, rfl, rfl, rfl⟩
theorem ox_X11_meets {l : Launch} {E : mEn} {Fu : Nat} {I : mIT} {R : mRT} {L : mLT} {v1 : Int32} {v2 : Int32} (hst : l.stackTraces = false) (hW : mWd R)  {q : Nat × mIT} (h : f_X11_meets Fu R I v1 v2 = some (.inr q)) : mOx l E mX11_meets [.ref (mB E + 0), .int v1, .int v2] 106 1 I R L 1 6 (fun _ _ _ _ _ _ => False) (mXp q.1 106 1 q.2 R L) := oy_X11_meets hst hW h ⟨Nat.le_refl _, Nat.le_refl _, rfl, rfl, rfl, rfl, rfl, rfl⟩
noncomputable def b_X11_mouth_15 (Fu : Nat) (R : mRT) (k15_ : Int32 × Int32 × Int32 × Int32 × mIT → Option ((Int32 × mIT) ⊕ (Nat × mIT))) (v1 : Int32) (v2 : Int32) (v3 : Int32) (v4 : Int32) (I : mIT) : Option ((Int32 × mIT) ⊕ (Nat × mIT)) :=
  oB (R 0 3) (fun p18 => if (I p18 3) ≤ v4 then (some (.inl (v3, I))) else (if ((v2 >>> (v4 &&& 31)) &&& (1 : Int32)) = (1 : Int32) then (if v3 = (-1 : Int32) then (k15_ (v1, v2, v4, (v4 + (1 : Int32)), I)) else (oB (f_X11_isBeyond Fu I v4 v3 v1) (fun r47 => if r47 = 0 then (k15_ (v1, v2, v3, (v4 + (1 : Int32)), I)) else (k15_ (v1, v2, v4, (v4 + (1 : Int32)), I))))) else (k15_ (v1, v2, v3, (v4 + (1 : Int32)), I))))
set_option maxRecDepth 20000 in
theorem bo_X11_mouth_15 {X : mXT} {E : mEn} {Fu : Nat} {R : mRT} {L : mLT}  (hC : mC X E mX11_mouth RX11 cX11_mouth) (hW : mWd R)   {out : (Int32 × mIT) ⊕ (Nat × mIT)} {mc ms : Nat} {post : Option Value → Nat → Nat → mIT → mRT → mLT → Prop} {px : String → Nat → Nat → mIT → mRT → mLT → Prop} (hE : mEx X E mc ms post px ∧ Sum.elim (fun o : Int32 × mIT => post (some (.int (o.1))) 106 1 (o.2) R L) (fun q : Nat × mIT => 1 ≤ mc ∧ 6 ≤ ms ∧ px (xNm q.1) 106 1 q.2 R L) out) (k15_ : Int32 × Int32 × Int32 × Int32 × mIT → Option ((Int32 × mIT) ⊕ (Nat × mIT))) (hk15_ : ∀ (v1 : Int32) (v2 : Int32) (v3 : Int32) (v4 : Int32) (I : mIT),  k15_ (v1, v2, v3, v4, I) = some out → mG X E 15 [(0, .ref (mB E + 0)), (1, .int v1), (2, .int v2), (3, .int v3), (4, .int v4)] [] 106 1 I R L 0 0) (v1 : Int32) (v2 : Int32) (v3 : Int32) (v4 : Int32) (I : mIT) (h : b_X11_mouth_15 Fu R k15_ v1 v2 v3 v4 I = some out) : mG X E 15 [(0, .ref (mB E + 0)), (1, .int v1), (2, .int v2), (3, .int v3), (4, .int v4)] [] 106 1 I R L 0 0 := by
  unfold b_X11_mouth_15 at h
  refine g_iload hC dX11_mouth_15 (q := 4) rfl ?_
  refine g_aload_n hC dX11_mouth_17 rfl (q := 0) rfl ?_
  obtain ⟨p18, e18, h⟩ := oB_some h
  have hp18 : mO5 R p18 := ob5 hW.1 (hW.2.1 p18 e18)
  refine g_getr hC fd_RX11_27 rfl (by decide) (C0 := _) (t0 := .int) (Or.inl rfl) e18 dX11_mouth_18 ?_
  refine g_geti hC fd_RX11_140 hp18.2.1 hp18.1 (Or.inl rfl) dX11_mouth_21 ?_
  refine g_ic_ge hC dX11_mouth_24 (tgt := 62) (by decide) (fun c24 => ?_) (fun c24 => ?_)
  · replace h := (if_pos c24).symm.trans h
    refine g_iload_n hC dX11_mouth_62 rfl (q := 3) rfl ?_
    cases h
    exact g_xiret hC hE.1 rfl dX11_mouth_63 (Nat.zero_le _) (Nat.zero_le _) hE.2
  · replace h := (if_neg c24).symm.trans h
    refine g_iload_n hC dX11_mouth_27 rfl (q := 2) rfl ?_
    refine g_iload hC dX11_mouth_28 (q := 4) rfl ?_
    refine g_ishr hC dX11_mouth_30 ?_
    refine g_iconst hC dX11_mouth_31 (v := (1 : Int32)) (by decide) ?_
    refine g_iand hC dX11_mouth_32 ?_
    refine g_iconst hC dX11_mouth_33 (v := (1 : Int32)) (by decide) ?_
    refine g_ic_ne hC dX11_mouth_34 (tgt := 56) (by decide) (fun c34 => ?_) (fun c34 => ?_)
    · replace h := (if_neg c34).symm.trans h
      refine g_iinc hC dX11_mouth_56 rfl (q := 4) rfl (w := (v4 + (1 : Int32))) rfl (by decide) (lv' := [(4, .int (v4 + (1 : Int32))), (0, .ref (mB E + 0)), (1, .int v1), (2, .int v2), (3, .int v3)]) rfl ?_
      refine g_goto hC dX11_mouth_59 (tgt := 15) (by decide) ?_
      refine g_lv [1, 2, 3, 4, 0] rfl ?_
      exact hk15_ v1 v2 v3 (v4 + (1 : Int32)) I h
    · replace h := (if_pos c34).symm.trans h
      refine g_iload_n hC dX11_mouth_37 rfl (q := 3) rfl ?_
      refine g_iconst hC dX11_mouth_38 (v := (-1 : Int32)) (by decide) ?_
      refine g_ic_eq hC dX11_mouth_39 (tgt := 53) (by decide) (fun c39 => ?_) (fun c39 => ?_)
      · replace h := (if_pos c39).symm.trans h
        refine g_iload hC dX11_mouth_53 (q := 4) rfl ?_
        refine g_istore_n hC dX11_mouth_55 rfl rfl (by decide) (lv' := [(3, .int v4), (0, .ref (mB E + 0)), (1, .int v1), (2, .int v2), (4, .int v4)]) rfl ?_
        refine g_iinc hC dX11_mouth_56 rfl (q := 4) rfl (w := (v4 + (1 : Int32))) rfl (by decide) (lv' := [(4, .int (v4 + (1 : Int32))), (3, .int v4), (0, .ref (mB E + 0)), (1, .int v1), (2, .int v2)]) rfl ?_
        refine g_goto hC dX11_mouth_59 (tgt := 15) (by decide) ?_
        refine g_lv [2, 3, 4, 1, 0] rfl ?_
        exact hk15_ v1 v2 v4 (v4 + (1 : Int32)) I h
      · replace h := (if_neg c39).symm.trans h
        refine g_aload_n hC dX11_mouth_42 rfl (q := 0) rfl ?_
        refine g_iload hC dX11_mouth_43 (q := 4) rfl ?_
        refine g_iload_n hC dX11_mouth_45 rfl (q := 3) rfl ?_
        refine g_iload_n hC dX11_mouth_46 rfl (q := 1) rfl ?_
        obtain ⟨r47, h47, h⟩ := oB_some h
        refine g_cV1 hC cv_X11_isBeyond wd_1579 ⟨Nat.le_of_ble_eq_true rfl, Nat.le_of_ble_eq_true rfl⟩ rfl (by decide) dX11_mouth_47 (As := [.int v4, .int v3, .int v1]) (st := []) (ok_X11_isBeyond hC.2.2.2.2.2.2.2.1 hW h47) rfl rfl (Nat.le_of_ble_eq_true rfl) ⟨Nat.zero_le _, Nat.zero_le _⟩ ?_
        refine g_if_eq hC dX11_mouth_50 (tgt := 56) (by decide) (fun c50 => ?_) (fun c50 => ?_)
        · replace h := (if_pos c50).symm.trans h
          refine g_iinc hC dX11_mouth_56 rfl (q := 4) rfl (w := (v4 + (1 : Int32))) rfl (by decide) (lv' := [(4, .int (v4 + (1 : Int32))), (0, .ref (mB E + 0)), (1, .int v1), (2, .int v2), (3, .int v3)]) rfl ?_
          refine g_goto hC dX11_mouth_59 (tgt := 15) (by decide) ?_
          refine g_lv [1, 2, 3, 4, 0] rfl ?_
          exact hk15_ v1 v2 v3 (v4 + (1 : Int32)) I h
        · replace h := (if_neg c50).symm.trans h
          refine g_iload hC dX11_mouth_53 (q := 4) rfl ?_
          refine g_istore_n hC dX11_mouth_55 rfl rfl (by decide) (lv' := [(3, .int v4), (0, .ref (mB E + 0)), (1, .int v1), (2, .int v2), (4, .int v4)]) rfl ?_
          refine g_iinc hC dX11_mouth_56 rfl (q := 4) rfl (w := (v4 + (1 : Int32))) rfl (by decide) (lv' := [(4, .int (v4 + (1 : Int32))), (3, .int v4), (0, .ref (mB E + 0)), (1, .int v1), (2, .int v2)]) rfl ?_
          refine g_goto hC dX11_mouth_59 (tgt := 15) (by decide) ?_
          refine g_lv [2, 3, 4, 1, 0] rfl ?_
          exact hk15_ v1 v2 v4 (v4 + (1 : Int32)) I h
noncomputable def w_X11_mouth_15 (Fu : Nat) (R : mRT)  (N : Nat) (v1 : Int32) (v2 : Int32) (v3 : Int32) (v4 : Int32) (I : mIT) : Option ((Int32 × mIT) ⊕ (Nat × mIT)) :=
  loopF (fun self (s : Int32 × Int32 × Int32 × Int32 × mIT) => b_X11_mouth_15 Fu R self s.1 s.2.1 s.2.2.1 s.2.2.2.1 s.2.2.2.2) N (v1, v2, v3, v4, I)
theorem wo_X11_mouth_15 {X : mXT} {E : mEn} {Fu : Nat} {R : mRT} {L : mLT}  (hC : mC X E mX11_mouth RX11 cX11_mouth) (hW : mWd R)   {out : (Int32 × mIT) ⊕ (Nat × mIT)} {mc ms : Nat} {post : Option Value → Nat → Nat → mIT → mRT → mLT → Prop} {px : String → Nat → Nat → mIT → mRT → mLT → Prop} (hE : mEx X E mc ms post px ∧ Sum.elim (fun o : Int32 × mIT => post (some (.int (o.1))) 106 1 (o.2) R L) (fun q : Nat × mIT => 1 ≤ mc ∧ 6 ≤ ms ∧ px (xNm q.1) 106 1 q.2 R L) out)  (N : Nat) (v1 : Int32) (v2 : Int32) (v3 : Int32) (v4 : Int32) (I : mIT) (h : w_X11_mouth_15 Fu R  N v1 v2 v3 v4 I = some out) : mG X E 15 [(0, .ref (mB E + 0)), (1, .int v1), (2, .int v2), (3, .int v3), (4, .int v4)] [] 106 1 I R L 0 0 :=
  loopF_ok (Gd := fun s : Int32 × Int32 × Int32 × Int32 × mIT => mG X E 15 [(0, .ref (mB E + 0)), (1, .int s.1), (2, .int s.2.1), (3, .int s.2.2.1), (4, .int s.2.2.2.1)] [] 106 1 s.2.2.2.2 R L 0 0) (fun self hs s h => bo_X11_mouth_15 hC hW hE self (fun v1 v2 v3 v4 I h => hs (v1, v2, v3, v4, I) h) s.1 s.2.1 s.2.2.1 s.2.2.2.1 s.2.2.2.2 h) N (v1, v2, v3, v4, I) h
noncomputable def f_X11_mouth (Fu : Nat) (R : mRT) (I : mIT) (v1 : Int32) : Option ((Int32 × mIT) ⊕ (Nat × mIT)) :=
  oX (f_X11_checkTwo Fu I v1) (fun r2 => oB (f_X11_soundingNow Fu R I) (fun r6 => w_X11_mouth_15 Fu R Fu v1 r6.1 (-1 : Int32) (0 : Int32) r6.2))
set_option maxRecDepth 20000 in
theorem oy_X11_mouth {l : Launch} {E : mEn} {Fu : Nat} {I : mIT} {R : mRT} {L : mLT} {v1 : Int32} (hst : l.stackTraces = false) (hW : mWd R)  {out : (Int32 × mIT) ⊕ (Nat × mIT)} (h : f_X11_mouth Fu R I v1 = some out) {mc ms : Nat} {post : Option Value → Nat → Nat → mIT → mRT → mLT → Prop} {px : String → Nat → Nat → mIT → mRT → mLT → Prop} (ho : Sum.elim (fun o : Int32 × mIT => post (some (.int (o.1))) 106 1 (o.2) R L) (fun q : Nat × mIT => 1 ≤ mc ∧ 6 ≤ ms ∧ px (xNm q.1) 106 1 q.2 R L) out) : mOx l E mX11_mouth [.ref (mB E + 0), .int v1] 106 1 I R L mc ms post px := by
  refine mOx_of hst (by decide) (Nat.le_of_ble_eq_true rfl) (fun X hC hE0 _ => ?_)
  have hE : mEx X E mc ms post px ∧ Sum.elim (fun o : Int32 × mIT => post (some (.int (o.1))) 106 1 (o.2) R L) (fun q : Nat × mIT => 1 ≤ mc ∧ 6 ≤ ms ∧ px (xNm q.1) 106 1 q.2 R L) out := ⟨hE0, ho⟩
  have hC : mC X E mX11_mouth RX11 cX11_mouth := hC
  show mG X E 0 [(0, .ref (mB E + 0)), (1, .int v1)] [] 106 1 I R L 0 0
  unfold f_X11_mouth at h
  refine g_aload_n hC dX11_mouth_0 rfl (q := 0) rfl ?_
  refine g_iload_n hC dX11_mouth_1 rfl (q := 1) rfl ?_
  rcases oX_some h with ⟨r2, h2, h⟩ | ⟨q2, h2, h⟩
  case inr =>
    subst h
    have hq : 1 ≤ mc ∧ 6 ≤ ms ∧ px (xNm q2.1) 106 1 q2.2 R L := hE.2
    exact g_cVz hC hE.1 cv_X11_checkTwo wd_1445 ⟨Nat.le_of_ble_eq_true rfl, Nat.le_of_ble_eq_true rfl⟩ rfl (by decide) dX11_mouth_2 (As := [.int v1]) (st := []) (ox_X11_checkTwo hC.2.2.2.2.2.2.2.1 hW h2) rfl rfl (Nat.le_of_ble_eq_true rfl) ⟨by omega, by omega⟩ hq.2.2
  refine g_cVy0 hC hE.1 cv_X11_checkTwo wd_1445 ⟨Nat.le_of_ble_eq_true rfl, Nat.le_of_ble_eq_true rfl⟩ rfl (by decide) dX11_mouth_2 (As := [.int v1]) (st := []) (oi_X11_checkTwo hC.2.2.2.2.2.2.2.1 hW h2) rfl rfl (Nat.le_of_ble_eq_true rfl) ⟨Nat.zero_le _, Nat.zero_le _⟩ ?_
  refine g_aload_n hC dX11_mouth_5 rfl (q := 0) rfl ?_
  obtain ⟨r6, h6, h⟩ := oB_some h
  refine g_cV1 hC cv_X11_soundingNow wd_776 ⟨Nat.le_of_ble_eq_true rfl, Nat.le_of_ble_eq_true rfl⟩ rfl (by decide) dX11_mouth_6 (As := []) (st := []) (ok_X11_soundingNow hC.2.2.2.2.2.2.2.1 hW h6) rfl rfl (Nat.le_of_ble_eq_true rfl) ⟨Nat.zero_le _, Nat.zero_le _⟩ ?_
  refine g_istore_n hC dX11_mouth_9 rfl rfl (by decide) (lv' := [(2, .int r6.1), (0, .ref (mB E + 0)), (1, .int v1)]) rfl ?_
  refine g_iconst hC dX11_mouth_10 (v := (-1 : Int32)) (by decide) ?_
  refine g_istore_n hC dX11_mouth_11 rfl rfl (by decide) (lv' := [(3, .int (-1 : Int32)), (2, .int r6.1), (0, .ref (mB E + 0)), (1, .int v1)]) rfl ?_
  refine g_iconst hC dX11_mouth_12 (v := (0 : Int32)) (by decide) ?_
  refine g_istore hC dX11_mouth_13 rfl (by decide) (lv' := [(4, .int (0 : Int32)), (3, .int (-1 : Int32)), (2, .int r6.1), (0, .ref (mB E + 0)), (1, .int v1)]) rfl ?_
  refine g_lv [3, 4, 2, 1, 0] rfl ?_
  exact wo_X11_mouth_15 hC hW hE Fu (v1) (r6.1) ((-1 : Int32)) ((0 : Int32)) (r6.2) h
theorem oi_X11_mouth {l : Launch} {E : mEn} {Fu : Nat} {I : mIT} {R : mRT} {L : mLT} {v1 : Int32} (hst : l.stackTraces = false) (hW : mWd R)  {out : Int32 × mIT} (h : f_X11_mouth Fu R I v1 = some (.inl out)) : mOx l E mX11_mouth [.ref (mB E + 0), .int v1] 106 1 I R L 0 0 (mSame (some (.int (out.1))) 106 1 (out.2) R L) (fun _ _ _ _ _ _ => False) := oy_X11_mouth hst hW h ⟨rfl, rfl, rfl, rfl, rfl, rfl⟩
theorem ox_X11_mouth {l : Launch} {E : mEn} {Fu : Nat} {I : mIT} {R : mRT} {L : mLT} {v1 : Int32} (hst : l.stackTraces = false) (hW : mWd R)  {q : Nat × mIT} (h : f_X11_mouth Fu R I v1 = some (.inr q)) : mOx l E mX11_mouth [.ref (mB E + 0), .int v1] 106 1 I R L 1 6 (fun _ _ _ _ _ _ => False) (mXp q.1 106 1 q.2 R L) := oy_X11_mouth hst hW h ⟨Nat.le_refl _, Nat.le_refl _, rfl, rfl, rfl, rfl, rfl, rfl⟩
noncomputable def b_X9_neededFor_22 (Fu : Nat) (k0 : Nat) (k1 : Nat) (k22_ : Int32 × Int32 × Int32 × Int32 × mIT → Option (Int32 × mIT)) (v2 : Int32) (v3 : Int32) (v4 : Int32) (v5 : Int32) (I : mIT) : Option (Int32 × mIT) :=
  if v4 < v5 then (some ((-1 : Int32), I)) else (oB (f_X9_noteOf Fu I k0 k1 v2 v5) (fun r34 => if r34.1 = v3 then (some (v5, r34.2)) else (k22_ (v2, v3, v4, (v5 + (1 : Int32)), r34.2))))
set_option maxRecDepth 20000 in
theorem bo_X9_neededFor_22 {X : mXT} {E : mEn} {Fu : Nat} {R : mRT} {L : mLT} {k0 : Nat} {k1 : Nat} (hC : mC X E mX9_neededFor RX9 cX9_neededFor) (hk0 : mO9 R k0) (hk1 : mO5 R k1)  {out : Int32 × mIT} (hE : mEd X E 0 0 (mSame (some (.int (out.1))) 106 1 (out.2) R L)) (k22_ : Int32 × Int32 × Int32 × Int32 × mIT → Option (Int32 × mIT)) (hk22_ : ∀ (v2 : Int32) (v3 : Int32) (v4 : Int32) (v5 : Int32) (I : mIT),  k22_ (v2, v3, v4, v5, I) = some out → mG X E 22 [(0, .ref (mB E + k0)), (1, .ref (mB E + k1)), (2, .int v2), (3, .int v3), (4, .int v4), (5, .int v5)] [] 106 1 I R L 0 0) (v2 : Int32) (v3 : Int32) (v4 : Int32) (v5 : Int32) (I : mIT) (h : b_X9_neededFor_22 Fu k0 k1 k22_ v2 v3 v4 v5 I = some out) : mG X E 22 [(0, .ref (mB E + k0)), (1, .ref (mB E + k1)), (2, .int v2), (3, .int v3), (4, .int v4), (5, .int v5)] [] 106 1 I R L 0 0 := by
  unfold b_X9_neededFor_22 at h
  refine g_iload hC dX9_neededFor_22 (q := 5) rfl ?_
  refine g_iload hC dX9_neededFor_24 (q := 4) rfl ?_
  refine g_ic_gt hC dX9_neededFor_26 (tgt := 50) (by decide) (fun c26 => ?_) (fun c26 => ?_)
  · replace h := (if_pos c26).symm.trans h
    refine g_iconst hC dX9_neededFor_50 (v := (-1 : Int32)) (by decide) ?_
    cases h
    exact g_iret hC hE rfl dX9_neededFor_51 (Nat.zero_le _) (Nat.zero_le _) ⟨rfl, rfl, rfl, rfl, rfl, rfl⟩
  · replace h := (if_neg c26).symm.trans h
    refine g_aload_n hC dX9_neededFor_29 rfl (q := 0) rfl ?_
    refine g_aload_n hC dX9_neededFor_30 rfl (q := 1) rfl ?_
    refine g_iload_n hC dX9_neededFor_31 rfl (q := 2) rfl ?_
    refine g_iload hC dX9_neededFor_32 (q := 5) rfl ?_
    obtain ⟨r34, h34, h⟩ := oB_some h
    refine g_cV1 hC cv_X9_noteOf wd_1557 ⟨Nat.le_of_ble_eq_true rfl, Nat.le_of_ble_eq_true rfl⟩ hk0.2.1 hk0.1 dX9_neededFor_34 (As := [.ref (mB E + k1), .int v2, .int v5]) (st := []) (ok_X9_noteOf hC.2.2.2.2.2.2.2.1 hk0 hk1 h34) rfl rfl (Nat.le_of_ble_eq_true rfl) ⟨Nat.zero_le _, Nat.zero_le _⟩ ?_
    refine g_iload_n hC dX9_neededFor_37 rfl (q := 3) rfl ?_
    refine g_ic_ne hC dX9_neededFor_38 (tgt := 44) (by decide) (fun c38 => ?_) (fun c38 => ?_)
    · replace h := (if_neg c38).symm.trans h
      refine g_iinc hC dX9_neededFor_44 rfl (q := 5) rfl (w := (v5 + (1 : Int32))) rfl (by decide) (lv' := [(5, .int (v5 + (1 : Int32))), (0, .ref (mB E + k0)), (1, .ref (mB E + k1)), (2, .int v2), (3, .int v3), (4, .int v4)]) rfl ?_
      refine g_goto hC dX9_neededFor_47 (tgt := 22) (by decide) ?_
      refine g_lv [1, 2, 3, 4, 5, 0] rfl ?_
      exact hk22_ v2 v3 v4 (v5 + (1 : Int32)) r34.2 h
    · replace h := (if_pos c38).symm.trans h
      refine g_iload hC dX9_neededFor_41 (q := 5) rfl ?_
      cases h
      exact g_iret hC hE rfl dX9_neededFor_43 (Nat.zero_le _) (Nat.zero_le _) ⟨rfl, rfl, rfl, rfl, rfl, rfl⟩
noncomputable def w_X9_neededFor_22 (Fu : Nat) (k0 : Nat) (k1 : Nat)  (N : Nat) (v2 : Int32) (v3 : Int32) (v4 : Int32) (v5 : Int32) (I : mIT) : Option (Int32 × mIT) :=
  loopF (fun self (s : Int32 × Int32 × Int32 × Int32 × mIT) => b_X9_neededFor_22 Fu k0 k1 self s.1 s.2.1 s.2.2.1 s.2.2.2.1 s.2.2.2.2) N (v2, v3, v4, v5, I)
theorem wo_X9_neededFor_22 {X : mXT} {E : mEn} {Fu : Nat} {R : mRT} {L : mLT} {k0 : Nat} {k1 : Nat} (hC : mC X E mX9_neededFor RX9 cX9_neededFor) (hk0 : mO9 R k0) (hk1 : mO5 R k1)  {out : Int32 × mIT} (hE : mEd X E 0 0 (mSame (some (.int (out.1))) 106 1 (out.2) R L))  (N : Nat) (v2 : Int32) (v3 : Int32) (v4 : Int32) (v5 : Int32) (I : mIT) (h : w_X9_neededFor_22 Fu k0 k1  N v2 v3 v4 v5 I = some out) : mG X E 22 [(0, .ref (mB E + k0)), (1, .ref (mB E + k1)), (2, .int v2), (3, .int v3), (4, .int v4), (5, .int v5)] [] 106 1 I R L 0 0 :=
  loopF_ok (Gd := fun s : Int32 × Int32 × Int32 × Int32 × mIT => mG X E 22 [(0, .ref (mB E + k0)), (1, .ref (mB E + k1)), (2, .int s.1), (3, .int s.2.1), (4, .int s.2.2.1), (5, .int s.2.2.2.1)] [] 106 1 s.2.2.2.2 R L 0 0) (fun self hs s h => bo_X9_neededFor_22 hC hk0 hk1 hE self (fun v2 v3 v4 v5 I h => hs (v2, v3, v4, v5, I) h) s.1 s.2.1 s.2.2.1 s.2.2.2.1 s.2.2.2.2 h) N (v2, v3, v4, v5, I) h
noncomputable def f_X9_neededFor (Fu : Nat) (I : mIT) (k0 : Nat) (k1 : Nat) (v2 : Int32) (v3 : Int32) : Option (Int32 × mIT) :=
  oB (f_X9_placeOf Fu I k0 v2) (fun r2 => if r2 = (-2 : Int32) then (some ((-1 : Int32), I)) else (oB (f_X9_roomToHollow Fu I k0 v2) (fun r14 => w_X9_neededFor_22 Fu k0 k1 Fu v2 v3 r14 (0 : Int32) I)))
set_option maxRecDepth 20000 in
theorem ok_X9_neededFor {l : Launch} {E : mEn} {Fu : Nat} {I : mIT} {R : mRT} {L : mLT} {k0 : Nat} {k1 : Nat} {v2 : Int32} {v3 : Int32} (hst : l.stackTraces = false) (hk0 : mO9 R k0) (hk1 : mO5 R k1) {out : Int32 × mIT} (h : f_X9_neededFor Fu I k0 k1 v2 v3 = some out) : mOk l E mX9_neededFor [.ref (mB E + k0), .ref (mB E + k1), .int v2, .int v3] 106 1 I R L 0 0 (mSame (some (.int (out.1))) 106 1 (out.2) R L) := by
  refine mOk_of hst (by decide) (Nat.le_of_ble_eq_true rfl) (fun X hC hE _ => ?_)
  have hC : mC X E mX9_neededFor RX9 cX9_neededFor := hC
  show mG X E 0 [(0, .ref (mB E + k0)), (1, .ref (mB E + k1)), (2, .int v2), (3, .int v3)] [] 106 1 I R L 0 0
  unfold f_X9_neededFor at h
  refine g_aload_n hC dX9_neededFor_0 rfl (q := 0) rfl ?_
  refine g_iload_n hC dX9_neededFor_1 rfl (q := 2) rfl ?_
  obtain ⟨r2, h2, h⟩ := oB_some h
  refine g_cV1 hC cv_X9_placeOf wd_586 ⟨Nat.le_of_ble_eq_true rfl, Nat.le_of_ble_eq_true rfl⟩ hk0.2.1 hk0.1 dX9_neededFor_2 (As := [.int v2]) (st := []) (ok_X9_placeOf hC.2.2.2.2.2.2.2.1 hk0 h2) rfl rfl (Nat.le_of_ble_eq_true rfl) ⟨Nat.zero_le _, Nat.zero_le _⟩ ?_
  refine g_bipush hC dX9_neededFor_5 (v := (-2 : Int32)) (by decide) ?_
  refine g_ic_ne hC dX9_neededFor_7 (tgt := 12) (by decide) (fun c7 => ?_) (fun c7 => ?_)
  · replace h := (if_neg c7).symm.trans h
    refine g_aload_n hC dX9_neededFor_12 rfl (q := 0) rfl ?_
    refine g_iload_n hC dX9_neededFor_13 rfl (q := 2) rfl ?_
    obtain ⟨r14, h14, h⟩ := oB_some h
    refine g_cV1 hC cv_X9_roomToHollow wd_1556 ⟨Nat.le_of_ble_eq_true rfl, Nat.le_of_ble_eq_true rfl⟩ hk0.2.1 hk0.1 dX9_neededFor_14 (As := [.int v2]) (st := []) (ok_X9_roomToHollow hC.2.2.2.2.2.2.2.1 hk0 h14) rfl rfl (Nat.le_of_ble_eq_true rfl) ⟨Nat.zero_le _, Nat.zero_le _⟩ ?_
    refine g_istore hC dX9_neededFor_17 rfl (by decide) (lv' := [(4, .int r14), (0, .ref (mB E + k0)), (1, .ref (mB E + k1)), (2, .int v2), (3, .int v3)]) rfl ?_
    refine g_iconst hC dX9_neededFor_19 (v := (0 : Int32)) (by decide) ?_
    refine g_istore hC dX9_neededFor_20 rfl (by decide) (lv' := [(5, .int (0 : Int32)), (4, .int r14), (0, .ref (mB E + k0)), (1, .ref (mB E + k1)), (2, .int v2), (3, .int v3)]) rfl ?_
    refine g_lv [2, 3, 4, 5, 1, 0] rfl ?_
    exact wo_X9_neededFor_22 hC hk0 hk1 hE Fu (v2) (v3) (r14) ((0 : Int32)) (I) h
  · replace h := (if_pos c7).symm.trans h
    refine g_iconst hC dX9_neededFor_10 (v := (-1 : Int32)) (by decide) ?_
    cases h
    exact g_iret hC hE rfl dX9_neededFor_11 (Nat.zero_le _) (Nat.zero_le _) ⟨rfl, rfl, rfl, rfl, rfl, rfl⟩
noncomputable def f_X11_needed (Fu : Nat) (R : mRT) (I : mIT) (v1 : Int32) (v2 : Int32) : Option ((Int32 × mIT) ⊕ (Nat × mIT)) :=
  oX (f_X11_checkRoot Fu R I v1) (fun r2 => oX (f_X11_checkNote Fu I v2) (fun r7 => oB (R 0 3) (fun p15 => oB (f_X9_neededFor Fu I 40 p15 v1 v2) (fun r20 => some (.inl (r20.1, r20.2))))))
set_option maxRecDepth 20000 in
theorem oy_X11_needed {l : Launch} {E : mEn} {Fu : Nat} {I : mIT} {R : mRT} {L : mLT} {v1 : Int32} {v2 : Int32} (hst : l.stackTraces = false) (hW : mWd R)  {out : (Int32 × mIT) ⊕ (Nat × mIT)} (h : f_X11_needed Fu R I v1 v2 = some out) {mc ms : Nat} {post : Option Value → Nat → Nat → mIT → mRT → mLT → Prop} {px : String → Nat → Nat → mIT → mRT → mLT → Prop} (ho : Sum.elim (fun o : Int32 × mIT => post (some (.int (o.1))) 106 1 (o.2) R L) (fun q : Nat × mIT => 1 ≤ mc ∧ 6 ≤ ms ∧ px (xNm q.1) 106 1 q.2 R L) out) : mOx l E mX11_needed [.ref (mB E + 0), .int v1, .int v2] 106 1 I R L mc ms post px := by
  refine mOx_of hst (by decide) (Nat.le_of_ble_eq_true rfl) (fun X hC hE0 _ => ?_)
  have hE : mEx X E mc ms post px ∧ Sum.elim (fun o : Int32 × mIT => post (some (.int (o.1))) 106 1 (o.2) R L) (fun q : Nat × mIT => 1 ≤ mc ∧ 6 ≤ ms ∧ px (xNm q.1) 106 1 q.2 R L) out := ⟨hE0, ho⟩
  have hC : mC X E mX11_needed RX11 cX11_needed := hC
  show mG X E 0 [(0, .ref (mB E + 0)), (1, .int v1), (2, .int v2)] [] 106 1 I R L 0 0
  unfold f_X11_needed at h
  refine g_aload_n hC dX11_needed_0 rfl (q := 0) rfl ?_
  refine g_iload_n hC dX11_needed_1 rfl (q := 1) rfl ?_
  rcases oX_some h with ⟨r2, h2, h⟩ | ⟨q2, h2, h⟩
  case inr =>
    subst h
    have hq : 1 ≤ mc ∧ 6 ≤ ms ∧ px (xNm q2.1) 106 1 q2.2 R L := hE.2
    exact g_cVz hC hE.1 cv_X11_checkRoot wd_1183 ⟨Nat.le_of_ble_eq_true rfl, Nat.le_of_ble_eq_true rfl⟩ rfl (by decide) dX11_needed_2 (As := [.int v1]) (st := []) (ox_X11_checkRoot hC.2.2.2.2.2.2.2.1 hW h2) rfl rfl (Nat.le_of_ble_eq_true rfl) ⟨by omega, by omega⟩ hq.2.2
  refine g_cVy0 hC hE.1 cv_X11_checkRoot wd_1183 ⟨Nat.le_of_ble_eq_true rfl, Nat.le_of_ble_eq_true rfl⟩ rfl (by decide) dX11_needed_2 (As := [.int v1]) (st := []) (oi_X11_checkRoot hC.2.2.2.2.2.2.2.1 hW h2) rfl rfl (Nat.le_of_ble_eq_true rfl) ⟨Nat.zero_le _, Nat.zero_le _⟩ ?_
  refine g_aload_n hC dX11_needed_5 rfl (q := 0) rfl ?_
  refine g_iload_n hC dX11_needed_6 rfl (q := 2) rfl ?_
  rcases oX_some h with ⟨r7, h7, h⟩ | ⟨q7, h7, h⟩
  case inr =>
    subst h
    have hq : 1 ≤ mc ∧ 6 ≤ ms ∧ px (xNm q7.1) 106 1 q7.2 R L := hE.2
    exact g_cVz hC hE.1 cv_X11_checkNote wd_1547 ⟨Nat.le_of_ble_eq_true rfl, Nat.le_of_ble_eq_true rfl⟩ rfl (by decide) dX11_needed_7 (As := [.int v2]) (st := []) (ox_X11_checkNote hC.2.2.2.2.2.2.2.1 hW h7) rfl rfl (Nat.le_of_ble_eq_true rfl) ⟨by omega, by omega⟩ hq.2.2
  refine g_cVy0 hC hE.1 cv_X11_checkNote wd_1547 ⟨Nat.le_of_ble_eq_true rfl, Nat.le_of_ble_eq_true rfl⟩ rfl (by decide) dX11_needed_7 (As := [.int v2]) (st := []) (oi_X11_checkNote hC.2.2.2.2.2.2.2.1 hW h7) rfl rfl (Nat.le_of_ble_eq_true rfl) ⟨Nat.zero_le _, Nat.zero_le _⟩ ?_
  refine g_aload_n hC dX11_needed_10 rfl (q := 0) rfl ?_
  refine g_getr hC fd_RX11_34 rfl (by decide) (C0 := _) (t0 := .int) (Or.inl rfl) (rr_0_4 hW.1) dX11_needed_11 ?_
  refine g_aload_n hC dX11_needed_14 rfl (q := 0) rfl ?_
  obtain ⟨p15, e15, h⟩ := oB_some h
  have hp15 : mO5 R p15 := ob5 hW.1 (hW.2.1 p15 e15)
  refine g_getr hC fd_RX11_27 rfl (by decide) (C0 := _) (t0 := .int) (Or.inl rfl) e15 dX11_needed_15 ?_
  refine g_iload_n hC dX11_needed_18 rfl (q := 1) rfl ?_
  refine g_iload_n hC dX11_needed_19 rfl (q := 2) rfl ?_
  obtain ⟨r20, h20, h⟩ := oB_some h
  refine g_cV1 hC cv_X9_neededFor wd_1552 ⟨Nat.le_of_ble_eq_true rfl, Nat.le_of_ble_eq_true rfl⟩ rfl (by decide) dX11_needed_20 (As := [.ref (mB E + p15), .int v1, .int v2]) (st := []) (ok_X9_neededFor hC.2.2.2.2.2.2.2.1 (ob_40 hW.1) hp15 h20) rfl rfl (Nat.le_of_ble_eq_true rfl) ⟨Nat.zero_le _, Nat.zero_le _⟩ ?_
  cases h
  exact g_xiret hC hE.1 rfl dX11_needed_23 (Nat.zero_le _) (Nat.zero_le _) hE.2
theorem oi_X11_needed {l : Launch} {E : mEn} {Fu : Nat} {I : mIT} {R : mRT} {L : mLT} {v1 : Int32} {v2 : Int32} (hst : l.stackTraces = false) (hW : mWd R)  {out : Int32 × mIT} (h : f_X11_needed Fu R I v1 v2 = some (.inl out)) : mOx l E mX11_needed [.ref (mB E + 0), .int v1, .int v2] 106 1 I R L 0 0 (mSame (some (.int (out.1))) 106 1 (out.2) R L) (fun _ _ _ _ _ _ => False) := oy_X11_needed hst hW h ⟨rfl, rfl, rfl, rfl, rfl, rfl⟩
theorem ox_X11_needed {l : Launch} {E : mEn} {Fu : Nat} {I : mIT} {R : mRT} {L : mLT} {v1 : Int32} {v2 : Int32} (hst : l.stackTraces = false) (hW : mWd R)  {q : Nat × mIT} (h : f_X11_needed Fu R I v1 v2 = some (.inr q)) : mOx l E mX11_needed [.ref (mB E + 0), .int v1, .int v2] 106 1 I R L 1 6 (fun _ _ _ _ _ _ => False) (mXp q.1 106 1 q.2 R L) := oy_X11_needed hst hW h ⟨Nat.le_refl _, Nat.le_refl _, rfl, rfl, rfl, rfl, rfl, rfl⟩
noncomputable def b_X3_withSet_34 (Fu : Nat)  (v1 : Int32) (v2 : Int32) (I : mIT) : Option (Int32 × mIT) :=
  if v2 < 0 then (some ((v2 + (1 : Int32)), I)) else (if (nI 11) ≤ v2 then (some ((v2 + (1 : Int32)), I)) else (oG (inB v2 11) (some ((v2 + (1 : Int32)), (mU I 71 (v2).toNatClampNeg v1)))))
set_option maxRecDepth 20000 in
theorem bo_X3_withSet_34 {X : mXT} {E : mEn} {Fu : Nat} {R : mRT} {L : mLT}  (hC : mC X E mX3_withSet RX3 cX3_withSet) (hW : mWd R)   {out : Int32 × mIT} (hE : mEd X E 0 0 (mSame (some (.int (out.1))) 106 1 (out.2) R L))  (v1 : Int32) (v2 : Int32) (I : mIT) (h : b_X3_withSet_34 Fu  v1 v2 I = some out) : mG X E 34 [(0, .ref (mB E + 69)), (1, .int v1), (2, .int v2)] [] 106 1 I R L 0 0 := by
  unfold b_X3_withSet_34 at h
  refine g_iload_n hC dX3_withSet_34 rfl (q := 2) rfl ?_
  refine g_if_lt hC dX3_withSet_35 (tgt := 54) (by decide) (fun c35 => ?_) (fun c35 => ?_)
  · replace h := (if_pos c35).symm.trans h
    refine g_iload_n hC dX3_withSet_54 rfl (q := 2) rfl ?_
    refine g_iconst hC dX3_withSet_55 (v := (1 : Int32)) (by decide) ?_
    refine g_iadd hC dX3_withSet_56 ?_
    cases h
    exact g_iret hC hE rfl dX3_withSet_57 (Nat.zero_le _) (Nat.zero_le _) ⟨rfl, rfl, rfl, rfl, rfl, rfl⟩
  · replace h := (if_neg c35).symm.trans h
    refine g_iload_n hC dX3_withSet_38 rfl (q := 2) rfl ?_
    refine g_aload_n hC dX3_withSet_39 rfl (q := 0) rfl ?_
    refine g_getr hC fd_RX3_15 rfl (by decide) (C0 := "") (t0 := _) (Or.inr rfl) (rr_69_1 hW.1) dX3_withSet_40 ?_
    refine g_alenI hC rfl (by decide) dX3_withSet_43 ?_
    refine g_ic_ge hC dX3_withSet_44 (tgt := 54) (by decide) (fun c44 => ?_) (fun c44 => ?_)
    · replace h := (if_pos c44).symm.trans h
      refine g_iload_n hC dX3_withSet_54 rfl (q := 2) rfl ?_
      refine g_iconst hC dX3_withSet_55 (v := (1 : Int32)) (by decide) ?_
      refine g_iadd hC dX3_withSet_56 ?_
      cases h
      exact g_iret hC hE rfl dX3_withSet_57 (Nat.zero_le _) (Nat.zero_le _) ⟨rfl, rfl, rfl, rfl, rfl, rfl⟩
    · replace h := (if_neg c44).symm.trans h
      refine g_aload_n hC dX3_withSet_47 rfl (q := 0) rfl ?_
      refine g_getr hC fd_RX3_15 rfl (by decide) (C0 := "") (t0 := _) (Or.inr rfl) (rr_69_1 hW.1) dX3_withSet_48 ?_
      refine g_iload_n hC dX3_withSet_51 rfl (q := 2) rfl ?_
      refine g_iload_n hC dX3_withSet_52 rfl (q := 1) rfl ?_
      obtain ⟨g53, h⟩ := oG_some h
      refine g_iast hC rfl (by decide) (inB_in g53) dX3_withSet_53 (nm_e ?_)
      refine g_iload_n hC dX3_withSet_54 rfl (q := 2) rfl ?_
      refine g_iconst hC dX3_withSet_55 (v := (1 : Int32)) (by decide) ?_
      refine g_iadd hC dX3_withSet_56 ?_
      cases h
      exact g_iret hC hE rfl dX3_withSet_57 (Nat.zero_le _) (Nat.zero_le _) ⟨rfl, rfl, rfl, rfl, rfl, rfl⟩
noncomputable def b_X3_withSet_2 (Fu : Nat) (k2_ : Int32 × Int32 × Int32 × mIT → Option (Int32 × mIT)) (v1 : Int32) (v2 : Int32) (v3 : Int32) (I : mIT) : Option (Int32 × mIT) :=
  if v2 ≤ v3 then (b_X3_withSet_34 Fu v1 v2 I) else (if (nI 11) ≤ v3 then (b_X3_withSet_34 Fu v1 v2 I) else (oG (inB v3 11) (if (I 71 (v3).toNatClampNeg) = v1 then (some (v2, I)) else (k2_ (v1, v2, (v3 + (1 : Int32)), I)))))
set_option maxRecDepth 20000 in
theorem bo_X3_withSet_2 {X : mXT} {E : mEn} {Fu : Nat} {R : mRT} {L : mLT}  (hC : mC X E mX3_withSet RX3 cX3_withSet) (hW : mWd R)   {out : Int32 × mIT} (hE : mEd X E 0 0 (mSame (some (.int (out.1))) 106 1 (out.2) R L)) (k2_ : Int32 × Int32 × Int32 × mIT → Option (Int32 × mIT)) (hk2_ : ∀ (v1 : Int32) (v2 : Int32) (v3 : Int32) (I : mIT),  k2_ (v1, v2, v3, I) = some out → mG X E 2 [(0, .ref (mB E + 69)), (1, .int v1), (2, .int v2), (3, .int v3)] [] 106 1 I R L 0 0) (v1 : Int32) (v2 : Int32) (v3 : Int32) (I : mIT) (h : b_X3_withSet_2 Fu k2_ v1 v2 v3 I = some out) : mG X E 2 [(0, .ref (mB E + 69)), (1, .int v1), (2, .int v2), (3, .int v3)] [] 106 1 I R L 0 0 := by
  unfold b_X3_withSet_2 at h
  refine g_iload_n hC dX3_withSet_2 rfl (q := 3) rfl ?_
  refine g_iload_n hC dX3_withSet_3 rfl (q := 2) rfl ?_
  refine g_ic_ge hC dX3_withSet_4 (tgt := 34) (by decide) (fun c4 => ?_) (fun c4 => ?_)
  · replace h := (if_pos c4).symm.trans h
    refine g_lv [0, 1, 2] rfl ?_
    exact bo_X3_withSet_34 hC hW hE (v1) (v2) (I) h
  · replace h := (if_neg c4).symm.trans h
    refine g_iload_n hC dX3_withSet_7 rfl (q := 3) rfl ?_
    refine g_aload_n hC dX3_withSet_8 rfl (q := 0) rfl ?_
    refine g_getr hC fd_RX3_15 rfl (by decide) (C0 := "") (t0 := _) (Or.inr rfl) (rr_69_1 hW.1) dX3_withSet_9 ?_
    refine g_alenI hC rfl (by decide) dX3_withSet_12 ?_
    refine g_ic_ge hC dX3_withSet_13 (tgt := 34) (by decide) (fun c13 => ?_) (fun c13 => ?_)
    · replace h := (if_pos c13).symm.trans h
      refine g_lv [0, 1, 2] rfl ?_
      exact bo_X3_withSet_34 hC hW hE (v1) (v2) (I) h
    · replace h := (if_neg c13).symm.trans h
      refine g_aload_n hC dX3_withSet_16 rfl (q := 0) rfl ?_
      refine g_getr hC fd_RX3_15 rfl (by decide) (C0 := "") (t0 := _) (Or.inr rfl) (rr_69_1 hW.1) dX3_withSet_17 ?_
      refine g_iload_n hC dX3_withSet_20 rfl (q := 3) rfl ?_
      obtain ⟨g21, h⟩ := oG_some h
      refine g_iald hC rfl (by decide) (inB_in g21) dX3_withSet_21 ?_
      refine g_iload_n hC dX3_withSet_22 rfl (q := 1) rfl ?_
      refine g_ic_ne hC dX3_withSet_23 (tgt := 28) (by decide) (fun c23 => ?_) (fun c23 => ?_)
      · replace h := (if_neg c23).symm.trans h
        refine g_iinc hC dX3_withSet_28 rfl (q := 3) rfl (w := (v3 + (1 : Int32))) rfl (by decide) (lv' := [(3, .int (v3 + (1 : Int32))), (0, .ref (mB E + 69)), (1, .int v1), (2, .int v2)]) rfl ?_
        refine g_goto hC dX3_withSet_31 (tgt := 2) (by decide) ?_
        refine g_lv [1, 2, 3, 0] rfl ?_
        exact hk2_ v1 v2 (v3 + (1 : Int32)) I h
      · replace h := (if_pos c23).symm.trans h
        refine g_iload_n hC dX3_withSet_26 rfl (q := 2) rfl ?_
        cases h
        exact g_iret hC hE rfl dX3_withSet_27 (Nat.zero_le _) (Nat.zero_le _) ⟨rfl, rfl, rfl, rfl, rfl, rfl⟩
noncomputable def w_X3_withSet_2 (Fu : Nat)  (N : Nat) (v1 : Int32) (v2 : Int32) (v3 : Int32) (I : mIT) : Option (Int32 × mIT) :=
  loopF (fun self (s : Int32 × Int32 × Int32 × mIT) => b_X3_withSet_2 Fu self s.1 s.2.1 s.2.2.1 s.2.2.2) N (v1, v2, v3, I)
theorem wo_X3_withSet_2 {X : mXT} {E : mEn} {Fu : Nat} {R : mRT} {L : mLT}  (hC : mC X E mX3_withSet RX3 cX3_withSet) (hW : mWd R)   {out : Int32 × mIT} (hE : mEd X E 0 0 (mSame (some (.int (out.1))) 106 1 (out.2) R L))  (N : Nat) (v1 : Int32) (v2 : Int32) (v3 : Int32) (I : mIT) (h : w_X3_withSet_2 Fu  N v1 v2 v3 I = some out) : mG X E 2 [(0, .ref (mB E + 69)), (1, .int v1), (2, .int v2), (3, .int v3)] [] 106 1 I R L 0 0 :=
  loopF_ok (Gd := fun s : Int32 × Int32 × Int32 × mIT => mG X E 2 [(0, .ref (mB E + 69)), (1, .int s.1), (2, .int s.2.1), (3, .int s.2.2.1)] [] 106 1 s.2.2.2 R L 0 0) (fun self hs s h => bo_X3_withSet_2 hC hW hE self (fun v1 v2 v3 I h => hs (v1, v2, v3, I) h) s.1 s.2.1 s.2.2.1 s.2.2.2 h) N (v1, v2, v3, I) h
noncomputable def f_X3_withSet (Fu : Nat) (I : mIT) (v1 : Int32) (v2 : Int32) : Option (Int32 × mIT) :=
  w_X3_withSet_2 Fu Fu v1 v2 (0 : Int32) I
set_option maxRecDepth 20000 in
theorem ok_X3_withSet {l : Launch} {E : mEn} {Fu : Nat} {I : mIT} {R : mRT} {L : mLT} {v1 : Int32} {v2 : Int32} (hst : l.stackTraces = false) (hW : mWd R)  {out : Int32 × mIT} (h : f_X3_withSet Fu I v1 v2 = some out) : mOk l E mX3_withSet [.ref (mB E + 69), .int v1, .int v2] 106 1 I R L 0 0 (mSame (some (.int (out.1))) 106 1 (out.2) R L) := by
  refine mOk_of hst (by decide) (Nat.le_of_ble_eq_true rfl) (fun X hC hE _ => ?_)
  have hC : mC X E mX3_withSet RX3 cX3_withSet := hC
  show mG X E 0 [(0, .ref (mB E + 69)), (1, .int v1), (2, .int v2)] [] 106 1 I R L 0 0
  unfold f_X3_withSet at h
  refine g_iconst hC dX3_withSet_0 (v := (0 : Int32)) (by decide) ?_
  refine g_istore_n hC dX3_withSet_1 rfl rfl (by decide) (lv' := [(3, .int (0 : Int32)), (0, .ref (mB E + 69)), (1, .int v1), (2, .int v2)]) rfl ?_
  refine g_lv [1, 2, 3, 0] rfl ?_
  exact wo_X3_withSet_2 hC hW hE Fu (v1) (v2) ((0 : Int32)) (I) h
noncomputable def b_X3_unlikeSets_73 (Fu : Nat) (k29_ : Int32 × Int32 × Int32 × Int32 × Int32 × Int32 × mIT → Option (Int32 × mIT)) (v2 : Int32) (v3 : Int32) (v4 : Int32) (v5 : Int32) (v6 : Int32) (v7 : Int32) (I : mIT) : Option (Int32 × mIT) :=
  if v5 = 0 then (oG (inB v7 10) (if ((I 70 (v7).toNatClampNeg) &&& (v4 ^^^ (-1 : Int32))) = 0 then (k29_ (v2, v3, v4, (0 : Int32), v6, (v7 + (1 : Int32)), I)) else (k29_ (v2, v3, v4, (1 : Int32), v6, (v7 + (1 : Int32)), I)))) else (k29_ (v2, v3, v4, (1 : Int32), v6, (v7 + (1 : Int32)), I))
set_option maxRecDepth 20000 in
theorem bo_X3_unlikeSets_73 {X : mXT} {E : mEn} {Fu : Nat} {R : mRT} {L : mLT}  (hC : mC X E mX3_unlikeSets RX3 cX3_unlikeSets) (hW : mWd R)   {out : Int32 × mIT} (hE : mEd X E 0 0 (mSame (some (.int (out.1))) 106 1 (out.2) R L)) (k29_ : Int32 × Int32 × Int32 × Int32 × Int32 × Int32 × mIT → Option (Int32 × mIT)) (hk29_ : ∀ (v2 : Int32) (v3 : Int32) (v4 : Int32) (v5 : Int32) (v6 : Int32) (v7 : Int32) (I : mIT),  k29_ (v2, v3, v4, v5, v6, v7, I) = some out → mG X E 29 [(0, .ref (mB E + 69)), (1, .ref (mB E + 56)), (2, .int v2), (3, .int v3), (4, .int v4), (5, .int v5), (6, .int v6), (7, .int v7)] [] 106 1 I R L 0 0) (v2 : Int32) (v3 : Int32) (v4 : Int32) (v5 : Int32) (v6 : Int32) (v7 : Int32) (I : mIT) (h : b_X3_unlikeSets_73 Fu k29_ v2 v3 v4 v5 v6 v7 I = some out) : mG X E 73 [(0, .ref (mB E + 69)), (1, .ref (mB E + 56)), (2, .int v2), (3, .int v3), (4, .int v4), (5, .int v5), (6, .int v6), (7, .int v7)] [] 106 1 I R L 0 0 := by
  unfold b_X3_unlikeSets_73 at h
  refine g_iload hC dX3_unlikeSets_73 (q := 5) rfl ?_
  refine g_if_ne hC dX3_unlikeSets_75 (tgt := 93) (by decide) (fun c75 => ?_) (fun c75 => ?_)
  · replace h := (if_neg c75).symm.trans h
    refine g_iconst hC dX3_unlikeSets_93 (v := (1 : Int32)) (by decide) ?_
    refine g_goto hC dX3_unlikeSets_94 (tgt := 98) (by decide) ?_
    refine g_istore hC dX3_unlikeSets_98 rfl (by decide) (lv' := [(5, .int (1 : Int32)), (0, .ref (mB E + 69)), (1, .ref (mB E + 56)), (2, .int v2), (3, .int v3), (4, .int v4), (6, .int v6), (7, .int v7)]) rfl ?_
    refine g_iinc hC dX3_unlikeSets_100 rfl (q := 7) rfl (w := (v7 + (1 : Int32))) rfl (by decide) (lv' := [(7, .int (v7 + (1 : Int32))), (5, .int (1 : Int32)), (0, .ref (mB E + 69)), (1, .ref (mB E + 56)), (2, .int v2), (3, .int v3), (4, .int v4), (6, .int v6)]) rfl ?_
    refine g_goto hC dX3_unlikeSets_103 (tgt := 29) (by decide) ?_
    refine g_lv [2, 3, 4, 5, 6, 1, 7, 0] rfl ?_
    exact hk29_ v2 v3 v4 (1 : Int32) v6 (v7 + (1 : Int32)) I h
  · replace h := (if_pos c75).symm.trans h
    refine g_aload_n hC dX3_unlikeSets_78 rfl (q := 0) rfl ?_
    refine g_getr hC fd_RX3_9 rfl (by decide) (C0 := "") (t0 := _) (Or.inr rfl) (rr_69_0 hW.1) dX3_unlikeSets_79 ?_
    refine g_iload hC dX3_unlikeSets_82 (q := 7) rfl ?_
    obtain ⟨g84, h⟩ := oG_some h
    refine g_iald hC rfl (by decide) (inB_in g84) dX3_unlikeSets_84 ?_
    refine g_iload hC dX3_unlikeSets_85 (q := 4) rfl ?_
    refine g_iconst hC dX3_unlikeSets_87 (v := (-1 : Int32)) (by decide) ?_
    refine g_ixor hC dX3_unlikeSets_88 ?_
    refine g_iand hC dX3_unlikeSets_89 ?_
    refine g_if_eq hC dX3_unlikeSets_90 (tgt := 97) (by decide) (fun c90 => ?_) (fun c90 => ?_)
    · replace h := (if_pos c90).symm.trans h
      refine g_iconst hC dX3_unlikeSets_97 (v := (0 : Int32)) (by decide) ?_
      refine g_istore hC dX3_unlikeSets_98 rfl (by decide) (lv' := [(5, .int (0 : Int32)), (0, .ref (mB E + 69)), (1, .ref (mB E + 56)), (2, .int v2), (3, .int v3), (4, .int v4), (6, .int v6), (7, .int v7)]) rfl ?_
      refine g_iinc hC dX3_unlikeSets_100 rfl (q := 7) rfl (w := (v7 + (1 : Int32))) rfl (by decide) (lv' := [(7, .int (v7 + (1 : Int32))), (5, .int (0 : Int32)), (0, .ref (mB E + 69)), (1, .ref (mB E + 56)), (2, .int v2), (3, .int v3), (4, .int v4), (6, .int v6)]) rfl ?_
      refine g_goto hC dX3_unlikeSets_103 (tgt := 29) (by decide) ?_
      refine g_lv [2, 3, 4, 5, 6, 1, 7, 0] rfl ?_
      exact hk29_ v2 v3 v4 (0 : Int32) v6 (v7 + (1 : Int32)) I h
    · replace h := (if_neg c90).symm.trans h
      refine g_iconst hC dX3_unlikeSets_93 (v := (1 : Int32)) (by decide) ?_
      refine g_goto hC dX3_unlikeSets_94 (tgt := 98) (by decide) ?_
      refine g_istore hC dX3_unlikeSets_98 rfl (by decide) (lv' := [(5, .int (1 : Int32)), (0, .ref (mB E + 69)), (1, .ref (mB E + 56)), (2, .int v2), (3, .int v3), (4, .int v4), (6, .int v6), (7, .int v7)]) rfl ?_
      refine g_iinc hC dX3_unlikeSets_100 rfl (q := 7) rfl (w := (v7 + (1 : Int32))) rfl (by decide) (lv' := [(7, .int (v7 + (1 : Int32))), (5, .int (1 : Int32)), (0, .ref (mB E + 69)), (1, .ref (mB E + 56)), (2, .int v2), (3, .int v3), (4, .int v4), (6, .int v6)]) rfl ?_
      refine g_goto hC dX3_unlikeSets_103 (tgt := 29) (by decide) ?_
      refine g_lv [2, 3, 4, 5, 6, 1, 7, 0] rfl ?_
      exact hk29_ v2 v3 v4 (1 : Int32) v6 (v7 + (1 : Int32)) I h
noncomputable def b_X3_unlikeSets_29 (Fu : Nat) (k29_ : Int32 × Int32 × Int32 × Int32 × Int32 × Int32 × mIT → Option (Int32 × mIT)) (v2 : Int32) (v3 : Int32) (v4 : Int32) (v5 : Int32) (v6 : Int32) (v7 : Int32) (I : mIT) : Option (Int32 × mIT) :=
  if (nI 10) ≤ v7 then (if v5 = 0 then (some (v6, I)) else (oB (f_X1_noteBits Fu I v2 v3) (fun r115 => oB (f_X3_withSet Fu I r115 v6) (fun r120 => some (r120.1, r120.2))))) else (oG (inB v7 10) (if ((I 70 (v7).toNatClampNeg) &&& v4) = 0 then (b_X3_unlikeSets_73 Fu k29_ v2 v3 v4 v5 v6 v7 I) else (oB (f_X1_noteBits Fu I v2 (v3 &&& (((1 : Int32) <<< (v7 &&& 31)) ^^^ (-1 : Int32)))) (fun r63 => oB (f_X3_withSet Fu I r63 v6) (fun r68 => b_X3_unlikeSets_73 Fu k29_ v2 v3 v4 v5 r68.1 v7 r68.2)))))
set_option maxRecDepth 20000 in
theorem bo_X3_unlikeSets_29 {X : mXT} {E : mEn} {Fu : Nat} {R : mRT} {L : mLT}  (hC : mC X E mX3_unlikeSets RX3 cX3_unlikeSets) (hW : mWd R)   {out : Int32 × mIT} (hE : mEd X E 0 0 (mSame (some (.int (out.1))) 106 1 (out.2) R L)) (k29_ : Int32 × Int32 × Int32 × Int32 × Int32 × Int32 × mIT → Option (Int32 × mIT)) (hk29_ : ∀ (v2 : Int32) (v3 : Int32) (v4 : Int32) (v5 : Int32) (v6 : Int32) (v7 : Int32) (I : mIT),  k29_ (v2, v3, v4, v5, v6, v7, I) = some out → mG X E 29 [(0, .ref (mB E + 69)), (1, .ref (mB E + 56)), (2, .int v2), (3, .int v3), (4, .int v4), (5, .int v5), (6, .int v6), (7, .int v7)] [] 106 1 I R L 0 0) (v2 : Int32) (v3 : Int32) (v4 : Int32) (v5 : Int32) (v6 : Int32) (v7 : Int32) (I : mIT) (h : b_X3_unlikeSets_29 Fu k29_ v2 v3 v4 v5 v6 v7 I = some out) : mG X E 29 [(0, .ref (mB E + 69)), (1, .ref (mB E + 56)), (2, .int v2), (3, .int v3), (4, .int v4), (5, .int v5), (6, .int v6), (7, .int v7)] [] 106 1 I R L 0 0 := by
  unfold b_X3_unlikeSets_29 at h
  refine g_iload hC dX3_unlikeSets_29 (q := 7) rfl ?_
  refine g_aload_n hC dX3_unlikeSets_31 rfl (q := 0) rfl ?_
  refine g_getr hC fd_RX3_9 rfl (by decide) (C0 := "") (t0 := _) (Or.inr rfl) (rr_69_0 hW.1) dX3_unlikeSets_32 ?_
  refine g_alenI hC rfl (by decide) dX3_unlikeSets_35 ?_
  refine g_ic_ge hC dX3_unlikeSets_36 (tgt := 106) (by decide) (fun c36 => ?_) (fun c36 => ?_)
  · replace h := (if_pos c36).symm.trans h
    refine g_iload hC dX3_unlikeSets_106 (q := 5) rfl ?_
    refine g_if_eq hC dX3_unlikeSets_108 (tgt := 126) (by decide) (fun c108 => ?_) (fun c108 => ?_)
    · replace h := (if_pos c108).symm.trans h
      refine g_iload hC dX3_unlikeSets_126 (q := 6) rfl ?_
      cases h
      exact g_iret hC hE rfl dX3_unlikeSets_128 (Nat.zero_le _) (Nat.zero_le _) ⟨rfl, rfl, rfl, rfl, rfl, rfl⟩
    · replace h := (if_neg c108).symm.trans h
      refine g_aload_n hC dX3_unlikeSets_111 rfl (q := 0) rfl ?_
      refine g_aload_n hC dX3_unlikeSets_112 rfl (q := 1) rfl ?_
      refine g_iload_n hC dX3_unlikeSets_113 rfl (q := 2) rfl ?_
      refine g_iload_n hC dX3_unlikeSets_114 rfl (q := 3) rfl ?_
      obtain ⟨r115, h115, h⟩ := oB_some h
      refine g_cV1 hC cv_X1_noteBits wd_1420 ⟨Nat.le_of_ble_eq_true rfl, Nat.le_of_ble_eq_true rfl⟩ rfl (by decide) dX3_unlikeSets_115 (As := [.int v2, .int v3]) (st := [.ref (mB E + 69)]) (ok_X1_noteBits hC.2.2.2.2.2.2.2.1 hW h115) rfl rfl (Nat.le_of_ble_eq_true rfl) ⟨Nat.zero_le _, Nat.zero_le _⟩ ?_
      refine g_iload hC dX3_unlikeSets_118 (q := 6) rfl ?_
      obtain ⟨r120, h120, h⟩ := oB_some h
      refine g_cV1 hC cv_X3_withSet wd_1459 ⟨Nat.le_of_ble_eq_true rfl, Nat.le_of_ble_eq_true rfl⟩ rfl (by decide) dX3_unlikeSets_120 (As := [.int r115, .int v6]) (st := []) (ok_X3_withSet hC.2.2.2.2.2.2.2.1 hW h120) rfl rfl (Nat.le_of_ble_eq_true rfl) ⟨Nat.zero_le _, Nat.zero_le _⟩ ?_
      refine g_goto hC dX3_unlikeSets_123 (tgt := 128) (by decide) ?_
      cases h
      exact g_iret hC hE rfl dX3_unlikeSets_128 (Nat.zero_le _) (Nat.zero_le _) ⟨rfl, rfl, rfl, rfl, rfl, rfl⟩
  · replace h := (if_neg c36).symm.trans h
    refine g_aload_n hC dX3_unlikeSets_39 rfl (q := 0) rfl ?_
    refine g_getr hC fd_RX3_9 rfl (by decide) (C0 := "") (t0 := _) (Or.inr rfl) (rr_69_0 hW.1) dX3_unlikeSets_40 ?_
    refine g_iload hC dX3_unlikeSets_43 (q := 7) rfl ?_
    obtain ⟨g45, h⟩ := oG_some h
    refine g_iald hC rfl (by decide) (inB_in g45) dX3_unlikeSets_45 ?_
    refine g_iload hC dX3_unlikeSets_46 (q := 4) rfl ?_
    refine g_iand hC dX3_unlikeSets_48 ?_
    refine g_if_eq hC dX3_unlikeSets_49 (tgt := 73) (by decide) (fun c49 => ?_) (fun c49 => ?_)
    · replace h := (if_pos c49).symm.trans h
      exact bo_X3_unlikeSets_73 hC hW hE k29_ hk29_ (v2) (v3) (v4) (v5) (v6) (v7) (I) h
    · replace h := (if_neg c49).symm.trans h
      refine g_aload_n hC dX3_unlikeSets_52 rfl (q := 0) rfl ?_
      refine g_aload_n hC dX3_unlikeSets_53 rfl (q := 1) rfl ?_
      refine g_iload_n hC dX3_unlikeSets_54 rfl (q := 2) rfl ?_
      refine g_iload_n hC dX3_unlikeSets_55 rfl (q := 3) rfl ?_
      refine g_iconst hC dX3_unlikeSets_56 (v := (1 : Int32)) (by decide) ?_
      refine g_iload hC dX3_unlikeSets_57 (q := 7) rfl ?_
      refine g_ishl hC dX3_unlikeSets_59 ?_
      refine g_iconst hC dX3_unlikeSets_60 (v := (-1 : Int32)) (by decide) ?_
      refine g_ixor hC dX3_unlikeSets_61 ?_
      refine g_iand hC dX3_unlikeSets_62 ?_
      obtain ⟨r63, h63, h⟩ := oB_some h
      refine g_cV1 hC cv_X1_noteBits wd_1420 ⟨Nat.le_of_ble_eq_true rfl, Nat.le_of_ble_eq_true rfl⟩ rfl (by decide) dX3_unlikeSets_63 (As := [.int v2, .int (v3 &&& (((1 : Int32) <<< (v7 &&& 31)) ^^^ (-1 : Int32)))]) (st := [.ref (mB E + 69)]) (ok_X1_noteBits hC.2.2.2.2.2.2.2.1 hW h63) rfl rfl (Nat.le_of_ble_eq_true rfl) ⟨Nat.zero_le _, Nat.zero_le _⟩ ?_
      refine g_iload hC dX3_unlikeSets_66 (q := 6) rfl ?_
      obtain ⟨r68, h68, h⟩ := oB_some h
      refine g_cV1 hC cv_X3_withSet wd_1459 ⟨Nat.le_of_ble_eq_true rfl, Nat.le_of_ble_eq_true rfl⟩ rfl (by decide) dX3_unlikeSets_68 (As := [.int r63, .int v6]) (st := []) (ok_X3_withSet hC.2.2.2.2.2.2.2.1 hW h68) rfl rfl (Nat.le_of_ble_eq_true rfl) ⟨Nat.zero_le _, Nat.zero_le _⟩ ?_
      refine g_istore hC dX3_unlikeSets_71 rfl (by decide) (lv' := [(6, .int r68.1), (0, .ref (mB E + 69)), (1, .ref (mB E + 56)), (2, .int v2), (3, .int v3), (4, .int v4), (5, .int v5), (7, .int v7)]) rfl ?_
      refine g_lv [1, 2, 3, 4, 5, 6, 0, 7] rfl ?_
      exact bo_X3_unlikeSets_73 hC hW hE k29_ hk29_ (v2) (v3) (v4) (v5) (r68.1) (v7) (r68.2) h
noncomputable def w_X3_unlikeSets_29 (Fu : Nat)  (N : Nat) (v2 : Int32) (v3 : Int32) (v4 : Int32) (v5 : Int32) (v6 : Int32) (v7 : Int32) (I : mIT) : Option (Int32 × mIT) :=
  loopF (fun self (s : Int32 × Int32 × Int32 × Int32 × Int32 × Int32 × mIT) => b_X3_unlikeSets_29 Fu self s.1 s.2.1 s.2.2.1 s.2.2.2.1 s.2.2.2.2.1 s.2.2.2.2.2.1 s.2.2.2.2.2.2) N (v2, v3, v4, v5, v6, v7, I)
theorem wo_X3_unlikeSets_29 {X : mXT} {E : mEn} {Fu : Nat} {R : mRT} {L : mLT}  (hC : mC X E mX3_unlikeSets RX3 cX3_unlikeSets) (hW : mWd R)   {out : Int32 × mIT} (hE : mEd X E 0 0 (mSame (some (.int (out.1))) 106 1 (out.2) R L))  (N : Nat) (v2 : Int32) (v3 : Int32) (v4 : Int32) (v5 : Int32) (v6 : Int32) (v7 : Int32) (I : mIT) (h : w_X3_unlikeSets_29 Fu  N v2 v3 v4 v5 v6 v7 I = some out) : mG X E 29 [(0, .ref (mB E + 69)), (1, .ref (mB E + 56)), (2, .int v2), (3, .int v3), (4, .int v4), (5, .int v5), (6, .int v6), (7, .int v7)] [] 106 1 I R L 0 0 :=
  loopF_ok (Gd := fun s : Int32 × Int32 × Int32 × Int32 × Int32 × Int32 × mIT => mG X E 29 [(0, .ref (mB E + 69)), (1, .ref (mB E + 56)), (2, .int s.1), (3, .int s.2.1), (4, .int s.2.2.1), (5, .int s.2.2.2.1), (6, .int s.2.2.2.2.1), (7, .int s.2.2.2.2.2.1)] [] 106 1 s.2.2.2.2.2.2 R L 0 0) (fun self hs s h => bo_X3_unlikeSets_29 hC hW hE self (fun v2 v3 v4 v5 v6 v7 I h => hs (v2, v3, v4, v5, v6, v7, I) h) s.1 s.2.1 s.2.2.1 s.2.2.2.1 s.2.2.2.2.1 s.2.2.2.2.2.1 s.2.2.2.2.2.2 h) N (v2, v3, v4, v5, v6, v7, I) h
noncomputable def f_X3_unlikeSets (Fu : Nat) (I : mIT) (v2 : Int32) : Option (Int32 × mIT) :=
  oB (f_X1_soundingOn Fu I v2) (fun r2 => w_X3_unlikeSets_29 Fu Fu v2 r2 (((1 : Int32) <<< ((if (10 : Int32) < (v2 + (1 : Int32)) then (10 : Int32) else (v2 + (1 : Int32))) &&& 31)) - (1 : Int32)) (0 : Int32) (0 : Int32) (0 : Int32) I)
set_option maxRecDepth 20000 in
theorem ok_X3_unlikeSets {l : Launch} {E : mEn} {Fu : Nat} {I : mIT} {R : mRT} {L : mLT} {v2 : Int32} (hst : l.stackTraces = false) (hW : mWd R)  {out : Int32 × mIT} (h : f_X3_unlikeSets Fu I v2 = some out) : mOk l E mX3_unlikeSets [.ref (mB E + 69), .ref (mB E + 56), .int v2] 106 1 I R L 0 0 (mSame (some (.int (out.1))) 106 1 (out.2) R L) := by
  refine mOk_of hst (by decide) (Nat.le_of_ble_eq_true rfl) (fun X hC hE _ => ?_)
  have hC : mC X E mX3_unlikeSets RX3 cX3_unlikeSets := hC
  show mG X E 0 [(0, .ref (mB E + 69)), (1, .ref (mB E + 56)), (2, .int v2)] [] 106 1 I R L 0 0
  unfold f_X3_unlikeSets at h
  refine g_aload_n hC dX3_unlikeSets_0 rfl (q := 1) rfl ?_
  refine g_iload_n hC dX3_unlikeSets_1 rfl (q := 2) rfl ?_
  obtain ⟨r2, h2, h⟩ := oB_some h
  refine g_cV1 hC cv_X1_soundingOn wd_1419 ⟨Nat.le_of_ble_eq_true rfl, Nat.le_of_ble_eq_true rfl⟩ rfl (by decide) dX3_unlikeSets_2 (As := [.int v2]) (st := []) (ok_X1_soundingOn hC.2.2.2.2.2.2.2.1 hW h2) rfl rfl (Nat.le_of_ble_eq_true rfl) ⟨Nat.zero_le _, Nat.zero_le _⟩ ?_
  refine g_istore_n hC dX3_unlikeSets_5 rfl rfl (by decide) (lv' := [(3, .int r2), (0, .ref (mB E + 69)), (1, .ref (mB E + 56)), (2, .int v2)]) rfl ?_
  refine g_iconst hC dX3_unlikeSets_6 (v := (1 : Int32)) (by decide) ?_
  refine g_iload_n hC dX3_unlikeSets_7 rfl (q := 3) rfl ?_
  refine g_iconst hC dX3_unlikeSets_8 (v := (1 : Int32)) (by decide) ?_
  refine g_iadd hC dX3_unlikeSets_9 ?_
  refine g_bipush hC dX3_unlikeSets_10 (v := (10 : Int32)) (by decide) ?_
  refine g_mmin hC wd_1458 wd_st_min wd_in_math wd_cd_min (Nat.le_of_ble_eq_true rfl) (Nat.le_of_ble_eq_true rfl) ⟨Nat.zero_le _, Nat.zero_le _⟩ dX3_unlikeSets_12 ?_
  refine g_ishl hC dX3_unlikeSets_15 ?_
  refine g_iconst hC dX3_unlikeSets_16 (v := (1 : Int32)) (by decide) ?_
  refine g_isub hC dX3_unlikeSets_17 ?_
  refine g_istore hC dX3_unlikeSets_18 rfl (by decide) (lv' := [(4, .int (((1 : Int32) <<< ((if (10 : Int32) < (v2 + (1 : Int32)) then (10 : Int32) else (v2 + (1 : Int32))) &&& 31)) - (1 : Int32))), (3, .int r2), (0, .ref (mB E + 69)), (1, .ref (mB E + 56)), (2, .int v2)]) rfl ?_
  refine g_iconst hC dX3_unlikeSets_20 (v := (0 : Int32)) (by decide) ?_
  refine g_istore hC dX3_unlikeSets_21 rfl (by decide) (lv' := [(5, .int (0 : Int32)), (4, .int (((1 : Int32) <<< ((if (10 : Int32) < (v2 + (1 : Int32)) then (10 : Int32) else (v2 + (1 : Int32))) &&& 31)) - (1 : Int32))), (3, .int r2), (0, .ref (mB E + 69)), (1, .ref (mB E + 56)), (2, .int v2)]) rfl ?_
  refine g_iconst hC dX3_unlikeSets_23 (v := (0 : Int32)) (by decide) ?_
  refine g_istore hC dX3_unlikeSets_24 rfl (by decide) (lv' := [(6, .int (0 : Int32)), (5, .int (0 : Int32)), (4, .int (((1 : Int32) <<< ((if (10 : Int32) < (v2 + (1 : Int32)) then (10 : Int32) else (v2 + (1 : Int32))) &&& 31)) - (1 : Int32))), (3, .int r2), (0, .ref (mB E + 69)), (1, .ref (mB E + 56)), (2, .int v2)]) rfl ?_
  refine g_iconst hC dX3_unlikeSets_26 (v := (0 : Int32)) (by decide) ?_
  refine g_istore hC dX3_unlikeSets_27 rfl (by decide) (lv' := [(7, .int (0 : Int32)), (6, .int (0 : Int32)), (5, .int (0 : Int32)), (4, .int (((1 : Int32) <<< ((if (10 : Int32) < (v2 + (1 : Int32)) then (10 : Int32) else (v2 + (1 : Int32))) &&& 31)) - (1 : Int32))), (3, .int r2), (0, .ref (mB E + 69)), (1, .ref (mB E + 56)), (2, .int v2)]) rfl ?_
  refine g_lv [5, 6, 7, 4, 3, 2, 1, 0] rfl ?_
  exact wo_X3_unlikeSets_29 hC hW hE Fu (v2) (r2) ((((1 : Int32) <<< ((if (10 : Int32) < (v2 + (1 : Int32)) then (10 : Int32) else (v2 + (1 : Int32))) &&& 31)) - (1 : Int32))) ((0 : Int32)) ((0 : Int32)) ((0 : Int32)) (I) h
noncomputable def b_X3_findDay_12 (Fu : Nat) (k12_ : Int32 × mIT → Option (mIT)) (v2 : Int32) (I : mIT) : Option (mIT) :=
  if (30 : Int32) < v2 then (some (I)) else (oB (f_X3_unlikeSets Fu I v2) (fun r21 => if r21.1 ≤ (r21.2 69 5) then (k12_ ((v2 + (1 : Int32)), r21.2)) else (k12_ ((v2 + (1 : Int32)), (mU (mU r21.2 69 5 r21.1) 69 4 v2)))))
set_option maxRecDepth 20000 in
theorem bo_X3_findDay_12 {X : mXT} {E : mEn} {Fu : Nat} {R : mRT} {L : mLT}  (hC : mC X E mX3_findDay RX3 cX3_findDay) (hW : mWd R)   {out : mIT} (hE : mEd X E 0 0 (mSame none 106 1 (out) R L)) (k12_ : Int32 × mIT → Option (mIT)) (hk12_ : ∀ (v2 : Int32) (I : mIT),  k12_ (v2, I) = some out → mG X E 12 [(0, .ref (mB E + 69)), (1, .ref (mB E + 56)), (2, .int v2)] [] 106 1 I R L 0 0) (v2 : Int32) (I : mIT) (h : b_X3_findDay_12 Fu k12_ v2 I = some out) : mG X E 12 [(0, .ref (mB E + 69)), (1, .ref (mB E + 56)), (2, .int v2)] [] 106 1 I R L 0 0 := by
  unfold b_X3_findDay_12 at h
  refine g_iload_n hC dX3_findDay_12 rfl (q := 2) rfl ?_
  refine g_bipush hC dX3_findDay_13 (v := (30 : Int32)) (by decide) ?_
  refine g_ic_gt hC dX3_findDay_15 (tgt := 49) (by decide) (fun c15 => ?_) (fun c15 => ?_)
  · replace h := (if_pos c15).symm.trans h
    cases h
    exact g_vret hC hE rfl dX3_findDay_49 (Nat.zero_le _) (Nat.zero_le _) ⟨rfl, rfl, rfl, rfl, rfl, rfl⟩
  · replace h := (if_neg c15).symm.trans h
    refine g_aload_n hC dX3_findDay_18 rfl (q := 0) rfl ?_
    refine g_aload_n hC dX3_findDay_19 rfl (q := 1) rfl ?_
    refine g_iload_n hC dX3_findDay_20 rfl (q := 2) rfl ?_
    obtain ⟨r21, h21, h⟩ := oB_some h
    refine g_cV1 hC cv_X3_unlikeSets wd_1454 ⟨Nat.le_of_ble_eq_true rfl, Nat.le_of_ble_eq_true rfl⟩ rfl (by decide) dX3_findDay_21 (As := [.ref (mB E + 56), .int v2]) (st := []) (ok_X3_unlikeSets hC.2.2.2.2.2.2.2.1 hW h21) rfl rfl (Nat.le_of_ble_eq_true rfl) ⟨Nat.zero_le _, Nat.zero_le _⟩ ?_
    refine g_istore_n hC dX3_findDay_24 rfl rfl (by decide) (lv' := [(3, .int r21.1), (0, .ref (mB E + 69)), (1, .ref (mB E + 56)), (2, .int v2)]) rfl ?_
    refine g_iload_n hC dX3_findDay_25 rfl (q := 0) rfl ?_
    refine g_aload_n hC dX3_findDay_26 rfl (q := 1) rfl ?_
    refine g_geti hC fd_RX3_28 rfl (by decide) (Or.inl rfl) dX3_findDay_27 ?_
    refine g_ic_le hC dX3_findDay_30 (tgt := 43) (by decide) (fun c30 => ?_) (fun c30 => ?_)
    · replace h := (if_pos c30).symm.trans h
      refine g_iinc hC dX3_findDay_43 rfl (q := 3) rfl (w := (v2 + (1 : Int32))) rfl (by decide) (lv' := [(2, .int (v2 + (1 : Int32))), (3, .int r21.1), (0, .ref (mB E + 69)), (1, .ref (mB E + 56))]) rfl ?_
      refine g_goto hC dX3_findDay_46 (tgt := 12) (by decide) ?_
      refine g_lv [2, 3, 0] rfl ?_
      exact hk12_ (v2 + (1 : Int32)) r21.2 h
    · replace h := (if_neg c30).symm.trans h
      refine g_aload_n hC dX3_findDay_33 rfl (q := 1) rfl ?_
      refine g_iload_n hC dX3_findDay_34 rfl (q := 0) rfl ?_
      refine g_puti hC fd_RX3_28 rfl (by decide) rfl dX3_findDay_35 (nm_e ?_)
      refine g_aload_n hC dX3_findDay_38 rfl (q := 1) rfl ?_
      refine g_iload_n hC dX3_findDay_39 rfl (q := 3) rfl ?_
      refine g_puti hC fd_RX3_25 rfl (by decide) rfl dX3_findDay_40 (nm_e ?_)
      refine g_iinc hC dX3_findDay_43 rfl (q := 3) rfl (w := (v2 + (1 : Int32))) rfl (by decide) (lv' := [(2, .int (v2 + (1 : Int32))), (3, .int r21.1), (0, .ref (mB E + 69)), (1, .ref (mB E + 56))]) rfl ?_
      refine g_goto hC dX3_findDay_46 (tgt := 12) (by decide) ?_
      refine g_lv [2, 3, 0] rfl ?_
      exact hk12_ (v2 + (1 : Int32)) (mU (mU r21.2 69 5 r21.1) 69 4 v2) h
noncomputable def w_X3_findDay_12 (Fu : Nat)  (N : Nat) (v2 : Int32) (I : mIT) : Option (mIT) :=
  loopF (fun self (s : Int32 × mIT) => b_X3_findDay_12 Fu self s.1 s.2) N (v2, I)
theorem wo_X3_findDay_12 {X : mXT} {E : mEn} {Fu : Nat} {R : mRT} {L : mLT}  (hC : mC X E mX3_findDay RX3 cX3_findDay) (hW : mWd R)   {out : mIT} (hE : mEd X E 0 0 (mSame none 106 1 (out) R L))  (N : Nat) (v2 : Int32) (I : mIT) (h : w_X3_findDay_12 Fu  N v2 I = some out) : mG X E 12 [(0, .ref (mB E + 69)), (1, .ref (mB E + 56)), (2, .int v2)] [] 106 1 I R L 0 0 :=
  loopF_ok (Gd := fun s : Int32 × mIT => mG X E 12 [(0, .ref (mB E + 69)), (1, .ref (mB E + 56)), (2, .int s.1)] [] 106 1 s.2 R L 0 0) (fun self hs s h => bo_X3_findDay_12 hC hW hE self (fun v2 I h => hs (v2, I) h) s.1 s.2 h) N (v2, I) h
noncomputable def f_X3_findDay (Fu : Nat) (I : mIT)  : Option (mIT) :=
  w_X3_findDay_12 Fu Fu (0 : Int32) (mU (mU I 69 4 (-1 : Int32)) 69 5 (0 : Int32))
set_option maxRecDepth 20000 in
theorem ok_X3_findDay {l : Launch} {E : mEn} {Fu : Nat} {I : mIT} {R : mRT} {L : mLT}  (hst : l.stackTraces = false) (hW : mWd R)  {out : mIT} (h : f_X3_findDay Fu I  = some out) : mOk l E mX3_findDay [.ref (mB E + 69), .ref (mB E + 56)] 106 1 I R L 0 0 (mSame none 106 1 (out) R L) := by
  refine mOk_of hst (by decide) (Nat.le_of_ble_eq_true rfl) (fun X hC hE _ => ?_)
  have hC : mC X E mX3_findDay RX3 cX3_findDay := hC
  show mG X E 0 [(0, .ref (mB E + 69)), (1, .ref (mB E + 56))] [] 106 1 I R L 0 0
  unfold f_X3_findDay at h
  refine g_aload_n hC dX3_findDay_0 rfl (q := 0) rfl ?_
  refine g_iconst hC dX3_findDay_1 (v := (-1 : Int32)) (by decide) ?_
  refine g_puti hC fd_RX3_25 rfl (by decide) rfl dX3_findDay_2 (nm_e ?_)
  refine g_aload_n hC dX3_findDay_5 rfl (q := 0) rfl ?_
  refine g_iconst hC dX3_findDay_6 (v := (0 : Int32)) (by decide) ?_
  refine g_puti hC fd_RX3_28 rfl (by decide) rfl dX3_findDay_7 (nm_e ?_)
  refine g_iconst hC dX3_findDay_10 (v := (0 : Int32)) (by decide) ?_
  refine g_istore_n hC dX3_findDay_11 rfl rfl (by decide) (lv' := [(2, .int (0 : Int32)), (0, .ref (mB E + 69)), (1, .ref (mB E + 56))]) rfl ?_
  refine g_lv [1, 2, 0] rfl ?_
  exact wo_X3_findDay_12 hC hW hE Fu ((0 : Int32)) ((mU (mU I 69 4 (-1 : Int32)) 69 5 (0 : Int32))) h
noncomputable def f_X3_tellingDay (Fu : Nat) (I : mIT)  : Option (Int32) :=
  some (I 69 4)
set_option maxRecDepth 20000 in
theorem ok_X3_tellingDay {l : Launch} {E : mEn} {Fu : Nat} {I : mIT} {R : mRT} {L : mLT}  (hst : l.stackTraces = false) (hW : mWd R)  {out : Int32} (h : f_X3_tellingDay Fu I  = some out) : mOk l E mX3_tellingDay [.ref (mB E + 69)] 106 1 I R L 0 0 (mSame (some (.int (out))) 106 1 I R L) := by
  refine mOk_of hst (by decide) (Nat.le_of_ble_eq_true rfl) (fun X hC hE _ => ?_)
  have hC : mC X E mX3_tellingDay RX3 cX3_tellingDay := hC
  show mG X E 0 [(0, .ref (mB E + 69))] [] 106 1 I R L 0 0
  unfold f_X3_tellingDay at h
  refine g_aload_n hC dX3_tellingDay_0 rfl (q := 0) rfl ?_
  refine g_geti hC fd_RX3_25 rfl (by decide) (Or.inl rfl) dX3_tellingDay_1 ?_
  cases h
  exact g_iret hC hE rfl dX3_tellingDay_4 (Nat.zero_le _) (Nat.zero_le _) ⟨rfl, rfl, rfl, rfl, rfl, rfl⟩
noncomputable def f_X3_tellingSets (Fu : Nat) (I : mIT)  : Option (Int32) :=
  some (I 69 5)
set_option maxRecDepth 20000 in
theorem ok_X3_tellingSets {l : Launch} {E : mEn} {Fu : Nat} {I : mIT} {R : mRT} {L : mLT}  (hst : l.stackTraces = false) (hW : mWd R)  {out : Int32} (h : f_X3_tellingSets Fu I  = some out) : mOk l E mX3_tellingSets [.ref (mB E + 69)] 106 1 I R L 0 0 (mSame (some (.int (out))) 106 1 I R L) := by
  refine mOk_of hst (by decide) (Nat.le_of_ble_eq_true rfl) (fun X hC hE _ => ?_)
  have hC : mC X E mX3_tellingSets RX3 cX3_tellingSets := hC
  show mG X E 0 [(0, .ref (mB E + 69))] [] 106 1 I R L 0 0
  unfold f_X3_tellingSets at h
  refine g_aload_n hC dX3_tellingSets_0 rfl (q := 0) rfl ?_
  refine g_geti hC fd_RX3_28 rfl (by decide) (Or.inl rfl) dX3_tellingSets_1 ?_
  cases h
  exact g_iret hC hE rfl dX3_tellingSets_4 (Nat.zero_le _) (Nat.zero_le _) ⟨rfl, rfl, rfl, rfl, rfl, rfl⟩
