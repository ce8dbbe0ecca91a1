noncomputable def f_X0_clear (Fu : Nat) (I : mIT) (k0 : Nat) : Option (mIT) :=
  some (mU (mU I k0 1 (0 : Int32)) k0 2 (0 : Int32))
set_option maxRecDepth 20000 in
theorem ok_X0_clear {l : Launch} {E : mEn} {Fu : Nat} {I : mIT} {R : mRT} {L : mLT} {k0 : Nat} (hst : l.stackTraces = false) (hk0 : mO0 R k0) {out : mIT} (h : f_X0_clear Fu I k0 = some out) : mOk l E mX0_clear [.ref (mB E + k0)] 106 1 I R L 0 0 (mSame none 106 1 (out) R L) := by
  refine mOk_of hst (by decide) (Nat.le_of_ble_eq_true rfl) (fun X hC hE _ => ?_)
  have hC : mC X E mX0_clear RX0 cX0_clear := hC
  show mG X E 0 [(0, .ref (mB E + k0))] [] 106 1 I R L 0 0
  unfold f_X0_clear at h
  refine g_aload_n hC dX0_clear_0 rfl (q := 0) rfl ?_
  refine g_iconst hC dX0_clear_1 (v := (0 : Int32)) (by decide) ?_
  refine g_puti hC fd_RX0_17 hk0.2.1 hk0.1 rfl dX0_clear_2 (nm_e ?_)
  refine g_aload_n hC dX0_clear_5 rfl (q := 0) rfl ?_
  refine g_iconst hC dX0_clear_6 (v := (0 : Int32)) (by decide) ?_
  refine g_puti hC fd_RX0_21 hk0.2.1 hk0.1 rfl dX0_clear_7 (nm_e ?_)
  cases h
  exact g_vret hC hE rfl dX0_clear_10 (Nat.zero_le _) (Nat.zero_le _) ⟨rfl, rfl, rfl, rfl, rfl, rfl⟩
noncomputable def f_X0_copyFrom (Fu : Nat) (I : mIT) (k0 : Nat) (k1 : Nat) : Option (mIT) :=
  oG (cpB (0 : Int32) (0 : Int32) (2120 : Int32) 2120 2120) (some (mU (mU (mCp I (k1 + 1) (k0 + 1) ((0 : Int32)).toNatClampNeg ((0 : Int32)).toNatClampNeg ((2120 : Int32)).toNatClampNeg) k0 1 ((mCp I (k1 + 1) (k0 + 1) ((0 : Int32)).toNatClampNeg ((0 : Int32)).toNatClampNeg ((2120 : Int32)).toNatClampNeg) k1 1)) k0 2 ((mU (mCp I (k1 + 1) (k0 + 1) ((0 : Int32)).toNatClampNeg ((0 : Int32)).toNatClampNeg ((2120 : Int32)).toNatClampNeg) k0 1 ((mCp I (k1 + 1) (k0 + 1) ((0 : Int32)).toNatClampNeg ((0 : Int32)).toNatClampNeg ((2120 : Int32)).toNatClampNeg) k1 1)) k1 2)))
set_option maxRecDepth 20000 in
theorem ok_X0_copyFrom {l : Launch} {E : mEn} {Fu : Nat} {I : mIT} {R : mRT} {L : mLT} {k0 : Nat} {k1 : Nat} (hst : l.stackTraces = false) (hk0 : mO0 R k0) (hk1 : mO0 R k1) {out : mIT} (h : f_X0_copyFrom Fu I k0 k1 = some out) : mOk l E mX0_copyFrom [.ref (mB E + k0), .ref (mB E + k1)] 106 1 I R L 0 0 (mSame none 106 1 (out) R L) := by
  refine mOk_of hst (by decide) (Nat.le_of_ble_eq_true rfl) (fun X hC hE _ => ?_)
  have hC : mC X E mX0_copyFrom RX0 cX0_copyFrom := hC
  show mG X E 0 [(0, .ref (mB E + k0)), (1, .ref (mB E + k1))] [] 106 1 I R L 0 0
  unfold f_X0_copyFrom at h
  refine g_aload_n hC dX0_copyFrom_0 rfl (q := 1) rfl ?_
  refine g_getr hC fd_RX0_11 hk1.2.1 hk1.1 (C0 := "") (t0 := _) (Or.inr rfl) hk1.2.2.1 dX0_copyFrom_1 ?_
  refine g_iconst hC dX0_copyFrom_4 (v := (0 : Int32)) (by decide) ?_
  refine g_aload_n hC dX0_copyFrom_5 rfl (q := 0) rfl ?_
  refine g_getr hC fd_RX0_11 hk0.2.1 hk0.1 (C0 := "") (t0 := _) (Or.inr rfl) hk0.2.2.1 dX0_copyFrom_6 ?_
  refine g_iconst hC dX0_copyFrom_9 (v := (0 : Int32)) (by decide) ?_
  refine g_sipush hC dX0_copyFrom_10 (v := (2120 : Int32)) (by decide) ?_
  obtain ⟨g13, h⟩ := oG_some h
  refine g_copy hC wd_824 wd_na_copy wd_st_copy wd_in_sys hk1.2.2.2.2 hk0.2.2.2.2 hk1.2.2.2.1 hk0.2.2.2.1 (cpB_ok g13).1 (cpB_ok g13).2.1 (cpB_ok g13).2.2.1 (cpB_ok g13).2.2.2.1 (cpB_ok g13).2.2.2.2 (Nat.le_of_ble_eq_true rfl) (Nat.le_of_ble_eq_true rfl) (by decide) dX0_copyFrom_13 (nm_e ?_)
  refine g_aload_n hC dX0_copyFrom_16 rfl (q := 0) rfl ?_
  refine g_aload_n hC dX0_copyFrom_17 rfl (q := 1) rfl ?_
  refine g_geti hC fd_RX0_17 hk1.2.1 hk1.1 (Or.inl rfl) dX0_copyFrom_18 ?_
  refine g_puti hC fd_RX0_17 hk0.2.1 hk0.1 rfl dX0_copyFrom_21 (nm_e ?_)
  refine g_aload_n hC dX0_copyFrom_24 rfl (q := 0) rfl ?_
  refine g_aload_n hC dX0_copyFrom_25 rfl (q := 1) rfl ?_
  refine g_geti hC fd_RX0_21 hk1.2.1 hk1.1 (Or.inl rfl) dX0_copyFrom_26 ?_
  refine g_puti hC fd_RX0_21 hk0.2.1 hk0.1 rfl dX0_copyFrom_29 (nm_e ?_)
  cases h
  exact g_vret hC hE rfl dX0_copyFrom_32 (Nat.zero_le _) (Nat.zero_le _) ⟨rfl, rfl, rfl, rfl, rfl, rfl⟩
noncomputable def f_X9_saveTo (Fu : Nat) (I : mIT) (k0 : Nat) (k1 : Nat) (v2 : Int32) : Option (mIT) :=
  if v2 < 0 then (some (I)) else (if ((nI (mT k1).2) - (53 : Int32)) < v2 then (some (I)) else (oG (cpB (0 : Int32) v2 (53 : Int32) 53 (mT k1).2) (some (mCp I (k0 + 1) k1 ((0 : Int32)).toNatClampNeg (v2).toNatClampNeg ((53 : Int32)).toNatClampNeg))))
set_option maxRecDepth 20000 in
theorem ok_X9_saveTo {l : Launch} {E : mEn} {Fu : Nat} {I : mIT} {R : mRT} {L : mLT} {k0 : Nat} {k1 : Nat} {v2 : Int32} (hst : l.stackTraces = false) (hk0 : mO9 R k0) (hk1 : (mT k1).1 = 1 ∧ k1 < 106) {out : mIT} (h : f_X9_saveTo Fu I k0 k1 v2 = some out) : mOk l E mX9_saveTo [.ref (mB E + k0), .ref (mB E + k1), .int v2] 106 1 I R L 0 0 (mSame none 106 1 (out) R L) := by
  refine mOk_of hst (by decide) (Nat.le_of_ble_eq_true rfl) (fun X hC hE _ => ?_)
  have hC : mC X E mX9_saveTo RX9 cX9_saveTo := hC
  show mG X E 0 [(0, .ref (mB E + k0)), (1, .ref (mB E + k1)), (2, .int v2)] [] 106 1 I R L 0 0
  unfold f_X9_saveTo at h
  refine g_iload_n hC dX9_saveTo_0 rfl (q := 2) rfl ?_
  refine g_if_lt hC dX9_saveTo_1 (tgt := 25) (by decide) (fun c1 => ?_) (fun c1 => ?_)
  · replace h := (if_pos c1).symm.trans h
    cases h
    exact g_vret hC hE rfl dX9_saveTo_25 (Nat.zero_le _) (Nat.zero_le _) ⟨rfl, rfl, rfl, rfl, rfl, rfl⟩
  · replace h := (if_neg c1).symm.trans h
    refine g_iload_n hC dX9_saveTo_4 rfl (q := 2) rfl ?_
    refine g_aload_n hC dX9_saveTo_5 rfl (q := 1) rfl ?_
    refine g_alenI hC (mAr_T hk1) hk1.2 dX9_saveTo_6 ?_
    refine g_bipush hC dX9_saveTo_7 (v := (53 : Int32)) (by decide) ?_
    refine g_isub hC dX9_saveTo_9 ?_
    refine g_ic_gt hC dX9_saveTo_10 (tgt := 25) (by decide) (fun c10 => ?_) (fun c10 => ?_)
    · replace h := (if_pos c10).symm.trans h
      cases h
      exact g_vret hC hE rfl dX9_saveTo_25 (Nat.zero_le _) (Nat.zero_le _) ⟨rfl, rfl, rfl, rfl, rfl, rfl⟩
    · replace h := (if_neg c10).symm.trans h
      refine g_aload_n hC dX9_saveTo_13 rfl (q := 0) rfl ?_
      refine g_getr hC fd_RX9_11 hk0.2.1 hk0.1 (C0 := "") (t0 := _) (Or.inr rfl) hk0.2.2.1 dX9_saveTo_14 ?_
      refine g_iconst hC dX9_saveTo_17 (v := (0 : Int32)) (by decide) ?_
      refine g_aload_n hC dX9_saveTo_18 rfl (q := 1) rfl ?_
      refine g_iload_n hC dX9_saveTo_19 rfl (q := 2) rfl ?_
      refine g_bipush hC dX9_saveTo_20 (v := (53 : Int32)) (by decide) ?_
      obtain ⟨g22, h⟩ := oG_some h
      refine g_copy hC wd_563 wd_na_copy wd_st_copy wd_in_sys hk0.2.2.2.2 (mAr_T hk1) hk0.2.2.2.1 hk1.2 (cpB_ok g22).1 (cpB_ok g22).2.1 (cpB_ok g22).2.2.1 (cpB_ok g22).2.2.2.1 (cpB_ok g22).2.2.2.2 (Nat.le_of_ble_eq_true rfl) (Nat.le_of_ble_eq_true rfl) (by decide) dX9_saveTo_22 (nm_e ?_)
      cases h
      exact g_vret hC hE rfl dX9_saveTo_25 (Nat.zero_le _) (Nat.zero_le _) ⟨rfl, rfl, rfl, rfl, rfl, rfl⟩
noncomputable def f_X0_keep (Fu : Nat) (I : mIT) (k0 : Nat) (k1 : Nat) : Option (mIT) :=
  oB (f_X9_saveTo Fu I k1 (k0 + 1) ((((I k0 1) + (I k0 2)) - ((I k0 1) + (I k0 2)) / (40 : Int32) * (40 : Int32)) * (53 : Int32))) (fun r20 => if (40 : Int32) ≤ (r20 k0 2) then (some (mU r20 k0 1 (((r20 k0 1) + (1 : Int32)) - ((r20 k0 1) + (1 : Int32)) / (40 : Int32) * (40 : Int32)))) else (some (mU r20 k0 2 ((r20 k0 2) + (1 : Int32)))))
set_option maxRecDepth 20000 in
theorem ok_X0_keep {l : Launch} {E : mEn} {Fu : Nat} {I : mIT} {R : mRT} {L : mLT} {k0 : Nat} {k1 : Nat} (hst : l.stackTraces = false) (hk0 : mO0 R k0) (hk1 : mO9 R k1) {out : mIT} (h : f_X0_keep Fu I k0 k1 = some out) : mOk l E mX0_keep [.ref (mB E + k0), .ref (mB E + k1)] 106 1 I R L 0 0 (mSame none 106 1 (out) R L) := by
  refine mOk_of hst (by decide) (Nat.le_of_ble_eq_true rfl) (fun X hC hE _ => ?_)
  have hC : mC X E mX0_keep RX0 cX0_keep := hC
  show mG X E 0 [(0, .ref (mB E + k0)), (1, .ref (mB E + k1))] [] 106 1 I R L 0 0
  unfold f_X0_keep at h
  refine g_aload_n hC dX0_keep_0 rfl (q := 1) rfl ?_
  refine g_aload_n hC dX0_keep_1 rfl (q := 0) rfl ?_
  refine g_getr hC fd_RX0_11 hk0.2.1 hk0.1 (C0 := "") (t0 := _) (Or.inr rfl) hk0.2.2.1 dX0_keep_2 ?_
  refine g_aload_n hC dX0_keep_5 rfl (q := 0) rfl ?_
  refine g_geti hC fd_RX0_17 hk0.2.1 hk0.1 (Or.inl rfl) dX0_keep_6 ?_
  refine g_aload_n hC dX0_keep_9 rfl (q := 0) rfl ?_
  refine g_geti hC fd_RX0_21 hk0.2.1 hk0.1 (Or.inl rfl) dX0_keep_10 ?_
  refine g_iadd hC dX0_keep_13 ?_
  refine g_bipush hC dX0_keep_14 (v := (40 : Int32)) (by decide) ?_
  refine g_irem hC dX0_keep_16 (by decide) ?_
  refine g_bipush hC dX0_keep_17 (v := (53 : Int32)) (by decide) ?_
  refine g_imul hC dX0_keep_19 ?_
  obtain ⟨r20, h20, h⟩ := oB_some h
  refine g_cV0 hC cv_X9_saveTo wd_559 ⟨Nat.le_of_ble_eq_true rfl, Nat.le_of_ble_eq_true rfl⟩ hk1.2.1 hk1.1 dX0_keep_20 (As := [.ref (mB E + (k0 + 1)), .int ((((I k0 1) + (I k0 2)) - ((I k0 1) + (I k0 2)) / (40 : Int32) * (40 : Int32)) * (53 : Int32))]) (st := []) (ok_X9_saveTo hC.2.2.2.2.2.2.2.1 hk1 ⟨(by rw [hk0.2.2.2.2]), hk0.2.2.2.1⟩ h20) rfl rfl (Nat.le_of_ble_eq_true rfl) ⟨Nat.zero_le _, Nat.zero_le _⟩ ?_
  refine g_aload_n hC dX0_keep_23 rfl (q := 0) rfl ?_
  refine g_geti hC fd_RX0_21 hk0.2.1 hk0.1 (Or.inl rfl) dX0_keep_24 ?_
  refine g_bipush hC dX0_keep_27 (v := (40 : Int32)) (by decide) ?_
  refine g_ic_ge hC dX0_keep_29 (tgt := 45) (by decide) (fun c29 => ?_) (fun c29 => ?_)
  · replace h := (if_pos c29).symm.trans h
    refine g_aload_n hC dX0_keep_45 rfl (q := 0) rfl ?_
    refine g_aload_n hC dX0_keep_46 rfl (q := 0) rfl ?_
    refine g_geti hC fd_RX0_17 hk0.2.1 hk0.1 (Or.inl rfl) dX0_keep_47 ?_
    refine g_iconst hC dX0_keep_50 (v := (1 : Int32)) (by decide) ?_
    refine g_iadd hC dX0_keep_51 ?_
    refine g_bipush hC dX0_keep_52 (v := (40 : Int32)) (by decide) ?_
    refine g_irem hC dX0_keep_54 (by decide) ?_
    refine g_puti hC fd_RX0_17 hk0.2.1 hk0.1 rfl dX0_keep_55 (nm_e ?_)
    cases h
    exact g_vret hC hE rfl dX0_keep_58 (Nat.zero_le _) (Nat.zero_le _) ⟨rfl, rfl, rfl, rfl, rfl, rfl⟩
  · replace h := (if_neg c29).symm.trans h
    refine g_aload_n hC dX0_keep_32 rfl (q := 0) rfl ?_
    refine g_dup hC dX0_keep_33 rfl ?_
    refine g_geti hC fd_RX0_21 hk0.2.1 hk0.1 (Or.inl rfl) dX0_keep_34 ?_
    refine g_iconst hC dX0_keep_37 (v := (1 : Int32)) (by decide) ?_
    refine g_iadd hC dX0_keep_38 ?_
    refine g_puti hC fd_RX0_21 hk0.2.1 hk0.1 rfl dX0_keep_39 (nm_e ?_)
    refine g_goto hC dX0_keep_42 (tgt := 58) (by decide) ?_
    cases h
    exact g_vret hC hE rfl dX0_keep_58 (Nat.zero_le _) (Nat.zero_le _) ⟨rfl, rfl, rfl, rfl, rfl, rfl⟩
noncomputable def f_X0_many (Fu : Nat) (I : mIT) (k0 : Nat) : Option (Int32) :=
  some (I k0 2)
set_option maxRecDepth 20000 in
theorem ok_X0_many {l : Launch} {E : mEn} {Fu : Nat} {I : mIT} {R : mRT} {L : mLT} {k0 : Nat} (hst : l.stackTraces = false) (hk0 : mO0 R k0) {out : Int32} (h : f_X0_many Fu I k0 = some out) : mOk l E mX0_many [.ref (mB E + k0)] 106 1 I R L 0 0 (mSame (some (.int (out))) 106 1 I R L) := by
  refine mOk_of hst (by decide) (Nat.le_of_ble_eq_true rfl) (fun X hC hE _ => ?_)
  have hC : mC X E mX0_many RX0 cX0_many := hC
  show mG X E 0 [(0, .ref (mB E + k0))] [] 106 1 I R L 0 0
  unfold f_X0_many at h
  refine g_aload_n hC dX0_many_0 rfl (q := 0) rfl ?_
  refine g_geti hC fd_RX0_21 hk0.2.1 hk0.1 (Or.inl rfl) dX0_many_1 ?_
  cases h
  exact g_iret hC hE rfl dX0_many_4 (Nat.zero_le _) (Nat.zero_le _) ⟨rfl, rfl, rfl, rfl, rfl, rfl⟩
noncomputable def f_X9_loadFrom (Fu : Nat) (I : mIT) (k0 : Nat) (k1 : Nat) (v2 : Int32) : Option (mIT) :=
  if v2 < 0 then (some (I)) else (if ((nI (mT k1).2) - (53 : Int32)) < v2 then (some (I)) else (oG (cpB v2 (0 : Int32) (53 : Int32) (mT k1).2 53) (some (mCp I k1 (k0 + 1) (v2).toNatClampNeg ((0 : Int32)).toNatClampNeg ((53 : Int32)).toNatClampNeg))))
set_option maxRecDepth 20000 in
theorem ok_X9_loadFrom {l : Launch} {E : mEn} {Fu : Nat} {I : mIT} {R : mRT} {L : mLT} {k0 : Nat} {k1 : Nat} {v2 : Int32} (hst : l.stackTraces = false) (hk0 : mO9 R k0) (hk1 : (mT k1).1 = 1 ∧ k1 < 106) {out : mIT} (h : f_X9_loadFrom Fu I k0 k1 v2 = some out) : mOk l E mX9_loadFrom [.ref (mB E + k0), .ref (mB E + k1), .int v2] 106 1 I R L 0 0 (mSame none 106 1 (out) R L) := by
  refine mOk_of hst (by decide) (Nat.le_of_ble_eq_true rfl) (fun X hC hE _ => ?_)
  have hC : mC X E mX9_loadFrom RX9 cX9_loadFrom := hC
  show mG X E 0 [(0, .ref (mB E + k0)), (1, .ref (mB E + k1)), (2, .int v2)] [] 106 1 I R L 0 0
  unfold f_X9_loadFrom at h
  refine g_iload_n hC dX9_loadFrom_0 rfl (q := 2) rfl ?_
  refine g_if_lt hC dX9_loadFrom_1 (tgt := 25) (by decide) (fun c1 => ?_) (fun c1 => ?_)
  · replace h := (if_pos c1).symm.trans h
    cases h
    exact g_vret hC hE rfl dX9_loadFrom_25 (Nat.zero_le _) (Nat.zero_le _) ⟨rfl, rfl, rfl, rfl, rfl, rfl⟩
  · replace h := (if_neg c1).symm.trans h
    refine g_iload_n hC dX9_loadFrom_4 rfl (q := 2) rfl ?_
    refine g_aload_n hC dX9_loadFrom_5 rfl (q := 1) rfl ?_
    refine g_alenI hC (mAr_T hk1) hk1.2 dX9_loadFrom_6 ?_
    refine g_bipush hC dX9_loadFrom_7 (v := (53 : Int32)) (by decide) ?_
    refine g_isub hC dX9_loadFrom_9 ?_
    refine g_ic_gt hC dX9_loadFrom_10 (tgt := 25) (by decide) (fun c10 => ?_) (fun c10 => ?_)
    · replace h := (if_pos c10).symm.trans h
      cases h
      exact g_vret hC hE rfl dX9_loadFrom_25 (Nat.zero_le _) (Nat.zero_le _) ⟨rfl, rfl, rfl, rfl, rfl, rfl⟩
    · replace h := (if_neg c10).symm.trans h
      refine g_aload_n hC dX9_loadFrom_13 rfl (q := 1) rfl ?_
      refine g_iload_n hC dX9_loadFrom_14 rfl (q := 2) rfl ?_
      refine g_aload_n hC dX9_loadFrom_15 rfl (q := 0) rfl ?_
      refine g_getr hC fd_RX9_11 hk0.2.1 hk0.1 (C0 := "") (t0 := _) (Or.inr rfl) hk0.2.2.1 dX9_loadFrom_16 ?_
      refine g_iconst hC dX9_loadFrom_19 (v := (0 : Int32)) (by decide) ?_
      refine g_bipush hC dX9_loadFrom_20 (v := (53 : Int32)) (by decide) ?_
      obtain ⟨g22, h⟩ := oG_some h
      refine g_copy hC wd_563 wd_na_copy wd_st_copy wd_in_sys (mAr_T hk1) hk0.2.2.2.2 hk1.2 hk0.2.2.2.1 (cpB_ok g22).1 (cpB_ok g22).2.1 (cpB_ok g22).2.2.1 (cpB_ok g22).2.2.2.1 (cpB_ok g22).2.2.2.2 (Nat.le_of_ble_eq_true rfl) (Nat.le_of_ble_eq_true rfl) (by decide) dX9_loadFrom_22 (nm_e ?_)
      cases h
      exact g_vret hC hE rfl dX9_loadFrom_25 (Nat.zero_le _) (Nat.zero_le _) ⟨rfl, rfl, rfl, rfl, rfl, rfl⟩
noncomputable def f_X0_undoInto (Fu : Nat) (I : mIT) (k0 : Nat) (k1 : Nat) : Option (Int32 × mIT) :=
  if 0 < (I k0 2) then (oB (f_X9_loadFrom Fu (mU I k0 2 ((I k0 2) - (1 : Int32))) k1 (k0 + 1) (((((mU I k0 2 ((I k0 2) - (1 : Int32))) k0 1) + ((mU I k0 2 ((I k0 2) - (1 : Int32))) k0 2)) - (((mU I k0 2 ((I k0 2) - (1 : Int32))) k0 1) + ((mU I k0 2 ((I k0 2) - (1 : Int32))) k0 2)) / (40 : Int32) * (40 : Int32)) * (53 : Int32))) (fun r39 => some ((1 : Int32), r39))) else (some ((0 : Int32), I))
set_option maxRecDepth 20000 in
theorem ok_X0_undoInto {l : Launch} {E : mEn} {Fu : Nat} {I : mIT} {R : mRT} {L : mLT} {k0 : Nat} {k1 : Nat} (hst : l.stackTraces = false) (hk0 : mO0 R k0) (hk1 : mO9 R k1) {out : Int32 × mIT} (h : f_X0_undoInto Fu I k0 k1 = some out) : mOk l E mX0_undoInto [.ref (mB E + k0), .ref (mB E + k1)] 106 1 I R L 0 0 (mSame (some (.int (out.1))) 106 1 (out.2) R L) := by
  refine mOk_of hst (by decide) (Nat.le_of_ble_eq_true rfl) (fun X hC hE _ => ?_)
  have hC : mC X E mX0_undoInto RX0 cX0_undoInto := hC
  show mG X E 0 [(0, .ref (mB E + k0)), (1, .ref (mB E + k1))] [] 106 1 I R L 0 0
  unfold f_X0_undoInto at h
  refine g_aload_n hC dX0_undoInto_0 rfl (q := 0) rfl ?_
  refine g_geti hC fd_RX0_21 hk0.2.1 hk0.1 (Or.inl rfl) dX0_undoInto_1 ?_
  refine g_if_gt hC dX0_undoInto_4 (tgt := 9) (by decide) (fun c4 => ?_) (fun c4 => ?_)
  · replace h := (if_pos c4).symm.trans h
    refine g_aload_n hC dX0_undoInto_9 rfl (q := 0) rfl ?_
    refine g_dup hC dX0_undoInto_10 rfl ?_
    refine g_geti hC fd_RX0_21 hk0.2.1 hk0.1 (Or.inl rfl) dX0_undoInto_11 ?_
    refine g_iconst hC dX0_undoInto_14 (v := (1 : Int32)) (by decide) ?_
    refine g_isub hC dX0_undoInto_15 ?_
    refine g_puti hC fd_RX0_21 hk0.2.1 hk0.1 rfl dX0_undoInto_16 (nm_e ?_)
    refine g_aload_n hC dX0_undoInto_19 rfl (q := 1) rfl ?_
    refine g_aload_n hC dX0_undoInto_20 rfl (q := 0) rfl ?_
    refine g_getr hC fd_RX0_11 hk0.2.1 hk0.1 (C0 := "") (t0 := _) (Or.inr rfl) hk0.2.2.1 dX0_undoInto_21 ?_
    refine g_aload_n hC dX0_undoInto_24 rfl (q := 0) rfl ?_
    refine g_geti hC fd_RX0_17 hk0.2.1 hk0.1 (Or.inl rfl) dX0_undoInto_25 ?_
    refine g_aload_n hC dX0_undoInto_28 rfl (q := 0) rfl ?_
    refine g_geti hC fd_RX0_21 hk0.2.1 hk0.1 (Or.inl rfl) dX0_undoInto_29 ?_
    refine g_iadd hC dX0_undoInto_32 ?_
    refine g_bipush hC dX0_undoInto_33 (v := (40 : Int32)) (by decide) ?_
    refine g_irem hC dX0_undoInto_35 (by decide) ?_
    refine g_bipush hC dX0_undoInto_36 (v := (53 : Int32)) (by decide) ?_
    refine g_imul hC dX0_undoInto_38 ?_
    obtain ⟨r39, h39, h⟩ := oB_some h
    refine g_cV0 hC cv_X9_loadFrom wd_652 ⟨Nat.le_of_ble_eq_true rfl, Nat.le_of_ble_eq_true rfl⟩ hk1.2.1 hk1.1 dX0_undoInto_39 (As := [.ref (mB E + (k0 + 1)), .int (((((mU I k0 2 ((I k0 2) - (1 : Int32))) k0 1) + ((mU I k0 2 ((I k0 2) - (1 : Int32))) k0 2)) - (((mU I k0 2 ((I k0 2) - (1 : Int32))) k0 1) + ((mU I k0 2 ((I k0 2) - (1 : Int32))) k0 2)) / (40 : Int32) * (40 : Int32)) * (53 : Int32))]) (st := []) (ok_X9_loadFrom hC.2.2.2.2.2.2.2.1 hk1 ⟨(by rw [hk0.2.2.2.2]), hk0.2.2.2.1⟩ h39) rfl rfl (Nat.le_of_ble_eq_true rfl) ⟨Nat.zero_le _, Nat.zero_le _⟩ ?_
    refine g_iconst hC dX0_undoInto_42 (v := (1 : Int32)) (by decide) ?_
    cases h
    exact g_zret hC (by decide) hE rfl dX0_undoInto_43 (Nat.zero_le _) (Nat.zero_le _) ⟨rfl, rfl, rfl, rfl, rfl, rfl⟩
  · replace h := (if_neg c4).symm.trans h
    refine g_iconst hC dX0_undoInto_7 (v := (0 : Int32)) (by decide) ?_
    cases h
    exact g_zret hC (by decide) hE rfl dX0_undoInto_8 (Nat.zero_le _) (Nat.zero_le _) ⟨rfl, rfl, rfl, rfl, rfl, rfl⟩
noncomputable def f_X9_copyFrom (Fu : Nat) (I : mIT) (k0 : Nat) (k1 : Nat) : Option (mIT) :=
  oG (cpB (0 : Int32) (0 : Int32) (53 : Int32) 53 53) (some (mCp I (k1 + 1) (k0 + 1) ((0 : Int32)).toNatClampNeg ((0 : Int32)).toNatClampNeg ((53 : Int32)).toNatClampNeg))
set_option maxRecDepth 20000 in
theorem ok_X9_copyFrom {l : Launch} {E : mEn} {Fu : Nat} {I : mIT} {R : mRT} {L : mLT} {k0 : Nat} {k1 : Nat} (hst : l.stackTraces = false) (hk0 : mO9 R k0) (hk1 : mO9 R k1) {out : mIT} (h : f_X9_copyFrom Fu I k0 k1 = some out) : mOk l E mX9_copyFrom [.ref (mB E + k0), .ref (mB E + k1)] 106 1 I R L 0 0 (mSame none 106 1 (out) R L) := by
  refine mOk_of hst (by decide) (Nat.le_of_ble_eq_true rfl) (fun X hC hE _ => ?_)
  have hC : mC X E mX9_copyFrom RX9 cX9_copyFrom := hC
  show mG X E 0 [(0, .ref (mB E + k0)), (1, .ref (mB E + k1))] [] 106 1 I R L 0 0
  unfold f_X9_copyFrom at h
  refine g_aload_n hC dX9_copyFrom_0 rfl (q := 1) rfl ?_
  refine g_getr hC fd_RX9_11 hk1.2.1 hk1.1 (C0 := "") (t0 := _) (Or.inr rfl) hk1.2.2.1 dX9_copyFrom_1 ?_
  refine g_iconst hC dX9_copyFrom_4 (v := (0 : Int32)) (by decide) ?_
  refine g_aload_n hC dX9_copyFrom_5 rfl (q := 0) rfl ?_
  refine g_getr hC fd_RX9_11 hk0.2.1 hk0.1 (C0 := "") (t0 := _) (Or.inr rfl) hk0.2.2.1 dX9_copyFrom_6 ?_
  refine g_iconst hC dX9_copyFrom_9 (v := (0 : Int32)) (by decide) ?_
  refine g_bipush hC dX9_copyFrom_10 (v := (53 : Int32)) (by decide) ?_
  obtain ⟨g12, h⟩ := oG_some h
  refine g_copy hC wd_563 wd_na_copy wd_st_copy wd_in_sys hk1.2.2.2.2 hk0.2.2.2.2 hk1.2.2.2.1 hk0.2.2.2.1 (cpB_ok g12).1 (cpB_ok g12).2.1 (cpB_ok g12).2.2.1 (cpB_ok g12).2.2.2.1 (cpB_ok g12).2.2.2.2 (Nat.le_of_ble_eq_true rfl) (Nat.le_of_ble_eq_true rfl) (by decide) dX9_copyFrom_12 (nm_e ?_)
  cases h
  exact g_vret hC hE rfl dX9_copyFrom_15 (Nat.zero_le _) (Nat.zero_le _) ⟨rfl, rfl, rfl, rfl, rfl, rfl⟩
noncomputable def f_X10_begin (Fu : Nat) (I : mIT) (k1 : Nat) (v2 : Int32) : Option (mIT) :=
  oB (f_X9_copyFrom Fu I 73 k1) (fun r5 => some (mU r5 72 1 v2))
set_option maxRecDepth 20000 in
theorem ok_X10_begin {l : Launch} {E : mEn} {Fu : Nat} {I : mIT} {R : mRT} {L : mLT} {k1 : Nat} {v2 : Int32} (hst : l.stackTraces = false) (hW : mWd R) (hk1 : mO9 R k1) {out : mIT} (h : f_X10_begin Fu I k1 v2 = some out) : mOk l E mX10_begin [.ref (mB E + 72), .ref (mB E + k1), .int v2] 106 1 I R L 0 0 (mSame none 106 1 (out) R L) := by
  refine mOk_of hst (by decide) (Nat.le_of_ble_eq_true rfl) (fun X hC hE _ => ?_)
  have hC : mC X E mX10_begin RX10 cX10_begin := hC
  show mG X E 0 [(0, .ref (mB E + 72)), (1, .ref (mB E + k1)), (2, .int v2)] [] 106 1 I R L 0 0
  unfold f_X10_begin at h
  refine g_aload_n hC dX10_begin_0 rfl (q := 0) rfl ?_
  refine g_getr hC fd_RX10_12 rfl (by decide) (C0 := _) (t0 := .int) (Or.inl rfl) (rr_72_0 hW.1) dX10_begin_1 ?_
  refine g_aload_n hC dX10_begin_4 rfl (q := 1) rfl ?_
  obtain ⟨r5, h5, h⟩ := oB_some h
  refine g_cV0 hC cv_X9_copyFrom wd_1512 ⟨Nat.le_of_ble_eq_true rfl, Nat.le_of_ble_eq_true rfl⟩ rfl (by decide) dX10_begin_5 (As := [.ref (mB E + k1)]) (st := []) (ok_X9_copyFrom hC.2.2.2.2.2.2.2.1 (ob_73 hW.1) hk1 h5) rfl rfl (Nat.le_of_ble_eq_true rfl) ⟨Nat.zero_le _, Nat.zero_le _⟩ ?_
  refine g_aload_n hC dX10_begin_8 rfl (q := 0) rfl ?_
  refine g_iload_n hC dX10_begin_9 rfl (q := 2) rfl ?_
  refine g_puti hC fd_RX10_18 rfl (by decide) rfl dX10_begin_10 (nm_e ?_)
  cases h
  exact g_vret hC hE rfl dX10_begin_13 (Nat.zero_le _) (Nat.zero_le _) ⟨rfl, rfl, rfl, rfl, rfl, rfl⟩
noncomputable def f_X10_draw (Fu : Nat) (I : mIT) (v1 : Int32) : Option (Int32 × mIT) :=
  if v1 ≤ 0 then (some ((0 : Int32), (mU I 72 1 (((I 72 1) * (1103515245 : Int32)) + (12345 : Int32))))) else (oG (v1 != 0) (some (((((((mU I 72 1 (((I 72 1) * (1103515245 : Int32)) + (12345 : Int32))) 72 1)).toUInt32 >>> (((16 : Int32)).toUInt32 &&& Int32.toUInt32 31)).toInt32 &&& (32767 : Int32)) - (((((mU I 72 1 (((I 72 1) * (1103515245 : Int32)) + (12345 : Int32))) 72 1)).toUInt32 >>> (((16 : Int32)).toUInt32 &&& Int32.toUInt32 31)).toInt32 &&& (32767 : Int32)) / v1 * v1), (mU I 72 1 (((I 72 1) * (1103515245 : Int32)) + (12345 : Int32))))))
set_option maxRecDepth 20000 in
theorem ok_X10_draw {l : Launch} {E : mEn} {Fu : Nat} {I : mIT} {R : mRT} {L : mLT} {v1 : Int32} (hst : l.stackTraces = false) (hW : mWd R)  {out : Int32 × mIT} (h : f_X10_draw Fu I v1 = some out) : mOk l E mX10_draw [.ref (mB E + 72), .int v1] 106 1 I R L 0 0 (mSame (some (.int (out.1))) 106 1 (out.2) R L) := by
  refine mOk_of hst (by decide) (Nat.le_of_ble_eq_true rfl) (fun X hC hE _ => ?_)
  have hC : mC X E mX10_draw RX10 cX10_draw := hC
  show mG X E 0 [(0, .ref (mB E + 72)), (1, .int v1)] [] 106 1 I R L 0 0
  unfold f_X10_draw at h
  refine g_aload_n hC dX10_draw_0 rfl (q := 0) rfl ?_
  refine g_aload_n hC dX10_draw_1 rfl (q := 0) rfl ?_
  refine g_geti hC fd_RX10_18 rfl (by decide) (Or.inl rfl) dX10_draw_2 ?_
  refine g_ldc hC dX10_draw_5 wd_1521 ?_
  refine g_imul hC dX10_draw_7 ?_
  refine g_sipush hC dX10_draw_8 (v := (12345 : Int32)) (by decide) ?_
  refine g_iadd hC dX10_draw_11 ?_
  refine g_puti hC fd_RX10_18 rfl (by decide) rfl dX10_draw_12 (nm_e ?_)
  refine g_iload_n hC dX10_draw_15 rfl (q := 1) rfl ?_
  refine g_if_le hC dX10_draw_16 (tgt := 35) (by decide) (fun c16 => ?_) (fun c16 => ?_)
  · replace h := (if_pos c16).symm.trans h
    refine g_iconst hC dX10_draw_35 (v := (0 : Int32)) (by decide) ?_
    cases h
    exact g_iret hC hE rfl dX10_draw_36 (Nat.zero_le _) (Nat.zero_le _) ⟨rfl, rfl, rfl, rfl, rfl, rfl⟩
  · replace h := (if_neg c16).symm.trans h
    refine g_aload_n hC dX10_draw_19 rfl (q := 0) rfl ?_
    refine g_geti hC fd_RX10_18 rfl (by decide) (Or.inl rfl) dX10_draw_20 ?_
    refine g_bipush hC dX10_draw_23 (v := (16 : Int32)) (by decide) ?_
    refine g_iushr hC dX10_draw_25 ?_
    refine g_sipush hC dX10_draw_26 (v := (32767 : Int32)) (by decide) ?_
    refine g_iand hC dX10_draw_29 ?_
    refine g_iload_n hC dX10_draw_30 rfl (q := 1) rfl ?_
    obtain ⟨g31, h⟩ := oG_some h
    refine g_irem hC dX10_draw_31 (mNz g31) ?_
    refine g_goto hC dX10_draw_32 (tgt := 36) (by decide) ?_
    cases h
    exact g_iret hC hE rfl dX10_draw_36 (Nat.zero_le _) (Nat.zero_le _) ⟨rfl, rfl, rfl, rfl, rfl, rfl⟩
noncomputable def f_X9_cell (Fu : Nat) (I : mIT) (k0 : Nat) (v1 : Int32) (v2 : Int32) : Option (Int32) :=
  if (v1 + v2) < 0 then (some (0 : Int32)) else (if (nI 53) ≤ (v1 + v2) then (some (0 : Int32)) else (oG (inB (v1 + v2) 53) (some (I (k0 + 1) ((v1 + v2)).toNatClampNeg))))
set_option maxRecDepth 20000 in
theorem ok_X9_cell {l : Launch} {E : mEn} {Fu : Nat} {I : mIT} {R : mRT} {L : mLT} {k0 : Nat} {v1 : Int32} {v2 : Int32} (hst : l.stackTraces = false) (hk0 : mO9 R k0) {out : Int32} (h : f_X9_cell Fu I k0 v1 v2 = some out) : mOk l E mX9_cell [.ref (mB E + k0), .int v1, .int v2] 106 1 I R L 0 0 (mSame (some (.int (out))) 106 1 I R L) := by
  refine mOk_of hst (by decide) (Nat.le_of_ble_eq_true rfl) (fun X hC hE _ => ?_)
  have hC : mC X E mX9_cell RX9 cX9_cell := hC
  show mG X E 0 [(0, .ref (mB E + k0)), (1, .int v1), (2, .int v2)] [] 106 1 I R L 0 0
  unfold f_X9_cell at h
  refine g_iload_n hC dX9_cell_0 rfl (q := 1) rfl ?_
  refine g_iload_n hC dX9_cell_1 rfl (q := 2) rfl ?_
  refine g_iadd hC dX9_cell_2 ?_
  refine g_istore_n hC dX9_cell_3 rfl rfl (by decide) (lv' := [(3, .int (v1 + v2)), (0, .ref (mB E + k0)), (1, .int v1), (2, .int v2)]) rfl ?_
  refine g_iload_n hC dX9_cell_4 rfl (q := 0) rfl ?_
  refine g_if_lt hC dX9_cell_5 (tgt := 26) (by decide) (fun c5 => ?_) (fun c5 => ?_)
  · replace h := (if_pos c5).symm.trans h
    refine g_iconst hC dX9_cell_26 (v := (0 : Int32)) (by decide) ?_
    cases h
    exact g_iret hC hE rfl dX9_cell_27 (Nat.zero_le _) (Nat.zero_le _) ⟨rfl, rfl, rfl, rfl, rfl, rfl⟩
  · replace h := (if_neg c5).symm.trans h
    refine g_iload_n hC dX9_cell_8 rfl (q := 0) rfl ?_
    refine g_aload_n hC dX9_cell_9 rfl (q := 1) rfl ?_
    refine g_getr hC fd_RX9_11 hk0.2.1 hk0.1 (C0 := "") (t0 := _) (Or.inr rfl) hk0.2.2.1 dX9_cell_10 ?_
    refine g_alenI hC hk0.2.2.2.2 hk0.2.2.2.1 dX9_cell_13 ?_
    refine g_ic_ge hC dX9_cell_14 (tgt := 26) (by decide) (fun c14 => ?_) (fun c14 => ?_)
    · replace h := (if_pos c14).symm.trans h
      refine g_iconst hC dX9_cell_26 (v := (0 : Int32)) (by decide) ?_
      cases h
      exact g_iret hC hE rfl dX9_cell_27 (Nat.zero_le _) (Nat.zero_le _) ⟨rfl, rfl, rfl, rfl, rfl, rfl⟩
    · replace h := (if_neg c14).symm.trans h
      refine g_aload_n hC dX9_cell_17 rfl (q := 1) rfl ?_
      refine g_getr hC fd_RX9_11 hk0.2.1 hk0.1 (C0 := "") (t0 := _) (Or.inr rfl) hk0.2.2.1 dX9_cell_18 ?_
      refine g_iload_n hC dX9_cell_21 rfl (q := 0) rfl ?_
      obtain ⟨g22, h⟩ := oG_some h
      refine g_iald hC hk0.2.2.2.2 hk0.2.2.2.1 (inB_in g22) dX9_cell_22 ?_
      refine g_goto hC dX9_cell_23 (tgt := 27) (by decide) ?_
      cases h
      exact g_iret hC hE rfl dX9_cell_27 (Nat.zero_le _) (Nat.zero_le _) ⟨rfl, rfl, rfl, rfl, rfl, rfl⟩
noncomputable def f_X9_placeOf (Fu : Nat) (I : mIT) (k0 : Nat) (v1 : Int32) : Option (Int32) :=
  oB (f_X9_cell Fu I k0 (31 : Int32) v1) (fun r4 => some (r4))
set_option maxRecDepth 20000 in
theorem ok_X9_placeOf {l : Launch} {E : mEn} {Fu : Nat} {I : mIT} {R : mRT} {L : mLT} {k0 : Nat} {v1 : Int32} (hst : l.stackTraces = false) (hk0 : mO9 R k0) {out : Int32} (h : f_X9_placeOf Fu I k0 v1 = some out) : mOk l E mX9_placeOf [.ref (mB E + k0), .int v1] 106 1 I R L 0 0 (mSame (some (.int (out))) 106 1 I R L) := by
  refine mOk_of hst (by decide) (Nat.le_of_ble_eq_true rfl) (fun X hC hE _ => ?_)
  have hC : mC X E mX9_placeOf RX9 cX9_placeOf := hC
  show mG X E 0 [(0, .ref (mB E + k0)), (1, .int v1)] [] 106 1 I R L 0 0
  unfold f_X9_placeOf at h
  refine g_aload_n hC dX9_placeOf_0 rfl (q := 0) rfl ?_
  refine g_bipush hC dX9_placeOf_1 (v := (31 : Int32)) (by decide) ?_
  refine g_iload_n hC dX9_placeOf_3 rfl (q := 1) rfl ?_
  obtain ⟨r4, h4, h⟩ := oB_some h
  refine g_cV1 hC cv_X9_cell wd_543 ⟨Nat.le_of_ble_eq_true rfl, Nat.le_of_ble_eq_true rfl⟩ hk0.2.1 hk0.1 dX9_placeOf_4 (As := [.int (31 : Int32), .int v1]) (st := []) (ok_X9_cell hC.2.2.2.2.2.2.2.1 hk0 h4) rfl rfl (Nat.le_of_ble_eq_true rfl) ⟨Nat.zero_le _, Nat.zero_le _⟩ ?_
  cases h
  exact g_iret hC hE rfl dX9_placeOf_7 (Nat.zero_le _) (Nat.zero_le _) ⟨rfl, rfl, rfl, rfl, rfl, rfl⟩
noncomputable def b_X10_gone_4 (Fu : Nat) (I : mIT) (k1 : Nat) (k4_ : Int32 × Int32 → Option (Int32)) (v2 : Int32) (v3 : Int32) : Option (Int32) :=
  if (I k1 3) ≤ v3 then (some (v2)) else (oB (f_X9_placeOf Fu I 73 v3) (fun r18 => if r18 = (-2 : Int32) then (k4_ ((v2 + (1 : Int32)), (v3 + (1 : Int32)))) else (k4_ ((v2 + (0 : Int32)), (v3 + (1 : Int32))))))
set_option maxRecDepth 20000 in
theorem bo_X10_gone_4 {X : mXT} {E : mEn} {Fu : Nat} {I : mIT} {R : mRT} {L : mLT} {k1 : Nat} (hC : mC X E mX10_gone RX10 cX10_gone) (hW : mWd R) (hk1 : mO5 R k1)  {out : Int32} (hE : mEd X E 0 0 (mSame (some (.int (out))) 106 1 I R L)) (k4_ : Int32 × Int32 → Option (Int32)) (hk4_ : ∀ (v2 : Int32) (v3 : Int32),  k4_ (v2, v3) = some out → mG X E 4 [(0, .ref (mB E + 72)), (1, .ref (mB E + k1)), (2, .int v2), (3, .int v3)] [] 106 1 I R L 0 0) (v2 : Int32) (v3 : Int32) (h : b_X10_gone_4 Fu I k1 k4_ v2 v3 = some out) : mG X E 4 [(0, .ref (mB E + 72)), (1, .ref (mB E + k1)), (2, .int v2), (3, .int v3)] [] 106 1 I R L 0 0 := by
  unfold b_X10_gone_4 at h
  refine g_iload_n hC dX10_gone_4 rfl (q := 3) rfl ?_
  refine g_aload_n hC dX10_gone_5 rfl (q := 1) rfl ?_
  refine g_geti hC fd_RX10_31 hk1.2.1 hk1.1 (Or.inl rfl) dX10_gone_6 ?_
  refine g_ic_ge hC dX10_gone_9 (tgt := 39) (by decide) (fun c9 => ?_) (fun c9 => ?_)
  · replace h := (if_pos c9).symm.trans h
    refine g_iload_n hC dX10_gone_39 rfl (q := 2) rfl ?_
    cases h
    exact g_iret hC hE rfl dX10_gone_40 (Nat.zero_le _) (Nat.zero_le _) ⟨rfl, rfl, rfl, rfl, rfl, rfl⟩
  · replace h := (if_neg c9).symm.trans h
    refine g_iload_n hC dX10_gone_12 rfl (q := 2) rfl ?_
    refine g_aload_n hC dX10_gone_13 rfl (q := 0) rfl ?_
    refine g_getr hC fd_RX10_12 rfl (by decide) (C0 := _) (t0 := .int) (Or.inl rfl) (rr_72_0 hW.1) dX10_gone_14 ?_
    refine g_iload_n hC dX10_gone_17 rfl (q := 3) rfl ?_
    obtain ⟨r18, h18, h⟩ := oB_some h
    refine g_cV1 hC cv_X9_placeOf wd_1522 ⟨Nat.le_of_ble_eq_true rfl, Nat.le_of_ble_eq_true rfl⟩ rfl (by decide) dX10_gone_18 (As := [.int v3]) (st := [.int v2]) (ok_X9_placeOf hC.2.2.2.2.2.2.2.1 (ob_73 hW.1) h18) rfl rfl (Nat.le_of_ble_eq_true rfl) ⟨Nat.zero_le _, Nat.zero_le _⟩ ?_
    refine g_bipush hC dX10_gone_21 (v := (-2 : Int32)) (by decide) ?_
    refine g_ic_ne hC dX10_gone_23 (tgt := 30) (by decide) (fun c23 => ?_) (fun c23 => ?_)
    · replace h := (if_neg c23).symm.trans h
      refine g_iconst hC dX10_gone_30 (v := (0 : Int32)) (by decide) ?_
      refine g_iadd hC dX10_gone_31 ?_
      refine g_istore_n hC dX10_gone_32 rfl rfl (by decide) (lv' := [(2, .int (v2 + (0 : Int32))), (0, .ref (mB E + 72)), (1, .ref (mB E + k1)), (3, .int v3)]) rfl ?_
      refine g_iinc hC dX10_gone_33 rfl (q := 3) rfl (w := (v3 + (1 : Int32))) rfl (by decide) (lv' := [(3, .int (v3 + (1 : Int32))), (2, .int (v2 + (0 : Int32))), (0, .ref (mB E + 72)), (1, .ref (mB E + k1))]) rfl ?_
      refine g_goto hC dX10_gone_36 (tgt := 4) (by decide) ?_
      refine g_lv [2, 3, 1, 0] rfl ?_
      exact hk4_ (v2 + (0 : Int32)) (v3 + (1 : Int32)) h
    · replace h := (if_pos c23).symm.trans h
      refine g_iconst hC dX10_gone_26 (v := (1 : Int32)) (by decide) ?_
      refine g_goto hC dX10_gone_27 (tgt := 31) (by decide) ?_
      refine g_iadd hC dX10_gone_31 ?_
      refine g_istore_n hC dX10_gone_32 rfl rfl (by decide) (lv' := [(2, .int (v2 + (1 : Int32))), (0, .ref (mB E + 72)), (1, .ref (mB E + k1)), (3, .int v3)]) rfl ?_
      refine g_iinc hC dX10_gone_33 rfl (q := 3) rfl (w := (v3 + (1 : Int32))) rfl (by decide) (lv' := [(3, .int (v3 + (1 : Int32))), (2, .int (v2 + (1 : Int32))), (0, .ref (mB E + 72)), (1, .ref (mB E + k1))]) rfl ?_
      refine g_goto hC dX10_gone_36 (tgt := 4) (by decide) ?_
      refine g_lv [2, 3, 1, 0] rfl ?_
      exact hk4_ (v2 + (1 : Int32)) (v3 + (1 : Int32)) h
noncomputable def w_X10_gone_4 (Fu : Nat) (I : mIT) (k1 : Nat)  (N : Nat) (v2 : Int32) (v3 : Int32) : Option (Int32) :=
  loopF (fun self (s : Int32 × Int32) => b_X10_gone_4 Fu I k1 self s.1 s.2) N (v2, v3)
theorem wo_X10_gone_4 {X : mXT} {E : mEn} {Fu : Nat} {I : mIT} {R : mRT} {L : mLT} {k1 : Nat} (hC : mC X E mX10_gone RX10 cX10_gone) (hW : mWd R) (hk1 : mO5 R k1)  {out : Int32} (hE : mEd X E 0 0 (mSame (some (.int (out))) 106 1 I R L))  (N : Nat) (v2 : Int32) (v3 : Int32) (h : w_X10_gone_4 Fu I k1  N v2 v3 = some out) : mG X E 4 [(0, .ref (mB E + 72)), (1, .ref (mB E + k1)), (2, .int v2), (3, .int v3)] [] 106 1 I R L 0 0 :=
  loopF_ok (Gd := fun s : Int32 × Int32 => mG X E 4 [(0, .ref (mB E + 72)), (1, .ref (mB E + k1)), (2, .int s.1), (3, .int s.2)] [] 106 1 I R L 0 0) (fun self hs s h => bo_X10_gone_4 hC hW hk1 hE self (fun v2 v3 h => hs (v2, v3) h) s.1 s.2 h) N (v2, v3) h
noncomputable def f_X10_gone (Fu : Nat) (I : mIT) (k1 : Nat) : Option (Int32) :=
  w_X10_gone_4 Fu I k1 Fu (0 : Int32) (0 : Int32)
set_option maxRecDepth 20000 in
theorem ok_X10_gone {l : Launch} {E : mEn} {Fu : Nat} {I : mIT} {R : mRT} {L : mLT} {k1 : Nat} (hst : l.stackTraces = false) (hW : mWd R) (hk1 : mO5 R k1) {out : Int32} (h : f_X10_gone Fu I k1 = some out) : mOk l E mX10_gone [.ref (mB E + 72), .ref (mB E + k1)] 106 1 I R L 0 0 (mSame (some (.int (out))) 106 1 I R L) := by
  refine mOk_of hst (by decide) (Nat.le_of_ble_eq_true rfl) (fun X hC hE _ => ?_)
  have hC : mC X E mX10_gone RX10 cX10_gone := hC
  show mG X E 0 [(0, .ref (mB E + 72)), (1, .ref (mB E + k1))] [] 106 1 I R L 0 0
  unfold f_X10_gone at h
  refine g_iconst hC dX10_gone_0 (v := (0 : Int32)) (by decide) ?_
  refine g_istore_n hC dX10_gone_1 rfl rfl (by decide) (lv' := [(2, .int (0 : Int32)), (0, .ref (mB E + 72)), (1, .ref (mB E + k1))]) rfl ?_
  refine g_iconst hC dX10_gone_2 (v := (0 : Int32)) (by decide) ?_
  refine g_istore_n hC dX10_gone_3 rfl rfl (by decide) (lv' := [(3, .int (0 : Int32)), (2, .int (0 : Int32)), (0, .ref (mB E + 72)), (1, .ref (mB E + k1))]) rfl ?_
  refine g_lv [2, 3, 1, 0] rfl ?_
  exact wo_X10_gone_4 hC hW hk1 hE Fu ((0 : Int32)) ((0 : Int32)) h
noncomputable def f_X9_setCell (Fu : Nat) (I : mIT) (k0 : Nat) (v1 : Int32) (v2 : Int32) (v3 : Int32) : Option (mIT) :=
  if (v1 + v2) < 0 then (some (I)) else (if (nI 53) ≤ (v1 + v2) then (some (I)) else (oG (inB (v1 + v2) 53) (some (mU I (k0 + 1) ((v1 + v2)).toNatClampNeg v3))))
set_option maxRecDepth 20000 in
theorem ok_X9_setCell {l : Launch} {E : mEn} {Fu : Nat} {I : mIT} {R : mRT} {L : mLT} {k0 : Nat} {v1 : Int32} {v2 : Int32} {v3 : Int32} (hst : l.stackTraces = false) (hk0 : mO9 R k0) {out : mIT} (h : f_X9_setCell Fu I k0 v1 v2 v3 = some out) : mOk l E mX9_setCell [.ref (mB E + k0), .int v1, .int v2, .int v3] 106 1 I R L 0 0 (mSame none 106 1 (out) R L) := by
  refine mOk_of hst (by decide) (Nat.le_of_ble_eq_true rfl) (fun X hC hE _ => ?_)
  have hC : mC X E mX9_setCell RX9 cX9_setCell := hC
  show mG X E 0 [(0, .ref (mB E + k0)), (1, .int v1), (2, .int v2), (3, .int v3)] [] 106 1 I R L 0 0
  unfold f_X9_setCell at h
  refine g_iload_n hC dX9_setCell_0 rfl (q := 1) rfl ?_
  refine g_iload_n hC dX9_setCell_1 rfl (q := 2) rfl ?_
  refine g_iadd hC dX9_setCell_2 ?_
  refine g_istore hC dX9_setCell_3 rfl (by decide) (lv' := [(4, .int (v1 + v2)), (0, .ref (mB E + k0)), (1, .int v1), (2, .int v2), (3, .int v3)]) rfl ?_
  refine g_iload hC dX9_setCell_5 (q := 0) rfl ?_
  refine g_if_lt hC dX9_setCell_7 (tgt := 28) (by decide) (fun c7 => ?_) (fun c7 => ?_)
  · replace h := (if_pos c7).symm.trans h
    cases h
    exact g_vret hC hE rfl dX9_setCell_28 (Nat.zero_le _) (Nat.zero_le _) ⟨rfl, rfl, rfl, rfl, rfl, rfl⟩
  · replace h := (if_neg c7).symm.trans h
    refine g_iload hC dX9_setCell_10 (q := 0) rfl ?_
    refine g_aload_n hC dX9_setCell_12 rfl (q := 1) rfl ?_
    refine g_getr hC fd_RX9_11 hk0.2.1 hk0.1 (C0 := "") (t0 := _) (Or.inr rfl) hk0.2.2.1 dX9_setCell_13 ?_
    refine g_alenI hC hk0.2.2.2.2 hk0.2.2.2.1 dX9_setCell_16 ?_
    refine g_ic_ge hC dX9_setCell_17 (tgt := 28) (by decide) (fun c17 => ?_) (fun c17 => ?_)
    · replace h := (if_pos c17).symm.trans h
      cases h
      exact g_vret hC hE rfl dX9_setCell_28 (Nat.zero_le _) (Nat.zero_le _) ⟨rfl, rfl, rfl, rfl, rfl, rfl⟩
    · replace h := (if_neg c17).symm.trans h
      refine g_aload_n hC dX9_setCell_20 rfl (q := 1) rfl ?_
      refine g_getr hC fd_RX9_11 hk0.2.1 hk0.1 (C0 := "") (t0 := _) (Or.inr rfl) hk0.2.2.1 dX9_setCell_21 ?_
      refine g_iload hC dX9_setCell_24 (q := 0) rfl ?_
      refine g_iload_n hC dX9_setCell_26 rfl (q := 4) rfl ?_
      obtain ⟨g27, h⟩ := oG_some h
      refine g_iast hC hk0.2.2.2.2 hk0.2.2.2.1 (inB_in g27) dX9_setCell_27 (nm_e ?_)
      cases h
      exact g_vret hC hE rfl dX9_setCell_28 (Nat.zero_le _) (Nat.zero_le _) ⟨rfl, rfl, rfl, rfl, rfl, rfl⟩
noncomputable def f_X9_setPlace (Fu : Nat) (I : mIT) (k0 : Nat) (v1 : Int32) (v2 : Int32) : Option (mIT) :=
  oB (f_X9_setCell Fu I k0 (31 : Int32) v1 v2) (fun r5 => some (r5))
set_option maxRecDepth 20000 in
theorem ok_X9_setPlace {l : Launch} {E : mEn} {Fu : Nat} {I : mIT} {R : mRT} {L : mLT} {k0 : Nat} {v1 : Int32} {v2 : Int32} (hst : l.stackTraces = false) (hk0 : mO9 R k0) {out : mIT} (h : f_X9_setPlace Fu I k0 v1 v2 = some out) : mOk l E mX9_setPlace [.ref (mB E + k0), .int v1, .int v2] 106 1 I R L 0 0 (mSame none 106 1 (out) R L) := by
  refine mOk_of hst (by decide) (Nat.le_of_ble_eq_true rfl) (fun X hC hE _ => ?_)
  have hC : mC X E mX9_setPlace RX9 cX9_setPlace := hC
  show mG X E 0 [(0, .ref (mB E + k0)), (1, .int v1), (2, .int v2)] [] 106 1 I R L 0 0
  unfold f_X9_setPlace at h
  refine g_aload_n hC dX9_setPlace_0 rfl (q := 0) rfl ?_
  refine g_bipush hC dX9_setPlace_1 (v := (31 : Int32)) (by decide) ?_
  refine g_iload_n hC dX9_setPlace_3 rfl (q := 1) rfl ?_
  refine g_iload_n hC dX9_setPlace_4 rfl (q := 2) rfl ?_
  obtain ⟨r5, h5, h⟩ := oB_some h
  refine g_cV0 hC cv_X9_setCell wd_636 ⟨Nat.le_of_ble_eq_true rfl, Nat.le_of_ble_eq_true rfl⟩ hk0.2.1 hk0.1 dX9_setPlace_5 (As := [.int (31 : Int32), .int v1, .int v2]) (st := []) (ok_X9_setCell hC.2.2.2.2.2.2.2.1 hk0 h5) rfl rfl (Nat.le_of_ble_eq_true rfl) ⟨Nat.zero_le _, Nat.zero_le _⟩ ?_
  cases h
  exact g_vret hC hE rfl dX9_setPlace_8 (Nat.zero_le _) (Nat.zero_le _) ⟨rfl, rfl, rfl, rfl, rfl, rfl⟩
noncomputable def f_X9_softnessOf (Fu : Nat) (I : mIT) (k0 : Nat) (v1 : Int32) : Option (Int32) :=
  oB (f_X9_cell Fu I k0 (21 : Int32) v1) (fun r4 => some (r4))
set_option maxRecDepth 20000 in
theorem ok_X9_softnessOf {l : Launch} {E : mEn} {Fu : Nat} {I : mIT} {R : mRT} {L : mLT} {k0 : Nat} {v1 : Int32} (hst : l.stackTraces = false) (hk0 : mO9 R k0) {out : Int32} (h : f_X9_softnessOf Fu I k0 v1 = some out) : mOk l E mX9_softnessOf [.ref (mB E + k0), .int v1] 106 1 I R L 0 0 (mSame (some (.int (out))) 106 1 I R L) := by
  refine mOk_of hst (by decide) (Nat.le_of_ble_eq_true rfl) (fun X hC hE _ => ?_)
  have hC : mC X E mX9_softnessOf RX9 cX9_softnessOf := hC
  show mG X E 0 [(0, .ref (mB E + k0)), (1, .int v1)] [] 106 1 I R L 0 0
  unfold f_X9_softnessOf at h
  refine g_aload_n hC dX9_softnessOf_0 rfl (q := 0) rfl ?_
  refine g_bipush hC dX9_softnessOf_1 (v := (21 : Int32)) (by decide) ?_
  refine g_iload_n hC dX9_softnessOf_3 rfl (q := 1) rfl ?_
  obtain ⟨r4, h4, h⟩ := oB_some h
  refine g_cV1 hC cv_X9_cell wd_543 ⟨Nat.le_of_ble_eq_true rfl, Nat.le_of_ble_eq_true rfl⟩ hk0.2.1 hk0.1 dX9_softnessOf_4 (As := [.int (21 : Int32), .int v1]) (st := []) (ok_X9_cell hC.2.2.2.2.2.2.2.1 hk0 h4) rfl rfl (Nat.le_of_ble_eq_true rfl) ⟨Nat.zero_le _, Nat.zero_le _⟩ ?_
  cases h
  exact g_iret hC hE rfl dX9_softnessOf_7 (Nat.zero_le _) (Nat.zero_le _) ⟨rfl, rfl, rfl, rfl, rfl, rfl⟩
noncomputable def f_X9_soften (Fu : Nat) (I : mIT) (k0 : Nat) (v1 : Int32) (v2 : Int32) : Option (mIT) :=
  oB (f_X9_softnessOf Fu I k0 v1) (fun r6 => oB (f_X9_setCell Fu I k0 (21 : Int32) v1 (if (99 : Int32) < (r6 + v2) then (99 : Int32) else (r6 + v2))) (fun r16 => some (r16)))
set_option maxRecDepth 20000 in
theorem ok_X9_soften {l : Launch} {E : mEn} {Fu : Nat} {I : mIT} {R : mRT} {L : mLT} {k0 : Nat} {v1 : Int32} {v2 : Int32} (hst : l.stackTraces = false) (hk0 : mO9 R k0) {out : mIT} (h : f_X9_soften Fu I k0 v1 v2 = some out) : mOk l E mX9_soften [.ref (mB E + k0), .int v1, .int v2] 106 1 I R L 0 0 (mSame none 106 1 (out) R L) := by
  refine mOk_of hst (by decide) (Nat.le_of_ble_eq_true rfl) (fun X hC hE _ => ?_)
  have hC : mC X E mX9_soften RX9 cX9_soften := hC
  show mG X E 0 [(0, .ref (mB E + k0)), (1, .int v1), (2, .int v2)] [] 106 1 I R L 0 0
  unfold f_X9_soften at h
  refine g_aload_n hC dX9_soften_0 rfl (q := 0) rfl ?_
  refine g_bipush hC dX9_soften_1 (v := (21 : Int32)) (by decide) ?_
  refine g_iload_n hC dX9_soften_3 rfl (q := 1) rfl ?_
  refine g_aload_n hC dX9_soften_4 rfl (q := 0) rfl ?_
  refine g_iload_n hC dX9_soften_5 rfl (q := 1) rfl ?_
  obtain ⟨r6, h6, h⟩ := oB_some h
  refine g_cV1 hC cv_X9_softnessOf wd_610 ⟨Nat.le_of_ble_eq_true rfl, Nat.le_of_ble_eq_true rfl⟩ hk0.2.1 hk0.1 dX9_soften_6 (As := [.int v1]) (st := [.int v1, .int (21 : Int32), .ref (mB E + k0)]) (ok_X9_softnessOf hC.2.2.2.2.2.2.2.1 hk0 h6) rfl rfl (Nat.le_of_ble_eq_true rfl) ⟨Nat.zero_le _, Nat.zero_le _⟩ ?_
  refine g_iload_n hC dX9_soften_9 rfl (q := 2) rfl ?_
  refine g_iadd hC dX9_soften_10 ?_
  refine g_bipush hC dX9_soften_11 (v := (99 : Int32)) (by decide) ?_
  refine g_mmin hC wd_635 wd_st_min wd_in_math wd_cd_min (Nat.le_of_ble_eq_true rfl) (Nat.le_of_ble_eq_true rfl) ⟨Nat.zero_le _, Nat.zero_le _⟩ dX9_soften_13 ?_
  obtain ⟨r16, h16, h⟩ := oB_some h
  refine g_cV0 hC cv_X9_setCell wd_636 ⟨Nat.le_of_ble_eq_true rfl, Nat.le_of_ble_eq_true rfl⟩ hk0.2.1 hk0.1 dX9_soften_16 (As := [.int (21 : Int32), .int v1, .int (if (99 : Int32) < (r6 + v2) then (99 : Int32) else (r6 + v2))]) (st := []) (ok_X9_setCell hC.2.2.2.2.2.2.2.1 hk0 h16) rfl rfl (Nat.le_of_ble_eq_true rfl) ⟨Nat.zero_le _, Nat.zero_le _⟩ ?_
  cases h
  exact g_vret hC hE rfl dX9_soften_19 (Nat.zero_le _) (Nat.zero_le _) ⟨rfl, rfl, rfl, rfl, rfl, rfl⟩
noncomputable def f_X9_sizeOf (Fu : Nat) (I : mIT) (k0 : Nat) (v1 : Int32) : Option (Int32) :=
  oB (f_X9_cell Fu I k0 (1 : Int32) v1) (fun r3 => some (r3))
set_option maxRecDepth 20000 in
theorem ok_X9_sizeOf {l : Launch} {E : mEn} {Fu : Nat} {I : mIT} {R : mRT} {L : mLT} {k0 : Nat} {v1 : Int32} (hst : l.stackTraces = false) (hk0 : mO9 R k0) {out : Int32} (h : f_X9_sizeOf Fu I k0 v1 = some out) : mOk l E mX9_sizeOf [.ref (mB E + k0), .int v1] 106 1 I R L 0 0 (mSame (some (.int (out))) 106 1 I R L) := by
  refine mOk_of hst (by decide) (Nat.le_of_ble_eq_true rfl) (fun X hC hE _ => ?_)
  have hC : mC X E mX9_sizeOf RX9 cX9_sizeOf := hC
  show mG X E 0 [(0, .ref (mB E + k0)), (1, .int v1)] [] 106 1 I R L 0 0
  unfold f_X9_sizeOf at h
  refine g_aload_n hC dX9_sizeOf_0 rfl (q := 0) rfl ?_
  refine g_iconst hC dX9_sizeOf_1 (v := (1 : Int32)) (by decide) ?_
  refine g_iload_n hC dX9_sizeOf_2 rfl (q := 1) rfl ?_
  obtain ⟨r3, h3, h⟩ := oB_some h
  refine g_cV1 hC cv_X9_cell wd_543 ⟨Nat.le_of_ble_eq_true rfl, Nat.le_of_ble_eq_true rfl⟩ hk0.2.1 hk0.1 dX9_sizeOf_3 (As := [.int (1 : Int32), .int v1]) (st := []) (ok_X9_cell hC.2.2.2.2.2.2.2.1 hk0 h3) rfl rfl (Nat.le_of_ble_eq_true rfl) ⟨Nat.zero_le _, Nat.zero_le _⟩ ?_
  cases h
  exact g_iret hC hE rfl dX9_sizeOf_6 (Nat.zero_le _) (Nat.zero_le _) ⟨rfl, rfl, rfl, rfl, rfl, rfl⟩
noncomputable def f_X8_isTold (Fu : Nat) (I : mIT) (k0 : Nat) : Option (Int32) :=
  if (I k0 5) ≤ 0 then (some (0 : Int32)) else (some (1 : Int32))
set_option maxRecDepth 20000 in
theorem ok_X8_isTold {l : Launch} {E : mEn} {Fu : Nat} {I : mIT} {R : mRT} {L : mLT} {k0 : Nat} (hst : l.stackTraces = false) (hk0 : mO8 R k0) {out : Int32} (h : f_X8_isTold Fu I k0 = some out) : mOk l E mX8_isTold [.ref (mB E + k0)] 106 1 I R L 0 0 (mSame (some (.int (out))) 106 1 I R L) := by
  refine mOk_of hst (by decide) (Nat.le_of_ble_eq_true rfl) (fun X hC hE _ => ?_)
  have hC : mC X E mX8_isTold RX8 cX8_isTold := hC
  show mG X E 0 [(0, .ref (mB E + k0))] [] 106 1 I R L 0 0
  unfold f_X8_isTold at h
  refine g_aload_n hC dX8_isTold_0 rfl (q := 0) rfl ?_
  refine g_geti hC fd_RX8_27 hk0.2.1 hk0.1 (Or.inl rfl) dX8_isTold_1 ?_
  refine g_if_le hC dX8_isTold_4 (tgt := 11) (by decide) (fun c4 => ?_) (fun c4 => ?_)
  · replace h := (if_pos c4).symm.trans h
    refine g_iconst hC dX8_isTold_11 (v := (0 : Int32)) (by decide) ?_
    cases h
    exact g_zret hC (by decide) hE rfl dX8_isTold_12 (Nat.zero_le _) (Nat.zero_le _) ⟨rfl, rfl, rfl, rfl, rfl, rfl⟩
  · replace h := (if_neg c4).symm.trans h
    refine g_iconst hC dX8_isTold_7 (v := (1 : Int32)) (by decide) ?_
    refine g_goto hC dX8_isTold_8 (tgt := 12) (by decide) ?_
    cases h
    exact g_zret hC (by decide) hE rfl dX8_isTold_12 (Nat.zero_le _) (Nat.zero_le _) ⟨rfl, rfl, rfl, rfl, rfl, rfl⟩
noncomputable def f_X9_hollowOf (Fu : Nat) (I : mIT) (k0 : Nat) (v1 : Int32) : Option (Int32) :=
  oB (f_X9_cell Fu I k0 (11 : Int32) v1) (fun r4 => some (r4))
set_option maxRecDepth 20000 in
theorem ok_X9_hollowOf {l : Launch} {E : mEn} {Fu : Nat} {I : mIT} {R : mRT} {L : mLT} {k0 : Nat} {v1 : Int32} (hst : l.stackTraces = false) (hk0 : mO9 R k0) {out : Int32} (h : f_X9_hollowOf Fu I k0 v1 = some out) : mOk l E mX9_hollowOf [.ref (mB E + k0), .int v1] 106 1 I R L 0 0 (mSame (some (.int (out))) 106 1 I R L) := by
  refine mOk_of hst (by decide) (Nat.le_of_ble_eq_true rfl) (fun X hC hE _ => ?_)
  have hC : mC X E mX9_hollowOf RX9 cX9_hollowOf := hC
  show mG X E 0 [(0, .ref (mB E + k0)), (1, .int v1)] [] 106 1 I R L 0 0
  unfold f_X9_hollowOf at h
  refine g_aload_n hC dX9_hollowOf_0 rfl (q := 0) rfl ?_
  refine g_bipush hC dX9_hollowOf_1 (v := (11 : Int32)) (by decide) ?_
  refine g_iload_n hC dX9_hollowOf_3 rfl (q := 1) rfl ?_
  obtain ⟨r4, h4, h⟩ := oB_some h
  refine g_cV1 hC cv_X9_cell wd_543 ⟨Nat.le_of_ble_eq_true rfl, Nat.le_of_ble_eq_true rfl⟩ hk0.2.1 hk0.1 dX9_hollowOf_4 (As := [.int (11 : Int32), .int v1]) (st := []) (ok_X9_cell hC.2.2.2.2.2.2.2.1 hk0 h4) rfl rfl (Nat.le_of_ble_eq_true rfl) ⟨Nat.zero_le _, Nat.zero_le _⟩ ?_
  cases h
  exact g_iret hC hE rfl dX9_hollowOf_7 (Nat.zero_le _) (Nat.zero_le _) ⟨rfl, rfl, rfl, rfl, rfl, rfl⟩
noncomputable def f_X5_kindOf (Fu : Nat) (I : mIT) (k0 : Nat) (v1 : Int32) : Option (Int32) :=
  if v1 < 0 then (some (0 : Int32)) else (if (nI 10) ≤ v1 then (some (0 : Int32)) else (oG (inB v1 10) (some (I (k0 + 1) (v1).toNatClampNeg))))
set_option maxRecDepth 20000 in
theorem ok_X5_kindOf {l : Launch} {E : mEn} {Fu : Nat} {I : mIT} {R : mRT} {L : mLT} {k0 : Nat} {v1 : Int32} (hst : l.stackTraces = false) (hk0 : mO5 R k0) {out : Int32} (h : f_X5_kindOf Fu I k0 v1 = some out) : mOk l E mX5_kindOf [.ref (mB E + k0), .int v1] 106 1 I R L 0 0 (mSame (some (.int (out))) 106 1 I R L) := by
  refine mOk_of hst (by decide) (Nat.le_of_ble_eq_true rfl) (fun X hC hE _ => ?_)
  have hC : mC X E mX5_kindOf RX5 cX5_kindOf := hC
  show mG X E 0 [(0, .ref (mB E + k0)), (1, .int v1)] [] 106 1 I R L 0 0
  unfold f_X5_kindOf at h
  refine g_iload_n hC dX5_kindOf_0 rfl (q := 1) rfl ?_
  refine g_if_lt hC dX5_kindOf_1 (tgt := 22) (by decide) (fun c1 => ?_) (fun c1 => ?_)
  · replace h := (if_pos c1).symm.trans h
    refine g_iconst hC dX5_kindOf_22 (v := (0 : Int32)) (by decide) ?_
    cases h
    exact g_iret hC hE rfl dX5_kindOf_23 (Nat.zero_le _) (Nat.zero_le _) ⟨rfl, rfl, rfl, rfl, rfl, rfl⟩
  · replace h := (if_neg c1).symm.trans h
    refine g_iload_n hC dX5_kindOf_4 rfl (q := 1) rfl ?_
    refine g_aload_n hC dX5_kindOf_5 rfl (q := 0) rfl ?_
    refine g_getr hC fd_RX5_9 hk0.2.1 hk0.1 (C0 := "") (t0 := _) (Or.inr rfl) hk0.2.2.1.1 dX5_kindOf_6 ?_
    refine g_alenI hC hk0.2.2.1.2.2 hk0.2.2.1.2.1 dX5_kindOf_9 ?_
    refine g_ic_ge hC dX5_kindOf_10 (tgt := 22) (by decide) (fun c10 => ?_) (fun c10 => ?_)
    · replace h := (if_pos c10).symm.trans h
      refine g_iconst hC dX5_kindOf_22 (v := (0 : Int32)) (by decide) ?_
      cases h
      exact g_iret hC hE rfl dX5_kindOf_23 (Nat.zero_le _) (Nat.zero_le _) ⟨rfl, rfl, rfl, rfl, rfl, rfl⟩
    · replace h := (if_neg c10).symm.trans h
      refine g_aload_n hC dX5_kindOf_13 rfl (q := 0) rfl ?_
      refine g_getr hC fd_RX5_9 hk0.2.1 hk0.1 (C0 := "") (t0 := _) (Or.inr rfl) hk0.2.2.1.1 dX5_kindOf_14 ?_
      refine g_iload_n hC dX5_kindOf_17 rfl (q := 1) rfl ?_
      obtain ⟨g18, h⟩ := oG_some h
      refine g_iald hC hk0.2.2.1.2.2 hk0.2.2.1.2.1 (inB_in g18) dX5_kindOf_18 ?_
      refine g_goto hC dX5_kindOf_19 (tgt := 23) (by decide) ?_
      cases h
      exact g_iret hC hE rfl dX5_kindOf_23 (Nat.zero_le _) (Nat.zero_le _) ⟨rfl, rfl, rfl, rfl, rfl, rfl⟩
noncomputable def f_X9_day (Fu : Nat) (I : mIT) (k0 : Nat) : Option (Int32) :=
  oB (f_X9_cell Fu I k0 (0 : Int32) (0 : Int32)) (fun r3 => some (r3))
set_option maxRecDepth 20000 in
theorem ok_X9_day {l : Launch} {E : mEn} {Fu : Nat} {I : mIT} {R : mRT} {L : mLT} {k0 : Nat} (hst : l.stackTraces = false) (hk0 : mO9 R k0) {out : Int32} (h : f_X9_day Fu I k0 = some out) : mOk l E mX9_day [.ref (mB E + k0)] 106 1 I R L 0 0 (mSame (some (.int (out))) 106 1 I R L) := by
  refine mOk_of hst (by decide) (Nat.le_of_ble_eq_true rfl) (fun X hC hE _ => ?_)
  have hC : mC X E mX9_day RX9 cX9_day := hC
  show mG X E 0 [(0, .ref (mB E + k0))] [] 106 1 I R L 0 0
  unfold f_X9_day at h
  refine g_aload_n hC dX9_day_0 rfl (q := 0) rfl ?_
  refine g_iconst hC dX9_day_1 (v := (0 : Int32)) (by decide) ?_
  refine g_iconst hC dX9_day_2 (v := (0 : Int32)) (by decide) ?_
  obtain ⟨r3, h3, h⟩ := oB_some h
  refine g_cV1 hC cv_X9_cell wd_543 ⟨Nat.le_of_ble_eq_true rfl, Nat.le_of_ble_eq_true rfl⟩ hk0.2.1 hk0.1 dX9_day_3 (As := [.int (0 : Int32), .int (0 : Int32)]) (st := []) (ok_X9_cell hC.2.2.2.2.2.2.2.1 hk0 h3) rfl rfl (Nat.le_of_ble_eq_true rfl) ⟨Nat.zero_le _, Nat.zero_le _⟩ ?_
  cases h
  exact g_iret hC hE rfl dX9_day_6 (Nat.zero_le _) (Nat.zero_le _) ⟨rfl, rfl, rfl, rfl, rfl, rfl⟩
noncomputable def f_X8_operandAt (Fu : Nat) (I : mIT) (k0 : Nat) (v1 : Int32) : Option (Int32) :=
  if v1 < 0 then (some (0 : Int32)) else (if (nI 700) ≤ v1 then (some (0 : Int32)) else (if v1 < (nI 700) then (oG (inB v1 700) (oG (inB v1 700) (if (I (k0 + 1) (v1).toNatClampNeg) = (1 : Int32) then (some (I (k0 + 2) (v1).toNatClampNeg)) else (if (I (k0 + 2) (v1).toNatClampNeg) < 0 then (some (0 : Int32)) else (if (nI 7) ≤ (I (k0 + 2) (v1).toNatClampNeg) then (some (0 : Int32)) else (oG (inB (I (k0 + 2) (v1).toNatClampNeg) 7) (some (I (k0 + 4) ((I (k0 + 2) (v1).toNatClampNeg)).toNatClampNeg)))))))) else (some (0 : Int32))))
set_option maxRecDepth 20000 in
theorem ok_X8_operandAt {l : Launch} {E : mEn} {Fu : Nat} {I : mIT} {R : mRT} {L : mLT} {k0 : Nat} {v1 : Int32} (hst : l.stackTraces = false) (hk0 : mO8 R k0) {out : Int32} (h : f_X8_operandAt Fu I k0 v1 = some out) : mOk l E mX8_operandAt [.ref (mB E + k0), .int v1] 106 1 I R L 0 0 (mSame (some (.int (out))) 106 1 I R L) := by
  refine mOk_of hst (by decide) (Nat.le_of_ble_eq_true rfl) (fun X hC hE _ => ?_)
  have hC : mC X E mX8_operandAt RX8 cX8_operandAt := hC
  show mG X E 0 [(0, .ref (mB E + k0)), (1, .int v1)] [] 106 1 I R L 0 0
  unfold f_X8_operandAt at h
  refine g_iload_n hC dX8_operandAt_0 rfl (q := 1) rfl ?_
  refine g_if_lt hC dX8_operandAt_1 (tgt := 22) (by decide) (fun c1 => ?_) (fun c1 => ?_)
  · replace h := (if_pos c1).symm.trans h
    refine g_iconst hC dX8_operandAt_22 (v := (0 : Int32)) (by decide) ?_
    cases h
    exact g_iret hC hE rfl dX8_operandAt_23 (Nat.zero_le _) (Nat.zero_le _) ⟨rfl, rfl, rfl, rfl, rfl, rfl⟩
  · replace h := (if_neg c1).symm.trans h
    refine g_iload_n hC dX8_operandAt_4 rfl (q := 1) rfl ?_
    refine g_aload_n hC dX8_operandAt_5 rfl (q := 0) rfl ?_
    refine g_getr hC fd_RX8_15 hk0.2.1 hk0.1 (C0 := "") (t0 := _) (Or.inr rfl) hk0.2.2.2.1.1 dX8_operandAt_6 ?_
    refine g_alenI hC hk0.2.2.2.1.2.2 hk0.2.2.2.1.2.1 dX8_operandAt_9 ?_
    refine g_ic_ge hC dX8_operandAt_10 (tgt := 22) (by decide) (fun c10 => ?_) (fun c10 => ?_)
    · replace h := (if_pos c10).symm.trans h
      refine g_iconst hC dX8_operandAt_22 (v := (0 : Int32)) (by decide) ?_
      cases h
      exact g_iret hC hE rfl dX8_operandAt_23 (Nat.zero_le _) (Nat.zero_le _) ⟨rfl, rfl, rfl, rfl, rfl, rfl⟩
    · replace h := (if_neg c10).symm.trans h
      refine g_iload_n hC dX8_operandAt_13 rfl (q := 1) rfl ?_
      refine g_aload_n hC dX8_operandAt_14 rfl (q := 0) rfl ?_
      refine g_getr hC fd_RX8_9 hk0.2.1 hk0.1 (C0 := "") (t0 := _) (Or.inr rfl) hk0.2.2.1.1 dX8_operandAt_15 ?_
      refine g_alenI hC hk0.2.2.1.2.2 hk0.2.2.1.2.1 dX8_operandAt_18 ?_
      refine g_ic_lt hC dX8_operandAt_19 (tgt := 24) (by decide) (fun c19 => ?_) (fun c19 => ?_)
      · replace h := (if_pos c19).symm.trans h
        refine g_aload_n hC dX8_operandAt_24 rfl (q := 0) rfl ?_
        refine g_getr hC fd_RX8_15 hk0.2.1 hk0.1 (C0 := "") (t0 := _) (Or.inr rfl) hk0.2.2.2.1.1 dX8_operandAt_25 ?_
        refine g_iload_n hC dX8_operandAt_28 rfl (q := 1) rfl ?_
        obtain ⟨g29, h⟩ := oG_some h
        refine g_iald hC hk0.2.2.2.1.2.2 hk0.2.2.2.1.2.1 (inB_in g29) dX8_operandAt_29 ?_
        refine g_istore_n hC dX8_operandAt_30 rfl rfl (by decide) (lv' := [(2, .int (I (k0 + 2) (v1).toNatClampNeg)), (0, .ref (mB E + k0)), (1, .int v1)]) rfl ?_
        refine g_aload_n hC dX8_operandAt_31 rfl (q := 1) rfl ?_
        refine g_getr hC fd_RX8_9 hk0.2.1 hk0.1 (C0 := "") (t0 := _) (Or.inr rfl) hk0.2.2.1.1 dX8_operandAt_32 ?_
        refine g_iload_n hC dX8_operandAt_35 rfl (q := 2) rfl ?_
        obtain ⟨g36, h⟩ := oG_some h
        refine g_iald hC hk0.2.2.1.2.2 hk0.2.2.1.2.1 (inB_in g36) dX8_operandAt_36 ?_
        refine g_iconst hC dX8_operandAt_37 (v := (1 : Int32)) (by decide) ?_
        refine g_ic_ne hC dX8_operandAt_38 (tgt := 43) (by decide) (fun c38 => ?_) (fun c38 => ?_)
        · replace h := (if_neg c38).symm.trans h
          refine g_iload_n hC dX8_operandAt_43 rfl (q := 0) rfl ?_
          refine g_if_lt hC dX8_operandAt_44 (tgt := 65) (by decide) (fun c44 => ?_) (fun c44 => ?_)
          · replace h := (if_pos c44).symm.trans h
            refine g_iconst hC dX8_operandAt_65 (v := (0 : Int32)) (by decide) ?_
            cases h
            exact g_iret hC hE rfl dX8_operandAt_66 (Nat.zero_le _) (Nat.zero_le _) ⟨rfl, rfl, rfl, rfl, rfl, rfl⟩
          · replace h := (if_neg c44).symm.trans h
            refine g_iload_n hC dX8_operandAt_47 rfl (q := 0) rfl ?_
            refine g_aload_n hC dX8_operandAt_48 rfl (q := 1) rfl ?_
            refine g_getr hC fd_RX8_21 hk0.2.1 hk0.1 (C0 := "") (t0 := _) (Or.inr rfl) hk0.2.2.2.2.2.1.1 dX8_operandAt_49 ?_
            refine g_alenI hC hk0.2.2.2.2.2.1.2.2 hk0.2.2.2.2.2.1.2.1 dX8_operandAt_52 ?_
            refine g_ic_ge hC dX8_operandAt_53 (tgt := 65) (by decide) (fun c53 => ?_) (fun c53 => ?_)
            · replace h := (if_pos c53).symm.trans h
              refine g_iconst hC dX8_operandAt_65 (v := (0 : Int32)) (by decide) ?_
              cases h
              exact g_iret hC hE rfl dX8_operandAt_66 (Nat.zero_le _) (Nat.zero_le _) ⟨rfl, rfl, rfl, rfl, rfl, rfl⟩
            · replace h := (if_neg c53).symm.trans h
              refine g_aload_n hC dX8_operandAt_56 rfl (q := 1) rfl ?_
              refine g_getr hC fd_RX8_21 hk0.2.1 hk0.1 (C0 := "") (t0 := _) (Or.inr rfl) hk0.2.2.2.2.2.1.1 dX8_operandAt_57 ?_
              refine g_iload_n hC dX8_operandAt_60 rfl (q := 0) rfl ?_
              obtain ⟨g61, h⟩ := oG_some h
              refine g_iald hC hk0.2.2.2.2.2.1.2.2 hk0.2.2.2.2.2.1.2.1 (inB_in g61) dX8_operandAt_61 ?_
              refine g_goto hC dX8_operandAt_62 (tgt := 66) (by decide) ?_
              cases h
              exact g_iret hC hE rfl dX8_operandAt_66 (Nat.zero_le _) (Nat.zero_le _) ⟨rfl, rfl, rfl, rfl, rfl, rfl⟩
        · replace h := (if_pos c38).symm.trans h
          refine g_iload_n hC dX8_operandAt_41 rfl (q := 0) rfl ?_
          cases h
          exact g_iret hC hE rfl dX8_operandAt_42 (Nat.zero_le _) (Nat.zero_le _) ⟨rfl, rfl, rfl, rfl, rfl, rfl⟩
      · replace h := (if_neg c19).symm.trans h
        refine g_iconst hC dX8_operandAt_22 (v := (0 : Int32)) (by decide) ?_
        cases h
        exact g_iret hC hE rfl dX8_operandAt_23 (Nat.zero_le _) (Nat.zero_le _) ⟨rfl, rfl, rfl, rfl, rfl, rfl⟩
noncomputable def f_X8_joined (Fu : Nat)  (v0 : Int32) (v1 : Int32) (v2 : Int32) : Option (Int32) :=
  if v0 = (10 : Int32) then (if v1 = 0 then (if v2 = 0 then (some (0 : Int32)) else (some (1 : Int32))) else (some (1 : Int32))) else if v0 = (20 : Int32) then (if v1 = 0 then (some (0 : Int32)) else (if v2 = 0 then (some (0 : Int32)) else (some (1 : Int32)))) else if v0 = (40 : Int32) then (if v2 ≤ v1 then (some (0 : Int32)) else (some (1 : Int32))) else if v0 = (41 : Int32) then (if v1 = v2 then (some (1 : Int32)) else (some (0 : Int32))) else if v0 = (50 : Int32) then (some (v1 + v2)) else if v0 = (51 : Int32) then (some (v1 - v2)) else if v0 = (60 : Int32) then (some (v1 * v2)) else if v0 = (61 : Int32) then (if v2 = 0 then (some (0 : Int32)) else (oG (v2 != 0) (some (v1 / v2)))) else (some (0 : Int32))
set_option maxRecDepth 20000 in
theorem ok_X8_joined {l : Launch} {E : mEn} {Fu : Nat} {I : mIT} {R : mRT} {L : mLT} {v0 : Int32} {v1 : Int32} {v2 : Int32} (hst : l.stackTraces = false)  {out : Int32} (h : f_X8_joined Fu  v0 v1 v2 = some out) : mOk l E mX8_joined [.int v0, .int v1, .int v2] 106 1 I R L 0 0 (mSame (some (.int (out))) 106 1 I R L) := by
  refine mOk_of hst (by decide) (Nat.le_of_ble_eq_true rfl) (fun X hC hE _ => ?_)
  have hC : mC X E mX8_joined RX8 cX8_joined := hC
  show mG X E 0 [(0, .int v0), (1, .int v1), (2, .int v2)] [] 106 1 I R L 0 0
  unfold f_X8_joined at h
  refine g_iload_n hC dX8_joined_0 rfl (q := 0) rfl ?_
  by_cases c1_10 : v0 = (10 : Int32)
  · replace h := (if_pos c1_10).symm.trans h
    refine g_look hC dX8_joined_1 (off := 75) (tgt := 76) rfl (by rw [c1_10]; rfl) (by decide) ?_
    refine g_iload_n hC dX8_joined_76 rfl (q := 1) rfl ?_
    refine g_if_ne hC dX8_joined_77 (tgt := 84) (by decide) (fun c77 => ?_) (fun c77 => ?_)
    · replace h := (if_neg c77).symm.trans h
      refine g_iconst hC dX8_joined_84 (v := (1 : Int32)) (by decide) ?_
      refine g_goto hC dX8_joined_85 (tgt := 89) (by decide) ?_
      cases h
      exact g_iret hC hE rfl dX8_joined_89 (Nat.zero_le _) (Nat.zero_le _) ⟨rfl, rfl, rfl, rfl, rfl, rfl⟩
    · replace h := (if_pos c77).symm.trans h
      refine g_iload_n hC dX8_joined_80 rfl (q := 2) rfl ?_
      refine g_if_eq hC dX8_joined_81 (tgt := 88) (by decide) (fun c81 => ?_) (fun c81 => ?_)
      · replace h := (if_pos c81).symm.trans h
        refine g_iconst hC dX8_joined_88 (v := (0 : Int32)) (by decide) ?_
        cases h
        exact g_iret hC hE rfl dX8_joined_89 (Nat.zero_le _) (Nat.zero_le _) ⟨rfl, rfl, rfl, rfl, rfl, rfl⟩
      · replace h := (if_neg c81).symm.trans h
        refine g_iconst hC dX8_joined_84 (v := (1 : Int32)) (by decide) ?_
        refine g_goto hC dX8_joined_85 (tgt := 89) (by decide) ?_
        cases h
        exact g_iret hC hE rfl dX8_joined_89 (Nat.zero_le _) (Nat.zero_le _) ⟨rfl, rfl, rfl, rfl, rfl, rfl⟩
  replace h := (if_neg c1_10).symm.trans h
  by_cases c1_20 : v0 = (20 : Int32)
  · replace h := (if_pos c1_20).symm.trans h
    refine g_look hC dX8_joined_1 (off := 89) (tgt := 90) rfl (by rw [c1_20]; rfl) (by decide) ?_
    refine g_iload_n hC dX8_joined_90 rfl (q := 1) rfl ?_
    refine g_if_eq hC dX8_joined_91 (tgt := 102) (by decide) (fun c91 => ?_) (fun c91 => ?_)
    · replace h := (if_pos c91).symm.trans h
      refine g_iconst hC dX8_joined_102 (v := (0 : Int32)) (by decide) ?_
      cases h
      exact g_iret hC hE rfl dX8_joined_103 (Nat.zero_le _) (Nat.zero_le _) ⟨rfl, rfl, rfl, rfl, rfl, rfl⟩
    · replace h := (if_neg c91).symm.trans h
      refine g_iload_n hC dX8_joined_94 rfl (q := 2) rfl ?_
      refine g_if_eq hC dX8_joined_95 (tgt := 102) (by decide) (fun c95 => ?_) (fun c95 => ?_)
      · replace h := (if_pos c95).symm.trans h
        refine g_iconst hC dX8_joined_102 (v := (0 : Int32)) (by decide) ?_
        cases h
        exact g_iret hC hE rfl dX8_joined_103 (Nat.zero_le _) (Nat.zero_le _) ⟨rfl, rfl, rfl, rfl, rfl, rfl⟩
      · replace h := (if_neg c95).symm.trans h
        refine g_iconst hC dX8_joined_98 (v := (1 : Int32)) (by decide) ?_
        refine g_goto hC dX8_joined_99 (tgt := 103) (by decide) ?_
        cases h
        exact g_iret hC hE rfl dX8_joined_103 (Nat.zero_le _) (Nat.zero_le _) ⟨rfl, rfl, rfl, rfl, rfl, rfl⟩
  replace h := (if_neg c1_20).symm.trans h
  by_cases c1_40 : v0 = (40 : Int32)
  · replace h := (if_pos c1_40).symm.trans h
    refine g_look hC dX8_joined_1 (off := 103) (tgt := 104) rfl (by rw [c1_40]; rfl) (by decide) ?_
    refine g_iload_n hC dX8_joined_104 rfl (q := 1) rfl ?_
    refine g_iload_n hC dX8_joined_105 rfl (q := 2) rfl ?_
    refine g_ic_ge hC dX8_joined_106 (tgt := 113) (by decide) (fun c106 => ?_) (fun c106 => ?_)
    · replace h := (if_pos c106).symm.trans h
      refine g_iconst hC dX8_joined_113 (v := (0 : Int32)) (by decide) ?_
      cases h
      exact g_iret hC hE rfl dX8_joined_114 (Nat.zero_le _) (Nat.zero_le _) ⟨rfl, rfl, rfl, rfl, rfl, rfl⟩
    · replace h := (if_neg c106).symm.trans h
      refine g_iconst hC dX8_joined_109 (v := (1 : Int32)) (by decide) ?_
      refine g_goto hC dX8_joined_110 (tgt := 114) (by decide) ?_
      cases h
      exact g_iret hC hE rfl dX8_joined_114 (Nat.zero_le _) (Nat.zero_le _) ⟨rfl, rfl, rfl, rfl, rfl, rfl⟩
  replace h := (if_neg c1_40).symm.trans h
  by_cases c1_41 : v0 = (41 : Int32)
  · replace h := (if_pos c1_41).symm.trans h
    refine g_look hC dX8_joined_1 (off := 114) (tgt := 115) rfl (by rw [c1_41]; rfl) (by decide) ?_
    refine g_iload_n hC dX8_joined_115 rfl (q := 1) rfl ?_
    refine g_iload_n hC dX8_joined_116 rfl (q := 2) rfl ?_
    refine g_ic_ne hC dX8_joined_117 (tgt := 124) (by decide) (fun c117 => ?_) (fun c117 => ?_)
    · replace h := (if_neg c117).symm.trans h
      refine g_iconst hC dX8_joined_124 (v := (0 : Int32)) (by decide) ?_
      cases h
      exact g_iret hC hE rfl dX8_joined_125 (Nat.zero_le _) (Nat.zero_le _) ⟨rfl, rfl, rfl, rfl, rfl, rfl⟩
    · replace h := (if_pos c117).symm.trans h
      refine g_iconst hC dX8_joined_120 (v := (1 : Int32)) (by decide) ?_
      refine g_goto hC dX8_joined_121 (tgt := 125) (by decide) ?_
      cases h
      exact g_iret hC hE rfl dX8_joined_125 (Nat.zero_le _) (Nat.zero_le _) ⟨rfl, rfl, rfl, rfl, rfl, rfl⟩
  replace h := (if_neg c1_41).symm.trans h
  by_cases c1_50 : v0 = (50 : Int32)
  · replace h := (if_pos c1_50).symm.trans h
    refine g_look hC dX8_joined_1 (off := 125) (tgt := 126) rfl (by rw [c1_50]; rfl) (by decide) ?_
    refine g_iload_n hC dX8_joined_126 rfl (q := 1) rfl ?_
    refine g_iload_n hC dX8_joined_127 rfl (q := 2) rfl ?_
    refine g_iadd hC dX8_joined_128 ?_
    cases h
    exact g_iret hC hE rfl dX8_joined_129 (Nat.zero_le _) (Nat.zero_le _) ⟨rfl, rfl, rfl, rfl, rfl, rfl⟩
  replace h := (if_neg c1_50).symm.trans h
  by_cases c1_51 : v0 = (51 : Int32)
  · replace h := (if_pos c1_51).symm.trans h
    refine g_look hC dX8_joined_1 (off := 129) (tgt := 130) rfl (by rw [c1_51]; rfl) (by decide) ?_
    refine g_iload_n hC dX8_joined_130 rfl (q := 1) rfl ?_
    refine g_iload_n hC dX8_joined_131 rfl (q := 2) rfl ?_
    refine g_isub hC dX8_joined_132 ?_
    cases h
    exact g_iret hC hE rfl dX8_joined_133 (Nat.zero_le _) (Nat.zero_le _) ⟨rfl, rfl, rfl, rfl, rfl, rfl⟩
  replace h := (if_neg c1_51).symm.trans h
  by_cases c1_60 : v0 = (60 : Int32)
  · replace h := (if_pos c1_60).symm.trans h
    refine g_look hC dX8_joined_1 (off := 133) (tgt := 134) rfl (by rw [c1_60]; rfl) (by decide) ?_
    refine g_iload_n hC dX8_joined_134 rfl (q := 1) rfl ?_
    refine g_iload_n hC dX8_joined_135 rfl (q := 2) rfl ?_
    refine g_imul hC dX8_joined_136 ?_
    cases h
    exact g_iret hC hE rfl dX8_joined_137 (Nat.zero_le _) (Nat.zero_le _) ⟨rfl, rfl, rfl, rfl, rfl, rfl⟩
  replace h := (if_neg c1_60).symm.trans h
  by_cases c1_61 : v0 = (61 : Int32)
  · replace h := (if_pos c1_61).symm.trans h
    refine g_look hC dX8_joined_1 (off := 137) (tgt := 138) rfl (by rw [c1_61]; rfl) (by decide) ?_
    refine g_iload_n hC dX8_joined_138 rfl (q := 2) rfl ?_
    refine g_if_ne hC dX8_joined_139 (tgt := 146) (by decide) (fun c139 => ?_) (fun c139 => ?_)
    · replace h := (if_neg c139).symm.trans h
      refine g_iload_n hC dX8_joined_146 rfl (q := 1) rfl ?_
      refine g_iload_n hC dX8_joined_147 rfl (q := 2) rfl ?_
      obtain ⟨g148, h⟩ := oG_some h
      refine g_idiv hC dX8_joined_148 (mNz g148) ?_
      cases h
      exact g_iret hC hE rfl dX8_joined_149 (Nat.zero_le _) (Nat.zero_le _) ⟨rfl, rfl, rfl, rfl, rfl, rfl⟩
    · replace h := (if_pos c139).symm.trans h
      refine g_iconst hC dX8_joined_142 (v := (0 : Int32)) (by decide) ?_
      refine g_goto hC dX8_joined_143 (tgt := 149) (by decide) ?_
      cases h
      exact g_iret hC hE rfl dX8_joined_149 (Nat.zero_le _) (Nat.zero_le _) ⟨rfl, rfl, rfl, rfl, rfl, rfl⟩
  replace h := (if_neg c1_61).symm.trans h
  refine g_look hC dX8_joined_1 (off := 149) (tgt := 150) rfl (by rw [lv_osw c1_10 (by decide)]; rw [lv_osw c1_20 (by decide)]; rw [lv_osw c1_40 (by decide)]; rw [lv_osw c1_41 (by decide)]; rw [lv_osw c1_50 (by decide)]; rw [lv_osw c1_51 (by decide)]; rw [lv_osw c1_60 (by decide)]; rw [lv_osw c1_61 (by decide)]; rfl) (by decide) ?_
  refine g_iconst hC dX8_joined_150 (v := (0 : Int32)) (by decide) ?_
  cases h
  exact g_iret hC hE rfl dX8_joined_151 (Nat.zero_le _) (Nat.zero_le _) ⟨rfl, rfl, rfl, rfl, rfl, rfl⟩
noncomputable def b_X8_worth_100 (Fu : Nat) (k0 : Nat) (k60_ : Int32 × Int32 × mIT → Option (Int32 × mIT)) (v8 : Int32) (v9 : Int32) (I : mIT) : Option (Int32 × mIT) :=
  if v8 < 0 then (k60_ (v8, (v9 + (1 : Int32)), I)) else (if (nI 40) ≤ v8 then (k60_ (v8, (v9 + (1 : Int32)), I)) else (oB (f_X8_operandAt Fu I k0 v9) (fun r124 => oG (inB v8 40) (k60_ ((v8 + (1 : Int32)), (v9 + (1 : Int32)), (mU I (k0 + 5) (v8).toNatClampNeg r124))))))
set_option maxRecDepth 20000 in
theorem bo_X8_worth_100 {X : mXT} {E : mEn} {Fu : Nat} {R : mRT} {L : mLT} {k0 : Nat} (hC : mC X E mX8_worth RX8 cX8_worth) (hk0 : mO8 R k0)  {out : Int32 × mIT} (hE : mEd X E 0 0 (mSame (some (.int (out.1))) 106 1 (out.2) R L)) (k60_ : Int32 × Int32 × mIT → Option (Int32 × mIT)) (hk60_ : ∀ (v8 : Int32) (v9 : Int32) (I : mIT),  k60_ (v8, v9, I) = some out → mG X E 60 [(0, .ref (mB E + k0)), (8, .int v8), (9, .int v9)] [] 106 1 I R L 0 0) (v8 : Int32) (v9 : Int32) (I : mIT) (h : b_X8_worth_100 Fu k0 k60_ v8 v9 I = some out) : mG X E 100 [(0, .ref (mB E + k0)), (8, .int v8), (9, .int v9)] [] 106 1 I R L 0 0 := by
  unfold b_X8_worth_100 at h
  refine g_iload hC dX8_worth_100 (q := 1) rfl ?_
  refine g_if_lt hC dX8_worth_102 (tgt := 235) (by decide) (fun c102 => ?_) (fun c102 => ?_)
  · replace h := (if_pos c102).symm.trans h
    refine g_iinc hC dX8_worth_235 rfl (q := 2) rfl (w := (v9 + (1 : Int32))) rfl (by decide) (lv' := [(9, .int (v9 + (1 : Int32))), (0, .ref (mB E + k0)), (8, .int v8)]) rfl ?_
    refine g_goto hC dX8_worth_238 (tgt := 60) (by decide) ?_
    refine g_lv [1, 2, 0] rfl ?_
    exact hk60_ v8 (v9 + (1 : Int32)) I h
  · replace h := (if_neg c102).symm.trans h
    refine g_iload hC dX8_worth_105 (q := 1) rfl ?_
    refine g_aload_n hC dX8_worth_107 rfl (q := 0) rfl ?_
    refine g_getr hC fd_RX8_24 hk0.2.1 hk0.1 (C0 := "") (t0 := _) (Or.inr rfl) hk0.2.2.2.2.2.2.1 dX8_worth_108 ?_
    refine g_alenI hC hk0.2.2.2.2.2.2.2.2 hk0.2.2.2.2.2.2.2.1 dX8_worth_111 ?_
    refine g_ic_ge hC dX8_worth_112 (tgt := 235) (by decide) (fun c112 => ?_) (fun c112 => ?_)
    · replace h := (if_pos c112).symm.trans h
      refine g_iinc hC dX8_worth_235 rfl (q := 2) rfl (w := (v9 + (1 : Int32))) rfl (by decide) (lv' := [(9, .int (v9 + (1 : Int32))), (0, .ref (mB E + k0)), (8, .int v8)]) rfl ?_
      refine g_goto hC dX8_worth_238 (tgt := 60) (by decide) ?_
      refine g_lv [1, 2, 0] rfl ?_
      exact hk60_ v8 (v9 + (1 : Int32)) I h
    · replace h := (if_neg c112).symm.trans h
      refine g_aload_n hC dX8_worth_115 rfl (q := 0) rfl ?_
      refine g_getr hC fd_RX8_24 hk0.2.1 hk0.1 (C0 := "") (t0 := _) (Or.inr rfl) hk0.2.2.2.2.2.2.1 dX8_worth_116 ?_
      refine g_iload hC dX8_worth_119 (q := 1) rfl ?_
      refine g_aload_n hC dX8_worth_121 rfl (q := 0) rfl ?_
      refine g_iload hC dX8_worth_122 (q := 2) rfl ?_
      obtain ⟨r124, h124, h⟩ := oB_some h
      refine g_cV1 hC cv_X8_operandAt wd_619 ⟨Nat.le_of_ble_eq_true rfl, Nat.le_of_ble_eq_true rfl⟩ hk0.2.1 hk0.1 dX8_worth_124 (As := [.int v9]) (st := [.int v8, .ref (mB E + (k0 + 5))]) (ok_X8_operandAt hC.2.2.2.2.2.2.2.1 hk0 h124) rfl rfl (Nat.le_of_ble_eq_true rfl) ⟨Nat.zero_le _, Nat.zero_le _⟩ ?_
      obtain ⟨g127, h⟩ := oG_some h
      refine g_iast hC hk0.2.2.2.2.2.2.2.2 hk0.2.2.2.2.2.2.2.1 (inB_in g127) dX8_worth_127 (nm_e ?_)
      refine g_iinc hC dX8_worth_128 rfl (q := 1) rfl (w := (v8 + (1 : Int32))) rfl (by decide) (lv' := [(8, .int (v8 + (1 : Int32))), (0, .ref (mB E + k0)), (9, .int v9)]) rfl ?_
      refine g_goto hC dX8_worth_131 (tgt := 235) (by decide) ?_
      refine g_iinc hC dX8_worth_235 rfl (q := 2) rfl (w := (v9 + (1 : Int32))) rfl (by decide) (lv' := [(9, .int (v9 + (1 : Int32))), (8, .int (v8 + (1 : Int32))), (0, .ref (mB E + k0))]) rfl ?_
      refine g_goto hC dX8_worth_238 (tgt := 60) (by decide) ?_
      refine g_lv [2, 1, 0] rfl ?_
      exact hk60_ (v8 + (1 : Int32)) (v9 + (1 : Int32)) (mU I (k0 + 5) (v8).toNatClampNeg r124) h
noncomputable def b_X8_worth_60 (Fu : Nat) (k0 : Nat) (k60_ : Int32 × Int32 × mIT → Option (Int32 × mIT)) (v8 : Int32) (v9 : Int32) (I : mIT) : Option (Int32 × mIT) :=
  if (I k0 5) ≤ v9 then (oG (inB (0 : Int32) 40) (some ((I (k0 + 5) ((0 : Int32)).toNatClampNeg), I))) else (if (nI 700) ≤ v9 then (oG (inB (0 : Int32) 40) (some ((I (k0 + 5) ((0 : Int32)).toNatClampNeg), I))) else (oG (inB v9 700) (if (I (k0 + 1) (v9).toNatClampNeg) = (1 : Int32) then (b_X8_worth_100 Fu k0 k60_ v8 v9 I) else (if (I (k0 + 1) (v9).toNatClampNeg) = (2 : Int32) then (b_X8_worth_100 Fu k0 k60_ v8 v9 I) else (if (I (k0 + 1) (v9).toNatClampNeg) = (30 : Int32) then (if v8 < (1 : Int32) then (k60_ (v8, (v9 + (1 : Int32)), I)) else (if (nI 40) < v8 then (k60_ (v8, (v9 + (1 : Int32)), I)) else (oG (inB (v8 - (1 : Int32)) 40) (if (I (k0 + 5) ((v8 - (1 : Int32))).toNatClampNeg) = 0 then (oG (inB (v8 - (1 : Int32)) 40) (k60_ (v8, (v9 + (1 : Int32)), (mU I (k0 + 5) ((v8 - (1 : Int32))).toNatClampNeg (1 : Int32))))) else (oG (inB (v8 - (1 : Int32)) 40) (k60_ (v8, (v9 + (1 : Int32)), (mU I (k0 + 5) ((v8 - (1 : Int32))).toNatClampNeg (0 : Int32))))))))) else (if v8 < (2 : Int32) then (k60_ (v8, (v9 + (1 : Int32)), I)) else (if (nI 40) < v8 then (k60_ (v8, (v9 + (1 : Int32)), I)) else (oG (inB ((v8 + (-1 : Int32)) - (1 : Int32)) 40) (oG (inB (v8 + (-1 : Int32)) 40) (oB (f_X8_joined Fu (I (k0 + 1) (v9).toNatClampNeg) (I (k0 + 5) (((v8 + (-1 : Int32)) - (1 : Int32))).toNatClampNeg) (I (k0 + 5) ((v8 + (-1 : Int32))).toNatClampNeg)) (fun r231 => oG (inB ((v8 + (-1 : Int32)) - (1 : Int32)) 40) (k60_ ((v8 + (-1 : Int32)), (v9 + (1 : Int32)), (mU I (k0 + 5) (((v8 + (-1 : Int32)) - (1 : Int32))).toNatClampNeg r231))))))))))))))
set_option maxRecDepth 20000 in
theorem bo_X8_worth_60 {X : mXT} {E : mEn} {Fu : Nat} {R : mRT} {L : mLT} {k0 : Nat} (hC : mC X E mX8_worth RX8 cX8_worth) (hk0 : mO8 R k0)  {out : Int32 × mIT} (hE : mEd X E 0 0 (mSame (some (.int (out.1))) 106 1 (out.2) R L)) (k60_ : Int32 × Int32 × mIT → Option (Int32 × mIT)) (hk60_ : ∀ (v8 : Int32) (v9 : Int32) (I : mIT),  k60_ (v8, v9, I) = some out → mG X E 60 [(0, .ref (mB E + k0)), (8, .int v8), (9, .int v9)] [] 106 1 I R L 0 0) (v8 : Int32) (v9 : Int32) (I : mIT) (h : b_X8_worth_60 Fu k0 k60_ v8 v9 I = some out) : mG X E 60 [(0, .ref (mB E + k0)), (8, .int v8), (9, .int v9)] [] 106 1 I R L 0 0 := by
  unfold b_X8_worth_60 at h
  refine g_iload hC dX8_worth_60 (q := 2) rfl ?_
  refine g_aload_n hC dX8_worth_62 rfl (q := 0) rfl ?_
  refine g_geti hC fd_RX8_27 hk0.2.1 hk0.1 (Or.inl rfl) dX8_worth_63 ?_
  refine g_ic_ge hC dX8_worth_66 (tgt := 241) (by decide) (fun c66 => ?_) (fun c66 => ?_)
  · replace h := (if_pos c66).symm.trans h
    refine g_aload_n hC dX8_worth_241 rfl (q := 0) rfl ?_
    refine g_getr hC fd_RX8_24 hk0.2.1 hk0.1 (C0 := "") (t0 := _) (Or.inr rfl) hk0.2.2.2.2.2.2.1 dX8_worth_242 ?_
    refine g_iconst hC dX8_worth_245 (v := (0 : Int32)) (by decide) ?_
    obtain ⟨g246, h⟩ := oG_some h
    refine g_iald hC hk0.2.2.2.2.2.2.2.2 hk0.2.2.2.2.2.2.2.1 (inB_in g246) dX8_worth_246 ?_
    cases h
    exact g_iret hC hE rfl dX8_worth_247 (Nat.zero_le _) (Nat.zero_le _) ⟨rfl, rfl, rfl, rfl, rfl, rfl⟩
  · replace h := (if_neg c66).symm.trans h
    refine g_iload hC dX8_worth_69 (q := 2) rfl ?_
    refine g_aload_n hC dX8_worth_71 rfl (q := 0) rfl ?_
    refine g_getr hC fd_RX8_9 hk0.2.1 hk0.1 (C0 := "") (t0 := _) (Or.inr rfl) hk0.2.2.1.1 dX8_worth_72 ?_
    refine g_alenI hC hk0.2.2.1.2.2 hk0.2.2.1.2.1 dX8_worth_75 ?_
    refine g_ic_ge hC dX8_worth_76 (tgt := 241) (by decide) (fun c76 => ?_) (fun c76 => ?_)
    · replace h := (if_pos c76).symm.trans h
      refine g_aload_n hC dX8_worth_241 rfl (q := 0) rfl ?_
      refine g_getr hC fd_RX8_24 hk0.2.1 hk0.1 (C0 := "") (t0 := _) (Or.inr rfl) hk0.2.2.2.2.2.2.1 dX8_worth_242 ?_
      refine g_iconst hC dX8_worth_245 (v := (0 : Int32)) (by decide) ?_
      obtain ⟨g246, h⟩ := oG_some h
      refine g_iald hC hk0.2.2.2.2.2.2.2.2 hk0.2.2.2.2.2.2.2.1 (inB_in g246) dX8_worth_246 ?_
      cases h
      exact g_iret hC hE rfl dX8_worth_247 (Nat.zero_le _) (Nat.zero_le _) ⟨rfl, rfl, rfl, rfl, rfl, rfl⟩
    · replace h := (if_neg c76).symm.trans h
      refine g_aload_n hC dX8_worth_79 rfl (q := 0) rfl ?_
      refine g_getr hC fd_RX8_9 hk0.2.1 hk0.1 (C0 := "") (t0 := _) (Or.inr rfl) hk0.2.2.1.1 dX8_worth_80 ?_
      refine g_iload hC dX8_worth_83 (q := 2) rfl ?_
      obtain ⟨g85, h⟩ := oG_some h
      refine g_iald hC hk0.2.2.1.2.2 hk0.2.2.1.2.1 (inB_in g85) dX8_worth_85 ?_
      refine g_istore hC dX8_worth_86 rfl (by decide) (lv' := [(10, .int (I (k0 + 1) (v9).toNatClampNeg)), (0, .ref (mB E + k0)), (8, .int v8), (9, .int v9)]) rfl ?_
      refine g_iload hC dX8_worth_88 (q := 0) rfl ?_
      refine g_iconst hC dX8_worth_90 (v := (1 : Int32)) (by decide) ?_
      refine g_ic_eq hC dX8_worth_91 (tgt := 100) (by decide) (fun c91 => ?_) (fun c91 => ?_)
      · replace h := (if_pos c91).symm.trans h
        refine g_lv [1, 2, 3] rfl ?_
        exact bo_X8_worth_100 hC hk0 hE k60_ hk60_ (v8) (v9) (I) h
      · replace h := (if_neg c91).symm.trans h
        refine g_iload hC dX8_worth_94 (q := 0) rfl ?_
        refine g_iconst hC dX8_worth_96 (v := (2 : Int32)) (by decide) ?_
        refine g_ic_ne hC dX8_worth_97 (tgt := 134) (by decide) (fun c97 => ?_) (fun c97 => ?_)
        · replace h := (if_neg c97).symm.trans h
          refine g_iload hC dX8_worth_134 (q := 0) rfl ?_
          refine g_bipush hC dX8_worth_136 (v := (30 : Int32)) (by decide) ?_
          refine g_ic_ne hC dX8_worth_138 (tgt := 186) (by decide) (fun c138 => ?_) (fun c138 => ?_)
          · replace h := (if_neg c138).symm.trans h
            refine g_iload hC dX8_worth_186 (q := 2) rfl ?_
            refine g_iconst hC dX8_worth_188 (v := (2 : Int32)) (by decide) ?_
            refine g_ic_lt hC dX8_worth_189 (tgt := 235) (by decide) (fun c189 => ?_) (fun c189 => ?_)
            · replace h := (if_pos c189).symm.trans h
              refine g_iinc hC dX8_worth_235 rfl (q := 3) rfl (w := (v9 + (1 : Int32))) rfl (by decide) (lv' := [(9, .int (v9 + (1 : Int32))), (10, .int (I (k0 + 1) (v9).toNatClampNeg)), (0, .ref (mB E + k0)), (8, .int v8)]) rfl ?_
              refine g_goto hC dX8_worth_238 (tgt := 60) (by decide) ?_
              refine g_lv [2, 3, 0] rfl ?_
              exact hk60_ v8 (v9 + (1 : Int32)) I h
            · replace h := (if_neg c189).symm.trans h
              refine g_iload hC dX8_worth_192 (q := 2) rfl ?_
              refine g_aload_n hC dX8_worth_194 rfl (q := 1) rfl ?_
              refine g_getr hC fd_RX8_24 hk0.2.1 hk0.1 (C0 := "") (t0 := _) (Or.inr rfl) hk0.2.2.2.2.2.2.1 dX8_worth_195 ?_
              refine g_alenI hC hk0.2.2.2.2.2.2.2.2 hk0.2.2.2.2.2.2.2.1 dX8_worth_198 ?_
              refine g_ic_gt hC dX8_worth_199 (tgt := 235) (by decide) (fun c199 => ?_) (fun c199 => ?_)
              · replace h := (if_pos c199).symm.trans h
                refine g_iinc hC dX8_worth_235 rfl (q := 3) rfl (w := (v9 + (1 : Int32))) rfl (by decide) (lv' := [(9, .int (v9 + (1 : Int32))), (10, .int (I (k0 + 1) (v9).toNatClampNeg)), (0, .ref (mB E + k0)), (8, .int v8)]) rfl ?_
                refine g_goto hC dX8_worth_238 (tgt := 60) (by decide) ?_
                refine g_lv [2, 3, 0] rfl ?_
                exact hk60_ v8 (v9 + (1 : Int32)) I h
              · replace h := (if_neg c199).symm.trans h
                refine g_iinc hC dX8_worth_202 rfl (q := 2) rfl (w := (v8 + (-1 : Int32))) rfl (by decide) (lv' := [(8, .int (v8 + (-1 : Int32))), (10, .int (I (k0 + 1) (v9).toNatClampNeg)), (0, .ref (mB E + k0)), (9, .int v9)]) rfl ?_
                refine g_aload_n hC dX8_worth_205 rfl (q := 2) rfl ?_
                refine g_getr hC fd_RX8_24 hk0.2.1 hk0.1 (C0 := "") (t0 := _) (Or.inr rfl) hk0.2.2.2.2.2.2.1 dX8_worth_206 ?_
                refine g_iload hC dX8_worth_209 (q := 0) rfl ?_
                refine g_iconst hC dX8_worth_211 (v := (1 : Int32)) (by decide) ?_
                refine g_isub hC dX8_worth_212 ?_
                refine g_iload hC dX8_worth_213 (q := 1) rfl ?_
                refine g_aload_n hC dX8_worth_215 rfl (q := 2) rfl ?_
                refine g_getr hC fd_RX8_24 hk0.2.1 hk0.1 (C0 := "") (t0 := _) (Or.inr rfl) hk0.2.2.2.2.2.2.1 dX8_worth_216 ?_
                refine g_iload hC dX8_worth_219 (q := 0) rfl ?_
                refine g_iconst hC dX8_worth_221 (v := (1 : Int32)) (by decide) ?_
                refine g_isub hC dX8_worth_222 ?_
                obtain ⟨g223, h⟩ := oG_some h
                refine g_iald hC hk0.2.2.2.2.2.2.2.2 hk0.2.2.2.2.2.2.2.1 (inB_in g223) dX8_worth_223 ?_
                refine g_aload_n hC dX8_worth_224 rfl (q := 2) rfl ?_
                refine g_getr hC fd_RX8_24 hk0.2.1 hk0.1 (C0 := "") (t0 := _) (Or.inr rfl) hk0.2.2.2.2.2.2.1 dX8_worth_225 ?_
                refine g_iload hC dX8_worth_228 (q := 0) rfl ?_
                obtain ⟨g230, h⟩ := oG_some h
                refine g_iald hC hk0.2.2.2.2.2.2.2.2 hk0.2.2.2.2.2.2.2.1 (inB_in g230) dX8_worth_230 ?_
                obtain ⟨r231, h231, h⟩ := oB_some h
                refine g_cS1 hC cs_X8_joined wd_623 ⟨Nat.le_of_ble_eq_true rfl, Nat.le_of_ble_eq_true rfl⟩ dX8_worth_231 (As := [.int (I (k0 + 1) (v9).toNatClampNeg), .int (I (k0 + 5) (((v8 + (-1 : Int32)) - (1 : Int32))).toNatClampNeg), .int (I (k0 + 5) ((v8 + (-1 : Int32))).toNatClampNeg)]) (st := [.int ((v8 + (-1 : Int32)) - (1 : Int32)), .ref (mB E + (k0 + 5))]) (ok_X8_joined hC.2.2.2.2.2.2.2.1  h231) rfl rfl (Nat.le_of_ble_eq_true rfl) ⟨Nat.zero_le _, Nat.zero_le _⟩ ?_
                obtain ⟨g234, h⟩ := oG_some h
                refine g_iast hC hk0.2.2.2.2.2.2.2.2 hk0.2.2.2.2.2.2.2.1 (inB_in g234) dX8_worth_234 (nm_e ?_)
                refine g_iinc hC dX8_worth_235 rfl (q := 3) rfl (w := (v9 + (1 : Int32))) rfl (by decide) (lv' := [(9, .int (v9 + (1 : Int32))), (8, .int (v8 + (-1 : Int32))), (10, .int (I (k0 + 1) (v9).toNatClampNeg)), (0, .ref (mB E + k0))]) rfl ?_
                refine g_goto hC dX8_worth_238 (tgt := 60) (by decide) ?_
                refine g_lv [3, 1, 0] rfl ?_
                exact hk60_ (v8 + (-1 : Int32)) (v9 + (1 : Int32)) (mU I (k0 + 5) (((v8 + (-1 : Int32)) - (1 : Int32))).toNatClampNeg r231) h
          · replace h := (if_pos c138).symm.trans h
            refine g_iload hC dX8_worth_141 (q := 2) rfl ?_
            refine g_iconst hC dX8_worth_143 (v := (1 : Int32)) (by decide) ?_
            refine g_ic_lt hC dX8_worth_144 (tgt := 235) (by decide) (fun c144 => ?_) (fun c144 => ?_)
            · replace h := (if_pos c144).symm.trans h
              refine g_iinc hC dX8_worth_235 rfl (q := 3) rfl (w := (v9 + (1 : Int32))) rfl (by decide) (lv' := [(9, .int (v9 + (1 : Int32))), (10, .int (I (k0 + 1) (v9).toNatClampNeg)), (0, .ref (mB E + k0)), (8, .int v8)]) rfl ?_
              refine g_goto hC dX8_worth_238 (tgt := 60) (by decide) ?_
              refine g_lv [2, 3, 0] rfl ?_
              exact hk60_ v8 (v9 + (1 : Int32)) I h
            · replace h := (if_neg c144).symm.trans h
              refine g_iload hC dX8_worth_147 (q := 2) rfl ?_
              refine g_aload_n hC dX8_worth_149 rfl (q := 1) rfl ?_
              refine g_getr hC fd_RX8_24 hk0.2.1 hk0.1 (C0 := "") (t0 := _) (Or.inr rfl) hk0.2.2.2.2.2.2.1 dX8_worth_150 ?_
              refine g_alenI hC hk0.2.2.2.2.2.2.2.2 hk0.2.2.2.2.2.2.2.1 dX8_worth_153 ?_
              refine g_ic_gt hC dX8_worth_154 (tgt := 235) (by decide) (fun c154 => ?_) (fun c154 => ?_)
              · replace h := (if_pos c154).symm.trans h
                refine g_iinc hC dX8_worth_235 rfl (q := 3) rfl (w := (v9 + (1 : Int32))) rfl (by decide) (lv' := [(9, .int (v9 + (1 : Int32))), (10, .int (I (k0 + 1) (v9).toNatClampNeg)), (0, .ref (mB E + k0)), (8, .int v8)]) rfl ?_
                refine g_goto hC dX8_worth_238 (tgt := 60) (by decide) ?_
                refine g_lv [2, 3, 0] rfl ?_
                exact hk60_ v8 (v9 + (1 : Int32)) I h
              · replace h := (if_neg c154).symm.trans h
                refine g_aload_n hC dX8_worth_157 rfl (q := 1) rfl ?_
                refine g_getr hC fd_RX8_24 hk0.2.1 hk0.1 (C0 := "") (t0 := _) (Or.inr rfl) hk0.2.2.2.2.2.2.1 dX8_worth_158 ?_
                refine g_iload hC dX8_worth_161 (q := 2) rfl ?_
                refine g_iconst hC dX8_worth_163 (v := (1 : Int32)) (by decide) ?_
                refine g_isub hC dX8_worth_164 ?_
                refine g_aload_n hC dX8_worth_165 rfl (q := 1) rfl ?_
                refine g_getr hC fd_RX8_24 hk0.2.1 hk0.1 (C0 := "") (t0 := _) (Or.inr rfl) hk0.2.2.2.2.2.2.1 dX8_worth_166 ?_
                refine g_iload hC dX8_worth_169 (q := 2) rfl ?_
                refine g_iconst hC dX8_worth_171 (v := (1 : Int32)) (by decide) ?_
                refine g_isub hC dX8_worth_172 ?_
                obtain ⟨g173, h⟩ := oG_some h
                refine g_iald hC hk0.2.2.2.2.2.2.2.2 hk0.2.2.2.2.2.2.2.1 (inB_in g173) dX8_worth_173 ?_
                refine g_if_ne hC dX8_worth_174 (tgt := 181) (by decide) (fun c174 => ?_) (fun c174 => ?_)
                · replace h := (if_neg c174).symm.trans h
                  refine g_iconst hC dX8_worth_181 (v := (0 : Int32)) (by decide) ?_
                  obtain ⟨g182, h⟩ := oG_some h
                  refine g_iast hC hk0.2.2.2.2.2.2.2.2 hk0.2.2.2.2.2.2.2.1 (inB_in g182) dX8_worth_182 (nm_e ?_)
                  refine g_goto hC dX8_worth_183 (tgt := 235) (by decide) ?_
                  refine g_iinc hC dX8_worth_235 rfl (q := 3) rfl (w := (v9 + (1 : Int32))) rfl (by decide) (lv' := [(9, .int (v9 + (1 : Int32))), (10, .int (I (k0 + 1) (v9).toNatClampNeg)), (0, .ref (mB E + k0)), (8, .int v8)]) rfl ?_
                  refine g_goto hC dX8_worth_238 (tgt := 60) (by decide) ?_
                  refine g_lv [2, 3, 0] rfl ?_
                  exact hk60_ v8 (v9 + (1 : Int32)) (mU I (k0 + 5) ((v8 - (1 : Int32))).toNatClampNeg (0 : Int32)) h
                · replace h := (if_pos c174).symm.trans h
                  refine g_iconst hC dX8_worth_177 (v := (1 : Int32)) (by decide) ?_
                  refine g_goto hC dX8_worth_178 (tgt := 182) (by decide) ?_
                  obtain ⟨g182, h⟩ := oG_some h
                  refine g_iast hC hk0.2.2.2.2.2.2.2.2 hk0.2.2.2.2.2.2.2.1 (inB_in g182) dX8_worth_182 (nm_e ?_)
                  refine g_goto hC dX8_worth_183 (tgt := 235) (by decide) ?_
                  refine g_iinc hC dX8_worth_235 rfl (q := 3) rfl (w := (v9 + (1 : Int32))) rfl (by decide) (lv' := [(9, .int (v9 + (1 : Int32))), (10, .int (I (k0 + 1) (v9).toNatClampNeg)), (0, .ref (mB E + k0)), (8, .int v8)]) rfl ?_
                  refine g_goto hC dX8_worth_238 (tgt := 60) (by decide) ?_
                  refine g_lv [2, 3, 0] rfl ?_
                  exact hk60_ v8 (v9 + (1 : Int32)) (mU I (k0 + 5) ((v8 - (1 : Int32))).toNatClampNeg (1 : Int32)) h
        · replace h := (if_pos c97).symm.trans h
          refine g_lv [1, 2, 3] rfl ?_
          exact bo_X8_worth_100 hC hk0 hE k60_ hk60_ (v8) (v9) (I) h
noncomputable def w_X8_worth_60 (Fu : Nat) (k0 : Nat)  (N : Nat) (v8 : Int32) (v9 : Int32) (I : mIT) : Option (Int32 × mIT) :=
  loopF (fun self (s : Int32 × Int32 × mIT) => b_X8_worth_60 Fu k0 self s.1 s.2.1 s.2.2) N (v8, v9, I)
theorem wo_X8_worth_60 {X : mXT} {E : mEn} {Fu : Nat} {R : mRT} {L : mLT} {k0 : Nat} (hC : mC X E mX8_worth RX8 cX8_worth) (hk0 : mO8 R k0)  {out : Int32 × mIT} (hE : mEd X E 0 0 (mSame (some (.int (out.1))) 106 1 (out.2) R L))  (N : Nat) (v8 : Int32) (v9 : Int32) (I : mIT) (h : w_X8_worth_60 Fu k0  N v8 v9 I = some out) : mG X E 60 [(0, .ref (mB E + k0)), (8, .int v8), (9, .int v9)] [] 106 1 I R L 0 0 :=
  loopF_ok (Gd := fun s : Int32 × Int32 × mIT => mG X E 60 [(0, .ref (mB E + k0)), (8, .int s.1), (9, .int s.2.1)] [] 106 1 s.2.2 R L 0 0) (fun self hs s h => bo_X8_worth_60 hC hk0 hE self (fun v8 v9 I h => hs (v8, v9, I) h) s.1 s.2.1 s.2.2 h) N (v8, v9, I) h
noncomputable def f_X8_worth (Fu : Nat) (I : mIT) (k0 : Nat) (v1 : Int32) (v2 : Int32) (v3 : Int32) (v4 : Int32) (v5 : Int32) (v6 : Int32) (v7 : Int32) : Option (Int32 × mIT) :=
  oG (inB (0 : Int32) 7) (oG (inB (1 : Int32) 7) (oG (inB (2 : Int32) 7) (oG (inB (3 : Int32) 7) (oG (inB (4 : Int32) 7) (oG (inB (5 : Int32) 7) (oG (inB (6 : Int32) 7) (w_X8_worth_60 Fu k0 Fu (0 : Int32) (0 : Int32) (mU (mU (mU (mU (mU (mU (mU I (k0 + 4) ((0 : Int32)).toNatClampNeg v1) (k0 + 4) ((1 : Int32)).toNatClampNeg v2) (k0 + 4) ((2 : Int32)).toNatClampNeg v3) (k0 + 4) ((3 : Int32)).toNatClampNeg v4) (k0 + 4) ((4 : Int32)).toNatClampNeg v5) (k0 + 4) ((5 : Int32)).toNatClampNeg v6) (k0 + 4) ((6 : Int32)).toNatClampNeg v7))))))))
set_option maxRecDepth 20000 in
theorem ok_X8_worth {l : Launch} {E : mEn} {Fu : Nat} {I : mIT} {R : mRT} {L : mLT} {k0 : Nat} {v1 : Int32} {v2 : Int32} {v3 : Int32} {v4 : Int32} {v5 : Int32} {v6 : Int32} {v7 : Int32} (hst : l.stackTraces = false) (hk0 : mO8 R k0) {out : Int32 × mIT} (h : f_X8_worth Fu I k0 v1 v2 v3 v4 v5 v6 v7 = some out) : mOk l E mX8_worth [.ref (mB E + k0), .int v1, .int v2, .int v3, .int v4, .int v5, .int v6, .int v7] 106 1 I R L 0 0 (mSame (some (.int (out.1))) 106 1 (out.2) R L) := by
  refine mOk_of hst (by decide) (Nat.le_of_ble_eq_true rfl) (fun X hC hE _ => ?_)
  have hC : mC X E mX8_worth RX8 cX8_worth := hC
  show mG X E 0 [(0, .ref (mB E + k0)), (1, .int v1), (2, .int v2), (3, .int v3), (4, .int v4), (5, .int v5), (6, .int v6), (7, .int v7)] [] 106 1 I R L 0 0
  unfold f_X8_worth at h
  refine g_aload_n hC dX8_worth_0 rfl (q := 0) rfl ?_
  refine g_getr hC fd_RX8_21 hk0.2.1 hk0.1 (C0 := "") (t0 := _) (Or.inr rfl) hk0.2.2.2.2.2.1.1 dX8_worth_1 ?_
  refine g_iconst hC dX8_worth_4 (v := (0 : Int32)) (by decide) ?_
  refine g_iload_n hC dX8_worth_5 rfl (q := 1) rfl ?_
  obtain ⟨g6, h⟩ := oG_some h
  refine g_iast hC hk0.2.2.2.2.2.1.2.2 hk0.2.2.2.2.2.1.2.1 (inB_in g6) dX8_worth_6 (nm_e ?_)
  refine g_aload_n hC dX8_worth_7 rfl (q := 0) rfl ?_
  refine g_getr hC fd_RX8_21 hk0.2.1 hk0.1 (C0 := "") (t0 := _) (Or.inr rfl) hk0.2.2.2.2.2.1.1 dX8_worth_8 ?_
  refine g_iconst hC dX8_worth_11 (v := (1 : Int32)) (by decide) ?_
  refine g_iload_n hC dX8_worth_12 rfl (q := 2) rfl ?_
  obtain ⟨g13, h⟩ := oG_some h
  refine g_iast hC hk0.2.2.2.2.2.1.2.2 hk0.2.2.2.2.2.1.2.1 (inB_in g13) dX8_worth_13 (nm_e ?_)
  refine g_aload_n hC dX8_worth_14 rfl (q := 0) rfl ?_
  refine g_getr hC fd_RX8_21 hk0.2.1 hk0.1 (C0 := "") (t0 := _) (Or.inr rfl) hk0.2.2.2.2.2.1.1 dX8_worth_15 ?_
  refine g_iconst hC dX8_worth_18 (v := (2 : Int32)) (by decide) ?_
  refine g_iload_n hC dX8_worth_19 rfl (q := 3) rfl ?_
  obtain ⟨g20, h⟩ := oG_some h
  refine g_iast hC hk0.2.2.2.2.2.1.2.2 hk0.2.2.2.2.2.1.2.1 (inB_in g20) dX8_worth_20 (nm_e ?_)
  refine g_aload_n hC dX8_worth_21 rfl (q := 0) rfl ?_
  refine g_getr hC fd_RX8_21 hk0.2.1 hk0.1 (C0 := "") (t0 := _) (Or.inr rfl) hk0.2.2.2.2.2.1.1 dX8_worth_22 ?_
  refine g_iconst hC dX8_worth_25 (v := (3 : Int32)) (by decide) ?_
  refine g_iload hC dX8_worth_26 (q := 4) rfl ?_
  obtain ⟨g28, h⟩ := oG_some h
  refine g_iast hC hk0.2.2.2.2.2.1.2.2 hk0.2.2.2.2.2.1.2.1 (inB_in g28) dX8_worth_28 (nm_e ?_)
  refine g_aload_n hC dX8_worth_29 rfl (q := 0) rfl ?_
  refine g_getr hC fd_RX8_21 hk0.2.1 hk0.1 (C0 := "") (t0 := _) (Or.inr rfl) hk0.2.2.2.2.2.1.1 dX8_worth_30 ?_
  refine g_iconst hC dX8_worth_33 (v := (4 : Int32)) (by decide) ?_
  refine g_iload hC dX8_worth_34 (q := 5) rfl ?_
  obtain ⟨g36, h⟩ := oG_some h
  refine g_iast hC hk0.2.2.2.2.2.1.2.2 hk0.2.2.2.2.2.1.2.1 (inB_in g36) dX8_worth_36 (nm_e ?_)
  refine g_aload_n hC dX8_worth_37 rfl (q := 0) rfl ?_
  refine g_getr hC fd_RX8_21 hk0.2.1 hk0.1 (C0 := "") (t0 := _) (Or.inr rfl) hk0.2.2.2.2.2.1.1 dX8_worth_38 ?_
  refine g_iconst hC dX8_worth_41 (v := (5 : Int32)) (by decide) ?_
  refine g_iload hC dX8_worth_42 (q := 6) rfl ?_
  obtain ⟨g44, h⟩ := oG_some h
  refine g_iast hC hk0.2.2.2.2.2.1.2.2 hk0.2.2.2.2.2.1.2.1 (inB_in g44) dX8_worth_44 (nm_e ?_)
  refine g_aload_n hC dX8_worth_45 rfl (q := 0) rfl ?_
  refine g_getr hC fd_RX8_21 hk0.2.1 hk0.1 (C0 := "") (t0 := _) (Or.inr rfl) hk0.2.2.2.2.2.1.1 dX8_worth_46 ?_
  refine g_bipush hC dX8_worth_49 (v := (6 : Int32)) (by decide) ?_
  refine g_iload hC dX8_worth_51 (q := 7) rfl ?_
  obtain ⟨g53, h⟩ := oG_some h
  refine g_iast hC hk0.2.2.2.2.2.1.2.2 hk0.2.2.2.2.2.1.2.1 (inB_in g53) dX8_worth_53 (nm_e ?_)
  refine g_iconst hC dX8_worth_54 (v := (0 : Int32)) (by decide) ?_
  refine g_istore hC dX8_worth_55 rfl (by decide) (lv' := [(8, .int (0 : Int32)), (0, .ref (mB E + k0)), (1, .int v1), (2, .int v2), (3, .int v3), (4, .int v4), (5, .int v5), (6, .int v6), (7, .int v7)]) rfl ?_
  refine g_iconst hC dX8_worth_57 (v := (0 : Int32)) (by decide) ?_
  refine g_istore hC dX8_worth_58 rfl (by decide) (lv' := [(9, .int (0 : Int32)), (8, .int (0 : Int32)), (0, .ref (mB E + k0)), (1, .int v1), (2, .int v2), (3, .int v3), (4, .int v4), (5, .int v5), (6, .int v6), (7, .int v7)]) rfl ?_
  refine g_lv [2, 1, 0] rfl ?_
  exact wo_X8_worth_60 hC hk0 hE Fu ((0 : Int32)) ((0 : Int32)) ((mU (mU (mU (mU (mU (mU (mU I (k0 + 4) ((0 : Int32)).toNatClampNeg v1) (k0 + 4) ((1 : Int32)).toNatClampNeg v2) (k0 + 4) ((2 : Int32)).toNatClampNeg v3) (k0 + 4) ((3 : Int32)).toNatClampNeg v4) (k0 + 4) ((4 : Int32)).toNatClampNeg v5) (k0 + 4) ((5 : Int32)).toNatClampNeg v6) (k0 + 4) ((6 : Int32)).toNatClampNeg v7)) h
noncomputable def f_X11_within (Fu : Nat)  (v0 : Int32) (v1 : Int32) : Option (Int32) :=
  some (if (0 : Int32) < (if v1 < v0 then v1 else v0) then (if v1 < v0 then v1 else v0) else (0 : Int32))
set_option maxRecDepth 20000 in
theorem ok_X11_within {l : Launch} {E : mEn} {Fu : Nat} {I : mIT} {R : mRT} {L : mLT} {v0 : Int32} {v1 : Int32} (hst : l.stackTraces = false)  {out : Int32} (h : f_X11_within Fu  v0 v1 = some out) : mOk l E mX11_within [.int v0, .int v1] 106 1 I R L 0 0 (mSame (some (.int (out))) 106 1 I R L) := by
  refine mOk_of hst (by decide) (Nat.le_of_ble_eq_true rfl) (fun X hC hE _ => ?_)
  have hC : mC X E mX11_within RX11 cX11_within := hC
  show mG X E 0 [(0, .int v0), (1, .int v1)] [] 106 1 I R L 0 0
  unfold f_X11_within at h
  refine g_iconst hC dX11_within_0 (v := (0 : Int32)) (by decide) ?_
  refine g_iload_n hC dX11_within_1 rfl (q := 0) rfl ?_
  refine g_iload_n hC dX11_within_2 rfl (q := 1) rfl ?_
  refine g_mmin hC wd_629 wd_st_min wd_in_math wd_cd_min (Nat.le_of_ble_eq_true rfl) (Nat.le_of_ble_eq_true rfl) ⟨Nat.zero_le _, Nat.zero_le _⟩ dX11_within_3 ?_
  refine g_mmax hC wd_632 wd_st_max wd_in_math wd_cd_max (Nat.le_of_ble_eq_true rfl) (Nat.le_of_ble_eq_true rfl) ⟨Nat.zero_le _, Nat.zero_le _⟩ dX11_within_6 ?_
  cases h
  exact g_iret hC hE rfl dX11_within_9 (Nat.zero_le _) (Nat.zero_le _) ⟨rfl, rfl, rfl, rfl, rfl, rfl⟩
noncomputable def f_X9_growthOf (Fu : Nat) (I : mIT) (k0 : Nat) (k1 : Nat) (v2 : Int32) (v3 : Int32) : Option (Int32 × mIT) :=
  oB (f_X8_isTold Fu I (k1 + 10)) (fun r8 => if r8 = 0 then (if (5 : Int32) ≤ v3 then (some ((0 : Int32), I)) else (some ((1 : Int32), I))) else (oB (f_X9_sizeOf Fu I k0 v2) (fun r18 => oB (f_X9_hollowOf Fu I k0 v2) (fun r23 => oB (f_X5_kindOf Fu I k1 v2) (fun r28 => oB (f_X9_softnessOf Fu I k0 v2) (fun r33 => oB (f_X9_day Fu I k0) (fun r38 => oB (f_X9_placeOf Fu I k0 v2) (fun r43 => if r43 < 0 then (oB (f_X8_worth Fu I (k1 + 10) r18 r23 r28 r33 v3 r38 (0 : Int32)) (fun r54 => oB (f_X11_within Fu r54.1 (9 : Int32)) (fun r63 => some (r63, r54.2)))) else (oB (f_X8_worth Fu I (k1 + 10) r18 r23 r28 r33 v3 r38 (1 : Int32)) (fun r54 => oB (f_X11_within Fu r54.1 (9 : Int32)) (fun r63 => some (r63, r54.2))))))))))))
set_option maxRecDepth 20000 in
theorem ok_X9_growthOf {l : Launch} {E : mEn} {Fu : Nat} {I : mIT} {R : mRT} {L : mLT} {k0 : Nat} {k1 : Nat} {v2 : Int32} {v3 : Int32} (hst : l.stackTraces = false) (hk0 : mO9 R k0) (hk1 : mO5 R k1) {out : Int32 × mIT} (h : f_X9_growthOf Fu I k0 k1 v2 v3 = some out) : mOk l E mX9_growthOf [.ref (mB E + k0), .ref (mB E + k1), .int v2, .int v3] 106 1 I R L 0 0 (mSame (some (.int (out.1))) 106 1 (out.2) R L) := by
  refine mOk_of hst (by decide) (Nat.le_of_ble_eq_true rfl) (fun X hC hE _ => ?_)
  have hC : mC X E mX9_growthOf RX9 cX9_growthOf := hC
  show mG X E 0 [(0, .ref (mB E + k0)), (1, .ref (mB E + k1)), (2, .int v2), (3, .int v3)] [] 106 1 I R L 0 0
  unfold f_X9_growthOf at h
  refine g_aload_n hC dX9_growthOf_0 rfl (q := 1) rfl ?_
  refine g_getr hC fd_RX9_97 hk1.2.1 hk1.1 (C0 := _) (t0 := .int) (Or.inl rfl) hk1.2.2.2.2.2.2.1.1 dX9_growthOf_1 ?_
  refine g_astore hC dX9_growthOf_4 rfl (by decide) (lv' := [(4, .ref (mB E + (k1 + 10))), (0, .ref (mB E + k0)), (1, .ref (mB E + k1)), (2, .int v2), (3, .int v3)]) rfl ?_
  refine g_aload hC dX9_growthOf_6 (q := 0) rfl ?_
  obtain ⟨r8, h8, h⟩ := oB_some h
  refine g_cV1 hC cv_X8_isTold wd_598 ⟨Nat.le_of_ble_eq_true rfl, Nat.le_of_ble_eq_true rfl⟩ hk1.2.2.2.2.2.2.1.2.2.1 hk1.2.2.2.2.2.2.1.2.1 dX9_growthOf_8 (As := []) (st := []) (ok_X8_isTold hC.2.2.2.2.2.2.2.1 hk1.2.2.2.2.2.2.1.2 h8) rfl rfl (Nat.le_of_ble_eq_true rfl) ⟨Nat.zero_le _, Nat.zero_le _⟩ ?_
  refine g_if_eq hC dX9_growthOf_11 (tgt := 67) (by decide) (fun c11 => ?_) (fun c11 => ?_)
  · replace h := (if_pos c11).symm.trans h
    refine g_iload_n hC dX9_growthOf_67 rfl (q := 4) rfl ?_
    refine g_iconst hC dX9_growthOf_68 (v := (5 : Int32)) (by decide) ?_
    refine g_ic_ge hC dX9_growthOf_69 (tgt := 76) (by decide) (fun c69 => ?_) (fun c69 => ?_)
    · replace h := (if_pos c69).symm.trans h
      refine g_iconst hC dX9_growthOf_76 (v := (0 : Int32)) (by decide) ?_
      cases h
      exact g_iret hC hE rfl dX9_growthOf_77 (Nat.zero_le _) (Nat.zero_le _) ⟨rfl, rfl, rfl, rfl, rfl, rfl⟩
    · replace h := (if_neg c69).symm.trans h
      refine g_iconst hC dX9_growthOf_72 (v := (1 : Int32)) (by decide) ?_
      refine g_goto hC dX9_growthOf_73 (tgt := 77) (by decide) ?_
      cases h
      exact g_iret hC hE rfl dX9_growthOf_77 (Nat.zero_le _) (Nat.zero_le _) ⟨rfl, rfl, rfl, rfl, rfl, rfl⟩
  · replace h := (if_neg c11).symm.trans h
    refine g_aload hC dX9_growthOf_14 (q := 0) rfl ?_
    refine g_aload_n hC dX9_growthOf_16 rfl (q := 1) rfl ?_
    refine g_iload_n hC dX9_growthOf_17 rfl (q := 3) rfl ?_
    obtain ⟨r18, h18, h⟩ := oB_some h
    refine g_cV1 hC cv_X9_sizeOf wd_590 ⟨Nat.le_of_ble_eq_true rfl, Nat.le_of_ble_eq_true rfl⟩ hk0.2.1 hk0.1 dX9_growthOf_18 (As := [.int v2]) (st := [.ref (mB E + (k1 + 10))]) (ok_X9_sizeOf hC.2.2.2.2.2.2.2.1 hk0 h18) rfl rfl (Nat.le_of_ble_eq_true rfl) ⟨Nat.zero_le _, Nat.zero_le _⟩ ?_
    refine g_aload_n hC dX9_growthOf_21 rfl (q := 1) rfl ?_
    refine g_iload_n hC dX9_growthOf_22 rfl (q := 3) rfl ?_
    obtain ⟨r23, h23, h⟩ := oB_some h
    refine g_cV1 hC cv_X9_hollowOf wd_602 ⟨Nat.le_of_ble_eq_true rfl, Nat.le_of_ble_eq_true rfl⟩ hk0.2.1 hk0.1 dX9_growthOf_23 (As := [.int v2]) (st := [.int r18, .ref (mB E + (k1 + 10))]) (ok_X9_hollowOf hC.2.2.2.2.2.2.2.1 hk0 h23) rfl rfl (Nat.le_of_ble_eq_true rfl) ⟨Nat.zero_le _, Nat.zero_le _⟩ ?_
    refine g_aload_n hC dX9_growthOf_26 rfl (q := 2) rfl ?_
    refine g_iload_n hC dX9_growthOf_27 rfl (q := 3) rfl ?_
    obtain ⟨r28, h28, h⟩ := oB_some h
    refine g_cV1 hC cv_X5_kindOf wd_606 ⟨Nat.le_of_ble_eq_true rfl, Nat.le_of_ble_eq_true rfl⟩ hk1.2.1 hk1.1 dX9_growthOf_28 (As := [.int v2]) (st := [.int r23, .int r18, .ref (mB E + (k1 + 10))]) (ok_X5_kindOf hC.2.2.2.2.2.2.2.1 hk1 h28) rfl rfl (Nat.le_of_ble_eq_true rfl) ⟨Nat.zero_le _, Nat.zero_le _⟩ ?_
    refine g_aload_n hC dX9_growthOf_31 rfl (q := 1) rfl ?_
    refine g_iload_n hC dX9_growthOf_32 rfl (q := 3) rfl ?_
    obtain ⟨r33, h33, h⟩ := oB_some h
    refine g_cV1 hC cv_X9_softnessOf wd_610 ⟨Nat.le_of_ble_eq_true rfl, Nat.le_of_ble_eq_true rfl⟩ hk0.2.1 hk0.1 dX9_growthOf_33 (As := [.int v2]) (st := [.int r28, .int r23, .int r18, .ref (mB E + (k1 + 10))]) (ok_X9_softnessOf hC.2.2.2.2.2.2.2.1 hk0 h33) rfl rfl (Nat.le_of_ble_eq_true rfl) ⟨Nat.zero_le _, Nat.zero_le _⟩ ?_
    refine g_iload_n hC dX9_growthOf_36 rfl (q := 4) rfl ?_
    refine g_aload_n hC dX9_growthOf_37 rfl (q := 1) rfl ?_
    obtain ⟨r38, h38, h⟩ := oB_some h
    refine g_cV1 hC cv_X9_day wd_614 ⟨Nat.le_of_ble_eq_true rfl, Nat.le_of_ble_eq_true rfl⟩ hk0.2.1 hk0.1 dX9_growthOf_38 (As := []) (st := [.int v3, .int r33, .int r28, .int r23, .int r18, .ref (mB E + (k1 + 10))]) (ok_X9_day hC.2.2.2.2.2.2.2.1 hk0 h38) rfl rfl (Nat.le_of_ble_eq_true rfl) ⟨Nat.zero_le _, Nat.zero_le _⟩ ?_
    refine g_aload_n hC dX9_growthOf_41 rfl (q := 1) rfl ?_
    refine g_iload_n hC dX9_growthOf_42 rfl (q := 3) rfl ?_
    obtain ⟨r43, h43, h⟩ := oB_some h
    refine g_cV1 hC cv_X9_placeOf wd_586 ⟨Nat.le_of_ble_eq_true rfl, Nat.le_of_ble_eq_true rfl⟩ hk0.2.1 hk0.1 dX9_growthOf_43 (As := [.int v2]) (st := [.int r38, .int v3, .int r33, .int r28, .int r23, .int r18, .ref (mB E + (k1 + 10))]) (ok_X9_placeOf hC.2.2.2.2.2.2.2.1 hk0 h43) rfl rfl (Nat.le_of_ble_eq_true rfl) ⟨Nat.zero_le _, Nat.zero_le _⟩ ?_
    refine g_if_lt hC dX9_growthOf_46 (tgt := 53) (by decide) (fun c46 => ?_) (fun c46 => ?_)
    · replace h := (if_pos c46).symm.trans h
      refine g_iconst hC dX9_growthOf_53 (v := (0 : Int32)) (by decide) ?_
      obtain ⟨r54, h54, h⟩ := oB_some h
      refine g_cV1 hC cv_X8_worth wd_615 ⟨Nat.le_of_ble_eq_true rfl, Nat.le_of_ble_eq_true rfl⟩ hk1.2.2.2.2.2.2.1.2.2.1 hk1.2.2.2.2.2.2.1.2.1 dX9_growthOf_54 (As := [.int r18, .int r23, .int r28, .int r33, .int v3, .int r38, .int (0 : Int32)]) (st := []) (ok_X8_worth hC.2.2.2.2.2.2.2.1 hk1.2.2.2.2.2.2.1.2 h54) rfl rfl (Nat.le_of_ble_eq_true rfl) ⟨Nat.zero_le _, Nat.zero_le _⟩ ?_
      refine g_istore hC dX9_growthOf_57 rfl (by decide) (lv' := [(5, .int r54.1), (4, .ref (mB E + (k1 + 10))), (0, .ref (mB E + k0)), (1, .ref (mB E + k1)), (2, .int v2), (3, .int v3)]) rfl ?_
      refine g_iload hC dX9_growthOf_59 (q := 0) rfl ?_
      refine g_bipush hC dX9_growthOf_61 (v := (9 : Int32)) (by decide) ?_
      obtain ⟨r63, h63, h⟩ := oB_some h
      refine g_cN1 hC cs_X11_within (host := RX11) nl_RX9_73 ⟨Nat.le_of_ble_eq_true rfl, Nat.le_of_ble_eq_true rfl⟩ dX9_growthOf_63 (As := [.int r54.1, .int (9 : Int32)]) (st := []) (ok_X11_within hC.2.2.2.2.2.2.2.1  h63) rfl rfl (Nat.le_of_ble_eq_true rfl) ⟨Nat.zero_le _, Nat.zero_le _⟩ ?_
      cases h
      exact g_iret hC hE rfl dX9_growthOf_66 (Nat.zero_le _) (Nat.zero_le _) ⟨rfl, rfl, rfl, rfl, rfl, rfl⟩
    · replace h := (if_neg c46).symm.trans h
      refine g_iconst hC dX9_growthOf_49 (v := (1 : Int32)) (by decide) ?_
      refine g_goto hC dX9_growthOf_50 (tgt := 54) (by decide) ?_
      obtain ⟨r54, h54, h⟩ := oB_some h
      refine g_cV1 hC cv_X8_worth wd_615 ⟨Nat.le_of_ble_eq_true rfl, Nat.le_of_ble_eq_true rfl⟩ hk1.2.2.2.2.2.2.1.2.2.1 hk1.2.2.2.2.2.2.1.2.1 dX9_growthOf_54 (As := [.int r18, .int r23, .int r28, .int r33, .int v3, .int r38, .int (1 : Int32)]) (st := []) (ok_X8_worth hC.2.2.2.2.2.2.2.1 hk1.2.2.2.2.2.2.1.2 h54) rfl rfl (Nat.le_of_ble_eq_true rfl) ⟨Nat.zero_le _, Nat.zero_le _⟩ ?_
      refine g_istore hC dX9_growthOf_57 rfl (by decide) (lv' := [(5, .int r54.1), (4, .ref (mB E + (k1 + 10))), (0, .ref (mB E + k0)), (1, .ref (mB E + k1)), (2, .int v2), (3, .int v3)]) rfl ?_
      refine g_iload hC dX9_growthOf_59 (q := 0) rfl ?_
      refine g_bipush hC dX9_growthOf_61 (v := (9 : Int32)) (by decide) ?_
      obtain ⟨r63, h63, h⟩ := oB_some h
      refine g_cN1 hC cs_X11_within (host := RX11) nl_RX9_73 ⟨Nat.le_of_ble_eq_true rfl, Nat.le_of_ble_eq_true rfl⟩ dX9_growthOf_63 (As := [.int r54.1, .int (9 : Int32)]) (st := []) (ok_X11_within hC.2.2.2.2.2.2.2.1  h63) rfl rfl (Nat.le_of_ble_eq_true rfl) ⟨Nat.zero_le _, Nat.zero_le _⟩ ?_
      cases h
      exact g_iret hC hE rfl dX9_growthOf_66 (Nat.zero_le _) (Nat.zero_le _) ⟨rfl, rfl, rfl, rfl, rfl, rfl⟩
noncomputable def b_X9_passDay_2 (Fu : Nat) (k0 : Nat) (k1 : Nat) (k2_ : Int32 × Int32 × mIT → Option (mIT)) (v2 : Int32) (v3 : Int32) (I : mIT) : Option (mIT) :=
  if (I k1 3) ≤ v3 then (oB (f_X9_day Fu I k0) (fun r79 => oB (f_X9_setCell Fu I k0 (0 : Int32) (0 : Int32) (r79 + (1 : Int32))) (fun r84 => some (r84)))) else (oB (f_X9_placeOf Fu I k0 v3) (fun r12 => if r12 = (-1 : Int32) then (oB (f_X9_sizeOf Fu I k0 v3) (fun r25 => oB (f_X9_growthOf Fu I k0 k1 v3 v2) (fun r32 => oB (f_X9_setCell Fu r32.2 k0 (1 : Int32) v3 (if (60 : Int32) < (r25 + r32.1) then (60 : Int32) else (r25 + r32.1))) (fun r48 => k2_ (v2, (v3 + (1 : Int32)), r48))))) else (if r12 < 0 then (k2_ (v2, (v3 + (1 : Int32)), I)) else (oB (f_X9_soften Fu I k0 v3 ((1 : Int32) + (v2 / (2 : Int32)))) (fun r66 => k2_ (v2, (v3 + (1 : Int32)), r66))))))
set_option maxRecDepth 20000 in
theorem bo_X9_passDay_2 {X : mXT} {E : mEn} {Fu : Nat} {R : mRT} {L : mLT} {k0 : Nat} {k1 : Nat} (hC : mC X E mX9_passDay RX9 cX9_passDay) (hk0 : mO9 R k0) (hk1 : mO5 R k1)  {out : mIT} (hE : mEd X E 0 0 (mSame none 106 1 (out) R L)) (k2_ : Int32 × Int32 × mIT → Option (mIT)) (hk2_ : ∀ (v2 : Int32) (v3 : Int32) (I : mIT),  k2_ (v2, v3, I) = some out → mG X E 2 [(0, .ref (mB E + k0)), (1, .ref (mB E + k1)), (2, .int v2), (3, .int v3)] [] 106 1 I R L 0 0) (v2 : Int32) (v3 : Int32) (I : mIT) (h : b_X9_passDay_2 Fu k0 k1 k2_ v2 v3 I = some out) : mG X E 2 [(0, .ref (mB E + k0)), (1, .ref (mB E + k1)), (2, .int v2), (3, .int v3)] [] 106 1 I R L 0 0 := by
  unfold b_X9_passDay_2 at h
  refine g_iload_n hC dX9_passDay_2 rfl (q := 3) rfl ?_
  refine g_aload_n hC dX9_passDay_3 rfl (q := 1) rfl ?_
  refine g_geti hC fd_RX9_86 hk1.2.1 hk1.1 (Or.inl rfl) dX9_passDay_4 ?_
  refine g_ic_ge hC dX9_passDay_7 (tgt := 75) (by decide) (fun c7 => ?_) (fun c7 => ?_)
  · replace h := (if_pos c7).symm.trans h
    refine g_aload_n hC dX9_passDay_75 rfl (q := 0) rfl ?_
    refine g_iconst hC dX9_passDay_76 (v := (0 : Int32)) (by decide) ?_
    refine g_iconst hC dX9_passDay_77 (v := (0 : Int32)) (by decide) ?_
    refine g_aload_n hC dX9_passDay_78 rfl (q := 0) rfl ?_
    obtain ⟨r79, h79, h⟩ := oB_some h
    refine g_cV1 hC cv_X9_day wd_614 ⟨Nat.le_of_ble_eq_true rfl, Nat.le_of_ble_eq_true rfl⟩ hk0.2.1 hk0.1 dX9_passDay_79 (As := []) (st := [.int (0 : Int32), .int (0 : Int32), .ref (mB E + k0)]) (ok_X9_day hC.2.2.2.2.2.2.2.1 hk0 h79) rfl rfl (Nat.le_of_ble_eq_true rfl) ⟨Nat.zero_le _, Nat.zero_le _⟩ ?_
    refine g_iconst hC dX9_passDay_82 (v := (1 : Int32)) (by decide) ?_
    refine g_iadd hC dX9_passDay_83 ?_
    obtain ⟨r84, h84, h⟩ := oB_some h
    refine g_cV0 hC cv_X9_setCell wd_636 ⟨Nat.le_of_ble_eq_true rfl, Nat.le_of_ble_eq_true rfl⟩ hk0.2.1 hk0.1 dX9_passDay_84 (As := [.int (0 : Int32), .int (0 : Int32), .int (r79 + (1 : Int32))]) (st := []) (ok_X9_setCell hC.2.2.2.2.2.2.2.1 hk0 h84) rfl rfl (Nat.le_of_ble_eq_true rfl) ⟨Nat.zero_le _, Nat.zero_le _⟩ ?_
    cases h
    exact g_vret hC hE rfl dX9_passDay_87 (Nat.zero_le _) (Nat.zero_le _) ⟨rfl, rfl, rfl, rfl, rfl, rfl⟩
  · replace h := (if_neg c7).symm.trans h
    refine g_aload_n hC dX9_passDay_10 rfl (q := 0) rfl ?_
    refine g_iload_n hC dX9_passDay_11 rfl (q := 3) rfl ?_
    obtain ⟨r12, h12, h⟩ := oB_some h
    refine g_cV1 hC cv_X9_placeOf wd_586 ⟨Nat.le_of_ble_eq_true rfl, Nat.le_of_ble_eq_true rfl⟩ hk0.2.1 hk0.1 dX9_passDay_12 (As := [.int v3]) (st := []) (ok_X9_placeOf hC.2.2.2.2.2.2.2.1 hk0 h12) rfl rfl (Nat.le_of_ble_eq_true rfl) ⟨Nat.zero_le _, Nat.zero_le _⟩ ?_
    refine g_istore hC dX9_passDay_15 rfl (by decide) (lv' := [(4, .int r12), (0, .ref (mB E + k0)), (1, .ref (mB E + k1)), (2, .int v2), (3, .int v3)]) rfl ?_
    refine g_iload hC dX9_passDay_17 (q := 0) rfl ?_
    refine g_iconst hC dX9_passDay_19 (v := (-1 : Int32)) (by decide) ?_
    refine g_ic_ne hC dX9_passDay_20 (tgt := 54) (by decide) (fun c20 => ?_) (fun c20 => ?_)
    · replace h := (if_neg c20).symm.trans h
      refine g_iload hC dX9_passDay_54 (q := 0) rfl ?_
      refine g_if_lt hC dX9_passDay_56 (tgt := 69) (by decide) (fun c56 => ?_) (fun c56 => ?_)
      · replace h := (if_pos c56).symm.trans h
        refine g_iinc hC dX9_passDay_69 rfl (q := 4) rfl (w := (v3 + (1 : Int32))) rfl (by decide) (lv' := [(3, .int (v3 + (1 : Int32))), (4, .int r12), (0, .ref (mB E + k0)), (1, .ref (mB E + k1)), (2, .int v2)]) rfl ?_
        refine g_goto hC dX9_passDay_72 (tgt := 2) (by decide) ?_
        refine g_lv [2, 3, 4, 0] rfl ?_
        exact hk2_ v2 (v3 + (1 : Int32)) I h
      · replace h := (if_neg c56).symm.trans h
        refine g_aload_n hC dX9_passDay_59 rfl (q := 1) rfl ?_
        refine g_iload_n hC dX9_passDay_60 rfl (q := 4) rfl ?_
        refine g_iconst hC dX9_passDay_61 (v := (1 : Int32)) (by decide) ?_
        refine g_iload_n hC dX9_passDay_62 rfl (q := 3) rfl ?_
        refine g_iconst hC dX9_passDay_63 (v := (2 : Int32)) (by decide) ?_
        refine g_idiv hC dX9_passDay_64 (by decide) ?_
        refine g_iadd hC dX9_passDay_65 ?_
        obtain ⟨r66, h66, h⟩ := oB_some h
        refine g_cV0 hC cv_X9_soften wd_640 ⟨Nat.le_of_ble_eq_true rfl, Nat.le_of_ble_eq_true rfl⟩ hk0.2.1 hk0.1 dX9_passDay_66 (As := [.int v3, .int ((1 : Int32) + (v2 / (2 : Int32)))]) (st := []) (ok_X9_soften hC.2.2.2.2.2.2.2.1 hk0 h66) rfl rfl (Nat.le_of_ble_eq_true rfl) ⟨Nat.zero_le _, Nat.zero_le _⟩ ?_
        refine g_iinc hC dX9_passDay_69 rfl (q := 4) rfl (w := (v3 + (1 : Int32))) rfl (by decide) (lv' := [(3, .int (v3 + (1 : Int32))), (4, .int r12), (0, .ref (mB E + k0)), (1, .ref (mB E + k1)), (2, .int v2)]) rfl ?_
        refine g_goto hC dX9_passDay_72 (tgt := 2) (by decide) ?_
        refine g_lv [2, 3, 4, 0] rfl ?_
        exact hk2_ v2 (v3 + (1 : Int32)) r66 h
    · replace h := (if_pos c20).symm.trans h
      refine g_aload_n hC dX9_passDay_23 rfl (q := 1) rfl ?_
      refine g_iload_n hC dX9_passDay_24 rfl (q := 4) rfl ?_
      obtain ⟨r25, h25, h⟩ := oB_some h
      refine g_cV1 hC cv_X9_sizeOf wd_590 ⟨Nat.le_of_ble_eq_true rfl, Nat.le_of_ble_eq_true rfl⟩ hk0.2.1 hk0.1 dX9_passDay_25 (As := [.int v3]) (st := []) (ok_X9_sizeOf hC.2.2.2.2.2.2.2.1 hk0 h25) rfl rfl (Nat.le_of_ble_eq_true rfl) ⟨Nat.zero_le _, Nat.zero_le _⟩ ?_
      refine g_aload_n hC dX9_passDay_28 rfl (q := 1) rfl ?_
      refine g_aload_n hC dX9_passDay_29 rfl (q := 2) rfl ?_
      refine g_iload_n hC dX9_passDay_30 rfl (q := 4) rfl ?_
      refine g_iload_n hC dX9_passDay_31 rfl (q := 3) rfl ?_
      obtain ⟨r32, h32, h⟩ := oB_some h
      refine g_cV1 hC cv_X9_growthOf wd_594 ⟨Nat.le_of_ble_eq_true rfl, Nat.le_of_ble_eq_true rfl⟩ hk0.2.1 hk0.1 dX9_passDay_32 (As := [.ref (mB E + k1), .int v3, .int v2]) (st := [.int r25]) (ok_X9_growthOf hC.2.2.2.2.2.2.2.1 hk0 hk1 h32) rfl rfl (Nat.le_of_ble_eq_true rfl) ⟨Nat.zero_le _, Nat.zero_le _⟩ ?_
      refine g_iadd hC dX9_passDay_35 ?_
      refine g_istore hC dX9_passDay_36 rfl (by decide) (lv' := [(5, .int (r25 + r32.1)), (4, .int r12), (0, .ref (mB E + k0)), (1, .ref (mB E + k1)), (2, .int v2), (3, .int v3)]) rfl ?_
      refine g_aload_n hC dX9_passDay_38 rfl (q := 2) rfl ?_
      refine g_iconst hC dX9_passDay_39 (v := (1 : Int32)) (by decide) ?_
      refine g_iload_n hC dX9_passDay_40 rfl (q := 5) rfl ?_
      refine g_iload hC dX9_passDay_41 (q := 0) rfl ?_
      refine g_bipush hC dX9_passDay_43 (v := (60 : Int32)) (by decide) ?_
      refine g_mmin hC wd_635 wd_st_min wd_in_math wd_cd_min (Nat.le_of_ble_eq_true rfl) (Nat.le_of_ble_eq_true rfl) ⟨Nat.zero_le _, Nat.zero_le _⟩ dX9_passDay_45 ?_
      obtain ⟨r48, h48, h⟩ := oB_some h
      refine g_cV0 hC cv_X9_setCell wd_636 ⟨Nat.le_of_ble_eq_true rfl, Nat.le_of_ble_eq_true rfl⟩ hk0.2.1 hk0.1 dX9_passDay_48 (As := [.int (1 : Int32), .int v3, .int (if (60 : Int32) < (r25 + r32.1) then (60 : Int32) else (r25 + r32.1))]) (st := []) (ok_X9_setCell hC.2.2.2.2.2.2.2.1 hk0 h48) rfl rfl (Nat.le_of_ble_eq_true rfl) ⟨Nat.zero_le _, Nat.zero_le _⟩ ?_
      refine g_goto hC dX9_passDay_51 (tgt := 69) (by decide) ?_
      refine g_iinc hC dX9_passDay_69 rfl (q := 5) rfl (w := (v3 + (1 : Int32))) rfl (by decide) (lv' := [(3, .int (v3 + (1 : Int32))), (5, .int (r25 + r32.1)), (4, .int r12), (0, .ref (mB E + k0)), (1, .ref (mB E + k1)), (2, .int v2)]) rfl ?_
      refine g_goto hC dX9_passDay_72 (tgt := 2) (by decide) ?_
      refine g_lv [3, 4, 5, 0] rfl ?_
      exact hk2_ v2 (v3 + (1 : Int32)) r48 h
noncomputable def w_X9_passDay_2 (Fu : Nat) (k0 : Nat) (k1 : Nat)  (N : Nat) (v2 : Int32) (v3 : Int32) (I : mIT) : Option (mIT) :=
  loopF (fun self (s : Int32 × Int32 × mIT) => b_X9_passDay_2 Fu k0 k1 self s.1 s.2.1 s.2.2) N (v2, v3, I)
theorem wo_X9_passDay_2 {X : mXT} {E : mEn} {Fu : Nat} {R : mRT} {L : mLT} {k0 : Nat} {k1 : Nat} (hC : mC X E mX9_passDay RX9 cX9_passDay) (hk0 : mO9 R k0) (hk1 : mO5 R k1)  {out : mIT} (hE : mEd X E 0 0 (mSame none 106 1 (out) R L))  (N : Nat) (v2 : Int32) (v3 : Int32) (I : mIT) (h : w_X9_passDay_2 Fu k0 k1  N v2 v3 I = some out) : mG X E 2 [(0, .ref (mB E + k0)), (1, .ref (mB E + k1)), (2, .int v2), (3, .int v3)] [] 106 1 I R L 0 0 :=
  loopF_ok (Gd := fun s : Int32 × Int32 × mIT => mG X E 2 [(0, .ref (mB E + k0)), (1, .ref (mB E + k1)), (2, .int s.1), (3, .int s.2.1)] [] 106 1 s.2.2 R L 0 0) (fun self hs s h => bo_X9_passDay_2 hC hk0 hk1 hE self (fun v2 v3 I h => hs (v2, v3, I) h) s.1 s.2.1 s.2.2 h) N (v2, v3, I) h
noncomputable def f_X9_passDay (Fu : Nat) (I : mIT) (k0 : Nat) (k1 : Nat) (v2 : Int32) : Option (mIT) :=
  w_X9_passDay_2 Fu k0 k1 Fu v2 (0 : Int32) I
set_option maxRecDepth 20000 in
theorem ok_X9_passDay {l : Launch} {E : mEn} {Fu : Nat} {I : mIT} {R : mRT} {L : mLT} {k0 : Nat} {k1 : Nat} {v2 : Int32} (hst : l.stackTraces = false) (hk0 : mO9 R k0) (hk1 : mO5 R k1) {out : mIT} (h : f_X9_passDay Fu I k0 k1 v2 = some out) : mOk l E mX9_passDay [.ref (mB E + k0), .ref (mB E + k1), .int v2] 106 1 I R L 0 0 (mSame none 106 1 (out) R L) := by
  refine mOk_of hst (by decide) (Nat.le_of_ble_eq_true rfl) (fun X hC hE _ => ?_)
  have hC : mC X E mX9_passDay RX9 cX9_passDay := hC
  show mG X E 0 [(0, .ref (mB E + k0)), (1, .ref (mB E + k1)), (2, .int v2)] [] 106 1 I R L 0 0
  unfold f_X9_passDay at h
  refine g_iconst hC dX9_passDay_0 (v := (0 : Int32)) (by decide) ?_
  refine g_istore_n hC dX9_passDay_1 rfl rfl (by decide) (lv' := [(3, .int (0 : Int32)), (0, .ref (mB E + k0)), (1, .ref (mB E + k1)), (2, .int v2)]) rfl ?_
  refine g_lv [1, 2, 3, 0] rfl ?_
  exact wo_X9_passDay_2 hC hk0 hk1 hE Fu (v2) ((0 : Int32)) (I) h
noncomputable def b_X10_passDrawnDay_61 (Fu : Nat) (k1 : Nat)  (v2 : Int32) (v3 : Int32) (v4 : Int32) (I : mIT) : Option (mIT) :=
  if v2 = (1 : Int32) then (if v4 < 0 then (oB (f_X10_draw Fu I (10 : Int32)) (fun r89 => oB (f_X9_passDay Fu r89.2 73 k1 r89.1) (fun r92 => some (r92)))) else (oB (f_X9_soften Fu I 73 v3 (9 : Int32)) (fun r78 => oB (f_X10_draw Fu r78 (10 : Int32)) (fun r89 => oB (f_X9_passDay Fu r89.2 73 k1 r89.1) (fun r92 => some (r92)))))) else (oB (f_X10_draw Fu I (10 : Int32)) (fun r89 => oB (f_X9_passDay Fu r89.2 73 k1 r89.1) (fun r92 => some (r92))))
set_option maxRecDepth 20000 in
theorem bo_X10_passDrawnDay_61 {X : mXT} {E : mEn} {Fu : Nat} {R : mRT} {L : mLT} {k1 : Nat} (hC : mC X E mX10_passDrawnDay RX10 cX10_passDrawnDay) (hW : mWd R) (hk1 : mO5 R k1)  {out : mIT} (hE : mEd X E 0 0 (mSame none 106 1 (out) R L))  (v2 : Int32) (v3 : Int32) (v4 : Int32) (I : mIT) (h : b_X10_passDrawnDay_61 Fu k1  v2 v3 v4 I = some out) : mG X E 61 [(0, .ref (mB E + 72)), (1, .ref (mB E + k1)), (2, .int v2), (3, .int v3), (4, .int v4)] [] 106 1 I R L 0 0 := by
  unfold b_X10_passDrawnDay_61 at h
  refine g_iload_n hC dX10_passDrawnDay_61 rfl (q := 2) rfl ?_
  refine g_iconst hC dX10_passDrawnDay_62 (v := (1 : Int32)) (by decide) ?_
  refine g_ic_ne hC dX10_passDrawnDay_63 (tgt := 81) (by decide) (fun c63 => ?_) (fun c63 => ?_)
  · replace h := (if_neg c63).symm.trans h
    refine g_aload_n hC dX10_passDrawnDay_81 rfl (q := 0) rfl ?_
    refine g_getr hC fd_RX10_12 rfl (by decide) (C0 := _) (t0 := .int) (Or.inl rfl) (rr_72_0 hW.1) dX10_passDrawnDay_82 ?_
    refine g_aload_n hC dX10_passDrawnDay_85 rfl (q := 1) rfl ?_
    refine g_aload_n hC dX10_passDrawnDay_86 rfl (q := 0) rfl ?_
    refine g_bipush hC dX10_passDrawnDay_87 (v := (10 : Int32)) (by decide) ?_
    obtain ⟨r89, h89, h⟩ := oB_some h
    refine g_cV1 hC cv_X10_draw wd_1517 ⟨Nat.le_of_ble_eq_true rfl, Nat.le_of_ble_eq_true rfl⟩ rfl (by decide) dX10_passDrawnDay_89 (As := [.int (10 : Int32)]) (st := [.ref (mB E + k1), .ref (mB E + 73)]) (ok_X10_draw hC.2.2.2.2.2.2.2.1 hW h89) rfl rfl (Nat.le_of_ble_eq_true rfl) ⟨Nat.zero_le _, Nat.zero_le _⟩ ?_
    obtain ⟨r92, h92, h⟩ := oB_some h
    refine g_cV0 hC cv_X9_passDay wd_1525 ⟨Nat.le_of_ble_eq_true rfl, Nat.le_of_ble_eq_true rfl⟩ rfl (by decide) dX10_passDrawnDay_92 (As := [.ref (mB E + k1), .int r89.1]) (st := []) (ok_X9_passDay hC.2.2.2.2.2.2.2.1 (ob_73 hW.1) hk1 h92) rfl rfl (Nat.le_of_ble_eq_true rfl) ⟨Nat.zero_le _, Nat.zero_le _⟩ ?_
    cases h
    exact g_vret hC hE rfl dX10_passDrawnDay_95 (Nat.zero_le _) (Nat.zero_le _) ⟨rfl, rfl, rfl, rfl, rfl, rfl⟩
  · replace h := (if_pos c63).symm.trans h
    refine g_iload hC dX10_passDrawnDay_66 (q := 4) rfl ?_
    refine g_if_lt hC dX10_passDrawnDay_68 (tgt := 81) (by decide) (fun c68 => ?_) (fun c68 => ?_)
    · replace h := (if_pos c68).symm.trans h
      refine g_aload_n hC dX10_passDrawnDay_81 rfl (q := 0) rfl ?_
      refine g_getr hC fd_RX10_12 rfl (by decide) (C0 := _) (t0 := .int) (Or.inl rfl) (rr_72_0 hW.1) dX10_passDrawnDay_82 ?_
      refine g_aload_n hC dX10_passDrawnDay_85 rfl (q := 1) rfl ?_
      refine g_aload_n hC dX10_passDrawnDay_86 rfl (q := 0) rfl ?_
      refine g_bipush hC dX10_passDrawnDay_87 (v := (10 : Int32)) (by decide) ?_
      obtain ⟨r89, h89, h⟩ := oB_some h
      refine g_cV1 hC cv_X10_draw wd_1517 ⟨Nat.le_of_ble_eq_true rfl, Nat.le_of_ble_eq_true rfl⟩ rfl (by decide) dX10_passDrawnDay_89 (As := [.int (10 : Int32)]) (st := [.ref (mB E + k1), .ref (mB E + 73)]) (ok_X10_draw hC.2.2.2.2.2.2.2.1 hW h89) rfl rfl (Nat.le_of_ble_eq_true rfl) ⟨Nat.zero_le _, Nat.zero_le _⟩ ?_
      obtain ⟨r92, h92, h⟩ := oB_some h
      refine g_cV0 hC cv_X9_passDay wd_1525 ⟨Nat.le_of_ble_eq_true rfl, Nat.le_of_ble_eq_true rfl⟩ rfl (by decide) dX10_passDrawnDay_92 (As := [.ref (mB E + k1), .int r89.1]) (st := []) (ok_X9_passDay hC.2.2.2.2.2.2.2.1 (ob_73 hW.1) hk1 h92) rfl rfl (Nat.le_of_ble_eq_true rfl) ⟨Nat.zero_le _, Nat.zero_le _⟩ ?_
      cases h
      exact g_vret hC hE rfl dX10_passDrawnDay_95 (Nat.zero_le _) (Nat.zero_le _) ⟨rfl, rfl, rfl, rfl, rfl, rfl⟩
    · replace h := (if_neg c68).symm.trans h
      refine g_aload_n hC dX10_passDrawnDay_71 rfl (q := 0) rfl ?_
      refine g_getr hC fd_RX10_12 rfl (by decide) (C0 := _) (t0 := .int) (Or.inl rfl) (rr_72_0 hW.1) dX10_passDrawnDay_72 ?_
      refine g_iload_n hC dX10_passDrawnDay_75 rfl (q := 3) rfl ?_
      refine g_bipush hC dX10_passDrawnDay_76 (v := (9 : Int32)) (by decide) ?_
      obtain ⟨r78, h78, h⟩ := oB_some h
      refine g_cV0 hC cv_X9_soften wd_1524 ⟨Nat.le_of_ble_eq_true rfl, Nat.le_of_ble_eq_true rfl⟩ rfl (by decide) dX10_passDrawnDay_78 (As := [.int v3, .int (9 : Int32)]) (st := []) (ok_X9_soften hC.2.2.2.2.2.2.2.1 (ob_73 hW.1) h78) rfl rfl (Nat.le_of_ble_eq_true rfl) ⟨Nat.zero_le _, Nat.zero_le _⟩ ?_
      refine g_aload_n hC dX10_passDrawnDay_81 rfl (q := 0) rfl ?_
      refine g_getr hC fd_RX10_12 rfl (by decide) (C0 := _) (t0 := .int) (Or.inl rfl) (rr_72_0 hW.1) dX10_passDrawnDay_82 ?_
      refine g_aload_n hC dX10_passDrawnDay_85 rfl (q := 1) rfl ?_
      refine g_aload_n hC dX10_passDrawnDay_86 rfl (q := 0) rfl ?_
      refine g_bipush hC dX10_passDrawnDay_87 (v := (10 : Int32)) (by decide) ?_
      obtain ⟨r89, h89, h⟩ := oB_some h
      refine g_cV1 hC cv_X10_draw wd_1517 ⟨Nat.le_of_ble_eq_true rfl, Nat.le_of_ble_eq_true rfl⟩ rfl (by decide) dX10_passDrawnDay_89 (As := [.int (10 : Int32)]) (st := [.ref (mB E + k1), .ref (mB E + 73)]) (ok_X10_draw hC.2.2.2.2.2.2.2.1 hW h89) rfl rfl (Nat.le_of_ble_eq_true rfl) ⟨Nat.zero_le _, Nat.zero_le _⟩ ?_
      obtain ⟨r92, h92, h⟩ := oB_some h
      refine g_cV0 hC cv_X9_passDay wd_1525 ⟨Nat.le_of_ble_eq_true rfl, Nat.le_of_ble_eq_true rfl⟩ rfl (by decide) dX10_passDrawnDay_92 (As := [.ref (mB E + k1), .int r89.1]) (st := []) (ok_X9_passDay hC.2.2.2.2.2.2.2.1 (ob_73 hW.1) hk1 h92) rfl rfl (Nat.le_of_ble_eq_true rfl) ⟨Nat.zero_le _, Nat.zero_le _⟩ ?_
      cases h
      exact g_vret hC hE rfl dX10_passDrawnDay_95 (Nat.zero_le _) (Nat.zero_le _) ⟨rfl, rfl, rfl, rfl, rfl, rfl⟩
noncomputable def f_X10_passDrawnDay (Fu : Nat) (I : mIT) (k1 : Nat) : Option (mIT) :=
  oB (f_X10_draw Fu I (8 : Int32)) (fun r3 => if (r3.2 k1 3) ≤ 0 then (oB (f_X10_draw Fu r3.2 (10 : Int32)) (fun r89 => oB (f_X9_passDay Fu r89.2 73 k1 r89.1) (fun r92 => some (r92)))) else (if (1 : Int32) < r3.1 then (oB (f_X10_draw Fu r3.2 (10 : Int32)) (fun r89 => oB (f_X9_passDay Fu r89.2 73 k1 r89.1) (fun r92 => some (r92)))) else (oB (f_X10_draw Fu r3.2 (r3.2 k1 3)) (fun r24 => oB (f_X9_placeOf Fu r24.2 73 r24.1) (fun r33 => if r3.1 = 0 then (if r33 = (-1 : Int32) then (oB (f_X9_setPlace Fu r24.2 73 r24.1 (-2 : Int32)) (fun r55 => oB (f_X10_draw Fu r55 (10 : Int32)) (fun r89 => oB (f_X9_passDay Fu r89.2 73 k1 r89.1) (fun r92 => some (r92))))) else (b_X10_passDrawnDay_61 Fu k1 r3.1 r24.1 r33 r24.2)) else (b_X10_passDrawnDay_61 Fu k1 r3.1 r24.1 r33 r24.2))))))
set_option maxRecDepth 20000 in
theorem ok_X10_passDrawnDay {l : Launch} {E : mEn} {Fu : Nat} {I : mIT} {R : mRT} {L : mLT} {k1 : Nat} (hst : l.stackTraces = false) (hW : mWd R) (hk1 : mO5 R k1) {out : mIT} (h : f_X10_passDrawnDay Fu I k1 = some out) : mOk l E mX10_passDrawnDay [.ref (mB E + 72), .ref (mB E + k1)] 106 1 I R L 0 0 (mSame none 106 1 (out) R L) := by
  refine mOk_of hst (by decide) (Nat.le_of_ble_eq_true rfl) (fun X hC hE _ => ?_)
  have hC : mC X E mX10_passDrawnDay RX10 cX10_passDrawnDay := hC
  show mG X E 0 [(0, .ref (mB E + 72)), (1, .ref (mB E + k1))] [] 106 1 I R L 0 0
  unfold f_X10_passDrawnDay at h
  refine g_aload_n hC dX10_passDrawnDay_0 rfl (q := 0) rfl ?_
  refine g_bipush hC dX10_passDrawnDay_1 (v := (8 : Int32)) (by decide) ?_
  obtain ⟨r3, h3, h⟩ := oB_some h
  refine g_cV1 hC cv_X10_draw wd_1517 ⟨Nat.le_of_ble_eq_true rfl, Nat.le_of_ble_eq_true rfl⟩ rfl (by decide) dX10_passDrawnDay_3 (As := [.int (8 : Int32)]) (st := []) (ok_X10_draw hC.2.2.2.2.2.2.2.1 hW h3) rfl rfl (Nat.le_of_ble_eq_true rfl) ⟨Nat.zero_le _, Nat.zero_le _⟩ ?_
  refine g_istore_n hC dX10_passDrawnDay_6 rfl rfl (by decide) (lv' := [(2, .int r3.1), (0, .ref (mB E + 72)), (1, .ref (mB E + k1))]) rfl ?_
  refine g_aload_n hC dX10_passDrawnDay_7 rfl (q := 2) rfl ?_
  refine g_geti hC fd_RX10_31 hk1.2.1 hk1.1 (Or.inl rfl) dX10_passDrawnDay_8 ?_
  refine g_if_le hC dX10_passDrawnDay_11 (tgt := 81) (by decide) (fun c11 => ?_) (fun c11 => ?_)
  · replace h := (if_pos c11).symm.trans h
    refine g_aload_n hC dX10_passDrawnDay_81 rfl (q := 1) rfl ?_
    refine g_getr hC fd_RX10_12 rfl (by decide) (C0 := _) (t0 := .int) (Or.inl rfl) (rr_72_0 hW.1) dX10_passDrawnDay_82 ?_
    refine g_aload_n hC dX10_passDrawnDay_85 rfl (q := 2) rfl ?_
    refine g_aload_n hC dX10_passDrawnDay_86 rfl (q := 1) rfl ?_
    refine g_bipush hC dX10_passDrawnDay_87 (v := (10 : Int32)) (by decide) ?_
    obtain ⟨r89, h89, h⟩ := oB_some h
    refine g_cV1 hC cv_X10_draw wd_1517 ⟨Nat.le_of_ble_eq_true rfl, Nat.le_of_ble_eq_true rfl⟩ rfl (by decide) dX10_passDrawnDay_89 (As := [.int (10 : Int32)]) (st := [.ref (mB E + k1), .ref (mB E + 73)]) (ok_X10_draw hC.2.2.2.2.2.2.2.1 hW h89) rfl rfl (Nat.le_of_ble_eq_true rfl) ⟨Nat.zero_le _, Nat.zero_le _⟩ ?_
    obtain ⟨r92, h92, h⟩ := oB_some h
    refine g_cV0 hC cv_X9_passDay wd_1525 ⟨Nat.le_of_ble_eq_true rfl, Nat.le_of_ble_eq_true rfl⟩ rfl (by decide) dX10_passDrawnDay_92 (As := [.ref (mB E + k1), .int r89.1]) (st := []) (ok_X9_passDay hC.2.2.2.2.2.2.2.1 (ob_73 hW.1) hk1 h92) rfl rfl (Nat.le_of_ble_eq_true rfl) ⟨Nat.zero_le _, Nat.zero_le _⟩ ?_
    cases h
    exact g_vret hC hE rfl dX10_passDrawnDay_95 (Nat.zero_le _) (Nat.zero_le _) ⟨rfl, rfl, rfl, rfl, rfl, rfl⟩
  · replace h := (if_neg c11).symm.trans h
    refine g_iload_n hC dX10_passDrawnDay_14 rfl (q := 0) rfl ?_
    refine g_iconst hC dX10_passDrawnDay_15 (v := (1 : Int32)) (by decide) ?_
    refine g_ic_gt hC dX10_passDrawnDay_16 (tgt := 81) (by decide) (fun c16 => ?_) (fun c16 => ?_)
    · replace h := (if_pos c16).symm.trans h
      refine g_aload_n hC dX10_passDrawnDay_81 rfl (q := 1) rfl ?_
      refine g_getr hC fd_RX10_12 rfl (by decide) (C0 := _) (t0 := .int) (Or.inl rfl) (rr_72_0 hW.1) dX10_passDrawnDay_82 ?_
      refine g_aload_n hC dX10_passDrawnDay_85 rfl (q := 2) rfl ?_
      refine g_aload_n hC dX10_passDrawnDay_86 rfl (q := 1) rfl ?_
      refine g_bipush hC dX10_passDrawnDay_87 (v := (10 : Int32)) (by decide) ?_
      obtain ⟨r89, h89, h⟩ := oB_some h
      refine g_cV1 hC cv_X10_draw wd_1517 ⟨Nat.le_of_ble_eq_true rfl, Nat.le_of_ble_eq_true rfl⟩ rfl (by decide) dX10_passDrawnDay_89 (As := [.int (10 : Int32)]) (st := [.ref (mB E + k1), .ref (mB E + 73)]) (ok_X10_draw hC.2.2.2.2.2.2.2.1 hW h89) rfl rfl (Nat.le_of_ble_eq_true rfl) ⟨Nat.zero_le _, Nat.zero_le _⟩ ?_
      obtain ⟨r92, h92, h⟩ := oB_some h
      refine g_cV0 hC cv_X9_passDay wd_1525 ⟨Nat.le_of_ble_eq_true rfl, Nat.le_of_ble_eq_true rfl⟩ rfl (by decide) dX10_passDrawnDay_92 (As := [.ref (mB E + k1), .int r89.1]) (st := []) (ok_X9_passDay hC.2.2.2.2.2.2.2.1 (ob_73 hW.1) hk1 h92) rfl rfl (Nat.le_of_ble_eq_true rfl) ⟨Nat.zero_le _, Nat.zero_le _⟩ ?_
      cases h
      exact g_vret hC hE rfl dX10_passDrawnDay_95 (Nat.zero_le _) (Nat.zero_le _) ⟨rfl, rfl, rfl, rfl, rfl, rfl⟩
    · replace h := (if_neg c16).symm.trans h
      refine g_aload_n hC dX10_passDrawnDay_19 rfl (q := 1) rfl ?_
      refine g_aload_n hC dX10_passDrawnDay_20 rfl (q := 2) rfl ?_
      refine g_geti hC fd_RX10_31 hk1.2.1 hk1.1 (Or.inl rfl) dX10_passDrawnDay_21 ?_
      obtain ⟨r24, h24, h⟩ := oB_some h
      refine g_cV1 hC cv_X10_draw wd_1517 ⟨Nat.le_of_ble_eq_true rfl, Nat.le_of_ble_eq_true rfl⟩ rfl (by decide) dX10_passDrawnDay_24 (As := [.int (r3.2 k1 3)]) (st := []) (ok_X10_draw hC.2.2.2.2.2.2.2.1 hW h24) rfl rfl (Nat.le_of_ble_eq_true rfl) ⟨Nat.zero_le _, Nat.zero_le _⟩ ?_
      refine g_istore_n hC dX10_passDrawnDay_27 rfl rfl (by decide) (lv' := [(3, .int r24.1), (2, .int r3.1), (0, .ref (mB E + 72)), (1, .ref (mB E + k1))]) rfl ?_
      refine g_aload_n hC dX10_passDrawnDay_28 rfl (q := 2) rfl ?_
      refine g_getr hC fd_RX10_12 rfl (by decide) (C0 := _) (t0 := .int) (Or.inl rfl) (rr_72_0 hW.1) dX10_passDrawnDay_29 ?_
      refine g_iload_n hC dX10_passDrawnDay_32 rfl (q := 0) rfl ?_
      obtain ⟨r33, h33, h⟩ := oB_some h
      refine g_cV1 hC cv_X9_placeOf wd_1522 ⟨Nat.le_of_ble_eq_true rfl, Nat.le_of_ble_eq_true rfl⟩ rfl (by decide) dX10_passDrawnDay_33 (As := [.int r24.1]) (st := []) (ok_X9_placeOf hC.2.2.2.2.2.2.2.1 (ob_73 hW.1) h33) rfl rfl (Nat.le_of_ble_eq_true rfl) ⟨Nat.zero_le _, Nat.zero_le _⟩ ?_
      refine g_istore hC dX10_passDrawnDay_36 rfl (by decide) (lv' := [(4, .int r33), (3, .int r24.1), (2, .int r3.1), (0, .ref (mB E + 72)), (1, .ref (mB E + k1))]) rfl ?_
      refine g_iload_n hC dX10_passDrawnDay_38 rfl (q := 2) rfl ?_
      refine g_if_ne hC dX10_passDrawnDay_39 (tgt := 61) (by decide) (fun c39 => ?_) (fun c39 => ?_)
      · replace h := (if_neg c39).symm.trans h
        refine g_lv [3, 4, 2, 1, 0] rfl ?_
        exact bo_X10_passDrawnDay_61 hC hW hk1 hE (r3.1) (r24.1) (r33) (r24.2) h
      · replace h := (if_pos c39).symm.trans h
        refine g_iload hC dX10_passDrawnDay_42 (q := 0) rfl ?_
        refine g_iconst hC dX10_passDrawnDay_44 (v := (-1 : Int32)) (by decide) ?_
        refine g_ic_ne hC dX10_passDrawnDay_45 (tgt := 61) (by decide) (fun c45 => ?_) (fun c45 => ?_)
        · replace h := (if_neg c45).symm.trans h
          refine g_lv [3, 4, 2, 1, 0] rfl ?_
          exact bo_X10_passDrawnDay_61 hC hW hk1 hE (r3.1) (r24.1) (r33) (r24.2) h
        · replace h := (if_pos c45).symm.trans h
          refine g_aload_n hC dX10_passDrawnDay_48 rfl (q := 3) rfl ?_
          refine g_getr hC fd_RX10_12 rfl (by decide) (C0 := _) (t0 := .int) (Or.inl rfl) (rr_72_0 hW.1) dX10_passDrawnDay_49 ?_
          refine g_iload_n hC dX10_passDrawnDay_52 rfl (q := 1) rfl ?_
          refine g_bipush hC dX10_passDrawnDay_53 (v := (-2 : Int32)) (by decide) ?_
          obtain ⟨r55, h55, h⟩ := oB_some h
          refine g_cV0 hC cv_X9_setPlace wd_1523 ⟨Nat.le_of_ble_eq_true rfl, Nat.le_of_ble_eq_true rfl⟩ rfl (by decide) dX10_passDrawnDay_55 (As := [.int r24.1, .int (-2 : Int32)]) (st := []) (ok_X9_setPlace hC.2.2.2.2.2.2.2.1 (ob_73 hW.1) h55) rfl rfl (Nat.le_of_ble_eq_true rfl) ⟨Nat.zero_le _, Nat.zero_le _⟩ ?_
          refine g_goto hC dX10_passDrawnDay_58 (tgt := 81) (by decide) ?_
          refine g_aload_n hC dX10_passDrawnDay_81 rfl (q := 3) rfl ?_
          refine g_getr hC fd_RX10_12 rfl (by decide) (C0 := _) (t0 := .int) (Or.inl rfl) (rr_72_0 hW.1) dX10_passDrawnDay_82 ?_
          refine g_aload_n hC dX10_passDrawnDay_85 rfl (q := 4) rfl ?_
          refine g_aload_n hC dX10_passDrawnDay_86 rfl (q := 3) rfl ?_
          refine g_bipush hC dX10_passDrawnDay_87 (v := (10 : Int32)) (by decide) ?_
          obtain ⟨r89, h89, h⟩ := oB_some h
          refine g_cV1 hC cv_X10_draw wd_1517 ⟨Nat.le_of_ble_eq_true rfl, Nat.le_of_ble_eq_true rfl⟩ rfl (by decide) dX10_passDrawnDay_89 (As := [.int (10 : Int32)]) (st := [.ref (mB E + k1), .ref (mB E + 73)]) (ok_X10_draw hC.2.2.2.2.2.2.2.1 hW h89) rfl rfl (Nat.le_of_ble_eq_true rfl) ⟨Nat.zero_le _, Nat.zero_le _⟩ ?_
          obtain ⟨r92, h92, h⟩ := oB_some h
          refine g_cV0 hC cv_X9_passDay wd_1525 ⟨Nat.le_of_ble_eq_true rfl, Nat.le_of_ble_eq_true rfl⟩ rfl (by decide) dX10_passDrawnDay_92 (As := [.ref (mB E + k1), .int r89.1]) (st := []) (ok_X9_passDay hC.2.2.2.2.2.2.2.1 (ob_73 hW.1) hk1 h92) rfl rfl (Nat.le_of_ble_eq_true rfl) ⟨Nat.zero_le _, Nat.zero_le _⟩ ?_
          cases h
          exact g_vret hC hE rfl dX10_passDrawnDay_95 (Nat.zero_le _) (Nat.zero_le _) ⟨rfl, rfl, rfl, rfl, rfl, rfl⟩
noncomputable def b_X10_sizeInGarden_4 (Fu : Nat) (I : mIT) (k1 : Nat) (k4_ : Int32 × Int32 → Option (Int32)) (v2 : Int32) (v3 : Int32) : Option (Int32) :=
  if (I k1 3) ≤ v3 then (some (v2)) else (oB (f_X9_placeOf Fu I 73 v3) (fun r18 => if r18 = (-1 : Int32) then (oB (f_X9_sizeOf Fu I 73 v3) (fun r30 => k4_ ((v2 + r30), (v3 + (1 : Int32))))) else (k4_ ((v2 + (0 : Int32)), (v3 + (1 : Int32))))))
set_option maxRecDepth 20000 in
theorem bo_X10_sizeInGarden_4 {X : mXT} {E : mEn} {Fu : Nat} {I : mIT} {R : mRT} {L : mLT} {k1 : Nat} (hC : mC X E mX10_sizeInGarden RX10 cX10_sizeInGarden) (hW : mWd R) (hk1 : mO5 R k1)  {out : Int32} (hE : mEd X E 0 0 (mSame (some (.int (out))) 106 1 I R L)) (k4_ : Int32 × Int32 → Option (Int32)) (hk4_ : ∀ (v2 : Int32) (v3 : Int32),  k4_ (v2, v3) = some out → mG X E 4 [(0, .ref (mB E + 72)), (1, .ref (mB E + k1)), (2, .int v2), (3, .int v3)] [] 106 1 I R L 0 0) (v2 : Int32) (v3 : Int32) (h : b_X10_sizeInGarden_4 Fu I k1 k4_ v2 v3 = some out) : mG X E 4 [(0, .ref (mB E + 72)), (1, .ref (mB E + k1)), (2, .int v2), (3, .int v3)] [] 106 1 I R L 0 0 := by
  unfold b_X10_sizeInGarden_4 at h
  refine g_iload_n hC dX10_sizeInGarden_4 rfl (q := 3) rfl ?_
  refine g_aload_n hC dX10_sizeInGarden_5 rfl (q := 1) rfl ?_
  refine g_geti hC fd_RX10_31 hk1.2.1 hk1.1 (Or.inl rfl) dX10_sizeInGarden_6 ?_
  refine g_ic_ge hC dX10_sizeInGarden_9 (tgt := 45) (by decide) (fun c9 => ?_) (fun c9 => ?_)
  · replace h := (if_pos c9).symm.trans h
    refine g_iload_n hC dX10_sizeInGarden_45 rfl (q := 2) rfl ?_
    cases h
    exact g_iret hC hE rfl dX10_sizeInGarden_46 (Nat.zero_le _) (Nat.zero_le _) ⟨rfl, rfl, rfl, rfl, rfl, rfl⟩
  · replace h := (if_neg c9).symm.trans h
    refine g_iload_n hC dX10_sizeInGarden_12 rfl (q := 2) rfl ?_
    refine g_aload_n hC dX10_sizeInGarden_13 rfl (q := 0) rfl ?_
    refine g_getr hC fd_RX10_12 rfl (by decide) (C0 := _) (t0 := .int) (Or.inl rfl) (rr_72_0 hW.1) dX10_sizeInGarden_14 ?_
    refine g_iload_n hC dX10_sizeInGarden_17 rfl (q := 3) rfl ?_
    obtain ⟨r18, h18, h⟩ := oB_some h
    refine g_cV1 hC cv_X9_placeOf wd_1522 ⟨Nat.le_of_ble_eq_true rfl, Nat.le_of_ble_eq_true rfl⟩ rfl (by decide) dX10_sizeInGarden_18 (As := [.int v3]) (st := [.int v2]) (ok_X9_placeOf hC.2.2.2.2.2.2.2.1 (ob_73 hW.1) h18) rfl rfl (Nat.le_of_ble_eq_true rfl) ⟨Nat.zero_le _, Nat.zero_le _⟩ ?_
    refine g_iconst hC dX10_sizeInGarden_21 (v := (-1 : Int32)) (by decide) ?_
    refine g_ic_ne hC dX10_sizeInGarden_22 (tgt := 36) (by decide) (fun c22 => ?_) (fun c22 => ?_)
    · replace h := (if_neg c22).symm.trans h
      refine g_iconst hC dX10_sizeInGarden_36 (v := (0 : Int32)) (by decide) ?_
      refine g_iadd hC dX10_sizeInGarden_37 ?_
      refine g_istore_n hC dX10_sizeInGarden_38 rfl rfl (by decide) (lv' := [(2, .int (v2 + (0 : Int32))), (0, .ref (mB E + 72)), (1, .ref (mB E + k1)), (3, .int v3)]) rfl ?_
      refine g_iinc hC dX10_sizeInGarden_39 rfl (q := 3) rfl (w := (v3 + (1 : Int32))) rfl (by decide) (lv' := [(3, .int (v3 + (1 : Int32))), (2, .int (v2 + (0 : Int32))), (0, .ref (mB E + 72)), (1, .ref (mB E + k1))]) rfl ?_
      refine g_goto hC dX10_sizeInGarden_42 (tgt := 4) (by decide) ?_
      refine g_lv [2, 3, 1, 0] rfl ?_
      exact hk4_ (v2 + (0 : Int32)) (v3 + (1 : Int32)) h
    · replace h := (if_pos c22).symm.trans h
      refine g_aload_n hC dX10_sizeInGarden_25 rfl (q := 0) rfl ?_
      refine g_getr hC fd_RX10_12 rfl (by decide) (C0 := _) (t0 := .int) (Or.inl rfl) (rr_72_0 hW.1) dX10_sizeInGarden_26 ?_
      refine g_iload_n hC dX10_sizeInGarden_29 rfl (q := 3) rfl ?_
      obtain ⟨r30, h30, h⟩ := oB_some h
      refine g_cV1 hC cv_X9_sizeOf wd_1539 ⟨Nat.le_of_ble_eq_true rfl, Nat.le_of_ble_eq_true rfl⟩ rfl (by decide) dX10_sizeInGarden_30 (As := [.int v3]) (st := [.int v2]) (ok_X9_sizeOf hC.2.2.2.2.2.2.2.1 (ob_73 hW.1) h30) rfl rfl (Nat.le_of_ble_eq_true rfl) ⟨Nat.zero_le _, Nat.zero_le _⟩ ?_
      refine g_goto hC dX10_sizeInGarden_33 (tgt := 37) (by decide) ?_
      refine g_iadd hC dX10_sizeInGarden_37 ?_
      refine g_istore_n hC dX10_sizeInGarden_38 rfl rfl (by decide) (lv' := [(2, .int (v2 + r30)), (0, .ref (mB E + 72)), (1, .ref (mB E + k1)), (3, .int v3)]) rfl ?_
      refine g_iinc hC dX10_sizeInGarden_39 rfl (q := 3) rfl (w := (v3 + (1 : Int32))) rfl (by decide) (lv' := [(3, .int (v3 + (1 : Int32))), (2, .int (v2 + r30)), (0, .ref (mB E + 72)), (1, .ref (mB E + k1))]) rfl ?_
      refine g_goto hC dX10_sizeInGarden_42 (tgt := 4) (by decide) ?_
      refine g_lv [2, 3, 1, 0] rfl ?_
      exact hk4_ (v2 + r30) (v3 + (1 : Int32)) h
noncomputable def w_X10_sizeInGarden_4 (Fu : Nat) (I : mIT) (k1 : Nat)  (N : Nat) (v2 : Int32) (v3 : Int32) : Option (Int32) :=
  loopF (fun self (s : Int32 × Int32) => b_X10_sizeInGarden_4 Fu I k1 self s.1 s.2) N (v2, v3)
theorem wo_X10_sizeInGarden_4 {X : mXT} {E : mEn} {Fu : Nat} {I : mIT} {R : mRT} {L : mLT} {k1 : Nat} (hC : mC X E mX10_sizeInGarden RX10 cX10_sizeInGarden) (hW : mWd R) (hk1 : mO5 R k1)  {out : Int32} (hE : mEd X E 0 0 (mSame (some (.int (out))) 106 1 I R L))  (N : Nat) (v2 : Int32) (v3 : Int32) (h : w_X10_sizeInGarden_4 Fu I k1  N v2 v3 = some out) : mG X E 4 [(0, .ref (mB E + 72)), (1, .ref (mB E + k1)), (2, .int v2), (3, .int v3)] [] 106 1 I R L 0 0 :=
  loopF_ok (Gd := fun s : Int32 × Int32 => mG X E 4 [(0, .ref (mB E + 72)), (1, .ref (mB E + k1)), (2, .int s.1), (3, .int s.2)] [] 106 1 I R L 0 0) (fun self hs s h => bo_X10_sizeInGarden_4 hC hW hk1 hE self (fun v2 v3 h => hs (v2, v3) h) s.1 s.2 h) N (v2, v3) h
noncomputable def f_X10_sizeInGarden (Fu : Nat) (I : mIT) (k1 : Nat) : Option (Int32) :=
  w_X10_sizeInGarden_4 Fu I k1 Fu (0 : Int32) (0 : Int32)
set_option maxRecDepth 20000 in
theorem ok_X10_sizeInGarden {l : Launch} {E : mEn} {Fu : Nat} {I : mIT} {R : mRT} {L : mLT} {k1 : Nat} (hst : l.stackTraces = false) (hW : mWd R) (hk1 : mO5 R k1) {out : Int32} (h : f_X10_sizeInGarden Fu I k1 = some out) : mOk l E mX10_sizeInGarden [.ref (mB E + 72), .ref (mB E + k1)] 106 1 I R L 0 0 (mSame (some (.int (out))) 106 1 I R L) := by
  refine mOk_of hst (by decide) (Nat.le_of_ble_eq_true rfl) (fun X hC hE _ => ?_)
  have hC : mC X E mX10_sizeInGarden RX10 cX10_sizeInGarden := hC
  show mG X E 0 [(0, .ref (mB E + 72)), (1, .ref (mB E + k1))] [] 106 1 I R L 0 0
  unfold f_X10_sizeInGarden at h
  refine g_iconst hC dX10_sizeInGarden_0 (v := (0 : Int32)) (by decide) ?_
  refine g_istore_n hC dX10_sizeInGarden_1 rfl rfl (by decide) (lv' := [(2, .int (0 : Int32)), (0, .ref (mB E + 72)), (1, .ref (mB E + k1))]) rfl ?_
  refine g_iconst hC dX10_sizeInGarden_2 (v := (0 : Int32)) (by decide) ?_
  refine g_istore_n hC dX10_sizeInGarden_3 rfl rfl (by decide) (lv' := [(3, .int (0 : Int32)), (2, .int (0 : Int32)), (0, .ref (mB E + 72)), (1, .ref (mB E + k1))]) rfl ?_
  refine g_lv [2, 3, 1, 0] rfl ?_
  exact wo_X10_sizeInGarden_4 hC hW hk1 hE Fu ((0 : Int32)) ((0 : Int32)) h
noncomputable def b_X10_sounding_4 (Fu : Nat) (I : mIT) (k1 : Nat) (k4_ : Int32 × Int32 → Option (Int32)) (v2 : Int32) (v3 : Int32) : Option (Int32) :=
  if (I k1 3) ≤ v3 then (some (v2)) else (oB (f_X9_placeOf Fu I 73 v3) (fun r18 => if r18 < 0 then (k4_ ((v2 + (0 : Int32)), (v3 + (1 : Int32)))) else (oB (f_X9_softnessOf Fu I 73 v3) (fun r29 => if (I k1 5) ≤ r29 then (k4_ ((v2 + (0 : Int32)), (v3 + (1 : Int32)))) else (k4_ ((v2 + (1 : Int32)), (v3 + (1 : Int32))))))))
set_option maxRecDepth 20000 in
theorem bo_X10_sounding_4 {X : mXT} {E : mEn} {Fu : Nat} {I : mIT} {R : mRT} {L : mLT} {k1 : Nat} (hC : mC X E mX10_sounding RX10 cX10_sounding) (hW : mWd R) (hk1 : mO5 R k1)  {out : Int32} (hE : mEd X E 0 0 (mSame (some (.int (out))) 106 1 I R L)) (k4_ : Int32 × Int32 → Option (Int32)) (hk4_ : ∀ (v2 : Int32) (v3 : Int32),  k4_ (v2, v3) = some out → mG X E 4 [(0, .ref (mB E + 72)), (1, .ref (mB E + k1)), (2, .int v2), (3, .int v3)] [] 106 1 I R L 0 0) (v2 : Int32) (v3 : Int32) (h : b_X10_sounding_4 Fu I k1 k4_ v2 v3 = some out) : mG X E 4 [(0, .ref (mB E + 72)), (1, .ref (mB E + k1)), (2, .int v2), (3, .int v3)] [] 106 1 I R L 0 0 := by
  unfold b_X10_sounding_4 at h
  refine g_iload_n hC dX10_sounding_4 rfl (q := 3) rfl ?_
  refine g_aload_n hC dX10_sounding_5 rfl (q := 1) rfl ?_
  refine g_geti hC fd_RX10_31 hk1.2.1 hk1.1 (Or.inl rfl) dX10_sounding_6 ?_
  refine g_ic_ge hC dX10_sounding_9 (tgt := 52) (by decide) (fun c9 => ?_) (fun c9 => ?_)
  · replace h := (if_pos c9).symm.trans h
    refine g_iload_n hC dX10_sounding_52 rfl (q := 2) rfl ?_
    cases h
    exact g_iret hC hE rfl dX10_sounding_53 (Nat.zero_le _) (Nat.zero_le _) ⟨rfl, rfl, rfl, rfl, rfl, rfl⟩
  · replace h := (if_neg c9).symm.trans h
    refine g_iload_n hC dX10_sounding_12 rfl (q := 2) rfl ?_
    refine g_aload_n hC dX10_sounding_13 rfl (q := 0) rfl ?_
    refine g_getr hC fd_RX10_12 rfl (by decide) (C0 := _) (t0 := .int) (Or.inl rfl) (rr_72_0 hW.1) dX10_sounding_14 ?_
    refine g_iload_n hC dX10_sounding_17 rfl (q := 3) rfl ?_
    obtain ⟨r18, h18, h⟩ := oB_some h
    refine g_cV1 hC cv_X9_placeOf wd_1522 ⟨Nat.le_of_ble_eq_true rfl, Nat.le_of_ble_eq_true rfl⟩ rfl (by decide) dX10_sounding_18 (As := [.int v3]) (st := [.int v2]) (ok_X9_placeOf hC.2.2.2.2.2.2.2.1 (ob_73 hW.1) h18) rfl rfl (Nat.le_of_ble_eq_true rfl) ⟨Nat.zero_le _, Nat.zero_le _⟩ ?_
    refine g_if_lt hC dX10_sounding_21 (tgt := 43) (by decide) (fun c21 => ?_) (fun c21 => ?_)
    · replace h := (if_pos c21).symm.trans h
      refine g_iconst hC dX10_sounding_43 (v := (0 : Int32)) (by decide) ?_
      refine g_iadd hC dX10_sounding_44 ?_
      refine g_istore_n hC dX10_sounding_45 rfl rfl (by decide) (lv' := [(2, .int (v2 + (0 : Int32))), (0, .ref (mB E + 72)), (1, .ref (mB E + k1)), (3, .int v3)]) rfl ?_
      refine g_iinc hC dX10_sounding_46 rfl (q := 3) rfl (w := (v3 + (1 : Int32))) rfl (by decide) (lv' := [(3, .int (v3 + (1 : Int32))), (2, .int (v2 + (0 : Int32))), (0, .ref (mB E + 72)), (1, .ref (mB E + k1))]) rfl ?_
      refine g_goto hC dX10_sounding_49 (tgt := 4) (by decide) ?_
      refine g_lv [2, 3, 1, 0] rfl ?_
      exact hk4_ (v2 + (0 : Int32)) (v3 + (1 : Int32)) h
    · replace h := (if_neg c21).symm.trans h
      refine g_aload_n hC dX10_sounding_24 rfl (q := 0) rfl ?_
      refine g_getr hC fd_RX10_12 rfl (by decide) (C0 := _) (t0 := .int) (Or.inl rfl) (rr_72_0 hW.1) dX10_sounding_25 ?_
      refine g_iload_n hC dX10_sounding_28 rfl (q := 3) rfl ?_
      obtain ⟨r29, h29, h⟩ := oB_some h
      refine g_cV1 hC cv_X9_softnessOf wd_1530 ⟨Nat.le_of_ble_eq_true rfl, Nat.le_of_ble_eq_true rfl⟩ rfl (by decide) dX10_sounding_29 (As := [.int v3]) (st := [.int v2]) (ok_X9_softnessOf hC.2.2.2.2.2.2.2.1 (ob_73 hW.1) h29) rfl rfl (Nat.le_of_ble_eq_true rfl) ⟨Nat.zero_le _, Nat.zero_le _⟩ ?_
      refine g_aload_n hC dX10_sounding_32 rfl (q := 1) rfl ?_
      refine g_geti hC fd_RX10_53 hk1.2.1 hk1.1 (Or.inl rfl) dX10_sounding_33 ?_
      refine g_ic_ge hC dX10_sounding_36 (tgt := 43) (by decide) (fun c36 => ?_) (fun c36 => ?_)
      · replace h := (if_pos c36).symm.trans h
        refine g_iconst hC dX10_sounding_43 (v := (0 : Int32)) (by decide) ?_
        refine g_iadd hC dX10_sounding_44 ?_
        refine g_istore_n hC dX10_sounding_45 rfl rfl (by decide) (lv' := [(2, .int (v2 + (0 : Int32))), (0, .ref (mB E + 72)), (1, .ref (mB E + k1)), (3, .int v3)]) rfl ?_
        refine g_iinc hC dX10_sounding_46 rfl (q := 3) rfl (w := (v3 + (1 : Int32))) rfl (by decide) (lv' := [(3, .int (v3 + (1 : Int32))), (2, .int (v2 + (0 : Int32))), (0, .ref (mB E + 72)), (1, .ref (mB E + k1))]) rfl ?_
        refine g_goto hC dX10_sounding_49 (tgt := 4) (by decide) ?_
        refine g_lv [2, 3, 1, 0] rfl ?_
        exact hk4_ (v2 + (0 : Int32)) (v3 + (1 : Int32)) h
      · replace h := (if_neg c36).symm.trans h
        refine g_iconst hC dX10_sounding_39 (v := (1 : Int32)) (by decide) ?_
        refine g_goto hC dX10_sounding_40 (tgt := 44) (by decide) ?_
        refine g_iadd hC dX10_sounding_44 ?_
        refine g_istore_n hC dX10_sounding_45 rfl rfl (by decide) (lv' := [(2, .int (v2 + (1 : Int32))), (0, .ref (mB E + 72)), (1, .ref (mB E + k1)), (3, .int v3)]) rfl ?_
        refine g_iinc hC dX10_sounding_46 rfl (q := 3) rfl (w := (v3 + (1 : Int32))) rfl (by decide) (lv' := [(3, .int (v3 + (1 : Int32))), (2, .int (v2 + (1 : Int32))), (0, .ref (mB E + 72)), (1, .ref (mB E + k1))]) rfl ?_
        refine g_goto hC dX10_sounding_49 (tgt := 4) (by decide) ?_
        refine g_lv [2, 3, 1, 0] rfl ?_
        exact hk4_ (v2 + (1 : Int32)) (v3 + (1 : Int32)) h
noncomputable def w_X10_sounding_4 (Fu : Nat) (I : mIT) (k1 : Nat)  (N : Nat) (v2 : Int32) (v3 : Int32) : Option (Int32) :=
  loopF (fun self (s : Int32 × Int32) => b_X10_sounding_4 Fu I k1 self s.1 s.2) N (v2, v3)
theorem wo_X10_sounding_4 {X : mXT} {E : mEn} {Fu : Nat} {I : mIT} {R : mRT} {L : mLT} {k1 : Nat} (hC : mC X E mX10_sounding RX10 cX10_sounding) (hW : mWd R) (hk1 : mO5 R k1)  {out : Int32} (hE : mEd X E 0 0 (mSame (some (.int (out))) 106 1 I R L))  (N : Nat) (v2 : Int32) (v3 : Int32) (h : w_X10_sounding_4 Fu I k1  N v2 v3 = some out) : mG X E 4 [(0, .ref (mB E + 72)), (1, .ref (mB E + k1)), (2, .int v2), (3, .int v3)] [] 106 1 I R L 0 0 :=
  loopF_ok (Gd := fun s : Int32 × Int32 => mG X E 4 [(0, .ref (mB E + 72)), (1, .ref (mB E + k1)), (2, .int s.1), (3, .int s.2)] [] 106 1 I R L 0 0) (fun self hs s h => bo_X10_sounding_4 hC hW hk1 hE self (fun v2 v3 h => hs (v2, v3) h) s.1 s.2 h) N (v2, v3) h
noncomputable def f_X10_sounding (Fu : Nat) (I : mIT) (k1 : Nat) : Option (Int32) :=
  w_X10_sounding_4 Fu I k1 Fu (0 : Int32) (0 : Int32)
set_option maxRecDepth 20000 in
theorem ok_X10_sounding {l : Launch} {E : mEn} {Fu : Nat} {I : mIT} {R : mRT} {L : mLT} {k1 : Nat} (hst : l.stackTraces = false) (hW : mWd R) (hk1 : mO5 R k1) {out : Int32} (h : f_X10_sounding Fu I k1 = some out) : mOk l E mX10_sounding [.ref (mB E + 72), .ref (mB E + k1)] 106 1 I R L 0 0 (mSame (some (.int (out))) 106 1 I R L) := by
  refine mOk_of hst (by decide) (Nat.le_of_ble_eq_true rfl) (fun X hC hE _ => ?_)
  have hC : mC X E mX10_sounding RX10 cX10_sounding := hC
  show mG X E 0 [(0, .ref (mB E + 72)), (1, .ref (mB E + k1))] [] 106 1 I R L 0 0
  unfold f_X10_sounding at h
  refine g_iconst hC dX10_sounding_0 (v := (0 : Int32)) (by decide) ?_
  refine g_istore_n hC dX10_sounding_1 rfl rfl (by decide) (lv' := [(2, .int (0 : Int32)), (0, .ref (mB E + 72)), (1, .ref (mB E + k1))]) rfl ?_
  refine g_iconst hC dX10_sounding_2 (v := (0 : Int32)) (by decide) ?_
  refine g_istore_n hC dX10_sounding_3 rfl rfl (by decide) (lv' := [(3, .int (0 : Int32)), (2, .int (0 : Int32)), (0, .ref (mB E + 72)), (1, .ref (mB E + k1))]) rfl ?_
  refine g_lv [2, 3, 1, 0] rfl ?_
  exact wo_X10_sounding_4 hC hW hk1 hE Fu ((0 : Int32)) ((0 : Int32)) h
