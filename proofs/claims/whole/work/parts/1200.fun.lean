noncomputable def f_X0_clear (Fu : Nat) (I : mIT) (k0 : Nat) : Option (mIT) :=
  some (mU (mU I k0 1 (0 : Int32)) k0 2 (0 : Int32))
set_option maxRecDepth 20000 in
theorem ok_X0_clear {l : Launch} {E : mEn} {Fu : Nat} {I : mIT} {R : mRT} {L : mLT} {k0 : Nat} (hst : l.stackTraces = false) (hk0 : mO0 R k0) {out : mIT} (h : f_X0_clear Fu I k0 = some out) : mOk l E mX0_clear [.ref (mB E + k0)] 106 1 I R L 0 0 (mSame none 106 1 (out) R L) := by
  refine mOk_of hst (by decide) (Nat.le_of_ble_eq_true rfl) (fun X hC hE _ => ?_)
  have hC : mC X E mX0_clear RX0 cX0_clear := hC
  show mG X E 0 [(0, .ref (mB E + k0))] [] 106 1 I R L 0 0
  unfold f_X0_clear at h
  refine g_aload_n hC dX0_clear_0 rfl (q := 0) rfl ?_
  refine g_iconst hC dX0_clear_1 (v := (0 : Int32)) (by decide) ?_
  refine g_puti hC fd_RX0_17 hk0.2.1 hk0.1 rfl dX0_clear_2 (nm_e ?_)
  refine g_aload_n hC dX0_clear_5 rfl (q := 0) rfl ?_
  refine g_iconst hC dX0_clear_6 (v := (0 : Int32)) (by decide) ?_
  refine g_puti hC fd_RX0_21 hk0.2.1 hk0.1 rfl dX0_clear_7 (nm_e ?_)
  cases h
  exact g_vret hC hE rfl dX0_clear_10 (Nat.zero_le _) (Nat.zero_le _) ⟨rfl, rfl, rfl, rfl, rfl, rfl⟩
noncomputable def f_X0_copyFrom (Fu : Nat) (I : mIT) (k0 : Nat) (k1 : Nat) : Option (mIT) :=
  oG (cpB (0 : Int32) (0 : Int32) (2120 : Int32) 2120 2120) (some (mU (mU (mCp I (k1 + 1) (k0 + 1) ((0 : Int32)).toNatClampNeg ((0 : Int32)).toNatClampNeg ((2120 : Int32)).toNatClampNeg) k0 1 ((mCp I (k1 + 1) (k0 + 1) ((0 : Int32)).toNatClampNeg ((0 : Int32)).toNatClampNeg ((2120 : Int32)).toNatClampNeg) k1 1)) k0 2 ((mU (mCp I (k1 + 1) (k0 + 1) ((0 : Int32)).toNatClampNeg ((0 : Int32)).toNatClampNeg ((2120 : Int32)).toNatClampNeg) k0 1 ((mCp I (k1 + 1) (k0 + 1) ((0 : Int32)).toNatClampNeg ((0 : Int32)).toNatClampNeg ((2120 : Int32)).toNatClampNeg) k1 1)) k1 2)))
set_option maxRecDepth 20000 in
theorem ok_X0_copyFrom {l : Launch} {E : mEn} {Fu : Nat} {I : mIT} {R : mRT} {L : mLT} {k0 : Nat} {k1 : Nat} (hst : l.stackTraces = false) (hk0 : mO0 R k0) (hk1 : mO0 R k1) {out : mIT} (h : f_X0_copyFrom Fu I k0 k1 = some out) : mOk l E mX0_copyFrom [.ref (mB E + k0), .ref (mB E + k1)] 106 1 I R L 0 0 (mSame none 106 1 (out) R L) := by
  refine mOk_of hst (by decide) (Nat.le_of_ble_eq_true rfl) (fun X hC hE _ => ?_)
  have hC : mC X E mX0_copyFrom RX0 cX0_copyFrom := hC
  show mG X E 0 [(0, .ref (mB E + k0)), (1, .ref (mB E + k1))] [] 106 1 I R L 0 0
  unfold f_X0_copyFrom at h
  refine g_aload_n hC dX0_copyFrom_0 rfl (q := 1) rfl ?_
  refine g_getr hC fd_RX0_11 hk1.2.1 hk1.1 (C0 := "") (t0 := _) (Or.inr rfl) hk1.2.2.1 dX0_copyFrom_1 ?_
  refine g_iconst hC dX0_copyFrom_4 (v := (0 : Int32)) (by decide) ?_
  refine g_aload_n hC dX0_copyFrom_5 rfl (q := 0) rfl ?_
  refine g_getr hC fd_RX0_11 hk0.2.1 hk0.1 (C0 := "") (t0 := _) (Or.inr rfl) hk0.2.2.1 dX0_copyFrom_6 ?_
  refine g_iconst hC dX0_copyFrom_9 (v := (0 : Int32)) (by decide) ?_
  refine g_sipush hC dX0_copyFrom_10 (v := (2120 : Int32)) (by decide) ?_
  obtain ⟨g13, h⟩ := oG_some h
  refine g_copy hC wd_824 wd_na_copy wd_st_copy wd_in_sys hk1.2.2.2.2 hk0.2.2.2.2 hk1.2.2.2.1 hk0.2.2.2.1 (cpB_ok g13).1 (cpB_ok g13).2.1 (cpB_ok g13).2.2.1 (cpB_ok g13).2.2.2.1 (cpB_ok g13).2.2.2.2 (Nat.le_of_ble_eq_true rfl) (Nat.le_of_ble_eq_true rfl) (by decide) dX0_copyFrom_13 (nm_e ?_)
  refine g_aload_n hC dX0_copyFrom_16 rfl (q := 0) rfl ?_
  refine g_aload_n hC dX0_copyFrom_17 rfl (q := 1) rfl ?_
  refine g_geti hC fd_RX0_17 hk1.2.1 hk1.1 (Or.inl rfl) dX0_copyFrom_18 ?_
  refine g_puti hC fd_RX0_17 hk0.2.1 hk0.1 rfl dX0_copyFrom_21 (nm_e ?_)
  refine g_aload_n hC dX0_copyFrom_24 rfl (q := 0) rfl ?_
  refine g_aload_n hC dX0_copyFrom_25 rfl (q := 1) rfl ?_
  refine g_geti hC fd_RX0_21 hk1.2.1 hk1.1 (Or.inl rfl) dX0_copyFrom_26 ?_
  refine g_puti hC fd_RX0_21 hk0.2.1 hk0.1 rfl dX0_copyFrom_29 (nm_e ?_)
  cases h
  exact g_vret hC hE rfl dX0_copyFrom_32 (Nat.zero_le _) (Nat.zero_le _) ⟨rfl, rfl, rfl, rfl, rfl, rfl⟩
noncomputable def f_X9_saveTo (Fu : Nat) (I : mIT) (k0 : Nat) (k1 : Nat) (v2 : Int32) : Option (mIT) :=
  if v2 < 0 then (some (I)) else (if ((nI (mT k1).2) - (53 : Int32)) < v2 then (some (I)) else (oG (cpB (0 : Int32) v2 (53 : Int32) 53 (mT k1).2) (some (mCp I (k0 + 1) k1 ((0 : Int32)).toNatClampNeg (v2).toNatClampNeg ((53 : Int32)).toNatClampNeg))))
set_option maxRecDepth 20000 in
theorem ok_X9_saveTo {l : Launch} {E : mEn} {Fu : Nat} {I : mIT} {R : mRT} {L : mLT} {k0 : Nat} {k1 : Nat} {v2 : Int32} (hst : l.stackTraces = false) (hk0 : mO9 R k0) (hk1 : (mT k1).1 = 1 ∧ k1 < 106) {out : mIT} (h : f_X9_saveTo Fu I k0 k1 v2 = some out) : mOk l E mX9_saveTo [.ref (mB E + k0), .ref (mB E + k1), .int v2] 106 1 I R L 0 0 (mSame none 106 1 (out) R L) := by
  refine mOk_of hst (by decide) (Nat.le_of_ble_eq_true rfl) (fun X hC hE _ => ?_)
  have hC : mC X E mX9_saveTo RX9 cX9_saveTo := hC
  show mG X E 0 [(0, .ref (mB E + k0)), (1, .ref (mB E + k1)), (2, .int v2)] [] 106 1 I R L 0 0
  unfold f_X9_saveTo at h
  refine g_iload_n hC dX9_saveTo_0 rfl (q := 2) rfl ?_
  refine g_if_lt hC dX9_saveTo_1 (tgt := 25) (by decide) (fun c1 => ?_) (fun c1 => ?_)
  · replace h := (if_pos c1).symm.trans h
    cases h
    exact g_vret hC hE rfl dX9_saveTo_25 (Nat.zero_le _) (Nat.zero_le _) ⟨rfl, rfl, rfl, rfl, rfl, rfl⟩
  · replace h := (if_neg c1).symm.trans h
    refine g_iload_n hC dX9_saveTo_4 rfl (q := 2) rfl ?_
    refine g_aload_n hC dX9_saveTo_5 rfl (q := 1) rfl ?_
    refine g_alenI hC (mAr_T hk1) hk1.2 dX9_saveTo_6 ?_
    refine g_bipush hC dX9_saveTo_7 (v := (53 : Int32)) (by decide) ?_
    refine g_isub hC dX9_saveTo_9 ?_
    refine g_ic_gt hC dX9_saveTo_10 (tgt := 25) (by decide) (fun c10 => ?_) (fun c10 => ?_)
    · replace h := (if_pos c10).symm.trans h
      cases h
      exact g_vret hC hE rfl dX9_saveTo_25 (Nat.zero_le _) (Nat.zero_le _) ⟨rfl, rfl, rfl, rfl, rfl, rfl⟩
    · replace h := (if_neg c10).symm.trans h
      refine g_aload_n hC dX9_saveTo_13 rfl (q := 0) rfl ?_
      refine g_getr hC fd_RX9_11 hk0.2.1 hk0.1 (C0 := "") (t0 := _) (Or.inr rfl) hk0.2.2.1 dX9_saveTo_14 ?_
      refine g_iconst hC dX9_saveTo_17 (v := (0 : Int32)) (by decide) ?_
      refine g_aload_n hC dX9_saveTo_18 rfl (q := 1) rfl ?_
      refine g_iload_n hC dX9_saveTo_19 rfl (q := 2) rfl ?_
      refine g_bipush hC dX9_saveTo_20 (v := (53 : Int32)) (by decide) ?_
      obtain ⟨g22, h⟩ := oG_some h
      refine g_copy hC wd_563 wd_na_copy wd_st_copy wd_in_sys hk0.2.2.2.2 (mAr_T hk1) hk0.2.2.2.1 hk1.2 (cpB_ok g22).1 (cpB_ok g22).2.1 (cpB_ok g22).2.2.1 (cpB_ok g22).2.2.2.1 (cpB_ok g22).2.2.2.2 (Nat.le_of_ble_eq_true rfl) (Nat.le_of_ble_eq_true rfl) (by decide) dX9_saveTo_22 (nm_e ?_)
      cases h
      exact g_vret hC hE rfl dX9_saveTo_25 (Nat.zero_le _) (Nat.zero_le _) ⟨rfl, rfl, rfl, rfl, rfl, rfl⟩
noncomputable def f_X0_keep (Fu : Nat) (I : mIT) (k0 : Nat) (k1 : Nat) : Option (mIT) :=
  oB (f_X9_saveTo Fu I k1 (k0 + 1) ((((I k0 1) + (I k0 2)) - ((I k0 1) + (I k0 2)) / (40 : Int32) * (40 : Int32)) * (53 : Int32))) (fun r20 => if (40 : Int32) ≤ (r20 k0 2) then (some (mU r20 k0 1 (((r20 k0 1) + (1 : Int32)) - ((r20 k0 1) + (1 : Int32)) / (40 : Int32) * (40 : Int32)))) else (some (mU r20 k0 2 ((r20 k0 2) + (1 : Int32)))))
set_option maxRecDepth 20000 in
theorem ok_X0_keep {l : Launch} {E : mEn} {Fu : Nat} {I : mIT} {R : mRT} {L : mLT} {k0 : Nat} {k1 : Nat} (hst : l.stackTraces = false) (hk0 : mO0 R k0) (hk1 : mO9 R k1) {out : mIT} (h : f_X0_keep Fu I k0 k1 = some out) : mOk l E mX0_keep [.ref (mB E + k0), .ref (mB E + k1)] 106 1 I R L 0 0 (mSame none 106 1 (out) R L) := by
  refine mOk_of hst (by decide) (Nat.le_of_ble_eq_true rfl) (fun X hC hE _ => ?_)
  have hC : mC X E mX0_keep RX0 cX0_keep := hC
  show mG X E 0 [(0, .ref (mB E + k0)), (1, .ref (mB E + k1))] [] 106 1 I R L 0 0
  unfold f_X0_keep at h
  refine g_aload_n hC dX0_keep_0 rfl (q := 1) rfl ?_
  refine g_aload_n hC dX0_keep_1 rfl (q := 0) rfl ?_
  refine g_getr hC fd_RX0_11 hk0.2.1 hk0.1 (C0 := "") (t0 := _) (Or.inr rfl) hk0.2.2.1 dX0_keep_2 ?_
  refine g_aload_n hC dX0_keep_5 rfl (q := 0) rfl ?_
  refine g_geti hC fd_RX0_17 hk0.2.1 hk0.1 (Or.inl rfl) dX0_keep_6 ?_
  refine g_aload_n hC dX0_keep_9 rfl (q := 0) rfl ?_
  refine g_geti hC fd_RX0_21 hk0.2.1 hk0.1 (Or.inl rfl) dX0_keep_10 ?_
  refine g_iadd hC dX0_keep_13 ?_
  refine g_bipush hC dX0_keep_14 (v := (40 : Int32)) (by decide) ?_
  refine g_irem hC dX0_keep_16 (by decide) ?_
  refine g_bipush hC dX0_keep_17 (v := (53 : Int32)) (by decide) ?_
  refine g_imul hC dX0_keep_19 ?_
  obtain ⟨r20, h20, h⟩ := oB_some h
  refine g_cV0 hC cv_X9_saveTo wd_559 ⟨Nat.le_of_ble_eq_true rfl, Nat.le_of_ble_eq_true rfl⟩ hk1.2.1 hk1.1 dX0_keep_20 (As := [.ref (mB E + (k0 + 1)), .int ((((I k0 1) + (I k0 2)) - ((I k0 1) + (I k0 2)) / (40 : Int32) * (40 : Int32)) * (53 : Int32))]) (st := []) (ok_X9_saveTo hC.2.2.2.2.2.2.2.1 hk1 ⟨(by rw [hk0.2.2.2.2]), hk0.2.2.2.1⟩ h20) rfl rfl (Nat.le_of_ble_eq_true rfl) ⟨Nat.zero_le _, Nat.zero_le _⟩ ?_
  refine g_aload_n hC dX0_keep_23 rfl (q := 0) rfl ?_
  refine g_geti hC fd_RX0_21 hk0.2.1 hk0.1 (Or.inl rfl) dX0_keep_24 ?_
  refine g_bipush hC dX0_keep_27 (v := (40 : Int32)) (by decide) ?_
  refine g_ic_ge hC dX0_keep_29 (tgt := 45) (by decide) (fun c29 => ?_) (fun c29 => ?_)
  · replace h := (if_pos c29).symm.trans h
    refine g_aload_n hC dX0_keep_45 rfl (q := 0) rfl ?_
    refine g_aload_n hC dX0_keep_46 rfl (q := 0) rfl ?_
    refine g_geti hC fd_RX0_17 hk0.2.1 hk0.1 (Or.inl rfl) dX0_keep_47 ?_
    refine g_iconst hC dX0_keep_50 (v := (1 : Int32)) (by decide) ?_
    refine g_iadd hC dX0_keep_51 ?_
    refine g_bipush hC dX0_keep_52 (v := (40 : Int32)) (by decide) ?_
    refine g_irem hC dX0_keep_54 (by decide) ?_
    refine g_puti hC fd_RX0_17 hk0.2.1 hk0.1 rfl dX0_keep_55 (nm_e ?_)
    cases h
    exact g_vret hC hE rfl dX0_keep_58 (Nat.zero_le _) (Nat.zero_le _) ⟨rfl, rfl, rfl, rfl, rfl, rfl⟩
  · replace h := (if_neg c29).symm.trans h
    refine g_aload_n hC dX0_keep_32 rfl (q := 0) rfl ?_
    refine g_dup hC dX0_keep_33 rfl ?_
    refine g_geti hC fd_RX0_21 hk0.2.1 hk0.1 (Or.inl rfl) dX0_keep_34 ?_
    refine g_iconst hC dX0_keep_37 (v := (1 : Int32)) (by decide) ?_
    refine g_iadd hC dX0_keep_38 ?_
    refine g_puti hC fd_RX0_21 hk0.2.1 hk0.1 rfl dX0_keep_39 (nm_e ?_)
    refine g_goto hC dX0_keep_42 (tgt := 58) (by decide) ?_
    cases h
    exact g_vret hC hE rfl dX0_keep_58 (Nat.zero_le _) (Nat.zero_le _) ⟨rfl, rfl, rfl, rfl, rfl, rfl⟩
noncomputable def f_X0_many (Fu : Nat) (I : mIT) (k0 : Nat) : Option (Int32) :=
  some (I k0 2)
set_option maxRecDepth 20000 in
theorem ok_X0_many {l : Launch} {E : mEn} {Fu : Nat} {I : mIT} {R : mRT} {L : mLT} {k0 : Nat} (hst : l.stackTraces = false) (hk0 : mO0 R k0) {out : Int32} (h : f_X0_many Fu I k0 = some out) : mOk l E mX0_many [.ref (mB E + k0)] 106 1 I R L 0 0 (mSame (some (.int (out))) 106 1 I R L) := by
  refine mOk_of hst (by decide) (Nat.le_of_ble_eq_true rfl) (fun X hC hE _ => ?_)
  have hC : mC X E mX0_many RX0 cX0_many := hC
  show mG X E 0 [(0, .ref (mB E + k0))] [] 106 1 I R L 0 0
  unfold f_X0_many at h
  refine g_aload_n hC dX0_many_0 rfl (q := 0) rfl ?_
  refine g_geti hC fd_RX0_21 hk0.2.1 hk0.1 (Or.inl rfl) dX0_many_1 ?_
  cases h
  exact g_iret hC hE rfl dX0_many_4 (Nat.zero_le _) (Nat.zero_le _) ⟨rfl, rfl, rfl, rfl, rfl, rfl⟩
noncomputable def f_X9_loadFrom (Fu : Nat) (I : mIT) (k0 : Nat) (k1 : Nat) (v2 : Int32) : Option (mIT) :=
  if v2 < 0 then (some (I)) else (if ((nI (mT k1).2) - (53 : Int32)) < v2 then (some (I)) else (oG (cpB v2 (0 : Int32) (53 : Int32) (mT k1).2 53) (some (mCp I k1 (k0 + 1) (v2).toNatClampNeg ((0 : Int32)).toNatClampNeg ((53 : Int32)).toNatClampNeg))))
set_option maxRecDepth 20000 in
theorem ok_X9_loadFrom {l : Launch} {E : mEn} {Fu : Nat} {I : mIT} {R : mRT} {L : mLT} {k0 : Nat} {k1 : Nat} {v2 : Int32} (hst : l.stackTraces = false) (hk0 : mO9 R k0) (hk1 : (mT k1).1 = 1 ∧ k1 < 106) {out : mIT} (h : f_X9_loadFrom Fu I k0 k1 v2 = some out) : mOk l E mX9_loadFrom [.ref (mB E + k0), .ref (mB E + k1), .int v2] 106 1 I R L 0 0 (mSame none 106 1 (out) R L) := by
  refine mOk_of hst (by decide) (Nat.le_of_ble_eq_true rfl) (fun X hC hE _ => ?_)
  have hC : mC X E mX9_loadFrom RX9 cX9_loadFrom := hC
  show mG X E 0 [(0, .ref (mB E + k0)), (1, .ref (mB E + k1)), (2, .int v2)] [] 106 1 I R L 0 0
  unfold f_X9_loadFrom at h
  refine g_iload_n hC dX9_loadFrom_0 rfl (q := 2) rfl ?_
  refine g_if_lt hC dX9_loadFrom_1 (tgt := 25) (by decide) (fun c1 => ?_) (fun c1 => ?_)
  · replace h := (if_pos c1).symm.trans h
    cases h
    exact g_vret hC hE rfl dX9_loadFrom_25 (Nat.zero_le _) (Nat.zero_le _) ⟨rfl, rfl, rfl, rfl, rfl, rfl⟩
  · replace h := (if_neg c1).symm.trans h
    refine g_iload_n hC dX9_loadFrom_4 rfl (q := 2) rfl ?_
    refine g_aload_n hC dX9_loadFrom_5 rfl (q := 1) rfl ?_
    refine g_alenI hC (mAr_T hk1) hk1.2 dX9_loadFrom_6 ?_
    refine g_bipush hC dX9_loadFrom_7 (v := (53 : Int32)) (by decide) ?_
    refine g_isub hC dX9_loadFrom_9 ?_
    refine g_ic_gt hC dX9_loadFrom_10 (tgt := 25) (by decide) (fun c10 => ?_) (fun c10 => ?_)
    · replace h := (if_pos c10).symm.trans h
      cases h
      exact g_vret hC hE rfl dX9_loadFrom_25 (Nat.zero_le _) (Nat.zero_le _) ⟨rfl, rfl, rfl, rfl, rfl, rfl⟩
    · replace h := (if_neg c10).symm.trans h
      refine g_aload_n hC dX9_loadFrom_13 rfl (q := 1) rfl ?_
      refine g_iload_n hC dX9_loadFrom_14 rfl (q := 2) rfl ?_
      refine g_aload_n hC dX9_loadFrom_15 rfl (q := 0) rfl ?_
      refine g_getr hC fd_RX9_11 hk0.2.1 hk0.1 (C0 := "") (t0 := _) (Or.inr rfl) hk0.2.2.1 dX9_loadFrom_16 ?_
      refine g_iconst hC dX9_loadFrom_19 (v := (0 : Int32)) (by decide) ?_
      refine g_bipush hC dX9_loadFrom_20 (v := (53 : Int32)) (by decide) ?_
      obtain ⟨g22, h⟩ := oG_some h
      refine g_copy hC wd_563 wd_na_copy wd_st_copy wd_in_sys (mAr_T hk1) hk0.2.2.2.2 hk1.2 hk0.2.2.2.1 (cpB_ok g22).1 (cpB_ok g22).2.1 (cpB_ok g22).2.2.1 (cpB_ok g22).2.2.2.1 (cpB_ok g22).2.2.2.2 (Nat.le_of_ble_eq_true rfl) (Nat.le_of_ble_eq_true rfl) (by decide) dX9_loadFrom_22 (nm_e ?_)
      cases h
      exact g_vret hC hE rfl dX9_loadFrom_25 (Nat.zero_le _) (Nat.zero_le _) ⟨rfl, rfl, rfl, rfl, rfl, rfl⟩
noncomputable def f_X0_undoInto (Fu : Nat) (I : mIT) (k0 : Nat) (k1 : Nat) : Option (Int32 × mIT) :=
  if 0 < (I k0 2) then (oB (f_X9_loadFrom Fu (mU I k0 2 ((I k0 2) - (1 : Int32))) k1 (k0 + 1) (((((mU I k0 2 ((I k0 2) - (1 : Int32))) k0 1) + ((mU I k0 2 ((I k0 2) - (1 : Int32))) k0 2)) - (((mU I k0 2 ((I k0 2) - (1 : Int32))) k0 1) + ((mU I k0 2 ((I k0 2) - (1 : Int32))) k0 2)) / (40 : Int32) * (40 : Int32)) * (53 : Int32))) (fun r39 => some ((1 : Int32), r39))) else (some ((0 : Int32), I))
set_option maxRecDepth 20000 in
theorem ok_X0_undoInto {l : Launch} {E : mEn} {Fu : Nat} {I : mIT} {R : mRT} {L : mLT} {k0 : Nat} {k1 : Nat} (hst : l.stackTraces = false) (hk0 : mO0 R k0) (hk1 : mO9 R k1) {out : Int32 × mIT} (h : f_X0_undoInto Fu I k0 k1 = some out) : mOk l E mX0_undoInto [.ref (mB E + k0), .ref (mB E + k1)] 106 1 I R L 0 0 (mSame (some (.int (out.1))) 106 1 (out.2) R L) := by
  refine mOk_of hst (by decide) (Nat.le_of_ble_eq_true rfl) (fun X hC hE _ => ?_)
  have hC : mC X E mX0_undoInto RX0 cX0_undoInto := hC
  show mG X E 0 [(0, .ref (mB E + k0)), (1, .ref (mB E + k1))] [] 106 1 I R L 0 0
  unfold f_X0_undoInto at h
  refine g_aload_n hC dX0_undoInto_0 rfl (q := 0) rfl ?_
  refine g_geti hC fd_RX0_21 hk0.2.1 hk0.1 (Or.inl rfl) dX0_undoInto_1 ?_
  refine g_if_gt hC dX0_undoInto_4 (tgt := 9) (by decide) (fun c4 => ?_) (fun c4 => ?_)
  · replace h := (if_pos c4).symm.trans h
    refine g_aload_n hC dX0_undoInto_9 rfl (q := 0) rfl ?_
    refine g_dup hC dX0_undoInto_10 rfl ?_
    refine g_geti hC fd_RX0_21 hk0.2.1 hk0.1 (Or.inl rfl) dX0_undoInto_11 ?_
    refine g_iconst hC dX0_undoInto_14 (v := (1 : Int32)) (by decide) ?_
    refine g_isub hC dX0_undoInto_15 ?_
    refine g_puti hC fd_RX0_21 hk0.2.1 hk0.1 rfl dX0_undoInto_16 (nm_e ?_)
    refine g_aload_n hC dX0_undoInto_19 rfl (q := 1) rfl ?_
    refine g_aload_n hC dX0_undoInto_20 rfl (q := 0) rfl ?_
    refine g_getr hC fd_RX0_11 hk0.2.1 hk0.1 (C0 := "") (t0 := _) (Or.inr rfl) hk0.2.2.1 dX0_undoInto_21 ?_
    refine g_aload_n hC dX0_undoInto_24 rfl (q := 0) rfl ?_
    refine g_geti hC fd_RX0_17 hk0.2.1 hk0.1 (Or.inl rfl) dX0_undoInto_25 ?_
    refine g_aload_n hC dX0_undoInto_28 rfl (q := 0) rfl ?_
    refine g_geti hC fd_RX0_21 hk0.2.1 hk0.1 (Or.inl rfl) dX0_undoInto_29 ?_
    refine g_iadd hC dX0_undoInto_32 ?_
    refine g_bipush hC dX0_undoInto_33 (v := (40 : Int32)) (by decide) ?_
    refine g_irem hC dX0_undoInto_35 (by decide) ?_
    refine g_bipush hC dX0_undoInto_36 (v := (53 : Int32)) (by decide) ?_
    refine g_imul hC dX0_undoInto_38 ?_
    obtain ⟨r39, h39, h⟩ := oB_some h
    refine g_cV0 hC cv_X9_loadFrom wd_652 ⟨Nat.le_of_ble_eq_true rfl, Nat.le_of_ble_eq_true rfl⟩ hk1.2.1 hk1.1 dX0_undoInto_39 (As := [.ref (mB E + (k0 + 1)), .int (((((mU I k0 2 ((I k0 2) - (1 : Int32))) k0 1) + ((mU I k0 2 ((I k0 2) - (1 : Int32))) k0 2)) - (((mU I k0 2 ((I k0 2) - (1 : Int32))) k0 1) + ((mU I k0 2 ((I k0 2) - (1 : Int32))) k0 2)) / (40 : Int32) * (40 : Int32)) * (53 : Int32))]) (st := []) (ok_X9_loadFrom hC.2.2.2.2.2.2.2.1 hk1 ⟨(by rw [hk0.2.2.2.2]), hk0.2.2.2.1⟩ h39) rfl rfl (Nat.le_of_ble_eq_true rfl) ⟨Nat.zero_le _, Nat.zero_le _⟩ ?_
    refine g_iconst hC dX0_undoInto_42 (v := (1 : Int32)) (by decide) ?_
    cases h
    exact g_zret hC (by decide) hE rfl dX0_undoInto_43 (Nat.zero_le _) (Nat.zero_le _) ⟨rfl, rfl, rfl, rfl, rfl, rfl⟩
  · replace h := (if_neg c4).symm.trans h
    refine g_iconst hC dX0_undoInto_7 (v := (0 : Int32)) (by decide) ?_
    cases h
    exact g_zret hC (by decide) hE rfl dX0_undoInto_8 (Nat.zero_le _) (Nat.zero_le _) ⟨rfl, rfl, rfl, rfl, rfl, rfl⟩
noncomputable def f_X9_copyFrom (Fu : Nat) (I : mIT) (k0 : Nat) (k1 : Nat) : Option (mIT) :=
  oG (cpB (0 : Int32) (0 : Int32) (53 : Int32) 53 53) (some (mCp I (k1 + 1) (k0 + 1) ((0 : Int32)).toNatClampNeg ((0 : Int32)).toNatClampNeg ((53 : Int32)).toNatClampNeg))
set_option maxRecDepth 20000 in
theorem ok_X9_copyFrom {l : Launch} {E : mEn} {Fu : Nat} {I : mIT} {R : mRT} {L : mLT} {k0 : Nat} {k1 : Nat} (hst : l.stackTraces = false) (hk0 : mO9 R k0) (hk1 : mO9 R k1) {out : mIT} (h : f_X9_copyFrom Fu I k0 k1 = some out) : mOk l E mX9_copyFrom [.ref (mB E + k0), .ref (mB E + k1)] 106 1 I R L 0 0 (mSame none 106 1 (out) R L) := by
  refine mOk_of hst (by decide) (Nat.le_of_ble_eq_true rfl) (fun X hC hE _ => ?_)
  have hC : mC X E mX9_copyFrom RX9 cX9_copyFrom := hC
  show mG X E 0 [(0, .ref (mB E + k0)), (1, .ref (mB E + k1))] [] 106 1 I R L 0 0
  unfold f_X9_copyFrom at h
  refine g_aload_n hC dX9_copyFrom_0 rfl (q := 1) rfl ?_
  refine g_getr hC fd_RX9_11 hk1.2.1 hk1.1 (C0 := "") (t0 := _) (Or.inr rfl) hk1.2.2.1 dX9_copyFrom_1 ?_
  refine g_iconst hC dX9_copyFrom_4 (v := (0 : Int32)) (by decide) ?_
  refine g_aload_n hC dX9_copyFrom_5 rfl (q := 0) rfl ?_
  refine g_getr hC fd_RX9_11 hk0.2.1 hk0.1 (C0 := "") (t0 := _) (Or.inr rfl) hk0.2.2.1 dX9_copyFrom_6 ?_
  refine g_iconst hC dX9_copyFrom_9 (v := (0 : Int32)) (by decide) ?_
  refine g_bipush hC dX9_copyFrom_10 (v := (53 : Int32)) (by decide) ?_
  obtain ⟨g12, h⟩ := oG_some h
  refine g_copy hC wd_563 wd_na_copy wd_st_copy wd_in_sys hk1.2.2.2.2 hk0.2.2.2.2 hk1.2.2.2.1 hk0.2.2.2.1 (cpB_ok g12).1 (cpB_ok g12).2.1 (cpB_ok g12).2.2.1 (cpB_ok g12).2.2.2.1 (cpB_ok g12).2.2.2.2 (Nat.le_of_ble_eq_true rfl) (Nat.le_of_ble_eq_true rfl) (by decide) dX9_copyFrom_12 (nm_e ?_)
  cases h
  exact g_vret hC hE rfl dX9_copyFrom_15 (Nat.zero_le _) (Nat.zero_le _) ⟨rfl, rfl, rfl, rfl, rfl, rfl⟩
noncomputable def f_X10_begin (Fu : Nat) (I : mIT) (k1 : Nat) (v2 : Int32) : Option (mIT) :=
  oB (f_X9_copyFrom Fu I 73 k1) (fun r5 => some (mU r5 72 1 v2))
set_option maxRecDepth 20000 in
theorem ok_X10_begin {l : Launch} {E : mEn} {Fu : Nat} {I : mIT} {R : mRT} {L : mLT} {k1 : Nat} {v2 : Int32} (hst : l.stackTraces = false) (hW : mWd R) (hk1 : mO9 R k1) {out : mIT} (h : f_X10_begin Fu I k1 v2 = some out) : mOk l E mX10_begin [.ref (mB E + 72), .ref (mB E + k1), .int v2] 106 1 I R L 0 0 (mSame none 106 1 (out) R L) := by
  refine mOk_of hst (by decide) (Nat.le_of_ble_eq_true rfl) (fun X hC hE _ => ?_)
  have hC : mC X E mX10_begin RX10 cX10_begin := hC
  show mG X E 0 [(0, .ref (mB E + 72)), (1, .ref (mB E + k1)), (2, .int v2)] [] 106 1 I R L 0 0
  unfold f_X10_begin at h
  refine g_aload_n hC dX10_begin_0 rfl (q := 0) rfl ?_
  refine g_getr hC fd_RX10_12 rfl (by decide) (C0 := _) (t0 := .int) (Or.inl rfl) (rr_72_0 hW.1) dX10_begin_1 ?_
  refine g_aload_n hC dX10_begin_4 rfl (q := 1) rfl ?_
  obtain ⟨r5, h5, h⟩ := oB_some h
  refine g_cV0 hC cv_X9_copyFrom wd_1512 ⟨Nat.le_of_ble_eq_true rfl, Nat.le_of_ble_eq_true rfl⟩ rfl (by decide) dX10_begin_5 (As := [.ref (mB E + k1)]) (st := []) (ok_X9_copyFrom hC.2.2.2.2.2.2.2.1 (ob_73 hW.1) hk1 h5) rfl rfl (Nat.le_of_ble_eq_true rfl) ⟨Nat.zero_le _, Nat.zero_le _⟩ ?_
  refine g_aload_n hC dX10_begin_8 rfl (q := 0) rfl ?_
  refine g_iload_n hC dX10_begin_9 rfl (q := 2) rfl ?_
  refine g_puti hC fd_RX10_18 rfl (by decide) rfl dX10_begin_10 (nm_e ?_)
  cases h
  exact g_vret hC hE rfl dX10_begin_13 (Nat.zero_le _) (Nat.zero_le _) ⟨rfl, rfl, rfl, rfl, rfl, rfl⟩
noncomputable def f_X10_draw (Fu : Nat) (I : mIT) (v1 : Int32) : Option (Int32 × mIT) :=
  if v1 ≤ 0 then (some ((0 : Int32), (mU I 72 1 (((I 72 1) * (1103515245 : Int32)) + (12345 : Int32))))) else (oG (v1 != 0) (some (((((((mU I 72 1 (((I 72 1) * (1103515245 : Int32)) + (12345 : Int32))) 72 1)).toUInt32 >>> (((16 : Int32)).toUInt32 &&& Int32.toUInt32 31)).toInt32 &&& (32767 : Int32)) - (((((mU I 72 1 (((I 72 1) * (1103515245 : Int32)) + (12345 : Int32))) 72 1)).toUInt32 >>> (((16 : Int32)).toUInt32 &&& Int32.toUInt32 31)).toInt32 &&& (32767 : Int32)) / v1 * v1), (mU I 72 1 (((I 72 1) * (1103515245 : Int32)) + (12345 : Int32))))))
set_option maxRecDepth 20000 in
theorem ok_X10_draw {l : Launch} {E : mEn} {Fu : Nat} {I : mIT} {R : mRT} {L : mLT} {v1 : Int32} (hst : l.stackTraces = false) (hW : mWd R)  {out : Int32 × mIT} (h : f_X10_draw Fu I v1 = some out) : mOk l E mX10_draw [.ref (mB E + 72), .int v1] 106 1 I R L 0 0 (mSame (some (.int (out.1))) 106 1 (out.2) R L) := by
  refine mOk_of hst (by decide) (Nat.le_of_ble_eq_true rfl) (fun X hC hE _ => ?_)
  have hC : mC X E mX10_draw RX10 cX10_draw := hC
  show mG X E 0 [(0, .ref (mB E + 72)), (1, .int v1)] [] 106 1 I R L 0 0
  unfold f_X10_draw at h
  refine g_aload_n hC dX10_draw_0 rfl (q := 0) rfl ?_
  refine g_aload_n hC dX10_draw_1 rfl (q := 0) rfl ?_
  refine g_geti hC fd_RX10_18 rfl (by decide) (Or.inl rfl) dX10_draw_2 ?_
  refine g_ldc hC dX10_draw_5 wd_1521 ?_
  refine g_imul hC dX10_draw_7 ?_
  refine g_sipush hC dX10_draw_8 (v := (12345 : Int32)) (by decide) ?_
  refine g_iadd hC dX10_draw_11 ?_
  refine g_puti hC fd_RX10_18 rfl (by decide) rfl dX10_draw_12 (nm_e ?_)
  refine g_iload_n hC dX10_draw_15 rfl (q := 1) rfl ?_
  refine g_if_le hC dX10_draw_16 (tgt := 35) (by decide) (fun c16 => ?_) (fun c16 => ?_)
  · replace h := (if_pos c16).symm.trans h
    refine g_iconst hC dX10_draw_35 (v := (0 : Int32)) (by decide) ?_
    cases h
    exact g_iret hC hE rfl dX10_draw_36 (Nat.zero_le _) (Nat.zero_le _) ⟨rfl, rfl, rfl, rfl, rfl, rfl⟩
  · replace h := (if_neg c16).symm.trans h
    refine g_aload_n hC dX10_draw_19 rfl (q := 0) rfl ?_
    refine g_geti hC fd_RX10_18 rfl (by decide) (Or.inl rfl) dX10_draw_20 ?_
    refine g_bipush hC dX10_draw_23 (v := (16 : Int32)) (by decide) ?_
    refine g_iushr hC dX10_draw_25 ?_
    refine g_sipush hC dX10_draw_26 (v := (32767 : Int32)) (by decide) ?_
    refine g_iand hC dX10_draw_29 ?_
    refine g_iload_n hC dX10_draw_30 rfl (q := 1) rfl ?_
    obtain ⟨g31, h⟩ := oG_some h
    refine g_irem hC dX10_draw_31 (mNz g31) ?_
    refine g_goto hC dX10_draw_32 (tgt := 36) (by decide) ?_
    cases h
    exact g_iret hC hE rfl dX10_draw_36 (Nat.zero_le _) (Nat.zero_le _) ⟨rfl, rfl, rfl, rfl, rfl, rfl⟩
noncomputable def f_X9_cell (Fu : Nat) (I : mIT) (k0 : Nat) (v1 : Int32) (v2 : Int32) : Option (Int32) :=
  if (v1 + v2) < 0 then (some (0 : Int32)) else (if (nI 53) ≤ (v1 + v2) then (some (0 : Int32)) else (oG (inB (v1 + v2) 53) (some (I (k0 + 1) ((v1 + v2)).toNatClampNeg))))
set_option maxRecDepth 20000 in
theorem ok_X9_cell {l : Launch} {E : mEn} {Fu : Nat} {I : mIT} {R : mRT} {L : mLT} {k0 : Nat} {v1 : Int32} {v2 : Int32} (hst : l.stackTraces = false) (hk0 : mO9 R k0) {out : Int32} (h : f_X9_cell Fu I k0 v1 v2 = some out) : mOk l E mX9_cell [.ref (mB E + k0), .int v1, .int v2] 106 1 I R L 0 0 (mSame (some (.int (out))) 106 1 I R L) := by
  refine mOk_of hst (by decide) (Nat.le_of_ble_eq_true rfl) (fun X hC hE _ => ?_)
  have hC : mC X E mX9_cell RX9 cX9_cell := hC
  show mG X E 0 [(0, .ref (mB E + k0)), (1, .int v1), (2, .int v2)] [] 106 1 I R L 0 0
  unfold f_X9_cell at h
  refine g_iload_n hC dX9_cell_0 rfl (q := 1) rfl ?_
  refine g_iload_n hC dX9_cell_1 rfl (q := 2) rfl ?_
  refine g_iadd hC dX9_cell_2 ?_
  refine g_istore_n hC dX9_cell_3 rfl rfl (by decide) (lv' := [(3, .int (v1 + v2)), (0, .ref (mB E + k0)), (1, .int v1), (2, .int v2)]) rfl ?_
  refine g_iload_n hC dX9_cell_4 rfl (q := 0) rfl ?_
  refine g_if_lt hC dX9_cell_5 (tgt := 26) (by decide) (fun c5 => ?_) (fun c5 => ?_)
  · replace h := (if_pos c5).symm.trans h
    refine g_iconst hC dX9_cell_26 (v := (0 : Int32)) (by decide) ?_
    cases h
    exact g_iret hC hE rfl dX9_cell_27 (Nat.zero_le _) (Nat.zero_le _) ⟨rfl, rfl, rfl, rfl, rfl, rfl⟩
  · replace h := (if_neg c5).symm.trans h
    refine g_iload_n hC dX9_cell_8 rfl (q := 0) rfl ?_
    refine g_aload_n hC dX9_cell_9 rfl (q := 1) rfl ?_
    refine g_getr hC fd_RX9_11 hk0.2.1 hk0.1 (C0 := "") (t0 := _) (Or.inr rfl) hk0.2.2.1 dX9_cell_10 ?_
    refine g_alenI hC hk0.2.2.2.2 hk0.2.2.2.1 dX9_cell_13 ?_
    refine g_ic_ge hC dX9_cell_14 (tgt := 26) (by decide) (fun c14 => ?_) (fun c14 => ?_)
    · replace h := (if_pos c14).symm.trans h
      refine g_iconst hC dX9_cell_26 (v := (0 : Int32)) (by decide) ?_
      cases h
      exact g_iret hC hE rfl dX9_cell_27 (Nat.zero_le _) (Nat.zero_le _) ⟨rfl, rfl, rfl, rfl, rfl, rfl⟩
    · replace h := (if_neg c14).symm.trans h
      refine g_aload_n hC dX9_cell_17 rfl (q := 1) rfl ?_
      refine g_getr hC fd_RX9_11 hk0.2.1 hk0.1 (C0 := "") (t0 := _) (Or.inr rfl) hk0.2.2.1 dX9_cell_18 ?_
      refine g_iload_n hC dX9_cell_21 rfl (q := 0) rfl ?_
      obtain ⟨g22, h⟩ := oG_some h
      refine g_iald hC hk0.2.2.2.2 hk0.2.2.2.1 (inB_in g22) dX9_cell_22 ?_
      refine g_goto hC dX9_cell_23 (tgt := 27) (by decide) ?_
      cases h
      exact g_iret hC hE rfl dX9_cell_27 (Nat.zero_le _) (Nat.zero_le _) ⟨rfl, rfl, rfl, rfl, rfl, rfl⟩
noncomputable def f_X9_placeOf (Fu : Nat) (I : mIT) (k0 : Nat) (v1 : Int32) : Option (Int32) :=
  oB (f_X9_cell Fu I k0 (31 : Int32) v1) (fun r4 => some (r4))
set_option maxRecDepth 20000 in
theorem ok_X9_placeOf {l : Launch} {E : mEn} {Fu : Nat} {I : mIT} {R : mRT} {L : mLT} {k0 : Nat} {v1 : Int32} (hst : l.stackTraces = false) (hk0 : mO9 R k0) {out : Int32} (h : f_X9_placeOf Fu I k0 v1 = some out) : mOk l E mX9_placeOf [.ref (mB E + k0), .int v1] 106 1 I R L 0 0 (mSame (some (.int (out))) 106 1 I R L) := by
  refine mOk_of hst (by decide) (Nat.le_of_ble_eq_true rfl) (fun X hC hE _ => ?_)
  have hC : mC X E mX9_placeOf RX9 cX9_placeOf := hC
  show mG X E 0 [(0, .ref (mB E + k0)), (1, .int v1)] [] 106 1 I R L 0 0
  unfold f_X9_placeOf at h
  refine g_aload_n hC dX9_placeOf_0 rfl (q := 0) rfl ?_
  refine g_bipush hC dX9_placeOf_1 (v := (31 : Int32)) (by decide) ?_
  refine g_iload_n hC dX9_placeOf_3 rfl (q := 1) rfl ?_
  obtain ⟨r4, h4, h⟩ := oB_some h
  refine g_cV1 hC cv_X9_cell wd_543 ⟨Nat.le_of_ble_eq_true rfl, Nat.le_of_ble_eq_true rfl⟩ hk0.2.1 hk0.1 dX9_placeOf_4 (As := [.int (31 : Int32), .int v1]) (st := []) (ok_X9_cell hC.2.2.2.2.2.2.2.1 hk0 h4) rfl rfl (Nat.le_of_ble_eq_true rfl) ⟨Nat.zero_le _, Nat.zero_le _⟩ ?_
  cases h
  exact g_iret hC hE rfl dX9_placeOf_7 (Nat.zero_le _) (Nat.zero_le _) ⟨rfl, rfl, rfl, rfl, rfl, rfl⟩
noncomputable def b_X10_gone_4 (Fu : Nat) (I : mIT) (k1 : Nat) (k4_ : Int32 × Int32 → Option (Int32)) (v2 : Int32) (v3 : Int32) : Option (Int32) :=
  if (I k1 3) ≤ v3 then (some (v2)) else (oB (f_X9_placeOf Fu I 73 v3) (fun r18 => if r18 = (-2 : Int32) then (k4_ ((v2 + (1 : Int32)), (v3 + (1 : Int32)))) else (k4_ ((v2 + (0 : Int32)), (v3 + (1 : Int32))))))
set_option maxRecDepth 20000 in
theorem bo_X10_gone_4 {X : mXT} {E : mEn} {Fu : Nat} {I : mIT} {R : mRT} {L : mLT} {k1 : Nat} (hC : mC X E mX10_gone RX10 cX10_gone) (hW : mWd R) (hk1 : mO5 R k1)  {out : Int32} (hE : mEd X E 0 0 (mSame (some (.int (out))) 106 1 I R L)) (k4_ : Int32 × Int32 → Option (Int32)) (hk4_ : ∀ (v2 : Int32) (v3 : Int32),  k4_ (v2, v3) = some out → mG X E 4 [(0, .ref (mB E + 72)), (1, .ref (mB E + k1)), (2, .int v2), (3, .int v3)] [] 106 1 I R L 0 0) (v2 : Int32) (v3 : Int32) (h : b_X10_gone_4 Fu I k1 k4_ v2 v3 = some out) : mG X E 4 [(0, .ref (mB E + 72)), (1, .ref (mB E + k1)), (2, .int v2), (3, .int v3)] [] 106 1 I R L 0 0 := by
  unfold b_X10_gone_4 at h
  refine g_iload_n hC dX10_gone_4 rfl (q := 3) rfl ?_
  refine g_aload_n hC dX10_gone_5 rfl (q := 1) rfl ?_
  refine g_geti hC fd_RX10_31 hk1.2.1 hk1.1 (Or.inl rfl) dX10_gone_6 ?_
  refine g_ic_ge hC dX10_gone_9 (tgt := 39) (by decide) (fun c9 => ?_) (fun c9 => ?_)
  · replace h := (if_pos c9).symm.trans h
    refine g_iload_n hC dX10_gone_39 rfl (q := 2) rfl ?_
    cases h
    exact g_iret hC hE rfl dX10_gone_40 (Nat.zero_le _) (Nat.zero_le _) ⟨rfl, rfl, rfl, rfl, rfl, rfl⟩
  · replace h := (if_neg c9).symm.trans h
    refine g_iload_n hC dX10_gone_12 rfl (q := 2) rfl ?_
    refine g_aload_n hC dX10_gone_13 rfl (q := 0) rfl ?_
    refine g_getr hC fd_RX10_12 rfl (by decide) (C0 := _) (t0 := .int) (Or.inl rfl) (rr_72_0 hW.1) dX10_gone_14 ?_
    refine g_iload_n hC dX10_gone_17 rfl (q := 3) rfl ?_
    obtain ⟨r18, h18, h⟩ := oB_some h
    refine g_cV1 hC cv_X9_placeOf wd_1522 ⟨Nat.le_of_ble_eq_true rfl, Nat.le_of_ble_eq_true rfl⟩ rfl (by decide) dX10_gone_18 (As := [.int v3]) (st := [.int v2]) (ok_X9_placeOf hC.2.2.2.2.2.2.2.1 (ob_73 hW.1) h18) rfl rfl (Nat.le_of_ble_eq_true rfl) ⟨Nat.zero_le _, Nat.zero_le _⟩ ?_
    refine g_bipush hC dX10_gone_21 (v := (-2 : Int32)) (by decide) ?_
    refine g_ic_ne hC dX10_gone_23 (tgt := 30) (by decide) (fun c23 => ?_) (fun c23 => ?_)
    · replace h := (if_neg c23).symm.trans h
      refine g_iconst hC dX10_gone_30 (v := (0 : Int32)) (by decide) ?_
      refine g_iadd hC dX10_gone_31 ?_
      refine g_istore_n hC dX10_gone_32 rfl rfl (by decide) (lv' := [(2, .int (v2 + (0 : Int32))), (0, .ref (mB E + 72)), (1, .ref (mB E + k1)), (3, .int v3)]) rfl ?_
      refine g_iinc hC dX10_gone_33 rfl (q := 3) rfl (w := (v3 + (1 : Int32))) rfl (by decide) (lv' := [(3, .int (v3 + (1 : Int32))), (2, .int (v2 + (0 : Int32))), (0, .ref (mB E + 72)), (1, .ref (mB E + k1))]) rfl ?_
      refine g_goto hC dX10_gone_36 (tgt := 4) (by decide) ?_
      refine g_lv [2, 3, 1, 0] rfl ?_
      exact hk4_ (v2 + (0 : Int32)) (v3 + (1 : Int32)) h
    · replace h := (if_pos c23).symm.trans h
      refine g_iconst hC dX10_gone_26 (v := (1 : Int32)) (by decide) ?_
      refine g_goto hC dX10_gone_27 (tgt := 31) (by decide) ?_
      refine g_iadd hC dX10_gone_31 ?_
      refine g_istore_n hC dX10_gone_32 rfl rfl (by decide) (lv' := [(2, .int (v2 + (1 : Int32))), (0, .ref (mB E + 72)), (1, .ref (mB E + k1)), (3, .int v3)]) rfl ?_
      refine g_iinc hC dX10_gone_33 rfl (q := 3) rfl (w := (v3 + (1 : Int32))) rfl (by decide) (lv' := [(3, .int (v3 + (1 : Int32))), (2, .int (v2 + (1 : Int32))), (0, .ref (mB E + 72)), (1, .ref (mB E + k1))]) rfl ?_
      refine g_goto hC dX10_gone_36 (tgt := 4) (by decide) ?_
      refine g_lv [2, 3, 1, 0] rfl ?_
      exact hk4_ (v2 + (1 : Int32)) (v3 + (1 : Int32)) h
noncomputable def w_X10_gone_4 (Fu : Nat) (I : mIT) (k1 : Nat)  (N : Nat) (v2 : Int32) (v3 : Int32) : Option (Int32) :=
  loopF (fun self (s : Int32 × Int32) => b_X10_gone_4 Fu I k1 self s.1 s.2) N (v2, v3)
theorem wo_X10_gone_4 {X : mXT} {E : mEn} {Fu : Nat} {I : mIT} {R : mRT} {L : mLT} {k1 : Nat} (hC : mC X E mX10_gone RX10 cX10_gone) (hW : mWd R) (hk1 : mO5 R k1)  {out : Int32} (hE : mEd X E 0 0 (mSame (some (.int (out))) 106 1 I R L))  (N : Nat) (v2 : Int32) (v3 : Int32) (h : w_X10_gone_4 Fu I k1  N v2 v3 = some out) : mG X E 4 [(0, .ref (mB E + 72)), (1, .ref (mB E + k1)), (2, .int v2), (3, .int v3)] [] 106 1 I R L 0 0 :=
  loopF_ok (Gd := fun s : Int32 × Int32 => mG X E 4 [(0, .ref (mB E + 72)), (1, .ref (mB E + k1)), (2, .int s.1), (3, .int s.2)] [] 106 1 I R L 0 0) (fun self hs s h => bo_X10_gone_4 hC hW hk1 hE self (fun v2 v3 h => hs (v2, v3) h) s.1 s.2 h) N (v2, v3) h
noncomputable def f_X10_gone (Fu : Nat) (I : mIT) (k1 : Nat) : Option (Int32) :=
  w_X10_gone_4 Fu I k1 Fu (0 : Int32) (0 : Int32)
set_option maxRecDepth 20000 in
theorem ok_X10_gone {l : Launch} {E : mEn} {Fu : Nat} {I : mIT} {R : mRT} {L : mLT} {k1 : Nat} (hst : l.stackTraces = false) (hW : mWd R) (hk1 : mO5 R k1) {out : Int32} (h : f_X10_gone Fu I k1 = some out) : mOk l E mX10_gone [.ref (mB E + 72), .ref (mB E + k1)] 106 1 I R L 0 0 (mSame (some (.int (out))) 106 1 I R L) := by
  refine mOk_of hst (by decide) (Nat.le_of_ble_eq_true rfl) (fun X hC hE _ => ?_)
  have hC : mC X E mX10_gone RX10 cX10_gone := hC
  show mG X E 0 [(0, .ref (mB E + 72)), (1, .ref (mB E + k1))] [] 106 1 I R L 0 0
  unfold f_X10_gone at h
  refine g_iconst hC dX10_gone_0 (v := (0 : Int32)) (by decide) ?_
  refine g_istore_n hC dX10_gone_1 rfl rfl (by decide) (lv' := [(2, .int (0 : Int32)), (0, .ref (mB E + 72)), (1, .ref (mB E + k1))]) rfl ?_
  refine g_iconst hC dX10_gone_2 (v := (0 : Int32)) (by decide) ?_
  refine g_istore_n hC dX10_gone_3 rfl rfl (by decide) (lv' := [(3, .int (0 : Int32)), (2, .int (0 : Int32)), (0, .ref (mB E + 72)), (1, .ref (mB E + k1))]) rfl ?_
  refine g_lv [2, 3, 1, 0] rfl ?_
  exact wo_X10_gone_4 hC hW hk1 hE Fu ((0 : Int32)) ((0 : Int32)) h
noncomputable def f_X9_setCell (Fu : Nat) (I : mIT) (k0 : Nat) (v1 : Int32) (v2 : Int32) (v3 : Int32) : Option (mIT) :=
  if (v1 + v2) < 0 then (some (I)) else (if (nI 53) ≤ (v1 + v2) then (some (I)) else (oG (inB (v1 + v2) 53) (some (mU I (k0 + 1) ((v1 + v2)).toNatClampNeg v3))))
set_option maxRecDepth 20000 in
theorem ok_X9_setCell {l : Launch} {E : mEn} {Fu : Nat} {I : mIT} {R : mRT} {L : mLT} {k0 : Nat} {v1 : Int32} {v2 : Int32} {v3 : Int32} (hst : l.stackTraces = false) (hk0 : mO9 R k0) {out : mIT} (h : f_X9_setCell Fu I k0 v1 v2 v3 = some out) : mOk l E mX9_setCell [.ref (mB E + k0), .int v1, .int v2, .int v3] 106 1 I R L 0 0 (mSame none 106 1 (out) R L) := by
  refine mOk_of hst (by decide) (Nat.le_of_ble_eq_true rfl) (fun X hC hE _ => ?_)
  have hC : mC X E mX9_setCell RX9 cX9_setCell := hC
  show mG X E 0 [(0, .ref (mB E + k0)), (1, .int v1), (2, .int v2), (3, .int v3)] [] 106 1 I R L 0 0
  unfold f_X9_setCell at h
  refine g_iload_n hC dX9_setCell_0 rfl (q := 1) rfl ?_
  refine g_iload_n hC dX9_setCell_1 rfl (q := 2) rfl ?_
  refine g_iadd hC dX9_setCell_2 ?_
  refine g_istore hC dX9_setCell_3 rfl (by decide) (lv' := [(4, .int (v1 + v2)), (0, .ref (mB E + k0)), (1, .int v1), (2, .int v2), (3, .int v3)]) rfl ?_
  refine g_iload hC dX9_setCell_5 (q := 0) rfl ?_
  refine g_if_lt hC dX9_setCell_7 (tgt := 28) (by decide) (fun c7 => ?_) (fun c7 => ?_)
  · replace h := (if_pos c7).symm.trans h
    cases h
    exact g_vret hC hE rfl dX9_setCell_28 (Nat.zero_le _) (Nat.zero_le _) ⟨rfl, rfl, rfl, rfl, rfl, rfl⟩
  · replace h := (if_neg c7).symm.trans h
    refine g_iload hC dX9_setCell_10 (q := 0) rfl ?_
    refine g_aload_n hC dX9_setCell_12 rfl (q := 1) rfl ?_
    refine g_getr hC fd_RX9_11 hk0.2.1 hk0.1 (C0 := "") (t0 := _) (Or.inr rfl) hk0.2.2.1 dX9_setCell_13 ?_
    refine g_alenI hC hk0.2.2.2.2 hk0.2.2.2.1 dX9_setCell_16 ?_
    refine g_ic_ge hC dX9_setCell_17 (tgt := 28) (by decide) (fun c17 => ?_) (fun c17 => ?_)
    · replace h := (if_pos c17).symm.trans h
      cases h
      exact g_vret hC hE rfl dX9_setCell_28 (Nat.zero_le _) (Nat.zero_le _) ⟨rfl, rfl, rfl, rfl, rfl, rfl⟩
    · replace h := (if_neg c17).symm.trans h
      refine g_aload_n hC dX9_setCell_20 rfl (q := 1) rfl ?_
      refine g_getr hC fd_RX9_11 hk0.2.1 hk0.1 (C0 := "") (t0 := _) (Or.inr rfl) hk0.2.2.1 dX9_setCell_21 ?_
      refine g_iload hC dX9_setCell_24 (q := 0) rfl ?_
      refine g_iload_n hC dX9_setCell_26 rfl (q := 4) rfl ?_
      obtain ⟨g27, h⟩ := oG_some h
      refine g_iast hC hk0.2.2.2.2 hk0.2.2.2.1 (inB_in g27) dX9_setCell_27 (nm_e ?_)
      cases h
      exact g_vret hC hE rfl dX9_setCell_28 (Nat.zero_le _) (Nat.zero_le _) ⟨rfl, rfl, rfl, rfl, rfl, rfl⟩
noncomputable def f_X9_setPlace (Fu : Nat) (I : mIT) (k0 : Nat) (v1 : Int32) (v2 : Int32) : Option (mIT) :=
  oB (f_X9_setCell Fu I k0 (31 : Int32) v1 v2) (fun r5 => some (r5))
set_option maxRecDepth 20000 in
theorem ok_X9_setPlace {l : Launch} {E : mEn} {Fu : Nat} {I : mIT} {R : mRT} {L : mLT} {k0 : Nat} {v1 : Int32} {v2 : Int32} (hst : l.stackTraces = false) (hk0 : mO9 R k0) {out : mIT} (h : f_X9_setPlace Fu I k0 v1 v2 = some out) : mOk l E mX9_setPlace [.ref (mB E + k0), .int v1, .int v2] 106 1 I R L 0 0 (mSame none 106 1 (out) R L) := by
  refine mOk_of hst (by decide) (Nat.le_of_ble_eq_true rfl) (fun X hC hE _ => ?_)
  have hC : mC X E mX9_setPlace RX9 cX9_setPlace := hC
  show mG X E 0 [(0, .ref (mB E + k0)), (1, .int v1), (2, .int v2)] [] 106 1 I R L 0 0
  unfold f_X9_setPlace at h
  refine g_aload_n hC dX9_setPlace_0 rfl (q := 0) rfl ?_
  refine g_bipush hC dX9_setPlace_1 (v := (31 : Int32)) (by decide) ?_
  refine g_iload_n hC dX9_setPlace_3 rfl (q := 1) rfl ?_
  refine g_iload_n hC dX9_setPlace_4 rfl (q := 2) rfl ?_
  obtain ⟨r5, h5, h⟩ := oB_some h
  refine g_cV0 hC cv_X9_setCell wd_636 ⟨Nat.le_of_ble_eq_true rfl, Nat.le_of_ble_eq_true rfl⟩ hk0.2.1 hk0.1 dX9_setPlace_5 (As := [.int (31 : Int32), .int v1, .int v2]) (st := []) (ok_X9_setCell hC.2.2.2.2.2.2.2.1 hk0 h5) rfl rfl (Nat.le_of_ble_eq_true rfl) ⟨Nat.zero_le _, Nat.zero_le _⟩ ?_
  cases h
  exact g_vret hC hE rfl dX9_setPlace_8 (Nat.zero_le _) (Nat.zero_le _) ⟨rfl, rfl, rfl, rfl, rfl, rfl⟩
noncomputable def f_X9_softnessOf (Fu : Nat) (I : mIT) (k0 : Nat) (v1 : Int32) : Option (Int32) :=
  oB (f_X9_cell Fu I k0 (21 : Int32) v1) (fun r4 => some (r4))
set_option maxRecDepth 20000 in
theorem ok_X9_softnessOf {l : Launch} {E : mEn} {Fu : Nat} {I : mIT} {R : mRT} {L : mLT} {k0 : Nat} {v1 : Int32} (hst : l.stackTraces = false) (hk0 : mO9 R k0) {out : Int32} (h : f_X9_softnessOf Fu I k0 v1 = some out) : mOk l E mX9_softnessOf [.ref (mB E + k0), .int v1] 106 1 I R L 0 0 (mSame (some (.int (out))) 106 1 I R L) := by
  refine mOk_of hst (by decide) (Nat.le_of_ble_eq_true rfl) (fun X hC hE _ => ?_)
  have hC : mC X E mX9_softnessOf RX9 cX9_softnessOf := hC
  show mG X E 0 [(0, .ref (mB E + k0)), (1, .int v1)] [] 106 1 I R L 0 0
  unfold f_X9_softnessOf at h
  refine g_aload_n hC dX9_softnessOf_0 rfl (q := 0) rfl ?_
  refine g_bipush hC dX9_softnessOf_1 (v := (21 : Int32)) (by decide) ?_
  refine g_iload_n hC dX9_softnessOf_3 rfl (q := 1) rfl ?_
  obtain ⟨r4, h4, h⟩ := oB_some h
  refine g_cV1 hC cv_X9_cell wd_543 ⟨Nat.le_of_ble_eq_true rfl, Nat.le_of_ble_eq_true rfl⟩ hk0.2.1 hk0.1 dX9_softnessOf_4 (As := [.int (21 : Int32), .int v1]) (st := []) (ok_X9_cell hC.2.2.2.2.2.2.2.1 hk0 h4) rfl rfl (Nat.le_of_ble_eq_true rfl) ⟨Nat.zero_le _, Nat.zero_le _⟩ ?_
  cases h
  exact g_iret hC hE rfl dX9_softnessOf_7 (Nat.zero_le _) (Nat.zero_le _) ⟨rfl, rfl, rfl, rfl, rfl, rfl⟩
noncomputable def f_X9_soften (Fu : Nat) (I : mIT) (k0 : Nat) (v1 : Int32) (v2 : Int32) : Option (mIT) :=
  oB (f_X9_softnessOf Fu I k0 v1) (fun r6 => oB (f_X9_setCell Fu I k0 (21 : Int32) v1 (if (99 : Int32) < (r6 + v2) then (99 : Int32) else (r6 + v2))) (fun r16 => some (r16)))
set_option maxRecDepth 20000 in
theorem ok_X9_soften {l : Launch} {E : mEn} {Fu : Nat} {I : mIT} {R : mRT} {L : mLT} {k0 : Nat} {v1 : Int32} {v2 : Int32} (hst : l.stackTraces = false) (hk0 : mO9 R k0) {out : mIT} (h : f_X9_soften Fu I k0 v1 v2 = some out) : mOk l E mX9_soften [.ref (mB E + k0), .int v1, .int v2] 106 1 I R L 0 0 (mSame none 106 1 (out) R L) := by
  refine mOk_of hst (by decide) (Nat.le_of_ble_eq_true rfl) (fun X hC hE _ => ?_)
  have hC : mC X E mX9_soften RX9 cX9_soften := hC
  show mG X E 0 [(0, .ref (mB E + k0)), (1, .int v1), (2, .int v2)] [] 106 1 I R L 0 0
  unfold f_X9_soften at h
  refine g_aload_n hC dX9_soften_0 rfl (q := 0) rfl ?_
  refine g_bipush hC dX9_soften_1 (v := (21 : Int32)) (by decide) ?_
  refine g_iload_n hC dX9_soften_3 rfl (q := 1) rfl ?_
  refine g_aload_n hC dX9_soften_4 rfl (q := 0) rfl ?_
  refine g_iload_n hC dX9_soften_5 rfl (q := 1) rfl ?_
  obtain ⟨r6, h6, h⟩ := oB_some h
  refine g_cV1 hC cv_X9_softnessOf wd_610 ⟨Nat.le_of_ble_eq_true rfl, Nat.le_of_ble_eq_true rfl⟩ hk0.2.1 hk0.1 dX9_soften_6 (As := [.int v1]) (st := [.int v1, .int (21 : Int32), .ref (mB E + k0)]) (ok_X9_softnessOf hC.2.2.2.2.2.2.2.1 hk0 h6) rfl rfl (Nat.le_of_ble_eq_true rfl) ⟨Nat.zero_le _, Nat.zero_le _⟩ ?_
  refine g_iload_n hC dX9_soften_9 rfl (q := 2) rfl ?_
  refine g_iadd hC dX9_soften_10 ?_
  refine g_bipush hC dX9_soften_11 (v := (99 : Int32)) (by decide) ?_
  refine g_mmin hC wd_635 wd_st_min wd_in_math wd_cd_min (Nat.le_of_ble_eq_true rfl) (Nat.le_of_ble_eq_true rfl) ⟨Nat.zero_le _, Nat.zero_le _⟩ dX9_soften_13 ?_
  obtain ⟨r16, h16, h⟩ := oB_some h
  refine g_cV0 hC cv_X9_setCell wd_636 ⟨Nat.le_of_ble_eq_true rfl, Nat.le_of_ble_eq_true rfl⟩ hk0.2.1 hk0.1 dX9_soften_16 (As := [.int (21 : Int32), .int v1, .int (if (99 : Int32) < (r6 + v2) then (99 : Int32) else (r6 + v2))]) (st := []) (ok_X9_setCell hC.2.2.2.2.2.2.2.1 hk0 h16) rfl rfl (Nat.le_of_ble_eq_true rfl) ⟨Nat.zero_le _, Nat.zero_le _⟩ ?_
  cases h
  exact g_vret hC hE rfl dX9_soften_19 (Nat.zero_le _) (Nat.zero_le _) ⟨rfl, rfl, rfl, rfl, rfl, rfl⟩
noncomputable def f_X9_sizeOf (Fu : Nat) (I : mIT) (k0 : Nat) (v1 : Int32) : Option (Int32) :=
  oB (f_X9_cell Fu I k0 (1 : Int32) v1) (fun r3 => some (r3))
set_option maxRecDepth 20000 in
theorem ok_X9_sizeOf {l : Launch} {E : mEn} {Fu : Nat} {I : mIT} {R : mRT} {L : mLT} {k0 : Nat} {v1 : Int32} (hst : l.stackTraces = false) (hk0 : mO9 R k0) {out : Int32} (h : f_X9_sizeOf Fu I k0 v1 = some out) : mOk l E mX9_sizeOf [.ref (mB E + k0), .int v1] 106 1 I R L 0 0 (mSame (some (.int (out))) 106 1 I R L) := by
  refine mOk_of hst (by decide) (Nat.le_of_ble_eq_true rfl) (fun X hC hE _ => ?_)
  have hC : mC X E mX9_sizeOf RX9 cX9_sizeOf := hC
  show mG X E 0 [(0, .ref (mB E + k0)), (1, .int v1)] [] 106 1 I R L 0 0
  unfold f_X9_sizeOf at h
  refine g_aload_n hC dX9_sizeOf_0 rfl (q := 0) rfl ?_
  refine g_iconst hC dX9_sizeOf_1 (v := (1 : Int32)) (by decide) ?_
  refine g_iload_n hC dX9_sizeOf_2 rfl (q := 1) rfl ?_
  obtain ⟨r3, h3, h⟩ := oB_some h
  refine g_cV1 hC cv_X9_cell wd_543 ⟨Nat.le_of_ble_eq_true rfl, Nat.le_of_ble_eq_true rfl⟩ hk0.2.1 hk0.1 dX9_sizeOf_3 (As := [.int (1 : Int32), .int v1]) (st := []) (ok_X9_cell hC.2.2.2.2.2.2.2.1 hk0 h3) rfl rfl (Nat.le_of_ble_eq_true rfl) ⟨Nat.zero_le _, Nat.zero_le _⟩ ?_
  cases h
  exact g_iret hC hE rfl dX9_sizeOf_6 (Nat.zero_le _) (Nat.zero_le _) ⟨rfl, rfl, rfl, rfl, rfl, rfl⟩
noncomputable def f_X8_isTold (Fu : Nat) (I : mIT) (k0 : Nat) : Option (Int32) :=
  if (I k0 5) ≤ 0 then (some (0 : Int32)) else (some (1 : Int32))
set_option maxRecDepth 20000 in
theorem ok_X8_isTold {l : Launch} {E : mEn} {Fu : Nat} {I : mIT} {R : mRT} {L : mLT} {k0 : Nat} (hst : l.stackTraces = false) (hk0 : mO8 R k0) {out : Int32} (h : f_X8_isTold Fu I k0 = some out) : mOk l E mX8_isTold [.ref (mB E + k0)] 106 1 I R L 0 0 (mSame (some (.int (out))) 106 1 I R L) := by
  refine mOk_of hst (by decide) (Nat.le_of_ble_eq_true rfl) (fun X hC hE _ => ?_)
  have hC : mC X E mX8_isTold RX8 cX8_isTold := hC
  show mG X E 0 [(0, .ref (mB E + k0))] [] 106 1 I R L 0 0
  unfold f_X8_isTold at h
  refine g_aload_n hC dX8_isTold_0 rfl (q := 0) rfl ?_
  refine g_geti hC fd_RX8_27 hk0.2.1 hk0.1 (Or.inl rfl) dX8_isTold_1 ?_
  refine g_if_le hC dX8_isTold_4 (tgt := 11) (by decide) (fun c4 => ?_) (fun c4 => ?_)
  · replace h := (if_pos c4).symm.trans h
    refine g_iconst hC dX8_isTold_11 (v := (0 : Int32)) (by decide) ?_
    cases h
    exact g_zret hC (by decide) hE rfl dX8_isTold_12 (Nat.zero_le _) (Nat.zero_le _) ⟨rfl, rfl, rfl, rfl, rfl, rfl⟩
  · replace h := (if_neg c4).symm.trans h
    refine g_iconst hC dX8_isTold_7 (v := (1 : Int32)) (by decide) ?_
    refine g_goto hC dX8_isTold_8 (tgt := 12) (by decide) ?_
    cases h
    exact g_zret hC (by decide) hE rfl dX8_isTold_12 (Nat.zero_le _) (Nat.zero_le _) ⟨rfl, rfl, rfl, rfl, rfl, rfl⟩
noncomputable def f_X9_hollowOf (Fu : Nat) (I : mIT) (k0 : Nat) (v1 : Int32) : Option (Int32) :=
  oB (f_X9_cell Fu I k0 (11 : Int32) v1) (fun r4 => some (r4))
set_option maxRecDepth 20000 in
theorem ok_X9_hollowOf {l : Launch} {E : mEn} {Fu : Nat} {I : mIT} {R : mRT} {L : mLT} {k0 : Nat} {v1 : Int32} (hst : l.stackTraces = false) (hk0 : mO9 R k0) {out : Int32} (h : f_X9_hollowOf Fu I k0 v1 = some out) : mOk l E mX9_hollowOf [.ref (mB E + k0), .int v1] 106 1 I R L 0 0 (mSame (some (.int (out))) 106 1 I R L) := by
  refine mOk_of hst (by decide) (Nat.le_of_ble_eq_true rfl) (fun X hC hE _ => ?_)
  have hC : mC X E mX9_hollowOf RX9 cX9_hollowOf := hC
  show mG X E 0 [(0, .ref (mB E + k0)), (1, .int v1)] [] 106 1 I R L 0 0
  unfold f_X9_hollowOf at h
  refine g_aload_n hC dX9_hollowOf_0 rfl (q := 0) rfl ?_
  refine g_bipush hC dX9_hollowOf_1 (v := (11 : Int32)) (by decide) ?_
  refine g_iload_n hC dX9_hollowOf_3 rfl (q := 1) rfl ?_
  obtain ⟨r4, h4, h⟩ := oB_some h
  refine g_cV1 hC cv_X9_cell wd_543 ⟨Nat.le_of_ble_eq_true rfl, Nat.le_of_ble_eq_true rfl⟩ hk0.2.1 hk0.1 dX9_hollowOf_4 (As := [.int (11 : Int32), .int v1]) (st := []) (ok_X9_cell hC.2.2.2.2.2.2.2.1 hk0 h4) rfl rfl (Nat.le_of_ble_eq_true rfl) ⟨Nat.zero_le _, Nat.zero_le _⟩ ?_
  cases h
  exact g_iret hC hE rfl dX9_hollowOf_7 (Nat.zero_le _) (Nat.zero_le _) ⟨rfl, rfl, rfl, rfl, rfl, rfl⟩
noncomputable def f_X5_kindOf (Fu : Nat) (I : mIT) (k0 : Nat) (v1 : Int32) : Option (Int32) :=
  if v1 < 0 then (some (0 : Int32)) else (if (nI 10) ≤ v1 then (some (0 : Int32)) else (oG (inB v1 10) (some (I (k0 + 1) (v1).toNatClampNeg))))
set_option maxRecDepth 20000 in
theorem ok_X5_kindOf {l : Launch} {E : mEn} {Fu : Nat} {I : mIT} {R : mRT} {L : mLT} {k0 : Nat} {v1 : Int32} (hst : l.stackTraces = false) (hk0 : mO5 R k0) {out : Int32} (h : f_X5_kindOf Fu I k0 v1 = some out) : mOk l E mX5_kindOf [.ref (mB E + k0), .int v1] 106 1 I R L 0 0 (mSame (some (.int (out))) 106 1 I R L) := by
  refine mOk_of hst (by decide) (Nat.le_of_ble_eq_true rfl) (fun X hC hE _ => ?_)
  have hC : mC X E mX5_kindOf RX5 cX5_kindOf := hC
  show mG X E 0 [(0, .ref (mB E + k0)), (1, .int v1)] [] 106 1 I R L 0 0
  unfold f_X5_kindOf at h
  refine g_iload_n hC dX5_kindOf_0 rfl (q := 1) rfl ?_
  refine g_if_lt hC dX5_kindOf_1 (tgt := 22) (by decide) (fun c1 => ?_) (fun c1 => ?_)
  · replace h := (if_pos c1).symm.trans h
    refine g_iconst hC dX5_kindOf_22 (v := (0 : Int32)) (by decide) ?_
    cases h
    exact g_iret hC hE rfl dX5_kindOf_23 (Nat.zero_le _) (Nat.zero_le _) ⟨rfl, rfl, rfl, rfl, rfl, rfl⟩
  · replace h := (if_neg c1).symm.trans h
    refine g_iload_n hC dX5_kindOf_4 rfl (q := 1) rfl ?_
    refine g_aload_n hC dX5_kindOf_5 rfl (q := 0) rfl ?_
    refine g_getr hC fd_RX5_9 hk0.2.1 hk0.1 (C0 := "") (t0 := _) (Or.inr rfl) hk0.2.2.1.1 dX5_kindOf_6 ?_
    refine g_alenI hC hk0.2.2.1.2.2 hk0.2.2.1.2.1 dX5_kindOf_9 ?_
    refine g_ic_ge hC dX5_kindOf_10 (tgt := 22) (by decide) (fun c10 => ?_) (fun c10 => ?_)
    · replace h := (if_pos c10).symm.trans h
      refine g_iconst hC dX5_kindOf_22 (v := (0 : Int32)) (by decide) ?_
      cases h
      exact g_iret hC hE rfl dX5_kindOf_23 (Nat.zero_le _) (Nat.zero_le _) ⟨rfl, rfl, rfl, rfl, rfl, rfl⟩
    · replace h := (if_neg c10).symm.trans h
      refine g_aload_n hC dX5_kindOf_13 rfl (q := 0) rfl ?_
      refine g_getr hC fd_RX5_9 hk0.2.1 hk0.1 (C0 := "") (t0 := _) (Or.inr rfl) hk0.2.2.1.1 dX5_kindOf_14 ?_
      refine g_iload_n hC dX5_kindOf_17 rfl (q := 1) rfl ?_
      obtain ⟨g18, h⟩ := oG_some h
      refine g_iald hC hk0.2.2.1.2.2 hk0.2.2.1.2.1 (inB_in g18) dX5_kindOf_18 ?_
      refine g_goto hC dX5_kindOf_19 (tgt := 23) (by decide) ?_
      cases h
      exact g_iret hC hE rfl dX5_kindOf_23 (Nat.zero_le _) (Nat.zero_le _) ⟨rfl, rfl, rfl, rfl, rfl, rfl⟩
noncomputable def f_X9_day (Fu : Nat) (I : mIT) (k0 : Nat) : Option (Int32) :=
  oB (f_X9_cell Fu I k0 (0 : Int32) (0 : Int32)) (fun r3 => some (r3))
set_option maxRecDepth 20000 in
theorem ok_X9_day {l : Launch} {E : mEn} {Fu : Nat} {I : mIT} {R : mRT} {L : mLT} {k0 : Nat} (hst : l.stackTraces = false) (hk0 : mO9 R k0) {out : Int32} (h : f_X9_day Fu I k0 = some out) : mOk l E mX9_day [.ref (mB E + k0)] 106 1 I R L 0 0 (mSame (some (.int (out))) 106 1 I R L) := by
  refine mOk_of hst (by decide) (Nat.le_of_ble_eq_true rfl) (fun X hC hE _ => ?_)
  have hC : mC X E mX9_day RX9 cX9_day := hC
  show mG X E 0 [(0, .ref (mB E + k0))] [] 106 1 I R L 0 0
  unfold f_X9_day at h
  refine g_aload_n hC dX9_day_0 rfl (q := 0) rfl ?_
  refine g_iconst hC dX9_day_1 (v := (0 : Int32)) (by decide) ?_
  refine g_iconst hC dX9_day_2 (v := (0 : Int32)) (by decide) ?_
  obtain ⟨r3, h3, h⟩ := oB_some h
  refine g_cV1 hC cv_X9_cell wd_543 ⟨Nat.le_of_ble_eq_true rfl, Nat.le_of_ble_eq_true rfl⟩ hk0.2.1 hk0.1 dX9_day_3 (As := [.int (0 : Int32), .int (0 : Int32)]) (st := []) (ok_X9_cell hC.2.2.2.2.2.2.2.1 hk0 h3) rfl rfl (Nat.le_of_ble_eq_true rfl) ⟨Nat.zero_le _, Nat.zero_le _⟩ ?_
  cases h
  exact g_iret hC hE rfl dX9_day_6 (Nat.zero_le _) (Nat.zero_le _) ⟨rfl, rfl, rfl, rfl, rfl, rfl⟩
noncomputable def f_X8_operandAt (Fu : Nat) (I : mIT) (k0 : Nat) (v1 : Int32) : Option (Int32) :=
  if v1 < 0 then (some (0 : Int32)) else (if (nI 700) ≤ v1 then (some (0 : Int32)) else (if v1 < (nI 700) then (oG (inB v1 700) (oG (inB v1 700) (if (I (k0 + 1) (v1).toNatClampNeg) = (1 : Int32) then (some (I (k0 + 2) (v1).toNatClampNeg)) else (if (I (k0 + 2) (v1).toNatClampNeg) < 0 then (some (0 : Int32)) else (if (nI 7) ≤ (I (k0 + 2) (v1).toNatClampNeg) then (some (0 : Int32)) else (oG (inB (I (k0 + 2) (v1).toNatClampNeg) 7) (some (I (k0 + 4) ((I (k0 + 2) (v1).toNatClampNeg)).toNatClampNeg)))))))) else (some (0 : Int32))))
set_option maxRecDepth 20000 in
theorem ok_X8_operandAt {l : Launch} {E : mEn} {Fu : Nat} {I : mIT} {R : mRT} {L : mLT} {k0 : Nat} {v1 : Int32} (hst : l.stackTraces = false) (hk0 : mO8 R k0) {out : Int32} (h : f_X8_operandAt Fu I k0 v1 = some out) : mOk l E mX8_operandAt [.ref (mB E + k0), .int v1] 106 1 I R L 0 0 (mSame (some (.int (out))) 106 1 I R L) := by
  refine mOk_of hst (by decide) (Nat.le_of_ble_eq_true rfl) (fun X hC hE _ => ?_)
  have hC : mC X E mX8_operandAt RX8 cX8_operandAt := hC
  show mG X E 0 [(0, .ref (mB E + k0)), (1, .int v1)] [] 106 1 I R L 0 0
  unfold f_X8_operandAt at h
  refine g_iload_n hC dX8_operandAt_0 rfl (q := 1) rfl ?_
  refine g_if_lt hC dX8_operandAt_1 (tgt := 22) (by decide) (fun c1 => ?_) (fun c1 => ?_)
  · replace h := (if_pos c1).symm.trans h
    refine g_iconst hC dX8_operandAt_22 (v := (0 : Int32)) (by decide) ?_
    cases h
    exact g_iret hC hE rfl dX8_operandAt_23 (Nat.zero_le _) (Nat.zero_le _) ⟨rfl, rfl, rfl, rfl, rfl, rfl⟩
  · replace h := (if_neg c1).symm.trans h
    refine g_iload_n hC dX8_operandAt_4 rfl (q := 1) rfl ?_
    refine g_aload_n hC dX8_operandAt_5 rfl (q := 0) rfl ?_
    refine g_getr hC fd_RX8_15 hk0.2.1 hk0.1 (C0 := "") (t0 := _) (Or.inr rfl) hk0.2.2.2.1.1 dX8_operandAt_6 ?_
    refine g_alenI hC hk0.2.2.2.1.2.2 hk0.2.2.2.1.2.1 dX8_operandAt_9 ?_
    refine g_ic_ge hC dX8_operandAt_10 (tgt := 22) (by decide) (fun c10 => ?_) (fun c10 => ?_)
    · replace h := (if_pos c10).symm.trans h
      refine g_iconst hC dX8_operandAt_22 (v := (0 : Int32)) (by decide) ?_
      cases h
      exact g_iret hC hE rfl dX8_operandAt_23 (Nat.zero_le _) (Nat.zero_le _) ⟨rfl, rfl, rfl, rfl, rfl, rfl⟩
    · replace h := (if_neg c10).symm.trans h
      refine g_iload_n hC dX8_operandAt_13 rfl (q := 1) rfl ?_
      refine g_aload_n hC dX8_operandAt_14 rfl (q := 0) rfl ?_
      refine g_getr hC fd_RX8_9 hk0.2.1 hk0.1 (C0 := "") (t0 := _) (Or.inr rfl) hk0.2.2.1.1 dX8_operandAt_15 ?_
      refine g_alenI hC hk0.2.2.1.2.2 hk0.2.2.1.2.1 dX8_operandAt_18 ?_
      refine g_ic_lt hC dX8_operandAt_19 (tgt := 24) (by decide) (fun c19 => ?_) (fun c19 => ?_)
      · replace h := (if_pos c19).symm.trans h
        refine g_aload_n hC dX8_operandAt_24 rfl (q := 0) rfl ?_
        refine g_getr hC fd_RX8_15 hk0.2.1 hk0.1 (C0 := "") (t0 := _) (Or.inr rfl) hk0.2.2.2.1.1 dX8_operandAt_25 ?_
        refine g_iload_n hC dX8_operandAt_28 rfl (q := 1) rfl ?_
        obtain ⟨g29, h⟩ := oG_some h
        refine g_iald hC hk0.2.2.2.1.2.2 hk0.2.2.2.1.2.1 (inB_in g29) dX8_operandAt_29 ?_
        refine g_istore_n hC dX8_operandAt_30 rfl rfl (by decide) (lv' := [(2, .int (I (k0 + 2) (v1).toNatClampNeg)), (0, .ref (mB E + k0)), (1, .int v1)]) rfl ?_
        refine g_aload_n hC dX8_operandAt_31 rfl (q := 1) rfl ?_
        refine g_getr hC fd_RX8_9 hk0.2.1 hk0.1 (C0 := "") (t0 := _) (Or.inr rfl) hk0.2.2.1.1 dX8_operandAt_32 ?_
        refine g_iload_n hC dX8_operandAt_35 rfl (q := 2) rfl ?_
        obtain ⟨g36, h⟩ := oG_some h
        refine g_iald hC hk0.2.2.1.2.2 hk0.2.2.1.2.1 (inB_in g36) dX8_operandAt_36 ?_
        refine g_iconst hC dX8_operandAt_37 (v := (1 : Int32)) (by decide) ?_
        refine g_ic_ne hC dX8_operandAt_38 (tgt := 43) (by decide) (fun c38 => ?_) (fun c38 => ?_)
        · replace h := (if_neg c38).symm.trans h
          refine g_iload_n hC dX8_operandAt_43 rfl (q := 0) rfl ?_
          refine g_if_lt hC dX8_operandAt_44 (tgt := 65) (by decide) (fun c44 => ?_) (fun c44 => ?_)
          · replace h := (if_pos c44).symm.trans h
            refine g_iconst hC dX8_operandAt_65 (v := (0 : Int32)) (by decide) ?_
            cases h
            exact g_iret hC hE rfl dX8_operandAt_66 (Nat.zero_le _) (Nat.zero_le _) ⟨rfl, rfl, rfl, rfl, rfl, rfl⟩
          · replace h := (if_neg c44).symm.trans h
            refine g_iload_n hC dX8_operandAt_47 rfl (q := 0) rfl ?_
            refine g_aload_n hC dX8_operandAt_48 rfl (q := 1) rfl ?_
            refine g_getr hC fd_RX8_21 hk0.2.1 hk0.1 (C0 := "") (t0 := _) (Or.inr rfl) hk0.2.2.2.2.2.1.1 dX8_operandAt_49 ?_
            refine g_alenI hC hk0.2.2.2.2.2.1.2.2 hk0.2.2.2.2.2.1.2.1 dX8_operandAt_52 ?_
            refine g_ic_ge hC dX8_operandAt_53 (tgt := 65) (by decide) (fun c53 => ?_) (fun c53 => ?_)
            · replace h := (if_pos c53).symm.trans h
              refine g_iconst hC dX8_operandAt_65 (v := (0 : Int32)) (by decide) ?_
              cases h
              exact g_iret hC hE rfl dX8_operandAt_66 (Nat.zero_le _) (Nat.zero_le _) ⟨rfl, rfl, rfl, rfl, rfl, rfl⟩
            · replace h := (if_neg c53).symm.trans h
              refine g_aload_n hC dX8_operandAt_56 rfl (q := 1) rfl ?_
              refine g_getr hC fd_RX8_21 hk0.2.1 hk0.1 (C0 := "") (t0 := _) (Or.inr rfl) hk0.2.2.2.2.2.1.1 dX8_operandAt_57 ?_
              refine g_iload_n hC dX8_operandAt_60 rfl (q := 0) rfl ?_
              obtain ⟨g61, h⟩ := oG_some h
              refine g_iald hC hk0.2.2.2.2.2.1.2.2 hk0.2.2.2.2.2.1.2.1 (inB_in g61) dX8_operandAt_61 ?_
              refine g_goto hC dX8_operandAt_62 (tgt := 66) (by decide) ?_
              cases h
              exact g_iret hC hE rfl dX8_operandAt_66 (Nat.zero_le _) (Nat.zero_le _) ⟨rfl, rfl, rfl, rfl, rfl, rfl⟩
        · replace h := (if_pos c38).symm.trans h
          refine g_iload_n hC dX8_operandAt_41 rfl (q := 0) rfl ?_
          cases h
          exact g_iret hC hE rfl dX8_operandAt_42 (Nat.zero_le _) (Nat.zero_le _) ⟨rfl, rfl, rfl, rfl, rfl, rfl⟩
      · replace h := (if_neg c19).symm.trans h
        refine g_iconst hC dX8_operandAt_22 (v := (0 : Int32)) (by decide) ?_
        cases h
        exact g_iret hC hE rfl dX8_operandAt_23 (Nat.zero_le _) (Nat.zero_le _) ⟨rfl, rfl, rfl, rfl, rfl, rfl⟩
noncomputable def f_X8_joined (Fu : Nat)  (v0 : Int32) (v1 : Int32) (v2 : Int32) : Option (Int32) :=
  if v0 = (10 : Int32) then (if v1 = 0 then (if v2 = 0 then (some (0 : Int32)) else (some (1 : Int32))) else (some (1 : Int32))) else if v0 = (20 : Int32) then (if v1 = 0 then (some (0 : Int32)) else (if v2 = 0 then (some (0 : Int32)) else (some (1 : Int32)))) else if v0 = (40 : Int32) then (if v2 ≤ v1 then (some (0 : Int32)) else (some (1 : Int32))) else if v0 = (41 : Int32) then (if v1 = v2 then (some (1 : Int32)) else (some (0 : Int32))) else if v0 = (50 : Int32) then (some (v1 + v2)) else if v0 = (51 : Int32) then (some (v1 - v2)) else if v0 = (60 : Int32) then (some (v1 * v2)) else if v0 = (61 : Int32) then (if v2 = 0 then (some (0 : Int32)) else (oG (v2 != 0) (some (v1 / v2)))) else (some (0 : Int32))
set_option maxRecDepth 20000 in
theorem ok_X8_joined {l : Launch} {E : mEn} {Fu : Nat} {I : mIT} {R : mRT} {L : mLT} {v0 : Int32} {v1 : Int32} {v2 : Int32} (hst : l.stackTraces = false)  {out : Int32} (h : f_X8_joined Fu  v0 v1 v2 = some out) : mOk l E mX8_joined [.int v0, .int v1, .int v2] 106 1 I R L 0 0 (mSame (some (.int (out))) 106 1 I R L) := by
  refine mOk_of hst (by decide) (Nat.le_of_ble_eq_true rfl) (fun X hC hE _ => ?_)
  have hC : mC X E mX8_joined RX8 cX8_joined := hC
  show mG X E 0 [(0, .int v0), (1, .int v1), (2, .int v2)] [] 106 1 I R L 0 0
  unfold f_X8_joined at h
  refine g_iload_n hC dX8_joined_0 rfl (q := 0) rfl ?_
  by_cases c1_10 : v0 = (10 : Int32)
  · replace h := (if_pos c1_10).symm.trans h
    refine g_look hC dX8_joined_1 (off := 75) (tgt := 76) rfl (by rw [c1_10]; rfl) (by decide) ?_
    refine g_iload_n hC dX8_joined_76 rfl (q := 1) rfl ?_
    refine g_if_ne hC dX8_joined_77 (tgt := 84) (by decide) (fun c77 => ?_) (fun c77 => ?_)
    · replace h := (if_neg c77).symm.trans h
      refine g_iconst hC dX8_joined_84 (v := (1 : Int32)) (by decide) ?_
      refine g_goto hC dX8_joined_85 (tgt := 89) (by decide) ?_
      cases h
      exact g_iret hC hE rfl dX8_joined_89 (Nat.zero_le _) (Nat.zero_le _) ⟨rfl, rfl, rfl, rfl, rfl, rfl⟩
    · replace h := (if_pos c77).symm.trans h
      refine g_iload_n hC dX8_joined_80 rfl (q := 2) rfl ?_
      refine g_if_eq hC dX8_joined_81 (tgt := 88) (by decide) (fun c81 => ?_) (fun c81 => ?_)
      · replace h := (if_pos c81).symm.trans h
        refine g_iconst hC dX8_joined_88 (v := (0 : Int32)) (by decide) ?_
        cases h
        exact g_iret hC hE rfl dX8_joined_89 (Nat.zero_le _) (Nat.zero_le _) ⟨rfl, rfl, rfl, rfl, rfl, rfl⟩
      · replace h := (if_neg c81).symm.trans h
        refine g_iconst hC dX8_joined_84 (v := (1 : Int32)) (by decide) ?_
        refine g_goto hC dX8_joined_85 (tgt := 89) (by decide) ?_
        cases h
        exact g_iret hC hE rfl dX8_joined_89 (Nat.zero_le _) (Nat.zero_le _) ⟨rfl, rfl, rfl, rfl, rfl, rfl⟩
  replace h := (if_neg c1_10).symm.trans h
  by_cases c1_20 : v0 = (20 : Int32)
  · replace h := (if_pos c1_20).symm.trans h
    refine g_look hC dX8_joined_1 (off := 89) (tgt := 90) rfl (by rw [c1_20]; rfl) (by decide) ?_
    refine g_iload_n hC dX8_joined_90 rfl (q := 1) rfl ?_
    refine g_if_eq hC dX8_joined_91 (tgt := 102) (by decide) (fun c91 => ?_) (fun c91 => ?_)
    · replace h := (if_pos c91).symm.trans h
      refine g_iconst hC dX8_joined_102 (v := (0 : Int32)) (by decide) ?_
      cases h
      exact g_iret hC hE rfl dX8_joined_103 (Nat.zero_le _) (Nat.zero_le _) ⟨rfl, rfl, rfl, rfl, rfl, rfl⟩
    · replace h := (if_neg c91).symm.trans h
      refine g_iload_n hC dX8_joined_94 rfl (q := 2) rfl ?_
      refine g_if_eq hC dX8_joined_95 (tgt := 102) (by decide) (fun c95 => ?_) (fun c95 => ?_)
      · replace h := (if_pos c95).symm.trans h
        refine g_iconst hC dX8_joined_102 (v := (0 : Int32)) (by decide) ?_
        cases h
        exact g_iret hC hE rfl dX8_joined_103 (Nat.zero_le _) (Nat.zero_le _) ⟨rfl, rfl, rfl, rfl, rfl, rfl⟩
      · replace h := (if_neg c95).symm.trans h
        refine g_iconst hC dX8_joined_98 (v := (1 : Int32)) (by decide) ?_
        refine g_goto hC dX8_joined_99 (tgt := 103) (by decide) ?_
        cases h
        exact g_iret hC hE rfl dX8_joined_103 (Nat.zero_le _) (Nat.zero_le _) ⟨rfl, rfl, rfl, rfl, rfl, rfl⟩
  replace h := (if_neg c1_20).symm.trans h
  by_cases c1_40 : v0 = (40 : Int32)
  · replace h := (if_pos c1_40).symm.trans h
    refine g_look hC dX8_joined_1 (off := 103) (tgt := 104) rfl (by rw [c1_40]; rfl) (by decide) ?_
    refine g_iload_n hC dX8_joined_104 rfl (q := 1) rfl ?_
    refine g_iload_n hC dX8_joined_105 rfl (q := 2) rfl ?_
    refine g_ic_ge hC dX8_joined_106 (tgt := 113) (by decide) (fun c106 => ?_) (fun c106 => ?_)
    · replace h := (if_pos c106).symm.trans h
      refine g_iconst hC dX8_joined_113 (v := (0 : Int32)) (by decide) ?_
      cases h
      exact g_iret hC hE rfl dX8_joined_114 (Nat.zero_le _) (Nat.zero_le _) ⟨rfl, rfl, rfl, rfl, rfl, rfl⟩
    · replace h := (if_neg c106).symm.trans h
      refine g_iconst hC dX8_joined_109 (v := (1 : Int32)) (by decide) ?_
      refine g_goto hC dX8_joined_110 (tgt := 114) (by decide) ?_
      cases h
      exact g_iret hC hE rfl dX8_joined_114 (Nat.zero_le _) (Nat.zero_le _) ⟨rfl, rfl, rfl, rfl, rfl, rfl⟩
  replace h := (if_neg c1_40).symm.trans h
  by_cases c1_41 : v0 = (41 : Int32)
  · replace h := (if_pos c1_41).symm.trans h
    refine g_look hC dX8_joined_1 (off := 114) (tgt := 115) rfl (by rw [c1_41]; rfl) (by decide) ?_
    refine g_iload_n hC dX8_joined_115 rfl (q := 1) rfl ?_
    refine g_iload_n hC dX8_joined_116 rfl (q := 2) rfl ?_
    refine g_ic_ne hC dX8_joined_117 (tgt := 124) (by decide) (fun c117 => ?_) (fun c117 => ?_)
    · replace h := (if_neg c117).symm.trans h
      refine g_iconst hC dX8_joined_124 (v := (0 : Int32)) (by decide) ?_
      cases h
      exact g_iret hC hE rfl dX8_joined_125 (Nat.zero_le _) (Nat.zero_le _) ⟨rfl, rfl, rfl, rfl, rfl, rfl⟩
    · replace h := (if_pos c117).symm.trans h
      refine g_iconst hC dX8_joined_120 (v := (1 : Int32)) (by decide) ?_
      refine g_goto hC dX8_joined_121 (tgt := 125) (by decide) ?_
      cases h
      exact g_iret hC hE rfl dX8_joined_125 (Nat.zero_le _) (Nat.zero_le _) ⟨rfl, rfl, rfl, rfl, rfl, rfl⟩
  replace h := (if_neg c1_41).symm.trans h
  by_cases c1_50 : v0 = (50 : Int32)
  · replace h := (if_pos c1_50).symm.trans h
    refine g_look hC dX8_joined_1 (off := 125) (tgt := 126) rfl (by rw [c1_50]; rfl) (by decide) ?_
    refine g_iload_n hC dX8_joined_126 rfl (q := 1) rfl ?_
    refine g_iload_n hC dX8_joined_127 rfl (q := 2) rfl ?_
    refine g_iadd hC dX8_joined_128 ?_
    cases h
    exact g_iret hC hE rfl dX8_joined_129 (Nat.zero_le _) (Nat.zero_le _) ⟨rfl, rfl, rfl, rfl, rfl, rfl⟩
  replace h := (if_neg c1_50).symm.trans h
  by_cases c1_51 : v0 = (51 : Int32)
  · replace h := (if_pos c1_51).symm.trans h
    refine g_look hC dX8_joined_1 (off := 129) (tgt := 130) rfl (by rw [c1_51]; rfl) (by decide) ?_
    refine g_iload_n hC dX8_joined_130 rfl (q := 1) rfl ?_
    refine g_iload_n hC dX8_joined_131 rfl (q := 2) rfl ?_
    refine g_isub hC dX8_joined_132 ?_
    cases h
    exact g_iret hC hE rfl dX8_joined_133 (Nat.zero_le _) (Nat.zero_le _) ⟨rfl, rfl, rfl, rfl, rfl, rfl⟩
  replace h := (if_neg c1_51).symm.trans h
  by_cases c1_60 : v0 = (60 : Int32)
  · replace h := (if_pos c1_60).symm.trans h
    refine g_look hC dX8_joined_1 (off := 133) (tgt := 134) rfl (by rw [c1_60]; rfl) (by decide) ?_
    refine g_iload_n hC dX8_joined_134 rfl (q := 1) rfl ?_
    refine g_iload_n hC dX8_joined_135 rfl (q := 2) rfl ?_
    refine g_imul hC dX8_joined_136 ?_
    cases h
    exact g_iret hC hE rfl dX8_joined_137 (Nat.zero_le _) (Nat.zero_le _) ⟨rfl, rfl, rfl, rfl, rfl, rfl⟩
  replace h := (if_neg c1_60).symm.trans h
  by_cases c1_61 : v0 = (61 : Int32)
  · replace h := (if_pos c1_61).symm.trans h
    refine g_look hC dX8_joined_1 (off := 137) (tgt := 138) rfl (by rw [c1_61]; rfl) (by decide) ?_
    refine g_iload_n hC dX8_joined_138 rfl (q := 2) rfl ?_
    refine g_if_ne hC dX8_joined_139 (tgt := 146) (by decide) (fun c139 => ?_) (fun c139 => ?_)
    · replace h := (if_neg c139).symm.trans h
      refine g_iload_n hC dX8_joined_146 rfl (q := 1) rfl ?_
      refine g_iload_n hC dX8_joined_147 rfl (q := 2) rfl ?_
      obtain ⟨g148, h⟩ := oG_some h
      refine g_idiv hC dX8_joined_148 (mNz g148) ?_
      cases h
      exact g_iret hC hE rfl dX8_joined_149 (Nat.zero_le _) (Nat.zero_le _) ⟨rfl, rfl, rfl, rfl, rfl, rfl⟩
    · replace h := (if_pos c139).symm.trans h
      refine g_iconst hC dX8_joined_142 (v := (0 : Int32)) (by decide) ?_
      refine g_goto hC dX8_joined_143 (tgt := 149) (by decide) ?_
      cases h
      exact g_iret hC hE rfl dX8_joined_149 (Nat.zero_le _) (Nat.zero_le _) ⟨rfl, rfl, rfl, rfl, rfl, rfl⟩
  replace h := (if_neg c1_61).symm.trans h
  refine g_look hC dX8_joined_1 (off := 149) (tgt := 150) rfl (by rw [lv_osw c1_10 (by decide)]; rw [lv_osw c1_20 (by decide)]; rw [lv_osw c1_40 (by decide)]; rw [lv_osw c1_41 (by decide)]; rw [lv_osw c1_50 (by decide)]; rw [lv_osw c1_51 (by decide)]; rw [lv_osw c1_60 (by decide)]; rw [lv_osw c1_61 (by decide)]; rfl) (by decide) ?_
  refine g_iconst hC dX8_joined_150 (v := (0 : Int32)) (by decide) ?_
  cases h
  exact g_iret hC hE rfl dX8_joined_151 (Nat.zero_le _) (Nat.zero_le _) ⟨rfl, rfl, rfl, rfl, rfl, rfl⟩
noncomputable def b_X8_worth_100 (Fu : Nat) (k0 : Nat) (k60_ : Int32 × Int32 × mIT → Option (Int32 × mIT)) (v8 : Int32) (v9 : Int32) (I : mIT) : Option (Int32 × mIT) :=
  if v8 < 0 then (k60_ (v8, (v9 + (1 : Int32)), I)) else (if (nI 40) ≤ v8 then (k60_ (v8, (v9 + (1 : Int32)), I)) else (oB (f_X8_operandAt Fu I k0 v9) (fun r124 => oG (inB v8 40) (k60_ ((v8 + (1 : Int32)), (v9 + (1 : Int32)), (mU I (k0 + 5) (v8).toNatClampNeg r124))))))
set_option maxRecDepth 20000 in
theorem bo_X8_worth_100 {X : mXT} {E : mEn} {Fu : Nat} {R : mRT} {L : mLT} {k0 : Nat} (hC : mC X E mX8_worth RX8 cX8_worth) (hk0 : mO8 R k0)  {out : Int32 × mIT} (hE : mEd X E 0 0 (mSame (some (.int (out.1))) 106 1 (out.2) R L)) (k60_ : Int32 × Int32 × mIT → Option (Int32 × mIT)) (hk60_ : ∀ (v8 : Int32) (v9 : Int32) (I : mIT),  k60_ (v8, v9, I) = some out → mG X E 60 [(0, .ref (mB E + k0)), (8, .int v8), (9, .int v9)] [] 106 1 I R L 0 0) (v8 : Int32) (v9 : Int32) (I : mIT) (h : b_X8_worth_100 Fu k0 k60_ v8 v9 I = some out) : mG X E 100 [(0, .ref (mB E + k0)), (8, .int v8), (9, .int v9)] [] 106 1 I R L 0 0 := by
  unfold b_X8_worth_100 at h
  refine g_iload hC dX8_worth_100 (q := 1) rfl ?_
  refine g_if_lt hC dX8_worth_102 (tgt := 235) (by decide) (fun c102 => ?_) (fun c102 => ?_)
  · replace h := (if_pos c102).symm.trans h
    refine g_iinc hC dX8_worth_235 rfl (q := 2) rfl (w := (v9 + (1 : Int32))) rfl (by decide) (lv' := [(9, .int (v9 + (1 : Int32))), (0, .ref (mB E + k0)), (8, .int v8)]) rfl ?_
    refine g_goto hC dX8_worth_238 (tgt := 60) (by decide) ?_
    refine g_lv [1, 2, 0] rfl ?_
    exact hk60_ v8 (v9 + (1 : Int32)) I h
  · replace h := (if_neg c102).symm.trans h
    refine g_iload hC dX8_worth_105 (q := 1) rfl ?_
    refine g_aload_n hC dX8_worth_107 rfl (q := 0) rfl ?_
    refine g_getr hC fd_RX8_24 hk0.2.1 hk0.1 (C0 := "") (t0 := _) (Or.inr rfl) hk0.2.2.2.2.2.2.1 dX8_worth_108 ?_
    refine g_alenI hC hk0.2.2.2.2.2.2.2.2 hk0.2.2.2.2.2.2.2.1 dX8_worth_111 ?_
    refine g_ic_ge hC dX8_worth_112 (tgt := 235) (by decide) (fun c112 => ?_) (fun c112 => ?_)
    · replace h := (if_pos c112).symm.trans h
      refine g_iinc hC dX8_worth_235 rfl (q := 2) rfl (w := (v9 + (1 : Int32))) rfl (by decide) (lv' := [(9, .int (v9 + (1 : Int32))), (0, .ref (mB E + k0)), (8, .int v8)]) rfl ?_
      refine g_goto hC dX8_worth_238 (tgt := 60) (by decide) ?_
      refine g_lv [1, 2, 0] rfl ?_
      exact hk60_ v8 (v9 + (1 : Int32)) I h
    · replace h := (if_neg c112).symm.trans h
      refine g_aload_n hC dX8_worth_115 rfl (q := 0) rfl ?_
      refine g_getr hC fd_RX8_24 hk0.2.1 hk0.1 (C0 := "") (t0 := _) (Or.inr rfl) hk0.2.2.2.2.2.2.1 dX8_worth_116 ?_
      refine g_iload hC dX8_worth_119 (q := 1) rfl ?_
      refine g_aload_n hC dX8_worth_121 rfl (q := 0) rfl ?_
      refine g_iload hC dX8_worth_122 (q := 2) rfl ?_
      obtain ⟨r124, h124, h⟩ := oB_some h
      refine g_cV1 hC cv_X8_operandAt wd_619 ⟨Nat.le_of_ble_eq_true rfl, Nat.le_of_ble_eq_true rfl⟩ hk0.2.1 hk0.1 dX8_worth_124 (As := [.int v9]) (st := [.int v8, .ref (mB E + (k0 + 5))]) (ok_X8_operandAt hC.2.2.2.2.2.2.2.1 hk0 h124) rfl rfl (Nat.le_of_ble_eq_true rfl) ⟨Nat.zero_le _, Nat.zero_le _⟩ ?_
      obtain ⟨g127, h⟩ := oG_some h
      refine g_iast hC hk0.2.2.2.2.2.2.2.2 hk0.2.2.2.2.2.2.2.1 (inB_in g127) dX8_worth_127 (nm_e ?_)
      refine g_iinc hC dX8_worth_128 rfl (q := 1) rfl (w := (v8 + (1 : Int32))) rfl (by decide) (lv' := [(8, .int (v8 + (1 : Int32))), (0, .ref (mB E + k0)), (9, .int v9)]) rfl ?_
      refine g_goto hC dX8_worth_131 (tgt := 235) (by decide) ?_
      refine g_iinc hC dX8_worth_235 rfl (q := 2) rfl (w := (v9 + (1 : Int32))) rfl (by decide) (lv' := [(9, .int (v9 + (1 : Int32))), (8, .int (v8 + (1 : Int32))), (0, .ref (mB E + k0))]) rfl ?_
      refine g_goto hC dX8_worth_238 (tgt := 60) (by decide) ?_
      refine g_lv [2, 1, 0] rfl ?_
      exact hk60_ (v8 + (1 : Int32)) (v9 + (1 : Int32)) (mU I (k0 + 5) (v8).toNatClampNeg r124) h
noncomputable def b_X8_worth_60 (Fu : Nat) (k0 : Nat) (k60_ : Int32 × Int32 × mIT → Option (Int32 × mIT)) (v8 : Int32) (v9 : Int32) (I : mIT) : Option (Int32 × mIT) :=
  if (I k0 5) ≤ v9 then (oG (inB (0 : Int32) 40) (some ((I (k0 + 5) ((0 : Int32)).toNatClampNeg), I))) else (if (nI 700) ≤ v9 then (oG (inB (0 : Int32) 40) (some ((I (k0 + 5) ((0 : Int32)).toNatClampNeg), I))) else (oG (inB v9 700) (if (I (k0 + 1) (v9).toNatClampNeg) = (1 : Int32) then (b_X8_worth_100 Fu k0 k60_ v8 v9 I) else (if (I (k0 + 1) (v9).toNatClampNeg) = (2 : Int32) then (b_X8_worth_100 Fu k0 k60_ v8 v9 I) else (if (I (k0 + 1) (v9).toNatClampNeg) = (30 : Int32) then (if v8 < (1 : Int32) then (k60_ (v8, (v9 + (1 : Int32)), I)) else (if (nI 40) < v8 then (k60_ (v8, (v9 + (1 : Int32)), I)) else (oG (inB (v8 - (1 : Int32)) 40) (if (I (k0 + 5) ((v8 - (1 : Int32))).toNatClampNeg) = 0 then (oG (inB (v8 - (1 : Int32)) 40) (k60_ (v8, (v9 + (1 : Int32)), (mU I (k0 + 5) ((v8 - (1 : Int32))).toNatClampNeg (1 : Int32))))) else (oG (inB (v8 - (1 : Int32)) 40) (k60_ (v8, (v9 + (1 : Int32)), (mU I (k0 + 5) ((v8 - (1 : Int32))).toNatClampNeg (0 : Int32))))))))) else (if v8 < (2 : Int32) then (k60_ (v8, (v9 + (1 : Int32)), I)) else (if (nI 40) < v8 then (k60_ (v8, (v9 + (1 : Int32)), I)) else (oG (inB ((v8 + (-1 : Int32)) - (1 : Int32)) 40) (oG (inB (v8 + (-1 : Int32)) 40) (oB (f_X8_joined Fu (I (k0 + 1) (v9).toNatClampNeg) (I (k0 + 5) (((v8 + (-1 : Int32)) - (1 : Int32))).toNatClampNeg) (I (k0 + 5) ((v8 + (-1 : Int32))).toNatClampNeg)) (fun r231 => oG (inB ((v8 + (-1 : Int32)) - (1 : Int32)) 40) (k60_ ((v8 + (-1 : Int32)), (v9 + (1 : Int32)), (mU I (k0 + 5) (((v8 + (-1 : Int32)) - (1 : Int32))).toNatClampNeg r231))))))))))))))
set_option maxRecDepth 20000 in
theorem bo_X8_worth_60 {X : mXT} {E : mEn} {Fu : Nat} {R : mRT} {L : mLT} {k0 : Nat} (hC : mC X E mX8_worth RX8 cX8_worth) (hk0 : mO8 R k0)  {out : Int32 × mIT} (hE : mEd X E 0 0 (mSame (some (.int (out.1))) 106 1 (out.2) R L)) (k60_ : Int32 × Int32 × mIT → Option (Int32 × mIT)) (hk60_ : ∀ (v8 : Int32) (v9 : Int32) (I : mIT),  k60_ (v8, v9, I) = some out → mG X E 60 [(0, .ref (mB E + k0)), (8, .int v8), (9, .int v9)] [] 106 1 I R L 0 0) (v8 : Int32) (v9 : Int32) (I : mIT) (h : b_X8_worth_60 Fu k0 k60_ v8 v9 I = some out) : mG X E 60 [(0, .ref (mB E + k0)), (8, .int v8), (9, .int v9)] [] 106 1 I R L 0 0 := by
  unfold b_X8_worth_60 at h
  refine g_iload hC dX8_worth_60 (q := 2) rfl ?_
  refine g_aload_n hC dX8_worth_62 rfl (q := 0) rfl ?_
  refine g_geti hC fd_RX8_27 hk0.2.1 hk0.1 (Or.inl rfl) dX8_worth_63 ?_
  refine g_ic_ge hC dX8_worth_66 (tgt := 241) (by decide) (fun c66 => ?_) (fun c66 => ?_)
  · replace h := (if_pos c66).symm.trans h
    refine g_aload_n hC dX8_worth_241 rfl (q := 0) rfl ?_
    refine g_getr hC fd_RX8_24 hk0.2.1 hk0.1 (C0 := "") (t0 := _) (Or.inr rfl) hk0.2.2.2.2.2.2.1 dX8_worth_242 ?_
    refine g_iconst hC dX8_worth_245 (v := (0 : Int32)) (by decide) ?_
    obtain ⟨g246, h⟩ := oG_some h
    refine g_iald hC hk0.2.2.2.2.2.2.2.2 hk0.2.2.2.2.2.2.2.1 (inB_in g246) dX8_worth_246 ?_
    cases h
    exact g_iret hC hE rfl dX8_worth_247 (Nat.zero_le _) (Nat.zero_le _) ⟨rfl, rfl, rfl, rfl, rfl, rfl⟩
  · replace h := (if_neg c66).symm.trans h
    refine g_iload hC dX8_worth_69 (q := 2) rfl ?_
    refine g_aload_n hC dX8_worth_71 rfl (q := 0) rfl ?_
    refine g_getr hC fd_RX8_9 hk0.2.1 hk0.1 (C0 := "") (t0 := _) (Or.inr rfl) hk0.2.2.1.1 dX8_worth_72 ?_
    refine g_alenI hC hk0.2.2.1.2.2 hk0.2.2.1.2.1 dX8_worth_75 ?_
    refine g_ic_ge hC dX8_worth_76 (tgt := 241) (by decide) (fun c76 => ?_) (fun c76 => ?_)
    · replace h := (if_pos c76).symm.trans h
      refine g_aload_n hC dX8_worth_241 rfl (q := 0) rfl ?_
      refine g_getr hC fd_RX8_24 hk0.2.1 hk0.1 (C0 := "") (t0 := _) (Or.inr rfl) hk0.2.2.2.2.2.2.1 dX8_worth_242 ?_
      refine g_iconst hC dX8_worth_245 (v := (0 : Int32)) (by decide) ?_
      obtain ⟨g246, h⟩ := oG_some h
      refine g_iald hC hk0.2.2.2.2.2.2.2.2 hk0.2.2.2.2.2.2.2.1 (inB_in g246) dX8_worth_246 ?_
      cases h
      exact g_iret hC hE rfl dX8_worth_247 (Nat.zero_le _) (Nat.zero_le _) ⟨rfl, rfl, rfl, rfl, rfl, rfl⟩
    · replace h := (if_neg c76).symm.trans h
      refine g_aload_n hC dX8_worth_79 rfl (q := 0) rfl ?_
      refine g_getr hC fd_RX8_9 hk0.2.1 hk0.1 (C0 := "") (t0 := _) (Or.inr rfl) hk0.2.2.1.1 dX8_worth_80 ?_
      refine g_iload hC dX8_worth_83 (q := 2) rfl ?_
      obtain ⟨g85, h⟩ := oG_some h
      refine g_iald hC hk0.2.2.1.2.2 hk0.2.2.1.2.1 (inB_in g85) dX8_worth_85 ?_
      refine g_istore hC dX8_worth_86 rfl (by decide) (lv' := [(10, .int (I (k0 + 1) (v9).toNatClampNeg)), (0, .ref (mB E + k0)), (8, .int v8), (9, .int v9)]) rfl ?_
      refine g_iload hC dX8_worth_88 (q := 0) rfl ?_
      refine g_iconst hC dX8_worth_90 (v := (1 : Int32)) (by decide) ?_
      refine g_ic_eq hC dX8_worth_91 (tgt := 100) (by decide) (fun c91 => ?_) (fun c91 => ?_)
      · replace h := (if_pos c91).symm.trans h
        refine g_lv [1, 2, 3] rfl ?_
        exact bo_X8_worth_100 hC hk0 hE k60_ hk60_ (v8) (v9) (I) h
      · replace h := (if_neg c91).symm.trans h
        refine g_iload hC dX8_worth_94 (q := 0) rfl ?_
        refine g_iconst hC dX8_worth_96 (v := (2 : Int32)) (by decide) ?_
        refine g_ic_ne hC dX8_worth_97 (tgt := 134) (by decide) (fun c97 => ?_) (fun c97 => ?_)
        · replace h := (if_neg c97).symm.trans h
          refine g_iload hC dX8_worth_134 (q := 0) rfl ?_
          refine g_bipush hC dX8_worth_136 (v := (30 : Int32)) (by decide) ?_
          refine g_ic_ne hC dX8_worth_138 (tgt := 186) (by decide) (fun c138 => ?_) (fun c138 => ?_)
          · replace h := (if_neg c138).symm.trans h
            refine g_iload hC dX8_worth_186 (q := 2) rfl ?_
            refine g_iconst hC dX8_worth_188 (v := (2 : Int32)) (by decide) ?_
            refine g_ic_lt hC dX8_worth_189 (tgt := 235) (by decide) (fun c189 => ?_) (fun c189 => ?_)
            · replace h := (if_pos c189).symm.trans h
              refine g_iinc hC dX8_worth_235 rfl (q := 3) rfl (w := (v9 + (1 : Int32))) rfl (by decide) (lv' := [(9, .int (v9 + (1 : Int32))), (10, .int (I (k0 + 1) (v9).toNatClampNeg)), (0, .ref (mB E + k0)), (8, .int v8)]) rfl ?_
              refine g_goto hC dX8_worth_238 (tgt := 60) (by decide) ?_
              refine g_lv [2, 3, 0] rfl ?_
              exact hk60_ v8 (v9 + (1 : Int32)) I h
            · replace h := (if_neg c189).symm.trans h
              refine g_iload hC dX8_worth_192 (q := 2) rfl ?_
              refine g_aload_n hC dX8_worth_194 rfl (q := 1) rfl ?_
              refine g_getr hC fd_RX8_24 hk0.2.1 hk0.1 (C0 := "") (t0 := _) (Or.inr rfl) hk0.2.2.2.2.2.2.1 dX8_worth_195 ?_
              refine g_alenI hC hk0.2.2.2.2.2.2.2.2 hk0.2.2.2.2.2.2.2.1 dX8_worth_198 ?_
              refine g_ic_gt hC dX8_worth_199 (tgt := 235) (by decide) (fun c199 => ?_) (fun c199 => ?_)
              · replace h := (if_pos c199).symm.trans h
                refine g_iinc hC dX8_worth_235 rfl (q := 3) rfl (w := (v9 + (1 : Int32))) rfl (by decide) (lv' := [(9, .int (v9 + (1 : Int32))), (10, .int (I (k0 + 1) (v9).toNatClampNeg)), (0, .ref (mB E + k0)), (8, .int v8)]) rfl ?_
                refine g_goto hC dX8_worth_238 (tgt := 60) (by decide) ?_
                refine g_lv [2, 3, 0] rfl ?_
                exact hk60_ v8 (v9 + (1 : Int32)) I h
              · replace h := (if_neg c199).symm.trans h
                refine g_iinc hC dX8_worth_202 rfl (q := 2) rfl (w := (v8 + (-1 : Int32))) rfl (by decide) (lv' := [(8, .int (v8 + (-1 : Int32))), (10, .int (I (k0 + 1) (v9).toNatClampNeg)), (0, .ref (mB E + k0)), (9, .int v9)]) rfl ?_
                refine g_aload_n hC dX8_worth_205 rfl (q := 2) rfl ?_
                refine g_getr hC fd_RX8_24 hk0.2.1 hk0.1 (C0 := "") (t0 := _) (Or.inr rfl) hk0.2.2.2.2.2.2.1 dX8_worth_206 ?_
                refine g_iload hC dX8_worth_209 (q := 0) rfl ?_
                refine g_iconst hC dX8_worth_211 (v := (1 : Int32)) (by decide) ?_
                refine g_isub hC dX8_worth_212 ?_
                refine g_iload hC dX8_worth_213 (q := 1) rfl ?_
                refine g_aload_n hC dX8_worth_215 rfl (q := 2) rfl ?_
                refine g_getr hC fd_RX8_24 hk0.2.1 hk0.1 (C0 := "") (t0 := _) (Or.inr rfl) hk0.2.2.2.2.2.2.1 dX8_worth_216 ?_
                refine g_iload hC dX8_worth_219 (q := 0) rfl ?_
                refine g_iconst hC dX8_worth_221 (v := (1 : Int32)) (by decide) ?_
                refine g_isub hC dX8_worth_222 ?_
                obtain ⟨g223, h⟩ := oG_some h
                refine g_iald hC hk0.2.2.2.2.2.2.2.2 hk0.2.2.2.2.2.2.2.1 (inB_in g223) dX8_worth_223 ?_
                refine g_aload_n hC dX8_worth_224 rfl (q := 2) rfl ?_
                refine g_getr hC fd_RX8_24 hk0.2.1 hk0.1 (C0 := "") (t0 := _) (Or.inr rfl) hk0.2.2.2.2.2.2.1 dX8_worth_225 ?_
                refine g_iload hC dX8_worth_228 (q := 0) rfl ?_
                obtain ⟨g230, h⟩ := oG_some h
                refine g_iald hC hk0.2.2.2.2.2.2.2.2 hk0.2.2.2.2.2.2.2.1 (inB_in g230) dX8_worth_230 ?_
                obtain ⟨r231, h231, h⟩ := oB_some h
                refine g_cS1 hC cs_X8_joined wd_623 ⟨Nat.le_of_ble_eq_true rfl, Nat.le_of_ble_eq_true rfl⟩ dX8_worth_231 (As := [.int (I (k0 + 1) (v9).toNatClampNeg), .int (I (k0 + 5) (((v8 + (-1 : Int32)) - (1 : Int32))).toNatClampNeg), .int (I (k0 + 5) ((v8 + (-1 : Int32))).toNatClampNeg)]) (st := [.int ((v8 + (-1 : Int32)) - (1 : Int32)), .ref (mB E + (k0 + 5))]) (ok_X8_joined hC.2.2.2.2.2.2.2.1  h231) rfl rfl (Nat.le_of_ble_eq_true rfl) ⟨Nat.zero_le _, Nat.zero_le _⟩ ?_
                obtain ⟨g234, h⟩ := oG_some h
                refine g_iast hC hk0.2.2.2.2.2.2.2.2 hk0.2.2.2.2.2.2.2.1 (inB_in g234) dX8_worth_234 (nm_e ?_)
                refine g_iinc hC dX8_worth_235 rfl (q := 3) rfl (w := (v9 + (1 : Int32))) rfl (by decide) (lv' := [(9, .int (v9 + (1 : Int32))), (8, .int (v8 + (-1 : Int32))), (10, .int (I (k0 + 1) (v9).toNatClampNeg)), (0, .ref (mB E + k0))]) rfl ?_
                refine g_goto hC dX8_worth_238 (tgt := 60) (by decide) ?_
                refine g_lv [3, 1, 0] rfl ?_
                exact hk60_ (v8 + (-1 : Int32)) (v9 + (1 : Int32)) (mU I (k0 + 5) (((v8 + (-1 : Int32)) - (1 : Int32))).toNatClampNeg r231) h
          · replace h := (if_pos c138).symm.trans h
            refine g_iload hC dX8_worth_141 (q := 2) rfl ?_
            refine g_iconst hC dX8_worth_143 (v := (1 : Int32)) (by decide) ?_
            refine g_ic_lt hC dX8_worth_144 (tgt := 235) (by decide) (fun c144 => ?_) (fun c144 => ?_)
            · replace h := (if_pos c144).symm.trans h
              refine g_iinc hC dX8_worth_235 rfl (q := 3) rfl (w := (v9 + (1 : Int32))) rfl (by decide) (lv' := [(9, .int (v9 + (1 : Int32))), (10, .int (I (k0 + 1) (v9).toNatClampNeg)), (0, .ref (mB E + k0)), (8, .int v8)]) rfl ?_
              refine g_goto hC dX8_worth_238 (tgt := 60) (by decide) ?_
              refine g_lv [2, 3, 0] rfl ?_
              exact hk60_ v8 (v9 + (1 : Int32)) I h
            · replace h := (if_neg c144).symm.trans h
              refine g_iload hC dX8_worth_147 (q := 2) rfl ?_
              refine g_aload_n hC dX8_worth_149 rfl (q := 1) rfl ?_
              refine g_getr hC fd_RX8_24 hk0.2.1 hk0.1 (C0 := "") (t0 := _) (Or.inr rfl) hk0.2.2.2.2.2.2.1 dX8_worth_150 ?_
              refine g_alenI hC hk0.2.2.2.2.2.2.2.2 hk0.2.2.2.2.2.2.2.1 dX8_worth_153 ?_
              refine g_ic_gt hC dX8_worth_154 (tgt := 235) (by decide) (fun c154 => ?_) (fun c154 => ?_)
              · replace h := (if_pos c154).symm.trans h
                refine g_iinc hC dX8_worth_235 rfl (q := 3) rfl (w := (v9 + (1 : Int32))) rfl (by decide) (lv' := [(9, .int (v9 + (1 : Int32))), (10, .int (I (k0 + 1) (v9).toNatClampNeg)), (0, .ref (mB E + k0)), (8, .int v8)]) rfl ?_
                refine g_goto hC dX8_worth_238 (tgt := 60) (by decide) ?_
                refine g_lv [2, 3, 0] rfl ?_
                exact hk60_ v8 (v9 + (1 : Int32)) I h
              · replace h := (if_neg c154).symm.trans h
                refine g_aload_n hC dX8_worth_157 rfl (q := 1) rfl ?_
                refine g_getr hC fd_RX8_24 hk0.2.1 hk0.1 (C0 := "") (t0 := _) (Or.inr rfl) hk0.2.2.2.2.2.2.1 dX8_worth_158 ?_
                refine g_iload hC dX8_worth_161 (q := 2) rfl ?_
                refine g_iconst hC dX8_worth_163 (v := (1 : Int32)) (by decide) ?_
                refine g_isub hC dX8_worth_164 ?_
                refine g_aload_n hC dX8_worth_165 rfl (q := 1) rfl ?_
                refine g_getr hC fd_RX8_24 hk0.2.1 hk0.1 (C0 := "") (t0 := _) (Or.inr rfl) hk0.2.2.2.2.2.2.1 dX8_worth_166 ?_
                refine g_iload hC dX8_worth_169 (q := 2) rfl ?_
                refine g_iconst hC dX8_worth_171 (v := (1 : Int32)) (by decide) ?_
                refine g_isub hC dX8_worth_172 ?_
                obtain ⟨g173, h⟩ := oG_some h
                refine g_iald hC hk0.2.2.2.2.2.2.2.2 hk0.2.2.2.2.2.2.2.1 (inB_in g173) dX8_worth_173 ?_
                refine g_if_ne hC dX8_worth_174 (tgt := 181) (by decide) (fun c174 => ?_) (fun c174 => ?_)
                · replace h := (if_neg c174).symm.trans h
                  refine g_iconst hC dX8_worth_181 (v := (0 : Int32)) (by decide) ?_
                  obtain ⟨g182, h⟩ := oG_some h
                  refine g_iast hC hk0.2.2.2.2.2.2.2.2 hk0.2.2.2.2.2.2.2.1 (inB_in g182) dX8_worth_182 (nm_e ?_)
                  refine g_goto hC dX8_worth_183 (tgt := 235) (by decide) ?_
                  refine g_iinc hC dX8_worth_235 rfl (q := 3) rfl (w := (v9 + (1 : Int32))) rfl (by decide) (lv' := [(9, .int (v9 + (1 : Int32))), (10, .int (I (k0 + 1) (v9).toNatClampNeg)), (0, .ref (mB E + k0)), (8, .int v8)]) rfl ?_
                  refine g_goto hC dX8_worth_238 (tgt := 60) (by decide) ?_
                  refine g_lv [2, 3, 0] rfl ?_
                  exact hk60_ v8 (v9 + (1 : Int32)) (mU I (k0 + 5) ((v8 - (1 : Int32))).toNatClampNeg (0 : Int32)) h
                · replace h := (if_pos c174).symm.trans h
                  refine g_iconst hC dX8_worth_177 (v := (1 : Int32)) (by decide) ?_
                  refine g_goto hC dX8_worth_178 (tgt := 182) (by decide) ?_
                  obtain ⟨g182, h⟩ := oG_some h
                  refine g_iast hC hk0.2.2.2.2.2.2.2.2 hk0.2.2.2.2.2.2.2.1 (inB_in g182) dX8_worth_182 (nm_e ?_)
                  refine g_goto hC dX8_worth_183 (tgt := 235) (by decide) ?_
                  refine g_iinc hC dX8_worth_235 rfl (q := 3) rfl (w := (v9 + (1 : Int32))) rfl (by decide) (lv' := [(9, .int (v9 + (1 : Int32))), (10, .int (I (k0 + 1) (v9).toNatClampNeg)), (0, .ref (mB E + k0)), (8, .int v8)]) rfl ?_
                  refine g_goto hC dX8_worth_238 (tgt := 60) (by decide) ?_
                  refine g_lv [2, 3, 0] rfl ?_
                  exact hk60_ v8 (v9 + (1 : Int32)) (mU I (k0 + 5) ((v8 - (1 : Int32))).toNatClampNeg (1 : Int32)) h
        · replace h := (if_pos c97).symm.trans h
          refine g_lv [1, 2, 3] rfl ?_
          exact bo_X8_worth_100 hC hk0 hE k60_ hk60_ (v8) (v9) (I) h
noncomputable def w_X8_worth_60 (Fu : Nat) (k0 : Nat)  (N : Nat) (v8 : Int32) (v9 : Int32) (I : mIT) : Option (Int32 × mIT) :=
  loopF (fun self (s : Int32 × Int32 × mIT) => b_X8_worth_60 Fu k0 self s.1 s.2.1 s.2.2) N (v8, v9, I)
theorem wo_X8_worth_60 {X : mXT} {E : mEn} {Fu : Nat} {R : mRT} {L : mLT} {k0 : Nat} (hC : mC X E mX8_worth RX8 cX8_worth) (hk0 : mO8 R k0)  {out : Int32 × mIT} (hE : mEd X E 0 0 (mSame (some (.int (out.1))) 106 1 (out.2) R L))  (N : Nat) (v8 : Int32) (v9 : Int32) (I : mIT) (h : w_X8_worth_60 Fu k0  N v8 v9 I = some out) : mG X E 60 [(0, .ref (mB E + k0)), (8, .int v8), (9, .int v9)] [] 106 1 I R L 0 0 :=
  loopF_ok (Gd := fun s : Int32 × Int32 × mIT => mG X E 60 [(0, .ref (mB E + k0)), (8, .int s.1), (9, .int s.2.1)] [] 106 1 s.2.2 R L 0 0) (fun self hs s h => bo_X8_worth_60 hC hk0 hE self (fun v8 v9 I h => hs (v8, v9, I) h) s.1 s.2.1 s.2.2 h) N (v8, v9, I) h
noncomputable def f_X8_worth (Fu : Nat) (I : mIT) (k0 : Nat) (v1 : Int32) (v2 : Int32) (v3 : Int32) (v4 : Int32) (v5 : Int32) (v6 : Int32) (v7 : Int32) : Option (Int32 × mIT) :=
  oG (inB (0 : Int32) 7) (oG (inB (1 : Int32) 7) (oG (inB (2 : Int32) 7) (oG (inB (3 : Int32) 7) (oG (inB (4 : Int32) 7) (oG (inB (5 : Int32) 7) (oG (inB (6 : Int32) 7) (w_X8_worth_60 Fu k0 Fu (0 : Int32) (0 : Int32) (mU (mU (mU (mU (mU (mU (mU I (k0 + 4) ((0 : Int32)).toNatClampNeg v1) (k0 + 4) ((1 : Int32)).toNatClampNeg v2) (k0 + 4) ((2 : Int32)).toNatClampNeg v3) (k0 + 4) ((3 : Int32)).toNatClampNeg v4) (k0 + 4) ((4 : Int32)).toNatClampNeg v5) (k0 + 4) ((5 : Int32)).toNatClampNeg v6) (k0 + 4) ((6 : Int32)).toNatClampNeg v7))))))))
set_option maxRecDepth 20000 in
theorem ok_X8_worth {l : Launch} {E : mEn} {Fu : Nat} {I : mIT} {R : mRT} {L : mLT} {k0 : Nat} {v1 : Int32} {v2 : Int32} {v3 : Int32} {v4 : Int32} {v5 : Int32} {v6 : Int32} {v7 : Int32} (hst : l.stackTraces = false) (hk0 : mO8 R k0) {out : Int32 × mIT} (h : f_X8_worth Fu I k0 v1 v2 v3 v4 v5 v6 v7 = some out) : mOk l E mX8_worth [.ref (mB E + k0), .int v1, .int v2, .int v3, .int v4, .int v5, .int v6, .int v7] 106 1 I R L 0 0 (mSame (some (.int (out.1))) 106 1 (out.2) R L) := by
  refine mOk_of hst (by decide) (Nat.le_of_ble_eq_true rfl) (fun X hC hE _ => ?_)
  have hC : mC X E mX8_worth RX8 cX8_worth := hC
  show mG X E 0 [(0, .ref (mB E + k0)), (1, .int v1), (2, .int v2), (3, .int v3), (4, .int v4), (5, .int v5), (6, .int v6), (7, .int v7)] [] 106 1 I R L 0 0
  unfold f_X8_worth at h
  refine g_aload_n hC dX8_worth_0 rfl (q := 0) rfl ?_
  refine g_getr hC fd_RX8_21 hk0.2.1 hk0.1 (C0 := "") (t0 := _) (Or.inr rfl) hk0.2.2.2.2.2.1.1 dX8_worth_1 ?_
  refine g_iconst hC dX8_worth_4 (v := (0 : Int32)) (by decide) ?_
  refine g_iload_n hC dX8_worth_5 rfl (q := 1) rfl ?_
  obtain ⟨g6, h⟩ := oG_some h
  refine g_iast hC hk0.2.2.2.2.2.1.2.2 hk0.2.2.2.2.2.1.2.1 (inB_in g6) dX8_worth_6 (nm_e ?_)
  refine g_aload_n hC dX8_worth_7 rfl (q := 0) rfl ?_
  refine g_getr hC fd_RX8_21 hk0.2.1 hk0.1 (C0 := "") (t0 := _) (Or.inr rfl) hk0.2.2.2.2.2.1.1 dX8_worth_8 ?_
  refine g_iconst hC dX8_worth_11 (v := (1 : Int32)) (by decide) ?_
  refine g_iload_n hC dX8_worth_12 rfl (q := 2) rfl ?_
  obtain ⟨g13, h⟩ := oG_some h
  refine g_iast hC hk0.2.2.2.2.2.1.2.2 hk0.2.2.2.2.2.1.2.1 (inB_in g13) dX8_worth_13 (nm_e ?_)
  refine g_aload_n hC dX8_worth_14 rfl (q := 0) rfl ?_
  refine g_getr hC fd_RX8_21 hk0.2.1 hk0.1 (C0 := "") (t0 := _) (Or.inr rfl) hk0.2.2.2.2.2.1.1 dX8_worth_15 ?_
  refine g_iconst hC dX8_worth_18 (v := (2 : Int32)) (by decide) ?_
  refine g_iload_n hC dX8_worth_19 rfl (q := 3) rfl ?_
  obtain ⟨g20, h⟩ := oG_some h
  refine g_iast hC hk0.2.2.2.2.2.1.2.2 hk0.2.2.2.2.2.1.2.1 (inB_in g20) dX8_worth_20 (nm_e ?_)
  refine g_aload_n hC dX8_worth_21 rfl (q := 0) rfl ?_
  refine g_getr hC fd_RX8_21 hk0.2.1 hk0.1 (C0 := "") (t0 := _) (Or.inr rfl) hk0.2.2.2.2.2.1.1 dX8_worth_22 ?_
  refine g_iconst hC dX8_worth_25 (v := (3 : Int32)) (by decide) ?_
  refine g_iload hC dX8_worth_26 (q := 4) rfl ?_
  obtain ⟨g28, h⟩ := oG_some h
  refine g_iast hC hk0.2.2.2.2.2.1.2.2 hk0.2.2.2.2.2.1.2.1 (inB_in g28) dX8_worth_28 (nm_e ?_)
  refine g_aload_n hC dX8_worth_29 rfl (q := 0) rfl ?_
  refine g_getr hC fd_RX8_21 hk0.2.1 hk0.1 (C0 := "") (t0 := _) (Or.inr rfl) hk0.2.2.2.2.2.1.1 dX8_worth_30 ?_
  refine g_iconst hC dX8_worth_33 (v := (4 : Int32)) (by decide) ?_
  refine g_iload hC dX8_worth_34 (q := 5) rfl ?_
  obtain ⟨g36, h⟩ := oG_some h
  refine g_iast hC hk0.2.2.2.2.2.1.2.2 hk0.2.2.2.2.2.1.2.1 (inB_in g36) dX8_worth_36 (nm_e ?_)
  refine g_aload_n hC dX8_worth_37 rfl (q := 0) rfl ?_
  refine g_getr hC fd_RX8_21 hk0.2.1 hk0.1 (C0 := "") (t0 := _) (Or.inr rfl) hk0.2.2.2.2.2.1.1 dX8_worth_38 ?_
  refine g_iconst hC dX8_worth_41 (v := (5 : Int32)) (by decide) ?_
  refine g_iload hC dX8_worth_42 (q := 6) rfl ?_
  obtain ⟨g44, h⟩ := oG_some h
  refine g_iast hC hk0.2.2.2.2.2.1.2.2 hk0.2.2.2.2.2.1.2.1 (inB_in g44) dX8_worth_44 (nm_e ?_)
  refine g_aload_n hC dX8_worth_45 rfl (q := 0) rfl ?_
  refine g_getr hC fd_RX8_21 hk0.2.1 hk0.1 (C0 := "") (t0 := _) (Or.inr rfl) hk0.2.2.2.2.2.1.1 dX8_worth_46 ?_
  refine g_bipush hC dX8_worth_49 (v := (6 : Int32)) (by decide) ?_
  refine g_iload hC dX8_worth_51 (q := 7) rfl ?_
  obtain ⟨g53, h⟩ := oG_some h
  refine g_iast hC hk0.2.2.2.2.2.1.2.2 hk0.2.2.2.2.2.1.2.1 (inB_in g53) dX8_worth_53 (nm_e ?_)
  refine g_iconst hC dX8_worth_54 (v := (0 : Int32)) (by decide) ?_
  refine g_istore hC dX8_worth_55 rfl (by decide) (lv' := [(8, .int (0 : Int32)), (0, .ref (mB E + k0)), (1, .int v1), (2, .int v2), (3, .int v3), (4, .int v4), (5, .int v5), (6, .int v6), (7, .int v7)]) rfl ?_
  refine g_iconst hC dX8_worth_57 (v := (0 : Int32)) (by decide) ?_
  refine g_istore hC dX8_worth_58 rfl (by decide) (lv' := [(9, .int (0 : Int32)), (8, .int (0 : Int32)), (0, .ref (mB E + k0)), (1, .int v1), (2, .int v2), (3, .int v3), (4, .int v4), (5, .int v5), (6, .int v6), (7, .int v7)]) rfl ?_
  refine g_lv [2, 1, 0] rfl ?_
  exact wo_X8_worth_60 hC hk0 hE Fu ((0 : Int32)) ((0 : Int32)) ((mU (mU (mU (mU (mU (mU (mU I (k0 + 4) ((0 : Int32)).toNatClampNeg v1) (k0 + 4) ((1 : Int32)).toNatClampNeg v2) (k0 + 4) ((2 : Int32)).toNatClampNeg v3) (k0 + 4) ((3 : Int32)).toNatClampNeg v4) (k0 + 4) ((4 : Int32)).toNatClampNeg v5) (k0 + 4) ((5 : Int32)).toNatClampNeg v6) (k0 + 4) ((6 : Int32)).toNatClampNeg v7)) h
noncomputable def f_X11_within (Fu : Nat)  (v0 : Int32) (v1 : Int32) : Option (Int32) :=
  some (if (0 : Int32) < (if v1 < v0 then v1 else v0) then (if v1 < v0 then v1 else v0) else (0 : Int32))
set_option maxRecDepth 20000 in
theorem ok_X11_within {l : Launch} {E : mEn} {Fu : Nat} {I : mIT} {R : mRT} {L : mLT} {v0 : Int32} {v1 : Int32} (hst : l.stackTraces = false)  {out : Int32} (h : f_X11_within Fu  v0 v1 = some out) : mOk l E mX11_within [.int v0, .int v1] 106 1 I R L 0 0 (mSame (some (.int (out))) 106 1 I R L) := by
  refine mOk_of hst (by decide) (Nat.le_of_ble_eq_true rfl) (fun X hC hE _ => ?_)
  have hC : mC X E mX11_within RX11 cX11_within := hC
  show mG X E 0 [(0, .int v0), (1, .int v1)] [] 106 1 I R L 0 0
  unfold f_X11_within at h
  refine g_iconst hC dX11_within_0 (v := (0 : Int32)) (by decide) ?_
  refine g_iload_n hC dX11_within_1 rfl (q := 0) rfl ?_
  refine g_iload_n hC dX11_within_2 rfl (q := 1) rfl ?_
  refine g_mmin hC wd_629 wd_st_min wd_in_math wd_cd_min (Nat.le_of_ble_eq_true rfl) (Nat.le_of_ble_eq_true rfl) ⟨Nat.zero_le _, Nat.zero_le _⟩ dX11_within_3 ?_
  refine g_mmax hC wd_632 wd_st_max wd_in_math wd_cd_max (Nat.le_of_ble_eq_true rfl) (Nat.le_of_ble_eq_true rfl) ⟨Nat.zero_le _, Nat.zero_le _⟩ dX11_within_6 ?_
  cases h
  exact g_iret hC hE rfl dX11_within_9 (Nat.zero_le _) (Nat.zero_le _) ⟨rfl, rfl, rfl, rfl, rfl, rfl⟩
noncomputable def f_X9_growthOf (Fu : Nat) (I : mIT) (k0 : Nat) (k1 : Nat) (v2 : Int32) (v3 : Int32) : Option (Int32 × mIT) :=
  oB (f_X8_isTold Fu I (k1 + 10)) (fun r8 => if r8 = 0 then (if (5 : Int32) ≤ v3 then (some ((0 : Int32), I)) else (some ((1 : Int32), I))) else (oB (f_X9_sizeOf Fu I k0 v2) (fun r18 => oB (f_X9_hollowOf Fu I k0 v2) (fun r23 => oB (f_X5_kindOf Fu I k1 v2) (fun r28 => oB (f_X9_softnessOf Fu I k0 v2) (fun r33 => oB (f_X9_day Fu I k0) (fun r38 => oB (f_X9_placeOf Fu I k0 v2) (fun r43 => if r43 < 0 then (oB (f_X8_worth Fu I (k1 + 10) r18 r23 r28 r33 v3 r38 (0 : Int32)) (fun r54 => oB (f_X11_within Fu r54.1 (9 : Int32)) (fun r63 => some (r63, r54.2)))) else (oB (f_X8_worth Fu I (k1 + 10) r18 r23 r28 r33 v3 r38 (1 : Int32)) (fun r54 => oB (f_X11_within Fu r54.1 (9 : Int32)) (fun r63 => some (r63, r54.2))))))))))))
set_option maxRecDepth 20000 in
theorem ok_X9_growthOf {l : Launch} {E : mEn} {Fu : Nat} {I : mIT} {R : mRT} {L : mLT} {k0 : Nat} {k1 : Nat} {v2 : Int32} {v3 : Int32} (hst : l.stackTraces = false) (hk0 : mO9 R k0) (hk1 : mO5 R k1) {out : Int32 × mIT} (h : f_X9_growthOf Fu I k0 k1 v2 v3 = some out) : mOk l E mX9_growthOf [.ref (mB E + k0), .ref (mB E + k1), .int v2, .int v3] 106 1 I R L 0 0 (mSame (some (.int (out.1))) 106 1 (out.2) R L) := by
  refine mOk_of hst (by decide) (Nat.le_of_ble_eq_true rfl) (fun X hC hE _ => ?_)
  have hC : mC X E mX9_growthOf RX9 cX9_growthOf := hC
  show mG X E 0 [(0, .ref (mB E + k0)), (1, .ref (mB E + k1)), (2, .int v2), (3, .int v3)] [] 106 1 I R L 0 0
  unfold f_X9_growthOf at h
  refine g_aload_n hC dX9_growthOf_0 rfl (q := 1) rfl ?_
  refine g_getr hC fd_RX9_97 hk1.2.1 hk1.1 (C0 := _) (t0 := .int) (Or.inl rfl) hk1.2.2.2.2.2.2.1.1 dX9_growthOf_1 ?_
  refine g_astore hC dX9_growthOf_4 rfl (by decide) (lv' := [(4, .ref (mB E + (k1 + 10))), (0, .ref (mB E + k0)), (1, .ref (mB E + k1)), (2, .int v2), (3, .int v3)]) rfl ?_
  refine g_aload hC dX9_growthOf_6 (q := 0) rfl ?_
  obtain ⟨r8, h8, h⟩ := oB_some h
  refine g_cV1 hC cv_X8_isTold wd_598 ⟨Nat.le_of_ble_eq_true rfl, Nat.le_of_ble_eq_true rfl⟩ hk1.2.2.2.2.2.2.1.2.2.1 hk1.2.2.2.2.2.2.1.2.1 dX9_growthOf_8 (As := []) (st := []) (ok_X8_isTold hC.2.2.2.2.2.2.2.1 hk1.2.2.2.2.2.2.1.2 h8) rfl rfl (Nat.le_of_ble_eq_true rfl) ⟨Nat.zero_le _, Nat.zero_le _⟩ ?_
  refine g_if_eq hC dX9_growthOf_11 (tgt := 67) (by decide) (fun c11 => ?_) (fun c11 => ?_)
  · replace h := (if_pos c11).symm.trans h
    refine g_iload_n hC dX9_growthOf_67 rfl (q := 4) rfl ?_
    refine g_iconst hC dX9_growthOf_68 (v := (5 : Int32)) (by decide) ?_
    refine g_ic_ge hC dX9_growthOf_69 (tgt := 76) (by decide) (fun c69 => ?_) (fun c69 => ?_)
    · replace h := (if_pos c69).symm.trans h
      refine g_iconst hC dX9_growthOf_76 (v := (0 : Int32)) (by decide) ?_
      cases h
      exact g_iret hC hE rfl dX9_growthOf_77 (Nat.zero_le _) (Nat.zero_le _) ⟨rfl, rfl, rfl, rfl, rfl, rfl⟩
    · replace h := (if_neg c69).symm.trans h
      refine g_iconst hC dX9_growthOf_72 (v := (1 : Int32)) (by decide) ?_
      refine g_goto hC dX9_growthOf_73 (tgt := 77) (by decide) ?_
      cases h
      exact g_iret hC hE rfl dX9_growthOf_77 (Nat.zero_le _) (Nat.zero_le _) ⟨rfl, rfl, rfl, rfl, rfl, rfl⟩
  · replace h := (if_neg c11).symm.trans h
    refine g_aload hC dX9_growthOf_14 (q := 0) rfl ?_
    refine g_aload_n hC dX9_growthOf_16 rfl (q := 1) rfl ?_
    refine g_iload_n hC dX9_growthOf_17 rfl (q := 3) rfl ?_
    obtain ⟨r18, h18, h⟩ := oB_some h
    refine g_cV1 hC cv_X9_sizeOf wd_590 ⟨Nat.le_of_ble_eq_true rfl, Nat.le_of_ble_eq_true rfl⟩ hk0.2.1 hk0.1 dX9_growthOf_18 (As := [.int v2]) (st := [.ref (mB E + (k1 + 10))]) (ok_X9_sizeOf hC.2.2.2.2.2.2.2.1 hk0 h18) rfl rfl (Nat.le_of_ble_eq_true rfl) ⟨Nat.zero_le _, Nat.zero_le _⟩ ?_
    refine g_aload_n hC dX9_growthOf_21 rfl (q := 1) rfl ?_
    refine g_iload_n hC dX9_growthOf_22 rfl (q := 3) rfl ?_
    obtain ⟨r23, h23, h⟩ := oB_some h
    refine g_cV1 hC cv_X9_hollowOf wd_602 ⟨Nat.le_of_ble_eq_true rfl, Nat.le_of_ble_eq_true rfl⟩ hk0.2.1 hk0.1 dX9_growthOf_23 (As := [.int v2]) (st := [.int r18, .ref (mB E + (k1 + 10))]) (ok_X9_hollowOf hC.2.2.2.2.2.2.2.1 hk0 h23) rfl rfl (Nat.le_of_ble_eq_true rfl) ⟨Nat.zero_le _, Nat.zero_le _⟩ ?_
    refine g_aload_n hC dX9_growthOf_26 rfl (q := 2) rfl ?_
    refine g_iload_n hC dX9_growthOf_27 rfl (q := 3) rfl ?_
    obtain ⟨r28, h28, h⟩ := oB_some h
    refine g_cV1 hC cv_X5_kindOf wd_606 ⟨Nat.le_of_ble_eq_true rfl, Nat.le_of_ble_eq_true rfl⟩ hk1.2.1 hk1.1 dX9_growthOf_28 (As := [.int v2]) (st := [.int r23, .int r18, .ref (mB E + (k1 + 10))]) (ok_X5_kindOf hC.2.2.2.2.2.2.2.1 hk1 h28) rfl rfl (Nat.le_of_ble_eq_true rfl) ⟨Nat.zero_le _, Nat.zero_le _⟩ ?_
    refine g_aload_n hC dX9_growthOf_31 rfl (q := 1) rfl ?_
    refine g_iload_n hC dX9_growthOf_32 rfl (q := 3) rfl ?_
    obtain ⟨r33, h33, h⟩ := oB_some h
    refine g_cV1 hC cv_X9_softnessOf wd_610 ⟨Nat.le_of_ble_eq_true rfl, Nat.le_of_ble_eq_true rfl⟩ hk0.2.1 hk0.1 dX9_growthOf_33 (As := [.int v2]) (st := [.int r28, .int r23, .int r18, .ref (mB E + (k1 + 10))]) (ok_X9_softnessOf hC.2.2.2.2.2.2.2.1 hk0 h33) rfl rfl (Nat.le_of_ble_eq_true rfl) ⟨Nat.zero_le _, Nat.zero_le _⟩ ?_
    refine g_iload_n hC dX9_growthOf_36 rfl (q := 4) rfl ?_
    refine g_aload_n hC dX9_growthOf_37 rfl (q := 1) rfl ?_
    obtain ⟨r38, h38, h⟩ := oB_some h
    refine g_cV1 hC cv_X9_day wd_614 ⟨Nat.le_of_ble_eq_true rfl, Nat.le_of_ble_eq_true rfl⟩ hk0.2.1 hk0.1 dX9_growthOf_38 (As := []) (st := [.int v3, .int r33, .int r28, .int r23, .int r18, .ref (mB E + (k1 + 10))]) (ok_X9_day hC.2.2.2.2.2.2.2.1 hk0 h38) rfl rfl (Nat.le_of_ble_eq_true rfl) ⟨Nat.zero_le _, Nat.zero_le _⟩ ?_
    refine g_aload_n hC dX9_growthOf_41 rfl (q := 1) rfl ?_
    refine g_iload_n hC dX9_growthOf_42 rfl (q := 3) rfl ?_
    obtain ⟨r43, h43, h⟩ := oB_some h
    refine g_cV1 hC cv_X9_placeOf wd_586 ⟨Nat.le_of_ble_eq_true rfl, Nat.le_of_ble_eq_true rfl⟩ hk0.2.1 hk0.1 dX9_growthOf_43 (As := [.int v2]) (st := [.int r38, .int v3, .int r33, .int r28, .int r23, .int r18, .ref (mB E + (k1 + 10))]) (ok_X9_placeOf hC.2.2.2.2.2.2.2.1 hk0 h43) rfl rfl (Nat.le_of_ble_eq_true rfl) ⟨Nat.zero_le _, Nat.zero_le _⟩ ?_
    refine g_if_lt hC dX9_growthOf_46 (tgt := 53) (by decide) (fun c46 => ?_) (fun c46 => ?_)
    · replace h := (if_pos c46).symm.trans h
      refine g_iconst hC dX9_growthOf_53 (v := (0 : Int32)) (by decide) ?_
      obtain ⟨r54, h54, h⟩ := oB_some h
      refine g_cV1 hC cv_X8_worth wd_615 ⟨Nat.le_of_ble_eq_true rfl, Nat.le_of_ble_eq_true rfl⟩ hk1.2.2.2.2.2.2.1.2.2.1 hk1.2.2.2.2.2.2.1.2.1 dX9_growthOf_54 (As := [.int r18, .int r23, .int r28, .int r33, .int v3, .int r38, .int (0 : Int32)]) (st := []) (ok_X8_worth hC.2.2.2.2.2.2.2.1 hk1.2.2.2.2.2.2.1.2 h54) rfl rfl (Nat.le_of_ble_eq_true rfl) ⟨Nat.zero_le _, Nat.zero_le _⟩ ?_
      refine g_istore hC dX9_growthOf_57 rfl (by decide) (lv' := [(5, .int r54.1), (4, .ref (mB E + (k1 + 10))), (0, .ref (mB E + k0)), (1, .ref (mB E + k1)), (2, .int v2), (3, .int v3)]) rfl ?_
      refine g_iload hC dX9_growthOf_59 (q := 0) rfl ?_
      refine g_bipush hC dX9_growthOf_61 (v := (9 : Int32)) (by decide) ?_
      obtain ⟨r63, h63, h⟩ := oB_some h
      refine g_cN1 hC cs_X11_within (host := RX11) nl_RX9_73 ⟨Nat.le_of_ble_eq_true rfl, Nat.le_of_ble_eq_true rfl⟩ dX9_growthOf_63 (As := [.int r54.1, .int (9 : Int32)]) (st := []) (ok_X11_within hC.2.2.2.2.2.2.2.1  h63) rfl rfl (Nat.le_of_ble_eq_true rfl) ⟨Nat.zero_le _, Nat.zero_le _⟩ ?_
      cases h
      exact g_iret hC hE rfl dX9_growthOf_66 (Nat.zero_le _) (Nat.zero_le _) ⟨rfl, rfl, rfl, rfl, rfl, rfl⟩
    · replace h := (if_neg c46).symm.trans h
      refine g_iconst hC dX9_growthOf_49 (v := (1 : Int32)) (by decide) ?_
      refine g_goto hC dX9_growthOf_50 (tgt := 54) (by decide) ?_
      obtain ⟨r54, h54, h⟩ := oB_some h
      refine g_cV1 hC cv_X8_worth wd_615 ⟨Nat.le_of_ble_eq_true rfl, Nat.le_of_ble_eq_true rfl⟩ hk1.2.2.2.2.2.2.1.2.2.1 hk1.2.2.2.2.2.2.1.2.1 dX9_growthOf_54 (As := [.int r18, .int r23, .int r28, .int r33, .int v3, .int r38, .int (1 : Int32)]) (st := []) (ok_X8_worth hC.2.2.2.2.2.2.2.1 hk1.2.2.2.2.2.2.1.2 h54) rfl rfl (Nat.le_of_ble_eq_true rfl) ⟨Nat.zero_le _, Nat.zero_le _⟩ ?_
      refine g_istore hC dX9_growthOf_57 rfl (by decide) (lv' := [(5, .int r54.1), (4, .ref (mB E + (k1 + 10))), (0, .ref (mB E + k0)), (1, .ref (mB E + k1)), (2, .int v2), (3, .int v3)]) rfl ?_
      refine g_iload hC dX9_growthOf_59 (q := 0) rfl ?_
      refine g_bipush hC dX9_growthOf_61 (v := (9 : Int32)) (by decide) ?_
      obtain ⟨r63, h63, h⟩ := oB_some h
      refine g_cN1 hC cs_X11_within (host := RX11) nl_RX9_73 ⟨Nat.le_of_ble_eq_true rfl, Nat.le_of_ble_eq_true rfl⟩ dX9_growthOf_63 (As := [.int r54.1, .int (9 : Int32)]) (st := []) (ok_X11_within hC.2.2.2.2.2.2.2.1  h63) rfl rfl (Nat.le_of_ble_eq_true rfl) ⟨Nat.zero_le _, Nat.zero_le _⟩ ?_
      cases h
      exact g_iret hC hE rfl dX9_growthOf_66 (Nat.zero_le _) (Nat.zero_le _) ⟨rfl, rfl, rfl, rfl, rfl, rfl⟩
noncomputable def b_X9_passDay_2 (Fu : Nat) (k0 : Nat) (k1 : Nat) (k2_ : Int32 × Int32 × mIT → Option (mIT)) (v2 : Int32) (v3 : Int32) (I : mIT) : Option (mIT) :=
  if (I k1 3) ≤ v3 then (oB (f_X9_day Fu I k0) (fun r79 => oB (f_X9_setCell Fu I k0 (0 : Int32) (0 : Int32) (r79 + (1 : Int32))) (fun r84 => some (r84)))) else (oB (f_X9_placeOf Fu I k0 v3) (fun r12 => if r12 = (-1 : Int32) then (oB (f_X9_sizeOf Fu I k0 v3) (fun r25 => oB (f_X9_growthOf Fu I k0 k1 v3 v2) (fun r32 => oB (f_X9_setCell Fu r32.2 k0 (1 : Int32) v3 (if (60 : Int32) < (r25 + r32.1) then (60 : Int32) else (r25 + r32.1))) (fun r48 => k2_ (v2, (v3 + (1 : Int32)), r48))))) else (if r12 < 0 then (k2_ (v2, (v3 + (1 : Int32)), I)) else (oB (f_X9_soften Fu I k0 v3 ((1 : Int32) + (v2 / (2 : Int32)))) (fun r66 => k2_ (v2, (v3 + (1 : Int32)), r66))))))
set_option maxRecDepth 20000 in
theorem bo_X9_passDay_2 {X : mXT} {E : mEn} {Fu : Nat} {R : mRT} {L : mLT} {k0 : Nat} {k1 : Nat} (hC : mC X E mX9_passDay RX9 cX9_passDay) (hk0 : mO9 R k0) (hk1 : mO5 R k1)  {out : mIT} (hE : mEd X E 0 0 (mSame none 106 1 (out) R L)) (k2_ : Int32 × Int32 × mIT → Option (mIT)) (hk2_ : ∀ (v2 : Int32) (v3 : Int32) (I : mIT),  k2_ (v2, v3, I) = some out → mG X E 2 [(0, .ref (mB E + k0)), (1, .ref (mB E + k1)), (2, .int v2), (3, .int v3)] [] 106 1 I R L 0 0) (v2 : Int32) (v3 : Int32) (I : mIT) (h : b_X9_passDay_2 Fu k0 k1 k2_ v2 v3 I = some out) : mG X E 2 [(0, .ref (mB E + k0)), (1, .ref (mB E + k1)), (2, .int v2), (3, .int v3)] [] 106 1 I R L 0 0 := by
  unfold b_X9_passDay_2 at h
  refine g_iload_n hC dX9_passDay_2 rfl (q := 3) rfl ?_
  refine g_aload_n hC dX9_passDay_3 rfl (q := 1) rfl ?_
  refine g_geti hC fd_RX9_86 hk1.2.1 hk1.1 (Or.inl rfl) dX9_passDay_4 ?_
  refine g_ic_ge hC dX9_passDay_7 (tgt := 75) (by decide) (fun c7 => ?_) (fun c7 => ?_)
  · replace h := (if_pos c7).symm.trans h
    refine g_aload_n hC dX9_passDay_75 rfl (q := 0) rfl ?_
    refine g_iconst hC dX9_passDay_76 (v := (0 : Int32)) (by decide) ?_
    refine g_iconst hC dX9_passDay_77 (v := (0 : Int32)) (by decide) ?_
    refine g_aload_n hC dX9_passDay_78 rfl (q := 0) rfl ?_
    obtain ⟨r79, h79, h⟩ := oB_some h
    refine g_cV1 hC cv_X9_day wd_614 ⟨Nat.le_of_ble_eq_true rfl, Nat.le_of_ble_eq_true rfl⟩ hk0.2.1 hk0.1 dX9_passDay_79 (As := []) (st := [.int (0 : Int32), .int (0 : Int32), .ref (mB E + k0)]) (ok_X9_day hC.2.2.2.2.2.2.2.1 hk0 h79) rfl rfl (Nat.le_of_ble_eq_true rfl) ⟨Nat.zero_le _, Nat.zero_le _⟩ ?_
    refine g_iconst hC dX9_passDay_82 (v := (1 : Int32)) (by decide) ?_
    refine g_iadd hC dX9_passDay_83 ?_
    obtain ⟨r84, h84, h⟩ := oB_some h
    refine g_cV0 hC cv_X9_setCell wd_636 ⟨Nat.le_of_ble_eq_true rfl, Nat.le_of_ble_eq_true rfl⟩ hk0.2.1 hk0.1 dX9_passDay_84 (As := [.int (0 : Int32), .int (0 : Int32), .int (r79 + (1 : Int32))]) (st := []) (ok_X9_setCell hC.2.2.2.2.2.2.2.1 hk0 h84) rfl rfl (Nat.le_of_ble_eq_true rfl) ⟨Nat.zero_le _, Nat.zero_le _⟩ ?_
    cases h
    exact g_vret hC hE rfl dX9_passDay_87 (Nat.zero_le _) (Nat.zero_le _) ⟨rfl, rfl, rfl, rfl, rfl, rfl⟩
  · replace h := (if_neg c7).symm.trans h
    refine g_aload_n hC dX9_passDay_10 rfl (q := 0) rfl ?_
    refine g_iload_n hC dX9_passDay_11 rfl (q := 3) rfl ?_
    obtain ⟨r12, h12, h⟩ := oB_some h
    refine g_cV1 hC cv_X9_placeOf wd_586 ⟨Nat.le_of_ble_eq_true rfl, Nat.le_of_ble_eq_true rfl⟩ hk0.2.1 hk0.1 dX9_passDay_12 (As := [.int v3]) (st := []) (ok_X9_placeOf hC.2.2.2.2.2.2.2.1 hk0 h12) rfl rfl (Nat.le_of_ble_eq_true rfl) ⟨Nat.zero_le _, Nat.zero_le _⟩ ?_
    refine g_istore hC dX9_passDay_15 rfl (by decide) (lv' := [(4, .int r12), (0, .ref (mB E + k0)), (1, .ref (mB E + k1)), (2, .int v2), (3, .int v3)]) rfl ?_
    refine g_iload hC dX9_passDay_17 (q := 0) rfl ?_
    refine g_iconst hC dX9_passDay_19 (v := (-1 : Int32)) (by decide) ?_
    refine g_ic_ne hC dX9_passDay_20 (tgt := 54) (by decide) (fun c20 => ?_) (fun c20 => ?_)
    · replace h := (if_neg c20).symm.trans h
      refine g_iload hC dX9_passDay_54 (q := 0) rfl ?_
      refine g_if_lt hC dX9_passDay_56 (tgt := 69) (by decide) (fun c56 => ?_) (fun c56 => ?_)
      · replace h := (if_pos c56).symm.trans h
        refine g_iinc hC dX9_passDay_69 rfl (q := 4) rfl (w := (v3 + (1 : Int32))) rfl (by decide) (lv' := [(3, .int (v3 + (1 : Int32))), (4, .int r12), (0, .ref (mB E + k0)), (1, .ref (mB E + k1)), (2, .int v2)]) rfl ?_
        refine g_goto hC dX9_passDay_72 (tgt := 2) (by decide) ?_
        refine g_lv [2, 3, 4, 0] rfl ?_
        exact hk2_ v2 (v3 + (1 : Int32)) I h
      · replace h := (if_neg c56).symm.trans h
        refine g_aload_n hC dX9_passDay_59 rfl (q := 1) rfl ?_
        refine g_iload_n hC dX9_passDay_60 rfl (q := 4) rfl ?_
        refine g_iconst hC dX9_passDay_61 (v := (1 : Int32)) (by decide) ?_
        refine g_iload_n hC dX9_passDay_62 rfl (q := 3) rfl ?_
        refine g_iconst hC dX9_passDay_63 (v := (2 : Int32)) (by decide) ?_
        refine g_idiv hC dX9_passDay_64 (by decide) ?_
        refine g_iadd hC dX9_passDay_65 ?_
        obtain ⟨r66, h66, h⟩ := oB_some h
        refine g_cV0 hC cv_X9_soften wd_640 ⟨Nat.le_of_ble_eq_true rfl, Nat.le_of_ble_eq_true rfl⟩ hk0.2.1 hk0.1 dX9_passDay_66 (As := [.int v3, .int ((1 : Int32) + (v2 / (2 : Int32)))]) (st := []) (ok_X9_soften hC.2.2.2.2.2.2.2.1 hk0 h66) rfl rfl (Nat.le_of_ble_eq_true rfl) ⟨Nat.zero_le _, Nat.zero_le _⟩ ?_
        refine g_iinc hC dX9_passDay_69 rfl (q := 4) rfl (w := (v3 + (1 : Int32))) rfl (by decide) (lv' := [(3, .int (v3 + (1 : Int32))), (4, .int r12), (0, .ref (mB E + k0)), (1, .ref (mB E + k1)), (2, .int v2)]) rfl ?_
        refine g_goto hC dX9_passDay_72 (tgt := 2) (by decide) ?_
        refine g_lv [2, 3, 4, 0] rfl ?_
        exact hk2_ v2 (v3 + (1 : Int32)) r66 h
    · replace h := (if_pos c20).symm.trans h
      refine g_aload_n hC dX9_passDay_23 rfl (q := 1) rfl ?_
      refine g_iload_n hC dX9_passDay_24 rfl (q := 4) rfl ?_
      obtain ⟨r25, h25, h⟩ := oB_some h
      refine g_cV1 hC cv_X9_sizeOf wd_590 ⟨Nat.le_of_ble_eq_true rfl, Nat.le_of_ble_eq_true rfl⟩ hk0.2.1 hk0.1 dX9_passDay_25 (As := [.int v3]) (st := []) (ok_X9_sizeOf hC.2.2.2.2.2.2.2.1 hk0 h25) rfl rfl (Nat.le_of_ble_eq_true rfl) ⟨Nat.zero_le _, Nat.zero_le _⟩ ?_
      refine g_aload_n hC dX9_passDay_28 rfl (q := 1) rfl ?_
      refine g_aload_n hC dX9_passDay_29 rfl (q := 2) rfl ?_
      refine g_iload_n hC dX9_passDay_30 rfl (q := 4) rfl ?_
      refine g_iload_n hC dX9_passDay_31 rfl (q := 3) rfl ?_
      obtain ⟨r32, h32, h⟩ := oB_some h
      refine g_cV1 hC cv_X9_growthOf wd_594 ⟨Nat.le_of_ble_eq_true rfl, Nat.le_of_ble_eq_true rfl⟩ hk0.2.1 hk0.1 dX9_passDay_32 (As := [.ref (mB E + k1), .int v3, .int v2]) (st := [.int r25]) (ok_X9_growthOf hC.2.2.2.2.2.2.2.1 hk0 hk1 h32) rfl rfl (Nat.le_of_ble_eq_true rfl) ⟨Nat.zero_le _, Nat.zero_le _⟩ ?_
      refine g_iadd hC dX9_passDay_35 ?_
      refine g_istore hC dX9_passDay_36 rfl (by decide) (lv' := [(5, .int (r25 + r32.1)), (4, .int r12), (0, .ref (mB E + k0)), (1, .ref (mB E + k1)), (2, .int v2), (3, .int v3)]) rfl ?_
      refine g_aload_n hC dX9_passDay_38 rfl (q := 2) rfl ?_
      refine g_iconst hC dX9_passDay_39 (v := (1 : Int32)) (by decide) ?_
      refine g_iload_n hC dX9_passDay_40 rfl (q := 5) rfl ?_
      refine g_iload hC dX9_passDay_41 (q := 0) rfl ?_
      refine g_bipush hC dX9_passDay_43 (v := (60 : Int32)) (by decide) ?_
      refine g_mmin hC wd_635 wd_st_min wd_in_math wd_cd_min (Nat.le_of_ble_eq_true rfl) (Nat.le_of_ble_eq_true rfl) ⟨Nat.zero_le _, Nat.zero_le _⟩ dX9_passDay_45 ?_
      obtain ⟨r48, h48, h⟩ := oB_some h
      refine g_cV0 hC cv_X9_setCell wd_636 ⟨Nat.le_of_ble_eq_true rfl, Nat.le_of_ble_eq_true rfl⟩ hk0.2.1 hk0.1 dX9_passDay_48 (As := [.int (1 : Int32), .int v3, .int (if (60 : Int32) < (r25 + r32.1) then (60 : Int32) else (r25 + r32.1))]) (st := []) (ok_X9_setCell hC.2.2.2.2.2.2.2.1 hk0 h48) rfl rfl (Nat.le_of_ble_eq_true rfl) ⟨Nat.zero_le _, Nat.zero_le _⟩ ?_
      refine g_goto hC dX9_passDay_51 (tgt := 69) (by decide) ?_
      refine g_iinc hC dX9_passDay_69 rfl (q := 5) rfl (w := (v3 + (1 : Int32))) rfl (by decide) (lv' := [(3, .int (v3 + (1 : Int32))), (5, .int (r25 + r32.1)), (4, .int r12), (0, .ref (mB E + k0)), (1, .ref (mB E + k1)), (2, .int v2)]) rfl ?_
      refine g_goto hC dX9_passDay_72 (tgt := 2) (by decide) ?_
      refine g_lv [3, 4, 5, 0] rfl ?_
      exact hk2_ v2 (v3 + (1 : Int32)) r48 h
noncomputable def w_X9_passDay_2 (Fu : Nat) (k0 : Nat) (k1 : Nat)  (N : Nat) (v2 : Int32) (v3 : Int32) (I : mIT) : Option (mIT) :=
  loopF (fun self (s : Int32 × Int32 × mIT) => b_X9_passDay_2 Fu k0 k1 self s.1 s.2.1 s.2.2) N (v2, v3, I)
theorem wo_X9_passDay_2 {X : mXT} {E : mEn} {Fu : Nat} {R : mRT} {L : mLT} {k0 : Nat} {k1 : Nat} (hC : mC X E mX9_passDay RX9 cX9_passDay) (hk0 : mO9 R k0) (hk1 : mO5 R k1)  {out : mIT} (hE : mEd X E 0 0 (mSame none 106 1 (out) R L))  (N : Nat) (v2 : Int32) (v3 : Int32) (I : mIT) (h : w_X9_passDay_2 Fu k0 k1  N v2 v3 I = some out) : mG X E 2 [(0, .ref (mB E + k0)), (1, .ref (mB E + k1)), (2, .int v2), (3, .int v3)] [] 106 1 I R L 0 0 :=
  loopF_ok (Gd := fun s : Int32 × Int32 × mIT => mG X E 2 [(0, .ref (mB E + k0)), (1, .ref (mB E + k1)), (2, .int s.1), (3, .int s.2.1)] [] 106 1 s.2.2 R L 0 0) (fun self hs s h => bo_X9_passDay_2 hC hk0 hk1 hE self (fun v2 v3 I h => hs (v2, v3, I) h) s.1 s.2.1 s.2.2 h) N (v2, v3, I) h
noncomputable def f_X9_passDay (Fu : Nat) (I : mIT) (k0 : Nat) (k1 : Nat) (v2 : Int32) : Option (mIT) :=
  w_X9_passDay_2 Fu k0 k1 Fu v2 (0 : Int32) I
set_option maxRecDepth 20000 in
theorem ok_X9_passDay {l : Launch} {E : mEn} {Fu : Nat} {I : mIT} {R : mRT} {L : mLT} {k0 : Nat} {k1 : Nat} {v2 : Int32} (hst : l.stackTraces = false) (hk0 : mO9 R k0) (hk1 : mO5 R k1) {out : mIT} (h : f_X9_passDay Fu I k0 k1 v2 = some out) : mOk l E mX9_passDay [.ref (mB E + k0), .ref (mB E + k1), .int v2] 106 1 I R L 0 0 (mSame none 106 1 (out) R L) := by
  refine mOk_of hst (by decide) (Nat.le_of_ble_eq_true rfl) (fun X hC hE _ => ?_)
  have hC : mC X E mX9_passDay RX9 cX9_passDay := hC
  show mG X E 0 [(0, .ref (mB E + k0)), (1, .ref (mB E + k1)), (2, .int v2)] [] 106 1 I R L 0 0
  unfold f_X9_passDay at h
  refine g_iconst hC dX9_passDay_0 (v := (0 : Int32)) (by decide) ?_
  refine g_istore_n hC dX9_passDay_1 rfl rfl (by decide) (lv' := [(3, .int (0 : Int32)), (0, .ref (mB E + k0)), (1, .ref (mB E + k1)), (2, .int v2)]) rfl ?_
  refine g_lv [1, 2, 3, 0] rfl ?_
  exact wo_X9_passDay_2 hC hk0 hk1 hE Fu (v2) ((0 : Int32)) (I) h
noncomputable def b_X10_passDrawnDay_61 (Fu : Nat) (k1 : Nat)  (v2 : Int32) (v3 : Int32) (v4 : Int32) (I : mIT) : Option (mIT) :=
  if v2 = (1 : Int32) then (if v4 < 0 then (oB (f_X10_draw Fu I (10 : Int32)) (fun r89 => oB (f_X9_passDay Fu r89.2 73 k1 r89.1) (fun r92 => some (r92)))) else (oB (f_X9_soften Fu I 73 v3 (9 : Int32)) (fun r78 => oB (f_X10_draw Fu r78 (10 : Int32)) (fun r89 => oB (f_X9_passDay Fu r89.2 73 k1 r89.1) (fun r92 => some (r92)))))) else (oB (f_X10_draw Fu I (10 : Int32)) (fun r89 => oB (f_X9_passDay Fu r89.2 73 k1 r89.1) (fun r92 => some (r92))))
set_option maxRecDepth 20000 in
theorem bo_X10_passDrawnDay_61 {X : mXT} {E : mEn} {Fu : Nat} {R : mRT} {L : mLT} {k1 : Nat} (hC : mC X E mX10_passDrawnDay RX10 cX10_passDrawnDay) (hW : mWd R) (hk1 : mO5 R k1)  {out : mIT} (hE : mEd X E 0 0 (mSame none 106 1 (out) R L))  (v2 : Int32) (v3 : Int32) (v4 : Int32) (I : mIT) (h : b_X10_passDrawnDay_61 Fu k1  v2 v3 v4 I = some out) : mG X E 61 [(0, .ref (mB E + 72)), (1, .ref (mB E + k1)), (2, .int v2), (3, .int v3), (4, .int v4)] [] 106 1 I R L 0 0 := by
  unfold b_X10_passDrawnDay_61 at h
  refine g_iload_n hC dX10_passDrawnDay_61 rfl (q := 2) rfl ?_
  refine g_iconst hC dX10_passDrawnDay_62 (v := (1 : Int32)) (by decide) ?_
  refine g_ic_ne hC dX10_passDrawnDay_63 (tgt := 81) (by decide) (fun c63 => ?_) (fun c63 => ?_)
  · replace h := (if_neg c63).symm.trans h
    refine g_aload_n hC dX10_passDrawnDay_81 rfl (q := 0) rfl ?_
    refine g_getr hC fd_RX10_12 rfl (by decide) (C0 := _) (t0 := .int) (Or.inl rfl) (rr_72_0 hW.1) dX10_passDrawnDay_82 ?_
    refine g_aload_n hC dX10_passDrawnDay_85 rfl (q := 1) rfl ?_
    refine g_aload_n hC dX10_passDrawnDay_86 rfl (q := 0) rfl ?_
    refine g_bipush hC dX10_passDrawnDay_87 (v := (10 : Int32)) (by decide) ?_
    obtain ⟨r89, h89, h⟩ := oB_some h
    refine g_cV1 hC cv_X10_draw wd_1517 ⟨Nat.le_of_ble_eq_true rfl, Nat.le_of_ble_eq_true rfl⟩ rfl (by decide) dX10_passDrawnDay_89 (As := [.int (10 : Int32)]) (st := [.ref (mB E + k1), .ref (mB E + 73)]) (ok_X10_draw hC.2.2.2.2.2.2.2.1 hW h89) rfl rfl (Nat.le_of_ble_eq_true rfl) ⟨Nat.zero_le _, Nat.zero_le _⟩ ?_
    obtain ⟨r92, h92, h⟩ := oB_some h
    refine g_cV0 hC cv_X9_passDay wd_1525 ⟨Nat.le_of_ble_eq_true rfl, Nat.le_of_ble_eq_true rfl⟩ rfl (by decide) dX10_passDrawnDay_92 (As := [.ref (mB E + k1), .int r89.1]) (st := []) (ok_X9_passDay hC.2.2.2.2.2.2.2.1 (ob_73 hW.1) hk1 h92) rfl rfl (Nat.le_of_ble_eq_true rfl) ⟨Nat.zero_le _, Nat.zero_le _⟩ ?_
    cases h
    exact g_vret hC hE rfl dX10_passDrawnDay_95 (Nat.zero_le _) (Nat.zero_le _) ⟨rfl, rfl, rfl, rfl, rfl, rfl⟩
  · replace h := (if_pos c63).symm.trans h
    refine g_iload hC dX10_passDrawnDay_66 (q := 4) rfl ?_
    refine g_if_lt hC dX10_passDrawnDay_68 (tgt := 81) (by decide) (fun c68 => ?_) (fun c68 => ?_)
    · replace h := (if_pos c68).symm.trans h
      refine g_aload_n hC dX10_passDrawnDay_81 rfl (q := 0) rfl ?_
      refine g_getr hC fd_RX10_12 rfl (by decide) (C0 := _) (t0 := .int) (Or.inl rfl) (rr_72_0 hW.1) dX10_passDrawnDay_82 ?_
      refine g_aload_n hC dX10_passDrawnDay_85 rfl (q := 1) rfl ?_
      refine g_aload_n hC dX10_passDrawnDay_86 rfl (q := 0) rfl ?_
      refine g_bipush hC dX10_passDrawnDay_87 (v := (10 : Int32)) (by decide) ?_
      obtain ⟨r89, h89, h⟩ := oB_some h
      refine g_cV1 hC cv_X10_draw wd_1517 ⟨Nat.le_of_ble_eq_true rfl, Nat.le_of_ble_eq_true rfl⟩ rfl (by decide) dX10_passDrawnDay_89 (As := [.int (10 : Int32)]) (st := [.ref (mB E + k1), .ref (mB E + 73)]) (ok_X10_draw hC.2.2.2.2.2.2.2.1 hW h89) rfl rfl (Nat.le_of_ble_eq_true rfl) ⟨Nat.zero_le _, Nat.zero_le _⟩ ?_
      obtain ⟨r92, h92, h⟩ := oB_some h
      refine g_cV0 hC cv_X9_passDay wd_1525 ⟨Nat.le_of_ble_eq_true rfl, Nat.le_of_ble_eq_true rfl⟩ rfl (by decide) dX10_passDrawnDay_92 (As := [.ref (mB E + k1), .int r89.1]) (st := []) (ok_X9_passDay hC.2.2.2.2.2.2.2.1 (ob_73 hW.1) hk1 h92) rfl rfl (Nat.le_of_ble_eq_true rfl) ⟨Nat.zero_le _, Nat.zero_le _⟩ ?_
      cases h
      exact g_vret hC hE rfl dX10_passDrawnDay_95 (Nat.zero_le _) (Nat.zero_le _) ⟨rfl, rfl, rfl, rfl, rfl, rfl⟩
    · replace h := (if_neg c68).symm.trans h
      refine g_aload_n hC dX10_passDrawnDay_71 rfl (q := 0) rfl ?_
      refine g_getr hC fd_RX10_12 rfl (by decide) (C0 := _) (t0 := .int) (Or.inl rfl) (rr_72_0 hW.1) dX10_passDrawnDay_72 ?_
      refine g_iload_n hC dX10_passDrawnDay_75 rfl (q := 3) rfl ?_
      refine g_bipush hC dX10_passDrawnDay_76 (v := (9 : Int32)) (by decide) ?_
      obtain ⟨r78, h78, h⟩ := oB_some h
      refine g_cV0 hC cv_X9_soften wd_1524 ⟨Nat.le_of_ble_eq_true rfl, Nat.le_of_ble_eq_true rfl⟩ rfl (by decide) dX10_passDrawnDay_78 (As := [.int v3, .int (9 : Int32)]) (st := []) (ok_X9_soften hC.2.2.2.2.2.2.2.1 (ob_73 hW.1) h78) rfl rfl (Nat.le_of_ble_eq_true rfl) ⟨Nat.zero_le _, Nat.zero_le _⟩ ?_
      refine g_aload_n hC dX10_passDrawnDay_81 rfl (q := 0) rfl ?_
      refine g_getr hC fd_RX10_12 rfl (by decide) (C0 := _) (t0 := .int) (Or.inl rfl) (rr_72_0 hW.1) dX10_passDrawnDay_82 ?_
      refine g_aload_n hC dX10_passDrawnDay_85 rfl (q := 1) rfl ?_
      refine g_aload_n hC dX10_passDrawnDay_86 rfl (q := 0) rfl ?_
      refine g_bipush hC dX10_passDrawnDay_87 (v := (10 : Int32)) (by decide) ?_
      obtain ⟨r89, h89, h⟩ := oB_some h
      refine g_cV1 hC cv_X10_draw wd_1517 ⟨Nat.le_of_ble_eq_true rfl, Nat.le_of_ble_eq_true rfl⟩ rfl (by decide) dX10_passDrawnDay_89 (As := [.int (10 : Int32)]) (st := [.ref (mB E + k1), .ref (mB E + 73)]) (ok_X10_draw hC.2.2.2.2.2.2.2.1 hW h89) rfl rfl (Nat.le_of_ble_eq_true rfl) ⟨Nat.zero_le _, Nat.zero_le _⟩ ?_
      obtain ⟨r92, h92, h⟩ := oB_some h
      refine g_cV0 hC cv_X9_passDay wd_1525 ⟨Nat.le_of_ble_eq_true rfl, Nat.le_of_ble_eq_true rfl⟩ rfl (by decide) dX10_passDrawnDay_92 (As := [.ref (mB E + k1), .int r89.1]) (st := []) (ok_X9_passDay hC.2.2.2.2.2.2.2.1 (ob_73 hW.1) hk1 h92) rfl rfl (Nat.le_of_ble_eq_true rfl) ⟨Nat.zero_le _, Nat.zero_le _⟩ ?_
      cases h
      exact g_vret hC hE rfl dX10_passDrawnDay_95 (Nat.zero_le _) (Nat.zero_le _) ⟨rfl, rfl, rfl, rfl, rfl, rfl⟩
noncomputable def f_X10_passDrawnDay (Fu : Nat) (I : mIT) (k1 : Nat) : Option (mIT) :=
  oB (f_X10_draw Fu I (8 : Int32)) (fun r3 => if (r3.2 k1 3) ≤ 0 then (oB (f_X10_draw Fu r3.2 (10 : Int32)) (fun r89 => oB (f_X9_passDay Fu r89.2 73 k1 r89.1) (fun r92 => some (r92)))) else (if (1 : Int32) < r3.1 then (oB (f_X10_draw Fu r3.2 (10 : Int32)) (fun r89 => oB (f_X9_passDay Fu r89.2 73 k1 r89.1) (fun r92 => some (r92)))) else (oB (f_X10_draw Fu r3.2 (r3.2 k1 3)) (fun r24 => oB (f_X9_placeOf Fu r24.2 73 r24.1) (fun r33 => if r3.1 = 0 then (if r33 = (-1 : Int32) then (oB (f_X9_setPlace Fu r24.2 73 r24.1 (-2 : Int32)) (fun r55 => oB (f_X10_draw Fu r55 (10 : Int32)) (fun r89 => oB (f_X9_passDay Fu r89.2 73 k1 r89.1) (fun r92 => some (r92))))) else (b_X10_passDrawnDay_61 Fu k1 r3.1 r24.1 r33 r24.2)) else (b_X10_passDrawnDay_61 Fu k1 r3.1 r24.1 r33 r24.2))))))
set_option maxRecDepth 20000 in
theorem ok_X10_passDrawnDay {l : Launch} {E : mEn} {Fu : Nat} {I : mIT} {R : mRT} {L : mLT} {k1 : Nat} (hst : l.stackTraces = false) (hW : mWd R) (hk1 : mO5 R k1) {out : mIT} (h : f_X10_passDrawnDay Fu I k1 = some out) : mOk l E mX10_passDrawnDay [.ref (mB E + 72), .ref (mB E + k1)] 106 1 I R L 0 0 (mSame none 106 1 (out) R L) := by
  refine mOk_of hst (by decide) (Nat.le_of_ble_eq_true rfl) (fun X hC hE _ => ?_)
  have hC : mC X E mX10_passDrawnDay RX10 cX10_passDrawnDay := hC
  show mG X E 0 [(0, .ref (mB E + 72)), (1, .ref (mB E + k1))] [] 106 1 I R L 0 0
  unfold f_X10_passDrawnDay at h
  refine g_aload_n hC dX10_passDrawnDay_0 rfl (q := 0) rfl ?_
  refine g_bipush hC dX10_passDrawnDay_1 (v := (8 : Int32)) (by decide) ?_
  obtain ⟨r3, h3, h⟩ := oB_some h
  refine g_cV1 hC cv_X10_draw wd_1517 ⟨Nat.le_of_ble_eq_true rfl, Nat.le_of_ble_eq_true rfl⟩ rfl (by decide) dX10_passDrawnDay_3 (As := [.int (8 : Int32)]) (st := []) (ok_X10_draw hC.2.2.2.2.2.2.2.1 hW h3) rfl rfl (Nat.le_of_ble_eq_true rfl) ⟨Nat.zero_le _, Nat.zero_le _⟩ ?_
  refine g_istore_n hC dX10_passDrawnDay_6 rfl rfl (by decide) (lv' := [(2, .int r3.1), (0, .ref (mB E + 72)), (1, .ref (mB E + k1))]) rfl ?_
  refine g_aload_n hC dX10_passDrawnDay_7 rfl (q := 2) rfl ?_
  refine g_geti hC fd_RX10_31 hk1.2.1 hk1.1 (Or.inl rfl) dX10_passDrawnDay_8 ?_
  refine g_if_le hC dX10_passDrawnDay_11 (tgt := 81) (by decide) (fun c11 => ?_) (fun c11 => ?_)
  · replace h := (if_pos c11).symm.trans h
    refine g_aload_n hC dX10_passDrawnDay_81 rfl (q := 1) rfl ?_
    refine g_getr hC fd_RX10_12 rfl (by decide) (C0 := _) (t0 := .int) (Or.inl rfl) (rr_72_0 hW.1) dX10_passDrawnDay_82 ?_
    refine g_aload_n hC dX10_passDrawnDay_85 rfl (q := 2) rfl ?_
    refine g_aload_n hC dX10_passDrawnDay_86 rfl (q := 1) rfl ?_
    refine g_bipush hC dX10_passDrawnDay_87 (v := (10 : Int32)) (by decide) ?_
    obtain ⟨r89, h89, h⟩ := oB_some h
    refine g_cV1 hC cv_X10_draw wd_1517 ⟨Nat.le_of_ble_eq_true rfl, Nat.le_of_ble_eq_true rfl⟩ rfl (by decide) dX10_passDrawnDay_89 (As := [.int (10 : Int32)]) (st := [.ref (mB E + k1), .ref (mB E + 73)]) (ok_X10_draw hC.2.2.2.2.2.2.2.1 hW h89) rfl rfl (Nat.le_of_ble_eq_true rfl) ⟨Nat.zero_le _, Nat.zero_le _⟩ ?_
    obtain ⟨r92, h92, h⟩ := oB_some h
    refine g_cV0 hC cv_X9_passDay wd_1525 ⟨Nat.le_of_ble_eq_true rfl, Nat.le_of_ble_eq_true rfl⟩ rfl (by decide) dX10_passDrawnDay_92 (As := [.ref (mB E + k1), .int r89.1]) (st := []) (ok_X9_passDay hC.2.2.2.2.2.2.2.1 (ob_73 hW.1) hk1 h92) rfl rfl (Nat.le_of_ble_eq_true rfl) ⟨Nat.zero_le _, Nat.zero_le _⟩ ?_
    cases h
    exact g_vret hC hE rfl dX10_passDrawnDay_95 (Nat.zero_le _) (Nat.zero_le _) ⟨rfl, rfl, rfl, rfl, rfl, rfl⟩
  · replace h := (if_neg c11).symm.trans h
    refine g_iload_n hC dX10_passDrawnDay_14 rfl (q := 0) rfl ?_
    refine g_iconst hC dX10_passDrawnDay_15 (v := (1 : Int32)) (by decide) ?_
    refine g_ic_gt hC dX10_passDrawnDay_16 (tgt := 81) (by decide) (fun c16 => ?_) (fun c16 => ?_)
    · replace h := (if_pos c16).symm.trans h
      refine g_aload_n hC dX10_passDrawnDay_81 rfl (q := 1) rfl ?_
      refine g_getr hC fd_RX10_12 rfl (by decide) (C0 := _) (t0 := .int) (Or.inl rfl) (rr_72_0 hW.1) dX10_passDrawnDay_82 ?_
      refine g_aload_n hC dX10_passDrawnDay_85 rfl (q := 2) rfl ?_
      refine g_aload_n hC dX10_passDrawnDay_86 rfl (q := 1) rfl ?_
      refine g_bipush hC dX10_passDrawnDay_87 (v := (10 : Int32)) (by decide) ?_
      obtain ⟨r89, h89, h⟩ := oB_some h
      refine g_cV1 hC cv_X10_draw wd_1517 ⟨Nat.le_of_ble_eq_true rfl, Nat.le_of_ble_eq_true rfl⟩ rfl (by decide) dX10_passDrawnDay_89 (As := [.int (10 : Int32)]) (st := [.ref (mB E + k1), .ref (mB E + 73)]) (ok_X10_draw hC.2.2.2.2.2.2.2.1 hW h89) rfl rfl (Nat.le_of_ble_eq_true rfl) ⟨Nat.zero_le _, Nat.zero_le _⟩ ?_
      obtain ⟨r92, h92, h⟩ := oB_some h
      refine g_cV0 hC cv_X9_passDay wd_1525 ⟨Nat.le_of_ble_eq_true rfl, Nat.le_of_ble_eq_true rfl⟩ rfl (by decide) dX10_passDrawnDay_92 (As := [.ref (mB E + k1), .int r89.1]) (st := []) (ok_X9_passDay hC.2.2.2.2.2.2.2.1 (ob_73 hW.1) hk1 h92) rfl rfl (Nat.le_of_ble_eq_true rfl) ⟨Nat.zero_le _, Nat.zero_le _⟩ ?_
      cases h
      exact g_vret hC hE rfl dX10_passDrawnDay_95 (Nat.zero_le _) (Nat.zero_le _) ⟨rfl, rfl, rfl, rfl, rfl, rfl⟩
    · replace h := (if_neg c16).symm.trans h
      refine g_aload_n hC dX10_passDrawnDay_19 rfl (q := 1) rfl ?_
      refine g_aload_n hC dX10_passDrawnDay_20 rfl (q := 2) rfl ?_
      refine g_geti hC fd_RX10_31 hk1.2.1 hk1.1 (Or.inl rfl) dX10_passDrawnDay_21 ?_
      obtain ⟨r24, h24, h⟩ := oB_some h
      refine g_cV1 hC cv_X10_draw wd_1517 ⟨Nat.le_of_ble_eq_true rfl, Nat.le_of_ble_eq_true rfl⟩ rfl (by decide) dX10_passDrawnDay_24 (As := [.int (r3.2 k1 3)]) (st := []) (ok_X10_draw hC.2.2.2.2.2.2.2.1 hW h24) rfl rfl (Nat.le_of_ble_eq_true rfl) ⟨Nat.zero_le _, Nat.zero_le _⟩ ?_
      refine g_istore_n hC dX10_passDrawnDay_27 rfl rfl (by decide) (lv' := [(3, .int r24.1), (2, .int r3.1), (0, .ref (mB E + 72)), (1, .ref (mB E + k1))]) rfl ?_
      refine g_aload_n hC dX10_passDrawnDay_28 rfl (q := 2) rfl ?_
      refine g_getr hC fd_RX10_12 rfl (by decide) (C0 := _) (t0 := .int) (Or.inl rfl) (rr_72_0 hW.1) dX10_passDrawnDay_29 ?_
      refine g_iload_n hC dX10_passDrawnDay_32 rfl (q := 0) rfl ?_
      obtain ⟨r33, h33, h⟩ := oB_some h
      refine g_cV1 hC cv_X9_placeOf wd_1522 ⟨Nat.le_of_ble_eq_true rfl, Nat.le_of_ble_eq_true rfl⟩ rfl (by decide) dX10_passDrawnDay_33 (As := [.int r24.1]) (st := []) (ok_X9_placeOf hC.2.2.2.2.2.2.2.1 (ob_73 hW.1) h33) rfl rfl (Nat.le_of_ble_eq_true rfl) ⟨Nat.zero_le _, Nat.zero_le _⟩ ?_
      refine g_istore hC dX10_passDrawnDay_36 rfl (by decide) (lv' := [(4, .int r33), (3, .int r24.1), (2, .int r3.1), (0, .ref (mB E + 72)), (1, .ref (mB E + k1))]) rfl ?_
      refine g_iload_n hC dX10_passDrawnDay_38 rfl (q := 2) rfl ?_
      refine g_if_ne hC dX10_passDrawnDay_39 (tgt := 61) (by decide) (fun c39 => ?_) (fun c39 => ?_)
      · replace h := (if_neg c39).symm.trans h
        refine g_lv [3, 4, 2, 1, 0] rfl ?_
        exact bo_X10_passDrawnDay_61 hC hW hk1 hE (r3.1) (r24.1) (r33) (r24.2) h
      · replace h := (if_pos c39).symm.trans h
        refine g_iload hC dX10_passDrawnDay_42 (q := 0) rfl ?_
        refine g_iconst hC dX10_passDrawnDay_44 (v := (-1 : Int32)) (by decide) ?_
        refine g_ic_ne hC dX10_passDrawnDay_45 (tgt := 61) (by decide) (fun c45 => ?_) (fun c45 => ?_)
        · replace h := (if_neg c45).symm.trans h
          refine g_lv [3, 4, 2, 1, 0] rfl ?_
          exact bo_X10_passDrawnDay_61 hC hW hk1 hE (r3.1) (r24.1) (r33) (r24.2) h
        · replace h := (if_pos c45).symm.trans h
          refine g_aload_n hC dX10_passDrawnDay_48 rfl (q := 3) rfl ?_
          refine g_getr hC fd_RX10_12 rfl (by decide) (C0 := _) (t0 := .int) (Or.inl rfl) (rr_72_0 hW.1) dX10_passDrawnDay_49 ?_
          refine g_iload_n hC dX10_passDrawnDay_52 rfl (q := 1) rfl ?_
          refine g_bipush hC dX10_passDrawnDay_53 (v := (-2 : Int32)) (by decide) ?_
          obtain ⟨r55, h55, h⟩ := oB_some h
          refine g_cV0 hC cv_X9_setPlace wd_1523 ⟨Nat.le_of_ble_eq_true rfl, Nat.le_of_ble_eq_true rfl⟩ rfl (by decide) dX10_passDrawnDay_55 (As := [.int r24.1, .int (-2 : Int32)]) (st := []) (ok_X9_setPlace hC.2.2.2.2.2.2.2.1 (ob_73 hW.1) h55) rfl rfl (Nat.le_of_ble_eq_true rfl) ⟨Nat.zero_le _, Nat.zero_le _⟩ ?_
          refine g_goto hC dX10_passDrawnDay_58 (tgt := 81) (by decide) ?_
          refine g_aload_n hC dX10_passDrawnDay_81 rfl (q := 3) rfl ?_
          refine g_getr hC fd_RX10_12 rfl (by decide) (C0 := _) (t0 := .int) (Or.inl rfl) (rr_72_0 hW.1) dX10_passDrawnDay_82 ?_
          refine g_aload_n hC dX10_passDrawnDay_85 rfl (q := 4) rfl ?_
          refine g_aload_n hC dX10_passDrawnDay_86 rfl (q := 3) rfl ?_
          refine g_bipush hC dX10_passDrawnDay_87 (v := (10 : Int32)) (by decide) ?_
          obtain ⟨r89, h89, h⟩ := oB_some h
          refine g_cV1 hC cv_X10_draw wd_1517 ⟨Nat.le_of_ble_eq_true rfl, Nat.le_of_ble_eq_true rfl⟩ rfl (by decide) dX10_passDrawnDay_89 (As := [.int (10 : Int32)]) (st := [.ref (mB E + k1), .ref (mB E + 73)]) (ok_X10_draw hC.2.2.2.2.2.2.2.1 hW h89) rfl rfl (Nat.le_of_ble_eq_true rfl) ⟨Nat.zero_le _, Nat.zero_le _⟩ ?_
          obtain ⟨r92, h92, h⟩ := oB_some h
          refine g_cV0 hC cv_X9_passDay wd_1525 ⟨Nat.le_of_ble_eq_true rfl, Nat.le_of_ble_eq_true rfl⟩ rfl (by decide) dX10_passDrawnDay_92 (As := [.ref (mB E + k1), .int r89.1]) (st := []) (ok_X9_passDay hC.2.2.2.2.2.2.2.1 (ob_73 hW.1) hk1 h92) rfl rfl (Nat.le_of_ble_eq_true rfl) ⟨Nat.zero_le _, Nat.zero_le _⟩ ?_
          cases h
          exact g_vret hC hE rfl dX10_passDrawnDay_95 (Nat.zero_le _) (Nat.zero_le _) ⟨rfl, rfl, rfl, rfl, rfl, rfl⟩
noncomputable def b_X10_sizeInGarden_4 (Fu : Nat) (I : mIT) (k1 : Nat) (k4_ : Int32 × Int32 → Option (Int32)) (v2 : Int32) (v3 : Int32) : Option (Int32) :=
  if (I k1 3) ≤ v3 then (some (v2)) else (oB (f_X9_placeOf Fu I 73 v3) (fun r18 => if r18 = (-1 : Int32) then (oB (f_X9_sizeOf Fu I 73 v3) (fun r30 => k4_ ((v2 + r30), (v3 + (1 : Int32))))) else (k4_ ((v2 + (0 : Int32)), (v3 + (1 : Int32))))))
set_option maxRecDepth 20000 in
theorem bo_X10_sizeInGarden_4 {X : mXT} {E : mEn} {Fu : Nat} {I : mIT} {R : mRT} {L : mLT} {k1 : Nat} (hC : mC X E mX10_sizeInGarden RX10 cX10_sizeInGarden) (hW : mWd R) (hk1 : mO5 R k1)  {out : Int32} (hE : mEd X E 0 0 (mSame (some (.int (out))) 106 1 I R L)) (k4_ : Int32 × Int32 → Option (Int32)) (hk4_ : ∀ (v2 : Int32) (v3 : Int32),  k4_ (v2, v3) = some out → mG X E 4 [(0, .ref (mB E + 72)), (1, .ref (mB E + k1)), (2, .int v2), (3, .int v3)] [] 106 1 I R L 0 0) (v2 : Int32) (v3 : Int32) (h : b_X10_sizeInGarden_4 Fu I k1 k4_ v2 v3 = some out) : mG X E 4 [(0, .ref (mB E + 72)), (1, .ref (mB E + k1)), (2, .int v2), (3, .int v3)] [] 106 1 I R L 0 0 := by
  unfold b_X10_sizeInGarden_4 at h
  refine g_iload_n hC dX10_sizeInGarden_4 rfl (q := 3) rfl ?_
  refine g_aload_n hC dX10_sizeInGarden_5 rfl (q := 1) rfl ?_
  refine g_geti hC fd_RX10_31 hk1.2.1 hk1.1 (Or.inl rfl) dX10_sizeInGarden_6 ?_
  refine g_ic_ge hC dX10_sizeInGarden_9 (tgt := 45) (by decide) (fun c9 => ?_) (fun c9 => ?_)
  · replace h := (if_pos c9).symm.trans h
    refine g_iload_n hC dX10_sizeInGarden_45 rfl (q := 2) rfl ?_
    cases h
    exact g_iret hC hE rfl dX10_sizeInGarden_46 (Nat.zero_le _) (Nat.zero_le _) ⟨rfl, rfl, rfl, rfl, rfl, rfl⟩
  · replace h := (if_neg c9).symm.trans h
    refine g_iload_n hC dX10_sizeInGarden_12 rfl (q := 2) rfl ?_
    refine g_aload_n hC dX10_sizeInGarden_13 rfl (q := 0) rfl ?_
    refine g_getr hC fd_RX10_12 rfl (by decide) (C0 := _) (t0 := .int) (Or.inl rfl) (rr_72_0 hW.1) dX10_sizeInGarden_14 ?_
    refine g_iload_n hC dX10_sizeInGarden_17 rfl (q := 3) rfl ?_
    obtain ⟨r18, h18, h⟩ := oB_some h
    refine g_cV1 hC cv_X9_placeOf wd_1522 ⟨Nat.le_of_ble_eq_true rfl, Nat.le_of_ble_eq_true rfl⟩ rfl (by decide) dX10_sizeInGarden_18 (As := [.int v3]) (st := [.int v2]) (ok_X9_placeOf hC.2.2.2.2.2.2.2.1 (ob_73 hW.1) h18) rfl rfl (Nat.le_of_ble_eq_true rfl) ⟨Nat.zero_le _, Nat.zero_le _⟩ ?_
    refine g_iconst hC dX10_sizeInGarden_21 (v := (-1 : Int32)) (by decide) ?_
    refine g_ic_ne hC dX10_sizeInGarden_22 (tgt := 36) (by decide) (fun c22 => ?_) (fun c22 => ?_)
    · replace h := (if_neg c22).symm.trans h
      refine g_iconst hC dX10_sizeInGarden_36 (v := (0 : Int32)) (by decide) ?_
      refine g_iadd hC dX10_sizeInGarden_37 ?_
      refine g_istore_n hC dX10_sizeInGarden_38 rfl rfl (by decide) (lv' := [(2, .int (v2 + (0 : Int32))), (0, .ref (mB E + 72)), (1, .ref (mB E + k1)), (3, .int v3)]) rfl ?_
      refine g_iinc hC dX10_sizeInGarden_39 rfl (q := 3) rfl (w := (v3 + (1 : Int32))) rfl (by decide) (lv' := [(3, .int (v3 + (1 : Int32))), (2, .int (v2 + (0 : Int32))), (0, .ref (mB E + 72)), (1, .ref (mB E + k1))]) rfl ?_
      refine g_goto hC dX10_sizeInGarden_42 (tgt := 4) (by decide) ?_
      refine g_lv [2, 3, 1, 0] rfl ?_
      exact hk4_ (v2 + (0 : Int32)) (v3 + (1 : Int32)) h
    · replace h := (if_pos c22).symm.trans h
      refine g_aload_n hC dX10_sizeInGarden_25 rfl (q := 0) rfl ?_
      refine g_getr hC fd_RX10_12 rfl (by decide) (C0 := _) (t0 := .int) (Or.inl rfl) (rr_72_0 hW.1) dX10_sizeInGarden_26 ?_
      refine g_iload_n hC dX10_sizeInGarden_29 rfl (q := 3) rfl ?_
      obtain ⟨r30, h30, h⟩ := oB_some h
      refine g_cV1 hC cv_X9_sizeOf wd_1539 ⟨Nat.le_of_ble_eq_true rfl, Nat.le_of_ble_eq_true rfl⟩ rfl (by decide) dX10_sizeInGarden_30 (As := [.int v3]) (st := [.int v2]) (ok_X9_sizeOf hC.2.2.2.2.2.2.2.1 (ob_73 hW.1) h30) rfl rfl (Nat.le_of_ble_eq_true rfl) ⟨Nat.zero_le _, Nat.zero_le _⟩ ?_
      refine g_goto hC dX10_sizeInGarden_33 (tgt := 37) (by decide) ?_
      refine g_iadd hC dX10_sizeInGarden_37 ?_
      refine g_istore_n hC dX10_sizeInGarden_38 rfl rfl (by decide) (lv' := [(2, .int (v2 + r30)), (0, .ref (mB E + 72)), (1, .ref (mB E + k1)), (3, .int v3)]) rfl ?_
      refine g_iinc hC dX10_sizeInGarden_39 rfl (q := 3) rfl (w := (v3 + (1 : Int32))) rfl (by decide) (lv' := [(3, .int (v3 + (1 : Int32))), (2, .int (v2 + r30)), (0, .ref (mB E + 72)), (1, .ref (mB E + k1))]) rfl ?_
      refine g_goto hC dX10_sizeInGarden_42 (tgt := 4) (by decide) ?_
      refine g_lv [2, 3, 1, 0] rfl ?_
      exact hk4_ (v2 + r30) (v3 + (1 : Int32)) h
noncomputable def w_X10_sizeInGarden_4 (Fu : Nat) (I : mIT) (k1 : Nat)  (N : Nat) (v2 : Int32) (v3 : Int32) : Option (Int32) :=
  loopF (fun self (s : Int32 × Int32) => b_X10_sizeInGarden_4 Fu I k1 self s.1 s.2) N (v2, v3)
theorem wo_X10_sizeInGarden_4 {X : mXT} {E : mEn} {Fu : Nat} {I : mIT} {R : mRT} {L : mLT} {k1 : Nat} (hC : mC X E mX10_sizeInGarden RX10 cX10_sizeInGarden) (hW : mWd R) (hk1 : mO5 R k1)  {out : Int32} (hE : mEd X E 0 0 (mSame (some (.int (out))) 106 1 I R L))  (N : Nat) (v2 : Int32) (v3 : Int32) (h : w_X10_sizeInGarden_4 Fu I k1  N v2 v3 = some out) : mG X E 4 [(0, .ref (mB E + 72)), (1, .ref (mB E + k1)), (2, .int v2), (3, .int v3)] [] 106 1 I R L 0 0 :=
  loopF_ok (Gd := fun s : Int32 × Int32 => mG X E 4 [(0, .ref (mB E + 72)), (1, .ref (mB E + k1)), (2, .int s.1), (3, .int s.2)] [] 106 1 I R L 0 0) (fun self hs s h => bo_X10_sizeInGarden_4 hC hW hk1 hE self (fun v2 v3 h => hs (v2, v3) h) s.1 s.2 h) N (v2, v3) h
noncomputable def f_X10_sizeInGarden (Fu : Nat) (I : mIT) (k1 : Nat) : Option (Int32) :=
  w_X10_sizeInGarden_4 Fu I k1 Fu (0 : Int32) (0 : Int32)
set_option maxRecDepth 20000 in
theorem ok_X10_sizeInGarden {l : Launch} {E : mEn} {Fu : Nat} {I : mIT} {R : mRT} {L : mLT} {k1 : Nat} (hst : l.stackTraces = false) (hW : mWd R) (hk1 : mO5 R k1) {out : Int32} (h : f_X10_sizeInGarden Fu I k1 = some out) : mOk l E mX10_sizeInGarden [.ref (mB E + 72), .ref (mB E + k1)] 106 1 I R L 0 0 (mSame (some (.int (out))) 106 1 I R L) := by
  refine mOk_of hst (by decide) (Nat.le_of_ble_eq_true rfl) (fun X hC hE _ => ?_)
  have hC : mC X E mX10_sizeInGarden RX10 cX10_sizeInGarden := hC
  show mG X E 0 [(0, .ref (mB E + 72)), (1, .ref (mB E + k1))] [] 106 1 I R L 0 0
  unfold f_X10_sizeInGarden at h
  refine g_iconst hC dX10_sizeInGarden_0 (v := (0 : Int32)) (by decide) ?_
  refine g_istore_n hC dX10_sizeInGarden_1 rfl rfl (by decide) (lv' := [(2, .int (0 : Int32)), (0, .ref (mB E + 72)), (1, .ref (mB E + k1))]) rfl ?_
  refine g_iconst hC dX10_sizeInGarden_2 (v := (0 : Int32)) (by decide) ?_
  refine g_istore_n hC dX10_sizeInGarden_3 rfl rfl (by decide) (lv' := [(3, .int (0 : Int32)), (2, .int (0 : Int32)), (0, .ref (mB E + 72)), (1, .ref (mB E + k1))]) rfl ?_
  refine g_lv [2, 3, 1, 0] rfl ?_
  exact wo_X10_sizeInGarden_4 hC hW hk1 hE Fu ((0 : Int32)) ((0 : Int32)) h
noncomputable def b_X10_sounding_4 (Fu : Nat) (I : mIT) (k1 : Nat) (k4_ : Int32 × Int32 → Option (Int32)) (v2 : Int32) (v3 : Int32) : Option (Int32) :=
  if (I k1 3) ≤ v3 then (some (v2)) else (oB (f_X9_placeOf Fu I 73 v3) (fun r18 => if r18 < 0 then (k4_ ((v2 + (0 : Int32)), (v3 + (1 : Int32)))) else (oB (f_X9_softnessOf Fu I 73 v3) (fun r29 => if (I k1 5) ≤ r29 then (k4_ ((v2 + (0 : Int32)), (v3 + (1 : Int32)))) else (k4_ ((v2 + (1 : Int32)), (v3 + (1 : Int32))))))))
set_option maxRecDepth 20000 in
theorem bo_X10_sounding_4 {X : mXT} {E : mEn} {Fu : Nat} {I : mIT} {R : mRT} {L : mLT} {k1 : Nat} (hC : mC X E mX10_sounding RX10 cX10_sounding) (hW : mWd R) (hk1 : mO5 R k1)  {out : Int32} (hE : mEd X E 0 0 (mSame (some (.int (out))) 106 1 I R L)) (k4_ : Int32 × Int32 → Option (Int32)) (hk4_ : ∀ (v2 : Int32) (v3 : Int32),  k4_ (v2, v3) = some out → mG X E 4 [(0, .ref (mB E + 72)), (1, .ref (mB E + k1)), (2, .int v2), (3, .int v3)] [] 106 1 I R L 0 0) (v2 : Int32) (v3 : Int32) (h : b_X10_sounding_4 Fu I k1 k4_ v2 v3 = some out) : mG X E 4 [(0, .ref (mB E + 72)), (1, .ref (mB E + k1)), (2, .int v2), (3, .int v3)] [] 106 1 I R L 0 0 := by
  unfold b_X10_sounding_4 at h
  refine g_iload_n hC dX10_sounding_4 rfl (q := 3) rfl ?_
  refine g_aload_n hC dX10_sounding_5 rfl (q := 1) rfl ?_
  refine g_geti hC fd_RX10_31 hk1.2.1 hk1.1 (Or.inl rfl) dX10_sounding_6 ?_
  refine g_ic_ge hC dX10_sounding_9 (tgt := 52) (by decide) (fun c9 => ?_) (fun c9 => ?_)
  · replace h := (if_pos c9).symm.trans h
    refine g_iload_n hC dX10_sounding_52 rfl (q := 2) rfl ?_
    cases h
    exact g_iret hC hE rfl dX10_sounding_53 (Nat.zero_le _) (Nat.zero_le _) ⟨rfl, rfl, rfl, rfl, rfl, rfl⟩
  · replace h := (if_neg c9).symm.trans h
    refine g_iload_n hC dX10_sounding_12 rfl (q := 2) rfl ?_
    refine g_aload_n hC dX10_sounding_13 rfl (q := 0) rfl ?_
    refine g_getr hC fd_RX10_12 rfl (by decide) (C0 := _) (t0 := .int) (Or.inl rfl) (rr_72_0 hW.1) dX10_sounding_14 ?_
    refine g_iload_n hC dX10_sounding_17 rfl (q := 3) rfl ?_
    obtain ⟨r18, h18, h⟩ := oB_some h
    refine g_cV1 hC cv_X9_placeOf wd_1522 ⟨Nat.le_of_ble_eq_true rfl, Nat.le_of_ble_eq_true rfl⟩ rfl (by decide) dX10_sounding_18 (As := [.int v3]) (st := [.int v2]) (ok_X9_placeOf hC.2.2.2.2.2.2.2.1 (ob_73 hW.1) h18) rfl rfl (Nat.le_of_ble_eq_true rfl) ⟨Nat.zero_le _, Nat.zero_le _⟩ ?_
    refine g_if_lt hC dX10_sounding_21 (tgt := 43) (by decide) (fun c21 => ?_) (fun c21 => ?_)
    · replace h := (if_pos c21).symm.trans h
      refine g_iconst hC dX10_sounding_43 (v := (0 : Int32)) (by decide) ?_
      refine g_iadd hC dX10_sounding_44 ?_
      refine g_istore_n hC dX10_sounding_45 rfl rfl (by decide) (lv' := [(2, .int (v2 + (0 : Int32))), (0, .ref (mB E + 72)), (1, .ref (mB E + k1)), (3, .int v3)]) rfl ?_
      refine g_iinc hC dX10_sounding_46 rfl (q := 3) rfl (w := (v3 + (1 : Int32))) rfl (by decide) (lv' := [(3, .int (v3 + (1 : Int32))), (2, .int (v2 + (0 : Int32))), (0, .ref (mB E + 72)), (1, .ref (mB E + k1))]) rfl ?_
      refine g_goto hC dX10_sounding_49 (tgt := 4) (by decide) ?_
      refine g_lv [2, 3, 1, 0] rfl ?_
      exact hk4_ (v2 + (0 : Int32)) (v3 + (1 : Int32)) h
    · replace h := (if_neg c21).symm.trans h
      refine g_aload_n hC dX10_sounding_24 rfl (q := 0) rfl ?_
      refine g_getr hC fd_RX10_12 rfl (by decide) (C0 := _) (t0 := .int) (Or.inl rfl) (rr_72_0 hW.1) dX10_sounding_25 ?_
      refine g_iload_n hC dX10_sounding_28 rfl (q := 3) rfl ?_
      obtain ⟨r29, h29, h⟩ := oB_some h
      refine g_cV1 hC cv_X9_softnessOf wd_1530 ⟨Nat.le_of_ble_eq_true rfl, Nat.le_of_ble_eq_true rfl⟩ rfl (by decide) dX10_sounding_29 (As := [.int v3]) (st := [.int v2]) (ok_X9_softnessOf hC.2.2.2.2.2.2.2.1 (ob_73 hW.1) h29) rfl rfl (Nat.le_of_ble_eq_true rfl) ⟨Nat.zero_le _, Nat.zero_le _⟩ ?_
      refine g_aload_n hC dX10_sounding_32 rfl (q := 1) rfl ?_
      refine g_geti hC fd_RX10_53 hk1.2.1 hk1.1 (Or.inl rfl) dX10_sounding_33 ?_
      refine g_ic_ge hC dX10_sounding_36 (tgt := 43) (by decide) (fun c36 => ?_) (fun c36 => ?_)
      · replace h := (if_pos c36).symm.trans h
        refine g_iconst hC dX10_sounding_43 (v := (0 : Int32)) (by decide) ?_
        refine g_iadd hC dX10_sounding_44 ?_
        refine g_istore_n hC dX10_sounding_45 rfl rfl (by decide) (lv' := [(2, .int (v2 + (0 : Int32))), (0, .ref (mB E + 72)), (1, .ref (mB E + k1)), (3, .int v3)]) rfl ?_
        refine g_iinc hC dX10_sounding_46 rfl (q := 3) rfl (w := (v3 + (1 : Int32))) rfl (by decide) (lv' := [(3, .int (v3 + (1 : Int32))), (2, .int (v2 + (0 : Int32))), (0, .ref (mB E + 72)), (1, .ref (mB E + k1))]) rfl ?_
        refine g_goto hC dX10_sounding_49 (tgt := 4) (by decide) ?_
        refine g_lv [2, 3, 1, 0] rfl ?_
        exact hk4_ (v2 + (0 : Int32)) (v3 + (1 : Int32)) h
      · replace h := (if_neg c36).symm.trans h
        refine g_iconst hC dX10_sounding_39 (v := (1 : Int32)) (by decide) ?_
        refine g_goto hC dX10_sounding_40 (tgt := 44) (by decide) ?_
        refine g_iadd hC dX10_sounding_44 ?_
        refine g_istore_n hC dX10_sounding_45 rfl rfl (by decide) (lv' := [(2, .int (v2 + (1 : Int32))), (0, .ref (mB E + 72)), (1, .ref (mB E + k1)), (3, .int v3)]) rfl ?_
        refine g_iinc hC dX10_sounding_46 rfl (q := 3) rfl (w := (v3 + (1 : Int32))) rfl (by decide) (lv' := [(3, .int (v3 + (1 : Int32))), (2, .int (v2 + (1 : Int32))), (0, .ref (mB E + 72)), (1, .ref (mB E + k1))]) rfl ?_
        refine g_goto hC dX10_sounding_49 (tgt := 4) (by decide) ?_
        refine g_lv [2, 3, 1, 0] rfl ?_
        exact hk4_ (v2 + (1 : Int32)) (v3 + (1 : Int32)) h
noncomputable def w_X10_sounding_4 (Fu : Nat) (I : mIT) (k1 : Nat)  (N : Nat) (v2 : Int32) (v3 : Int32) : Option (Int32) :=
  loopF (fun self (s : Int32 × Int32) => b_X10_sounding_4 Fu I k1 self s.1 s.2) N (v2, v3)
theorem wo_X10_sounding_4 {X : mXT} {E : mEn} {Fu : Nat} {I : mIT} {R : mRT} {L : mLT} {k1 : Nat} (hC : mC X E mX10_sounding RX10 cX10_sounding) (hW : mWd R) (hk1 : mO5 R k1)  {out : Int32} (hE : mEd X E 0 0 (mSame (some (.int (out))) 106 1 I R L))  (N : Nat) (v2 : Int32) (v3 : Int32) (h : w_X10_sounding_4 Fu I k1  N v2 v3 = some out) : mG X E 4 [(0, .ref (mB E + 72)), (1, .ref (mB E + k1)), (2, .int v2), (3, .int v3)] [] 106 1 I R L 0 0 :=
  loopF_ok (Gd := fun s : Int32 × Int32 => mG X E 4 [(0, .ref (mB E + 72)), (1, .ref (mB E + k1)), (2, .int s.1), (3, .int s.2)] [] 106 1 I R L 0 0) (fun self hs s h => bo_X10_sounding_4 hC hW hk1 hE self (fun v2 v3 h => hs (v2, v3) h) s.1 s.2 h) N (v2, v3) h
noncomputable def f_X10_sounding (Fu : Nat) (I : mIT) (k1 : Nat) : Option (Int32) :=
  w_X10_sounding_4 Fu I k1 Fu (0 : Int32) (0 : Int32)
set_option maxRecDepth 20000 in
theorem ok_X10_sounding {l : Launch} {E : mEn} {Fu : Nat} {I : mIT} {R : mRT} {L : mLT} {k1 : Nat} (hst : l.stackTraces = false) (hW : mWd R) (hk1 : mO5 R k1) {out : Int32} (h : f_X10_sounding Fu I k1 = some out) : mOk l E mX10_sounding [.ref (mB E + 72), .ref (mB E + k1)] 106 1 I R L 0 0 (mSame (some (.int (out))) 106 1 I R L) := by
  refine mOk_of hst (by decide) (Nat.le_of_ble_eq_true rfl) (fun X hC hE _ => ?_)
  have hC : mC X E mX10_sounding RX10 cX10_sounding := hC
  show mG X E 0 [(0, .ref (mB E + 72)), (1, .ref (mB E + k1))] [] 106 1 I R L 0 0
  unfold f_X10_sounding at h
  refine g_iconst hC dX10_sounding_0 (v := (0 : Int32)) (by decide) ?_
  refine g_istore_n hC dX10_sounding_1 rfl rfl (by decide) (lv' := [(2, .int (0 : Int32)), (0, .ref (mB E + 72)), (1, .ref (mB E + k1))]) rfl ?_
  refine g_iconst hC dX10_sounding_2 (v := (0 : Int32)) (by decide) ?_
  refine g_istore_n hC dX10_sounding_3 rfl rfl (by decide) (lv' := [(3, .int (0 : Int32)), (2, .int (0 : Int32)), (0, .ref (mB E + 72)), (1, .ref (mB E + k1))]) rfl ?_
  refine g_lv [2, 3, 1, 0] rfl ?_
  exact wo_X10_sounding_4 hC hW hk1 hE Fu ((0 : Int32)) ((0 : Int32)) h
noncomputable def f_X11_isChangeNumber (Fu : Nat)  (v0 : Int32) : Option (Int32) :=
  if v0 < 0 then (some (0 : Int32)) else (if (32 : Int32) ≤ v0 then (some (0 : Int32)) else (if (v0 &&& (v0 >>> ((1 : Int32) &&& 31))) = 0 then (some (1 : Int32)) else (some (0 : Int32))))
set_option maxRecDepth 20000 in
theorem ok_X11_isChangeNumber {l : Launch} {E : mEn} {Fu : Nat} {I : mIT} {R : mRT} {L : mLT} {v0 : Int32} (hst : l.stackTraces = false)  {out : Int32} (h : f_X11_isChangeNumber Fu  v0 = some out) : mOk l E mX11_isChangeNumber [.int v0] 106 1 I R L 0 0 (mSame (some (.int (out))) 106 1 I R L) := by
  refine mOk_of hst (by decide) (Nat.le_of_ble_eq_true rfl) (fun X hC hE _ => ?_)
  have hC : mC X E mX11_isChangeNumber RX11 cX11_isChangeNumber := hC
  show mG X E 0 [(0, .int v0)] [] 106 1 I R L 0 0
  unfold f_X11_isChangeNumber at h
  refine g_iload_n hC dX11_isChangeNumber_0 rfl (q := 0) rfl ?_
  refine g_if_lt hC dX11_isChangeNumber_1 (tgt := 22) (by decide) (fun c1 => ?_) (fun c1 => ?_)
  · replace h := (if_pos c1).symm.trans h
    refine g_iconst hC dX11_isChangeNumber_22 (v := (0 : Int32)) (by decide) ?_
    cases h
    exact g_zret hC (by decide) hE rfl dX11_isChangeNumber_23 (Nat.zero_le _) (Nat.zero_le _) ⟨rfl, rfl, rfl, rfl, rfl, rfl⟩
  · replace h := (if_neg c1).symm.trans h
    refine g_iload_n hC dX11_isChangeNumber_4 rfl (q := 0) rfl ?_
    refine g_bipush hC dX11_isChangeNumber_5 (v := (32 : Int32)) (by decide) ?_
    refine g_ic_ge hC dX11_isChangeNumber_7 (tgt := 22) (by decide) (fun c7 => ?_) (fun c7 => ?_)
    · replace h := (if_pos c7).symm.trans h
      refine g_iconst hC dX11_isChangeNumber_22 (v := (0 : Int32)) (by decide) ?_
      cases h
      exact g_zret hC (by decide) hE rfl dX11_isChangeNumber_23 (Nat.zero_le _) (Nat.zero_le _) ⟨rfl, rfl, rfl, rfl, rfl, rfl⟩
    · replace h := (if_neg c7).symm.trans h
      refine g_iload_n hC dX11_isChangeNumber_10 rfl (q := 0) rfl ?_
      refine g_iload_n hC dX11_isChangeNumber_11 rfl (q := 0) rfl ?_
      refine g_iconst hC dX11_isChangeNumber_12 (v := (1 : Int32)) (by decide) ?_
      refine g_ishr hC dX11_isChangeNumber_13 ?_
      refine g_iand hC dX11_isChangeNumber_14 ?_
      refine g_if_ne hC dX11_isChangeNumber_15 (tgt := 22) (by decide) (fun c15 => ?_) (fun c15 => ?_)
      · replace h := (if_neg c15).symm.trans h
        refine g_iconst hC dX11_isChangeNumber_22 (v := (0 : Int32)) (by decide) ?_
        cases h
        exact g_zret hC (by decide) hE rfl dX11_isChangeNumber_23 (Nat.zero_le _) (Nat.zero_le _) ⟨rfl, rfl, rfl, rfl, rfl, rfl⟩
      · replace h := (if_pos c15).symm.trans h
        refine g_iconst hC dX11_isChangeNumber_18 (v := (1 : Int32)) (by decide) ?_
        refine g_goto hC dX11_isChangeNumber_19 (tgt := 23) (by decide) ?_
        cases h
        exact g_zret hC (by decide) hE rfl dX11_isChangeNumber_23 (Nat.zero_le _) (Nat.zero_le _) ⟨rfl, rfl, rfl, rfl, rfl, rfl⟩
noncomputable def f_X9_changeAt (Fu : Nat) (I : mIT) (k0 : Nat) (v1 : Int32) : Option (Int32) :=
  oB (f_X9_cell Fu I k0 (41 : Int32) v1) (fun r4 => some (r4))
set_option maxRecDepth 20000 in
theorem ok_X9_changeAt {l : Launch} {E : mEn} {Fu : Nat} {I : mIT} {R : mRT} {L : mLT} {k0 : Nat} {v1 : Int32} (hst : l.stackTraces = false) (hk0 : mO9 R k0) {out : Int32} (h : f_X9_changeAt Fu I k0 v1 = some out) : mOk l E mX9_changeAt [.ref (mB E + k0), .int v1] 106 1 I R L 0 0 (mSame (some (.int (out))) 106 1 I R L) := by
  refine mOk_of hst (by decide) (Nat.le_of_ble_eq_true rfl) (fun X hC hE _ => ?_)
  have hC : mC X E mX9_changeAt RX9 cX9_changeAt := hC
  show mG X E 0 [(0, .ref (mB E + k0)), (1, .int v1)] [] 106 1 I R L 0 0
  unfold f_X9_changeAt at h
  refine g_aload_n hC dX9_changeAt_0 rfl (q := 0) rfl ?_
  refine g_bipush hC dX9_changeAt_1 (v := (41 : Int32)) (by decide) ?_
  refine g_iload_n hC dX9_changeAt_3 rfl (q := 1) rfl ?_
  obtain ⟨r4, h4, h⟩ := oB_some h
  refine g_cV1 hC cv_X9_cell wd_543 ⟨Nat.le_of_ble_eq_true rfl, Nat.le_of_ble_eq_true rfl⟩ hk0.2.1 hk0.1 dX9_changeAt_4 (As := [.int (41 : Int32), .int v1]) (st := []) (ok_X9_cell hC.2.2.2.2.2.2.2.1 hk0 h4) rfl rfl (Nat.le_of_ble_eq_true rfl) ⟨Nat.zero_le _, Nat.zero_le _⟩ ?_
  cases h
  exact g_iret hC hE rfl dX9_changeAt_7 (Nat.zero_le _) (Nat.zero_le _) ⟨rfl, rfl, rfl, rfl, rfl, rfl⟩
noncomputable def f_X1_clear (Fu : Nat) (I : mIT)  : Option (mIT) :=
  some (mU I 56 4 (0 : Int32))
set_option maxRecDepth 20000 in
theorem ok_X1_clear {l : Launch} {E : mEn} {Fu : Nat} {I : mIT} {R : mRT} {L : mLT}  (hst : l.stackTraces = false) (hW : mWd R)  {out : mIT} (h : f_X1_clear Fu I  = some out) : mOk l E mX1_clear [.ref (mB E + 56)] 106 1 I R L 0 0 (mSame none 106 1 (out) R L) := by
  refine mOk_of hst (by decide) (Nat.le_of_ble_eq_true rfl) (fun X hC hE _ => ?_)
  have hC : mC X E mX1_clear RX1 cX1_clear := hC
  show mG X E 0 [(0, .ref (mB E + 56))] [] 106 1 I R L 0 0
  unfold f_X1_clear at h
  refine g_aload_n hC dX1_clear_0 rfl (q := 0) rfl ?_
  refine g_iconst hC dX1_clear_1 (v := (0 : Int32)) (by decide) ?_
  refine g_puti hC fd_RX1_28 rfl (by decide) rfl dX1_clear_2 (nm_e ?_)
  cases h
  exact g_vret hC hE rfl dX1_clear_5 (Nat.zero_le _) (Nat.zero_le _) ⟨rfl, rfl, rfl, rfl, rfl, rfl⟩
noncomputable def f_X2_clear (Fu : Nat) (I : mIT)  : Option (mIT) :=
  some (mU I 66 4 (0 : Int32))
set_option maxRecDepth 20000 in
theorem ok_X2_clear {l : Launch} {E : mEn} {Fu : Nat} {I : mIT} {R : mRT} {L : mLT}  (hst : l.stackTraces = false) (hW : mWd R)  {out : mIT} (h : f_X2_clear Fu I  = some out) : mOk l E mX2_clear [.ref (mB E + 66)] 106 1 I R L 0 0 (mSame none 106 1 (out) R L) := by
  refine mOk_of hst (by decide) (Nat.le_of_ble_eq_true rfl) (fun X hC hE _ => ?_)
  have hC : mC X E mX2_clear RX2 cX2_clear := hC
  show mG X E 0 [(0, .ref (mB E + 66))] [] 106 1 I R L 0 0
  unfold f_X2_clear at h
  refine g_aload_n hC dX2_clear_0 rfl (q := 0) rfl ?_
  refine g_iconst hC dX2_clear_1 (v := (0 : Int32)) (by decide) ?_
  refine g_putz hC (by decide) fd_RX2_25 rfl (by decide) rfl dX2_clear_2 (nm_e ?_)
  cases h
  exact g_vret hC hE rfl dX2_clear_5 (Nat.zero_le _) (Nat.zero_le _) ⟨rfl, rfl, rfl, rfl, rfl, rfl⟩
noncomputable def f_X9_setChange (Fu : Nat) (I : mIT) (k0 : Nat) (v1 : Int32) (v2 : Int32) : Option (mIT) :=
  oB (f_X9_setCell Fu I k0 (41 : Int32) v1 v2) (fun r5 => some (r5))
set_option maxRecDepth 20000 in
theorem ok_X9_setChange {l : Launch} {E : mEn} {Fu : Nat} {I : mIT} {R : mRT} {L : mLT} {k0 : Nat} {v1 : Int32} {v2 : Int32} (hst : l.stackTraces = false) (hk0 : mO9 R k0) {out : mIT} (h : f_X9_setChange Fu I k0 v1 v2 = some out) : mOk l E mX9_setChange [.ref (mB E + k0), .int v1, .int v2] 106 1 I R L 0 0 (mSame none 106 1 (out) R L) := by
  refine mOk_of hst (by decide) (Nat.le_of_ble_eq_true rfl) (fun X hC hE _ => ?_)
  have hC : mC X E mX9_setChange RX9 cX9_setChange := hC
  show mG X E 0 [(0, .ref (mB E + k0)), (1, .int v1), (2, .int v2)] [] 106 1 I R L 0 0
  unfold f_X9_setChange at h
  refine g_aload_n hC dX9_setChange_0 rfl (q := 0) rfl ?_
  refine g_bipush hC dX9_setChange_1 (v := (41 : Int32)) (by decide) ?_
  refine g_iload_n hC dX9_setChange_3 rfl (q := 1) rfl ?_
  refine g_iload_n hC dX9_setChange_4 rfl (q := 2) rfl ?_
  obtain ⟨r5, h5, h⟩ := oB_some h
  refine g_cV0 hC cv_X9_setCell wd_636 ⟨Nat.le_of_ble_eq_true rfl, Nat.le_of_ble_eq_true rfl⟩ hk0.2.1 hk0.1 dX9_setChange_5 (As := [.int (41 : Int32), .int v1, .int v2]) (st := []) (ok_X9_setCell hC.2.2.2.2.2.2.2.1 hk0 h5) rfl rfl (Nat.le_of_ble_eq_true rfl) ⟨Nat.zero_le _, Nat.zero_le _⟩ ?_
  cases h
  exact g_vret hC hE rfl dX9_setChange_8 (Nat.zero_le _) (Nat.zero_le _) ⟨rfl, rfl, rfl, rfl, rfl, rfl⟩
noncomputable def b_X9_rootOn_2 (Fu : Nat) (I : mIT) (k0 : Nat) (k2_ : Int32 × Int32 × Int32 → Option (Int32)) (v1 : Int32) (v2 : Int32) (v3 : Int32) : Option (Int32) :=
  if v2 ≤ v3 then (some (-1 : Int32)) else (oB (f_X9_placeOf Fu I k0 v3) (fun r9 => if r9 = v1 then (some (v3)) else (k2_ (v1, v2, (v3 + (1 : Int32))))))
set_option maxRecDepth 20000 in
theorem bo_X9_rootOn_2 {X : mXT} {E : mEn} {Fu : Nat} {I : mIT} {R : mRT} {L : mLT} {k0 : Nat} (hC : mC X E mX9_rootOn RX9 cX9_rootOn) (hk0 : mO9 R k0)  {out : Int32} (hE : mEd X E 0 0 (mSame (some (.int (out))) 106 1 I R L)) (k2_ : Int32 × Int32 × Int32 → Option (Int32)) (hk2_ : ∀ (v1 : Int32) (v2 : Int32) (v3 : Int32),  k2_ (v1, v2, v3) = some out → mG X E 2 [(0, .ref (mB E + k0)), (1, .int v1), (2, .int v2), (3, .int v3)] [] 106 1 I R L 0 0) (v1 : Int32) (v2 : Int32) (v3 : Int32) (h : b_X9_rootOn_2 Fu I k0 k2_ v1 v2 v3 = some out) : mG X E 2 [(0, .ref (mB E + k0)), (1, .int v1), (2, .int v2), (3, .int v3)] [] 106 1 I R L 0 0 := by
  unfold b_X9_rootOn_2 at h
  refine g_iload_n hC dX9_rootOn_2 rfl (q := 3) rfl ?_
  refine g_iload_n hC dX9_rootOn_3 rfl (q := 2) rfl ?_
  refine g_ic_ge hC dX9_rootOn_4 (tgt := 24) (by decide) (fun c4 => ?_) (fun c4 => ?_)
  · replace h := (if_pos c4).symm.trans h
    refine g_iconst hC dX9_rootOn_24 (v := (-1 : Int32)) (by decide) ?_
    cases h
    exact g_iret hC hE rfl dX9_rootOn_25 (Nat.zero_le _) (Nat.zero_le _) ⟨rfl, rfl, rfl, rfl, rfl, rfl⟩
  · replace h := (if_neg c4).symm.trans h
    refine g_aload_n hC dX9_rootOn_7 rfl (q := 0) rfl ?_
    refine g_iload_n hC dX9_rootOn_8 rfl (q := 3) rfl ?_
    obtain ⟨r9, h9, h⟩ := oB_some h
    refine g_cV1 hC cv_X9_placeOf wd_586 ⟨Nat.le_of_ble_eq_true rfl, Nat.le_of_ble_eq_true rfl⟩ hk0.2.1 hk0.1 dX9_rootOn_9 (As := [.int v3]) (st := []) (ok_X9_placeOf hC.2.2.2.2.2.2.2.1 hk0 h9) rfl rfl (Nat.le_of_ble_eq_true rfl) ⟨Nat.zero_le _, Nat.zero_le _⟩ ?_
    refine g_iload_n hC dX9_rootOn_12 rfl (q := 1) rfl ?_
    refine g_ic_ne hC dX9_rootOn_13 (tgt := 18) (by decide) (fun c13 => ?_) (fun c13 => ?_)
    · replace h := (if_neg c13).symm.trans h
      refine g_iinc hC dX9_rootOn_18 rfl (q := 3) rfl (w := (v3 + (1 : Int32))) rfl (by decide) (lv' := [(3, .int (v3 + (1 : Int32))), (0, .ref (mB E + k0)), (1, .int v1), (2, .int v2)]) rfl ?_
      refine g_goto hC dX9_rootOn_21 (tgt := 2) (by decide) ?_
      refine g_lv [1, 2, 3, 0] rfl ?_
      exact hk2_ v1 v2 (v3 + (1 : Int32)) h
    · replace h := (if_pos c13).symm.trans h
      refine g_iload_n hC dX9_rootOn_16 rfl (q := 3) rfl ?_
      cases h
      exact g_iret hC hE rfl dX9_rootOn_17 (Nat.zero_le _) (Nat.zero_le _) ⟨rfl, rfl, rfl, rfl, rfl, rfl⟩
noncomputable def w_X9_rootOn_2 (Fu : Nat) (I : mIT) (k0 : Nat)  (N : Nat) (v1 : Int32) (v2 : Int32) (v3 : Int32) : Option (Int32) :=
  loopF (fun self (s : Int32 × Int32 × Int32) => b_X9_rootOn_2 Fu I k0 self s.1 s.2.1 s.2.2) N (v1, v2, v3)
theorem wo_X9_rootOn_2 {X : mXT} {E : mEn} {Fu : Nat} {I : mIT} {R : mRT} {L : mLT} {k0 : Nat} (hC : mC X E mX9_rootOn RX9 cX9_rootOn) (hk0 : mO9 R k0)  {out : Int32} (hE : mEd X E 0 0 (mSame (some (.int (out))) 106 1 I R L))  (N : Nat) (v1 : Int32) (v2 : Int32) (v3 : Int32) (h : w_X9_rootOn_2 Fu I k0  N v1 v2 v3 = some out) : mG X E 2 [(0, .ref (mB E + k0)), (1, .int v1), (2, .int v2), (3, .int v3)] [] 106 1 I R L 0 0 :=
  loopF_ok (Gd := fun s : Int32 × Int32 × Int32 => mG X E 2 [(0, .ref (mB E + k0)), (1, .int s.1), (2, .int s.2.1), (3, .int s.2.2)] [] 106 1 I R L 0 0) (fun self hs s h => bo_X9_rootOn_2 hC hk0 hE self (fun v1 v2 v3 h => hs (v1, v2, v3) h) s.1 s.2.1 s.2.2 h) N (v1, v2, v3) h
noncomputable def f_X9_rootOn (Fu : Nat) (I : mIT) (k0 : Nat) (v1 : Int32) (v2 : Int32) : Option (Int32) :=
  w_X9_rootOn_2 Fu I k0 Fu v1 v2 (0 : Int32)
set_option maxRecDepth 20000 in
theorem ok_X9_rootOn {l : Launch} {E : mEn} {Fu : Nat} {I : mIT} {R : mRT} {L : mLT} {k0 : Nat} {v1 : Int32} {v2 : Int32} (hst : l.stackTraces = false) (hk0 : mO9 R k0) {out : Int32} (h : f_X9_rootOn Fu I k0 v1 v2 = some out) : mOk l E mX9_rootOn [.ref (mB E + k0), .int v1, .int v2] 106 1 I R L 0 0 (mSame (some (.int (out))) 106 1 I R L) := by
  refine mOk_of hst (by decide) (Nat.le_of_ble_eq_true rfl) (fun X hC hE _ => ?_)
  have hC : mC X E mX9_rootOn RX9 cX9_rootOn := hC
  show mG X E 0 [(0, .ref (mB E + k0)), (1, .int v1), (2, .int v2)] [] 106 1 I R L 0 0
  unfold f_X9_rootOn at h
  refine g_iconst hC dX9_rootOn_0 (v := (0 : Int32)) (by decide) ?_
  refine g_istore_n hC dX9_rootOn_1 rfl rfl (by decide) (lv' := [(3, .int (0 : Int32)), (0, .ref (mB E + k0)), (1, .int v1), (2, .int v2)]) rfl ?_
  refine g_lv [1, 2, 3, 0] rfl ?_
  exact wo_X9_rootOn_2 hC hk0 hE Fu (v1) (v2) ((0 : Int32)) h
noncomputable def b_X7_load_86 (Fu : Nat) (k1 : Nat) (k2 : Nat) (k86_ : Int32 × mIT → Option (mIT)) (v3 : Int32) (I : mIT) : Option (mIT) :=
  if (nI 12) ≤ v3 then (some (I)) else (oB (f_X9_changeAt Fu I k2 v3) (fun r102 => oG (inB v3 12) (k86_ ((v3 + (1 : Int32)), (mU I 64 (v3).toNatClampNeg r102)))))
set_option maxRecDepth 20000 in
theorem bo_X7_load_86 {X : mXT} {E : mEn} {Fu : Nat} {R : mRT} {L : mLT} {k1 : Nat} {k2 : Nat} (hC : mC X E mX7_load RX7 cX7_load) (hW : mWd R) (hk1 : mO5 R k1) (hk2 : mO9 R k2)  {out : mIT} (hE : mEd X E 0 0 (mSame none 106 1 (out) R L)) (k86_ : Int32 × mIT → Option (mIT)) (hk86_ : ∀ (v3 : Int32) (I : mIT),  k86_ (v3, I) = some out → mG X E 86 [(0, .ref (mB E + 62)), (2, .ref (mB E + k2)), (3, .int v3)] [] 106 1 I R L 0 0) (v3 : Int32) (I : mIT) (h : b_X7_load_86 Fu k1 k2 k86_ v3 I = some out) : mG X E 86 [(0, .ref (mB E + 62)), (2, .ref (mB E + k2)), (3, .int v3)] [] 106 1 I R L 0 0 := by
  unfold b_X7_load_86 at h
  refine g_iload_n hC dX7_load_86 rfl (q := 2) rfl ?_
  refine g_aload_n hC dX7_load_87 rfl (q := 0) rfl ?_
  refine g_getr hC fd_RX7_15 rfl (by decide) (C0 := "") (t0 := _) (Or.inr rfl) (rr_62_1 hW.1) dX7_load_88 ?_
  refine g_alenI hC rfl (by decide) dX7_load_91 ?_
  refine g_ic_ge hC dX7_load_92 (tgt := 112) (by decide) (fun c92 => ?_) (fun c92 => ?_)
  · replace h := (if_pos c92).symm.trans h
    cases h
    exact g_vret hC hE rfl dX7_load_112 (Nat.zero_le _) (Nat.zero_le _) ⟨rfl, rfl, rfl, rfl, rfl, rfl⟩
  · replace h := (if_neg c92).symm.trans h
    refine g_aload_n hC dX7_load_95 rfl (q := 0) rfl ?_
    refine g_getr hC fd_RX7_15 rfl (by decide) (C0 := "") (t0 := _) (Or.inr rfl) (rr_62_1 hW.1) dX7_load_96 ?_
    refine g_iload_n hC dX7_load_99 rfl (q := 2) rfl ?_
    refine g_aload_n hC dX7_load_100 rfl (q := 1) rfl ?_
    refine g_iload_n hC dX7_load_101 rfl (q := 2) rfl ?_
    obtain ⟨r102, h102, h⟩ := oB_some h
    refine g_cV1 hC cv_X9_changeAt wd_732 ⟨Nat.le_of_ble_eq_true rfl, Nat.le_of_ble_eq_true rfl⟩ hk2.2.1 hk2.1 dX7_load_102 (As := [.int v3]) (st := [.int v3, .ref (mB E + 64)]) (ok_X9_changeAt hC.2.2.2.2.2.2.2.1 hk2 h102) rfl rfl (Nat.le_of_ble_eq_true rfl) ⟨Nat.zero_le _, Nat.zero_le _⟩ ?_
    obtain ⟨g105, h⟩ := oG_some h
    refine g_iast hC rfl (by decide) (inB_in g105) dX7_load_105 (nm_e ?_)
    refine g_iinc hC dX7_load_106 rfl (q := 2) rfl (w := (v3 + (1 : Int32))) rfl (by decide) (lv' := [(3, .int (v3 + (1 : Int32))), (0, .ref (mB E + 62)), (2, .ref (mB E + k2))]) rfl ?_
    refine g_goto hC dX7_load_109 (tgt := 86) (by decide) ?_
    refine g_lv [1, 2, 0] rfl ?_
    exact hk86_ (v3 + (1 : Int32)) (mU I 64 (v3).toNatClampNeg r102) h
noncomputable def w_X7_load_86 (Fu : Nat) (k1 : Nat) (k2 : Nat)  (N : Nat) (v3 : Int32) (I : mIT) : Option (mIT) :=
  loopF (fun self (s : Int32 × mIT) => b_X7_load_86 Fu k1 k2 self s.1 s.2) N (v3, I)
theorem wo_X7_load_86 {X : mXT} {E : mEn} {Fu : Nat} {R : mRT} {L : mLT} {k1 : Nat} {k2 : Nat} (hC : mC X E mX7_load RX7 cX7_load) (hW : mWd R) (hk1 : mO5 R k1) (hk2 : mO9 R k2)  {out : mIT} (hE : mEd X E 0 0 (mSame none 106 1 (out) R L))  (N : Nat) (v3 : Int32) (I : mIT) (h : w_X7_load_86 Fu k1 k2  N v3 I = some out) : mG X E 86 [(0, .ref (mB E + 62)), (2, .ref (mB E + k2)), (3, .int v3)] [] 106 1 I R L 0 0 :=
  loopF_ok (Gd := fun s : Int32 × mIT => mG X E 86 [(0, .ref (mB E + 62)), (2, .ref (mB E + k2)), (3, .int s.1)] [] 106 1 s.2 R L 0 0) (fun self hs s h => bo_X7_load_86 hC hW hk1 hk2 hE self (fun v3 I h => hs (v3, I) h) s.1 s.2 h) N (v3, I) h
noncomputable def b_X7_load_7 (Fu : Nat) (k1 : Nat) (k2 : Nat) (k7_ : Int32 × mIT → Option (mIT)) (v3 : Int32) (I : mIT) : Option (mIT) :=
  if (6 : Int32) ≤ v3 then (w_X7_load_86 Fu k1 k2 Fu (0 : Int32) (mU I 62 4 (I k1 8))) else (oB (f_X9_rootOn Fu I k2 v3 (I k1 3)) (fun r19 => if r19 = (-1 : Int32) then (k7_ ((v3 + (1 : Int32)), I)) else (if (I 62 3) < 0 then (k7_ ((v3 + (1 : Int32)), I)) else (if (nI 6) ≤ (I 62 3) then (k7_ ((v3 + (1 : Int32)), I)) else (oG (inB (I 62 3) 6) (k7_ ((v3 + (1 : Int32)), (mU (mU I 63 ((I 62 3)).toNatClampNeg r19) 62 3 (((mU I 63 ((I 62 3)).toNatClampNeg r19) 62 3) + (1 : Int32))))))))))
set_option maxRecDepth 20000 in
theorem bo_X7_load_7 {X : mXT} {E : mEn} {Fu : Nat} {R : mRT} {L : mLT} {k1 : Nat} {k2 : Nat} (hC : mC X E mX7_load RX7 cX7_load) (hW : mWd R) (hk1 : mO5 R k1) (hk2 : mO9 R k2)  {out : mIT} (hE : mEd X E 0 0 (mSame none 106 1 (out) R L)) (k7_ : Int32 × mIT → Option (mIT)) (hk7_ : ∀ (v3 : Int32) (I : mIT),  k7_ (v3, I) = some out → mG X E 7 [(0, .ref (mB E + 62)), (1, .ref (mB E + k1)), (2, .ref (mB E + k2)), (3, .int v3)] [] 106 1 I R L 0 0) (v3 : Int32) (I : mIT) (h : b_X7_load_7 Fu k1 k2 k7_ v3 I = some out) : mG X E 7 [(0, .ref (mB E + 62)), (1, .ref (mB E + k1)), (2, .ref (mB E + k2)), (3, .int v3)] [] 106 1 I R L 0 0 := by
  unfold b_X7_load_7 at h
  refine g_iload_n hC dX7_load_7 rfl (q := 3) rfl ?_
  refine g_bipush hC dX7_load_8 (v := (6 : Int32)) (by decide) ?_
  refine g_ic_ge hC dX7_load_10 (tgt := 76) (by decide) (fun c10 => ?_) (fun c10 => ?_)
  · replace h := (if_pos c10).symm.trans h
    refine g_aload_n hC dX7_load_76 rfl (q := 0) rfl ?_
    refine g_aload_n hC dX7_load_77 rfl (q := 1) rfl ?_
    refine g_geti hC fd_RX7_39 hk1.2.1 hk1.1 (Or.inl rfl) dX7_load_78 ?_
    refine g_puti hC fd_RX7_25 rfl (by decide) rfl dX7_load_81 (nm_e ?_)
    refine g_iconst hC dX7_load_84 (v := (0 : Int32)) (by decide) ?_
    refine g_istore_n hC dX7_load_85 rfl rfl (by decide) (lv' := [(3, .int (0 : Int32)), (0, .ref (mB E + 62)), (1, .ref (mB E + k1)), (2, .ref (mB E + k2))]) rfl ?_
    refine g_lv [1, 3, 0] rfl ?_
    exact wo_X7_load_86 hC hW hk1 hk2 hE Fu ((0 : Int32)) ((mU I 62 4 (I k1 8))) h
  · replace h := (if_neg c10).symm.trans h
    refine g_aload_n hC dX7_load_13 rfl (q := 2) rfl ?_
    refine g_iload_n hC dX7_load_14 rfl (q := 3) rfl ?_
    refine g_aload_n hC dX7_load_15 rfl (q := 1) rfl ?_
    refine g_geti hC fd_RX7_28 hk1.2.1 hk1.1 (Or.inl rfl) dX7_load_16 ?_
    obtain ⟨r19, h19, h⟩ := oB_some h
    refine g_cV1 hC cv_X9_rootOn wd_728 ⟨Nat.le_of_ble_eq_true rfl, Nat.le_of_ble_eq_true rfl⟩ hk2.2.1 hk2.1 dX7_load_19 (As := [.int v3, .int (I k1 3)]) (st := []) (ok_X9_rootOn hC.2.2.2.2.2.2.2.1 hk2 h19) rfl rfl (Nat.le_of_ble_eq_true rfl) ⟨Nat.zero_le _, Nat.zero_le _⟩ ?_
    refine g_istore hC dX7_load_22 rfl (by decide) (lv' := [(4, .int r19), (0, .ref (mB E + 62)), (1, .ref (mB E + k1)), (2, .ref (mB E + k2)), (3, .int v3)]) rfl ?_
    refine g_iload hC dX7_load_24 (q := 0) rfl ?_
    refine g_iconst hC dX7_load_26 (v := (-1 : Int32)) (by decide) ?_
    refine g_ic_eq hC dX7_load_27 (tgt := 70) (by decide) (fun c27 => ?_) (fun c27 => ?_)
    · replace h := (if_pos c27).symm.trans h
      refine g_iinc hC dX7_load_70 rfl (q := 4) rfl (w := (v3 + (1 : Int32))) rfl (by decide) (lv' := [(3, .int (v3 + (1 : Int32))), (4, .int r19), (0, .ref (mB E + 62)), (1, .ref (mB E + k1)), (2, .ref (mB E + k2))]) rfl ?_
      refine g_goto hC dX7_load_73 (tgt := 7) (by decide) ?_
      refine g_lv [2, 3, 4, 0] rfl ?_
      exact hk7_ (v3 + (1 : Int32)) I h
    · replace h := (if_neg c27).symm.trans h
      refine g_aload_n hC dX7_load_30 rfl (q := 1) rfl ?_
      refine g_geti hC fd_RX7_21 rfl (by decide) (Or.inl rfl) dX7_load_31 ?_
      refine g_if_lt hC dX7_load_34 (tgt := 70) (by decide) (fun c34 => ?_) (fun c34 => ?_)
      · replace h := (if_pos c34).symm.trans h
        refine g_iinc hC dX7_load_70 rfl (q := 4) rfl (w := (v3 + (1 : Int32))) rfl (by decide) (lv' := [(3, .int (v3 + (1 : Int32))), (4, .int r19), (0, .ref (mB E + 62)), (1, .ref (mB E + k1)), (2, .ref (mB E + k2))]) rfl ?_
        refine g_goto hC dX7_load_73 (tgt := 7) (by decide) ?_
        refine g_lv [2, 3, 4, 0] rfl ?_
        exact hk7_ (v3 + (1 : Int32)) I h
      · replace h := (if_neg c34).symm.trans h
        refine g_aload_n hC dX7_load_37 rfl (q := 1) rfl ?_
        refine g_geti hC fd_RX7_21 rfl (by decide) (Or.inl rfl) dX7_load_38 ?_
        refine g_aload_n hC dX7_load_41 rfl (q := 1) rfl ?_
        refine g_getr hC fd_RX7_9 rfl (by decide) (C0 := "") (t0 := _) (Or.inr rfl) (rr_62_0 hW.1) dX7_load_42 ?_
        refine g_alenI hC rfl (by decide) dX7_load_45 ?_
        refine g_ic_ge hC dX7_load_46 (tgt := 70) (by decide) (fun c46 => ?_) (fun c46 => ?_)
        · replace h := (if_pos c46).symm.trans h
          refine g_iinc hC dX7_load_70 rfl (q := 4) rfl (w := (v3 + (1 : Int32))) rfl (by decide) (lv' := [(3, .int (v3 + (1 : Int32))), (4, .int r19), (0, .ref (mB E + 62)), (1, .ref (mB E + k1)), (2, .ref (mB E + k2))]) rfl ?_
          refine g_goto hC dX7_load_73 (tgt := 7) (by decide) ?_
          refine g_lv [2, 3, 4, 0] rfl ?_
          exact hk7_ (v3 + (1 : Int32)) I h
        · replace h := (if_neg c46).symm.trans h
          refine g_aload_n hC dX7_load_49 rfl (q := 1) rfl ?_
          refine g_getr hC fd_RX7_9 rfl (by decide) (C0 := "") (t0 := _) (Or.inr rfl) (rr_62_0 hW.1) dX7_load_50 ?_
          refine g_aload_n hC dX7_load_53 rfl (q := 1) rfl ?_
          refine g_geti hC fd_RX7_21 rfl (by decide) (Or.inl rfl) dX7_load_54 ?_
          refine g_iload hC dX7_load_57 (q := 0) rfl ?_
          obtain ⟨g59, h⟩ := oG_some h
          refine g_iast hC rfl (by decide) (inB_in g59) dX7_load_59 (nm_e ?_)
          refine g_aload_n hC dX7_load_60 rfl (q := 1) rfl ?_
          refine g_dup hC dX7_load_61 rfl ?_
          refine g_geti hC fd_RX7_21 rfl (by decide) (Or.inl rfl) dX7_load_62 ?_
          refine g_iconst hC dX7_load_65 (v := (1 : Int32)) (by decide) ?_
          refine g_iadd hC dX7_load_66 ?_
          refine g_puti hC fd_RX7_21 rfl (by decide) rfl dX7_load_67 (nm_e ?_)
          refine g_iinc hC dX7_load_70 rfl (q := 4) rfl (w := (v3 + (1 : Int32))) rfl (by decide) (lv' := [(3, .int (v3 + (1 : Int32))), (4, .int r19), (0, .ref (mB E + 62)), (1, .ref (mB E + k1)), (2, .ref (mB E + k2))]) rfl ?_
          refine g_goto hC dX7_load_73 (tgt := 7) (by decide) ?_
          refine g_lv [2, 3, 4, 0] rfl ?_
          exact hk7_ (v3 + (1 : Int32)) (mU (mU I 63 ((I 62 3)).toNatClampNeg r19) 62 3 (((mU I 63 ((I 62 3)).toNatClampNeg r19) 62 3) + (1 : Int32))) h
noncomputable def w_X7_load_7 (Fu : Nat) (k1 : Nat) (k2 : Nat)  (N : Nat) (v3 : Int32) (I : mIT) : Option (mIT) :=
  loopF (fun self (s : Int32 × mIT) => b_X7_load_7 Fu k1 k2 self s.1 s.2) N (v3, I)
theorem wo_X7_load_7 {X : mXT} {E : mEn} {Fu : Nat} {R : mRT} {L : mLT} {k1 : Nat} {k2 : Nat} (hC : mC X E mX7_load RX7 cX7_load) (hW : mWd R) (hk1 : mO5 R k1) (hk2 : mO9 R k2)  {out : mIT} (hE : mEd X E 0 0 (mSame none 106 1 (out) R L))  (N : Nat) (v3 : Int32) (I : mIT) (h : w_X7_load_7 Fu k1 k2  N v3 I = some out) : mG X E 7 [(0, .ref (mB E + 62)), (1, .ref (mB E + k1)), (2, .ref (mB E + k2)), (3, .int v3)] [] 106 1 I R L 0 0 :=
  loopF_ok (Gd := fun s : Int32 × mIT => mG X E 7 [(0, .ref (mB E + 62)), (1, .ref (mB E + k1)), (2, .ref (mB E + k2)), (3, .int s.1)] [] 106 1 s.2 R L 0 0) (fun self hs s h => bo_X7_load_7 hC hW hk1 hk2 hE self (fun v3 I h => hs (v3, I) h) s.1 s.2 h) N (v3, I) h
noncomputable def f_X7_load (Fu : Nat) (I : mIT) (k1 : Nat) (k2 : Nat) : Option (mIT) :=
  w_X7_load_7 Fu k1 k2 Fu (0 : Int32) (mU I 62 3 (0 : Int32))
set_option maxRecDepth 20000 in
theorem ok_X7_load {l : Launch} {E : mEn} {Fu : Nat} {I : mIT} {R : mRT} {L : mLT} {k1 : Nat} {k2 : Nat} (hst : l.stackTraces = false) (hW : mWd R) (hk1 : mO5 R k1) (hk2 : mO9 R k2) {out : mIT} (h : f_X7_load Fu I k1 k2 = some out) : mOk l E mX7_load [.ref (mB E + 62), .ref (mB E + k1), .ref (mB E + k2)] 106 1 I R L 0 0 (mSame none 106 1 (out) R L) := by
  refine mOk_of hst (by decide) (Nat.le_of_ble_eq_true rfl) (fun X hC hE _ => ?_)
  have hC : mC X E mX7_load RX7 cX7_load := hC
  show mG X E 0 [(0, .ref (mB E + 62)), (1, .ref (mB E + k1)), (2, .ref (mB E + k2))] [] 106 1 I R L 0 0
  unfold f_X7_load at h
  refine g_aload_n hC dX7_load_0 rfl (q := 0) rfl ?_
  refine g_iconst hC dX7_load_1 (v := (0 : Int32)) (by decide) ?_
  refine g_puti hC fd_RX7_21 rfl (by decide) rfl dX7_load_2 (nm_e ?_)
  refine g_iconst hC dX7_load_5 (v := (0 : Int32)) (by decide) ?_
  refine g_istore_n hC dX7_load_6 rfl rfl (by decide) (lv' := [(3, .int (0 : Int32)), (0, .ref (mB E + 62)), (1, .ref (mB E + k1)), (2, .ref (mB E + k2))]) rfl ?_
  refine g_lv [1, 2, 3, 0] rfl ?_
  exact wo_X7_load_7 hC hW hk1 hk2 hE Fu ((0 : Int32)) ((mU I 62 3 (0 : Int32))) h
noncomputable def f_X7_bells (Fu : Nat) (I : mIT)  : Option (Int32) :=
  some (I 62 3)
set_option maxRecDepth 20000 in
theorem ok_X7_bells {l : Launch} {E : mEn} {Fu : Nat} {I : mIT} {R : mRT} {L : mLT}  (hst : l.stackTraces = false) (hW : mWd R)  {out : Int32} (h : f_X7_bells Fu I  = some out) : mOk l E mX7_bells [.ref (mB E + 62)] 106 1 I R L 0 0 (mSame (some (.int (out))) 106 1 I R L) := by
  refine mOk_of hst (by decide) (Nat.le_of_ble_eq_true rfl) (fun X hC hE _ => ?_)
  have hC : mC X E mX7_bells RX7 cX7_bells := hC
  show mG X E 0 [(0, .ref (mB E + 62))] [] 106 1 I R L 0 0
  unfold f_X7_bells at h
  refine g_aload_n hC dX7_bells_0 rfl (q := 0) rfl ?_
  refine g_geti hC fd_RX7_21 rfl (by decide) (Or.inl rfl) dX7_bells_1 ?_
  cases h
  exact g_iret hC hE rfl dX7_bells_4 (Nat.zero_le _) (Nat.zero_le _) ⟨rfl, rfl, rfl, rfl, rfl, rfl⟩
noncomputable def f_X7_bellAt (Fu : Nat)  (v0 : Int32) (v1 : Int32) : Option (Int32) :=
  some ((v0 >>> (((3 : Int32) * v1) &&& 31)) &&& (7 : Int32))
set_option maxRecDepth 20000 in
theorem ok_X7_bellAt {l : Launch} {E : mEn} {Fu : Nat} {I : mIT} {R : mRT} {L : mLT} {v0 : Int32} {v1 : Int32} (hst : l.stackTraces = false)  {out : Int32} (h : f_X7_bellAt Fu  v0 v1 = some out) : mOk l E mX7_bellAt [.int v0, .int v1] 106 1 I R L 0 0 (mSame (some (.int (out))) 106 1 I R L) := by
  refine mOk_of hst (by decide) (Nat.le_of_ble_eq_true rfl) (fun X hC hE _ => ?_)
  have hC : mC X E mX7_bellAt RX7 cX7_bellAt := hC
  show mG X E 0 [(0, .int v0), (1, .int v1)] [] 106 1 I R L 0 0
  unfold f_X7_bellAt at h
  refine g_iload_n hC dX7_bellAt_0 rfl (q := 0) rfl ?_
  refine g_iconst hC dX7_bellAt_1 (v := (3 : Int32)) (by decide) ?_
  refine g_iload_n hC dX7_bellAt_2 rfl (q := 1) rfl ?_
  refine g_imul hC dX7_bellAt_3 ?_
  refine g_ishr hC dX7_bellAt_4 ?_
  refine g_bipush hC dX7_bellAt_5 (v := (7 : Int32)) (by decide) ?_
  refine g_iand hC dX7_bellAt_7 ?_
  cases h
  exact g_iret hC hE rfl dX7_bellAt_8 (Nat.zero_le _) (Nat.zero_le _) ⟨rfl, rfl, rfl, rfl, rfl, rfl⟩
noncomputable def b_X7_behindOne_45 (Fu : Nat) (I : mIT) (k45_ : Int32 × Int32 × Int32 → Option (Int32)) (v3 : Int32) (v4 : Int32) (v5 : Int32) : Option (Int32) :=
  if (I 62 3) ≤ (v5 + (1 : Int32)) then (some (v4)) else (if ((v3 >>> (v5 &&& 31)) &&& (1 : Int32)) = (1 : Int32) then (oB (f_X7_bellAt Fu v4 v5) (fun r70 => oB (f_X7_bellAt Fu v4 (v5 + (1 : Int32))) (fun r79 => k45_ (v3, (v4 ^^^ (((r70 ^^^ r79) ||| ((r70 ^^^ r79) <<< ((3 : Int32) &&& 31))) <<< (((3 : Int32) * v5) &&& 31))), (v5 + (1 : Int32)))))) else (k45_ (v3, v4, (v5 + (1 : Int32)))))
set_option maxRecDepth 20000 in
theorem bo_X7_behindOne_45 {X : mXT} {E : mEn} {Fu : Nat} {I : mIT} {R : mRT} {L : mLT}  (hC : mC X E mX7_behindOne RX7 cX7_behindOne) (hW : mWd R)   {out : Int32} (hE : mEd X E 0 0 (mSame (some (.int (out))) 106 1 I R L)) (k45_ : Int32 × Int32 × Int32 → Option (Int32)) (hk45_ : ∀ (v3 : Int32) (v4 : Int32) (v5 : Int32),  k45_ (v3, v4, v5) = some out → mG X E 45 [(0, .ref (mB E + 62)), (3, .int v3), (4, .int v4), (5, .int v5)] [] 106 1 I R L 0 0) (v3 : Int32) (v4 : Int32) (v5 : Int32) (h : b_X7_behindOne_45 Fu I k45_ v3 v4 v5 = some out) : mG X E 45 [(0, .ref (mB E + 62)), (3, .int v3), (4, .int v4), (5, .int v5)] [] 106 1 I R L 0 0 := by
  unfold b_X7_behindOne_45 at h
  refine g_iload hC dX7_behindOne_45 (q := 3) rfl ?_
  refine g_iconst hC dX7_behindOne_47 (v := (1 : Int32)) (by decide) ?_
  refine g_iadd hC dX7_behindOne_48 ?_
  refine g_aload_n hC dX7_behindOne_49 rfl (q := 0) rfl ?_
  refine g_geti hC fd_RX7_21 rfl (by decide) (Or.inl rfl) dX7_behindOne_50 ?_
  refine g_ic_ge hC dX7_behindOne_53 (tgt := 108) (by decide) (fun c53 => ?_) (fun c53 => ?_)
  · replace h := (if_pos c53).symm.trans h
    refine g_iload hC dX7_behindOne_108 (q := 2) rfl ?_
    cases h
    exact g_iret hC hE rfl dX7_behindOne_110 (Nat.zero_le _) (Nat.zero_le _) ⟨rfl, rfl, rfl, rfl, rfl, rfl⟩
  · replace h := (if_neg c53).symm.trans h
    refine g_iload_n hC dX7_behindOne_56 rfl (q := 1) rfl ?_
    refine g_iload hC dX7_behindOne_57 (q := 3) rfl ?_
    refine g_ishr hC dX7_behindOne_59 ?_
    refine g_iconst hC dX7_behindOne_60 (v := (1 : Int32)) (by decide) ?_
    refine g_iand hC dX7_behindOne_61 ?_
    refine g_iconst hC dX7_behindOne_62 (v := (1 : Int32)) (by decide) ?_
    refine g_ic_ne hC dX7_behindOne_63 (tgt := 102) (by decide) (fun c63 => ?_) (fun c63 => ?_)
    · replace h := (if_neg c63).symm.trans h
      refine g_iinc hC dX7_behindOne_102 rfl (q := 3) rfl (w := (v5 + (1 : Int32))) rfl (by decide) (lv' := [(5, .int (v5 + (1 : Int32))), (0, .ref (mB E + 62)), (3, .int v3), (4, .int v4)]) rfl ?_
      refine g_goto hC dX7_behindOne_105 (tgt := 45) (by decide) ?_
      refine g_lv [1, 2, 3, 0] rfl ?_
      exact hk45_ v3 v4 (v5 + (1 : Int32)) h
    · replace h := (if_pos c63).symm.trans h
      refine g_iload hC dX7_behindOne_66 (q := 2) rfl ?_
      refine g_iload hC dX7_behindOne_68 (q := 3) rfl ?_
      obtain ⟨r70, h70, h⟩ := oB_some h
      refine g_cS1 hC cs_X7_bellAt wd_745 ⟨Nat.le_of_ble_eq_true rfl, Nat.le_of_ble_eq_true rfl⟩ dX7_behindOne_70 (As := [.int v4, .int v5]) (st := []) (ok_X7_bellAt hC.2.2.2.2.2.2.2.1  h70) rfl rfl (Nat.le_of_ble_eq_true rfl) ⟨Nat.zero_le _, Nat.zero_le _⟩ ?_
      refine g_iload hC dX7_behindOne_73 (q := 2) rfl ?_
      refine g_iload hC dX7_behindOne_75 (q := 3) rfl ?_
      refine g_iconst hC dX7_behindOne_77 (v := (1 : Int32)) (by decide) ?_
      refine g_iadd hC dX7_behindOne_78 ?_
      obtain ⟨r79, h79, h⟩ := oB_some h
      refine g_cS1 hC cs_X7_bellAt wd_745 ⟨Nat.le_of_ble_eq_true rfl, Nat.le_of_ble_eq_true rfl⟩ dX7_behindOne_79 (As := [.int v4, .int (v5 + (1 : Int32))]) (st := [.int r70]) (ok_X7_bellAt hC.2.2.2.2.2.2.2.1  h79) rfl rfl (Nat.le_of_ble_eq_true rfl) ⟨Nat.zero_le _, Nat.zero_le _⟩ ?_
      refine g_ixor hC dX7_behindOne_82 ?_
      refine g_istore hC dX7_behindOne_83 rfl (by decide) (lv' := [(6, .int (r70 ^^^ r79)), (0, .ref (mB E + 62)), (3, .int v3), (4, .int v4), (5, .int v5)]) rfl ?_
      refine g_iload hC dX7_behindOne_85 (q := 3) rfl ?_
      refine g_iload hC dX7_behindOne_87 (q := 0) rfl ?_
      refine g_iload hC dX7_behindOne_89 (q := 0) rfl ?_
      refine g_iconst hC dX7_behindOne_91 (v := (3 : Int32)) (by decide) ?_
      refine g_ishl hC dX7_behindOne_92 ?_
      refine g_ior hC dX7_behindOne_93 ?_
      refine g_iconst hC dX7_behindOne_94 (v := (3 : Int32)) (by decide) ?_
      refine g_iload hC dX7_behindOne_95 (q := 4) rfl ?_
      refine g_imul hC dX7_behindOne_97 ?_
      refine g_ishl hC dX7_behindOne_98 ?_
      refine g_ixor hC dX7_behindOne_99 ?_
      refine g_istore hC dX7_behindOne_100 rfl (by decide) (lv' := [(4, .int (v4 ^^^ (((r70 ^^^ r79) ||| ((r70 ^^^ r79) <<< ((3 : Int32) &&& 31))) <<< (((3 : Int32) * v5) &&& 31)))), (6, .int (r70 ^^^ r79)), (0, .ref (mB E + 62)), (3, .int v3), (5, .int v5)]) rfl ?_
      refine g_iinc hC dX7_behindOne_102 rfl (q := 4) rfl (w := (v5 + (1 : Int32))) rfl (by decide) (lv' := [(5, .int (v5 + (1 : Int32))), (4, .int (v4 ^^^ (((r70 ^^^ r79) ||| ((r70 ^^^ r79) <<< ((3 : Int32) &&& 31))) <<< (((3 : Int32) * v5) &&& 31)))), (6, .int (r70 ^^^ r79)), (0, .ref (mB E + 62)), (3, .int v3)]) rfl ?_
      refine g_goto hC dX7_behindOne_105 (tgt := 45) (by decide) ?_
      refine g_lv [3, 4, 1, 0] rfl ?_
      exact hk45_ v3 (v4 ^^^ (((r70 ^^^ r79) ||| ((r70 ^^^ r79) <<< ((3 : Int32) &&& 31))) <<< (((3 : Int32) * v5) &&& 31))) (v5 + (1 : Int32)) h
noncomputable def w_X7_behindOne_45 (Fu : Nat) (I : mIT)  (N : Nat) (v3 : Int32) (v4 : Int32) (v5 : Int32) : Option (Int32) :=
  loopF (fun self (s : Int32 × Int32 × Int32) => b_X7_behindOne_45 Fu I self s.1 s.2.1 s.2.2) N (v3, v4, v5)
theorem wo_X7_behindOne_45 {X : mXT} {E : mEn} {Fu : Nat} {I : mIT} {R : mRT} {L : mLT}  (hC : mC X E mX7_behindOne RX7 cX7_behindOne) (hW : mWd R)   {out : Int32} (hE : mEd X E 0 0 (mSame (some (.int (out))) 106 1 I R L))  (N : Nat) (v3 : Int32) (v4 : Int32) (v5 : Int32) (h : w_X7_behindOne_45 Fu I  N v3 v4 v5 = some out) : mG X E 45 [(0, .ref (mB E + 62)), (3, .int v3), (4, .int v4), (5, .int v5)] [] 106 1 I R L 0 0 :=
  loopF_ok (Gd := fun s : Int32 × Int32 × Int32 => mG X E 45 [(0, .ref (mB E + 62)), (3, .int s.1), (4, .int s.2.1), (5, .int s.2.2)] [] 106 1 I R L 0 0) (fun self hs s h => bo_X7_behindOne_45 hC hW hE self (fun v3 v4 v5 h => hs (v3, v4, v5) h) s.1 s.2.1 s.2.2 h) N (v3, v4, v5) h
noncomputable def f_X7_behindOne (Fu : Nat) (I : mIT) (v1 : Int32) (v2 : Int32) : Option (Int32) :=
  if (I 62 4) ≤ 0 then (some (v1)) else (if v2 < 0 then (some (v1)) else (oG ((I 62 4) != 0) (if (v2 - v2 / (I 62 4) * (I 62 4)) < (nI 12) then (oG ((I 62 4) != 0) (oG (inB (v2 - v2 / (I 62 4) * (I 62 4)) 12) (w_X7_behindOne_45 Fu I Fu (I 64 ((v2 - v2 / (I 62 4) * (I 62 4))).toNatClampNeg) v1 (0 : Int32)))) else (some (v1)))))
set_option maxRecDepth 20000 in
theorem ok_X7_behindOne {l : Launch} {E : mEn} {Fu : Nat} {I : mIT} {R : mRT} {L : mLT} {v1 : Int32} {v2 : Int32} (hst : l.stackTraces = false) (hW : mWd R)  {out : Int32} (h : f_X7_behindOne Fu I v1 v2 = some out) : mOk l E mX7_behindOne [.ref (mB E + 62), .int v1, .int v2] 106 1 I R L 0 0 (mSame (some (.int (out))) 106 1 I R L) := by
  refine mOk_of hst (by decide) (Nat.le_of_ble_eq_true rfl) (fun X hC hE _ => ?_)
  have hC : mC X E mX7_behindOne RX7 cX7_behindOne := hC
  show mG X E 0 [(0, .ref (mB E + 62)), (1, .int v1), (2, .int v2)] [] 106 1 I R L 0 0
  unfold f_X7_behindOne at h
  refine g_aload_n hC dX7_behindOne_0 rfl (q := 0) rfl ?_
  refine g_geti hC fd_RX7_25 rfl (by decide) (Or.inl rfl) dX7_behindOne_1 ?_
  refine g_if_le hC dX7_behindOne_4 (tgt := 25) (by decide) (fun c4 => ?_) (fun c4 => ?_)
  · replace h := (if_pos c4).symm.trans h
    refine g_iload_n hC dX7_behindOne_25 rfl (q := 1) rfl ?_
    cases h
    exact g_iret hC hE rfl dX7_behindOne_26 (Nat.zero_le _) (Nat.zero_le _) ⟨rfl, rfl, rfl, rfl, rfl, rfl⟩
  · replace h := (if_neg c4).symm.trans h
    refine g_iload_n hC dX7_behindOne_7 rfl (q := 2) rfl ?_
    refine g_if_lt hC dX7_behindOne_8 (tgt := 25) (by decide) (fun c8 => ?_) (fun c8 => ?_)
    · replace h := (if_pos c8).symm.trans h
      refine g_iload_n hC dX7_behindOne_25 rfl (q := 1) rfl ?_
      cases h
      exact g_iret hC hE rfl dX7_behindOne_26 (Nat.zero_le _) (Nat.zero_le _) ⟨rfl, rfl, rfl, rfl, rfl, rfl⟩
    · replace h := (if_neg c8).symm.trans h
      refine g_iload_n hC dX7_behindOne_11 rfl (q := 2) rfl ?_
      refine g_aload_n hC dX7_behindOne_12 rfl (q := 0) rfl ?_
      refine g_geti hC fd_RX7_25 rfl (by decide) (Or.inl rfl) dX7_behindOne_13 ?_
      obtain ⟨g16, h⟩ := oG_some h
      refine g_irem hC dX7_behindOne_16 (mNz g16) ?_
      refine g_aload_n hC dX7_behindOne_17 rfl (q := 0) rfl ?_
      refine g_getr hC fd_RX7_15 rfl (by decide) (C0 := "") (t0 := _) (Or.inr rfl) (rr_62_1 hW.1) dX7_behindOne_18 ?_
      refine g_alenI hC rfl (by decide) dX7_behindOne_21 ?_
      refine g_ic_lt hC dX7_behindOne_22 (tgt := 27) (by decide) (fun c22 => ?_) (fun c22 => ?_)
      · replace h := (if_pos c22).symm.trans h
        refine g_aload_n hC dX7_behindOne_27 rfl (q := 0) rfl ?_
        refine g_getr hC fd_RX7_15 rfl (by decide) (C0 := "") (t0 := _) (Or.inr rfl) (rr_62_1 hW.1) dX7_behindOne_28 ?_
        refine g_iload_n hC dX7_behindOne_31 rfl (q := 2) rfl ?_
        refine g_aload_n hC dX7_behindOne_32 rfl (q := 0) rfl ?_
        refine g_geti hC fd_RX7_25 rfl (by decide) (Or.inl rfl) dX7_behindOne_33 ?_
        obtain ⟨g36, h⟩ := oG_some h
        refine g_irem hC dX7_behindOne_36 (mNz g36) ?_
        obtain ⟨g37, h⟩ := oG_some h
        refine g_iald hC rfl (by decide) (inB_in g37) dX7_behindOne_37 ?_
        refine g_istore_n hC dX7_behindOne_38 rfl rfl (by decide) (lv' := [(3, .int (I 64 ((v2 - v2 / (I 62 4) * (I 62 4))).toNatClampNeg)), (0, .ref (mB E + 62)), (1, .int v1), (2, .int v2)]) rfl ?_
        refine g_iload_n hC dX7_behindOne_39 rfl (q := 2) rfl ?_
        refine g_istore hC dX7_behindOne_40 rfl (by decide) (lv' := [(4, .int v1), (3, .int (I 64 ((v2 - v2 / (I 62 4) * (I 62 4))).toNatClampNeg)), (0, .ref (mB E + 62)), (1, .int v1), (2, .int v2)]) rfl ?_
        refine g_iconst hC dX7_behindOne_42 (v := (0 : Int32)) (by decide) ?_
        refine g_istore hC dX7_behindOne_43 rfl (by decide) (lv' := [(5, .int (0 : Int32)), (4, .int v1), (3, .int (I 64 ((v2 - v2 / (I 62 4) * (I 62 4))).toNatClampNeg)), (0, .ref (mB E + 62)), (1, .int v1), (2, .int v2)]) rfl ?_
        refine g_lv [3, 2, 1, 0] rfl ?_
        exact wo_X7_behindOne_45 hC hW hE Fu ((I 64 ((v2 - v2 / (I 62 4) * (I 62 4))).toNatClampNeg)) (v1) ((0 : Int32)) h
      · replace h := (if_neg c22).symm.trans h
        refine g_iload_n hC dX7_behindOne_25 rfl (q := 1) rfl ?_
        cases h
        exact g_iret hC hE rfl dX7_behindOne_26 (Nat.zero_le _) (Nat.zero_le _) ⟨rfl, rfl, rfl, rfl, rfl, rfl⟩
noncomputable def b_X7_rowBehind_5 (Fu : Nat) (I : mIT) (k5_ : Int32 × Int32 × Int32 → Option (Int32)) (v1 : Int32) (v2 : Int32) (v3 : Int32) : Option (Int32) :=
  if v1 ≤ v3 then (some (v2)) else (oB (f_X7_behindOne Fu I v2 v3) (fun r13 => k5_ (v1, r13, (v3 + (1 : Int32)))))
set_option maxRecDepth 20000 in
theorem bo_X7_rowBehind_5 {X : mXT} {E : mEn} {Fu : Nat} {I : mIT} {R : mRT} {L : mLT}  (hC : mC X E mX7_rowBehind RX7 cX7_rowBehind) (hW : mWd R)   {out : Int32} (hE : mEd X E 0 0 (mSame (some (.int (out))) 106 1 I R L)) (k5_ : Int32 × Int32 × Int32 → Option (Int32)) (hk5_ : ∀ (v1 : Int32) (v2 : Int32) (v3 : Int32),  k5_ (v1, v2, v3) = some out → mG X E 5 [(0, .ref (mB E + 62)), (1, .int v1), (2, .int v2), (3, .int v3)] [] 106 1 I R L 0 0) (v1 : Int32) (v2 : Int32) (v3 : Int32) (h : b_X7_rowBehind_5 Fu I k5_ v1 v2 v3 = some out) : mG X E 5 [(0, .ref (mB E + 62)), (1, .int v1), (2, .int v2), (3, .int v3)] [] 106 1 I R L 0 0 := by
  unfold b_X7_rowBehind_5 at h
  refine g_iload_n hC dX7_rowBehind_5 rfl (q := 3) rfl ?_
  refine g_iload_n hC dX7_rowBehind_6 rfl (q := 1) rfl ?_
  refine g_ic_ge hC dX7_rowBehind_7 (tgt := 23) (by decide) (fun c7 => ?_) (fun c7 => ?_)
  · replace h := (if_pos c7).symm.trans h
    refine g_iload_n hC dX7_rowBehind_23 rfl (q := 2) rfl ?_
    cases h
    exact g_iret hC hE rfl dX7_rowBehind_24 (Nat.zero_le _) (Nat.zero_le _) ⟨rfl, rfl, rfl, rfl, rfl, rfl⟩
  · replace h := (if_neg c7).symm.trans h
    refine g_aload_n hC dX7_rowBehind_10 rfl (q := 0) rfl ?_
    refine g_iload_n hC dX7_rowBehind_11 rfl (q := 2) rfl ?_
    refine g_iload_n hC dX7_rowBehind_12 rfl (q := 3) rfl ?_
    obtain ⟨r13, h13, h⟩ := oB_some h
    refine g_cV1 hC cv_X7_behindOne wd_741 ⟨Nat.le_of_ble_eq_true rfl, Nat.le_of_ble_eq_true rfl⟩ rfl (by decide) dX7_rowBehind_13 (As := [.int v2, .int v3]) (st := []) (ok_X7_behindOne hC.2.2.2.2.2.2.2.1 hW h13) rfl rfl (Nat.le_of_ble_eq_true rfl) ⟨Nat.zero_le _, Nat.zero_le _⟩ ?_
    refine g_istore_n hC dX7_rowBehind_16 rfl rfl (by decide) (lv' := [(2, .int r13), (0, .ref (mB E + 62)), (1, .int v1), (3, .int v3)]) rfl ?_
    refine g_iinc hC dX7_rowBehind_17 rfl (q := 3) rfl (w := (v3 + (1 : Int32))) rfl (by decide) (lv' := [(3, .int (v3 + (1 : Int32))), (2, .int r13), (0, .ref (mB E + 62)), (1, .int v1)]) rfl ?_
    refine g_goto hC dX7_rowBehind_20 (tgt := 5) (by decide) ?_
    refine g_lv [2, 3, 1, 0] rfl ?_
    exact hk5_ v1 r13 (v3 + (1 : Int32)) h
noncomputable def w_X7_rowBehind_5 (Fu : Nat) (I : mIT)  (N : Nat) (v1 : Int32) (v2 : Int32) (v3 : Int32) : Option (Int32) :=
  loopF (fun self (s : Int32 × Int32 × Int32) => b_X7_rowBehind_5 Fu I self s.1 s.2.1 s.2.2) N (v1, v2, v3)
theorem wo_X7_rowBehind_5 {X : mXT} {E : mEn} {Fu : Nat} {I : mIT} {R : mRT} {L : mLT}  (hC : mC X E mX7_rowBehind RX7 cX7_rowBehind) (hW : mWd R)   {out : Int32} (hE : mEd X E 0 0 (mSame (some (.int (out))) 106 1 I R L))  (N : Nat) (v1 : Int32) (v2 : Int32) (v3 : Int32) (h : w_X7_rowBehind_5 Fu I  N v1 v2 v3 = some out) : mG X E 5 [(0, .ref (mB E + 62)), (1, .int v1), (2, .int v2), (3, .int v3)] [] 106 1 I R L 0 0 :=
  loopF_ok (Gd := fun s : Int32 × Int32 × Int32 => mG X E 5 [(0, .ref (mB E + 62)), (1, .int s.1), (2, .int s.2.1), (3, .int s.2.2)] [] 106 1 I R L 0 0) (fun self hs s h => bo_X7_rowBehind_5 hC hW hE self (fun v1 v2 v3 h => hs (v1, v2, v3) h) s.1 s.2.1 s.2.2 h) N (v1, v2, v3) h
noncomputable def f_X7_rowBehind (Fu : Nat) (I : mIT) (v1 : Int32) : Option (Int32) :=
  w_X7_rowBehind_5 Fu I Fu v1 (181896 : Int32) (0 : Int32)
set_option maxRecDepth 20000 in
theorem ok_X7_rowBehind {l : Launch} {E : mEn} {Fu : Nat} {I : mIT} {R : mRT} {L : mLT} {v1 : Int32} (hst : l.stackTraces = false) (hW : mWd R)  {out : Int32} (h : f_X7_rowBehind Fu I v1 = some out) : mOk l E mX7_rowBehind [.ref (mB E + 62), .int v1] 106 1 I R L 0 0 (mSame (some (.int (out))) 106 1 I R L) := by
  refine mOk_of hst (by decide) (Nat.le_of_ble_eq_true rfl) (fun X hC hE _ => ?_)
  have hC : mC X E mX7_rowBehind RX7 cX7_rowBehind := hC
  show mG X E 0 [(0, .ref (mB E + 62)), (1, .int v1)] [] 106 1 I R L 0 0
  unfold f_X7_rowBehind at h
  refine g_ldc hC dX7_rowBehind_0 wd_740 ?_
  refine g_istore_n hC dX7_rowBehind_2 rfl rfl (by decide) (lv' := [(2, .int (181896 : Int32)), (0, .ref (mB E + 62)), (1, .int v1)]) rfl ?_
  refine g_iconst hC dX7_rowBehind_3 (v := (0 : Int32)) (by decide) ?_
  refine g_istore_n hC dX7_rowBehind_4 rfl rfl (by decide) (lv' := [(3, .int (0 : Int32)), (2, .int (181896 : Int32)), (0, .ref (mB E + 62)), (1, .int v1)]) rfl ?_
  refine g_lv [2, 3, 1, 0] rfl ?_
  exact wo_X7_rowBehind_5 hC hW hE Fu (v1) ((181896 : Int32)) ((0 : Int32)) h
noncomputable def f_X7_rootAt (Fu : Nat) (I : mIT) (v1 : Int32) (v2 : Int32) : Option (Int32) :=
  oB (f_X7_rowBehind Fu I v1) (fun r2 => oB (f_X7_bellAt Fu r2 v2) (fun r6 => if (nI 6) ≤ r6 then (some (-1 : Int32)) else (oG (inB r6 6) (some (I 63 (r6).toNatClampNeg)))))
set_option maxRecDepth 20000 in
theorem ok_X7_rootAt {l : Launch} {E : mEn} {Fu : Nat} {I : mIT} {R : mRT} {L : mLT} {v1 : Int32} {v2 : Int32} (hst : l.stackTraces = false) (hW : mWd R)  {out : Int32} (h : f_X7_rootAt Fu I v1 v2 = some out) : mOk l E mX7_rootAt [.ref (mB E + 62), .int v1, .int v2] 106 1 I R L 0 0 (mSame (some (.int (out))) 106 1 I R L) := by
  refine mOk_of hst (by decide) (Nat.le_of_ble_eq_true rfl) (fun X hC hE _ => ?_)
  have hC : mC X E mX7_rootAt RX7 cX7_rootAt := hC
  show mG X E 0 [(0, .ref (mB E + 62)), (1, .int v1), (2, .int v2)] [] 106 1 I R L 0 0
  unfold f_X7_rootAt at h
  refine g_aload_n hC dX7_rootAt_0 rfl (q := 0) rfl ?_
  refine g_iload_n hC dX7_rootAt_1 rfl (q := 1) rfl ?_
  obtain ⟨r2, h2, h⟩ := oB_some h
  refine g_cV1 hC cv_X7_rowBehind wd_1340 ⟨Nat.le_of_ble_eq_true rfl, Nat.le_of_ble_eq_true rfl⟩ rfl (by decide) dX7_rootAt_2 (As := [.int v1]) (st := []) (ok_X7_rowBehind hC.2.2.2.2.2.2.2.1 hW h2) rfl rfl (Nat.le_of_ble_eq_true rfl) ⟨Nat.zero_le _, Nat.zero_le _⟩ ?_
  refine g_iload_n hC dX7_rootAt_5 rfl (q := 2) rfl ?_
  obtain ⟨r6, h6, h⟩ := oB_some h
  refine g_cS1 hC cs_X7_bellAt wd_745 ⟨Nat.le_of_ble_eq_true rfl, Nat.le_of_ble_eq_true rfl⟩ dX7_rootAt_6 (As := [.int r2, .int v2]) (st := []) (ok_X7_bellAt hC.2.2.2.2.2.2.2.1  h6) rfl rfl (Nat.le_of_ble_eq_true rfl) ⟨Nat.zero_le _, Nat.zero_le _⟩ ?_
  refine g_istore_n hC dX7_rootAt_9 rfl rfl (by decide) (lv' := [(3, .int r6), (0, .ref (mB E + 62)), (1, .int v1), (2, .int v2)]) rfl ?_
  refine g_iload_n hC dX7_rootAt_10 rfl (q := 0) rfl ?_
  refine g_aload_n hC dX7_rootAt_11 rfl (q := 1) rfl ?_
  refine g_getr hC fd_RX7_9 rfl (by decide) (C0 := "") (t0 := _) (Or.inr rfl) (rr_62_0 hW.1) dX7_rootAt_12 ?_
  refine g_alenI hC rfl (by decide) dX7_rootAt_15 ?_
  refine g_ic_ge hC dX7_rootAt_16 (tgt := 28) (by decide) (fun c16 => ?_) (fun c16 => ?_)
  · replace h := (if_pos c16).symm.trans h
    refine g_iconst hC dX7_rootAt_28 (v := (-1 : Int32)) (by decide) ?_
    cases h
    exact g_iret hC hE rfl dX7_rootAt_29 (Nat.zero_le _) (Nat.zero_le _) ⟨rfl, rfl, rfl, rfl, rfl, rfl⟩
  · replace h := (if_neg c16).symm.trans h
    refine g_aload_n hC dX7_rootAt_19 rfl (q := 1) rfl ?_
    refine g_getr hC fd_RX7_9 rfl (by decide) (C0 := "") (t0 := _) (Or.inr rfl) (rr_62_0 hW.1) dX7_rootAt_20 ?_
    refine g_iload_n hC dX7_rootAt_23 rfl (q := 0) rfl ?_
    obtain ⟨g24, h⟩ := oG_some h
    refine g_iald hC rfl (by decide) (inB_in g24) dX7_rootAt_24 ?_
    refine g_goto hC dX7_rootAt_25 (tgt := 29) (by decide) ?_
    cases h
    exact g_iret hC hE rfl dX7_rootAt_29 (Nat.zero_le _) (Nat.zero_le _) ⟨rfl, rfl, rfl, rfl, rfl, rfl⟩
noncomputable def f_X5_weatherOn (Fu : Nat) (I : mIT) (k0 : Nat) (v1 : Int32) : Option (Int32) :=
  if (I k0 4) ≤ 0 then (some (4 : Int32)) else (if 0 ≤ v1 then (oG ((I k0 4) != 0) (if (nI 10) ≤ (v1 - v1 / (I k0 4) * (I k0 4)) then (some (4 : Int32)) else (oG (inB (v1 - v1 / (I k0 4) * (I k0 4)) 10) (some (I (k0 + 2) ((v1 - v1 / (I k0 4) * (I k0 4))).toNatClampNeg))))) else (some (4 : Int32)))
set_option maxRecDepth 20000 in
theorem ok_X5_weatherOn {l : Launch} {E : mEn} {Fu : Nat} {I : mIT} {R : mRT} {L : mLT} {k0 : Nat} {v1 : Int32} (hst : l.stackTraces = false) (hk0 : mO5 R k0) {out : Int32} (h : f_X5_weatherOn Fu I k0 v1 = some out) : mOk l E mX5_weatherOn [.ref (mB E + k0), .int v1] 106 1 I R L 0 0 (mSame (some (.int (out))) 106 1 I R L) := by
  refine mOk_of hst (by decide) (Nat.le_of_ble_eq_true rfl) (fun X hC hE _ => ?_)
  have hC : mC X E mX5_weatherOn RX5 cX5_weatherOn := hC
  show mG X E 0 [(0, .ref (mB E + k0)), (1, .int v1)] [] 106 1 I R L 0 0
  unfold f_X5_weatherOn at h
  refine g_aload_n hC dX5_weatherOn_0 rfl (q := 0) rfl ?_
  refine g_geti hC fd_RX5_25 hk0.2.1 hk0.1 (Or.inl rfl) dX5_weatherOn_1 ?_
  refine g_if_le hC dX5_weatherOn_4 (tgt := 11) (by decide) (fun c4 => ?_) (fun c4 => ?_)
  · replace h := (if_pos c4).symm.trans h
    refine g_iconst hC dX5_weatherOn_11 (v := (4 : Int32)) (by decide) ?_
    cases h
    exact g_iret hC hE rfl dX5_weatherOn_12 (Nat.zero_le _) (Nat.zero_le _) ⟨rfl, rfl, rfl, rfl, rfl, rfl⟩
  · replace h := (if_neg c4).symm.trans h
    refine g_iload_n hC dX5_weatherOn_7 rfl (q := 1) rfl ?_
    refine g_if_ge hC dX5_weatherOn_8 (tgt := 13) (by decide) (fun c8 => ?_) (fun c8 => ?_)
    · replace h := (if_pos c8).symm.trans h
      refine g_iload_n hC dX5_weatherOn_13 rfl (q := 1) rfl ?_
      refine g_aload_n hC dX5_weatherOn_14 rfl (q := 0) rfl ?_
      refine g_geti hC fd_RX5_25 hk0.2.1 hk0.1 (Or.inl rfl) dX5_weatherOn_15 ?_
      obtain ⟨g18, h⟩ := oG_some h
      refine g_irem hC dX5_weatherOn_18 (mNz g18) ?_
      refine g_istore_n hC dX5_weatherOn_19 rfl rfl (by decide) (lv' := [(2, .int (v1 - v1 / (I k0 4) * (I k0 4))), (0, .ref (mB E + k0)), (1, .int v1)]) rfl ?_
      refine g_iload_n hC dX5_weatherOn_20 rfl (q := 0) rfl ?_
      refine g_aload_n hC dX5_weatherOn_21 rfl (q := 1) rfl ?_
      refine g_getr hC fd_RX5_15 hk0.2.1 hk0.1 (C0 := "") (t0 := _) (Or.inr rfl) hk0.2.2.2.1.1 dX5_weatherOn_22 ?_
      refine g_alenI hC hk0.2.2.2.1.2.2 hk0.2.2.2.1.2.1 dX5_weatherOn_25 ?_
      refine g_ic_ge hC dX5_weatherOn_26 (tgt := 38) (by decide) (fun c26 => ?_) (fun c26 => ?_)
      · replace h := (if_pos c26).symm.trans h
        refine g_iconst hC dX5_weatherOn_38 (v := (4 : Int32)) (by decide) ?_
        cases h
        exact g_iret hC hE rfl dX5_weatherOn_39 (Nat.zero_le _) (Nat.zero_le _) ⟨rfl, rfl, rfl, rfl, rfl, rfl⟩
      · replace h := (if_neg c26).symm.trans h
        refine g_aload_n hC dX5_weatherOn_29 rfl (q := 1) rfl ?_
        refine g_getr hC fd_RX5_15 hk0.2.1 hk0.1 (C0 := "") (t0 := _) (Or.inr rfl) hk0.2.2.2.1.1 dX5_weatherOn_30 ?_
        refine g_iload_n hC dX5_weatherOn_33 rfl (q := 0) rfl ?_
        obtain ⟨g34, h⟩ := oG_some h
        refine g_iald hC hk0.2.2.2.1.2.2 hk0.2.2.2.1.2.1 (inB_in g34) dX5_weatherOn_34 ?_
        refine g_goto hC dX5_weatherOn_35 (tgt := 39) (by decide) ?_
        cases h
        exact g_iret hC hE rfl dX5_weatherOn_39 (Nat.zero_le _) (Nat.zero_le _) ⟨rfl, rfl, rfl, rfl, rfl, rfl⟩
    · replace h := (if_neg c8).symm.trans h
      refine g_iconst hC dX5_weatherOn_11 (v := (4 : Int32)) (by decide) ?_
      cases h
      exact g_iret hC hE rfl dX5_weatherOn_12 (Nat.zero_le _) (Nat.zero_le _) ⟨rfl, rfl, rfl, rfl, rfl, rfl⟩
noncomputable def f_X9_noteOf (Fu : Nat) (I : mIT) (k0 : Nat) (k1 : Nat) (v2 : Int32) (v3 : Int32) : Option (Int32 × mIT) :=
  oB (f_X8_isTold Fu I (k1 + 4)) (fun r8 => if r8 = 0 then (oB (f_X9_sizeOf Fu I k0 v2) (fun r82 => oB (f_X9_hollowOf Fu I k0 v2) (fun r87 => some ((if (0 : Int32) < ((15 : Int32) - (((r82 - r87) - v3) / (2 : Int32))) then ((15 : Int32) - (((r82 - r87) - v3) / (2 : Int32))) else (0 : Int32)), I)))) else (oB (f_X9_day Fu I k0) (fun r16 => oB (f_X5_weatherOn Fu I k1 r16) (fun r19 => oB (f_X9_sizeOf Fu I k0 v2) (fun r28 => oB (f_X9_hollowOf Fu I k0 v2) (fun r33 => oB (f_X5_kindOf Fu I k1 v2) (fun r40 => oB (f_X9_softnessOf Fu I k0 v2) (fun r45 => oB (f_X9_day Fu I k0) (fun r51 => oB (f_X9_placeOf Fu I k0 v2) (fun r56 => if r56 < 0 then (oB (f_X8_worth Fu I (k1 + 4) r28 (r33 + v3) r40 r45 r19 r51 (0 : Int32)) (fun r67 => oB (f_X11_within Fu r67.1 (15 : Int32)) (fun r76 => some (r76, r67.2)))) else (oB (f_X8_worth Fu I (k1 + 4) r28 (r33 + v3) r40 r45 r19 r51 (1 : Int32)) (fun r67 => oB (f_X11_within Fu r67.1 (15 : Int32)) (fun r76 => some (r76, r67.2))))))))))))))
set_option maxRecDepth 20000 in
theorem ok_X9_noteOf {l : Launch} {E : mEn} {Fu : Nat} {I : mIT} {R : mRT} {L : mLT} {k0 : Nat} {k1 : Nat} {v2 : Int32} {v3 : Int32} (hst : l.stackTraces = false) (hk0 : mO9 R k0) (hk1 : mO5 R k1) {out : Int32 × mIT} (h : f_X9_noteOf Fu I k0 k1 v2 v3 = some out) : mOk l E mX9_noteOf [.ref (mB E + k0), .ref (mB E + k1), .int v2, .int v3] 106 1 I R L 0 0 (mSame (some (.int (out.1))) 106 1 (out.2) R L) := by
  refine mOk_of hst (by decide) (Nat.le_of_ble_eq_true rfl) (fun X hC hE _ => ?_)
  have hC : mC X E mX9_noteOf RX9 cX9_noteOf := hC
  show mG X E 0 [(0, .ref (mB E + k0)), (1, .ref (mB E + k1)), (2, .int v2), (3, .int v3)] [] 106 1 I R L 0 0
  unfold f_X9_noteOf at h
  refine g_aload_n hC dX9_noteOf_0 rfl (q := 1) rfl ?_
  refine g_getr hC fd_RX9_44 hk1.2.1 hk1.1 (C0 := _) (t0 := .int) (Or.inl rfl) hk1.2.2.2.2.2.1.1 dX9_noteOf_1 ?_
  refine g_astore hC dX9_noteOf_4 rfl (by decide) (lv' := [(4, .ref (mB E + (k1 + 4))), (0, .ref (mB E + k0)), (1, .ref (mB E + k1)), (2, .int v2), (3, .int v3)]) rfl ?_
  refine g_aload hC dX9_noteOf_6 (q := 0) rfl ?_
  obtain ⟨r8, h8, h⟩ := oB_some h
  refine g_cV1 hC cv_X8_isTold wd_598 ⟨Nat.le_of_ble_eq_true rfl, Nat.le_of_ble_eq_true rfl⟩ hk1.2.2.2.2.2.1.2.2.1 hk1.2.2.2.2.2.1.2.1 dX9_noteOf_8 (As := []) (st := []) (ok_X8_isTold hC.2.2.2.2.2.2.2.1 hk1.2.2.2.2.2.1.2 h8) rfl rfl (Nat.le_of_ble_eq_true rfl) ⟨Nat.zero_le _, Nat.zero_le _⟩ ?_
  refine g_if_eq hC dX9_noteOf_11 (tgt := 80) (by decide) (fun c11 => ?_) (fun c11 => ?_)
  · replace h := (if_pos c11).symm.trans h
    refine g_aload_n hC dX9_noteOf_80 rfl (q := 1) rfl ?_
    refine g_iload_n hC dX9_noteOf_81 rfl (q := 3) rfl ?_
    obtain ⟨r82, h82, h⟩ := oB_some h
    refine g_cV1 hC cv_X9_sizeOf wd_590 ⟨Nat.le_of_ble_eq_true rfl, Nat.le_of_ble_eq_true rfl⟩ hk0.2.1 hk0.1 dX9_noteOf_82 (As := [.int v2]) (st := []) (ok_X9_sizeOf hC.2.2.2.2.2.2.2.1 hk0 h82) rfl rfl (Nat.le_of_ble_eq_true rfl) ⟨Nat.zero_le _, Nat.zero_le _⟩ ?_
    refine g_aload_n hC dX9_noteOf_85 rfl (q := 1) rfl ?_
    refine g_iload_n hC dX9_noteOf_86 rfl (q := 3) rfl ?_
    obtain ⟨r87, h87, h⟩ := oB_some h
    refine g_cV1 hC cv_X9_hollowOf wd_602 ⟨Nat.le_of_ble_eq_true rfl, Nat.le_of_ble_eq_true rfl⟩ hk0.2.1 hk0.1 dX9_noteOf_87 (As := [.int v2]) (st := [.int r82]) (ok_X9_hollowOf hC.2.2.2.2.2.2.2.1 hk0 h87) rfl rfl (Nat.le_of_ble_eq_true rfl) ⟨Nat.zero_le _, Nat.zero_le _⟩ ?_
    refine g_isub hC dX9_noteOf_90 ?_
    refine g_iload_n hC dX9_noteOf_91 rfl (q := 4) rfl ?_
    refine g_isub hC dX9_noteOf_92 ?_
    refine g_istore hC dX9_noteOf_93 rfl (by decide) (lv' := [(5, .int ((r82 - r87) - v3)), (4, .ref (mB E + (k1 + 4))), (0, .ref (mB E + k0)), (1, .ref (mB E + k1)), (2, .int v2), (3, .int v3)]) rfl ?_
    refine g_iconst hC dX9_noteOf_95 (v := (0 : Int32)) (by decide) ?_
    refine g_bipush hC dX9_noteOf_96 (v := (15 : Int32)) (by decide) ?_
    refine g_iload hC dX9_noteOf_98 (q := 0) rfl ?_
    refine g_iconst hC dX9_noteOf_100 (v := (2 : Int32)) (by decide) ?_
    refine g_idiv hC dX9_noteOf_101 (by decide) ?_
    refine g_isub hC dX9_noteOf_102 ?_
    refine g_mmax hC wd_686 wd_st_max wd_in_math wd_cd_max (Nat.le_of_ble_eq_true rfl) (Nat.le_of_ble_eq_true rfl) ⟨Nat.zero_le _, Nat.zero_le _⟩ dX9_noteOf_103 ?_
    cases h
    exact g_iret hC hE rfl dX9_noteOf_106 (Nat.zero_le _) (Nat.zero_le _) ⟨rfl, rfl, rfl, rfl, rfl, rfl⟩
  · replace h := (if_neg c11).symm.trans h
    refine g_aload_n hC dX9_noteOf_14 rfl (q := 2) rfl ?_
    refine g_aload_n hC dX9_noteOf_15 rfl (q := 1) rfl ?_
    obtain ⟨r16, h16, h⟩ := oB_some h
    refine g_cV1 hC cv_X9_day wd_614 ⟨Nat.le_of_ble_eq_true rfl, Nat.le_of_ble_eq_true rfl⟩ hk0.2.1 hk0.1 dX9_noteOf_16 (As := []) (st := [.ref (mB E + k1)]) (ok_X9_day hC.2.2.2.2.2.2.2.1 hk0 h16) rfl rfl (Nat.le_of_ble_eq_true rfl) ⟨Nat.zero_le _, Nat.zero_le _⟩ ?_
    obtain ⟨r19, h19, h⟩ := oB_some h
    refine g_cV1 hC cv_X5_weatherOn wd_685 ⟨Nat.le_of_ble_eq_true rfl, Nat.le_of_ble_eq_true rfl⟩ hk1.2.1 hk1.1 dX9_noteOf_19 (As := [.int r16]) (st := []) (ok_X5_weatherOn hC.2.2.2.2.2.2.2.1 hk1 h19) rfl rfl (Nat.le_of_ble_eq_true rfl) ⟨Nat.zero_le _, Nat.zero_le _⟩ ?_
    refine g_istore hC dX9_noteOf_22 rfl (by decide) (lv' := [(5, .int r19), (4, .ref (mB E + (k1 + 4))), (0, .ref (mB E + k0)), (1, .ref (mB E + k1)), (2, .int v2), (3, .int v3)]) rfl ?_
    refine g_aload hC dX9_noteOf_24 (q := 1) rfl ?_
    refine g_aload_n hC dX9_noteOf_26 rfl (q := 2) rfl ?_
    refine g_iload_n hC dX9_noteOf_27 rfl (q := 4) rfl ?_
    obtain ⟨r28, h28, h⟩ := oB_some h
    refine g_cV1 hC cv_X9_sizeOf wd_590 ⟨Nat.le_of_ble_eq_true rfl, Nat.le_of_ble_eq_true rfl⟩ hk0.2.1 hk0.1 dX9_noteOf_28 (As := [.int v2]) (st := [.ref (mB E + (k1 + 4))]) (ok_X9_sizeOf hC.2.2.2.2.2.2.2.1 hk0 h28) rfl rfl (Nat.le_of_ble_eq_true rfl) ⟨Nat.zero_le _, Nat.zero_le _⟩ ?_
    refine g_aload_n hC dX9_noteOf_31 rfl (q := 2) rfl ?_
    refine g_iload_n hC dX9_noteOf_32 rfl (q := 4) rfl ?_
    obtain ⟨r33, h33, h⟩ := oB_some h
    refine g_cV1 hC cv_X9_hollowOf wd_602 ⟨Nat.le_of_ble_eq_true rfl, Nat.le_of_ble_eq_true rfl⟩ hk0.2.1 hk0.1 dX9_noteOf_33 (As := [.int v2]) (st := [.int r28, .ref (mB E + (k1 + 4))]) (ok_X9_hollowOf hC.2.2.2.2.2.2.2.1 hk0 h33) rfl rfl (Nat.le_of_ble_eq_true rfl) ⟨Nat.zero_le _, Nat.zero_le _⟩ ?_
    refine g_iload_n hC dX9_noteOf_36 rfl (q := 5) rfl ?_
    refine g_iadd hC dX9_noteOf_37 ?_
    refine g_aload_n hC dX9_noteOf_38 rfl (q := 3) rfl ?_
    refine g_iload_n hC dX9_noteOf_39 rfl (q := 4) rfl ?_
    obtain ⟨r40, h40, h⟩ := oB_some h
    refine g_cV1 hC cv_X5_kindOf wd_606 ⟨Nat.le_of_ble_eq_true rfl, Nat.le_of_ble_eq_true rfl⟩ hk1.2.1 hk1.1 dX9_noteOf_40 (As := [.int v2]) (st := [.int (r33 + v3), .int r28, .ref (mB E + (k1 + 4))]) (ok_X5_kindOf hC.2.2.2.2.2.2.2.1 hk1 h40) rfl rfl (Nat.le_of_ble_eq_true rfl) ⟨Nat.zero_le _, Nat.zero_le _⟩ ?_
    refine g_aload_n hC dX9_noteOf_43 rfl (q := 2) rfl ?_
    refine g_iload_n hC dX9_noteOf_44 rfl (q := 4) rfl ?_
    obtain ⟨r45, h45, h⟩ := oB_some h
    refine g_cV1 hC cv_X9_softnessOf wd_610 ⟨Nat.le_of_ble_eq_true rfl, Nat.le_of_ble_eq_true rfl⟩ hk0.2.1 hk0.1 dX9_noteOf_45 (As := [.int v2]) (st := [.int r40, .int (r33 + v3), .int r28, .ref (mB E + (k1 + 4))]) (ok_X9_softnessOf hC.2.2.2.2.2.2.2.1 hk0 h45) rfl rfl (Nat.le_of_ble_eq_true rfl) ⟨Nat.zero_le _, Nat.zero_le _⟩ ?_
    refine g_iload hC dX9_noteOf_48 (q := 0) rfl ?_
    refine g_aload_n hC dX9_noteOf_50 rfl (q := 2) rfl ?_
    obtain ⟨r51, h51, h⟩ := oB_some h
    refine g_cV1 hC cv_X9_day wd_614 ⟨Nat.le_of_ble_eq_true rfl, Nat.le_of_ble_eq_true rfl⟩ hk0.2.1 hk0.1 dX9_noteOf_51 (As := []) (st := [.int r19, .int r45, .int r40, .int (r33 + v3), .int r28, .ref (mB E + (k1 + 4))]) (ok_X9_day hC.2.2.2.2.2.2.2.1 hk0 h51) rfl rfl (Nat.le_of_ble_eq_true rfl) ⟨Nat.zero_le _, Nat.zero_le _⟩ ?_
    refine g_aload_n hC dX9_noteOf_54 rfl (q := 2) rfl ?_
    refine g_iload_n hC dX9_noteOf_55 rfl (q := 4) rfl ?_
    obtain ⟨r56, h56, h⟩ := oB_some h
    refine g_cV1 hC cv_X9_placeOf wd_586 ⟨Nat.le_of_ble_eq_true rfl, Nat.le_of_ble_eq_true rfl⟩ hk0.2.1 hk0.1 dX9_noteOf_56 (As := [.int v2]) (st := [.int r51, .int r19, .int r45, .int r40, .int (r33 + v3), .int r28, .ref (mB E + (k1 + 4))]) (ok_X9_placeOf hC.2.2.2.2.2.2.2.1 hk0 h56) rfl rfl (Nat.le_of_ble_eq_true rfl) ⟨Nat.zero_le _, Nat.zero_le _⟩ ?_
    refine g_if_lt hC dX9_noteOf_59 (tgt := 66) (by decide) (fun c59 => ?_) (fun c59 => ?_)
    · replace h := (if_pos c59).symm.trans h
      refine g_iconst hC dX9_noteOf_66 (v := (0 : Int32)) (by decide) ?_
      obtain ⟨r67, h67, h⟩ := oB_some h
      refine g_cV1 hC cv_X8_worth wd_615 ⟨Nat.le_of_ble_eq_true rfl, Nat.le_of_ble_eq_true rfl⟩ hk1.2.2.2.2.2.1.2.2.1 hk1.2.2.2.2.2.1.2.1 dX9_noteOf_67 (As := [.int r28, .int (r33 + v3), .int r40, .int r45, .int r19, .int r51, .int (0 : Int32)]) (st := []) (ok_X8_worth hC.2.2.2.2.2.2.2.1 hk1.2.2.2.2.2.1.2 h67) rfl rfl (Nat.le_of_ble_eq_true rfl) ⟨Nat.zero_le _, Nat.zero_le _⟩ ?_
      refine g_istore hC dX9_noteOf_70 rfl (by decide) (lv' := [(6, .int r67.1), (5, .int r19), (4, .ref (mB E + (k1 + 4))), (0, .ref (mB E + k0)), (1, .ref (mB E + k1)), (2, .int v2), (3, .int v3)]) rfl ?_
      refine g_iload hC dX9_noteOf_72 (q := 0) rfl ?_
      refine g_bipush hC dX9_noteOf_74 (v := (15 : Int32)) (by decide) ?_
      obtain ⟨r76, h76, h⟩ := oB_some h
      refine g_cN1 hC cs_X11_within (host := RX11) nl_RX9_73 ⟨Nat.le_of_ble_eq_true rfl, Nat.le_of_ble_eq_true rfl⟩ dX9_noteOf_76 (As := [.int r67.1, .int (15 : Int32)]) (st := []) (ok_X11_within hC.2.2.2.2.2.2.2.1  h76) rfl rfl (Nat.le_of_ble_eq_true rfl) ⟨Nat.zero_le _, Nat.zero_le _⟩ ?_
      cases h
      exact g_iret hC hE rfl dX9_noteOf_79 (Nat.zero_le _) (Nat.zero_le _) ⟨rfl, rfl, rfl, rfl, rfl, rfl⟩
    · replace h := (if_neg c59).symm.trans h
      refine g_iconst hC dX9_noteOf_62 (v := (1 : Int32)) (by decide) ?_
      refine g_goto hC dX9_noteOf_63 (tgt := 67) (by decide) ?_
      obtain ⟨r67, h67, h⟩ := oB_some h
      refine g_cV1 hC cv_X8_worth wd_615 ⟨Nat.le_of_ble_eq_true rfl, Nat.le_of_ble_eq_true rfl⟩ hk1.2.2.2.2.2.1.2.2.1 hk1.2.2.2.2.2.1.2.1 dX9_noteOf_67 (As := [.int r28, .int (r33 + v3), .int r40, .int r45, .int r19, .int r51, .int (1 : Int32)]) (st := []) (ok_X8_worth hC.2.2.2.2.2.2.2.1 hk1.2.2.2.2.2.1.2 h67) rfl rfl (Nat.le_of_ble_eq_true rfl) ⟨Nat.zero_le _, Nat.zero_le _⟩ ?_
      refine g_istore hC dX9_noteOf_70 rfl (by decide) (lv' := [(6, .int r67.1), (5, .int r19), (4, .ref (mB E + (k1 + 4))), (0, .ref (mB E + k0)), (1, .ref (mB E + k1)), (2, .int v2), (3, .int v3)]) rfl ?_
      refine g_iload hC dX9_noteOf_72 (q := 0) rfl ?_
      refine g_bipush hC dX9_noteOf_74 (v := (15 : Int32)) (by decide) ?_
      obtain ⟨r76, h76, h⟩ := oB_some h
      refine g_cN1 hC cs_X11_within (host := RX11) nl_RX9_73 ⟨Nat.le_of_ble_eq_true rfl, Nat.le_of_ble_eq_true rfl⟩ dX9_noteOf_76 (As := [.int r67.1, .int (15 : Int32)]) (st := []) (ok_X11_within hC.2.2.2.2.2.2.2.1  h76) rfl rfl (Nat.le_of_ble_eq_true rfl) ⟨Nat.zero_le _, Nat.zero_le _⟩ ?_
      cases h
      exact g_iret hC hE rfl dX9_noteOf_79 (Nat.zero_le _) (Nat.zero_le _) ⟨rfl, rfl, rfl, rfl, rfl, rfl⟩
noncomputable def f_X1_setNote (Fu : Nat) (I : mIT) (v1 : Int32) (v2 : Int32) (v3 : Int32) : Option (mIT) :=
  if ((v1 * (10 : Int32)) + v2) < 0 then (some (I)) else (if (nI 610) ≤ ((v1 * (10 : Int32)) + v2) then (some (I)) else (oG (inB ((v1 * (10 : Int32)) + v2) 610) (some (mU I 59 (((v1 * (10 : Int32)) + v2)).toNatClampNeg v3))))
set_option maxRecDepth 20000 in
theorem ok_X1_setNote {l : Launch} {E : mEn} {Fu : Nat} {I : mIT} {R : mRT} {L : mLT} {v1 : Int32} {v2 : Int32} {v3 : Int32} (hst : l.stackTraces = false) (hW : mWd R)  {out : mIT} (h : f_X1_setNote Fu I v1 v2 v3 = some out) : mOk l E mX1_setNote [.ref (mB E + 56), .int v1, .int v2, .int v3] 106 1 I R L 0 0 (mSame none 106 1 (out) R L) := by
  refine mOk_of hst (by decide) (Nat.le_of_ble_eq_true rfl) (fun X hC hE _ => ?_)
  have hC : mC X E mX1_setNote RX1 cX1_setNote := hC
  show mG X E 0 [(0, .ref (mB E + 56)), (1, .int v1), (2, .int v2), (3, .int v3)] [] 106 1 I R L 0 0
  unfold f_X1_setNote at h
  refine g_iload_n hC dX1_setNote_0 rfl (q := 1) rfl ?_
  refine g_bipush hC dX1_setNote_1 (v := (10 : Int32)) (by decide) ?_
  refine g_imul hC dX1_setNote_3 ?_
  refine g_iload_n hC dX1_setNote_4 rfl (q := 2) rfl ?_
  refine g_iadd hC dX1_setNote_5 ?_
  refine g_istore hC dX1_setNote_6 rfl (by decide) (lv' := [(4, .int ((v1 * (10 : Int32)) + v2)), (0, .ref (mB E + 56)), (1, .int v1), (2, .int v2), (3, .int v3)]) rfl ?_
  refine g_iload hC dX1_setNote_8 (q := 0) rfl ?_
  refine g_if_lt hC dX1_setNote_10 (tgt := 31) (by decide) (fun c10 => ?_) (fun c10 => ?_)
  · replace h := (if_pos c10).symm.trans h
    cases h
    exact g_vret hC hE rfl dX1_setNote_31 (Nat.zero_le _) (Nat.zero_le _) ⟨rfl, rfl, rfl, rfl, rfl, rfl⟩
  · replace h := (if_neg c10).symm.trans h
    refine g_iload hC dX1_setNote_13 (q := 0) rfl ?_
    refine g_aload_n hC dX1_setNote_15 rfl (q := 1) rfl ?_
    refine g_getr hC fd_RX1_18 rfl (by decide) (C0 := "") (t0 := _) (Or.inr rfl) (rr_56_1 hW.1) dX1_setNote_16 ?_
    refine g_alenI hC rfl (by decide) dX1_setNote_19 ?_
    refine g_ic_ge hC dX1_setNote_20 (tgt := 31) (by decide) (fun c20 => ?_) (fun c20 => ?_)
    · replace h := (if_pos c20).symm.trans h
      cases h
      exact g_vret hC hE rfl dX1_setNote_31 (Nat.zero_le _) (Nat.zero_le _) ⟨rfl, rfl, rfl, rfl, rfl, rfl⟩
    · replace h := (if_neg c20).symm.trans h
      refine g_aload_n hC dX1_setNote_23 rfl (q := 1) rfl ?_
      refine g_getr hC fd_RX1_18 rfl (by decide) (C0 := "") (t0 := _) (Or.inr rfl) (rr_56_1 hW.1) dX1_setNote_24 ?_
      refine g_iload hC dX1_setNote_27 (q := 0) rfl ?_
      refine g_iload_n hC dX1_setNote_29 rfl (q := 4) rfl ?_
      obtain ⟨g30, h⟩ := oG_some h
      refine g_iast hC rfl (by decide) (inB_in g30) dX1_setNote_30 (nm_e ?_)
      cases h
      exact g_vret hC hE rfl dX1_setNote_31 (Nat.zero_le _) (Nat.zero_le _) ⟨rfl, rfl, rfl, rfl, rfl, rfl⟩
noncomputable def b_X1_layDay_100 (Fu : Nat) (k1 : Nat) (k31_ : Int32 × Int32 × Int32 × Int32 × mIT → Option (mIT)) (v2 : Int32) (v3 : Int32) (v5 : Int32) (s0 : Int32) (s1 : Int32) (I : mIT) : Option (mIT) :=
  oB (f_X9_noteOf Fu I 57 k1 v5 (0 : Int32)) (fun r115 => oB (f_X1_setNote Fu r115.2 v2 v5 r115.1) (fun r118 => k31_ (v2, v3, (s0 ||| s1), (v5 + (1 : Int32)), r118)))
set_option maxRecDepth 20000 in
theorem bo_X1_layDay_100 {X : mXT} {E : mEn} {Fu : Nat} {R : mRT} {L : mLT} {k1 : Nat} (hC : mC X E mX1_layDay RX1 cX1_layDay) (hW : mWd R) (hk1 : mO5 R k1)  {out : mIT} (hE : mEd X E 0 0 (mSame none 106 1 (out) R L)) (k31_ : Int32 × Int32 × Int32 × Int32 × mIT → Option (mIT)) (hk31_ : ∀ (v2 : Int32) (v3 : Int32) (v4 : Int32) (v5 : Int32) (I : mIT),  k31_ (v2, v3, v4, v5, I) = some out → mG X E 31 [(0, .ref (mB E + 56)), (1, .ref (mB E + k1)), (2, .int v2), (3, .int v3), (4, .int v4), (5, .int v5)] [] 106 1 I R L 0 0) (v2 : Int32) (v3 : Int32) (v5 : Int32) (s0 : Int32) (s1 : Int32) (I : mIT) (h : b_X1_layDay_100 Fu k1 k31_ v2 v3 v5 s0 s1 I = some out) : mG X E 100 [(0, .ref (mB E + 56)), (1, .ref (mB E + k1)), (2, .int v2), (3, .int v3), (5, .int v5)] [.int s1, .int s0] 106 1 I R L 0 0 := by
  unfold b_X1_layDay_100 at h
  refine g_ior hC dX1_layDay_100 ?_
  refine g_istore hC dX1_layDay_101 rfl (by decide) (lv' := [(4, .int (s0 ||| s1)), (0, .ref (mB E + 56)), (1, .ref (mB E + k1)), (2, .int v2), (3, .int v3), (5, .int v5)]) rfl ?_
  refine g_aload_n hC dX1_layDay_103 rfl (q := 1) rfl ?_
  refine g_iload_n hC dX1_layDay_104 rfl (q := 3) rfl ?_
  refine g_iload hC dX1_layDay_105 (q := 5) rfl ?_
  refine g_aload_n hC dX1_layDay_107 rfl (q := 1) rfl ?_
  refine g_getr hC fd_RX1_12 rfl (by decide) (C0 := _) (t0 := .int) (Or.inl rfl) (rr_56_0 hW.1) dX1_layDay_108 ?_
  refine g_aload_n hC dX1_layDay_111 rfl (q := 2) rfl ?_
  refine g_iload hC dX1_layDay_112 (q := 5) rfl ?_
  refine g_iconst hC dX1_layDay_114 (v := (0 : Int32)) (by decide) ?_
  obtain ⟨r115, h115, h⟩ := oB_some h
  refine g_cV1 hC cv_X9_noteOf wd_681 ⟨Nat.le_of_ble_eq_true rfl, Nat.le_of_ble_eq_true rfl⟩ rfl (by decide) dX1_layDay_115 (As := [.ref (mB E + k1), .int v5, .int (0 : Int32)]) (st := [.int v5, .int v2, .ref (mB E + 56)]) (ok_X9_noteOf hC.2.2.2.2.2.2.2.1 (ob_57 hW.1) hk1 h115) rfl rfl (Nat.le_of_ble_eq_true rfl) ⟨Nat.zero_le _, Nat.zero_le _⟩ ?_
  obtain ⟨r118, h118, h⟩ := oB_some h
  refine g_cV0 hC cv_X1_setNote wd_687 ⟨Nat.le_of_ble_eq_true rfl, Nat.le_of_ble_eq_true rfl⟩ rfl (by decide) dX1_layDay_118 (As := [.int v2, .int v5, .int r115.1]) (st := []) (ok_X1_setNote hC.2.2.2.2.2.2.2.1 hW h118) rfl rfl (Nat.le_of_ble_eq_true rfl) ⟨Nat.zero_le _, Nat.zero_le _⟩ ?_
  refine g_iinc hC dX1_layDay_121 rfl (q := 5) rfl (w := (v5 + (1 : Int32))) rfl (by decide) (lv' := [(5, .int (v5 + (1 : Int32))), (4, .int (s0 ||| s1)), (0, .ref (mB E + 56)), (1, .ref (mB E + k1)), (2, .int v2), (3, .int v3)]) rfl ?_
  refine g_goto hC dX1_layDay_124 (tgt := 31) (by decide) ?_
  refine g_lv [2, 3, 4, 5, 1, 0] rfl ?_
  exact hk31_ v2 v3 (s0 ||| s1) (v5 + (1 : Int32)) r118 h
noncomputable def b_X1_layDay_99 (Fu : Nat) (k1 : Nat) (k31_ : Int32 × Int32 × Int32 × Int32 × mIT → Option (mIT)) (v2 : Int32) (v3 : Int32) (v5 : Int32) (s0 : Int32) (I : mIT) : Option (mIT) :=
  b_X1_layDay_100 Fu k1 k31_ v2 v3 v5 s0 (0 : Int32) I
set_option maxRecDepth 20000 in
theorem bo_X1_layDay_99 {X : mXT} {E : mEn} {Fu : Nat} {R : mRT} {L : mLT} {k1 : Nat} (hC : mC X E mX1_layDay RX1 cX1_layDay) (hW : mWd R) (hk1 : mO5 R k1)  {out : mIT} (hE : mEd X E 0 0 (mSame none 106 1 (out) R L)) (k31_ : Int32 × Int32 × Int32 × Int32 × mIT → Option (mIT)) (hk31_ : ∀ (v2 : Int32) (v3 : Int32) (v4 : Int32) (v5 : Int32) (I : mIT),  k31_ (v2, v3, v4, v5, I) = some out → mG X E 31 [(0, .ref (mB E + 56)), (1, .ref (mB E + k1)), (2, .int v2), (3, .int v3), (4, .int v4), (5, .int v5)] [] 106 1 I R L 0 0) (v2 : Int32) (v3 : Int32) (v5 : Int32) (s0 : Int32) (I : mIT) (h : b_X1_layDay_99 Fu k1 k31_ v2 v3 v5 s0 I = some out) : mG X E 99 [(0, .ref (mB E + 56)), (1, .ref (mB E + k1)), (2, .int v2), (3, .int v3), (5, .int v5)] [.int s0] 106 1 I R L 0 0 := by
  unfold b_X1_layDay_99 at h
  refine g_iconst hC dX1_layDay_99 (v := (0 : Int32)) (by decide) ?_
  exact bo_X1_layDay_100 hC hW hk1 hE k31_ hk31_ (v2) (v3) (v5) (s0) ((0 : Int32)) (I) h
noncomputable def b_X1_layDay_65 (Fu : Nat) (k1 : Nat) (k31_ : Int32 × Int32 × Int32 × Int32 × mIT → Option (mIT)) (v2 : Int32) (v4 : Int32) (v5 : Int32) (v6 : Int32) (s0 : Int32) (s1 : Int32) (I : mIT) : Option (mIT) :=
  if v6 = (-2 : Int32) then (b_X1_layDay_99 Fu k1 k31_ v2 (s0 ||| s1) v5 v4 I) else (oB (f_X9_softnessOf Fu I 57 v5) (fun r82 => if (I k1 5) ≤ r82 then (b_X1_layDay_99 Fu k1 k31_ v2 (s0 ||| s1) v5 v4 I) else (b_X1_layDay_100 Fu k1 k31_ v2 (s0 ||| s1) v5 v4 ((1 : Int32) <<< (v5 &&& 31)) I)))
set_option maxRecDepth 20000 in
theorem bo_X1_layDay_65 {X : mXT} {E : mEn} {Fu : Nat} {R : mRT} {L : mLT} {k1 : Nat} (hC : mC X E mX1_layDay RX1 cX1_layDay) (hW : mWd R) (hk1 : mO5 R k1)  {out : mIT} (hE : mEd X E 0 0 (mSame none 106 1 (out) R L)) (k31_ : Int32 × Int32 × Int32 × Int32 × mIT → Option (mIT)) (hk31_ : ∀ (v2 : Int32) (v3 : Int32) (v4 : Int32) (v5 : Int32) (I : mIT),  k31_ (v2, v3, v4, v5, I) = some out → mG X E 31 [(0, .ref (mB E + 56)), (1, .ref (mB E + k1)), (2, .int v2), (3, .int v3), (4, .int v4), (5, .int v5)] [] 106 1 I R L 0 0) (v2 : Int32) (v4 : Int32) (v5 : Int32) (v6 : Int32) (s0 : Int32) (s1 : Int32) (I : mIT) (h : b_X1_layDay_65 Fu k1 k31_ v2 v4 v5 v6 s0 s1 I = some out) : mG X E 65 [(0, .ref (mB E + 56)), (1, .ref (mB E + k1)), (2, .int v2), (4, .int v4), (5, .int v5), (6, .int v6)] [.int s1, .int s0] 106 1 I R L 0 0 := by
  unfold b_X1_layDay_65 at h
  refine g_ior hC dX1_layDay_65 ?_
  refine g_istore_n hC dX1_layDay_66 rfl rfl (by decide) (lv' := [(3, .int (s0 ||| s1)), (0, .ref (mB E + 56)), (1, .ref (mB E + k1)), (2, .int v2), (4, .int v4), (5, .int v5), (6, .int v6)]) rfl ?_
  refine g_iload hC dX1_layDay_67 (q := 4) rfl ?_
  refine g_iload hC dX1_layDay_69 (q := 6) rfl ?_
  refine g_bipush hC dX1_layDay_71 (v := (-2 : Int32)) (by decide) ?_
  refine g_ic_eq hC dX1_layDay_73 (tgt := 99) (by decide) (fun c73 => ?_) (fun c73 => ?_)
  · replace h := (if_pos c73).symm.trans h
    refine g_lv [1, 2, 3, 0, 5] rfl ?_
    exact bo_X1_layDay_99 hC hW hk1 hE k31_ hk31_ (v2) ((s0 ||| s1)) (v5) (v4) (I) h
  · replace h := (if_neg c73).symm.trans h
    refine g_aload_n hC dX1_layDay_76 rfl (q := 1) rfl ?_
    refine g_getr hC fd_RX1_12 rfl (by decide) (C0 := _) (t0 := .int) (Or.inl rfl) (rr_56_0 hW.1) dX1_layDay_77 ?_
    refine g_iload hC dX1_layDay_80 (q := 5) rfl ?_
    obtain ⟨r82, h82, h⟩ := oB_some h
    refine g_cV1 hC cv_X9_softnessOf wd_680 ⟨Nat.le_of_ble_eq_true rfl, Nat.le_of_ble_eq_true rfl⟩ rfl (by decide) dX1_layDay_82 (As := [.int v5]) (st := [.int v4]) (ok_X9_softnessOf hC.2.2.2.2.2.2.2.1 (ob_57 hW.1) h82) rfl rfl (Nat.le_of_ble_eq_true rfl) ⟨Nat.zero_le _, Nat.zero_le _⟩ ?_
    refine g_aload_n hC dX1_layDay_85 rfl (q := 2) rfl ?_
    refine g_geti hC fd_RX1_62 hk1.2.1 hk1.1 (Or.inl rfl) dX1_layDay_86 ?_
    refine g_ic_ge hC dX1_layDay_89 (tgt := 99) (by decide) (fun c89 => ?_) (fun c89 => ?_)
    · replace h := (if_pos c89).symm.trans h
      refine g_lv [1, 2, 3, 0, 5] rfl ?_
      exact bo_X1_layDay_99 hC hW hk1 hE k31_ hk31_ (v2) ((s0 ||| s1)) (v5) (v4) (I) h
    · replace h := (if_neg c89).symm.trans h
      refine g_iconst hC dX1_layDay_92 (v := (1 : Int32)) (by decide) ?_
      refine g_iload hC dX1_layDay_93 (q := 5) rfl ?_
      refine g_ishl hC dX1_layDay_95 ?_
      refine g_goto hC dX1_layDay_96 (tgt := 100) (by decide) ?_
      refine g_lv [1, 2, 3, 0, 5] rfl ?_
      exact bo_X1_layDay_100 hC hW hk1 hE k31_ hk31_ (v2) ((s0 ||| s1)) (v5) (v4) (((1 : Int32) <<< (v5 &&& 31))) (I) h
noncomputable def b_X1_layDay_31 (Fu : Nat) (k1 : Nat) (k31_ : Int32 × Int32 × Int32 × Int32 × mIT → Option (mIT)) (v2 : Int32) (v3 : Int32) (v4 : Int32) (v5 : Int32) (I : mIT) : Option (mIT) :=
  if (I k1 3) ≤ v5 then (oG (inB v2 61) (oG (inB v2 61) (some (mU (mU I 60 (v2).toNatClampNeg (v3 &&& v4)) 61 (v2).toNatClampNeg v4)))) else (oB (f_X9_placeOf Fu I 57 v5) (fun r46 => if r46 < 0 then (b_X1_layDay_65 Fu k1 k31_ v2 v4 v5 r46 v3 (0 : Int32) I) else (b_X1_layDay_65 Fu k1 k31_ v2 v4 v5 r46 v3 ((1 : Int32) <<< (v5 &&& 31)) I)))
set_option maxRecDepth 20000 in
theorem bo_X1_layDay_31 {X : mXT} {E : mEn} {Fu : Nat} {R : mRT} {L : mLT} {k1 : Nat} (hC : mC X E mX1_layDay RX1 cX1_layDay) (hW : mWd R) (hk1 : mO5 R k1)  {out : mIT} (hE : mEd X E 0 0 (mSame none 106 1 (out) R L)) (k31_ : Int32 × Int32 × Int32 × Int32 × mIT → Option (mIT)) (hk31_ : ∀ (v2 : Int32) (v3 : Int32) (v4 : Int32) (v5 : Int32) (I : mIT),  k31_ (v2, v3, v4, v5, I) = some out → mG X E 31 [(0, .ref (mB E + 56)), (1, .ref (mB E + k1)), (2, .int v2), (3, .int v3), (4, .int v4), (5, .int v5)] [] 106 1 I R L 0 0) (v2 : Int32) (v3 : Int32) (v4 : Int32) (v5 : Int32) (I : mIT) (h : b_X1_layDay_31 Fu k1 k31_ v2 v3 v4 v5 I = some out) : mG X E 31 [(0, .ref (mB E + 56)), (1, .ref (mB E + k1)), (2, .int v2), (3, .int v3), (4, .int v4), (5, .int v5)] [] 106 1 I R L 0 0 := by
  unfold b_X1_layDay_31 at h
  refine g_iload hC dX1_layDay_31 (q := 5) rfl ?_
  refine g_aload_n hC dX1_layDay_33 rfl (q := 1) rfl ?_
  refine g_geti hC fd_RX1_53 hk1.2.1 hk1.1 (Or.inl rfl) dX1_layDay_34 ?_
  refine g_ic_ge hC dX1_layDay_37 (tgt := 127) (by decide) (fun c37 => ?_) (fun c37 => ?_)
  · replace h := (if_pos c37).symm.trans h
    refine g_aload_n hC dX1_layDay_127 rfl (q := 0) rfl ?_
    refine g_getr hC fd_RX1_22 rfl (by decide) (C0 := "") (t0 := _) (Or.inr rfl) (rr_56_2 hW.1) dX1_layDay_128 ?_
    refine g_iload_n hC dX1_layDay_131 rfl (q := 2) rfl ?_
    refine g_iload_n hC dX1_layDay_132 rfl (q := 3) rfl ?_
    refine g_iload hC dX1_layDay_133 (q := 4) rfl ?_
    refine g_iand hC dX1_layDay_135 ?_
    obtain ⟨g136, h⟩ := oG_some h
    refine g_iast hC rfl (by decide) (inB_in g136) dX1_layDay_136 (nm_e ?_)
    refine g_aload_n hC dX1_layDay_137 rfl (q := 0) rfl ?_
    refine g_getr hC fd_RX1_25 rfl (by decide) (C0 := "") (t0 := _) (Or.inr rfl) (rr_56_3 hW.1) dX1_layDay_138 ?_
    refine g_iload_n hC dX1_layDay_141 rfl (q := 2) rfl ?_
    refine g_iload hC dX1_layDay_142 (q := 4) rfl ?_
    obtain ⟨g144, h⟩ := oG_some h
    refine g_iast hC rfl (by decide) (inB_in g144) dX1_layDay_144 (nm_e ?_)
    cases h
    exact g_vret hC hE rfl dX1_layDay_145 (Nat.zero_le _) (Nat.zero_le _) ⟨rfl, rfl, rfl, rfl, rfl, rfl⟩
  · replace h := (if_neg c37).symm.trans h
    refine g_aload_n hC dX1_layDay_40 rfl (q := 0) rfl ?_
    refine g_getr hC fd_RX1_12 rfl (by decide) (C0 := _) (t0 := .int) (Or.inl rfl) (rr_56_0 hW.1) dX1_layDay_41 ?_
    refine g_iload hC dX1_layDay_44 (q := 5) rfl ?_
    obtain ⟨r46, h46, h⟩ := oB_some h
    refine g_cV1 hC cv_X9_placeOf wd_679 ⟨Nat.le_of_ble_eq_true rfl, Nat.le_of_ble_eq_true rfl⟩ rfl (by decide) dX1_layDay_46 (As := [.int v5]) (st := []) (ok_X9_placeOf hC.2.2.2.2.2.2.2.1 (ob_57 hW.1) h46) rfl rfl (Nat.le_of_ble_eq_true rfl) ⟨Nat.zero_le _, Nat.zero_le _⟩ ?_
    refine g_istore hC dX1_layDay_49 rfl (by decide) (lv' := [(6, .int r46), (0, .ref (mB E + 56)), (1, .ref (mB E + k1)), (2, .int v2), (3, .int v3), (4, .int v4), (5, .int v5)]) rfl ?_
    refine g_iload_n hC dX1_layDay_51 rfl (q := 4) rfl ?_
    refine g_iload hC dX1_layDay_52 (q := 0) rfl ?_
    refine g_if_lt hC dX1_layDay_54 (tgt := 64) (by decide) (fun c54 => ?_) (fun c54 => ?_)
    · replace h := (if_pos c54).symm.trans h
      refine g_iconst hC dX1_layDay_64 (v := (0 : Int32)) (by decide) ?_
      refine g_lv [1, 2, 3, 5, 6, 0] rfl ?_
      exact bo_X1_layDay_65 hC hW hk1 hE k31_ hk31_ (v2) (v4) (v5) (r46) (v3) ((0 : Int32)) (I) h
    · replace h := (if_neg c54).symm.trans h
      refine g_iconst hC dX1_layDay_57 (v := (1 : Int32)) (by decide) ?_
      refine g_iload hC dX1_layDay_58 (q := 6) rfl ?_
      refine g_ishl hC dX1_layDay_60 ?_
      refine g_goto hC dX1_layDay_61 (tgt := 65) (by decide) ?_
      refine g_lv [1, 2, 3, 5, 6, 0] rfl ?_
      exact bo_X1_layDay_65 hC hW hk1 hE k31_ hk31_ (v2) (v4) (v5) (r46) (v3) (((1 : Int32) <<< (v5 &&& 31))) (I) h
noncomputable def w_X1_layDay_31 (Fu : Nat) (k1 : Nat)  (N : Nat) (v2 : Int32) (v3 : Int32) (v4 : Int32) (v5 : Int32) (I : mIT) : Option (mIT) :=
  loopF (fun self (s : Int32 × Int32 × Int32 × Int32 × mIT) => b_X1_layDay_31 Fu k1 self s.1 s.2.1 s.2.2.1 s.2.2.2.1 s.2.2.2.2) N (v2, v3, v4, v5, I)
theorem wo_X1_layDay_31 {X : mXT} {E : mEn} {Fu : Nat} {R : mRT} {L : mLT} {k1 : Nat} (hC : mC X E mX1_layDay RX1 cX1_layDay) (hW : mWd R) (hk1 : mO5 R k1)  {out : mIT} (hE : mEd X E 0 0 (mSame none 106 1 (out) R L))  (N : Nat) (v2 : Int32) (v3 : Int32) (v4 : Int32) (v5 : Int32) (I : mIT) (h : w_X1_layDay_31 Fu k1  N v2 v3 v4 v5 I = some out) : mG X E 31 [(0, .ref (mB E + 56)), (1, .ref (mB E + k1)), (2, .int v2), (3, .int v3), (4, .int v4), (5, .int v5)] [] 106 1 I R L 0 0 :=
  loopF_ok (Gd := fun s : Int32 × Int32 × Int32 × Int32 × mIT => mG X E 31 [(0, .ref (mB E + 56)), (1, .ref (mB E + k1)), (2, .int s.1), (3, .int s.2.1), (4, .int s.2.2.1), (5, .int s.2.2.2.1)] [] 106 1 s.2.2.2.2 R L 0 0) (fun self hs s h => bo_X1_layDay_31 hC hW hk1 hE self (fun v2 v3 v4 v5 I h => hs (v2, v3, v4, v5, I) h) s.1 s.2.1 s.2.2.1 s.2.2.2.1 s.2.2.2.2 h) N (v2, v3, v4, v5, I) h
noncomputable def f_X1_layDay (Fu : Nat) (I : mIT) (k1 : Nat) (v2 : Int32) : Option (mIT) :=
  if v2 < 0 then (some (I)) else (if (nI 61) ≤ v2 then (some (I)) else (if v2 < (nI 61) then (w_X1_layDay_31 Fu k1 Fu v2 (0 : Int32) (0 : Int32) (0 : Int32) I) else (some (I))))
set_option maxRecDepth 20000 in
theorem ok_X1_layDay {l : Launch} {E : mEn} {Fu : Nat} {I : mIT} {R : mRT} {L : mLT} {k1 : Nat} {v2 : Int32} (hst : l.stackTraces = false) (hW : mWd R) (hk1 : mO5 R k1) {out : mIT} (h : f_X1_layDay Fu I k1 v2 = some out) : mOk l E mX1_layDay [.ref (mB E + 56), .ref (mB E + k1), .int v2] 106 1 I R L 0 0 (mSame none 106 1 (out) R L) := by
  refine mOk_of hst (by decide) (Nat.le_of_ble_eq_true rfl) (fun X hC hE _ => ?_)
  have hC : mC X E mX1_layDay RX1 cX1_layDay := hC
  show mG X E 0 [(0, .ref (mB E + 56)), (1, .ref (mB E + k1)), (2, .int v2)] [] 106 1 I R L 0 0
  unfold f_X1_layDay at h
  refine g_iload_n hC dX1_layDay_0 rfl (q := 2) rfl ?_
  refine g_if_lt hC dX1_layDay_1 (tgt := 22) (by decide) (fun c1 => ?_) (fun c1 => ?_)
  · replace h := (if_pos c1).symm.trans h
    cases h
    exact g_vret hC hE rfl dX1_layDay_22 (Nat.zero_le _) (Nat.zero_le _) ⟨rfl, rfl, rfl, rfl, rfl, rfl⟩
  · replace h := (if_neg c1).symm.trans h
    refine g_iload_n hC dX1_layDay_4 rfl (q := 2) rfl ?_
    refine g_aload_n hC dX1_layDay_5 rfl (q := 0) rfl ?_
    refine g_getr hC fd_RX1_22 rfl (by decide) (C0 := "") (t0 := _) (Or.inr rfl) (rr_56_2 hW.1) dX1_layDay_6 ?_
    refine g_alenI hC rfl (by decide) dX1_layDay_9 ?_
    refine g_ic_ge hC dX1_layDay_10 (tgt := 22) (by decide) (fun c10 => ?_) (fun c10 => ?_)
    · replace h := (if_pos c10).symm.trans h
      cases h
      exact g_vret hC hE rfl dX1_layDay_22 (Nat.zero_le _) (Nat.zero_le _) ⟨rfl, rfl, rfl, rfl, rfl, rfl⟩
    · replace h := (if_neg c10).symm.trans h
      refine g_iload_n hC dX1_layDay_13 rfl (q := 2) rfl ?_
      refine g_aload_n hC dX1_layDay_14 rfl (q := 0) rfl ?_
      refine g_getr hC fd_RX1_25 rfl (by decide) (C0 := "") (t0 := _) (Or.inr rfl) (rr_56_3 hW.1) dX1_layDay_15 ?_
      refine g_alenI hC rfl (by decide) dX1_layDay_18 ?_
      refine g_ic_lt hC dX1_layDay_19 (tgt := 23) (by decide) (fun c19 => ?_) (fun c19 => ?_)
      · replace h := (if_pos c19).symm.trans h
        refine g_iconst hC dX1_layDay_23 (v := (0 : Int32)) (by decide) ?_
        refine g_istore_n hC dX1_layDay_24 rfl rfl (by decide) (lv' := [(3, .int (0 : Int32)), (0, .ref (mB E + 56)), (1, .ref (mB E + k1)), (2, .int v2)]) rfl ?_
        refine g_iconst hC dX1_layDay_25 (v := (0 : Int32)) (by decide) ?_
        refine g_istore hC dX1_layDay_26 rfl (by decide) (lv' := [(4, .int (0 : Int32)), (3, .int (0 : Int32)), (0, .ref (mB E + 56)), (1, .ref (mB E + k1)), (2, .int v2)]) rfl ?_
        refine g_iconst hC dX1_layDay_28 (v := (0 : Int32)) (by decide) ?_
        refine g_istore hC dX1_layDay_29 rfl (by decide) (lv' := [(5, .int (0 : Int32)), (4, .int (0 : Int32)), (3, .int (0 : Int32)), (0, .ref (mB E + 56)), (1, .ref (mB E + k1)), (2, .int v2)]) rfl ?_
        refine g_lv [3, 4, 5, 2, 1, 0] rfl ?_
        exact wo_X1_layDay_31 hC hW hk1 hE Fu (v2) ((0 : Int32)) ((0 : Int32)) ((0 : Int32)) (I) h
      · replace h := (if_neg c19).symm.trans h
        cases h
        exact g_vret hC hE rfl dX1_layDay_22 (Nat.zero_le _) (Nat.zero_le _) ⟨rfl, rfl, rfl, rfl, rfl, rfl⟩
noncomputable def b_X1_layTo_58 (Fu : Nat) (k1 : Nat) (k2 : Nat) (k21_ : Int32 × Int32 × mIT → Option (mIT)) (v3 : Int32) (v4 : Int32) (I : mIT) : Option (mIT) :=
  oB (f_X1_layDay Fu I k1 v4) (fun r62 => k21_ (v3, (v4 + (1 : Int32)), (mU r62 56 4 (v4 + (1 : Int32)))))
set_option maxRecDepth 20000 in
theorem bo_X1_layTo_58 {X : mXT} {E : mEn} {Fu : Nat} {R : mRT} {L : mLT} {k1 : Nat} {k2 : Nat} (hC : mC X E mX1_layTo RX1 cX1_layTo) (hW : mWd R) (hk1 : mO5 R k1) (hk2 : mO9 R k2)  {out : mIT} (hE : mEd X E 0 0 (mSame none 106 1 (out) R L)) (k21_ : Int32 × Int32 × mIT → Option (mIT)) (hk21_ : ∀ (v3 : Int32) (v4 : Int32) (I : mIT),  k21_ (v3, v4, I) = some out → mG X E 21 [(0, .ref (mB E + 56)), (1, .ref (mB E + k1)), (3, .int v3), (4, .int v4)] [] 106 1 I R L 0 0) (v3 : Int32) (v4 : Int32) (I : mIT) (h : b_X1_layTo_58 Fu k1 k2 k21_ v3 v4 I = some out) : mG X E 58 [(0, .ref (mB E + 56)), (1, .ref (mB E + k1)), (3, .int v3), (4, .int v4)] [] 106 1 I R L 0 0 := by
  unfold b_X1_layTo_58 at h
  refine g_aload_n hC dX1_layTo_58 rfl (q := 0) rfl ?_
  refine g_aload_n hC dX1_layTo_59 rfl (q := 1) rfl ?_
  refine g_iload hC dX1_layTo_60 (q := 3) rfl ?_
  obtain ⟨r62, h62, h⟩ := oB_some h
  refine g_cV0 hC cv_X1_layDay wd_675 ⟨Nat.le_of_ble_eq_true rfl, Nat.le_of_ble_eq_true rfl⟩ rfl (by decide) dX1_layTo_62 (As := [.ref (mB E + k1), .int v4]) (st := []) (ok_X1_layDay hC.2.2.2.2.2.2.2.1 hW hk1 h62) rfl rfl (Nat.le_of_ble_eq_true rfl) ⟨Nat.zero_le _, Nat.zero_le _⟩ ?_
  refine g_aload_n hC dX1_layTo_65 rfl (q := 0) rfl ?_
  refine g_iload hC dX1_layTo_66 (q := 3) rfl ?_
  refine g_iconst hC dX1_layTo_68 (v := (1 : Int32)) (by decide) ?_
  refine g_iadd hC dX1_layTo_69 ?_
  refine g_puti hC fd_RX1_28 rfl (by decide) rfl dX1_layTo_70 (nm_e ?_)
  refine g_iinc hC dX1_layTo_73 rfl (q := 3) rfl (w := (v4 + (1 : Int32))) rfl (by decide) (lv' := [(4, .int (v4 + (1 : Int32))), (0, .ref (mB E + 56)), (1, .ref (mB E + k1)), (3, .int v3)]) rfl ?_
  refine g_goto hC dX1_layTo_76 (tgt := 21) (by decide) ?_
  refine g_lv [1, 2, 3, 0] rfl ?_
  exact hk21_ v3 (v4 + (1 : Int32)) (mU r62 56 4 (v4 + (1 : Int32))) h
noncomputable def b_X1_layTo_21 (Fu : Nat) (k1 : Nat) (k2 : Nat) (k21_ : Int32 × Int32 × mIT → Option (mIT)) (v3 : Int32) (v4 : Int32) (I : mIT) : Option (mIT) :=
  if v3 < v4 then (some (I)) else (if (60 : Int32) < v4 then (some (I)) else (if v4 ≤ 0 then (b_X1_layTo_58 Fu k1 k2 k21_ v3 v4 I) else (oB (f_X9_day Fu I 57) (fun r49 => oB (f_X5_weatherOn Fu I k1 r49) (fun r52 => oB (f_X9_passDay Fu I 57 k1 r52) (fun r55 => b_X1_layTo_58 Fu k1 k2 k21_ v3 v4 r55))))))
set_option maxRecDepth 20000 in
theorem bo_X1_layTo_21 {X : mXT} {E : mEn} {Fu : Nat} {R : mRT} {L : mLT} {k1 : Nat} {k2 : Nat} (hC : mC X E mX1_layTo RX1 cX1_layTo) (hW : mWd R) (hk1 : mO5 R k1) (hk2 : mO9 R k2)  {out : mIT} (hE : mEd X E 0 0 (mSame none 106 1 (out) R L)) (k21_ : Int32 × Int32 × mIT → Option (mIT)) (hk21_ : ∀ (v3 : Int32) (v4 : Int32) (I : mIT),  k21_ (v3, v4, I) = some out → mG X E 21 [(0, .ref (mB E + 56)), (1, .ref (mB E + k1)), (3, .int v3), (4, .int v4)] [] 106 1 I R L 0 0) (v3 : Int32) (v4 : Int32) (I : mIT) (h : b_X1_layTo_21 Fu k1 k2 k21_ v3 v4 I = some out) : mG X E 21 [(0, .ref (mB E + 56)), (1, .ref (mB E + k1)), (3, .int v3), (4, .int v4)] [] 106 1 I R L 0 0 := by
  unfold b_X1_layTo_21 at h
  refine g_iload hC dX1_layTo_21 (q := 3) rfl ?_
  refine g_iload_n hC dX1_layTo_23 rfl (q := 2) rfl ?_
  refine g_ic_gt hC dX1_layTo_24 (tgt := 79) (by decide) (fun c24 => ?_) (fun c24 => ?_)
  · replace h := (if_pos c24).symm.trans h
    cases h
    exact g_vret hC hE rfl dX1_layTo_79 (Nat.zero_le _) (Nat.zero_le _) ⟨rfl, rfl, rfl, rfl, rfl, rfl⟩
  · replace h := (if_neg c24).symm.trans h
    refine g_iload hC dX1_layTo_27 (q := 3) rfl ?_
    refine g_bipush hC dX1_layTo_29 (v := (60 : Int32)) (by decide) ?_
    refine g_ic_gt hC dX1_layTo_31 (tgt := 79) (by decide) (fun c31 => ?_) (fun c31 => ?_)
    · replace h := (if_pos c31).symm.trans h
      cases h
      exact g_vret hC hE rfl dX1_layTo_79 (Nat.zero_le _) (Nat.zero_le _) ⟨rfl, rfl, rfl, rfl, rfl, rfl⟩
    · replace h := (if_neg c31).symm.trans h
      refine g_iload hC dX1_layTo_34 (q := 3) rfl ?_
      refine g_if_le hC dX1_layTo_36 (tgt := 58) (by decide) (fun c36 => ?_) (fun c36 => ?_)
      · replace h := (if_pos c36).symm.trans h
        exact bo_X1_layTo_58 hC hW hk1 hk2 hE k21_ hk21_ (v3) (v4) (I) h
      · replace h := (if_neg c36).symm.trans h
        refine g_aload_n hC dX1_layTo_39 rfl (q := 0) rfl ?_
        refine g_getr hC fd_RX1_12 rfl (by decide) (C0 := _) (t0 := .int) (Or.inl rfl) (rr_56_0 hW.1) dX1_layTo_40 ?_
        refine g_aload_n hC dX1_layTo_43 rfl (q := 1) rfl ?_
        refine g_aload_n hC dX1_layTo_44 rfl (q := 1) rfl ?_
        refine g_aload_n hC dX1_layTo_45 rfl (q := 0) rfl ?_
        refine g_getr hC fd_RX1_12 rfl (by decide) (C0 := _) (t0 := .int) (Or.inl rfl) (rr_56_0 hW.1) dX1_layTo_46 ?_
        obtain ⟨r49, h49, h⟩ := oB_some h
        refine g_cV1 hC cv_X9_day wd_672 ⟨Nat.le_of_ble_eq_true rfl, Nat.le_of_ble_eq_true rfl⟩ rfl (by decide) dX1_layTo_49 (As := []) (st := [.ref (mB E + k1), .ref (mB E + k1), .ref (mB E + 57)]) (ok_X9_day hC.2.2.2.2.2.2.2.1 (ob_57 hW.1) h49) rfl rfl (Nat.le_of_ble_eq_true rfl) ⟨Nat.zero_le _, Nat.zero_le _⟩ ?_
        obtain ⟨r52, h52, h⟩ := oB_some h
        refine g_cV1 hC cv_X5_weatherOn wd_673 ⟨Nat.le_of_ble_eq_true rfl, Nat.le_of_ble_eq_true rfl⟩ hk1.2.1 hk1.1 dX1_layTo_52 (As := [.int r49]) (st := [.ref (mB E + k1), .ref (mB E + 57)]) (ok_X5_weatherOn hC.2.2.2.2.2.2.2.1 hk1 h52) rfl rfl (Nat.le_of_ble_eq_true rfl) ⟨Nat.zero_le _, Nat.zero_le _⟩ ?_
        obtain ⟨r55, h55, h⟩ := oB_some h
        refine g_cV0 hC cv_X9_passDay wd_674 ⟨Nat.le_of_ble_eq_true rfl, Nat.le_of_ble_eq_true rfl⟩ rfl (by decide) dX1_layTo_55 (As := [.ref (mB E + k1), .int r52]) (st := []) (ok_X9_passDay hC.2.2.2.2.2.2.2.1 (ob_57 hW.1) hk1 h55) rfl rfl (Nat.le_of_ble_eq_true rfl) ⟨Nat.zero_le _, Nat.zero_le _⟩ ?_
        exact bo_X1_layTo_58 hC hW hk1 hk2 hE k21_ hk21_ (v3) (v4) (r55) h
noncomputable def w_X1_layTo_21 (Fu : Nat) (k1 : Nat) (k2 : Nat)  (N : Nat) (v3 : Int32) (v4 : Int32) (I : mIT) : Option (mIT) :=
  loopF (fun self (s : Int32 × Int32 × mIT) => b_X1_layTo_21 Fu k1 k2 self s.1 s.2.1 s.2.2) N (v3, v4, I)
theorem wo_X1_layTo_21 {X : mXT} {E : mEn} {Fu : Nat} {R : mRT} {L : mLT} {k1 : Nat} {k2 : Nat} (hC : mC X E mX1_layTo RX1 cX1_layTo) (hW : mWd R) (hk1 : mO5 R k1) (hk2 : mO9 R k2)  {out : mIT} (hE : mEd X E 0 0 (mSame none 106 1 (out) R L))  (N : Nat) (v3 : Int32) (v4 : Int32) (I : mIT) (h : w_X1_layTo_21 Fu k1 k2  N v3 v4 I = some out) : mG X E 21 [(0, .ref (mB E + 56)), (1, .ref (mB E + k1)), (3, .int v3), (4, .int v4)] [] 106 1 I R L 0 0 :=
  loopF_ok (Gd := fun s : Int32 × Int32 × mIT => mG X E 21 [(0, .ref (mB E + 56)), (1, .ref (mB E + k1)), (3, .int s.1), (4, .int s.2.1)] [] 106 1 s.2.2 R L 0 0) (fun self hs s h => bo_X1_layTo_21 hC hW hk1 hk2 hE self (fun v3 v4 I h => hs (v3, v4, I) h) s.1 s.2.1 s.2.2 h) N (v3, v4, I) h
noncomputable def f_X1_layTo (Fu : Nat) (I : mIT) (k1 : Nat) (k2 : Nat) (v3 : Int32) : Option (mIT) :=
  if (I 56 4) = 0 then (oB (f_X9_copyFrom Fu I 57 k2) (fun r12 => w_X1_layTo_21 Fu k1 k2 Fu v3 (r12 56 4) r12)) else (w_X1_layTo_21 Fu k1 k2 Fu v3 (I 56 4) I)
set_option maxRecDepth 20000 in
theorem ok_X1_layTo {l : Launch} {E : mEn} {Fu : Nat} {I : mIT} {R : mRT} {L : mLT} {k1 : Nat} {k2 : Nat} {v3 : Int32} (hst : l.stackTraces = false) (hW : mWd R) (hk1 : mO5 R k1) (hk2 : mO9 R k2) {out : mIT} (h : f_X1_layTo Fu I k1 k2 v3 = some out) : mOk l E mX1_layTo [.ref (mB E + 56), .ref (mB E + k1), .ref (mB E + k2), .int v3] 106 1 I R L 0 0 (mSame none 106 1 (out) R L) := by
  refine mOk_of hst (by decide) (Nat.le_of_ble_eq_true rfl) (fun X hC hE _ => ?_)
  have hC : mC X E mX1_layTo RX1 cX1_layTo := hC
  show mG X E 0 [(0, .ref (mB E + 56)), (1, .ref (mB E + k1)), (2, .ref (mB E + k2)), (3, .int v3)] [] 106 1 I R L 0 0
  unfold f_X1_layTo at h
  refine g_aload_n hC dX1_layTo_0 rfl (q := 0) rfl ?_
  refine g_geti hC fd_RX1_28 rfl (by decide) (Or.inl rfl) dX1_layTo_1 ?_
  refine g_if_ne hC dX1_layTo_4 (tgt := 15) (by decide) (fun c4 => ?_) (fun c4 => ?_)
  · replace h := (if_neg c4).symm.trans h
    refine g_aload_n hC dX1_layTo_15 rfl (q := 0) rfl ?_
    refine g_geti hC fd_RX1_28 rfl (by decide) (Or.inl rfl) dX1_layTo_16 ?_
    refine g_istore hC dX1_layTo_19 rfl (by decide) (lv' := [(4, .int (I 56 4)), (0, .ref (mB E + 56)), (1, .ref (mB E + k1)), (2, .ref (mB E + k2)), (3, .int v3)]) rfl ?_
    refine g_lv [1, 2, 4, 0] rfl ?_
    exact wo_X1_layTo_21 hC hW hk1 hk2 hE Fu (v3) ((I 56 4)) (I) h
  · replace h := (if_pos c4).symm.trans h
    refine g_aload_n hC dX1_layTo_7 rfl (q := 0) rfl ?_
    refine g_getr hC fd_RX1_12 rfl (by decide) (C0 := _) (t0 := .int) (Or.inl rfl) (rr_56_0 hW.1) dX1_layTo_8 ?_
    refine g_aload_n hC dX1_layTo_11 rfl (q := 2) rfl ?_
    obtain ⟨r12, h12, h⟩ := oB_some h
    refine g_cV0 hC cv_X9_copyFrom wd_668 ⟨Nat.le_of_ble_eq_true rfl, Nat.le_of_ble_eq_true rfl⟩ rfl (by decide) dX1_layTo_12 (As := [.ref (mB E + k2)]) (st := []) (ok_X9_copyFrom hC.2.2.2.2.2.2.2.1 (ob_57 hW.1) hk2 h12) rfl rfl (Nat.le_of_ble_eq_true rfl) ⟨Nat.zero_le _, Nat.zero_le _⟩ ?_
    refine g_aload_n hC dX1_layTo_15 rfl (q := 0) rfl ?_
    refine g_geti hC fd_RX1_28 rfl (by decide) (Or.inl rfl) dX1_layTo_16 ?_
    refine g_istore hC dX1_layTo_19 rfl (by decide) (lv' := [(4, .int (r12 56 4)), (0, .ref (mB E + 56)), (1, .ref (mB E + k1)), (2, .ref (mB E + k2)), (3, .int v3)]) rfl ?_
    refine g_lv [1, 2, 4, 0] rfl ?_
    exact wo_X1_layTo_21 hC hW hk1 hk2 hE Fu (v3) ((r12 56 4)) (r12) h
noncomputable def f_X1_soundingOn (Fu : Nat) (I : mIT) (v1 : Int32) : Option (Int32) :=
  if v1 < 0 then (some (0 : Int32)) else (if (nI 61) ≤ v1 then (some (0 : Int32)) else (oG (inB v1 61) (some (I 60 (v1).toNatClampNeg))))
set_option maxRecDepth 20000 in
theorem ok_X1_soundingOn {l : Launch} {E : mEn} {Fu : Nat} {I : mIT} {R : mRT} {L : mLT} {v1 : Int32} (hst : l.stackTraces = false) (hW : mWd R)  {out : Int32} (h : f_X1_soundingOn Fu I v1 = some out) : mOk l E mX1_soundingOn [.ref (mB E + 56), .int v1] 106 1 I R L 0 0 (mSame (some (.int (out))) 106 1 I R L) := by
  refine mOk_of hst (by decide) (Nat.le_of_ble_eq_true rfl) (fun X hC hE _ => ?_)
  have hC : mC X E mX1_soundingOn RX1 cX1_soundingOn := hC
  show mG X E 0 [(0, .ref (mB E + 56)), (1, .int v1)] [] 106 1 I R L 0 0
  unfold f_X1_soundingOn at h
  refine g_iload_n hC dX1_soundingOn_0 rfl (q := 1) rfl ?_
  refine g_if_lt hC dX1_soundingOn_1 (tgt := 22) (by decide) (fun c1 => ?_) (fun c1 => ?_)
  · replace h := (if_pos c1).symm.trans h
    refine g_iconst hC dX1_soundingOn_22 (v := (0 : Int32)) (by decide) ?_
    cases h
    exact g_iret hC hE rfl dX1_soundingOn_23 (Nat.zero_le _) (Nat.zero_le _) ⟨rfl, rfl, rfl, rfl, rfl, rfl⟩
  · replace h := (if_neg c1).symm.trans h
    refine g_iload_n hC dX1_soundingOn_4 rfl (q := 1) rfl ?_
    refine g_aload_n hC dX1_soundingOn_5 rfl (q := 0) rfl ?_
    refine g_getr hC fd_RX1_22 rfl (by decide) (C0 := "") (t0 := _) (Or.inr rfl) (rr_56_2 hW.1) dX1_soundingOn_6 ?_
    refine g_alenI hC rfl (by decide) dX1_soundingOn_9 ?_
    refine g_ic_ge hC dX1_soundingOn_10 (tgt := 22) (by decide) (fun c10 => ?_) (fun c10 => ?_)
    · replace h := (if_pos c10).symm.trans h
      refine g_iconst hC dX1_soundingOn_22 (v := (0 : Int32)) (by decide) ?_
      cases h
      exact g_iret hC hE rfl dX1_soundingOn_23 (Nat.zero_le _) (Nat.zero_le _) ⟨rfl, rfl, rfl, rfl, rfl, rfl⟩
    · replace h := (if_neg c10).symm.trans h
      refine g_aload_n hC dX1_soundingOn_13 rfl (q := 0) rfl ?_
      refine g_getr hC fd_RX1_22 rfl (by decide) (C0 := "") (t0 := _) (Or.inr rfl) (rr_56_2 hW.1) dX1_soundingOn_14 ?_
      refine g_iload_n hC dX1_soundingOn_17 rfl (q := 1) rfl ?_
      obtain ⟨g18, h⟩ := oG_some h
      refine g_iald hC rfl (by decide) (inB_in g18) dX1_soundingOn_18 ?_
      refine g_goto hC dX1_soundingOn_19 (tgt := 23) (by decide) ?_
      cases h
      exact g_iret hC hE rfl dX1_soundingOn_23 (Nat.zero_le _) (Nat.zero_le _) ⟨rfl, rfl, rfl, rfl, rfl, rfl⟩
noncomputable def f_X1_noteOn (Fu : Nat) (I : mIT) (v1 : Int32) (v2 : Int32) : Option (Int32) :=
  if ((v1 * (10 : Int32)) + v2) < 0 then (some (0 : Int32)) else (if (nI 610) ≤ ((v1 * (10 : Int32)) + v2) then (some (0 : Int32)) else (oG (inB ((v1 * (10 : Int32)) + v2) 610) (some (I 59 (((v1 * (10 : Int32)) + v2)).toNatClampNeg))))
set_option maxRecDepth 20000 in
theorem ok_X1_noteOn {l : Launch} {E : mEn} {Fu : Nat} {I : mIT} {R : mRT} {L : mLT} {v1 : Int32} {v2 : Int32} (hst : l.stackTraces = false) (hW : mWd R)  {out : Int32} (h : f_X1_noteOn Fu I v1 v2 = some out) : mOk l E mX1_noteOn [.ref (mB E + 56), .int v1, .int v2] 106 1 I R L 0 0 (mSame (some (.int (out))) 106 1 I R L) := by
  refine mOk_of hst (by decide) (Nat.le_of_ble_eq_true rfl) (fun X hC hE _ => ?_)
  have hC : mC X E mX1_noteOn RX1 cX1_noteOn := hC
  show mG X E 0 [(0, .ref (mB E + 56)), (1, .int v1), (2, .int v2)] [] 106 1 I R L 0 0
  unfold f_X1_noteOn at h
  refine g_iload_n hC dX1_noteOn_0 rfl (q := 1) rfl ?_
  refine g_bipush hC dX1_noteOn_1 (v := (10 : Int32)) (by decide) ?_
  refine g_imul hC dX1_noteOn_3 ?_
  refine g_iload_n hC dX1_noteOn_4 rfl (q := 2) rfl ?_
  refine g_iadd hC dX1_noteOn_5 ?_
  refine g_istore_n hC dX1_noteOn_6 rfl rfl (by decide) (lv' := [(3, .int ((v1 * (10 : Int32)) + v2)), (0, .ref (mB E + 56)), (1, .int v1), (2, .int v2)]) rfl ?_
  refine g_iload_n hC dX1_noteOn_7 rfl (q := 0) rfl ?_
  refine g_if_lt hC dX1_noteOn_8 (tgt := 29) (by decide) (fun c8 => ?_) (fun c8 => ?_)
  · replace h := (if_pos c8).symm.trans h
    refine g_iconst hC dX1_noteOn_29 (v := (0 : Int32)) (by decide) ?_
    cases h
    exact g_iret hC hE rfl dX1_noteOn_30 (Nat.zero_le _) (Nat.zero_le _) ⟨rfl, rfl, rfl, rfl, rfl, rfl⟩
  · replace h := (if_neg c8).symm.trans h
    refine g_iload_n hC dX1_noteOn_11 rfl (q := 0) rfl ?_
    refine g_aload_n hC dX1_noteOn_12 rfl (q := 1) rfl ?_
    refine g_getr hC fd_RX1_18 rfl (by decide) (C0 := "") (t0 := _) (Or.inr rfl) (rr_56_1 hW.1) dX1_noteOn_13 ?_
    refine g_alenI hC rfl (by decide) dX1_noteOn_16 ?_
    refine g_ic_ge hC dX1_noteOn_17 (tgt := 29) (by decide) (fun c17 => ?_) (fun c17 => ?_)
    · replace h := (if_pos c17).symm.trans h
      refine g_iconst hC dX1_noteOn_29 (v := (0 : Int32)) (by decide) ?_
      cases h
      exact g_iret hC hE rfl dX1_noteOn_30 (Nat.zero_le _) (Nat.zero_le _) ⟨rfl, rfl, rfl, rfl, rfl, rfl⟩
    · replace h := (if_neg c17).symm.trans h
      refine g_aload_n hC dX1_noteOn_20 rfl (q := 1) rfl ?_
      refine g_getr hC fd_RX1_18 rfl (by decide) (C0 := "") (t0 := _) (Or.inr rfl) (rr_56_1 hW.1) dX1_noteOn_21 ?_
      refine g_iload_n hC dX1_noteOn_24 rfl (q := 0) rfl ?_
      obtain ⟨g25, h⟩ := oG_some h
      refine g_iald hC rfl (by decide) (inB_in g25) dX1_noteOn_25 ?_
      refine g_goto hC dX1_noteOn_26 (tgt := 30) (by decide) ?_
      cases h
      exact g_iret hC hE rfl dX1_noteOn_30 (Nat.zero_le _) (Nat.zero_le _) ⟨rfl, rfl, rfl, rfl, rfl, rfl⟩
noncomputable def b_X1_noteBits_5 (Fu : Nat) (I : mIT) (k5_ : Int32 × Int32 × Int32 × Int32 → Option (Int32)) (v1 : Int32) (v2 : Int32) (v3 : Int32) (v4 : Int32) : Option (Int32) :=
  if (10 : Int32) ≤ v4 then (some (v3)) else (if ((v2 >>> (v4 &&& 31)) &&& (1 : Int32)) = (1 : Int32) then (oB (f_X1_noteOn Fu I v1 v4) (fun r28 => k5_ (v1, v2, (v3 ||| ((1 : Int32) <<< (r28 &&& 31))), (v4 + (1 : Int32))))) else (k5_ (v1, v2, v3, (v4 + (1 : Int32)))))
set_option maxRecDepth 20000 in
theorem bo_X1_noteBits_5 {X : mXT} {E : mEn} {Fu : Nat} {I : mIT} {R : mRT} {L : mLT}  (hC : mC X E mX1_noteBits RX1 cX1_noteBits) (hW : mWd R)   {out : Int32} (hE : mEd X E 0 0 (mSame (some (.int (out))) 106 1 I R L)) (k5_ : Int32 × Int32 × Int32 × Int32 → Option (Int32)) (hk5_ : ∀ (v1 : Int32) (v2 : Int32) (v3 : Int32) (v4 : Int32),  k5_ (v1, v2, v3, v4) = some out → mG X E 5 [(0, .ref (mB E + 56)), (1, .int v1), (2, .int v2), (3, .int v3), (4, .int v4)] [] 106 1 I R L 0 0) (v1 : Int32) (v2 : Int32) (v3 : Int32) (v4 : Int32) (h : b_X1_noteBits_5 Fu I k5_ v1 v2 v3 v4 = some out) : mG X E 5 [(0, .ref (mB E + 56)), (1, .int v1), (2, .int v2), (3, .int v3), (4, .int v4)] [] 106 1 I R L 0 0 := by
  unfold b_X1_noteBits_5 at h
  refine g_iload hC dX1_noteBits_5 (q := 4) rfl ?_
  refine g_bipush hC dX1_noteBits_7 (v := (10 : Int32)) (by decide) ?_
  refine g_ic_ge hC dX1_noteBits_9 (tgt := 40) (by decide) (fun c9 => ?_) (fun c9 => ?_)
  · replace h := (if_pos c9).symm.trans h
    refine g_iload_n hC dX1_noteBits_40 rfl (q := 3) rfl ?_
    cases h
    exact g_iret hC hE rfl dX1_noteBits_41 (Nat.zero_le _) (Nat.zero_le _) ⟨rfl, rfl, rfl, rfl, rfl, rfl⟩
  · replace h := (if_neg c9).symm.trans h
    refine g_iload_n hC dX1_noteBits_12 rfl (q := 2) rfl ?_
    refine g_iload hC dX1_noteBits_13 (q := 4) rfl ?_
    refine g_ishr hC dX1_noteBits_15 ?_
    refine g_iconst hC dX1_noteBits_16 (v := (1 : Int32)) (by decide) ?_
    refine g_iand hC dX1_noteBits_17 ?_
    refine g_iconst hC dX1_noteBits_18 (v := (1 : Int32)) (by decide) ?_
    refine g_ic_ne hC dX1_noteBits_19 (tgt := 34) (by decide) (fun c19 => ?_) (fun c19 => ?_)
    · replace h := (if_neg c19).symm.trans h
      refine g_iinc hC dX1_noteBits_34 rfl (q := 4) rfl (w := (v4 + (1 : Int32))) rfl (by decide) (lv' := [(4, .int (v4 + (1 : Int32))), (0, .ref (mB E + 56)), (1, .int v1), (2, .int v2), (3, .int v3)]) rfl ?_
      refine g_goto hC dX1_noteBits_37 (tgt := 5) (by decide) ?_
      refine g_lv [1, 2, 3, 4, 0] rfl ?_
      exact hk5_ v1 v2 v3 (v4 + (1 : Int32)) h
    · replace h := (if_pos c19).symm.trans h
      refine g_iload_n hC dX1_noteBits_22 rfl (q := 3) rfl ?_
      refine g_iconst hC dX1_noteBits_23 (v := (1 : Int32)) (by decide) ?_
      refine g_aload_n hC dX1_noteBits_24 rfl (q := 0) rfl ?_
      refine g_iload_n hC dX1_noteBits_25 rfl (q := 1) rfl ?_
      refine g_iload hC dX1_noteBits_26 (q := 4) rfl ?_
      obtain ⟨r28, h28, h⟩ := oB_some h
      refine g_cV1 hC cv_X1_noteOn wd_703 ⟨Nat.le_of_ble_eq_true rfl, Nat.le_of_ble_eq_true rfl⟩ rfl (by decide) dX1_noteBits_28 (As := [.int v1, .int v4]) (st := [.int (1 : Int32), .int v3]) (ok_X1_noteOn hC.2.2.2.2.2.2.2.1 hW h28) rfl rfl (Nat.le_of_ble_eq_true rfl) ⟨Nat.zero_le _, Nat.zero_le _⟩ ?_
      refine g_ishl hC dX1_noteBits_31 ?_
      refine g_ior hC dX1_noteBits_32 ?_
      refine g_istore_n hC dX1_noteBits_33 rfl rfl (by decide) (lv' := [(3, .int (v3 ||| ((1 : Int32) <<< (r28 &&& 31)))), (0, .ref (mB E + 56)), (1, .int v1), (2, .int v2), (4, .int v4)]) rfl ?_
      refine g_iinc hC dX1_noteBits_34 rfl (q := 4) rfl (w := (v4 + (1 : Int32))) rfl (by decide) (lv' := [(4, .int (v4 + (1 : Int32))), (3, .int (v3 ||| ((1 : Int32) <<< (r28 &&& 31)))), (0, .ref (mB E + 56)), (1, .int v1), (2, .int v2)]) rfl ?_
      refine g_goto hC dX1_noteBits_37 (tgt := 5) (by decide) ?_
      refine g_lv [2, 3, 4, 1, 0] rfl ?_
      exact hk5_ v1 v2 (v3 ||| ((1 : Int32) <<< (r28 &&& 31))) (v4 + (1 : Int32)) h
noncomputable def w_X1_noteBits_5 (Fu : Nat) (I : mIT)  (N : Nat) (v1 : Int32) (v2 : Int32) (v3 : Int32) (v4 : Int32) : Option (Int32) :=
  loopF (fun self (s : Int32 × Int32 × Int32 × Int32) => b_X1_noteBits_5 Fu I self s.1 s.2.1 s.2.2.1 s.2.2.2) N (v1, v2, v3, v4)
theorem wo_X1_noteBits_5 {X : mXT} {E : mEn} {Fu : Nat} {I : mIT} {R : mRT} {L : mLT}  (hC : mC X E mX1_noteBits RX1 cX1_noteBits) (hW : mWd R)   {out : Int32} (hE : mEd X E 0 0 (mSame (some (.int (out))) 106 1 I R L))  (N : Nat) (v1 : Int32) (v2 : Int32) (v3 : Int32) (v4 : Int32) (h : w_X1_noteBits_5 Fu I  N v1 v2 v3 v4 = some out) : mG X E 5 [(0, .ref (mB E + 56)), (1, .int v1), (2, .int v2), (3, .int v3), (4, .int v4)] [] 106 1 I R L 0 0 :=
  loopF_ok (Gd := fun s : Int32 × Int32 × Int32 × Int32 => mG X E 5 [(0, .ref (mB E + 56)), (1, .int s.1), (2, .int s.2.1), (3, .int s.2.2.1), (4, .int s.2.2.2)] [] 106 1 I R L 0 0) (fun self hs s h => bo_X1_noteBits_5 hC hW hE self (fun v1 v2 v3 v4 h => hs (v1, v2, v3, v4) h) s.1 s.2.1 s.2.2.1 s.2.2.2 h) N (v1, v2, v3, v4) h
noncomputable def f_X1_noteBits (Fu : Nat) (I : mIT) (v1 : Int32) (v2 : Int32) : Option (Int32) :=
  w_X1_noteBits_5 Fu I Fu v1 v2 (0 : Int32) (0 : Int32)
set_option maxRecDepth 20000 in
theorem ok_X1_noteBits {l : Launch} {E : mEn} {Fu : Nat} {I : mIT} {R : mRT} {L : mLT} {v1 : Int32} {v2 : Int32} (hst : l.stackTraces = false) (hW : mWd R)  {out : Int32} (h : f_X1_noteBits Fu I v1 v2 = some out) : mOk l E mX1_noteBits [.ref (mB E + 56), .int v1, .int v2] 106 1 I R L 0 0 (mSame (some (.int (out))) 106 1 I R L) := by
  refine mOk_of hst (by decide) (Nat.le_of_ble_eq_true rfl) (fun X hC hE _ => ?_)
  have hC : mC X E mX1_noteBits RX1 cX1_noteBits := hC
  show mG X E 0 [(0, .ref (mB E + 56)), (1, .int v1), (2, .int v2)] [] 106 1 I R L 0 0
  unfold f_X1_noteBits at h
  refine g_iconst hC dX1_noteBits_0 (v := (0 : Int32)) (by decide) ?_
  refine g_istore_n hC dX1_noteBits_1 rfl rfl (by decide) (lv' := [(3, .int (0 : Int32)), (0, .ref (mB E + 56)), (1, .int v1), (2, .int v2)]) rfl ?_
  refine g_iconst hC dX1_noteBits_2 (v := (0 : Int32)) (by decide) ?_
  refine g_istore hC dX1_noteBits_3 rfl (by decide) (lv' := [(4, .int (0 : Int32)), (3, .int (0 : Int32)), (0, .ref (mB E + 56)), (1, .int v1), (2, .int v2)]) rfl ?_
  refine g_lv [2, 3, 4, 1, 0] rfl ?_
  exact wo_X1_noteBits_5 hC hW hE Fu (v1) (v2) ((0 : Int32)) ((0 : Int32)) h
noncomputable def f_X4_many (Fu : Nat) (I : mIT) (k0 : Nat) : Option (Int32) :=
  some (I k0 3)
set_option maxRecDepth 20000 in
theorem ok_X4_many {l : Launch} {E : mEn} {Fu : Nat} {I : mIT} {R : mRT} {L : mLT} {k0 : Nat} (hst : l.stackTraces = false) (hk0 : mO4 R k0) {out : Int32} (h : f_X4_many Fu I k0 = some out) : mOk l E mX4_many [.ref (mB E + k0)] 106 1 I R L 0 0 (mSame (some (.int (out))) 106 1 I R L) := by
  refine mOk_of hst (by decide) (Nat.le_of_ble_eq_true rfl) (fun X hC hE _ => ?_)
  have hC : mC X E mX4_many RX4 cX4_many := hC
  show mG X E 0 [(0, .ref (mB E + k0))] [] 106 1 I R L 0 0
  unfold f_X4_many at h
  refine g_aload_n hC dX4_many_0 rfl (q := 0) rfl ?_
  refine g_geti hC fd_RX4_21 hk0.2.1 hk0.1 (Or.inl rfl) dX4_many_1 ?_
  cases h
  exact g_iret hC hE rfl dX4_many_4 (Nat.zero_le _) (Nat.zero_le _) ⟨rfl, rfl, rfl, rfl, rfl, rfl⟩
noncomputable def f_X1_firmOn (Fu : Nat) (I : mIT) (v1 : Int32) : Option (Int32) :=
  if v1 < 0 then (some (0 : Int32)) else (if (nI 61) ≤ v1 then (some (0 : Int32)) else (oG (inB v1 61) (some (I 61 (v1).toNatClampNeg))))
set_option maxRecDepth 20000 in
theorem ok_X1_firmOn {l : Launch} {E : mEn} {Fu : Nat} {I : mIT} {R : mRT} {L : mLT} {v1 : Int32} (hst : l.stackTraces = false) (hW : mWd R)  {out : Int32} (h : f_X1_firmOn Fu I v1 = some out) : mOk l E mX1_firmOn [.ref (mB E + 56), .int v1] 106 1 I R L 0 0 (mSame (some (.int (out))) 106 1 I R L) := by
  refine mOk_of hst (by decide) (Nat.le_of_ble_eq_true rfl) (fun X hC hE _ => ?_)
  have hC : mC X E mX1_firmOn RX1 cX1_firmOn := hC
  show mG X E 0 [(0, .ref (mB E + 56)), (1, .int v1)] [] 106 1 I R L 0 0
  unfold f_X1_firmOn at h
  refine g_iload_n hC dX1_firmOn_0 rfl (q := 1) rfl ?_
  refine g_if_lt hC dX1_firmOn_1 (tgt := 22) (by decide) (fun c1 => ?_) (fun c1 => ?_)
  · replace h := (if_pos c1).symm.trans h
    refine g_iconst hC dX1_firmOn_22 (v := (0 : Int32)) (by decide) ?_
    cases h
    exact g_iret hC hE rfl dX1_firmOn_23 (Nat.zero_le _) (Nat.zero_le _) ⟨rfl, rfl, rfl, rfl, rfl, rfl⟩
  · replace h := (if_neg c1).symm.trans h
    refine g_iload_n hC dX1_firmOn_4 rfl (q := 1) rfl ?_
    refine g_aload_n hC dX1_firmOn_5 rfl (q := 0) rfl ?_
    refine g_getr hC fd_RX1_25 rfl (by decide) (C0 := "") (t0 := _) (Or.inr rfl) (rr_56_3 hW.1) dX1_firmOn_6 ?_
    refine g_alenI hC rfl (by decide) dX1_firmOn_9 ?_
    refine g_ic_ge hC dX1_firmOn_10 (tgt := 22) (by decide) (fun c10 => ?_) (fun c10 => ?_)
    · replace h := (if_pos c10).symm.trans h
      refine g_iconst hC dX1_firmOn_22 (v := (0 : Int32)) (by decide) ?_
      cases h
      exact g_iret hC hE rfl dX1_firmOn_23 (Nat.zero_le _) (Nat.zero_le _) ⟨rfl, rfl, rfl, rfl, rfl, rfl⟩
    · replace h := (if_neg c10).symm.trans h
      refine g_aload_n hC dX1_firmOn_13 rfl (q := 0) rfl ?_
      refine g_getr hC fd_RX1_25 rfl (by decide) (C0 := "") (t0 := _) (Or.inr rfl) (rr_56_3 hW.1) dX1_firmOn_14 ?_
      refine g_iload_n hC dX1_firmOn_17 rfl (q := 1) rfl ?_
      obtain ⟨g18, h⟩ := oG_some h
      refine g_iald hC rfl (by decide) (inB_in g18) dX1_firmOn_18 ?_
      refine g_goto hC dX1_firmOn_19 (tgt := 23) (by decide) ?_
      cases h
      exact g_iret hC hE rfl dX1_firmOn_23 (Nat.zero_le _) (Nat.zero_le _) ⟨rfl, rfl, rfl, rfl, rfl, rfl⟩
noncomputable def f_X5_isTuneIn (Fu : Nat) (I : mIT) (k0 : Nat) (v1 : Int32) : Option (Int32) :=
  if ((I k0 7) &&& (v1 ^^^ (-1 : Int32))) = 0 then (some (1 : Int32)) else (some (0 : Int32))
set_option maxRecDepth 20000 in
theorem ok_X5_isTuneIn {l : Launch} {E : mEn} {Fu : Nat} {I : mIT} {R : mRT} {L : mLT} {k0 : Nat} {v1 : Int32} (hst : l.stackTraces = false) (hk0 : mO5 R k0) {out : Int32} (h : f_X5_isTuneIn Fu I k0 v1 = some out) : mOk l E mX5_isTuneIn [.ref (mB E + k0), .int v1] 106 1 I R L 0 0 (mSame (some (.int (out))) 106 1 I R L) := by
  refine mOk_of hst (by decide) (Nat.le_of_ble_eq_true rfl) (fun X hC hE _ => ?_)
  have hC : mC X E mX5_isTuneIn RX5 cX5_isTuneIn := hC
  show mG X E 0 [(0, .ref (mB E + k0)), (1, .int v1)] [] 106 1 I R L 0 0
  unfold f_X5_isTuneIn at h
  refine g_aload_n hC dX5_isTuneIn_0 rfl (q := 0) rfl ?_
  refine g_geti hC fd_RX5_34 hk0.2.1 hk0.1 (Or.inl rfl) dX5_isTuneIn_1 ?_
  refine g_iload_n hC dX5_isTuneIn_4 rfl (q := 1) rfl ?_
  refine g_iconst hC dX5_isTuneIn_5 (v := (-1 : Int32)) (by decide) ?_
  refine g_ixor hC dX5_isTuneIn_6 ?_
  refine g_iand hC dX5_isTuneIn_7 ?_
  refine g_if_ne hC dX5_isTuneIn_8 (tgt := 15) (by decide) (fun c8 => ?_) (fun c8 => ?_)
  · replace h := (if_neg c8).symm.trans h
    refine g_iconst hC dX5_isTuneIn_15 (v := (0 : Int32)) (by decide) ?_
    cases h
    exact g_zret hC (by decide) hE rfl dX5_isTuneIn_16 (Nat.zero_le _) (Nat.zero_le _) ⟨rfl, rfl, rfl, rfl, rfl, rfl⟩
  · replace h := (if_pos c8).symm.trans h
    refine g_iconst hC dX5_isTuneIn_11 (v := (1 : Int32)) (by decide) ?_
    refine g_goto hC dX5_isTuneIn_12 (tgt := 16) (by decide) ?_
    cases h
    exact g_zret hC (by decide) hE rfl dX5_isTuneIn_16 (Nat.zero_le _) (Nat.zero_le _) ⟨rfl, rfl, rfl, rfl, rfl, rfl⟩
noncomputable def f_X4_dayOf (Fu : Nat) (I : mIT) (k0 : Nat) (v1 : Int32) : Option (Int32) :=
  if v1 < 0 then (some (0 : Int32)) else (if (nI 8) ≤ v1 then (some (0 : Int32)) else (oG (inB v1 8) (some (I (k0 + 1) (v1).toNatClampNeg))))
set_option maxRecDepth 20000 in
theorem ok_X4_dayOf {l : Launch} {E : mEn} {Fu : Nat} {I : mIT} {R : mRT} {L : mLT} {k0 : Nat} {v1 : Int32} (hst : l.stackTraces = false) (hk0 : mO4 R k0) {out : Int32} (h : f_X4_dayOf Fu I k0 v1 = some out) : mOk l E mX4_dayOf [.ref (mB E + k0), .int v1] 106 1 I R L 0 0 (mSame (some (.int (out))) 106 1 I R L) := by
  refine mOk_of hst (by decide) (Nat.le_of_ble_eq_true rfl) (fun X hC hE _ => ?_)
  have hC : mC X E mX4_dayOf RX4 cX4_dayOf := hC
  show mG X E 0 [(0, .ref (mB E + k0)), (1, .int v1)] [] 106 1 I R L 0 0
  unfold f_X4_dayOf at h
  refine g_iload_n hC dX4_dayOf_0 rfl (q := 1) rfl ?_
  refine g_if_lt hC dX4_dayOf_1 (tgt := 22) (by decide) (fun c1 => ?_) (fun c1 => ?_)
  · replace h := (if_pos c1).symm.trans h
    refine g_iconst hC dX4_dayOf_22 (v := (0 : Int32)) (by decide) ?_
    cases h
    exact g_iret hC hE rfl dX4_dayOf_23 (Nat.zero_le _) (Nat.zero_le _) ⟨rfl, rfl, rfl, rfl, rfl, rfl⟩
  · replace h := (if_neg c1).symm.trans h
    refine g_iload_n hC dX4_dayOf_4 rfl (q := 1) rfl ?_
    refine g_aload_n hC dX4_dayOf_5 rfl (q := 0) rfl ?_
    refine g_getr hC fd_RX4_9 hk0.2.1 hk0.1 (C0 := "") (t0 := _) (Or.inr rfl) hk0.2.2.1.1 dX4_dayOf_6 ?_
    refine g_alenI hC hk0.2.2.1.2.2 hk0.2.2.1.2.1 dX4_dayOf_9 ?_
    refine g_ic_ge hC dX4_dayOf_10 (tgt := 22) (by decide) (fun c10 => ?_) (fun c10 => ?_)
    · replace h := (if_pos c10).symm.trans h
      refine g_iconst hC dX4_dayOf_22 (v := (0 : Int32)) (by decide) ?_
      cases h
      exact g_iret hC hE rfl dX4_dayOf_23 (Nat.zero_le _) (Nat.zero_le _) ⟨rfl, rfl, rfl, rfl, rfl, rfl⟩
    · replace h := (if_neg c10).symm.trans h
      refine g_aload_n hC dX4_dayOf_13 rfl (q := 0) rfl ?_
      refine g_getr hC fd_RX4_9 hk0.2.1 hk0.1 (C0 := "") (t0 := _) (Or.inr rfl) hk0.2.2.1.1 dX4_dayOf_14 ?_
      refine g_iload_n hC dX4_dayOf_17 rfl (q := 1) rfl ?_
      obtain ⟨g18, h⟩ := oG_some h
      refine g_iald hC hk0.2.2.1.2.2 hk0.2.2.1.2.1 (inB_in g18) dX4_dayOf_18 ?_
      refine g_goto hC dX4_dayOf_19 (tgt := 23) (by decide) ?_
      cases h
      exact g_iret hC hE rfl dX4_dayOf_23 (Nat.zero_le _) (Nat.zero_le _) ⟨rfl, rfl, rfl, rfl, rfl, rfl⟩
noncomputable def f_X4_isSo (Fu : Nat) (I : mIT) (k0 : Nat) (v1 : Int32) (v2 : Int32) : Option (Int32) :=
  if v1 < 0 then (some (0 : Int32)) else (if (nI 8) ≤ v1 then (some (0 : Int32)) else (if (nI 8) ≤ v1 then (some (0 : Int32)) else (oG (inB v1 8) (oG (inB v1 8) (if ((v2 >>> ((I (k0 + 2) (v1).toNatClampNeg) &&& 31)) &&& (1 : Int32)) = (I (k0 + 3) (v1).toNatClampNeg) then (some (1 : Int32)) else (some (0 : Int32)))))))
set_option maxRecDepth 20000 in
theorem ok_X4_isSo {l : Launch} {E : mEn} {Fu : Nat} {I : mIT} {R : mRT} {L : mLT} {k0 : Nat} {v1 : Int32} {v2 : Int32} (hst : l.stackTraces = false) (hk0 : mO4 R k0) {out : Int32} (h : f_X4_isSo Fu I k0 v1 v2 = some out) : mOk l E mX4_isSo [.ref (mB E + k0), .int v1, .int v2] 106 1 I R L 0 0 (mSame (some (.int (out))) 106 1 I R L) := by
  refine mOk_of hst (by decide) (Nat.le_of_ble_eq_true rfl) (fun X hC hE _ => ?_)
  have hC : mC X E mX4_isSo RX4 cX4_isSo := hC
  show mG X E 0 [(0, .ref (mB E + k0)), (1, .int v1), (2, .int v2)] [] 106 1 I R L 0 0
  unfold f_X4_isSo at h
  refine g_iload_n hC dX4_isSo_0 rfl (q := 1) rfl ?_
  refine g_if_lt hC dX4_isSo_1 (tgt := 45) (by decide) (fun c1 => ?_) (fun c1 => ?_)
  · replace h := (if_pos c1).symm.trans h
    refine g_iconst hC dX4_isSo_45 (v := (0 : Int32)) (by decide) ?_
    cases h
    exact g_zret hC (by decide) hE rfl dX4_isSo_46 (Nat.zero_le _) (Nat.zero_le _) ⟨rfl, rfl, rfl, rfl, rfl, rfl⟩
  · replace h := (if_neg c1).symm.trans h
    refine g_iload_n hC dX4_isSo_4 rfl (q := 1) rfl ?_
    refine g_aload_n hC dX4_isSo_5 rfl (q := 0) rfl ?_
    refine g_getr hC fd_RX4_15 hk0.2.1 hk0.1 (C0 := "") (t0 := _) (Or.inr rfl) hk0.2.2.2.1.1 dX4_isSo_6 ?_
    refine g_alenI hC hk0.2.2.2.1.2.2 hk0.2.2.2.1.2.1 dX4_isSo_9 ?_
    refine g_ic_ge hC dX4_isSo_10 (tgt := 45) (by decide) (fun c10 => ?_) (fun c10 => ?_)
    · replace h := (if_pos c10).symm.trans h
      refine g_iconst hC dX4_isSo_45 (v := (0 : Int32)) (by decide) ?_
      cases h
      exact g_zret hC (by decide) hE rfl dX4_isSo_46 (Nat.zero_le _) (Nat.zero_le _) ⟨rfl, rfl, rfl, rfl, rfl, rfl⟩
    · replace h := (if_neg c10).symm.trans h
      refine g_iload_n hC dX4_isSo_13 rfl (q := 1) rfl ?_
      refine g_aload_n hC dX4_isSo_14 rfl (q := 0) rfl ?_
      refine g_getr hC fd_RX4_18 hk0.2.1 hk0.1 (C0 := "") (t0 := _) (Or.inr rfl) hk0.2.2.2.2.1 dX4_isSo_15 ?_
      refine g_alenI hC hk0.2.2.2.2.2.2 hk0.2.2.2.2.2.1 dX4_isSo_18 ?_
      refine g_ic_ge hC dX4_isSo_19 (tgt := 45) (by decide) (fun c19 => ?_) (fun c19 => ?_)
      · replace h := (if_pos c19).symm.trans h
        refine g_iconst hC dX4_isSo_45 (v := (0 : Int32)) (by decide) ?_
        cases h
        exact g_zret hC (by decide) hE rfl dX4_isSo_46 (Nat.zero_le _) (Nat.zero_le _) ⟨rfl, rfl, rfl, rfl, rfl, rfl⟩
      · replace h := (if_neg c19).symm.trans h
        refine g_iload_n hC dX4_isSo_22 rfl (q := 2) rfl ?_
        refine g_aload_n hC dX4_isSo_23 rfl (q := 0) rfl ?_
        refine g_getr hC fd_RX4_15 hk0.2.1 hk0.1 (C0 := "") (t0 := _) (Or.inr rfl) hk0.2.2.2.1.1 dX4_isSo_24 ?_
        refine g_iload_n hC dX4_isSo_27 rfl (q := 1) rfl ?_
        obtain ⟨g28, h⟩ := oG_some h
        refine g_iald hC hk0.2.2.2.1.2.2 hk0.2.2.2.1.2.1 (inB_in g28) dX4_isSo_28 ?_
        refine g_ishr hC dX4_isSo_29 ?_
        refine g_iconst hC dX4_isSo_30 (v := (1 : Int32)) (by decide) ?_
        refine g_iand hC dX4_isSo_31 ?_
        refine g_aload_n hC dX4_isSo_32 rfl (q := 0) rfl ?_
        refine g_getr hC fd_RX4_18 hk0.2.1 hk0.1 (C0 := "") (t0 := _) (Or.inr rfl) hk0.2.2.2.2.1 dX4_isSo_33 ?_
        refine g_iload_n hC dX4_isSo_36 rfl (q := 1) rfl ?_
        obtain ⟨g37, h⟩ := oG_some h
        refine g_iald hC hk0.2.2.2.2.2.2 hk0.2.2.2.2.2.1 (inB_in g37) dX4_isSo_37 ?_
        refine g_ic_ne hC dX4_isSo_38 (tgt := 45) (by decide) (fun c38 => ?_) (fun c38 => ?_)
        · replace h := (if_neg c38).symm.trans h
          refine g_iconst hC dX4_isSo_45 (v := (0 : Int32)) (by decide) ?_
          cases h
          exact g_zret hC (by decide) hE rfl dX4_isSo_46 (Nat.zero_le _) (Nat.zero_le _) ⟨rfl, rfl, rfl, rfl, rfl, rfl⟩
        · replace h := (if_pos c38).symm.trans h
          refine g_iconst hC dX4_isSo_41 (v := (1 : Int32)) (by decide) ?_
          refine g_goto hC dX4_isSo_42 (tgt := 46) (by decide) ?_
          cases h
          exact g_zret hC (by decide) hE rfl dX4_isSo_46 (Nat.zero_le _) (Nat.zero_le _) ⟨rfl, rfl, rfl, rfl, rfl, rfl⟩
noncomputable def b_X3_agrees_50 (Fu : Nat) (I : mIT) (k2 : Nat) (k9_ : Int32 × Int32 × Int32 × Int32 → Option (Int32)) (v3 : Int32) (v4 : Int32) (v5 : Int32) (v6 : Int32) (v7 : Int32) (s0 : Int32) : Option (Int32) :=
  oB (f_X1_noteBits Fu I v7 s0) (fun r60 => oB (f_X4_isSo Fu I k2 v6 r60) (fun r63 => if r63 = 0 then (some (0 : Int32)) else (k9_ (v3, v4, v5, (v6 + (1 : Int32))))))
set_option maxRecDepth 20000 in
theorem bo_X3_agrees_50 {X : mXT} {E : mEn} {Fu : Nat} {I : mIT} {R : mRT} {L : mLT} {k2 : Nat} (hC : mC X E mX3_agrees RX3 cX3_agrees) (hW : mWd R) (hk2 : mO4 R k2)  {out : Int32} (hE : mEd X E 0 0 (mSame (some (.int (out))) 106 1 I R L)) (k9_ : Int32 × Int32 × Int32 × Int32 → Option (Int32)) (hk9_ : ∀ (v3 : Int32) (v4 : Int32) (v5 : Int32) (v6 : Int32),  k9_ (v3, v4, v5, v6) = some out → mG X E 9 [(1, .ref (mB E + 56)), (2, .ref (mB E + k2)), (3, .int v3), (4, .int v4), (5, .int v5), (6, .int v6)] [] 106 1 I R L 0 0) (v3 : Int32) (v4 : Int32) (v5 : Int32) (v6 : Int32) (v7 : Int32) (s0 : Int32) (h : b_X3_agrees_50 Fu I k2 k9_ v3 v4 v5 v6 v7 s0 = some out) : mG X E 50 [(1, .ref (mB E + 56)), (2, .ref (mB E + k2)), (3, .int v3), (4, .int v4), (5, .int v5), (6, .int v6), (7, .int v7)] [.int s0] 106 1 I R L 0 0 := by
  unfold b_X3_agrees_50 at h
  refine g_istore hC dX3_agrees_50 rfl (by decide) (lv' := [(9, .int s0), (1, .ref (mB E + 56)), (2, .ref (mB E + k2)), (3, .int v3), (4, .int v4), (5, .int v5), (6, .int v6), (7, .int v7)]) rfl ?_
  refine g_aload_n hC dX3_agrees_52 rfl (q := 2) rfl ?_
  refine g_iload hC dX3_agrees_53 (q := 6) rfl ?_
  refine g_aload_n hC dX3_agrees_55 rfl (q := 1) rfl ?_
  refine g_iload hC dX3_agrees_56 (q := 7) rfl ?_
  refine g_iload hC dX3_agrees_58 (q := 0) rfl ?_
  obtain ⟨r60, h60, h⟩ := oB_some h
  refine g_cV1 hC cv_X1_noteBits wd_1420 ⟨Nat.le_of_ble_eq_true rfl, Nat.le_of_ble_eq_true rfl⟩ rfl (by decide) dX3_agrees_60 (As := [.int v7, .int s0]) (st := [.int v6, .ref (mB E + k2)]) (ok_X1_noteBits hC.2.2.2.2.2.2.2.1 hW h60) rfl rfl (Nat.le_of_ble_eq_true rfl) ⟨Nat.zero_le _, Nat.zero_le _⟩ ?_
  obtain ⟨r63, h63, h⟩ := oB_some h
  refine g_cV1 hC cv_X4_isSo wd_1421 ⟨Nat.le_of_ble_eq_true rfl, Nat.le_of_ble_eq_true rfl⟩ hk2.2.1 hk2.1 dX3_agrees_63 (As := [.int v6, .int r60]) (st := []) (ok_X4_isSo hC.2.2.2.2.2.2.2.1 hk2 h63) rfl rfl (Nat.le_of_ble_eq_true rfl) ⟨Nat.zero_le _, Nat.zero_le _⟩ ?_
  refine g_if_ne hC dX3_agrees_66 (tgt := 71) (by decide) (fun c66 => ?_) (fun c66 => ?_)
  · replace h := (if_neg c66).symm.trans h
    refine g_iinc hC dX3_agrees_71 rfl (q := 6) rfl (w := (v6 + (1 : Int32))) rfl (by decide) (lv' := [(6, .int (v6 + (1 : Int32))), (9, .int s0), (1, .ref (mB E + 56)), (2, .ref (mB E + k2)), (3, .int v3), (4, .int v4), (5, .int v5), (7, .int v7)]) rfl ?_
    refine g_goto hC dX3_agrees_74 (tgt := 9) (by decide) ?_
    refine g_lv [2, 3, 4, 5, 6, 0] rfl ?_
    exact hk9_ v3 v4 v5 (v6 + (1 : Int32)) h
  · replace h := (if_pos c66).symm.trans h
    refine g_iconst hC dX3_agrees_69 (v := (0 : Int32)) (by decide) ?_
    cases h
    exact g_zret hC (by decide) hE rfl dX3_agrees_70 (Nat.zero_le _) (Nat.zero_le _) ⟨rfl, rfl, rfl, rfl, rfl, rfl⟩
noncomputable def b_X3_agrees_9 (Fu : Nat) (I : mIT) (k2 : Nat) (k9_ : Int32 × Int32 × Int32 × Int32 → Option (Int32)) (v3 : Int32) (v4 : Int32) (v5 : Int32) (v6 : Int32) : Option (Int32) :=
  if v5 ≤ v6 then (some (1 : Int32)) else (oB (f_X4_dayOf Fu I k2 v6) (fun r19 => oB (f_X1_soundingOn Fu I r19) (fun r27 => if r19 < v4 then (b_X3_agrees_50 Fu I k2 k9_ v3 v4 v5 v6 r19 r27) else (b_X3_agrees_50 Fu I k2 k9_ v3 v4 v5 v6 r19 (r27 &&& (v3 ^^^ (-1 : Int32)))))))
set_option maxRecDepth 20000 in
theorem bo_X3_agrees_9 {X : mXT} {E : mEn} {Fu : Nat} {I : mIT} {R : mRT} {L : mLT} {k2 : Nat} (hC : mC X E mX3_agrees RX3 cX3_agrees) (hW : mWd R) (hk2 : mO4 R k2)  {out : Int32} (hE : mEd X E 0 0 (mSame (some (.int (out))) 106 1 I R L)) (k9_ : Int32 × Int32 × Int32 × Int32 → Option (Int32)) (hk9_ : ∀ (v3 : Int32) (v4 : Int32) (v5 : Int32) (v6 : Int32),  k9_ (v3, v4, v5, v6) = some out → mG X E 9 [(1, .ref (mB E + 56)), (2, .ref (mB E + k2)), (3, .int v3), (4, .int v4), (5, .int v5), (6, .int v6)] [] 106 1 I R L 0 0) (v3 : Int32) (v4 : Int32) (v5 : Int32) (v6 : Int32) (h : b_X3_agrees_9 Fu I k2 k9_ v3 v4 v5 v6 = some out) : mG X E 9 [(1, .ref (mB E + 56)), (2, .ref (mB E + k2)), (3, .int v3), (4, .int v4), (5, .int v5), (6, .int v6)] [] 106 1 I R L 0 0 := by
  unfold b_X3_agrees_9 at h
  refine g_iload hC dX3_agrees_9 (q := 5) rfl ?_
  refine g_iload hC dX3_agrees_11 (q := 4) rfl ?_
  refine g_ic_ge hC dX3_agrees_13 (tgt := 77) (by decide) (fun c13 => ?_) (fun c13 => ?_)
  · replace h := (if_pos c13).symm.trans h
    refine g_iconst hC dX3_agrees_77 (v := (1 : Int32)) (by decide) ?_
    cases h
    exact g_zret hC (by decide) hE rfl dX3_agrees_78 (Nat.zero_le _) (Nat.zero_le _) ⟨rfl, rfl, rfl, rfl, rfl, rfl⟩
  · replace h := (if_neg c13).symm.trans h
    refine g_aload_n hC dX3_agrees_16 rfl (q := 1) rfl ?_
    refine g_iload hC dX3_agrees_17 (q := 5) rfl ?_
    obtain ⟨r19, h19, h⟩ := oB_some h
    refine g_cV1 hC cv_X4_dayOf wd_1415 ⟨Nat.le_of_ble_eq_true rfl, Nat.le_of_ble_eq_true rfl⟩ hk2.2.1 hk2.1 dX3_agrees_19 (As := [.int v6]) (st := []) (ok_X4_dayOf hC.2.2.2.2.2.2.2.1 hk2 h19) rfl rfl (Nat.le_of_ble_eq_true rfl) ⟨Nat.zero_le _, Nat.zero_le _⟩ ?_
    refine g_istore hC dX3_agrees_22 rfl (by decide) (lv' := [(7, .int r19), (1, .ref (mB E + 56)), (2, .ref (mB E + k2)), (3, .int v3), (4, .int v4), (5, .int v5), (6, .int v6)]) rfl ?_
    refine g_aload_n hC dX3_agrees_24 rfl (q := 1) rfl ?_
    refine g_iload hC dX3_agrees_25 (q := 0) rfl ?_
    obtain ⟨r27, h27, h⟩ := oB_some h
    refine g_cV1 hC cv_X1_soundingOn wd_1419 ⟨Nat.le_of_ble_eq_true rfl, Nat.le_of_ble_eq_true rfl⟩ rfl (by decide) dX3_agrees_27 (As := [.int r19]) (st := []) (ok_X1_soundingOn hC.2.2.2.2.2.2.2.1 hW h27) rfl rfl (Nat.le_of_ble_eq_true rfl) ⟨Nat.zero_le _, Nat.zero_le _⟩ ?_
    refine g_istore hC dX3_agrees_30 rfl (by decide) (lv' := [(8, .int r27), (7, .int r19), (1, .ref (mB E + 56)), (2, .ref (mB E + k2)), (3, .int v3), (4, .int v4), (5, .int v5), (6, .int v6)]) rfl ?_
    refine g_iload hC dX3_agrees_32 (q := 1) rfl ?_
    refine g_iload hC dX3_agrees_34 (q := 5) rfl ?_
    refine g_ic_lt hC dX3_agrees_36 (tgt := 48) (by decide) (fun c36 => ?_) (fun c36 => ?_)
    · replace h := (if_pos c36).symm.trans h
      refine g_iload hC dX3_agrees_48 (q := 0) rfl ?_
      refine g_lv [2, 3, 4, 5, 6, 7, 1] rfl ?_
      exact bo_X3_agrees_50 hC hW hk2 hE k9_ hk9_ (v3) (v4) (v5) (v6) (r19) (r27) h
    · replace h := (if_neg c36).symm.trans h
      refine g_iload hC dX3_agrees_39 (q := 0) rfl ?_
      refine g_iload_n hC dX3_agrees_41 rfl (q := 4) rfl ?_
      refine g_iconst hC dX3_agrees_42 (v := (-1 : Int32)) (by decide) ?_
      refine g_ixor hC dX3_agrees_43 ?_
      refine g_iand hC dX3_agrees_44 ?_
      refine g_goto hC dX3_agrees_45 (tgt := 50) (by decide) ?_
      refine g_lv [2, 3, 4, 5, 6, 7, 1] rfl ?_
      exact bo_X3_agrees_50 hC hW hk2 hE k9_ hk9_ (v3) (v4) (v5) (v6) (r19) ((r27 &&& (v3 ^^^ (-1 : Int32)))) h
noncomputable def w_X3_agrees_9 (Fu : Nat) (I : mIT) (k2 : Nat)  (N : Nat) (v3 : Int32) (v4 : Int32) (v5 : Int32) (v6 : Int32) : Option (Int32) :=
  loopF (fun self (s : Int32 × Int32 × Int32 × Int32) => b_X3_agrees_9 Fu I k2 self s.1 s.2.1 s.2.2.1 s.2.2.2) N (v3, v4, v5, v6)
theorem wo_X3_agrees_9 {X : mXT} {E : mEn} {Fu : Nat} {I : mIT} {R : mRT} {L : mLT} {k2 : Nat} (hC : mC X E mX3_agrees RX3 cX3_agrees) (hW : mWd R) (hk2 : mO4 R k2)  {out : Int32} (hE : mEd X E 0 0 (mSame (some (.int (out))) 106 1 I R L))  (N : Nat) (v3 : Int32) (v4 : Int32) (v5 : Int32) (v6 : Int32) (h : w_X3_agrees_9 Fu I k2  N v3 v4 v5 v6 = some out) : mG X E 9 [(1, .ref (mB E + 56)), (2, .ref (mB E + k2)), (3, .int v3), (4, .int v4), (5, .int v5), (6, .int v6)] [] 106 1 I R L 0 0 :=
  loopF_ok (Gd := fun s : Int32 × Int32 × Int32 × Int32 => mG X E 9 [(1, .ref (mB E + 56)), (2, .ref (mB E + k2)), (3, .int s.1), (4, .int s.2.1), (5, .int s.2.2.1), (6, .int s.2.2.2)] [] 106 1 I R L 0 0) (fun self hs s h => bo_X3_agrees_9 hC hW hk2 hE self (fun v3 v4 v5 v6 h => hs (v3, v4, v5, v6) h) s.1 s.2.1 s.2.2.1 s.2.2.2 h) N (v3, v4, v5, v6) h
noncomputable def f_X3_agrees (Fu : Nat) (I : mIT) (k2 : Nat) (v3 : Int32) (v4 : Int32) : Option (Int32) :=
  oB (f_X4_many Fu I k2) (fun r1 => w_X3_agrees_9 Fu I k2 Fu v3 v4 r1 (0 : Int32))
set_option maxRecDepth 20000 in
theorem ok_X3_agrees {l : Launch} {E : mEn} {Fu : Nat} {I : mIT} {R : mRT} {L : mLT} {k2 : Nat} {v3 : Int32} {v4 : Int32} (hst : l.stackTraces = false) (hW : mWd R) (hk2 : mO4 R k2) {out : Int32} (h : f_X3_agrees Fu I k2 v3 v4 = some out) : mOk l E mX3_agrees [.ref (mB E + 69), .ref (mB E + 56), .ref (mB E + k2), .int v3, .int v4] 106 1 I R L 0 0 (mSame (some (.int (out))) 106 1 I R L) := by
  refine mOk_of hst (by decide) (Nat.le_of_ble_eq_true rfl) (fun X hC hE _ => ?_)
  have hC : mC X E mX3_agrees RX3 cX3_agrees := hC
  show mG X E 0 [(0, .ref (mB E + 69)), (1, .ref (mB E + 56)), (2, .ref (mB E + k2)), (3, .int v3), (4, .int v4)] [] 106 1 I R L 0 0
  unfold f_X3_agrees at h
  refine g_aload_n hC dX3_agrees_0 rfl (q := 2) rfl ?_
  obtain ⟨r1, h1, h⟩ := oB_some h
  refine g_cV1 hC cv_X4_many wd_1414 ⟨Nat.le_of_ble_eq_true rfl, Nat.le_of_ble_eq_true rfl⟩ hk2.2.1 hk2.1 dX3_agrees_1 (As := []) (st := []) (ok_X4_many hC.2.2.2.2.2.2.2.1 hk2 h1) rfl rfl (Nat.le_of_ble_eq_true rfl) ⟨Nat.zero_le _, Nat.zero_le _⟩ ?_
  refine g_istore hC dX3_agrees_4 rfl (by decide) (lv' := [(5, .int r1), (0, .ref (mB E + 69)), (1, .ref (mB E + 56)), (2, .ref (mB E + k2)), (3, .int v3), (4, .int v4)]) rfl ?_
  refine g_iconst hC dX3_agrees_6 (v := (0 : Int32)) (by decide) ?_
  refine g_istore hC dX3_agrees_7 rfl (by decide) (lv' := [(6, .int (0 : Int32)), (5, .int r1), (0, .ref (mB E + 69)), (1, .ref (mB E + 56)), (2, .ref (mB E + k2)), (3, .int v3), (4, .int v4)]) rfl ?_
  refine g_lv [3, 4, 5, 6, 1, 0] rfl ?_
  exact wo_X3_agrees_9 hC hW hk2 hE Fu (v3) (v4) (r1) ((0 : Int32)) h
noncomputable def b_X3_find_34 (Fu : Nat) (k2 : Nat) (k13_ : Int32 × Int32 × Int32 × mIT → Option (mIT)) (k34_ : Int32 × Int32 × Int32 × Int32 × mIT → Option (mIT)) (v3 : Int32) (v4 : Int32) (v5 : Int32) (v6 : Int32) (I : mIT) : Option (mIT) :=
  if (10 : Int32) ≤ v6 then (k13_ (v3, v4, (v5 + (1 : Int32)), I)) else (if v3 ≤ v5 then (k13_ (v3, v4, (v5 + (1 : Int32)), I)) else (if ((v4 >>> (v5 &&& 31)) &&& (1 : Int32)) = 0 then (oB (f_X3_agrees Fu I k2 ((1 : Int32) <<< (v5 &&& 31)) v6) (fun r66 => if r66 = 0 then (k34_ (v3, v4, v5, (v6 + (1 : Int32)), I)) else (oG (inB v5 10) (oG (inB v5 10) (if ((mU I 70 (v5).toNatClampNeg ((I 70 (v5).toNatClampNeg) ||| ((1 : Int32) <<< (v6 &&& 31)))) 69 2) = 0 then (k34_ (v3, v4, v5, (v6 + (1 : Int32)), (mU (mU (mU I 70 (v5).toNatClampNeg ((I 70 (v5).toNatClampNeg) ||| ((1 : Int32) <<< (v6 &&& 31)))) 69 3 (((10 : Int32) * v5) + v6)) 69 2 (((mU (mU I 70 (v5).toNatClampNeg ((I 70 (v5).toNatClampNeg) ||| ((1 : Int32) <<< (v6 &&& 31)))) 69 3 (((10 : Int32) * v5) + v6)) 69 2) + (1 : Int32))))) else (k34_ (v3, v4, v5, (v6 + (1 : Int32)), (mU (mU (mU I 70 (v5).toNatClampNeg ((I 70 (v5).toNatClampNeg) ||| ((1 : Int32) <<< (v6 &&& 31)))) 69 3 ((mU I 70 (v5).toNatClampNeg ((I 70 (v5).toNatClampNeg) ||| ((1 : Int32) <<< (v6 &&& 31)))) 69 3)) 69 2 (((mU (mU I 70 (v5).toNatClampNeg ((I 70 (v5).toNatClampNeg) ||| ((1 : Int32) <<< (v6 &&& 31)))) 69 3 ((mU I 70 (v5).toNatClampNeg ((I 70 (v5).toNatClampNeg) ||| ((1 : Int32) <<< (v6 &&& 31)))) 69 3)) 69 2) + (1 : Int32)))))))))) else (k13_ (v3, v4, (v5 + (1 : Int32)), I))))
set_option maxRecDepth 20000 in
theorem bo_X3_find_34 {X : mXT} {E : mEn} {Fu : Nat} {R : mRT} {L : mLT} {k2 : Nat} (hC : mC X E mX3_find RX3 cX3_find) (hW : mWd R) (hk2 : mO4 R k2)  {out : mIT} (hE : mEd X E 0 0 (mSame none 106 1 (out) R L)) (k13_ : Int32 × Int32 × Int32 × mIT → Option (mIT)) (hk13_ : ∀ (v3 : Int32) (v4 : Int32) (v5 : Int32) (I : mIT),  k13_ (v3, v4, v5, I) = some out → mG X E 13 [(0, .ref (mB E + 69)), (1, .ref (mB E + 56)), (2, .ref (mB E + k2)), (3, .int v3), (4, .int v4), (5, .int v5)] [] 106 1 I R L 0 0) (k34_ : Int32 × Int32 × Int32 × Int32 × mIT → Option (mIT)) (hk34_ : ∀ (v3 : Int32) (v4 : Int32) (v5 : Int32) (v6 : Int32) (I : mIT),  k34_ (v3, v4, v5, v6, I) = some out → mG X E 34 [(0, .ref (mB E + 69)), (1, .ref (mB E + 56)), (2, .ref (mB E + k2)), (3, .int v3), (4, .int v4), (5, .int v5), (6, .int v6)] [] 106 1 I R L 0 0) (v3 : Int32) (v4 : Int32) (v5 : Int32) (v6 : Int32) (I : mIT) (h : b_X3_find_34 Fu k2 k13_ k34_ v3 v4 v5 v6 I = some out) : mG X E 34 [(0, .ref (mB E + 69)), (1, .ref (mB E + 56)), (2, .ref (mB E + k2)), (3, .int v3), (4, .int v4), (5, .int v5), (6, .int v6)] [] 106 1 I R L 0 0 := by
  unfold b_X3_find_34 at h
  refine g_iload hC dX3_find_34 (q := 6) rfl ?_
  refine g_bipush hC dX3_find_36 (v := (10 : Int32)) (by decide) ?_
  refine g_ic_ge hC dX3_find_38 (tgt := 128) (by decide) (fun c38 => ?_) (fun c38 => ?_)
  · replace h := (if_pos c38).symm.trans h
    refine g_iinc hC dX3_find_128 rfl (q := 5) rfl (w := (v5 + (1 : Int32))) rfl (by decide) (lv' := [(5, .int (v5 + (1 : Int32))), (0, .ref (mB E + 69)), (1, .ref (mB E + 56)), (2, .ref (mB E + k2)), (3, .int v3), (4, .int v4), (6, .int v6)]) rfl ?_
    refine g_goto hC dX3_find_131 (tgt := 13) (by decide) ?_
    refine g_lv [1, 2, 3, 4, 5, 0] rfl ?_
    exact hk13_ v3 v4 (v5 + (1 : Int32)) I h
  · replace h := (if_neg c38).symm.trans h
    refine g_iload hC dX3_find_41 (q := 5) rfl ?_
    refine g_iload_n hC dX3_find_43 rfl (q := 3) rfl ?_
    refine g_ic_ge hC dX3_find_44 (tgt := 128) (by decide) (fun c44 => ?_) (fun c44 => ?_)
    · replace h := (if_pos c44).symm.trans h
      refine g_iinc hC dX3_find_128 rfl (q := 5) rfl (w := (v5 + (1 : Int32))) rfl (by decide) (lv' := [(5, .int (v5 + (1 : Int32))), (0, .ref (mB E + 69)), (1, .ref (mB E + 56)), (2, .ref (mB E + k2)), (3, .int v3), (4, .int v4), (6, .int v6)]) rfl ?_
      refine g_goto hC dX3_find_131 (tgt := 13) (by decide) ?_
      refine g_lv [1, 2, 3, 4, 5, 0] rfl ?_
      exact hk13_ v3 v4 (v5 + (1 : Int32)) I h
    · replace h := (if_neg c44).symm.trans h
      refine g_iload hC dX3_find_47 (q := 4) rfl ?_
      refine g_iload hC dX3_find_49 (q := 5) rfl ?_
      refine g_ishr hC dX3_find_51 ?_
      refine g_iconst hC dX3_find_52 (v := (1 : Int32)) (by decide) ?_
      refine g_iand hC dX3_find_53 ?_
      refine g_if_ne hC dX3_find_54 (tgt := 128) (by decide) (fun c54 => ?_) (fun c54 => ?_)
      · replace h := (if_neg c54).symm.trans h
        refine g_iinc hC dX3_find_128 rfl (q := 5) rfl (w := (v5 + (1 : Int32))) rfl (by decide) (lv' := [(5, .int (v5 + (1 : Int32))), (0, .ref (mB E + 69)), (1, .ref (mB E + 56)), (2, .ref (mB E + k2)), (3, .int v3), (4, .int v4), (6, .int v6)]) rfl ?_
        refine g_goto hC dX3_find_131 (tgt := 13) (by decide) ?_
        refine g_lv [1, 2, 3, 4, 5, 0] rfl ?_
        exact hk13_ v3 v4 (v5 + (1 : Int32)) I h
      · replace h := (if_pos c54).symm.trans h
        refine g_aload_n hC dX3_find_57 rfl (q := 0) rfl ?_
        refine g_aload_n hC dX3_find_58 rfl (q := 1) rfl ?_
        refine g_aload_n hC dX3_find_59 rfl (q := 2) rfl ?_
        refine g_iconst hC dX3_find_60 (v := (1 : Int32)) (by decide) ?_
        refine g_iload hC dX3_find_61 (q := 5) rfl ?_
        refine g_ishl hC dX3_find_63 ?_
        refine g_iload hC dX3_find_64 (q := 6) rfl ?_
        obtain ⟨r66, h66, h⟩ := oB_some h
        refine g_cV1 hC cv_X3_agrees wd_1429 ⟨Nat.le_of_ble_eq_true rfl, Nat.le_of_ble_eq_true rfl⟩ rfl (by decide) dX3_find_66 (As := [.ref (mB E + 56), .ref (mB E + k2), .int ((1 : Int32) <<< (v5 &&& 31)), .int v6]) (st := []) (ok_X3_agrees hC.2.2.2.2.2.2.2.1 hW hk2 h66) rfl rfl (Nat.le_of_ble_eq_true rfl) ⟨Nat.zero_le _, Nat.zero_le _⟩ ?_
        refine g_if_eq hC dX3_find_69 (tgt := 122) (by decide) (fun c69 => ?_) (fun c69 => ?_)
        · replace h := (if_pos c69).symm.trans h
          refine g_iinc hC dX3_find_122 rfl (q := 6) rfl (w := (v6 + (1 : Int32))) rfl (by decide) (lv' := [(6, .int (v6 + (1 : Int32))), (0, .ref (mB E + 69)), (1, .ref (mB E + 56)), (2, .ref (mB E + k2)), (3, .int v3), (4, .int v4), (5, .int v5)]) rfl ?_
          refine g_goto hC dX3_find_125 (tgt := 34) (by decide) ?_
          refine g_lv [1, 2, 3, 4, 5, 6, 0] rfl ?_
          exact hk34_ v3 v4 v5 (v6 + (1 : Int32)) I h
        · replace h := (if_neg c69).symm.trans h
          refine g_aload_n hC dX3_find_72 rfl (q := 0) rfl ?_
          refine g_getr hC fd_RX3_9 rfl (by decide) (C0 := "") (t0 := _) (Or.inr rfl) (rr_69_0 hW.1) dX3_find_73 ?_
          refine g_iload hC dX3_find_76 (q := 5) rfl ?_
          refine g_dup2 hC dX3_find_78 rfl rfl ?_
          obtain ⟨g79, h⟩ := oG_some h
          refine g_iald hC rfl (by decide) (inB_in g79) dX3_find_79 ?_
          refine g_iconst hC dX3_find_80 (v := (1 : Int32)) (by decide) ?_
          refine g_iload hC dX3_find_81 (q := 6) rfl ?_
          refine g_ishl hC dX3_find_83 ?_
          refine g_ior hC dX3_find_84 ?_
          obtain ⟨g85, h⟩ := oG_some h
          refine g_iast hC rfl (by decide) (inB_in g85) dX3_find_85 (nm_e ?_)
          refine g_aload_n hC dX3_find_86 rfl (q := 0) rfl ?_
          refine g_aload_n hC dX3_find_87 rfl (q := 0) rfl ?_
          refine g_geti hC fd_RX3_18 rfl (by decide) (Or.inl rfl) dX3_find_88 ?_
          refine g_if_ne hC dX3_find_91 (tgt := 105) (by decide) (fun c91 => ?_) (fun c91 => ?_)
          · replace h := (if_neg c91).symm.trans h
            refine g_aload_n hC dX3_find_105 rfl (q := 0) rfl ?_
            refine g_geti hC fd_RX3_22 rfl (by decide) (Or.inl rfl) dX3_find_106 ?_
            refine g_puti hC fd_RX3_22 rfl (by decide) rfl dX3_find_109 (nm_e ?_)
            refine g_aload_n hC dX3_find_112 rfl (q := 0) rfl ?_
            refine g_dup hC dX3_find_113 rfl ?_
            refine g_geti hC fd_RX3_18 rfl (by decide) (Or.inl rfl) dX3_find_114 ?_
            refine g_iconst hC dX3_find_117 (v := (1 : Int32)) (by decide) ?_
            refine g_iadd hC dX3_find_118 ?_
            refine g_puti hC fd_RX3_18 rfl (by decide) rfl dX3_find_119 (nm_e ?_)
            refine g_iinc hC dX3_find_122 rfl (q := 6) rfl (w := (v6 + (1 : Int32))) rfl (by decide) (lv' := [(6, .int (v6 + (1 : Int32))), (0, .ref (mB E + 69)), (1, .ref (mB E + 56)), (2, .ref (mB E + k2)), (3, .int v3), (4, .int v4), (5, .int v5)]) rfl ?_
            refine g_goto hC dX3_find_125 (tgt := 34) (by decide) ?_
            refine g_lv [1, 2, 3, 4, 5, 6, 0] rfl ?_
            exact hk34_ v3 v4 v5 (v6 + (1 : Int32)) (mU (mU (mU I 70 (v5).toNatClampNeg ((I 70 (v5).toNatClampNeg) ||| ((1 : Int32) <<< (v6 &&& 31)))) 69 3 ((mU I 70 (v5).toNatClampNeg ((I 70 (v5).toNatClampNeg) ||| ((1 : Int32) <<< (v6 &&& 31)))) 69 3)) 69 2 (((mU (mU I 70 (v5).toNatClampNeg ((I 70 (v5).toNatClampNeg) ||| ((1 : Int32) <<< (v6 &&& 31)))) 69 3 ((mU I 70 (v5).toNatClampNeg ((I 70 (v5).toNatClampNeg) ||| ((1 : Int32) <<< (v6 &&& 31)))) 69 3)) 69 2) + (1 : Int32))) h
          · replace h := (if_pos c91).symm.trans h
            refine g_bipush hC dX3_find_94 (v := (10 : Int32)) (by decide) ?_
            refine g_iload hC dX3_find_96 (q := 5) rfl ?_
            refine g_imul hC dX3_find_98 ?_
            refine g_iload hC dX3_find_99 (q := 6) rfl ?_
            refine g_iadd hC dX3_find_101 ?_
            refine g_goto hC dX3_find_102 (tgt := 109) (by decide) ?_
            refine g_puti hC fd_RX3_22 rfl (by decide) rfl dX3_find_109 (nm_e ?_)
            refine g_aload_n hC dX3_find_112 rfl (q := 0) rfl ?_
            refine g_dup hC dX3_find_113 rfl ?_
            refine g_geti hC fd_RX3_18 rfl (by decide) (Or.inl rfl) dX3_find_114 ?_
            refine g_iconst hC dX3_find_117 (v := (1 : Int32)) (by decide) ?_
            refine g_iadd hC dX3_find_118 ?_
            refine g_puti hC fd_RX3_18 rfl (by decide) rfl dX3_find_119 (nm_e ?_)
            refine g_iinc hC dX3_find_122 rfl (q := 6) rfl (w := (v6 + (1 : Int32))) rfl (by decide) (lv' := [(6, .int (v6 + (1 : Int32))), (0, .ref (mB E + 69)), (1, .ref (mB E + 56)), (2, .ref (mB E + k2)), (3, .int v3), (4, .int v4), (5, .int v5)]) rfl ?_
            refine g_goto hC dX3_find_125 (tgt := 34) (by decide) ?_
            refine g_lv [1, 2, 3, 4, 5, 6, 0] rfl ?_
            exact hk34_ v3 v4 v5 (v6 + (1 : Int32)) (mU (mU (mU I 70 (v5).toNatClampNeg ((I 70 (v5).toNatClampNeg) ||| ((1 : Int32) <<< (v6 &&& 31)))) 69 3 (((10 : Int32) * v5) + v6)) 69 2 (((mU (mU I 70 (v5).toNatClampNeg ((I 70 (v5).toNatClampNeg) ||| ((1 : Int32) <<< (v6 &&& 31)))) 69 3 (((10 : Int32) * v5) + v6)) 69 2) + (1 : Int32))) h
noncomputable def w_X3_find_34 (Fu : Nat) (k2 : Nat) (k13_ : Int32 × Int32 × Int32 × mIT → Option (mIT)) (N : Nat) (v3 : Int32) (v4 : Int32) (v5 : Int32) (v6 : Int32) (I : mIT) : Option (mIT) :=
  loopF (fun self (s : Int32 × Int32 × Int32 × Int32 × mIT) => b_X3_find_34 Fu k2 k13_ self s.1 s.2.1 s.2.2.1 s.2.2.2.1 s.2.2.2.2) N (v3, v4, v5, v6, I)
theorem wo_X3_find_34 {X : mXT} {E : mEn} {Fu : Nat} {R : mRT} {L : mLT} {k2 : Nat} (hC : mC X E mX3_find RX3 cX3_find) (hW : mWd R) (hk2 : mO4 R k2)  {out : mIT} (hE : mEd X E 0 0 (mSame none 106 1 (out) R L)) (k13_ : Int32 × Int32 × Int32 × mIT → Option (mIT)) (hk13_ : ∀ (v3 : Int32) (v4 : Int32) (v5 : Int32) (I : mIT),  k13_ (v3, v4, v5, I) = some out → mG X E 13 [(0, .ref (mB E + 69)), (1, .ref (mB E + 56)), (2, .ref (mB E + k2)), (3, .int v3), (4, .int v4), (5, .int v5)] [] 106 1 I R L 0 0) (N : Nat) (v3 : Int32) (v4 : Int32) (v5 : Int32) (v6 : Int32) (I : mIT) (h : w_X3_find_34 Fu k2 k13_ N v3 v4 v5 v6 I = some out) : mG X E 34 [(0, .ref (mB E + 69)), (1, .ref (mB E + 56)), (2, .ref (mB E + k2)), (3, .int v3), (4, .int v4), (5, .int v5), (6, .int v6)] [] 106 1 I R L 0 0 :=
  loopF_ok (Gd := fun s : Int32 × Int32 × Int32 × Int32 × mIT => mG X E 34 [(0, .ref (mB E + 69)), (1, .ref (mB E + 56)), (2, .ref (mB E + k2)), (3, .int s.1), (4, .int s.2.1), (5, .int s.2.2.1), (6, .int s.2.2.2.1)] [] 106 1 s.2.2.2.2 R L 0 0) (fun self hs s h => bo_X3_find_34 hC hW hk2 hE k13_ hk13_ self (fun v3 v4 v5 v6 I h => hs (v3, v4, v5, v6, I) h) s.1 s.2.1 s.2.2.1 s.2.2.2.1 s.2.2.2.2 h) N (v3, v4, v5, v6, I) h
noncomputable def b_X3_find_13 (Fu : Nat) (k2 : Nat) (k13_ : Int32 × Int32 × Int32 × mIT → Option (mIT)) (v3 : Int32) (v4 : Int32) (v5 : Int32) (I : mIT) : Option (mIT) :=
  if (nI 10) ≤ v5 then (some (I)) else (oG (inB v5 10) (w_X3_find_34 Fu k2 k13_ Fu v3 v4 v5 (0 : Int32) (mU I 70 (v5).toNatClampNeg (0 : Int32))))
set_option maxRecDepth 20000 in
theorem bo_X3_find_13 {X : mXT} {E : mEn} {Fu : Nat} {R : mRT} {L : mLT} {k2 : Nat} (hC : mC X E mX3_find RX3 cX3_find) (hW : mWd R) (hk2 : mO4 R k2)  {out : mIT} (hE : mEd X E 0 0 (mSame none 106 1 (out) R L)) (k13_ : Int32 × Int32 × Int32 × mIT → Option (mIT)) (hk13_ : ∀ (v3 : Int32) (v4 : Int32) (v5 : Int32) (I : mIT),  k13_ (v3, v4, v5, I) = some out → mG X E 13 [(0, .ref (mB E + 69)), (1, .ref (mB E + 56)), (2, .ref (mB E + k2)), (3, .int v3), (4, .int v4), (5, .int v5)] [] 106 1 I R L 0 0) (v3 : Int32) (v4 : Int32) (v5 : Int32) (I : mIT) (h : b_X3_find_13 Fu k2 k13_ v3 v4 v5 I = some out) : mG X E 13 [(0, .ref (mB E + 69)), (1, .ref (mB E + 56)), (2, .ref (mB E + k2)), (3, .int v3), (4, .int v4), (5, .int v5)] [] 106 1 I R L 0 0 := by
  unfold b_X3_find_13 at h
  refine g_iload hC dX3_find_13 (q := 5) rfl ?_
  refine g_aload_n hC dX3_find_15 rfl (q := 0) rfl ?_
  refine g_getr hC fd_RX3_9 rfl (by decide) (C0 := "") (t0 := _) (Or.inr rfl) (rr_69_0 hW.1) dX3_find_16 ?_
  refine g_alenI hC rfl (by decide) dX3_find_19 ?_
  refine g_ic_ge hC dX3_find_20 (tgt := 134) (by decide) (fun c20 => ?_) (fun c20 => ?_)
  · replace h := (if_pos c20).symm.trans h
    cases h
    exact g_vret hC hE rfl dX3_find_134 (Nat.zero_le _) (Nat.zero_le _) ⟨rfl, rfl, rfl, rfl, rfl, rfl⟩
  · replace h := (if_neg c20).symm.trans h
    refine g_aload_n hC dX3_find_23 rfl (q := 0) rfl ?_
    refine g_getr hC fd_RX3_9 rfl (by decide) (C0 := "") (t0 := _) (Or.inr rfl) (rr_69_0 hW.1) dX3_find_24 ?_
    refine g_iload hC dX3_find_27 (q := 5) rfl ?_
    refine g_iconst hC dX3_find_29 (v := (0 : Int32)) (by decide) ?_
    obtain ⟨g30, h⟩ := oG_some h
    refine g_iast hC rfl (by decide) (inB_in g30) dX3_find_30 (nm_e ?_)
    refine g_iconst hC dX3_find_31 (v := (0 : Int32)) (by decide) ?_
    refine g_istore hC dX3_find_32 rfl (by decide) (lv' := [(6, .int (0 : Int32)), (0, .ref (mB E + 69)), (1, .ref (mB E + 56)), (2, .ref (mB E + k2)), (3, .int v3), (4, .int v4), (5, .int v5)]) rfl ?_
    refine g_lv [1, 2, 3, 4, 5, 6, 0] rfl ?_
    exact wo_X3_find_34 hC hW hk2 hE k13_ hk13_ Fu (v3) (v4) (v5) ((0 : Int32)) ((mU I 70 (v5).toNatClampNeg (0 : Int32))) h
noncomputable def w_X3_find_13 (Fu : Nat) (k2 : Nat)  (N : Nat) (v3 : Int32) (v4 : Int32) (v5 : Int32) (I : mIT) : Option (mIT) :=
  loopF (fun self (s : Int32 × Int32 × Int32 × mIT) => b_X3_find_13 Fu k2 self s.1 s.2.1 s.2.2.1 s.2.2.2) N (v3, v4, v5, I)
theorem wo_X3_find_13 {X : mXT} {E : mEn} {Fu : Nat} {R : mRT} {L : mLT} {k2 : Nat} (hC : mC X E mX3_find RX3 cX3_find) (hW : mWd R) (hk2 : mO4 R k2)  {out : mIT} (hE : mEd X E 0 0 (mSame none 106 1 (out) R L))  (N : Nat) (v3 : Int32) (v4 : Int32) (v5 : Int32) (I : mIT) (h : w_X3_find_13 Fu k2  N v3 v4 v5 I = some out) : mG X E 13 [(0, .ref (mB E + 69)), (1, .ref (mB E + 56)), (2, .ref (mB E + k2)), (3, .int v3), (4, .int v4), (5, .int v5)] [] 106 1 I R L 0 0 :=
  loopF_ok (Gd := fun s : Int32 × Int32 × Int32 × mIT => mG X E 13 [(0, .ref (mB E + 69)), (1, .ref (mB E + 56)), (2, .ref (mB E + k2)), (3, .int s.1), (4, .int s.2.1), (5, .int s.2.2.1)] [] 106 1 s.2.2.2 R L 0 0) (fun self hs s h => bo_X3_find_13 hC hW hk2 hE self (fun v3 v4 v5 I h => hs (v3, v4, v5, I) h) s.1 s.2.1 s.2.2.1 s.2.2.2 h) N (v3, v4, v5, I) h
noncomputable def f_X3_find (Fu : Nat) (I : mIT) (k2 : Nat) (v3 : Int32) (v4 : Int32) : Option (mIT) :=
  w_X3_find_13 Fu k2 Fu v3 v4 (0 : Int32) (mU (mU I 69 2 (0 : Int32)) 69 3 (-1 : Int32))
set_option maxRecDepth 20000 in
theorem ok_X3_find {l : Launch} {E : mEn} {Fu : Nat} {I : mIT} {R : mRT} {L : mLT} {k2 : Nat} {v3 : Int32} {v4 : Int32} (hst : l.stackTraces = false) (hW : mWd R) (hk2 : mO4 R k2) {out : mIT} (h : f_X3_find Fu I k2 v3 v4 = some out) : mOk l E mX3_find [.ref (mB E + 69), .ref (mB E + 56), .ref (mB E + k2), .int v3, .int v4] 106 1 I R L 0 0 (mSame none 106 1 (out) R L) := by
  refine mOk_of hst (by decide) (Nat.le_of_ble_eq_true rfl) (fun X hC hE _ => ?_)
  have hC : mC X E mX3_find RX3 cX3_find := hC
  show mG X E 0 [(0, .ref (mB E + 69)), (1, .ref (mB E + 56)), (2, .ref (mB E + k2)), (3, .int v3), (4, .int v4)] [] 106 1 I R L 0 0
  unfold f_X3_find at h
  refine g_aload_n hC dX3_find_0 rfl (q := 0) rfl ?_
  refine g_iconst hC dX3_find_1 (v := (0 : Int32)) (by decide) ?_
  refine g_puti hC fd_RX3_18 rfl (by decide) rfl dX3_find_2 (nm_e ?_)
  refine g_aload_n hC dX3_find_5 rfl (q := 0) rfl ?_
  refine g_iconst hC dX3_find_6 (v := (-1 : Int32)) (by decide) ?_
  refine g_puti hC fd_RX3_22 rfl (by decide) rfl dX3_find_7 (nm_e ?_)
  refine g_iconst hC dX3_find_10 (v := (0 : Int32)) (by decide) ?_
  refine g_istore hC dX3_find_11 rfl (by decide) (lv' := [(5, .int (0 : Int32)), (0, .ref (mB E + 69)), (1, .ref (mB E + 56)), (2, .ref (mB E + k2)), (3, .int v3), (4, .int v4)]) rfl ?_
  refine g_lv [1, 2, 3, 4, 5, 0] rfl ?_
  exact wo_X3_find_13 hC hW hk2 hE Fu (v3) (v4) ((0 : Int32)) ((mU (mU I 69 2 (0 : Int32)) 69 3 (-1 : Int32))) h
noncomputable def f_X3_many (Fu : Nat) (I : mIT)  : Option (Int32) :=
  some (I 69 2)
set_option maxRecDepth 20000 in
theorem ok_X3_many {l : Launch} {E : mEn} {Fu : Nat} {I : mIT} {R : mRT} {L : mLT}  (hst : l.stackTraces = false) (hW : mWd R)  {out : Int32} (h : f_X3_many Fu I  = some out) : mOk l E mX3_many [.ref (mB E + 69)] 106 1 I R L 0 0 (mSame (some (.int (out))) 106 1 I R L) := by
  refine mOk_of hst (by decide) (Nat.le_of_ble_eq_true rfl) (fun X hC hE _ => ?_)
  have hC : mC X E mX3_many RX3 cX3_many := hC
  show mG X E 0 [(0, .ref (mB E + 69))] [] 106 1 I R L 0 0
  unfold f_X3_many at h
  refine g_aload_n hC dX3_many_0 rfl (q := 0) rfl ?_
  refine g_geti hC fd_RX3_18 rfl (by decide) (Or.inl rfl) dX3_many_1 ?_
  cases h
  exact g_iret hC hE rfl dX3_many_4 (Nat.zero_le _) (Nat.zero_le _) ⟨rfl, rfl, rfl, rfl, rfl, rfl⟩
noncomputable def f_X3_first (Fu : Nat) (I : mIT)  : Option (Int32) :=
  some (I 69 3)
set_option maxRecDepth 20000 in
theorem ok_X3_first {l : Launch} {E : mEn} {Fu : Nat} {I : mIT} {R : mRT} {L : mLT}  (hst : l.stackTraces = false) (hW : mWd R)  {out : Int32} (h : f_X3_first Fu I  = some out) : mOk l E mX3_first [.ref (mB E + 69)] 106 1 I R L 0 0 (mSame (some (.int (out))) 106 1 I R L) := by
  refine mOk_of hst (by decide) (Nat.le_of_ble_eq_true rfl) (fun X hC hE _ => ?_)
  have hC : mC X E mX3_first RX3 cX3_first := hC
  show mG X E 0 [(0, .ref (mB E + 69))] [] 106 1 I R L 0 0
  unfold f_X3_first at h
  refine g_aload_n hC dX3_first_0 rfl (q := 0) rfl ?_
  refine g_geti hC fd_RX3_22 rfl (by decide) (Or.inl rfl) dX3_first_1 ?_
  cases h
  exact g_iret hC hE rfl dX3_first_4 (Nat.zero_le _) (Nat.zero_le _) ⟨rfl, rfl, rfl, rfl, rfl, rfl⟩
noncomputable def f_X9_roomToHollow (Fu : Nat) (I : mIT) (k0 : Nat) (v1 : Int32) : Option (Int32) :=
  oB (f_X9_placeOf Fu I k0 v1) (fun r2 => if r2 = (-2 : Int32) then (some (0 : Int32)) else (oB (f_X9_hollowOf Fu I k0 v1) (fun r14 => oB (f_X9_sizeOf Fu I k0 v1) (fun r24 => some (if ((r24 - (1 : Int32)) - r14) < ((20 : Int32) - r14) then ((r24 - (1 : Int32)) - r14) else ((20 : Int32) - r14))))))
set_option maxRecDepth 20000 in
theorem ok_X9_roomToHollow {l : Launch} {E : mEn} {Fu : Nat} {I : mIT} {R : mRT} {L : mLT} {k0 : Nat} {v1 : Int32} (hst : l.stackTraces = false) (hk0 : mO9 R k0) {out : Int32} (h : f_X9_roomToHollow Fu I k0 v1 = some out) : mOk l E mX9_roomToHollow [.ref (mB E + k0), .int v1] 106 1 I R L 0 0 (mSame (some (.int (out))) 106 1 I R L) := by
  refine mOk_of hst (by decide) (Nat.le_of_ble_eq_true rfl) (fun X hC hE _ => ?_)
  have hC : mC X E mX9_roomToHollow RX9 cX9_roomToHollow := hC
  show mG X E 0 [(0, .ref (mB E + k0)), (1, .int v1)] [] 106 1 I R L 0 0
  unfold f_X9_roomToHollow at h
  refine g_aload_n hC dX9_roomToHollow_0 rfl (q := 0) rfl ?_
  refine g_iload_n hC dX9_roomToHollow_1 rfl (q := 1) rfl ?_
  obtain ⟨r2, h2, h⟩ := oB_some h
  refine g_cV1 hC cv_X9_placeOf wd_586 ⟨Nat.le_of_ble_eq_true rfl, Nat.le_of_ble_eq_true rfl⟩ hk0.2.1 hk0.1 dX9_roomToHollow_2 (As := [.int v1]) (st := []) (ok_X9_placeOf hC.2.2.2.2.2.2.2.1 hk0 h2) rfl rfl (Nat.le_of_ble_eq_true rfl) ⟨Nat.zero_le _, Nat.zero_le _⟩ ?_
  refine g_bipush hC dX9_roomToHollow_5 (v := (-2 : Int32)) (by decide) ?_
  refine g_ic_ne hC dX9_roomToHollow_7 (tgt := 12) (by decide) (fun c7 => ?_) (fun c7 => ?_)
  · replace h := (if_neg c7).symm.trans h
    refine g_aload_n hC dX9_roomToHollow_12 rfl (q := 0) rfl ?_
    refine g_iload_n hC dX9_roomToHollow_13 rfl (q := 1) rfl ?_
    obtain ⟨r14, h14, h⟩ := oB_some h
    refine g_cV1 hC cv_X9_hollowOf wd_602 ⟨Nat.le_of_ble_eq_true rfl, Nat.le_of_ble_eq_true rfl⟩ hk0.2.1 hk0.1 dX9_roomToHollow_14 (As := [.int v1]) (st := []) (ok_X9_hollowOf hC.2.2.2.2.2.2.2.1 hk0 h14) rfl rfl (Nat.le_of_ble_eq_true rfl) ⟨Nat.zero_le _, Nat.zero_le _⟩ ?_
    refine g_istore_n hC dX9_roomToHollow_17 rfl rfl (by decide) (lv' := [(2, .int r14), (0, .ref (mB E + k0)), (1, .int v1)]) rfl ?_
    refine g_bipush hC dX9_roomToHollow_18 (v := (20 : Int32)) (by decide) ?_
    refine g_iload_n hC dX9_roomToHollow_20 rfl (q := 0) rfl ?_
    refine g_isub hC dX9_roomToHollow_21 ?_
    refine g_aload_n hC dX9_roomToHollow_22 rfl (q := 1) rfl ?_
    refine g_iload_n hC dX9_roomToHollow_23 rfl (q := 2) rfl ?_
    obtain ⟨r24, h24, h⟩ := oB_some h
    refine g_cV1 hC cv_X9_sizeOf wd_590 ⟨Nat.le_of_ble_eq_true rfl, Nat.le_of_ble_eq_true rfl⟩ hk0.2.1 hk0.1 dX9_roomToHollow_24 (As := [.int v1]) (st := [.int ((20 : Int32) - r14)]) (ok_X9_sizeOf hC.2.2.2.2.2.2.2.1 hk0 h24) rfl rfl (Nat.le_of_ble_eq_true rfl) ⟨Nat.zero_le _, Nat.zero_le _⟩ ?_
    refine g_iconst hC dX9_roomToHollow_27 (v := (1 : Int32)) (by decide) ?_
    refine g_isub hC dX9_roomToHollow_28 ?_
    refine g_iload_n hC dX9_roomToHollow_29 rfl (q := 0) rfl ?_
    refine g_isub hC dX9_roomToHollow_30 ?_
    refine g_mmin hC wd_635 wd_st_min wd_in_math wd_cd_min (Nat.le_of_ble_eq_true rfl) (Nat.le_of_ble_eq_true rfl) ⟨Nat.zero_le _, Nat.zero_le _⟩ dX9_roomToHollow_31 ?_
    cases h
    exact g_iret hC hE rfl dX9_roomToHollow_34 (Nat.zero_le _) (Nat.zero_le _) ⟨rfl, rfl, rfl, rfl, rfl, rfl⟩
  · replace h := (if_pos c7).symm.trans h
    refine g_iconst hC dX9_roomToHollow_10 (v := (0 : Int32)) (by decide) ?_
    cases h
    exact g_iret hC hE rfl dX9_roomToHollow_11 (Nat.zero_le _) (Nat.zero_le _) ⟨rfl, rfl, rfl, rfl, rfl, rfl⟩
noncomputable def f_X5_tuneNote (Fu : Nat) (I : mIT) (k0 : Nat) (v1 : Int32) : Option (Int32) :=
  if v1 < 0 then (some (0 : Int32)) else (if (nI 8) ≤ v1 then (some (0 : Int32)) else (oG (inB v1 8) (some (I (k0 + 3) (v1).toNatClampNeg))))
set_option maxRecDepth 20000 in
theorem ok_X5_tuneNote {l : Launch} {E : mEn} {Fu : Nat} {I : mIT} {R : mRT} {L : mLT} {k0 : Nat} {v1 : Int32} (hst : l.stackTraces = false) (hk0 : mO5 R k0) {out : Int32} (h : f_X5_tuneNote Fu I k0 v1 = some out) : mOk l E mX5_tuneNote [.ref (mB E + k0), .int v1] 106 1 I R L 0 0 (mSame (some (.int (out))) 106 1 I R L) := by
  refine mOk_of hst (by decide) (Nat.le_of_ble_eq_true rfl) (fun X hC hE _ => ?_)
  have hC : mC X E mX5_tuneNote RX5 cX5_tuneNote := hC
  show mG X E 0 [(0, .ref (mB E + k0)), (1, .int v1)] [] 106 1 I R L 0 0
  unfold f_X5_tuneNote at h
  refine g_iload_n hC dX5_tuneNote_0 rfl (q := 1) rfl ?_
  refine g_if_lt hC dX5_tuneNote_1 (tgt := 22) (by decide) (fun c1 => ?_) (fun c1 => ?_)
  · replace h := (if_pos c1).symm.trans h
    refine g_iconst hC dX5_tuneNote_22 (v := (0 : Int32)) (by decide) ?_
    cases h
    exact g_iret hC hE rfl dX5_tuneNote_23 (Nat.zero_le _) (Nat.zero_le _) ⟨rfl, rfl, rfl, rfl, rfl, rfl⟩
  · replace h := (if_neg c1).symm.trans h
    refine g_iload_n hC dX5_tuneNote_4 rfl (q := 1) rfl ?_
    refine g_aload_n hC dX5_tuneNote_5 rfl (q := 0) rfl ?_
    refine g_getr hC fd_RX5_18 hk0.2.1 hk0.1 (C0 := "") (t0 := _) (Or.inr rfl) hk0.2.2.2.2.1.1 dX5_tuneNote_6 ?_
    refine g_alenI hC hk0.2.2.2.2.1.2.2 hk0.2.2.2.2.1.2.1 dX5_tuneNote_9 ?_
    refine g_ic_ge hC dX5_tuneNote_10 (tgt := 22) (by decide) (fun c10 => ?_) (fun c10 => ?_)
    · replace h := (if_pos c10).symm.trans h
      refine g_iconst hC dX5_tuneNote_22 (v := (0 : Int32)) (by decide) ?_
      cases h
      exact g_iret hC hE rfl dX5_tuneNote_23 (Nat.zero_le _) (Nat.zero_le _) ⟨rfl, rfl, rfl, rfl, rfl, rfl⟩
    · replace h := (if_neg c10).symm.trans h
      refine g_aload_n hC dX5_tuneNote_13 rfl (q := 0) rfl ?_
      refine g_getr hC fd_RX5_18 hk0.2.1 hk0.1 (C0 := "") (t0 := _) (Or.inr rfl) hk0.2.2.2.2.1.1 dX5_tuneNote_14 ?_
      refine g_iload_n hC dX5_tuneNote_17 rfl (q := 1) rfl ?_
      obtain ⟨g18, h⟩ := oG_some h
      refine g_iald hC hk0.2.2.2.2.1.2.2 hk0.2.2.2.2.1.2.1 (inB_in g18) dX5_tuneNote_18 ?_
      refine g_goto hC dX5_tuneNote_19 (tgt := 23) (by decide) ?_
      cases h
      exact g_iret hC hE rfl dX5_tuneNote_23 (Nat.zero_le _) (Nat.zero_le _) ⟨rfl, rfl, rfl, rfl, rfl, rfl⟩
noncomputable def b_X2_findNeeds_25 (Fu : Nat) (k1 : Nat) (k2 : Nat) (k7_ : Int32 × Int32 × mIT → Option (mIT)) (k25_ : Int32 × Int32 × Int32 × Int32 × mIT → Option (mIT)) (v3 : Int32) (v4 : Int32) (v5 : Int32) (v6 : Int32) (I : mIT) : Option (mIT) :=
  if (I 66 2) ≤ v6 then (k7_ (v3, (v4 + (-1 : Int32)), I)) else (oB (f_X5_tuneNote Fu I k1 v6) (fun r46 => if r46 = v5 then (if ((v6 * (10 : Int32)) + v3) < 0 then (k25_ (v3, v4, v5, (v6 + (1 : Int32)), I)) else (if (nI 80) ≤ ((v6 * (10 : Int32)) + v3) then (k25_ (v3, v4, v5, (v6 + (1 : Int32)), I)) else (oG (inB ((v6 * (10 : Int32)) + v3) 80) (k25_ (v3, v4, v5, (v6 + (1 : Int32)), (mU I 67 (((v6 * (10 : Int32)) + v3)).toNatClampNeg v4)))))) else (k25_ (v3, v4, v5, (v6 + (1 : Int32)), I))))
set_option maxRecDepth 20000 in
theorem bo_X2_findNeeds_25 {X : mXT} {E : mEn} {Fu : Nat} {R : mRT} {L : mLT} {k1 : Nat} {k2 : Nat} (hC : mC X E mX2_findNeeds RX2 cX2_findNeeds) (hW : mWd R) (hk1 : mO5 R k1) (hk2 : mO9 R k2)  {out : mIT} (hE : mEd X E 0 0 (mSame none 106 1 (out) R L)) (k7_ : Int32 × Int32 × mIT → Option (mIT)) (hk7_ : ∀ (v3 : Int32) (v4 : Int32) (I : mIT),  k7_ (v3, v4, I) = some out → mG X E 7 [(0, .ref (mB E + 66)), (1, .ref (mB E + k1)), (2, .ref (mB E + k2)), (3, .int v3), (4, .int v4)] [] 106 1 I R L 0 0) (k25_ : Int32 × Int32 × Int32 × Int32 × mIT → Option (mIT)) (hk25_ : ∀ (v3 : Int32) (v4 : Int32) (v5 : Int32) (v6 : Int32) (I : mIT),  k25_ (v3, v4, v5, v6, I) = some out → mG X E 25 [(0, .ref (mB E + 66)), (1, .ref (mB E + k1)), (2, .ref (mB E + k2)), (3, .int v3), (4, .int v4), (5, .int v5), (6, .int v6)] [] 106 1 I R L 0 0) (v3 : Int32) (v4 : Int32) (v5 : Int32) (v6 : Int32) (I : mIT) (h : b_X2_findNeeds_25 Fu k1 k2 k7_ k25_ v3 v4 v5 v6 I = some out) : mG X E 25 [(0, .ref (mB E + 66)), (1, .ref (mB E + k1)), (2, .ref (mB E + k2)), (3, .int v3), (4, .int v4), (5, .int v5), (6, .int v6)] [] 106 1 I R L 0 0 := by
  unfold b_X2_findNeeds_25 at h
  refine g_iload hC dX2_findNeeds_25 (q := 6) rfl ?_
  refine g_aload_n hC dX2_findNeeds_27 rfl (q := 0) rfl ?_
  refine g_geti hC fd_RX2_18 rfl (by decide) (Or.inl rfl) dX2_findNeeds_28 ?_
  refine g_ic_ge hC dX2_findNeeds_31 (tgt := 84) (by decide) (fun c31 => ?_) (fun c31 => ?_)
  · replace h := (if_pos c31).symm.trans h
    refine g_iinc hC dX2_findNeeds_84 rfl (q := 4) rfl (w := (v4 + (-1 : Int32))) rfl (by decide) (lv' := [(4, .int (v4 + (-1 : Int32))), (0, .ref (mB E + 66)), (1, .ref (mB E + k1)), (2, .ref (mB E + k2)), (3, .int v3), (5, .int v5), (6, .int v6)]) rfl ?_
    refine g_goto hC dX2_findNeeds_87 (tgt := 7) (by decide) ?_
    refine g_lv [1, 2, 3, 4, 0] rfl ?_
    exact hk7_ v3 (v4 + (-1 : Int32)) I h
  · replace h := (if_neg c31).symm.trans h
    refine g_iload hC dX2_findNeeds_34 (q := 6) rfl ?_
    refine g_bipush hC dX2_findNeeds_36 (v := (10 : Int32)) (by decide) ?_
    refine g_imul hC dX2_findNeeds_38 ?_
    refine g_iload_n hC dX2_findNeeds_39 rfl (q := 3) rfl ?_
    refine g_iadd hC dX2_findNeeds_40 ?_
    refine g_istore hC dX2_findNeeds_41 rfl (by decide) (lv' := [(7, .int ((v6 * (10 : Int32)) + v3)), (0, .ref (mB E + 66)), (1, .ref (mB E + k1)), (2, .ref (mB E + k2)), (3, .int v3), (4, .int v4), (5, .int v5), (6, .int v6)]) rfl ?_
    refine g_aload_n hC dX2_findNeeds_43 rfl (q := 2) rfl ?_
    refine g_iload hC dX2_findNeeds_44 (q := 7) rfl ?_
    obtain ⟨r46, h46, h⟩ := oB_some h
    refine g_cV1 hC cv_X5_tuneNote wd_1379 ⟨Nat.le_of_ble_eq_true rfl, Nat.le_of_ble_eq_true rfl⟩ hk1.2.1 hk1.1 dX2_findNeeds_46 (As := [.int v6]) (st := []) (ok_X5_tuneNote hC.2.2.2.2.2.2.2.1 hk1 h46) rfl rfl (Nat.le_of_ble_eq_true rfl) ⟨Nat.zero_le _, Nat.zero_le _⟩ ?_
    refine g_iload hC dX2_findNeeds_49 (q := 6) rfl ?_
    refine g_ic_ne hC dX2_findNeeds_51 (tgt := 78) (by decide) (fun c51 => ?_) (fun c51 => ?_)
    · replace h := (if_neg c51).symm.trans h
      refine g_iinc hC dX2_findNeeds_78 rfl (q := 7) rfl (w := (v6 + (1 : Int32))) rfl (by decide) (lv' := [(6, .int (v6 + (1 : Int32))), (7, .int ((v6 * (10 : Int32)) + v3)), (0, .ref (mB E + 66)), (1, .ref (mB E + k1)), (2, .ref (mB E + k2)), (3, .int v3), (4, .int v4), (5, .int v5)]) rfl ?_
      refine g_goto hC dX2_findNeeds_81 (tgt := 25) (by decide) ?_
      refine g_lv [2, 3, 4, 5, 6, 7, 0] rfl ?_
      exact hk25_ v3 v4 v5 (v6 + (1 : Int32)) I h
    · replace h := (if_pos c51).symm.trans h
      refine g_iload hC dX2_findNeeds_54 (q := 0) rfl ?_
      refine g_if_lt hC dX2_findNeeds_56 (tgt := 78) (by decide) (fun c56 => ?_) (fun c56 => ?_)
      · replace h := (if_pos c56).symm.trans h
        refine g_iinc hC dX2_findNeeds_78 rfl (q := 7) rfl (w := (v6 + (1 : Int32))) rfl (by decide) (lv' := [(6, .int (v6 + (1 : Int32))), (7, .int ((v6 * (10 : Int32)) + v3)), (0, .ref (mB E + 66)), (1, .ref (mB E + k1)), (2, .ref (mB E + k2)), (3, .int v3), (4, .int v4), (5, .int v5)]) rfl ?_
        refine g_goto hC dX2_findNeeds_81 (tgt := 25) (by decide) ?_
        refine g_lv [2, 3, 4, 5, 6, 7, 0] rfl ?_
        exact hk25_ v3 v4 v5 (v6 + (1 : Int32)) I h
      · replace h := (if_neg c56).symm.trans h
        refine g_iload hC dX2_findNeeds_59 (q := 0) rfl ?_
        refine g_aload_n hC dX2_findNeeds_61 rfl (q := 1) rfl ?_
        refine g_getr hC fd_RX2_9 rfl (by decide) (C0 := "") (t0 := _) (Or.inr rfl) (rr_66_0 hW.1) dX2_findNeeds_62 ?_
        refine g_alenI hC rfl (by decide) dX2_findNeeds_65 ?_
        refine g_ic_ge hC dX2_findNeeds_66 (tgt := 78) (by decide) (fun c66 => ?_) (fun c66 => ?_)
        · replace h := (if_pos c66).symm.trans h
          refine g_iinc hC dX2_findNeeds_78 rfl (q := 7) rfl (w := (v6 + (1 : Int32))) rfl (by decide) (lv' := [(6, .int (v6 + (1 : Int32))), (7, .int ((v6 * (10 : Int32)) + v3)), (0, .ref (mB E + 66)), (1, .ref (mB E + k1)), (2, .ref (mB E + k2)), (3, .int v3), (4, .int v4), (5, .int v5)]) rfl ?_
          refine g_goto hC dX2_findNeeds_81 (tgt := 25) (by decide) ?_
          refine g_lv [2, 3, 4, 5, 6, 7, 0] rfl ?_
          exact hk25_ v3 v4 v5 (v6 + (1 : Int32)) I h
        · replace h := (if_neg c66).symm.trans h
          refine g_aload_n hC dX2_findNeeds_69 rfl (q := 1) rfl ?_
          refine g_getr hC fd_RX2_9 rfl (by decide) (C0 := "") (t0 := _) (Or.inr rfl) (rr_66_0 hW.1) dX2_findNeeds_70 ?_
          refine g_iload hC dX2_findNeeds_73 (q := 0) rfl ?_
          refine g_iload hC dX2_findNeeds_75 (q := 5) rfl ?_
          obtain ⟨g77, h⟩ := oG_some h
          refine g_iast hC rfl (by decide) (inB_in g77) dX2_findNeeds_77 (nm_e ?_)
          refine g_iinc hC dX2_findNeeds_78 rfl (q := 7) rfl (w := (v6 + (1 : Int32))) rfl (by decide) (lv' := [(6, .int (v6 + (1 : Int32))), (7, .int ((v6 * (10 : Int32)) + v3)), (0, .ref (mB E + 66)), (1, .ref (mB E + k1)), (2, .ref (mB E + k2)), (3, .int v3), (4, .int v4), (5, .int v5)]) rfl ?_
          refine g_goto hC dX2_findNeeds_81 (tgt := 25) (by decide) ?_
          refine g_lv [2, 3, 4, 5, 6, 7, 0] rfl ?_
          exact hk25_ v3 v4 v5 (v6 + (1 : Int32)) (mU I 67 (((v6 * (10 : Int32)) + v3)).toNatClampNeg v4) h
noncomputable def w_X2_findNeeds_25 (Fu : Nat) (k1 : Nat) (k2 : Nat) (k7_ : Int32 × Int32 × mIT → Option (mIT)) (N : Nat) (v3 : Int32) (v4 : Int32) (v5 : Int32) (v6 : Int32) (I : mIT) : Option (mIT) :=
  loopF (fun self (s : Int32 × Int32 × Int32 × Int32 × mIT) => b_X2_findNeeds_25 Fu k1 k2 k7_ self s.1 s.2.1 s.2.2.1 s.2.2.2.1 s.2.2.2.2) N (v3, v4, v5, v6, I)
theorem wo_X2_findNeeds_25 {X : mXT} {E : mEn} {Fu : Nat} {R : mRT} {L : mLT} {k1 : Nat} {k2 : Nat} (hC : mC X E mX2_findNeeds RX2 cX2_findNeeds) (hW : mWd R) (hk1 : mO5 R k1) (hk2 : mO9 R k2)  {out : mIT} (hE : mEd X E 0 0 (mSame none 106 1 (out) R L)) (k7_ : Int32 × Int32 × mIT → Option (mIT)) (hk7_ : ∀ (v3 : Int32) (v4 : Int32) (I : mIT),  k7_ (v3, v4, I) = some out → mG X E 7 [(0, .ref (mB E + 66)), (1, .ref (mB E + k1)), (2, .ref (mB E + k2)), (3, .int v3), (4, .int v4)] [] 106 1 I R L 0 0) (N : Nat) (v3 : Int32) (v4 : Int32) (v5 : Int32) (v6 : Int32) (I : mIT) (h : w_X2_findNeeds_25 Fu k1 k2 k7_ N v3 v4 v5 v6 I = some out) : mG X E 25 [(0, .ref (mB E + 66)), (1, .ref (mB E + k1)), (2, .ref (mB E + k2)), (3, .int v3), (4, .int v4), (5, .int v5), (6, .int v6)] [] 106 1 I R L 0 0 :=
  loopF_ok (Gd := fun s : Int32 × Int32 × Int32 × Int32 × mIT => mG X E 25 [(0, .ref (mB E + 66)), (1, .ref (mB E + k1)), (2, .ref (mB E + k2)), (3, .int s.1), (4, .int s.2.1), (5, .int s.2.2.1), (6, .int s.2.2.2.1)] [] 106 1 s.2.2.2.2 R L 0 0) (fun self hs s h => bo_X2_findNeeds_25 hC hW hk1 hk2 hE k7_ hk7_ self (fun v3 v4 v5 v6 I h => hs (v3, v4, v5, v6, I) h) s.1 s.2.1 s.2.2.1 s.2.2.2.1 s.2.2.2.2 h) N (v3, v4, v5, v6, I) h
noncomputable def b_X2_findNeeds_7 (Fu : Nat) (k1 : Nat) (k2 : Nat) (k7_ : Int32 × Int32 × mIT → Option (mIT)) (v3 : Int32) (v4 : Int32) (I : mIT) : Option (mIT) :=
  if v4 < 0 then (some (I)) else (oB (f_X9_noteOf Fu I k2 k1 v3 v4) (fun r17 => w_X2_findNeeds_25 Fu k1 k2 k7_ Fu v3 v4 r17.1 (0 : Int32) r17.2))
set_option maxRecDepth 20000 in
theorem bo_X2_findNeeds_7 {X : mXT} {E : mEn} {Fu : Nat} {R : mRT} {L : mLT} {k1 : Nat} {k2 : Nat} (hC : mC X E mX2_findNeeds RX2 cX2_findNeeds) (hW : mWd R) (hk1 : mO5 R k1) (hk2 : mO9 R k2)  {out : mIT} (hE : mEd X E 0 0 (mSame none 106 1 (out) R L)) (k7_ : Int32 × Int32 × mIT → Option (mIT)) (hk7_ : ∀ (v3 : Int32) (v4 : Int32) (I : mIT),  k7_ (v3, v4, I) = some out → mG X E 7 [(0, .ref (mB E + 66)), (1, .ref (mB E + k1)), (2, .ref (mB E + k2)), (3, .int v3), (4, .int v4)] [] 106 1 I R L 0 0) (v3 : Int32) (v4 : Int32) (I : mIT) (h : b_X2_findNeeds_7 Fu k1 k2 k7_ v3 v4 I = some out) : mG X E 7 [(0, .ref (mB E + 66)), (1, .ref (mB E + k1)), (2, .ref (mB E + k2)), (3, .int v3), (4, .int v4)] [] 106 1 I R L 0 0 := by
  unfold b_X2_findNeeds_7 at h
  refine g_iload hC dX2_findNeeds_7 (q := 4) rfl ?_
  refine g_if_lt hC dX2_findNeeds_9 (tgt := 90) (by decide) (fun c9 => ?_) (fun c9 => ?_)
  · replace h := (if_pos c9).symm.trans h
    cases h
    exact g_vret hC hE rfl dX2_findNeeds_90 (Nat.zero_le _) (Nat.zero_le _) ⟨rfl, rfl, rfl, rfl, rfl, rfl⟩
  · replace h := (if_neg c9).symm.trans h
    refine g_aload_n hC dX2_findNeeds_12 rfl (q := 2) rfl ?_
    refine g_aload_n hC dX2_findNeeds_13 rfl (q := 1) rfl ?_
    refine g_iload_n hC dX2_findNeeds_14 rfl (q := 3) rfl ?_
    refine g_iload hC dX2_findNeeds_15 (q := 4) rfl ?_
    obtain ⟨r17, h17, h⟩ := oB_some h
    refine g_cV1 hC cv_X9_noteOf wd_1378 ⟨Nat.le_of_ble_eq_true rfl, Nat.le_of_ble_eq_true rfl⟩ hk2.2.1 hk2.1 dX2_findNeeds_17 (As := [.ref (mB E + k1), .int v3, .int v4]) (st := []) (ok_X9_noteOf hC.2.2.2.2.2.2.2.1 hk2 hk1 h17) rfl rfl (Nat.le_of_ble_eq_true rfl) ⟨Nat.zero_le _, Nat.zero_le _⟩ ?_
    refine g_istore hC dX2_findNeeds_20 rfl (by decide) (lv' := [(5, .int r17.1), (0, .ref (mB E + 66)), (1, .ref (mB E + k1)), (2, .ref (mB E + k2)), (3, .int v3), (4, .int v4)]) rfl ?_
    refine g_iconst hC dX2_findNeeds_22 (v := (0 : Int32)) (by decide) ?_
    refine g_istore hC dX2_findNeeds_23 rfl (by decide) (lv' := [(6, .int (0 : Int32)), (5, .int r17.1), (0, .ref (mB E + 66)), (1, .ref (mB E + k1)), (2, .ref (mB E + k2)), (3, .int v3), (4, .int v4)]) rfl ?_
    refine g_lv [2, 3, 4, 5, 6, 1, 0] rfl ?_
    exact wo_X2_findNeeds_25 hC hW hk1 hk2 hE k7_ hk7_ Fu (v3) (v4) (r17.1) ((0 : Int32)) (r17.2) h
noncomputable def w_X2_findNeeds_7 (Fu : Nat) (k1 : Nat) (k2 : Nat)  (N : Nat) (v3 : Int32) (v4 : Int32) (I : mIT) : Option (mIT) :=
  loopF (fun self (s : Int32 × Int32 × mIT) => b_X2_findNeeds_7 Fu k1 k2 self s.1 s.2.1 s.2.2) N (v3, v4, I)
theorem wo_X2_findNeeds_7 {X : mXT} {E : mEn} {Fu : Nat} {R : mRT} {L : mLT} {k1 : Nat} {k2 : Nat} (hC : mC X E mX2_findNeeds RX2 cX2_findNeeds) (hW : mWd R) (hk1 : mO5 R k1) (hk2 : mO9 R k2)  {out : mIT} (hE : mEd X E 0 0 (mSame none 106 1 (out) R L))  (N : Nat) (v3 : Int32) (v4 : Int32) (I : mIT) (h : w_X2_findNeeds_7 Fu k1 k2  N v3 v4 I = some out) : mG X E 7 [(0, .ref (mB E + 66)), (1, .ref (mB E + k1)), (2, .ref (mB E + k2)), (3, .int v3), (4, .int v4)] [] 106 1 I R L 0 0 :=
  loopF_ok (Gd := fun s : Int32 × Int32 × mIT => mG X E 7 [(0, .ref (mB E + 66)), (1, .ref (mB E + k1)), (2, .ref (mB E + k2)), (3, .int s.1), (4, .int s.2.1)] [] 106 1 s.2.2 R L 0 0) (fun self hs s h => bo_X2_findNeeds_7 hC hW hk1 hk2 hE self (fun v3 v4 I h => hs (v3, v4, I) h) s.1 s.2.1 s.2.2 h) N (v3, v4, I) h
noncomputable def f_X2_findNeeds (Fu : Nat) (I : mIT) (k1 : Nat) (k2 : Nat) (v3 : Int32) : Option (mIT) :=
  oB (f_X9_roomToHollow Fu I k2 v3) (fun r2 => w_X2_findNeeds_7 Fu k1 k2 Fu v3 r2 I)
set_option maxRecDepth 20000 in
theorem ok_X2_findNeeds {l : Launch} {E : mEn} {Fu : Nat} {I : mIT} {R : mRT} {L : mLT} {k1 : Nat} {k2 : Nat} {v3 : Int32} (hst : l.stackTraces = false) (hW : mWd R) (hk1 : mO5 R k1) (hk2 : mO9 R k2) {out : mIT} (h : f_X2_findNeeds Fu I k1 k2 v3 = some out) : mOk l E mX2_findNeeds [.ref (mB E + 66), .ref (mB E + k1), .ref (mB E + k2), .int v3] 106 1 I R L 0 0 (mSame none 106 1 (out) R L) := by
  refine mOk_of hst (by decide) (Nat.le_of_ble_eq_true rfl) (fun X hC hE _ => ?_)
  have hC : mC X E mX2_findNeeds RX2 cX2_findNeeds := hC
  show mG X E 0 [(0, .ref (mB E + 66)), (1, .ref (mB E + k1)), (2, .ref (mB E + k2)), (3, .int v3)] [] 106 1 I R L 0 0
  unfold f_X2_findNeeds at h
  refine g_aload_n hC dX2_findNeeds_0 rfl (q := 2) rfl ?_
  refine g_iload_n hC dX2_findNeeds_1 rfl (q := 3) rfl ?_
  obtain ⟨r2, h2, h⟩ := oB_some h
  refine g_cV1 hC cv_X9_roomToHollow wd_1377 ⟨Nat.le_of_ble_eq_true rfl, Nat.le_of_ble_eq_true rfl⟩ hk2.2.1 hk2.1 dX2_findNeeds_2 (As := [.int v3]) (st := []) (ok_X9_roomToHollow hC.2.2.2.2.2.2.2.1 hk2 h2) rfl rfl (Nat.le_of_ble_eq_true rfl) ⟨Nat.zero_le _, Nat.zero_le _⟩ ?_
  refine g_istore hC dX2_findNeeds_5 rfl (by decide) (lv' := [(4, .int r2), (0, .ref (mB E + 66)), (1, .ref (mB E + k1)), (2, .ref (mB E + k2)), (3, .int v3)]) rfl ?_
  refine g_lv [1, 2, 3, 4, 0] rfl ?_
  exact wo_X2_findNeeds_7 hC hW hk1 hk2 hE Fu (v3) (r2) (I) h
noncomputable def f_X2_leastBy (Fu : Nat) (I : mIT) (v1 : Int32) (v2 : Int32) (v3 : Int32) : Option (Int32) :=
  if (v3 ||| ((1 : Int32) <<< (v2 &&& 31))) = v3 then (some (1000000 : Int32)) else (if ((v1 * (10 : Int32)) + v2) < 0 then (some (1000000 : Int32)) else (if (nI 80) ≤ ((v1 * (10 : Int32)) + v2) then (some (1000000 : Int32)) else (if (v3 ||| ((1 : Int32) <<< (v2 &&& 31))) < 0 then (some (1000000 : Int32)) else (if (v3 ||| ((1 : Int32) <<< (v2 &&& 31))) < (nI 1024) then (oG (inB ((v1 * (10 : Int32)) + v2) 80) (oG (inB (v3 ||| ((1 : Int32) <<< (v2 &&& 31))) 1024) (some (if ((I 67 (((v1 * (10 : Int32)) + v2)).toNatClampNeg) + (I 68 ((v3 ||| ((1 : Int32) <<< (v2 &&& 31)))).toNatClampNeg)) < (1000000 : Int32) then ((I 67 (((v1 * (10 : Int32)) + v2)).toNatClampNeg) + (I 68 ((v3 ||| ((1 : Int32) <<< (v2 &&& 31)))).toNatClampNeg)) else (1000000 : Int32))))) else (some (1000000 : Int32))))))
set_option maxRecDepth 20000 in
theorem ok_X2_leastBy {l : Launch} {E : mEn} {Fu : Nat} {I : mIT} {R : mRT} {L : mLT} {v1 : Int32} {v2 : Int32} {v3 : Int32} (hst : l.stackTraces = false) (hW : mWd R)  {out : Int32} (h : f_X2_leastBy Fu I v1 v2 v3 = some out) : mOk l E mX2_leastBy [.ref (mB E + 66), .int v1, .int v2, .int v3] 106 1 I R L 0 0 (mSame (some (.int (out))) 106 1 I R L) := by
  refine mOk_of hst (by decide) (Nat.le_of_ble_eq_true rfl) (fun X hC hE _ => ?_)
  have hC : mC X E mX2_leastBy RX2 cX2_leastBy := hC
  show mG X E 0 [(0, .ref (mB E + 66)), (1, .int v1), (2, .int v2), (3, .int v3)] [] 106 1 I R L 0 0
  unfold f_X2_leastBy at h
  refine g_iload_n hC dX2_leastBy_0 rfl (q := 1) rfl ?_
  refine g_bipush hC dX2_leastBy_1 (v := (10 : Int32)) (by decide) ?_
  refine g_imul hC dX2_leastBy_3 ?_
  refine g_iload_n hC dX2_leastBy_4 rfl (q := 2) rfl ?_
  refine g_iadd hC dX2_leastBy_5 ?_
  refine g_istore hC dX2_leastBy_6 rfl (by decide) (lv' := [(4, .int ((v1 * (10 : Int32)) + v2)), (0, .ref (mB E + 66)), (1, .int v1), (2, .int v2), (3, .int v3)]) rfl ?_
  refine g_iload_n hC dX2_leastBy_8 rfl (q := 4) rfl ?_
  refine g_iconst hC dX2_leastBy_9 (v := (1 : Int32)) (by decide) ?_
  refine g_iload_n hC dX2_leastBy_10 rfl (q := 3) rfl ?_
  refine g_ishl hC dX2_leastBy_11 ?_
  refine g_ior hC dX2_leastBy_12 ?_
  refine g_istore hC dX2_leastBy_13 rfl (by decide) (lv' := [(5, .int (v3 ||| ((1 : Int32) <<< (v2 &&& 31)))), (4, .int ((v1 * (10 : Int32)) + v2)), (0, .ref (mB E + 66)), (1, .int v1), (2, .int v2), (3, .int v3)]) rfl ?_
  refine g_iload hC dX2_leastBy_15 (q := 0) rfl ?_
  refine g_iload_n hC dX2_leastBy_17 rfl (q := 5) rfl ?_
  refine g_ic_eq hC dX2_leastBy_18 (tgt := 51) (by decide) (fun c18 => ?_) (fun c18 => ?_)
  · replace h := (if_pos c18).symm.trans h
    refine g_ldc hC dX2_leastBy_51 wd_1371 ?_
    cases h
    exact g_iret hC hE rfl dX2_leastBy_53 (Nat.zero_le _) (Nat.zero_le _) ⟨rfl, rfl, rfl, rfl, rfl, rfl⟩
  · replace h := (if_neg c18).symm.trans h
    refine g_iload hC dX2_leastBy_21 (q := 1) rfl ?_
    refine g_if_lt hC dX2_leastBy_23 (tgt := 51) (by decide) (fun c23 => ?_) (fun c23 => ?_)
    · replace h := (if_pos c23).symm.trans h
      refine g_ldc hC dX2_leastBy_51 wd_1371 ?_
      cases h
      exact g_iret hC hE rfl dX2_leastBy_53 (Nat.zero_le _) (Nat.zero_le _) ⟨rfl, rfl, rfl, rfl, rfl, rfl⟩
    · replace h := (if_neg c23).symm.trans h
      refine g_iload hC dX2_leastBy_26 (q := 1) rfl ?_
      refine g_aload_n hC dX2_leastBy_28 rfl (q := 2) rfl ?_
      refine g_getr hC fd_RX2_9 rfl (by decide) (C0 := "") (t0 := _) (Or.inr rfl) (rr_66_0 hW.1) dX2_leastBy_29 ?_
      refine g_alenI hC rfl (by decide) dX2_leastBy_32 ?_
      refine g_ic_ge hC dX2_leastBy_33 (tgt := 51) (by decide) (fun c33 => ?_) (fun c33 => ?_)
      · replace h := (if_pos c33).symm.trans h
        refine g_ldc hC dX2_leastBy_51 wd_1371 ?_
        cases h
        exact g_iret hC hE rfl dX2_leastBy_53 (Nat.zero_le _) (Nat.zero_le _) ⟨rfl, rfl, rfl, rfl, rfl, rfl⟩
      · replace h := (if_neg c33).symm.trans h
        refine g_iload hC dX2_leastBy_36 (q := 0) rfl ?_
        refine g_if_lt hC dX2_leastBy_38 (tgt := 51) (by decide) (fun c38 => ?_) (fun c38 => ?_)
        · replace h := (if_pos c38).symm.trans h
          refine g_ldc hC dX2_leastBy_51 wd_1371 ?_
          cases h
          exact g_iret hC hE rfl dX2_leastBy_53 (Nat.zero_le _) (Nat.zero_le _) ⟨rfl, rfl, rfl, rfl, rfl, rfl⟩
        · replace h := (if_neg c38).symm.trans h
          refine g_iload hC dX2_leastBy_41 (q := 0) rfl ?_
          refine g_aload_n hC dX2_leastBy_43 rfl (q := 2) rfl ?_
          refine g_getr hC fd_RX2_15 rfl (by decide) (C0 := "") (t0 := _) (Or.inr rfl) (rr_66_1 hW.1) dX2_leastBy_44 ?_
          refine g_alenI hC rfl (by decide) dX2_leastBy_47 ?_
          refine g_ic_lt hC dX2_leastBy_48 (tgt := 54) (by decide) (fun c48 => ?_) (fun c48 => ?_)
          · replace h := (if_pos c48).symm.trans h
            refine g_ldc hC dX2_leastBy_54 wd_1371 ?_
            refine g_aload_n hC dX2_leastBy_56 rfl (q := 2) rfl ?_
            refine g_getr hC fd_RX2_9 rfl (by decide) (C0 := "") (t0 := _) (Or.inr rfl) (rr_66_0 hW.1) dX2_leastBy_57 ?_
            refine g_iload hC dX2_leastBy_60 (q := 1) rfl ?_
            obtain ⟨g62, h⟩ := oG_some h
            refine g_iald hC rfl (by decide) (inB_in g62) dX2_leastBy_62 ?_
            refine g_aload_n hC dX2_leastBy_63 rfl (q := 2) rfl ?_
            refine g_getr hC fd_RX2_15 rfl (by decide) (C0 := "") (t0 := _) (Or.inr rfl) (rr_66_1 hW.1) dX2_leastBy_64 ?_
            refine g_iload hC dX2_leastBy_67 (q := 0) rfl ?_
            obtain ⟨g69, h⟩ := oG_some h
            refine g_iald hC rfl (by decide) (inB_in g69) dX2_leastBy_69 ?_
            refine g_iadd hC dX2_leastBy_70 ?_
            refine g_mmin hC wd_1389 wd_st_min wd_in_math wd_cd_min (Nat.le_of_ble_eq_true rfl) (Nat.le_of_ble_eq_true rfl) ⟨Nat.zero_le _, Nat.zero_le _⟩ dX2_leastBy_71 ?_
            cases h
            exact g_iret hC hE rfl dX2_leastBy_74 (Nat.zero_le _) (Nat.zero_le _) ⟨rfl, rfl, rfl, rfl, rfl, rfl⟩
          · replace h := (if_neg c48).symm.trans h
            refine g_ldc hC dX2_leastBy_51 wd_1371 ?_
            cases h
            exact g_iret hC hE rfl dX2_leastBy_53 (Nat.zero_le _) (Nat.zero_le _) ⟨rfl, rfl, rfl, rfl, rfl, rfl⟩
noncomputable def b_X2_leastBehind_34 (Fu : Nat) (I : mIT) (k34_ : Int32 × Int32 × Int32 × Int32 → Option (Int32)) (v1 : Int32) (v2 : Int32) (v3 : Int32) (v4 : Int32) : Option (Int32) :=
  if (I 66 3) ≤ v4 then (some (v3)) else (oB (f_X2_leastBy Fu I v2 v4 v1) (fun r49 => k34_ (v1, v2, (if r49 < v3 then r49 else v3), (v4 + (1 : Int32)))))
set_option maxRecDepth 20000 in
theorem bo_X2_leastBehind_34 {X : mXT} {E : mEn} {Fu : Nat} {I : mIT} {R : mRT} {L : mLT}  (hC : mC X E mX2_leastBehind RX2 cX2_leastBehind) (hW : mWd R)   {out : Int32} (hE : mEd X E 0 0 (mSame (some (.int (out))) 106 1 I R L)) (k34_ : Int32 × Int32 × Int32 × Int32 → Option (Int32)) (hk34_ : ∀ (v1 : Int32) (v2 : Int32) (v3 : Int32) (v4 : Int32),  k34_ (v1, v2, v3, v4) = some out → mG X E 34 [(0, .ref (mB E + 66)), (1, .int v1), (2, .int v2), (3, .int v3), (4, .int v4)] [] 106 1 I R L 0 0) (v1 : Int32) (v2 : Int32) (v3 : Int32) (v4 : Int32) (h : b_X2_leastBehind_34 Fu I k34_ v1 v2 v3 v4 = some out) : mG X E 34 [(0, .ref (mB E + 66)), (1, .int v1), (2, .int v2), (3, .int v3), (4, .int v4)] [] 106 1 I R L 0 0 := by
  unfold b_X2_leastBehind_34 at h
  refine g_iload hC dX2_leastBehind_34 (q := 4) rfl ?_
  refine g_aload_n hC dX2_leastBehind_36 rfl (q := 0) rfl ?_
  refine g_geti hC fd_RX2_22 rfl (by decide) (Or.inl rfl) dX2_leastBehind_37 ?_
  refine g_ic_ge hC dX2_leastBehind_40 (tgt := 62) (by decide) (fun c40 => ?_) (fun c40 => ?_)
  · replace h := (if_pos c40).symm.trans h
    refine g_iload_n hC dX2_leastBehind_62 rfl (q := 3) rfl ?_
    cases h
    exact g_iret hC hE rfl dX2_leastBehind_63 (Nat.zero_le _) (Nat.zero_le _) ⟨rfl, rfl, rfl, rfl, rfl, rfl⟩
  · replace h := (if_neg c40).symm.trans h
    refine g_iload_n hC dX2_leastBehind_43 rfl (q := 3) rfl ?_
    refine g_aload_n hC dX2_leastBehind_44 rfl (q := 0) rfl ?_
    refine g_iload_n hC dX2_leastBehind_45 rfl (q := 2) rfl ?_
    refine g_iload hC dX2_leastBehind_46 (q := 4) rfl ?_
    refine g_iload_n hC dX2_leastBehind_48 rfl (q := 1) rfl ?_
    obtain ⟨r49, h49, h⟩ := oB_some h
    refine g_cV1 hC cv_X2_leastBy wd_1385 ⟨Nat.le_of_ble_eq_true rfl, Nat.le_of_ble_eq_true rfl⟩ rfl (by decide) dX2_leastBehind_49 (As := [.int v2, .int v4, .int v1]) (st := [.int v3]) (ok_X2_leastBy hC.2.2.2.2.2.2.2.1 hW h49) rfl rfl (Nat.le_of_ble_eq_true rfl) ⟨Nat.zero_le _, Nat.zero_le _⟩ ?_
    refine g_mmin hC wd_1389 wd_st_min wd_in_math wd_cd_min (Nat.le_of_ble_eq_true rfl) (Nat.le_of_ble_eq_true rfl) ⟨Nat.zero_le _, Nat.zero_le _⟩ dX2_leastBehind_52 ?_
    refine g_istore_n hC dX2_leastBehind_55 rfl rfl (by decide) (lv' := [(3, .int (if r49 < v3 then r49 else v3)), (0, .ref (mB E + 66)), (1, .int v1), (2, .int v2), (4, .int v4)]) rfl ?_
    refine g_iinc hC dX2_leastBehind_56 rfl (q := 4) rfl (w := (v4 + (1 : Int32))) rfl (by decide) (lv' := [(4, .int (v4 + (1 : Int32))), (3, .int (if r49 < v3 then r49 else v3)), (0, .ref (mB E + 66)), (1, .int v1), (2, .int v2)]) rfl ?_
    refine g_goto hC dX2_leastBehind_59 (tgt := 34) (by decide) ?_
    refine g_lv [2, 3, 4, 1, 0] rfl ?_
    exact hk34_ v1 v2 (if r49 < v3 then r49 else v3) (v4 + (1 : Int32)) h
noncomputable def w_X2_leastBehind_34 (Fu : Nat) (I : mIT)  (N : Nat) (v1 : Int32) (v2 : Int32) (v3 : Int32) (v4 : Int32) : Option (Int32) :=
  loopF (fun self (s : Int32 × Int32 × Int32 × Int32) => b_X2_leastBehind_34 Fu I self s.1 s.2.1 s.2.2.1 s.2.2.2) N (v1, v2, v3, v4)
theorem wo_X2_leastBehind_34 {X : mXT} {E : mEn} {Fu : Nat} {I : mIT} {R : mRT} {L : mLT}  (hC : mC X E mX2_leastBehind RX2 cX2_leastBehind) (hW : mWd R)   {out : Int32} (hE : mEd X E 0 0 (mSame (some (.int (out))) 106 1 I R L))  (N : Nat) (v1 : Int32) (v2 : Int32) (v3 : Int32) (v4 : Int32) (h : w_X2_leastBehind_34 Fu I  N v1 v2 v3 v4 = some out) : mG X E 34 [(0, .ref (mB E + 66)), (1, .int v1), (2, .int v2), (3, .int v3), (4, .int v4)] [] 106 1 I R L 0 0 :=
  loopF_ok (Gd := fun s : Int32 × Int32 × Int32 × Int32 => mG X E 34 [(0, .ref (mB E + 66)), (1, .int s.1), (2, .int s.2.1), (3, .int s.2.2.1), (4, .int s.2.2.2)] [] 106 1 I R L 0 0) (fun self hs s h => bo_X2_leastBehind_34 hC hW hE self (fun v1 v2 v3 v4 h => hs (v1, v2, v3, v4) h) s.1 s.2.1 s.2.2.1 s.2.2.2 h) N (v1, v2, v3, v4) h
noncomputable def f_X2_leastBehind (Fu : Nat) (I : mIT) (v1 : Int32) : Option (Int32) :=
  oB (f_J6_bitCount_0f7a4 Fu v1) (fun r1 => if r1 < (I 66 2) then (w_X2_leastBehind_34 Fu I Fu v1 r1 (1000000 : Int32) (0 : Int32)) else (if r1 = (I 66 2) then (some (0 : Int32)) else (some (1000000 : Int32))))
set_option maxRecDepth 20000 in
theorem ok_X2_leastBehind {l : Launch} {E : mEn} {Fu : Nat} {I : mIT} {R : mRT} {L : mLT} {v1 : Int32} (hst : l.stackTraces = false) (hW : mWd R)  {out : Int32} (h : f_X2_leastBehind Fu I v1 = some out) : mOk l E mX2_leastBehind [.ref (mB E + 66), .int v1] 106 1 I R L 0 0 (mSame (some (.int (out))) 106 1 I R L) := by
  refine mOk_of hst (by decide) (Nat.le_of_ble_eq_true rfl) (fun X hC hE _ => ?_)
  have hC : mC X E mX2_leastBehind RX2 cX2_leastBehind := hC
  show mG X E 0 [(0, .ref (mB E + 66)), (1, .int v1)] [] 106 1 I R L 0 0
  unfold f_X2_leastBehind at h
  refine g_iload_n hC dX2_leastBehind_0 rfl (q := 1) rfl ?_
  obtain ⟨r1, h1, h⟩ := oB_some h
  refine g_cS1 hC cs_J6_bitCount_0f7a4 wd_1384 ⟨Nat.le_of_ble_eq_true rfl, Nat.le_of_ble_eq_true rfl⟩ dX2_leastBehind_1 (As := [.int v1]) (st := []) (ok_J6_bitCount_0f7a4 hC.2.2.2.2.2.2.2.1  h1) rfl rfl (Nat.le_of_ble_eq_true rfl) ⟨Nat.zero_le _, Nat.zero_le _⟩ ?_
  refine g_istore_n hC dX2_leastBehind_4 rfl rfl (by decide) (lv' := [(2, .int r1), (0, .ref (mB E + 66)), (1, .int v1)]) rfl ?_
  refine g_iload_n hC dX2_leastBehind_5 rfl (q := 0) rfl ?_
  refine g_aload_n hC dX2_leastBehind_6 rfl (q := 1) rfl ?_
  refine g_geti hC fd_RX2_18 rfl (by decide) (Or.inl rfl) dX2_leastBehind_7 ?_
  refine g_ic_lt hC dX2_leastBehind_10 (tgt := 28) (by decide) (fun c10 => ?_) (fun c10 => ?_)
  · replace h := (if_pos c10).symm.trans h
    refine g_ldc hC dX2_leastBehind_28 wd_1371 ?_
    refine g_istore_n hC dX2_leastBehind_30 rfl rfl (by decide) (lv' := [(3, .int (1000000 : Int32)), (2, .int r1), (0, .ref (mB E + 66)), (1, .int v1)]) rfl ?_
    refine g_iconst hC dX2_leastBehind_31 (v := (0 : Int32)) (by decide) ?_
    refine g_istore hC dX2_leastBehind_32 rfl (by decide) (lv' := [(4, .int (0 : Int32)), (3, .int (1000000 : Int32)), (2, .int r1), (0, .ref (mB E + 66)), (1, .int v1)]) rfl ?_
    refine g_lv [3, 4, 2, 1, 0] rfl ?_
    exact wo_X2_leastBehind_34 hC hW hE Fu (v1) (r1) ((1000000 : Int32)) ((0 : Int32)) h
  · replace h := (if_neg c10).symm.trans h
    refine g_iload_n hC dX2_leastBehind_13 rfl (q := 0) rfl ?_
    refine g_aload_n hC dX2_leastBehind_14 rfl (q := 1) rfl ?_
    refine g_geti hC fd_RX2_18 rfl (by decide) (Or.inl rfl) dX2_leastBehind_15 ?_
    refine g_ic_ne hC dX2_leastBehind_18 (tgt := 25) (by decide) (fun c18 => ?_) (fun c18 => ?_)
    · replace h := (if_neg c18).symm.trans h
      refine g_ldc hC dX2_leastBehind_25 wd_1371 ?_
      cases h
      exact g_iret hC hE rfl dX2_leastBehind_27 (Nat.zero_le _) (Nat.zero_le _) ⟨rfl, rfl, rfl, rfl, rfl, rfl⟩
    · replace h := (if_pos c18).symm.trans h
      refine g_iconst hC dX2_leastBehind_21 (v := (0 : Int32)) (by decide) ?_
      refine g_goto hC dX2_leastBehind_22 (tgt := 27) (by decide) ?_
      cases h
      exact g_iret hC hE rfl dX2_leastBehind_27 (Nat.zero_le _) (Nat.zero_le _) ⟨rfl, rfl, rfl, rfl, rfl, rfl⟩
noncomputable def b_X2_workOut_96 (Fu : Nat) (k1 : Nat) (k2 : Nat) (k96_ : Int32 × mIT → Option (mIT)) (v3 : Int32) (I : mIT) : Option (mIT) :=
  if v3 < 0 then (some (I)) else (if (nI 1024) ≤ v3 then (k96_ ((v3 + (-1 : Int32)), I)) else (oB (f_X2_leastBehind Fu I v3) (fun r116 => oG (inB v3 1024) (k96_ ((v3 + (-1 : Int32)), (mU I 68 (v3).toNatClampNeg r116))))))
set_option maxRecDepth 20000 in
theorem bo_X2_workOut_96 {X : mXT} {E : mEn} {Fu : Nat} {R : mRT} {L : mLT} {k1 : Nat} {k2 : Nat} (hC : mC X E mX2_workOut RX2 cX2_workOut) (hW : mWd R) (hk1 : mO5 R k1) (hk2 : mO9 R k2)  {out : mIT} (hE : mEd X E 0 0 (mSame none 106 1 (out) R L)) (k96_ : Int32 × mIT → Option (mIT)) (hk96_ : ∀ (v3 : Int32) (I : mIT),  k96_ (v3, I) = some out → mG X E 96 [(0, .ref (mB E + 66)), (3, .int v3)] [] 106 1 I R L 0 0) (v3 : Int32) (I : mIT) (h : b_X2_workOut_96 Fu k1 k2 k96_ v3 I = some out) : mG X E 96 [(0, .ref (mB E + 66)), (3, .int v3)] [] 106 1 I R L 0 0 := by
  unfold b_X2_workOut_96 at h
  refine g_iload_n hC dX2_workOut_96 rfl (q := 1) rfl ?_
  refine g_if_lt hC dX2_workOut_97 (tgt := 126) (by decide) (fun c97 => ?_) (fun c97 => ?_)
  · replace h := (if_pos c97).symm.trans h
    cases h
    exact g_vret hC hE rfl dX2_workOut_126 (Nat.zero_le _) (Nat.zero_le _) ⟨rfl, rfl, rfl, rfl, rfl, rfl⟩
  · replace h := (if_neg c97).symm.trans h
    refine g_iload_n hC dX2_workOut_100 rfl (q := 1) rfl ?_
    refine g_aload_n hC dX2_workOut_101 rfl (q := 0) rfl ?_
    refine g_getr hC fd_RX2_15 rfl (by decide) (C0 := "") (t0 := _) (Or.inr rfl) (rr_66_1 hW.1) dX2_workOut_102 ?_
    refine g_alenI hC rfl (by decide) dX2_workOut_105 ?_
    refine g_ic_ge hC dX2_workOut_106 (tgt := 120) (by decide) (fun c106 => ?_) (fun c106 => ?_)
    · replace h := (if_pos c106).symm.trans h
      refine g_iinc hC dX2_workOut_120 rfl (q := 1) rfl (w := (v3 + (-1 : Int32))) rfl (by decide) (lv' := [(3, .int (v3 + (-1 : Int32))), (0, .ref (mB E + 66))]) rfl ?_
      refine g_goto hC dX2_workOut_123 (tgt := 96) (by decide) ?_
      refine g_lv [1, 0] rfl ?_
      exact hk96_ (v3 + (-1 : Int32)) I h
    · replace h := (if_neg c106).symm.trans h
      refine g_aload_n hC dX2_workOut_109 rfl (q := 0) rfl ?_
      refine g_getr hC fd_RX2_15 rfl (by decide) (C0 := "") (t0 := _) (Or.inr rfl) (rr_66_1 hW.1) dX2_workOut_110 ?_
      refine g_iload_n hC dX2_workOut_113 rfl (q := 1) rfl ?_
      refine g_aload_n hC dX2_workOut_114 rfl (q := 0) rfl ?_
      refine g_iload_n hC dX2_workOut_115 rfl (q := 1) rfl ?_
      obtain ⟨r116, h116, h⟩ := oB_some h
      refine g_cV1 hC cv_X2_leastBehind wd_1380 ⟨Nat.le_of_ble_eq_true rfl, Nat.le_of_ble_eq_true rfl⟩ rfl (by decide) dX2_workOut_116 (As := [.int v3]) (st := [.int v3, .ref (mB E + 68)]) (ok_X2_leastBehind hC.2.2.2.2.2.2.2.1 hW h116) rfl rfl (Nat.le_of_ble_eq_true rfl) ⟨Nat.zero_le _, Nat.zero_le _⟩ ?_
      obtain ⟨g119, h⟩ := oG_some h
      refine g_iast hC rfl (by decide) (inB_in g119) dX2_workOut_119 (nm_e ?_)
      refine g_iinc hC dX2_workOut_120 rfl (q := 1) rfl (w := (v3 + (-1 : Int32))) rfl (by decide) (lv' := [(3, .int (v3 + (-1 : Int32))), (0, .ref (mB E + 66))]) rfl ?_
      refine g_goto hC dX2_workOut_123 (tgt := 96) (by decide) ?_
      refine g_lv [1, 0] rfl ?_
      exact hk96_ (v3 + (-1 : Int32)) (mU I 68 (v3).toNatClampNeg r116) h
noncomputable def w_X2_workOut_96 (Fu : Nat) (k1 : Nat) (k2 : Nat)  (N : Nat) (v3 : Int32) (I : mIT) : Option (mIT) :=
  loopF (fun self (s : Int32 × mIT) => b_X2_workOut_96 Fu k1 k2 self s.1 s.2) N (v3, I)
theorem wo_X2_workOut_96 {X : mXT} {E : mEn} {Fu : Nat} {R : mRT} {L : mLT} {k1 : Nat} {k2 : Nat} (hC : mC X E mX2_workOut RX2 cX2_workOut) (hW : mWd R) (hk1 : mO5 R k1) (hk2 : mO9 R k2)  {out : mIT} (hE : mEd X E 0 0 (mSame none 106 1 (out) R L))  (N : Nat) (v3 : Int32) (I : mIT) (h : w_X2_workOut_96 Fu k1 k2  N v3 I = some out) : mG X E 96 [(0, .ref (mB E + 66)), (3, .int v3)] [] 106 1 I R L 0 0 :=
  loopF_ok (Gd := fun s : Int32 × mIT => mG X E 96 [(0, .ref (mB E + 66)), (3, .int s.1)] [] 106 1 s.2 R L 0 0) (fun self hs s h => bo_X2_workOut_96 hC hW hk1 hk2 hE self (fun v3 I h => hs (v3, I) h) s.1 s.2 h) N (v3, I) h
noncomputable def b_X2_workOut_56 (Fu : Nat) (k1 : Nat) (k2 : Nat) (k56_ : Int32 × mIT → Option (mIT)) (v3 : Int32) (I : mIT) : Option (mIT) :=
  if (I 66 3) ≤ v3 then (w_X2_workOut_96 Fu k1 k2 Fu (((1 : Int32) <<< ((I 66 3) &&& 31)) - (1 : Int32)) I) else (oB (f_X9_placeOf Fu I k2 v3) (fun r66 => if r66 = (-2 : Int32) then (k56_ ((v3 + (1 : Int32)), I)) else (oB (f_X2_findNeeds Fu I k1 k2 v3) (fun r78 => k56_ ((v3 + (1 : Int32)), r78)))))
set_option maxRecDepth 20000 in
theorem bo_X2_workOut_56 {X : mXT} {E : mEn} {Fu : Nat} {R : mRT} {L : mLT} {k1 : Nat} {k2 : Nat} (hC : mC X E mX2_workOut RX2 cX2_workOut) (hW : mWd R) (hk1 : mO5 R k1) (hk2 : mO9 R k2)  {out : mIT} (hE : mEd X E 0 0 (mSame none 106 1 (out) R L)) (k56_ : Int32 × mIT → Option (mIT)) (hk56_ : ∀ (v3 : Int32) (I : mIT),  k56_ (v3, I) = some out → mG X E 56 [(0, .ref (mB E + 66)), (1, .ref (mB E + k1)), (2, .ref (mB E + k2)), (3, .int v3)] [] 106 1 I R L 0 0) (v3 : Int32) (I : mIT) (h : b_X2_workOut_56 Fu k1 k2 k56_ v3 I = some out) : mG X E 56 [(0, .ref (mB E + 66)), (1, .ref (mB E + k1)), (2, .ref (mB E + k2)), (3, .int v3)] [] 106 1 I R L 0 0 := by
  unfold b_X2_workOut_56 at h
  refine g_iload_n hC dX2_workOut_56 rfl (q := 3) rfl ?_
  refine g_aload_n hC dX2_workOut_57 rfl (q := 0) rfl ?_
  refine g_geti hC fd_RX2_22 rfl (by decide) (Or.inl rfl) dX2_workOut_58 ?_
  refine g_ic_ge hC dX2_workOut_61 (tgt := 87) (by decide) (fun c61 => ?_) (fun c61 => ?_)
  · replace h := (if_pos c61).symm.trans h
    refine g_iconst hC dX2_workOut_87 (v := (1 : Int32)) (by decide) ?_
    refine g_aload_n hC dX2_workOut_88 rfl (q := 0) rfl ?_
    refine g_geti hC fd_RX2_22 rfl (by decide) (Or.inl rfl) dX2_workOut_89 ?_
    refine g_ishl hC dX2_workOut_92 ?_
    refine g_iconst hC dX2_workOut_93 (v := (1 : Int32)) (by decide) ?_
    refine g_isub hC dX2_workOut_94 ?_
    refine g_istore_n hC dX2_workOut_95 rfl rfl (by decide) (lv' := [(3, .int (((1 : Int32) <<< ((I 66 3) &&& 31)) - (1 : Int32))), (0, .ref (mB E + 66)), (1, .ref (mB E + k1)), (2, .ref (mB E + k2))]) rfl ?_
    refine g_lv [1, 0] rfl ?_
    exact wo_X2_workOut_96 hC hW hk1 hk2 hE Fu ((((1 : Int32) <<< ((I 66 3) &&& 31)) - (1 : Int32))) (I) h
  · replace h := (if_neg c61).symm.trans h
    refine g_aload_n hC dX2_workOut_64 rfl (q := 2) rfl ?_
    refine g_iload_n hC dX2_workOut_65 rfl (q := 3) rfl ?_
    obtain ⟨r66, h66, h⟩ := oB_some h
    refine g_cV1 hC cv_X9_placeOf wd_1372 ⟨Nat.le_of_ble_eq_true rfl, Nat.le_of_ble_eq_true rfl⟩ hk2.2.1 hk2.1 dX2_workOut_66 (As := [.int v3]) (st := []) (ok_X9_placeOf hC.2.2.2.2.2.2.2.1 hk2 h66) rfl rfl (Nat.le_of_ble_eq_true rfl) ⟨Nat.zero_le _, Nat.zero_le _⟩ ?_
    refine g_bipush hC dX2_workOut_69 (v := (-2 : Int32)) (by decide) ?_
    refine g_ic_eq hC dX2_workOut_71 (tgt := 81) (by decide) (fun c71 => ?_) (fun c71 => ?_)
    · replace h := (if_pos c71).symm.trans h
      refine g_iinc hC dX2_workOut_81 rfl (q := 3) rfl (w := (v3 + (1 : Int32))) rfl (by decide) (lv' := [(3, .int (v3 + (1 : Int32))), (0, .ref (mB E + 66)), (1, .ref (mB E + k1)), (2, .ref (mB E + k2))]) rfl ?_
      refine g_goto hC dX2_workOut_84 (tgt := 56) (by decide) ?_
      refine g_lv [1, 2, 3, 0] rfl ?_
      exact hk56_ (v3 + (1 : Int32)) I h
    · replace h := (if_neg c71).symm.trans h
      refine g_aload_n hC dX2_workOut_74 rfl (q := 0) rfl ?_
      refine g_aload_n hC dX2_workOut_75 rfl (q := 1) rfl ?_
      refine g_aload_n hC dX2_workOut_76 rfl (q := 2) rfl ?_
      refine g_iload_n hC dX2_workOut_77 rfl (q := 3) rfl ?_
      obtain ⟨r78, h78, h⟩ := oB_some h
      refine g_cV0 hC cv_X2_findNeeds wd_1373 ⟨Nat.le_of_ble_eq_true rfl, Nat.le_of_ble_eq_true rfl⟩ rfl (by decide) dX2_workOut_78 (As := [.ref (mB E + k1), .ref (mB E + k2), .int v3]) (st := []) (ok_X2_findNeeds hC.2.2.2.2.2.2.2.1 hW hk1 hk2 h78) rfl rfl (Nat.le_of_ble_eq_true rfl) ⟨Nat.zero_le _, Nat.zero_le _⟩ ?_
      refine g_iinc hC dX2_workOut_81 rfl (q := 3) rfl (w := (v3 + (1 : Int32))) rfl (by decide) (lv' := [(3, .int (v3 + (1 : Int32))), (0, .ref (mB E + 66)), (1, .ref (mB E + k1)), (2, .ref (mB E + k2))]) rfl ?_
      refine g_goto hC dX2_workOut_84 (tgt := 56) (by decide) ?_
      refine g_lv [1, 2, 3, 0] rfl ?_
      exact hk56_ (v3 + (1 : Int32)) r78 h
noncomputable def w_X2_workOut_56 (Fu : Nat) (k1 : Nat) (k2 : Nat)  (N : Nat) (v3 : Int32) (I : mIT) : Option (mIT) :=
  loopF (fun self (s : Int32 × mIT) => b_X2_workOut_56 Fu k1 k2 self s.1 s.2) N (v3, I)
theorem wo_X2_workOut_56 {X : mXT} {E : mEn} {Fu : Nat} {R : mRT} {L : mLT} {k1 : Nat} {k2 : Nat} (hC : mC X E mX2_workOut RX2 cX2_workOut) (hW : mWd R) (hk1 : mO5 R k1) (hk2 : mO9 R k2)  {out : mIT} (hE : mEd X E 0 0 (mSame none 106 1 (out) R L))  (N : Nat) (v3 : Int32) (I : mIT) (h : w_X2_workOut_56 Fu k1 k2  N v3 I = some out) : mG X E 56 [(0, .ref (mB E + 66)), (1, .ref (mB E + k1)), (2, .ref (mB E + k2)), (3, .int v3)] [] 106 1 I R L 0 0 :=
  loopF_ok (Gd := fun s : Int32 × mIT => mG X E 56 [(0, .ref (mB E + 66)), (1, .ref (mB E + k1)), (2, .ref (mB E + k2)), (3, .int s.1)] [] 106 1 s.2 R L 0 0) (fun self hs s h => bo_X2_workOut_56 hC hW hk1 hk2 hE self (fun v3 I h => hs (v3, I) h) s.1 s.2 h) N (v3, I) h
noncomputable def b_X2_workOut_31 (Fu : Nat) (k1 : Nat) (k2 : Nat) (k31_ : Int32 × mIT → Option (mIT)) (v3 : Int32) (I : mIT) : Option (mIT) :=
  if (nI 80) ≤ v3 then (w_X2_workOut_56 Fu k1 k2 Fu (0 : Int32) I) else (oG (inB v3 80) (k31_ ((v3 + (1 : Int32)), (mU I 67 (v3).toNatClampNeg (1000000 : Int32)))))
set_option maxRecDepth 20000 in
theorem bo_X2_workOut_31 {X : mXT} {E : mEn} {Fu : Nat} {R : mRT} {L : mLT} {k1 : Nat} {k2 : Nat} (hC : mC X E mX2_workOut RX2 cX2_workOut) (hW : mWd R) (hk1 : mO5 R k1) (hk2 : mO9 R k2)  {out : mIT} (hE : mEd X E 0 0 (mSame none 106 1 (out) R L)) (k31_ : Int32 × mIT → Option (mIT)) (hk31_ : ∀ (v3 : Int32) (I : mIT),  k31_ (v3, I) = some out → mG X E 31 [(0, .ref (mB E + 66)), (1, .ref (mB E + k1)), (2, .ref (mB E + k2)), (3, .int v3)] [] 106 1 I R L 0 0) (v3 : Int32) (I : mIT) (h : b_X2_workOut_31 Fu k1 k2 k31_ v3 I = some out) : mG X E 31 [(0, .ref (mB E + 66)), (1, .ref (mB E + k1)), (2, .ref (mB E + k2)), (3, .int v3)] [] 106 1 I R L 0 0 := by
  unfold b_X2_workOut_31 at h
  refine g_iload_n hC dX2_workOut_31 rfl (q := 3) rfl ?_
  refine g_aload_n hC dX2_workOut_32 rfl (q := 0) rfl ?_
  refine g_getr hC fd_RX2_9 rfl (by decide) (C0 := "") (t0 := _) (Or.inr rfl) (rr_66_0 hW.1) dX2_workOut_33 ?_
  refine g_alenI hC rfl (by decide) dX2_workOut_36 ?_
  refine g_ic_ge hC dX2_workOut_37 (tgt := 54) (by decide) (fun c37 => ?_) (fun c37 => ?_)
  · replace h := (if_pos c37).symm.trans h
    refine g_iconst hC dX2_workOut_54 (v := (0 : Int32)) (by decide) ?_
    refine g_istore_n hC dX2_workOut_55 rfl rfl (by decide) (lv' := [(3, .int (0 : Int32)), (0, .ref (mB E + 66)), (1, .ref (mB E + k1)), (2, .ref (mB E + k2))]) rfl ?_
    refine g_lv [1, 2, 3, 0] rfl ?_
    exact wo_X2_workOut_56 hC hW hk1 hk2 hE Fu ((0 : Int32)) (I) h
  · replace h := (if_neg c37).symm.trans h
    refine g_aload_n hC dX2_workOut_40 rfl (q := 0) rfl ?_
    refine g_getr hC fd_RX2_9 rfl (by decide) (C0 := "") (t0 := _) (Or.inr rfl) (rr_66_0 hW.1) dX2_workOut_41 ?_
    refine g_iload_n hC dX2_workOut_44 rfl (q := 3) rfl ?_
    refine g_ldc hC dX2_workOut_45 wd_1371 ?_
    obtain ⟨g47, h⟩ := oG_some h
    refine g_iast hC rfl (by decide) (inB_in g47) dX2_workOut_47 (nm_e ?_)
    refine g_iinc hC dX2_workOut_48 rfl (q := 3) rfl (w := (v3 + (1 : Int32))) rfl (by decide) (lv' := [(3, .int (v3 + (1 : Int32))), (0, .ref (mB E + 66)), (1, .ref (mB E + k1)), (2, .ref (mB E + k2))]) rfl ?_
    refine g_goto hC dX2_workOut_51 (tgt := 31) (by decide) ?_
    refine g_lv [1, 2, 3, 0] rfl ?_
    exact hk31_ (v3 + (1 : Int32)) (mU I 67 (v3).toNatClampNeg (1000000 : Int32)) h
noncomputable def w_X2_workOut_31 (Fu : Nat) (k1 : Nat) (k2 : Nat)  (N : Nat) (v3 : Int32) (I : mIT) : Option (mIT) :=
  loopF (fun self (s : Int32 × mIT) => b_X2_workOut_31 Fu k1 k2 self s.1 s.2) N (v3, I)
theorem wo_X2_workOut_31 {X : mXT} {E : mEn} {Fu : Nat} {R : mRT} {L : mLT} {k1 : Nat} {k2 : Nat} (hC : mC X E mX2_workOut RX2 cX2_workOut) (hW : mWd R) (hk1 : mO5 R k1) (hk2 : mO9 R k2)  {out : mIT} (hE : mEd X E 0 0 (mSame none 106 1 (out) R L))  (N : Nat) (v3 : Int32) (I : mIT) (h : w_X2_workOut_31 Fu k1 k2  N v3 I = some out) : mG X E 31 [(0, .ref (mB E + 66)), (1, .ref (mB E + k1)), (2, .ref (mB E + k2)), (3, .int v3)] [] 106 1 I R L 0 0 :=
  loopF_ok (Gd := fun s : Int32 × mIT => mG X E 31 [(0, .ref (mB E + 66)), (1, .ref (mB E + k1)), (2, .ref (mB E + k2)), (3, .int s.1)] [] 106 1 s.2 R L 0 0) (fun self hs s h => bo_X2_workOut_31 hC hW hk1 hk2 hE self (fun v3 I h => hs (v3, I) h) s.1 s.2 h) N (v3, I) h
noncomputable def f_X2_workOut (Fu : Nat) (I : mIT) (k1 : Nat) (k2 : Nat) : Option (mIT) :=
  if (I 66 4) = 0 then (w_X2_workOut_31 Fu k1 k2 Fu (0 : Int32) (mU (mU (mU I 66 4 (1 : Int32)) 66 2 ((mU I 66 4 (1 : Int32)) k1 6)) 66 3 ((mU (mU I 66 4 (1 : Int32)) 66 2 ((mU I 66 4 (1 : Int32)) k1 6)) k1 3))) else (some (I))
set_option maxRecDepth 20000 in
theorem ok_X2_workOut {l : Launch} {E : mEn} {Fu : Nat} {I : mIT} {R : mRT} {L : mLT} {k1 : Nat} {k2 : Nat} (hst : l.stackTraces = false) (hW : mWd R) (hk1 : mO5 R k1) (hk2 : mO9 R k2) {out : mIT} (h : f_X2_workOut Fu I k1 k2 = some out) : mOk l E mX2_workOut [.ref (mB E + 66), .ref (mB E + k1), .ref (mB E + k2)] 106 1 I R L 0 0 (mSame none 106 1 (out) R L) := by
  refine mOk_of hst (by decide) (Nat.le_of_ble_eq_true rfl) (fun X hC hE _ => ?_)
  have hC : mC X E mX2_workOut RX2 cX2_workOut := hC
  show mG X E 0 [(0, .ref (mB E + 66)), (1, .ref (mB E + k1)), (2, .ref (mB E + k2))] [] 106 1 I R L 0 0
  unfold f_X2_workOut at h
  refine g_aload_n hC dX2_workOut_0 rfl (q := 0) rfl ?_
  refine g_geti hC fd_RX2_25 rfl (by decide) (Or.inr rfl) dX2_workOut_1 ?_
  refine g_if_eq hC dX2_workOut_4 (tgt := 8) (by decide) (fun c4 => ?_) (fun c4 => ?_)
  · replace h := (if_pos c4).symm.trans h
    refine g_aload_n hC dX2_workOut_8 rfl (q := 0) rfl ?_
    refine g_iconst hC dX2_workOut_9 (v := (1 : Int32)) (by decide) ?_
    refine g_putz hC (by decide) fd_RX2_25 rfl (by decide) rfl dX2_workOut_10 (nm_e ?_)
    refine g_aload_n hC dX2_workOut_13 rfl (q := 0) rfl ?_
    refine g_aload_n hC dX2_workOut_14 rfl (q := 1) rfl ?_
    refine g_geti hC fd_RX2_29 hk1.2.1 hk1.1 (Or.inl rfl) dX2_workOut_15 ?_
    refine g_puti hC fd_RX2_18 rfl (by decide) rfl dX2_workOut_18 (nm_e ?_)
    refine g_aload_n hC dX2_workOut_21 rfl (q := 0) rfl ?_
    refine g_aload_n hC dX2_workOut_22 rfl (q := 1) rfl ?_
    refine g_geti hC fd_RX2_34 hk1.2.1 hk1.1 (Or.inl rfl) dX2_workOut_23 ?_
    refine g_puti hC fd_RX2_22 rfl (by decide) rfl dX2_workOut_26 (nm_e ?_)
    refine g_iconst hC dX2_workOut_29 (v := (0 : Int32)) (by decide) ?_
    refine g_istore_n hC dX2_workOut_30 rfl rfl (by decide) (lv' := [(3, .int (0 : Int32)), (0, .ref (mB E + 66)), (1, .ref (mB E + k1)), (2, .ref (mB E + k2))]) rfl ?_
    refine g_lv [1, 2, 3, 0] rfl ?_
    exact wo_X2_workOut_31 hC hW hk1 hk2 hE Fu ((0 : Int32)) ((mU (mU (mU I 66 4 (1 : Int32)) 66 2 ((mU I 66 4 (1 : Int32)) k1 6)) 66 3 ((mU (mU I 66 4 (1 : Int32)) 66 2 ((mU I 66 4 (1 : Int32)) k1 6)) k1 3))) h
  · replace h := (if_neg c4).symm.trans h
    cases h
    exact g_vret hC hE rfl dX2_workOut_7 (Nat.zero_le _) (Nat.zero_le _) ⟨rfl, rfl, rfl, rfl, rfl, rfl⟩
noncomputable def f_X2_total (Fu : Nat) (I : mIT)  : Option (Int32) :=
  oG (inB (0 : Int32) 1024) (if (I 68 ((0 : Int32)).toNatClampNeg) < (1000000 : Int32) then (oG (inB (0 : Int32) 1024) (some (I 68 ((0 : Int32)).toNatClampNeg))) else (some (-2 : Int32)))
set_option maxRecDepth 20000 in
theorem ok_X2_total {l : Launch} {E : mEn} {Fu : Nat} {I : mIT} {R : mRT} {L : mLT}  (hst : l.stackTraces = false) (hW : mWd R)  {out : Int32} (h : f_X2_total Fu I  = some out) : mOk l E mX2_total [.ref (mB E + 66)] 106 1 I R L 0 0 (mSame (some (.int (out))) 106 1 I R L) := by
  refine mOk_of hst (by decide) (Nat.le_of_ble_eq_true rfl) (fun X hC hE _ => ?_)
  have hC : mC X E mX2_total RX2 cX2_total := hC
  show mG X E 0 [(0, .ref (mB E + 66))] [] 106 1 I R L 0 0
  unfold f_X2_total at h
  refine g_aload_n hC dX2_total_0 rfl (q := 0) rfl ?_
  refine g_getr hC fd_RX2_15 rfl (by decide) (C0 := "") (t0 := _) (Or.inr rfl) (rr_66_1 hW.1) dX2_total_1 ?_
  refine g_iconst hC dX2_total_4 (v := (0 : Int32)) (by decide) ?_
  obtain ⟨g5, h⟩ := oG_some h
  refine g_iald hC rfl (by decide) (inB_in g5) dX2_total_5 ?_
  refine g_ldc hC dX2_total_6 wd_1371 ?_
  refine g_ic_lt hC dX2_total_8 (tgt := 16) (by decide) (fun c8 => ?_) (fun c8 => ?_)
  · replace h := (if_pos c8).symm.trans h
    refine g_aload_n hC dX2_total_16 rfl (q := 0) rfl ?_
    refine g_getr hC fd_RX2_15 rfl (by decide) (C0 := "") (t0 := _) (Or.inr rfl) (rr_66_1 hW.1) dX2_total_17 ?_
    refine g_iconst hC dX2_total_20 (v := (0 : Int32)) (by decide) ?_
    obtain ⟨g21, h⟩ := oG_some h
    refine g_iald hC rfl (by decide) (inB_in g21) dX2_total_21 ?_
    cases h
    exact g_iret hC hE rfl dX2_total_22 (Nat.zero_le _) (Nat.zero_le _) ⟨rfl, rfl, rfl, rfl, rfl, rfl⟩
  · replace h := (if_neg c8).symm.trans h
    refine g_bipush hC dX2_total_11 (v := (-2 : Int32)) (by decide) ?_
    refine g_goto hC dX2_total_13 (tgt := 22) (by decide) ?_
    cases h
    exact g_iret hC hE rfl dX2_total_22 (Nat.zero_le _) (Nat.zero_le _) ⟨rfl, rfl, rfl, rfl, rfl, rfl⟩
noncomputable def b_X2_firstBest_28 (Fu : Nat) (I : mIT) (k28_ : Int32 × Int32 × Int32 × Int32 → Option (Int32)) (v1 : Int32) (v2 : Int32) (v3 : Int32) (v4 : Int32) : Option (Int32) :=
  if (I 66 3) ≤ v4 then (some (-2 : Int32)) else (if (1000000 : Int32) ≤ v3 then (k28_ (v1, v2, v3, (v4 + (1 : Int32)))) else (oB (f_X2_leastBy Fu I v1 v4 v2) (fun r48 => if r48 = v3 then (some (v4)) else (k28_ (v1, v2, v3, (v4 + (1 : Int32)))))))
set_option maxRecDepth 20000 in
theorem bo_X2_firstBest_28 {X : mXT} {E : mEn} {Fu : Nat} {I : mIT} {R : mRT} {L : mLT}  (hC : mC X E mX2_firstBest RX2 cX2_firstBest) (hW : mWd R)   {out : Int32} (hE : mEd X E 0 0 (mSame (some (.int (out))) 106 1 I R L)) (k28_ : Int32 × Int32 × Int32 × Int32 → Option (Int32)) (hk28_ : ∀ (v1 : Int32) (v2 : Int32) (v3 : Int32) (v4 : Int32),  k28_ (v1, v2, v3, v4) = some out → mG X E 28 [(0, .ref (mB E + 66)), (1, .int v1), (2, .int v2), (3, .int v3), (4, .int v4)] [] 106 1 I R L 0 0) (v1 : Int32) (v2 : Int32) (v3 : Int32) (v4 : Int32) (h : b_X2_firstBest_28 Fu I k28_ v1 v2 v3 v4 = some out) : mG X E 28 [(0, .ref (mB E + 66)), (1, .int v1), (2, .int v2), (3, .int v3), (4, .int v4)] [] 106 1 I R L 0 0 := by
  unfold b_X2_firstBest_28 at h
  refine g_iload hC dX2_firstBest_28 (q := 4) rfl ?_
  refine g_aload_n hC dX2_firstBest_30 rfl (q := 0) rfl ?_
  refine g_geti hC fd_RX2_22 rfl (by decide) (Or.inl rfl) dX2_firstBest_31 ?_
  refine g_ic_ge hC dX2_firstBest_34 (tgt := 64) (by decide) (fun c34 => ?_) (fun c34 => ?_)
  · replace h := (if_pos c34).symm.trans h
    refine g_bipush hC dX2_firstBest_64 (v := (-2 : Int32)) (by decide) ?_
    cases h
    exact g_iret hC hE rfl dX2_firstBest_66 (Nat.zero_le _) (Nat.zero_le _) ⟨rfl, rfl, rfl, rfl, rfl, rfl⟩
  · replace h := (if_neg c34).symm.trans h
    refine g_iload_n hC dX2_firstBest_37 rfl (q := 3) rfl ?_
    refine g_ldc hC dX2_firstBest_38 wd_1371 ?_
    refine g_ic_ge hC dX2_firstBest_40 (tgt := 58) (by decide) (fun c40 => ?_) (fun c40 => ?_)
    · replace h := (if_pos c40).symm.trans h
      refine g_iinc hC dX2_firstBest_58 rfl (q := 4) rfl (w := (v4 + (1 : Int32))) rfl (by decide) (lv' := [(4, .int (v4 + (1 : Int32))), (0, .ref (mB E + 66)), (1, .int v1), (2, .int v2), (3, .int v3)]) rfl ?_
      refine g_goto hC dX2_firstBest_61 (tgt := 28) (by decide) ?_
      refine g_lv [1, 2, 3, 4, 0] rfl ?_
      exact hk28_ v1 v2 v3 (v4 + (1 : Int32)) h
    · replace h := (if_neg c40).symm.trans h
      refine g_aload_n hC dX2_firstBest_43 rfl (q := 0) rfl ?_
      refine g_iload_n hC dX2_firstBest_44 rfl (q := 1) rfl ?_
      refine g_iload hC dX2_firstBest_45 (q := 4) rfl ?_
      refine g_iload_n hC dX2_firstBest_47 rfl (q := 2) rfl ?_
      obtain ⟨r48, h48, h⟩ := oB_some h
      refine g_cV1 hC cv_X2_leastBy wd_1385 ⟨Nat.le_of_ble_eq_true rfl, Nat.le_of_ble_eq_true rfl⟩ rfl (by decide) dX2_firstBest_48 (As := [.int v1, .int v4, .int v2]) (st := []) (ok_X2_leastBy hC.2.2.2.2.2.2.2.1 hW h48) rfl rfl (Nat.le_of_ble_eq_true rfl) ⟨Nat.zero_le _, Nat.zero_le _⟩ ?_
      refine g_iload_n hC dX2_firstBest_51 rfl (q := 3) rfl ?_
      refine g_ic_ne hC dX2_firstBest_52 (tgt := 58) (by decide) (fun c52 => ?_) (fun c52 => ?_)
      · replace h := (if_neg c52).symm.trans h
        refine g_iinc hC dX2_firstBest_58 rfl (q := 4) rfl (w := (v4 + (1 : Int32))) rfl (by decide) (lv' := [(4, .int (v4 + (1 : Int32))), (0, .ref (mB E + 66)), (1, .int v1), (2, .int v2), (3, .int v3)]) rfl ?_
        refine g_goto hC dX2_firstBest_61 (tgt := 28) (by decide) ?_
        refine g_lv [1, 2, 3, 4, 0] rfl ?_
        exact hk28_ v1 v2 v3 (v4 + (1 : Int32)) h
      · replace h := (if_pos c52).symm.trans h
        refine g_iload hC dX2_firstBest_55 (q := 4) rfl ?_
        cases h
        exact g_iret hC hE rfl dX2_firstBest_57 (Nat.zero_le _) (Nat.zero_le _) ⟨rfl, rfl, rfl, rfl, rfl, rfl⟩
noncomputable def w_X2_firstBest_28 (Fu : Nat) (I : mIT)  (N : Nat) (v1 : Int32) (v2 : Int32) (v3 : Int32) (v4 : Int32) : Option (Int32) :=
  loopF (fun self (s : Int32 × Int32 × Int32 × Int32) => b_X2_firstBest_28 Fu I self s.1 s.2.1 s.2.2.1 s.2.2.2) N (v1, v2, v3, v4)
theorem wo_X2_firstBest_28 {X : mXT} {E : mEn} {Fu : Nat} {I : mIT} {R : mRT} {L : mLT}  (hC : mC X E mX2_firstBest RX2 cX2_firstBest) (hW : mWd R)   {out : Int32} (hE : mEd X E 0 0 (mSame (some (.int (out))) 106 1 I R L))  (N : Nat) (v1 : Int32) (v2 : Int32) (v3 : Int32) (v4 : Int32) (h : w_X2_firstBest_28 Fu I  N v1 v2 v3 v4 = some out) : mG X E 28 [(0, .ref (mB E + 66)), (1, .int v1), (2, .int v2), (3, .int v3), (4, .int v4)] [] 106 1 I R L 0 0 :=
  loopF_ok (Gd := fun s : Int32 × Int32 × Int32 × Int32 => mG X E 28 [(0, .ref (mB E + 66)), (1, .int s.1), (2, .int s.2.1), (3, .int s.2.2.1), (4, .int s.2.2.2)] [] 106 1 I R L 0 0) (fun self hs s h => bo_X2_firstBest_28 hC hW hE self (fun v1 v2 v3 v4 h => hs (v1, v2, v3, v4) h) s.1 s.2.1 s.2.2.1 s.2.2.2 h) N (v1, v2, v3, v4) h
noncomputable def f_X2_firstBest (Fu : Nat) (I : mIT) (v1 : Int32) (v2 : Int32) : Option (Int32) :=
  if v2 < 0 then (w_X2_firstBest_28 Fu I Fu v1 v2 (1000000 : Int32) (0 : Int32)) else (if (nI 1024) ≤ v2 then (w_X2_firstBest_28 Fu I Fu v1 v2 (1000000 : Int32) (0 : Int32)) else (oG (inB v2 1024) (w_X2_firstBest_28 Fu I Fu v1 v2 (I 68 (v2).toNatClampNeg) (0 : Int32))))
set_option maxRecDepth 20000 in
theorem ok_X2_firstBest {l : Launch} {E : mEn} {Fu : Nat} {I : mIT} {R : mRT} {L : mLT} {v1 : Int32} {v2 : Int32} (hst : l.stackTraces = false) (hW : mWd R)  {out : Int32} (h : f_X2_firstBest Fu I v1 v2 = some out) : mOk l E mX2_firstBest [.ref (mB E + 66), .int v1, .int v2] 106 1 I R L 0 0 (mSame (some (.int (out))) 106 1 I R L) := by
  refine mOk_of hst (by decide) (Nat.le_of_ble_eq_true rfl) (fun X hC hE _ => ?_)
  have hC : mC X E mX2_firstBest RX2 cX2_firstBest := hC
  show mG X E 0 [(0, .ref (mB E + 66)), (1, .int v1), (2, .int v2)] [] 106 1 I R L 0 0
  unfold f_X2_firstBest at h
  refine g_iload_n hC dX2_firstBest_0 rfl (q := 2) rfl ?_
  refine g_if_lt hC dX2_firstBest_1 (tgt := 22) (by decide) (fun c1 => ?_) (fun c1 => ?_)
  · replace h := (if_pos c1).symm.trans h
    refine g_ldc hC dX2_firstBest_22 wd_1371 ?_
    refine g_istore_n hC dX2_firstBest_24 rfl rfl (by decide) (lv' := [(3, .int (1000000 : Int32)), (0, .ref (mB E + 66)), (1, .int v1), (2, .int v2)]) rfl ?_
    refine g_iconst hC dX2_firstBest_25 (v := (0 : Int32)) (by decide) ?_
    refine g_istore hC dX2_firstBest_26 rfl (by decide) (lv' := [(4, .int (0 : Int32)), (3, .int (1000000 : Int32)), (0, .ref (mB E + 66)), (1, .int v1), (2, .int v2)]) rfl ?_
    refine g_lv [2, 3, 4, 1, 0] rfl ?_
    exact wo_X2_firstBest_28 hC hW hE Fu (v1) (v2) ((1000000 : Int32)) ((0 : Int32)) h
  · replace h := (if_neg c1).symm.trans h
    refine g_iload_n hC dX2_firstBest_4 rfl (q := 2) rfl ?_
    refine g_aload_n hC dX2_firstBest_5 rfl (q := 0) rfl ?_
    refine g_getr hC fd_RX2_15 rfl (by decide) (C0 := "") (t0 := _) (Or.inr rfl) (rr_66_1 hW.1) dX2_firstBest_6 ?_
    refine g_alenI hC rfl (by decide) dX2_firstBest_9 ?_
    refine g_ic_ge hC dX2_firstBest_10 (tgt := 22) (by decide) (fun c10 => ?_) (fun c10 => ?_)
    · replace h := (if_pos c10).symm.trans h
      refine g_ldc hC dX2_firstBest_22 wd_1371 ?_
      refine g_istore_n hC dX2_firstBest_24 rfl rfl (by decide) (lv' := [(3, .int (1000000 : Int32)), (0, .ref (mB E + 66)), (1, .int v1), (2, .int v2)]) rfl ?_
      refine g_iconst hC dX2_firstBest_25 (v := (0 : Int32)) (by decide) ?_
      refine g_istore hC dX2_firstBest_26 rfl (by decide) (lv' := [(4, .int (0 : Int32)), (3, .int (1000000 : Int32)), (0, .ref (mB E + 66)), (1, .int v1), (2, .int v2)]) rfl ?_
      refine g_lv [2, 3, 4, 1, 0] rfl ?_
      exact wo_X2_firstBest_28 hC hW hE Fu (v1) (v2) ((1000000 : Int32)) ((0 : Int32)) h
    · replace h := (if_neg c10).symm.trans h
      refine g_aload_n hC dX2_firstBest_13 rfl (q := 0) rfl ?_
      refine g_getr hC fd_RX2_15 rfl (by decide) (C0 := "") (t0 := _) (Or.inr rfl) (rr_66_1 hW.1) dX2_firstBest_14 ?_
      refine g_iload_n hC dX2_firstBest_17 rfl (q := 2) rfl ?_
      obtain ⟨g18, h⟩ := oG_some h
      refine g_iald hC rfl (by decide) (inB_in g18) dX2_firstBest_18 ?_
      refine g_goto hC dX2_firstBest_19 (tgt := 24) (by decide) ?_
      refine g_istore_n hC dX2_firstBest_24 rfl rfl (by decide) (lv' := [(3, .int (I 68 (v2).toNatClampNeg)), (0, .ref (mB E + 66)), (1, .int v1), (2, .int v2)]) rfl ?_
      refine g_iconst hC dX2_firstBest_25 (v := (0 : Int32)) (by decide) ?_
      refine g_istore hC dX2_firstBest_26 rfl (by decide) (lv' := [(4, .int (0 : Int32)), (3, .int (I 68 (v2).toNatClampNeg)), (0, .ref (mB E + 66)), (1, .int v1), (2, .int v2)]) rfl ?_
      refine g_lv [2, 3, 4, 1, 0] rfl ?_
      exact wo_X2_firstBest_28 hC hW hE Fu (v1) (v2) ((I 68 (v2).toNatClampNeg)) ((0 : Int32)) h
noncomputable def b_X2_rootFor_22 (Fu : Nat) (I : mIT) (k22_ : Int32 × Int32 × Int32 × Int32 → Option (Int32)) (v1 : Int32) (v2 : Int32) (v3 : Int32) (v4 : Int32) : Option (Int32) :=
  if v1 < v4 then (some (v3)) else (oB (f_X2_firstBest Fu I v4 v2) (fun r32 => if r32 < 0 then (k22_ (v1, (v2 ||| (0 : Int32)), r32, (v4 + (1 : Int32)))) else (k22_ (v1, (v2 ||| ((1 : Int32) <<< (r32 &&& 31))), r32, (v4 + (1 : Int32))))))
set_option maxRecDepth 20000 in
theorem bo_X2_rootFor_22 {X : mXT} {E : mEn} {Fu : Nat} {I : mIT} {R : mRT} {L : mLT}  (hC : mC X E mX2_rootFor RX2 cX2_rootFor) (hW : mWd R)   {out : Int32} (hE : mEd X E 0 0 (mSame (some (.int (out))) 106 1 I R L)) (k22_ : Int32 × Int32 × Int32 × Int32 → Option (Int32)) (hk22_ : ∀ (v1 : Int32) (v2 : Int32) (v3 : Int32) (v4 : Int32),  k22_ (v1, v2, v3, v4) = some out → mG X E 22 [(0, .ref (mB E + 66)), (1, .int v1), (2, .int v2), (3, .int v3), (4, .int v4)] [] 106 1 I R L 0 0) (v1 : Int32) (v2 : Int32) (v3 : Int32) (v4 : Int32) (h : b_X2_rootFor_22 Fu I k22_ v1 v2 v3 v4 = some out) : mG X E 22 [(0, .ref (mB E + 66)), (1, .int v1), (2, .int v2), (3, .int v3), (4, .int v4)] [] 106 1 I R L 0 0 := by
  unfold b_X2_rootFor_22 at h
  refine g_iload hC dX2_rootFor_22 (q := 4) rfl ?_
  refine g_iload_n hC dX2_rootFor_24 rfl (q := 1) rfl ?_
  refine g_ic_gt hC dX2_rootFor_25 (tgt := 56) (by decide) (fun c25 => ?_) (fun c25 => ?_)
  · replace h := (if_pos c25).symm.trans h
    refine g_iload_n hC dX2_rootFor_56 rfl (q := 3) rfl ?_
    cases h
    exact g_iret hC hE rfl dX2_rootFor_57 (Nat.zero_le _) (Nat.zero_le _) ⟨rfl, rfl, rfl, rfl, rfl, rfl⟩
  · replace h := (if_neg c25).symm.trans h
    refine g_aload_n hC dX2_rootFor_28 rfl (q := 0) rfl ?_
    refine g_iload hC dX2_rootFor_29 (q := 4) rfl ?_
    refine g_iload_n hC dX2_rootFor_31 rfl (q := 2) rfl ?_
    obtain ⟨r32, h32, h⟩ := oB_some h
    refine g_cV1 hC cv_X2_firstBest wd_1398 ⟨Nat.le_of_ble_eq_true rfl, Nat.le_of_ble_eq_true rfl⟩ rfl (by decide) dX2_rootFor_32 (As := [.int v4, .int v2]) (st := []) (ok_X2_firstBest hC.2.2.2.2.2.2.2.1 hW h32) rfl rfl (Nat.le_of_ble_eq_true rfl) ⟨Nat.zero_le _, Nat.zero_le _⟩ ?_
    refine g_istore_n hC dX2_rootFor_35 rfl rfl (by decide) (lv' := [(3, .int r32), (0, .ref (mB E + 66)), (1, .int v1), (2, .int v2), (4, .int v4)]) rfl ?_
    refine g_iload_n hC dX2_rootFor_36 rfl (q := 3) rfl ?_
    refine g_iload_n hC dX2_rootFor_37 rfl (q := 0) rfl ?_
    refine g_if_lt hC dX2_rootFor_38 (tgt := 47) (by decide) (fun c38 => ?_) (fun c38 => ?_)
    · replace h := (if_pos c38).symm.trans h
      refine g_iconst hC dX2_rootFor_47 (v := (0 : Int32)) (by decide) ?_
      refine g_ior hC dX2_rootFor_48 ?_
      refine g_istore_n hC dX2_rootFor_49 rfl rfl (by decide) (lv' := [(2, .int (v2 ||| (0 : Int32))), (3, .int r32), (0, .ref (mB E + 66)), (1, .int v1), (4, .int v4)]) rfl ?_
      refine g_iinc hC dX2_rootFor_50 rfl (q := 4) rfl (w := (v4 + (1 : Int32))) rfl (by decide) (lv' := [(4, .int (v4 + (1 : Int32))), (2, .int (v2 ||| (0 : Int32))), (3, .int r32), (0, .ref (mB E + 66)), (1, .int v1)]) rfl ?_
      refine g_goto hC dX2_rootFor_53 (tgt := 22) (by decide) ?_
      refine g_lv [3, 4, 1, 2, 0] rfl ?_
      exact hk22_ v1 (v2 ||| (0 : Int32)) r32 (v4 + (1 : Int32)) h
    · replace h := (if_neg c38).symm.trans h
      refine g_iconst hC dX2_rootFor_41 (v := (1 : Int32)) (by decide) ?_
      refine g_iload_n hC dX2_rootFor_42 rfl (q := 0) rfl ?_
      refine g_ishl hC dX2_rootFor_43 ?_
      refine g_goto hC dX2_rootFor_44 (tgt := 48) (by decide) ?_
      refine g_ior hC dX2_rootFor_48 ?_
      refine g_istore_n hC dX2_rootFor_49 rfl rfl (by decide) (lv' := [(2, .int (v2 ||| ((1 : Int32) <<< (r32 &&& 31)))), (3, .int r32), (0, .ref (mB E + 66)), (1, .int v1), (4, .int v4)]) rfl ?_
      refine g_iinc hC dX2_rootFor_50 rfl (q := 4) rfl (w := (v4 + (1 : Int32))) rfl (by decide) (lv' := [(4, .int (v4 + (1 : Int32))), (2, .int (v2 ||| ((1 : Int32) <<< (r32 &&& 31)))), (3, .int r32), (0, .ref (mB E + 66)), (1, .int v1)]) rfl ?_
      refine g_goto hC dX2_rootFor_53 (tgt := 22) (by decide) ?_
      refine g_lv [3, 4, 1, 2, 0] rfl ?_
      exact hk22_ v1 (v2 ||| ((1 : Int32) <<< (r32 &&& 31))) r32 (v4 + (1 : Int32)) h
noncomputable def w_X2_rootFor_22 (Fu : Nat) (I : mIT)  (N : Nat) (v1 : Int32) (v2 : Int32) (v3 : Int32) (v4 : Int32) : Option (Int32) :=
  loopF (fun self (s : Int32 × Int32 × Int32 × Int32) => b_X2_rootFor_22 Fu I self s.1 s.2.1 s.2.2.1 s.2.2.2) N (v1, v2, v3, v4)
theorem wo_X2_rootFor_22 {X : mXT} {E : mEn} {Fu : Nat} {I : mIT} {R : mRT} {L : mLT}  (hC : mC X E mX2_rootFor RX2 cX2_rootFor) (hW : mWd R)   {out : Int32} (hE : mEd X E 0 0 (mSame (some (.int (out))) 106 1 I R L))  (N : Nat) (v1 : Int32) (v2 : Int32) (v3 : Int32) (v4 : Int32) (h : w_X2_rootFor_22 Fu I  N v1 v2 v3 v4 = some out) : mG X E 22 [(0, .ref (mB E + 66)), (1, .int v1), (2, .int v2), (3, .int v3), (4, .int v4)] [] 106 1 I R L 0 0 :=
  loopF_ok (Gd := fun s : Int32 × Int32 × Int32 × Int32 => mG X E 22 [(0, .ref (mB E + 66)), (1, .int s.1), (2, .int s.2.1), (3, .int s.2.2.1), (4, .int s.2.2.2)] [] 106 1 I R L 0 0) (fun self hs s h => bo_X2_rootFor_22 hC hW hE self (fun v1 v2 v3 v4 h => hs (v1, v2, v3, v4) h) s.1 s.2.1 s.2.2.1 s.2.2.2 h) N (v1, v2, v3, v4) h
noncomputable def f_X2_rootFor (Fu : Nat) (I : mIT) (v1 : Int32) : Option (Int32) :=
  oG (inB (0 : Int32) 1024) (if (I 68 ((0 : Int32)).toNatClampNeg) < (1000000 : Int32) then (w_X2_rootFor_22 Fu I Fu v1 (0 : Int32) (-2 : Int32) (0 : Int32)) else (some (-2 : Int32)))
set_option maxRecDepth 20000 in
theorem ok_X2_rootFor {l : Launch} {E : mEn} {Fu : Nat} {I : mIT} {R : mRT} {L : mLT} {v1 : Int32} (hst : l.stackTraces = false) (hW : mWd R)  {out : Int32} (h : f_X2_rootFor Fu I v1 = some out) : mOk l E mX2_rootFor [.ref (mB E + 66), .int v1] 106 1 I R L 0 0 (mSame (some (.int (out))) 106 1 I R L) := by
  refine mOk_of hst (by decide) (Nat.le_of_ble_eq_true rfl) (fun X hC hE _ => ?_)
  have hC : mC X E mX2_rootFor RX2 cX2_rootFor := hC
  show mG X E 0 [(0, .ref (mB E + 66)), (1, .int v1)] [] 106 1 I R L 0 0
  unfold f_X2_rootFor at h
  refine g_aload_n hC dX2_rootFor_0 rfl (q := 0) rfl ?_
  refine g_getr hC fd_RX2_15 rfl (by decide) (C0 := "") (t0 := _) (Or.inr rfl) (rr_66_1 hW.1) dX2_rootFor_1 ?_
  refine g_iconst hC dX2_rootFor_4 (v := (0 : Int32)) (by decide) ?_
  obtain ⟨g5, h⟩ := oG_some h
  refine g_iald hC rfl (by decide) (inB_in g5) dX2_rootFor_5 ?_
  refine g_ldc hC dX2_rootFor_6 wd_1371 ?_
  refine g_ic_lt hC dX2_rootFor_8 (tgt := 14) (by decide) (fun c8 => ?_) (fun c8 => ?_)
  · replace h := (if_pos c8).symm.trans h
    refine g_iconst hC dX2_rootFor_14 (v := (0 : Int32)) (by decide) ?_
    refine g_istore_n hC dX2_rootFor_15 rfl rfl (by decide) (lv' := [(2, .int (0 : Int32)), (0, .ref (mB E + 66)), (1, .int v1)]) rfl ?_
    refine g_bipush hC dX2_rootFor_16 (v := (-2 : Int32)) (by decide) ?_
    refine g_istore_n hC dX2_rootFor_18 rfl rfl (by decide) (lv' := [(3, .int (-2 : Int32)), (2, .int (0 : Int32)), (0, .ref (mB E + 66)), (1, .int v1)]) rfl ?_
    refine g_iconst hC dX2_rootFor_19 (v := (0 : Int32)) (by decide) ?_
    refine g_istore hC dX2_rootFor_20 rfl (by decide) (lv' := [(4, .int (0 : Int32)), (3, .int (-2 : Int32)), (2, .int (0 : Int32)), (0, .ref (mB E + 66)), (1, .int v1)]) rfl ?_
    refine g_lv [3, 4, 2, 1, 0] rfl ?_
    exact wo_X2_rootFor_22 hC hW hE Fu (v1) ((0 : Int32)) ((-2 : Int32)) ((0 : Int32)) h
  · replace h := (if_neg c8).symm.trans h
    refine g_bipush hC dX2_rootFor_11 (v := (-2 : Int32)) (by decide) ?_
    cases h
    exact g_iret hC hE rfl dX2_rootFor_13 (Nat.zero_le _) (Nat.zero_le _) ⟨rfl, rfl, rfl, rfl, rfl, rfl⟩
noncomputable def f_X4_clear (Fu : Nat) (I : mIT) (k0 : Nat) : Option (mIT) :=
  some (mU I k0 3 (0 : Int32))
set_option maxRecDepth 20000 in
theorem ok_X4_clear {l : Launch} {E : mEn} {Fu : Nat} {I : mIT} {R : mRT} {L : mLT} {k0 : Nat} (hst : l.stackTraces = false) (hk0 : mO4 R k0) {out : mIT} (h : f_X4_clear Fu I k0 = some out) : mOk l E mX4_clear [.ref (mB E + k0)] 106 1 I R L 0 0 (mSame none 106 1 (out) R L) := by
  refine mOk_of hst (by decide) (Nat.le_of_ble_eq_true rfl) (fun X hC hE _ => ?_)
  have hC : mC X E mX4_clear RX4 cX4_clear := hC
  show mG X E 0 [(0, .ref (mB E + k0))] [] 106 1 I R L 0 0
  unfold f_X4_clear at h
  refine g_aload_n hC dX4_clear_0 rfl (q := 0) rfl ?_
  refine g_iconst hC dX4_clear_1 (v := (0 : Int32)) (by decide) ?_
  refine g_puti hC fd_RX4_21 hk0.2.1 hk0.1 rfl dX4_clear_2 (nm_e ?_)
  cases h
  exact g_vret hC hE rfl dX4_clear_5 (Nat.zero_le _) (Nat.zero_le _) ⟨rfl, rfl, rfl, rfl, rfl, rfl⟩
noncomputable def b_X5_nearnessOf_4 (Fu : Nat) (I : mIT) (k0 : Nat) (k4_ : Int32 × Int32 × Int32 → Option (Int32)) (v1 : Int32) (v2 : Int32) (v3 : Int32) : Option (Int32) :=
  if (I k0 6) ≤ v3 then (some (v2)) else (oB (f_X5_tuneNote Fu I k0 v3) (fun r17 => k4_ (v1, (if v2 < ((4 : Int32) - (if 0 ≤ (v1 - r17) then (v1 - r17) else 0 - (v1 - r17))) then ((4 : Int32) - (if 0 ≤ (v1 - r17) then (v1 - r17) else 0 - (v1 - r17))) else v2), (v3 + (1 : Int32)))))
set_option maxRecDepth 20000 in
theorem bo_X5_nearnessOf_4 {X : mXT} {E : mEn} {Fu : Nat} {I : mIT} {R : mRT} {L : mLT} {k0 : Nat} (hC : mC X E mX5_nearnessOf RX5 cX5_nearnessOf) (hk0 : mO5 R k0)  {out : Int32} (hE : mEd X E 0 0 (mSame (some (.int (out))) 106 1 I R L)) (k4_ : Int32 × Int32 × Int32 → Option (Int32)) (hk4_ : ∀ (v1 : Int32) (v2 : Int32) (v3 : Int32),  k4_ (v1, v2, v3) = some out → mG X E 4 [(0, .ref (mB E + k0)), (1, .int v1), (2, .int v2), (3, .int v3)] [] 106 1 I R L 0 0) (v1 : Int32) (v2 : Int32) (v3 : Int32) (h : b_X5_nearnessOf_4 Fu I k0 k4_ v1 v2 v3 = some out) : mG X E 4 [(0, .ref (mB E + k0)), (1, .int v1), (2, .int v2), (3, .int v3)] [] 106 1 I R L 0 0 := by
  unfold b_X5_nearnessOf_4 at h
  refine g_iload_n hC dX5_nearnessOf_4 rfl (q := 3) rfl ?_
  refine g_aload_n hC dX5_nearnessOf_5 rfl (q := 0) rfl ?_
  refine g_geti hC fd_RX5_31 hk0.2.1 hk0.1 (Or.inl rfl) dX5_nearnessOf_6 ?_
  refine g_ic_ge hC dX5_nearnessOf_9 (tgt := 35) (by decide) (fun c9 => ?_) (fun c9 => ?_)
  · replace h := (if_pos c9).symm.trans h
    refine g_iload_n hC dX5_nearnessOf_35 rfl (q := 2) rfl ?_
    cases h
    exact g_iret hC hE rfl dX5_nearnessOf_36 (Nat.zero_le _) (Nat.zero_le _) ⟨rfl, rfl, rfl, rfl, rfl, rfl⟩
  · replace h := (if_neg c9).symm.trans h
    refine g_iload_n hC dX5_nearnessOf_12 rfl (q := 2) rfl ?_
    refine g_iconst hC dX5_nearnessOf_13 (v := (4 : Int32)) (by decide) ?_
    refine g_iload_n hC dX5_nearnessOf_14 rfl (q := 1) rfl ?_
    refine g_aload_n hC dX5_nearnessOf_15 rfl (q := 0) rfl ?_
    refine g_iload_n hC dX5_nearnessOf_16 rfl (q := 3) rfl ?_
    obtain ⟨r17, h17, h⟩ := oB_some h
    refine g_cV1 hC cv_X5_tuneNote wd_1495 ⟨Nat.le_of_ble_eq_true rfl, Nat.le_of_ble_eq_true rfl⟩ hk0.2.1 hk0.1 dX5_nearnessOf_17 (As := [.int v3]) (st := [.int v1, .int (4 : Int32), .int v2]) (ok_X5_tuneNote hC.2.2.2.2.2.2.2.1 hk0 h17) rfl rfl (Nat.le_of_ble_eq_true rfl) ⟨Nat.zero_le _, Nat.zero_le _⟩ ?_
    refine g_isub hC dX5_nearnessOf_20 ?_
    refine g_mabs hC wd_1496 wd_st_abs wd_in_math wd_cd_abs (Nat.le_of_ble_eq_true rfl) (Nat.le_of_ble_eq_true rfl) ⟨Nat.zero_le _, Nat.zero_le _⟩ dX5_nearnessOf_21 ?_
    refine g_isub hC dX5_nearnessOf_24 ?_
    refine g_mmax hC wd_1499 wd_st_max wd_in_math wd_cd_max (Nat.le_of_ble_eq_true rfl) (Nat.le_of_ble_eq_true rfl) ⟨Nat.zero_le _, Nat.zero_le _⟩ dX5_nearnessOf_25 ?_
    refine g_istore_n hC dX5_nearnessOf_28 rfl rfl (by decide) (lv' := [(2, .int (if v2 < ((4 : Int32) - (if 0 ≤ (v1 - r17) then (v1 - r17) else 0 - (v1 - r17))) then ((4 : Int32) - (if 0 ≤ (v1 - r17) then (v1 - r17) else 0 - (v1 - r17))) else v2)), (0, .ref (mB E + k0)), (1, .int v1), (3, .int v3)]) rfl ?_
    refine g_iinc hC dX5_nearnessOf_29 rfl (q := 3) rfl (w := (v3 + (1 : Int32))) rfl (by decide) (lv' := [(3, .int (v3 + (1 : Int32))), (2, .int (if v2 < ((4 : Int32) - (if 0 ≤ (v1 - r17) then (v1 - r17) else 0 - (v1 - r17))) then ((4 : Int32) - (if 0 ≤ (v1 - r17) then (v1 - r17) else 0 - (v1 - r17))) else v2)), (0, .ref (mB E + k0)), (1, .int v1)]) rfl ?_
    refine g_goto hC dX5_nearnessOf_32 (tgt := 4) (by decide) ?_
    refine g_lv [2, 3, 1, 0] rfl ?_
    exact hk4_ v1 (if v2 < ((4 : Int32) - (if 0 ≤ (v1 - r17) then (v1 - r17) else 0 - (v1 - r17))) then ((4 : Int32) - (if 0 ≤ (v1 - r17) then (v1 - r17) else 0 - (v1 - r17))) else v2) (v3 + (1 : Int32)) h
noncomputable def w_X5_nearnessOf_4 (Fu : Nat) (I : mIT) (k0 : Nat)  (N : Nat) (v1 : Int32) (v2 : Int32) (v3 : Int32) : Option (Int32) :=
  loopF (fun self (s : Int32 × Int32 × Int32) => b_X5_nearnessOf_4 Fu I k0 self s.1 s.2.1 s.2.2) N (v1, v2, v3)
theorem wo_X5_nearnessOf_4 {X : mXT} {E : mEn} {Fu : Nat} {I : mIT} {R : mRT} {L : mLT} {k0 : Nat} (hC : mC X E mX5_nearnessOf RX5 cX5_nearnessOf) (hk0 : mO5 R k0)  {out : Int32} (hE : mEd X E 0 0 (mSame (some (.int (out))) 106 1 I R L))  (N : Nat) (v1 : Int32) (v2 : Int32) (v3 : Int32) (h : w_X5_nearnessOf_4 Fu I k0  N v1 v2 v3 = some out) : mG X E 4 [(0, .ref (mB E + k0)), (1, .int v1), (2, .int v2), (3, .int v3)] [] 106 1 I R L 0 0 :=
  loopF_ok (Gd := fun s : Int32 × Int32 × Int32 => mG X E 4 [(0, .ref (mB E + k0)), (1, .int s.1), (2, .int s.2.1), (3, .int s.2.2)] [] 106 1 I R L 0 0) (fun self hs s h => bo_X5_nearnessOf_4 hC hk0 hE self (fun v1 v2 v3 h => hs (v1, v2, v3) h) s.1 s.2.1 s.2.2 h) N (v1, v2, v3) h
noncomputable def f_X5_nearnessOf (Fu : Nat) (I : mIT) (k0 : Nat) (v1 : Int32) : Option (Int32) :=
  w_X5_nearnessOf_4 Fu I k0 Fu v1 (0 : Int32) (0 : Int32)
set_option maxRecDepth 20000 in
theorem ok_X5_nearnessOf {l : Launch} {E : mEn} {Fu : Nat} {I : mIT} {R : mRT} {L : mLT} {k0 : Nat} {v1 : Int32} (hst : l.stackTraces = false) (hk0 : mO5 R k0) {out : Int32} (h : f_X5_nearnessOf Fu I k0 v1 = some out) : mOk l E mX5_nearnessOf [.ref (mB E + k0), .int v1] 106 1 I R L 0 0 (mSame (some (.int (out))) 106 1 I R L) := by
  refine mOk_of hst (by decide) (Nat.le_of_ble_eq_true rfl) (fun X hC hE _ => ?_)
  have hC : mC X E mX5_nearnessOf RX5 cX5_nearnessOf := hC
  show mG X E 0 [(0, .ref (mB E + k0)), (1, .int v1)] [] 106 1 I R L 0 0
  unfold f_X5_nearnessOf at h
  refine g_iconst hC dX5_nearnessOf_0 (v := (0 : Int32)) (by decide) ?_
  refine g_istore_n hC dX5_nearnessOf_1 rfl rfl (by decide) (lv' := [(2, .int (0 : Int32)), (0, .ref (mB E + k0)), (1, .int v1)]) rfl ?_
  refine g_iconst hC dX5_nearnessOf_2 (v := (0 : Int32)) (by decide) ?_
  refine g_istore_n hC dX5_nearnessOf_3 rfl rfl (by decide) (lv' := [(3, .int (0 : Int32)), (2, .int (0 : Int32)), (0, .ref (mB E + k0)), (1, .int v1)]) rfl ?_
  refine g_lv [2, 3, 1, 0] rfl ?_
  exact wo_X5_nearnessOf_4 hC hk0 hE Fu (v1) ((0 : Int32)) ((0 : Int32)) h
noncomputable def f_X4_add (Fu : Nat) (I : mIT) (k0 : Nat) (v1 : Int32) (v2 : Int32) (v3 : Int32) : Option (Int32 × mIT) :=
  if (I k0 3) < 0 then (some ((0 : Int32), I)) else (if (I k0 3) < (8 : Int32) then (oG (inB (I k0 3) 8) (oG (inB ((mU I (k0 + 1) ((I k0 3)).toNatClampNeg v1) k0 3) 8) (if v3 = 0 then (oG (inB ((mU (mU I (k0 + 1) ((I k0 3)).toNatClampNeg v1) (k0 + 2) (((mU I (k0 + 1) ((I k0 3)).toNatClampNeg v1) k0 3)).toNatClampNeg v2) k0 3) 8) (some ((1 : Int32), (mU (mU (mU (mU I (k0 + 1) ((I k0 3)).toNatClampNeg v1) (k0 + 2) (((mU I (k0 + 1) ((I k0 3)).toNatClampNeg v1) k0 3)).toNatClampNeg v2) (k0 + 3) (((mU (mU I (k0 + 1) ((I k0 3)).toNatClampNeg v1) (k0 + 2) (((mU I (k0 + 1) ((I k0 3)).toNatClampNeg v1) k0 3)).toNatClampNeg v2) k0 3)).toNatClampNeg (0 : Int32)) k0 3 (((mU (mU (mU I (k0 + 1) ((I k0 3)).toNatClampNeg v1) (k0 + 2) (((mU I (k0 + 1) ((I k0 3)).toNatClampNeg v1) k0 3)).toNatClampNeg v2) (k0 + 3) (((mU (mU I (k0 + 1) ((I k0 3)).toNatClampNeg v1) (k0 + 2) (((mU I (k0 + 1) ((I k0 3)).toNatClampNeg v1) k0 3)).toNatClampNeg v2) k0 3)).toNatClampNeg (0 : Int32)) k0 3) + (1 : Int32)))))) else (oG (inB ((mU (mU I (k0 + 1) ((I k0 3)).toNatClampNeg v1) (k0 + 2) (((mU I (k0 + 1) ((I k0 3)).toNatClampNeg v1) k0 3)).toNatClampNeg v2) k0 3) 8) (some ((1 : Int32), (mU (mU (mU (mU I (k0 + 1) ((I k0 3)).toNatClampNeg v1) (k0 + 2) (((mU I (k0 + 1) ((I k0 3)).toNatClampNeg v1) k0 3)).toNatClampNeg v2) (k0 + 3) (((mU (mU I (k0 + 1) ((I k0 3)).toNatClampNeg v1) (k0 + 2) (((mU I (k0 + 1) ((I k0 3)).toNatClampNeg v1) k0 3)).toNatClampNeg v2) k0 3)).toNatClampNeg (1 : Int32)) k0 3 (((mU (mU (mU I (k0 + 1) ((I k0 3)).toNatClampNeg v1) (k0 + 2) (((mU I (k0 + 1) ((I k0 3)).toNatClampNeg v1) k0 3)).toNatClampNeg v2) (k0 + 3) (((mU (mU I (k0 + 1) ((I k0 3)).toNatClampNeg v1) (k0 + 2) (((mU I (k0 + 1) ((I k0 3)).toNatClampNeg v1) k0 3)).toNatClampNeg v2) k0 3)).toNatClampNeg (1 : Int32)) k0 3) + (1 : Int32))))))))) else (some ((0 : Int32), I)))
set_option maxRecDepth 20000 in
theorem ok_X4_add {l : Launch} {E : mEn} {Fu : Nat} {I : mIT} {R : mRT} {L : mLT} {k0 : Nat} {v1 : Int32} {v2 : Int32} {v3 : Int32} (hst : l.stackTraces = false) (hk0 : mO4 R k0) {out : Int32 × mIT} (h : f_X4_add Fu I k0 v1 v2 v3 = some out) : mOk l E mX4_add [.ref (mB E + k0), .int v1, .int v2, .int v3] 106 1 I R L 0 0 (mSame (some (.int (out.1))) 106 1 (out.2) R L) := by
  refine mOk_of hst (by decide) (Nat.le_of_ble_eq_true rfl) (fun X hC hE _ => ?_)
  have hC : mC X E mX4_add RX4 cX4_add := hC
  show mG X E 0 [(0, .ref (mB E + k0)), (1, .int v1), (2, .int v2), (3, .int v3)] [] 106 1 I R L 0 0
  unfold f_X4_add at h
  refine g_aload_n hC dX4_add_0 rfl (q := 0) rfl ?_
  refine g_geti hC fd_RX4_21 hk0.2.1 hk0.1 (Or.inl rfl) dX4_add_1 ?_
  refine g_if_lt hC dX4_add_4 (tgt := 16) (by decide) (fun c4 => ?_) (fun c4 => ?_)
  · replace h := (if_pos c4).symm.trans h
    refine g_iconst hC dX4_add_16 (v := (0 : Int32)) (by decide) ?_
    cases h
    exact g_zret hC (by decide) hE rfl dX4_add_17 (Nat.zero_le _) (Nat.zero_le _) ⟨rfl, rfl, rfl, rfl, rfl, rfl⟩
  · replace h := (if_neg c4).symm.trans h
    refine g_aload_n hC dX4_add_7 rfl (q := 0) rfl ?_
    refine g_geti hC fd_RX4_21 hk0.2.1 hk0.1 (Or.inl rfl) dX4_add_8 ?_
    refine g_bipush hC dX4_add_11 (v := (8 : Int32)) (by decide) ?_
    refine g_ic_lt hC dX4_add_13 (tgt := 18) (by decide) (fun c13 => ?_) (fun c13 => ?_)
    · replace h := (if_pos c13).symm.trans h
      refine g_aload_n hC dX4_add_18 rfl (q := 0) rfl ?_
      refine g_getr hC fd_RX4_9 hk0.2.1 hk0.1 (C0 := "") (t0 := _) (Or.inr rfl) hk0.2.2.1.1 dX4_add_19 ?_
      refine g_aload_n hC dX4_add_22 rfl (q := 0) rfl ?_
      refine g_geti hC fd_RX4_21 hk0.2.1 hk0.1 (Or.inl rfl) dX4_add_23 ?_
      refine g_iload_n hC dX4_add_26 rfl (q := 1) rfl ?_
      obtain ⟨g27, h⟩ := oG_some h
      refine g_iast hC hk0.2.2.1.2.2 hk0.2.2.1.2.1 (inB_in g27) dX4_add_27 (nm_e ?_)
      refine g_aload_n hC dX4_add_28 rfl (q := 0) rfl ?_
      refine g_getr hC fd_RX4_15 hk0.2.1 hk0.1 (C0 := "") (t0 := _) (Or.inr rfl) hk0.2.2.2.1.1 dX4_add_29 ?_
      refine g_aload_n hC dX4_add_32 rfl (q := 0) rfl ?_
      refine g_geti hC fd_RX4_21 hk0.2.1 hk0.1 (Or.inl rfl) dX4_add_33 ?_
      refine g_iload_n hC dX4_add_36 rfl (q := 2) rfl ?_
      obtain ⟨g37, h⟩ := oG_some h
      refine g_iast hC hk0.2.2.2.1.2.2 hk0.2.2.2.1.2.1 (inB_in g37) dX4_add_37 (nm_e ?_)
      refine g_aload_n hC dX4_add_38 rfl (q := 0) rfl ?_
      refine g_getr hC fd_RX4_18 hk0.2.1 hk0.1 (C0 := "") (t0 := _) (Or.inr rfl) hk0.2.2.2.2.1 dX4_add_39 ?_
      refine g_aload_n hC dX4_add_42 rfl (q := 0) rfl ?_
      refine g_geti hC fd_RX4_21 hk0.2.1 hk0.1 (Or.inl rfl) dX4_add_43 ?_
      refine g_iload_n hC dX4_add_46 rfl (q := 3) rfl ?_
      refine g_if_eq hC dX4_add_47 (tgt := 54) (by decide) (fun c47 => ?_) (fun c47 => ?_)
      · replace h := (if_pos c47).symm.trans h
        refine g_iconst hC dX4_add_54 (v := (0 : Int32)) (by decide) ?_
        obtain ⟨g55, h⟩ := oG_some h
        refine g_iast hC hk0.2.2.2.2.2.2 hk0.2.2.2.2.2.1 (inB_in g55) dX4_add_55 (nm_e ?_)
        refine g_aload_n hC dX4_add_56 rfl (q := 0) rfl ?_
        refine g_dup hC dX4_add_57 rfl ?_
        refine g_geti hC fd_RX4_21 hk0.2.1 hk0.1 (Or.inl rfl) dX4_add_58 ?_
        refine g_iconst hC dX4_add_61 (v := (1 : Int32)) (by decide) ?_
        refine g_iadd hC dX4_add_62 ?_
        refine g_puti hC fd_RX4_21 hk0.2.1 hk0.1 rfl dX4_add_63 (nm_e ?_)
        refine g_iconst hC dX4_add_66 (v := (1 : Int32)) (by decide) ?_
        cases h
        exact g_zret hC (by decide) hE rfl dX4_add_67 (Nat.zero_le _) (Nat.zero_le _) ⟨rfl, rfl, rfl, rfl, rfl, rfl⟩
      · replace h := (if_neg c47).symm.trans h
        refine g_iconst hC dX4_add_50 (v := (1 : Int32)) (by decide) ?_
        refine g_goto hC dX4_add_51 (tgt := 55) (by decide) ?_
        obtain ⟨g55, h⟩ := oG_some h
        refine g_iast hC hk0.2.2.2.2.2.2 hk0.2.2.2.2.2.1 (inB_in g55) dX4_add_55 (nm_e ?_)
        refine g_aload_n hC dX4_add_56 rfl (q := 0) rfl ?_
        refine g_dup hC dX4_add_57 rfl ?_
        refine g_geti hC fd_RX4_21 hk0.2.1 hk0.1 (Or.inl rfl) dX4_add_58 ?_
        refine g_iconst hC dX4_add_61 (v := (1 : Int32)) (by decide) ?_
        refine g_iadd hC dX4_add_62 ?_
        refine g_puti hC fd_RX4_21 hk0.2.1 hk0.1 rfl dX4_add_63 (nm_e ?_)
        refine g_iconst hC dX4_add_66 (v := (1 : Int32)) (by decide) ?_
        cases h
        exact g_zret hC (by decide) hE rfl dX4_add_67 (Nat.zero_le _) (Nat.zero_le _) ⟨rfl, rfl, rfl, rfl, rfl, rfl⟩
    · replace h := (if_neg c13).symm.trans h
      refine g_iconst hC dX4_add_16 (v := (0 : Int32)) (by decide) ?_
      cases h
      exact g_zret hC (by decide) hE rfl dX4_add_17 (Nat.zero_le _) (Nat.zero_le _) ⟨rfl, rfl, rfl, rfl, rfl, rfl⟩
noncomputable def f_X9_setHollow (Fu : Nat) (I : mIT) (k0 : Nat) (v1 : Int32) (v2 : Int32) : Option (mIT) :=
  oB (f_X9_setCell Fu I k0 (11 : Int32) v1 v2) (fun r5 => some (r5))
set_option maxRecDepth 20000 in
theorem ok_X9_setHollow {l : Launch} {E : mEn} {Fu : Nat} {I : mIT} {R : mRT} {L : mLT} {k0 : Nat} {v1 : Int32} {v2 : Int32} (hst : l.stackTraces = false) (hk0 : mO9 R k0) {out : mIT} (h : f_X9_setHollow Fu I k0 v1 v2 = some out) : mOk l E mX9_setHollow [.ref (mB E + k0), .int v1, .int v2] 106 1 I R L 0 0 (mSame none 106 1 (out) R L) := by
  refine mOk_of hst (by decide) (Nat.le_of_ble_eq_true rfl) (fun X hC hE _ => ?_)
  have hC : mC X E mX9_setHollow RX9 cX9_setHollow := hC
  show mG X E 0 [(0, .ref (mB E + k0)), (1, .int v1), (2, .int v2)] [] 106 1 I R L 0 0
  unfold f_X9_setHollow at h
  refine g_aload_n hC dX9_setHollow_0 rfl (q := 0) rfl ?_
  refine g_bipush hC dX9_setHollow_1 (v := (11 : Int32)) (by decide) ?_
  refine g_iload_n hC dX9_setHollow_3 rfl (q := 1) rfl ?_
  refine g_iload_n hC dX9_setHollow_4 rfl (q := 2) rfl ?_
  obtain ⟨r5, h5, h⟩ := oB_some h
  refine g_cV0 hC cv_X9_setCell wd_636 ⟨Nat.le_of_ble_eq_true rfl, Nat.le_of_ble_eq_true rfl⟩ hk0.2.1 hk0.1 dX9_setHollow_5 (As := [.int (11 : Int32), .int v1, .int v2]) (st := []) (ok_X9_setCell hC.2.2.2.2.2.2.2.1 hk0 h5) rfl rfl (Nat.le_of_ble_eq_true rfl) ⟨Nat.zero_le _, Nat.zero_le _⟩ ?_
  cases h
  exact g_vret hC hE rfl dX9_setHollow_8 (Nat.zero_le _) (Nat.zero_le _) ⟨rfl, rfl, rfl, rfl, rfl, rfl⟩
noncomputable def f_X4_copyFrom (Fu : Nat) (I : mIT) (k0 : Nat) (k1 : Nat) : Option (mIT) :=
  oG (cpB (0 : Int32) (0 : Int32) (8 : Int32) 8 8) (oG (cpB (0 : Int32) (0 : Int32) (8 : Int32) 8 8) (oG (cpB (0 : Int32) (0 : Int32) (8 : Int32) 8 8) (some (mU (mCp (mCp (mCp I (k1 + 1) (k0 + 1) ((0 : Int32)).toNatClampNeg ((0 : Int32)).toNatClampNeg ((8 : Int32)).toNatClampNeg) (k1 + 2) (k0 + 2) ((0 : Int32)).toNatClampNeg ((0 : Int32)).toNatClampNeg ((8 : Int32)).toNatClampNeg) (k1 + 3) (k0 + 3) ((0 : Int32)).toNatClampNeg ((0 : Int32)).toNatClampNeg ((8 : Int32)).toNatClampNeg) k0 3 ((mCp (mCp (mCp I (k1 + 1) (k0 + 1) ((0 : Int32)).toNatClampNeg ((0 : Int32)).toNatClampNeg ((8 : Int32)).toNatClampNeg) (k1 + 2) (k0 + 2) ((0 : Int32)).toNatClampNeg ((0 : Int32)).toNatClampNeg ((8 : Int32)).toNatClampNeg) (k1 + 3) (k0 + 3) ((0 : Int32)).toNatClampNeg ((0 : Int32)).toNatClampNeg ((8 : Int32)).toNatClampNeg) k1 3)))))
set_option maxRecDepth 20000 in
theorem ok_X4_copyFrom {l : Launch} {E : mEn} {Fu : Nat} {I : mIT} {R : mRT} {L : mLT} {k0 : Nat} {k1 : Nat} (hst : l.stackTraces = false) (hk0 : mO4 R k0) (hk1 : mO4 R k1) {out : mIT} (h : f_X4_copyFrom Fu I k0 k1 = some out) : mOk l E mX4_copyFrom [.ref (mB E + k0), .ref (mB E + k1)] 106 1 I R L 0 0 (mSame none 106 1 (out) R L) := by
  refine mOk_of hst (by decide) (Nat.le_of_ble_eq_true rfl) (fun X hC hE _ => ?_)
  have hC : mC X E mX4_copyFrom RX4 cX4_copyFrom := hC
  show mG X E 0 [(0, .ref (mB E + k0)), (1, .ref (mB E + k1))] [] 106 1 I R L 0 0
  unfold f_X4_copyFrom at h
  refine g_aload_n hC dX4_copyFrom_0 rfl (q := 1) rfl ?_
  refine g_getr hC fd_RX4_9 hk1.2.1 hk1.1 (C0 := "") (t0 := _) (Or.inr rfl) hk1.2.2.1.1 dX4_copyFrom_1 ?_
  refine g_iconst hC dX4_copyFrom_4 (v := (0 : Int32)) (by decide) ?_
  refine g_aload_n hC dX4_copyFrom_5 rfl (q := 0) rfl ?_
  refine g_getr hC fd_RX4_9 hk0.2.1 hk0.1 (C0 := "") (t0 := _) (Or.inr rfl) hk0.2.2.1.1 dX4_copyFrom_6 ?_
  refine g_iconst hC dX4_copyFrom_9 (v := (0 : Int32)) (by decide) ?_
  refine g_bipush hC dX4_copyFrom_10 (v := (8 : Int32)) (by decide) ?_
  obtain ⟨g12, h⟩ := oG_some h
  refine g_copy hC wd_829 wd_na_copy wd_st_copy wd_in_sys hk1.2.2.1.2.2 hk0.2.2.1.2.2 hk1.2.2.1.2.1 hk0.2.2.1.2.1 (cpB_ok g12).1 (cpB_ok g12).2.1 (cpB_ok g12).2.2.1 (cpB_ok g12).2.2.2.1 (cpB_ok g12).2.2.2.2 (Nat.le_of_ble_eq_true rfl) (Nat.le_of_ble_eq_true rfl) (by decide) dX4_copyFrom_12 (nm_e ?_)
  refine g_aload_n hC dX4_copyFrom_15 rfl (q := 1) rfl ?_
  refine g_getr hC fd_RX4_15 hk1.2.1 hk1.1 (C0 := "") (t0 := _) (Or.inr rfl) hk1.2.2.2.1.1 dX4_copyFrom_16 ?_
  refine g_iconst hC dX4_copyFrom_19 (v := (0 : Int32)) (by decide) ?_
  refine g_aload_n hC dX4_copyFrom_20 rfl (q := 0) rfl ?_
  refine g_getr hC fd_RX4_15 hk0.2.1 hk0.1 (C0 := "") (t0 := _) (Or.inr rfl) hk0.2.2.2.1.1 dX4_copyFrom_21 ?_
  refine g_iconst hC dX4_copyFrom_24 (v := (0 : Int32)) (by decide) ?_
  refine g_bipush hC dX4_copyFrom_25 (v := (8 : Int32)) (by decide) ?_
  obtain ⟨g27, h⟩ := oG_some h
  refine g_copy hC wd_829 wd_na_copy wd_st_copy wd_in_sys hk1.2.2.2.1.2.2 hk0.2.2.2.1.2.2 hk1.2.2.2.1.2.1 hk0.2.2.2.1.2.1 (cpB_ok g27).1 (cpB_ok g27).2.1 (cpB_ok g27).2.2.1 (cpB_ok g27).2.2.2.1 (cpB_ok g27).2.2.2.2 (Nat.le_of_ble_eq_true rfl) (Nat.le_of_ble_eq_true rfl) (by decide) dX4_copyFrom_27 (nm_e ?_)
  refine g_aload_n hC dX4_copyFrom_30 rfl (q := 1) rfl ?_
  refine g_getr hC fd_RX4_18 hk1.2.1 hk1.1 (C0 := "") (t0 := _) (Or.inr rfl) hk1.2.2.2.2.1 dX4_copyFrom_31 ?_
  refine g_iconst hC dX4_copyFrom_34 (v := (0 : Int32)) (by decide) ?_
  refine g_aload_n hC dX4_copyFrom_35 rfl (q := 0) rfl ?_
  refine g_getr hC fd_RX4_18 hk0.2.1 hk0.1 (C0 := "") (t0 := _) (Or.inr rfl) hk0.2.2.2.2.1 dX4_copyFrom_36 ?_
  refine g_iconst hC dX4_copyFrom_39 (v := (0 : Int32)) (by decide) ?_
  refine g_bipush hC dX4_copyFrom_40 (v := (8 : Int32)) (by decide) ?_
  obtain ⟨g42, h⟩ := oG_some h
  refine g_copy hC wd_829 wd_na_copy wd_st_copy wd_in_sys hk1.2.2.2.2.2.2 hk0.2.2.2.2.2.2 hk1.2.2.2.2.2.1 hk0.2.2.2.2.2.1 (cpB_ok g42).1 (cpB_ok g42).2.1 (cpB_ok g42).2.2.1 (cpB_ok g42).2.2.2.1 (cpB_ok g42).2.2.2.2 (Nat.le_of_ble_eq_true rfl) (Nat.le_of_ble_eq_true rfl) (by decide) dX4_copyFrom_42 (nm_e ?_)
  refine g_aload_n hC dX4_copyFrom_45 rfl (q := 0) rfl ?_
  refine g_aload_n hC dX4_copyFrom_46 rfl (q := 1) rfl ?_
  refine g_geti hC fd_RX4_21 hk1.2.1 hk1.1 (Or.inl rfl) dX4_copyFrom_47 ?_
  refine g_puti hC fd_RX4_21 hk0.2.1 hk0.1 rfl dX4_copyFrom_50 (nm_e ?_)
  cases h
  exact g_vret hC hE rfl dX4_copyFrom_53 (Nat.zero_le _) (Nat.zero_le _) ⟨rfl, rfl, rfl, rfl, rfl, rfl⟩
noncomputable def b_X7_isRung_2 (Fu : Nat) (I : mIT) (k2_ : Int32 × Int32 → Option (Int32)) (v1 : Int32) (v3 : Int32) : Option (Int32) :=
  if v3 < 0 then (some (0 : Int32)) else (if (nI 72) ≤ v3 then (k2_ (v1, (v3 + (-1 : Int32)))) else (oG (inB v3 72) (if (I 65 (v3).toNatClampNeg) = v1 then (some (1 : Int32)) else (k2_ (v1, (v3 + (-1 : Int32)))))))
set_option maxRecDepth 20000 in
theorem bo_X7_isRung_2 {X : mXT} {E : mEn} {Fu : Nat} {I : mIT} {R : mRT} {L : mLT}  (hC : mC X E mX7_isRung RX7 cX7_isRung) (hW : mWd R)   {out : Int32} (hE : mEd X E 0 0 (mSame (some (.int (out))) 106 1 I R L)) (k2_ : Int32 × Int32 → Option (Int32)) (hk2_ : ∀ (v1 : Int32) (v3 : Int32),  k2_ (v1, v3) = some out → mG X E 2 [(0, .ref (mB E + 62)), (1, .int v1), (3, .int v3)] [] 106 1 I R L 0 0) (v1 : Int32) (v3 : Int32) (h : b_X7_isRung_2 Fu I k2_ v1 v3 = some out) : mG X E 2 [(0, .ref (mB E + 62)), (1, .int v1), (3, .int v3)] [] 106 1 I R L 0 0 := by
  unfold b_X7_isRung_2 at h
  refine g_iload_n hC dX7_isRung_2 rfl (q := 2) rfl ?_
  refine g_if_lt hC dX7_isRung_3 (tgt := 33) (by decide) (fun c3 => ?_) (fun c3 => ?_)
  · replace h := (if_pos c3).symm.trans h
    refine g_iconst hC dX7_isRung_33 (v := (0 : Int32)) (by decide) ?_
    cases h
    exact g_zret hC (by decide) hE rfl dX7_isRung_34 (Nat.zero_le _) (Nat.zero_le _) ⟨rfl, rfl, rfl, rfl, rfl, rfl⟩
  · replace h := (if_neg c3).symm.trans h
    refine g_iload_n hC dX7_isRung_6 rfl (q := 2) rfl ?_
    refine g_aload_n hC dX7_isRung_7 rfl (q := 0) rfl ?_
    refine g_getr hC fd_RX7_18 rfl (by decide) (C0 := "") (t0 := _) (Or.inr rfl) (rr_62_2 hW.1) dX7_isRung_8 ?_
    refine g_alenI hC rfl (by decide) dX7_isRung_11 ?_
    refine g_ic_ge hC dX7_isRung_12 (tgt := 27) (by decide) (fun c12 => ?_) (fun c12 => ?_)
    · replace h := (if_pos c12).symm.trans h
      refine g_iinc hC dX7_isRung_27 rfl (q := 2) rfl (w := (v3 + (-1 : Int32))) rfl (by decide) (lv' := [(3, .int (v3 + (-1 : Int32))), (0, .ref (mB E + 62)), (1, .int v1)]) rfl ?_
      refine g_goto hC dX7_isRung_30 (tgt := 2) (by decide) ?_
      refine g_lv [1, 2, 0] rfl ?_
      exact hk2_ v1 (v3 + (-1 : Int32)) h
    · replace h := (if_neg c12).symm.trans h
      refine g_aload_n hC dX7_isRung_15 rfl (q := 0) rfl ?_
      refine g_getr hC fd_RX7_18 rfl (by decide) (C0 := "") (t0 := _) (Or.inr rfl) (rr_62_2 hW.1) dX7_isRung_16 ?_
      refine g_iload_n hC dX7_isRung_19 rfl (q := 2) rfl ?_
      obtain ⟨g20, h⟩ := oG_some h
      refine g_iald hC rfl (by decide) (inB_in g20) dX7_isRung_20 ?_
      refine g_iload_n hC dX7_isRung_21 rfl (q := 1) rfl ?_
      refine g_ic_ne hC dX7_isRung_22 (tgt := 27) (by decide) (fun c22 => ?_) (fun c22 => ?_)
      · replace h := (if_neg c22).symm.trans h
        refine g_iinc hC dX7_isRung_27 rfl (q := 2) rfl (w := (v3 + (-1 : Int32))) rfl (by decide) (lv' := [(3, .int (v3 + (-1 : Int32))), (0, .ref (mB E + 62)), (1, .int v1)]) rfl ?_
        refine g_goto hC dX7_isRung_30 (tgt := 2) (by decide) ?_
        refine g_lv [1, 2, 0] rfl ?_
        exact hk2_ v1 (v3 + (-1 : Int32)) h
      · replace h := (if_pos c22).symm.trans h
        refine g_iconst hC dX7_isRung_25 (v := (1 : Int32)) (by decide) ?_
        cases h
        exact g_zret hC (by decide) hE rfl dX7_isRung_26 (Nat.zero_le _) (Nat.zero_le _) ⟨rfl, rfl, rfl, rfl, rfl, rfl⟩
noncomputable def w_X7_isRung_2 (Fu : Nat) (I : mIT)  (N : Nat) (v1 : Int32) (v3 : Int32) : Option (Int32) :=
  loopF (fun self (s : Int32 × Int32) => b_X7_isRung_2 Fu I self s.1 s.2) N (v1, v3)
theorem wo_X7_isRung_2 {X : mXT} {E : mEn} {Fu : Nat} {I : mIT} {R : mRT} {L : mLT}  (hC : mC X E mX7_isRung RX7 cX7_isRung) (hW : mWd R)   {out : Int32} (hE : mEd X E 0 0 (mSame (some (.int (out))) 106 1 I R L))  (N : Nat) (v1 : Int32) (v3 : Int32) (h : w_X7_isRung_2 Fu I  N v1 v3 = some out) : mG X E 2 [(0, .ref (mB E + 62)), (1, .int v1), (3, .int v3)] [] 106 1 I R L 0 0 :=
  loopF_ok (Gd := fun s : Int32 × Int32 => mG X E 2 [(0, .ref (mB E + 62)), (1, .int s.1), (3, .int s.2)] [] 106 1 I R L 0 0) (fun self hs s h => bo_X7_isRung_2 hC hW hE self (fun v1 v3 h => hs (v1, v3) h) s.1 s.2 h) N (v1, v3) h
noncomputable def f_X7_isRung (Fu : Nat) (I : mIT) (v1 : Int32) (v2 : Int32) : Option (Int32) :=
  w_X7_isRung_2 Fu I Fu v1 v2
set_option maxRecDepth 20000 in
theorem ok_X7_isRung {l : Launch} {E : mEn} {Fu : Nat} {I : mIT} {R : mRT} {L : mLT} {v1 : Int32} {v2 : Int32} (hst : l.stackTraces = false) (hW : mWd R)  {out : Int32} (h : f_X7_isRung Fu I v1 v2 = some out) : mOk l E mX7_isRung [.ref (mB E + 62), .int v1, .int v2] 106 1 I R L 0 0 (mSame (some (.int (out))) 106 1 I R L) := by
  refine mOk_of hst (by decide) (Nat.le_of_ble_eq_true rfl) (fun X hC hE _ => ?_)
  have hC : mC X E mX7_isRung RX7 cX7_isRung := hC
  show mG X E 0 [(0, .ref (mB E + 62)), (1, .int v1), (2, .int v2)] [] 106 1 I R L 0 0
  unfold f_X7_isRung at h
  refine g_iload_n hC dX7_isRung_0 rfl (q := 2) rfl ?_
  refine g_istore_n hC dX7_isRung_1 rfl rfl (by decide) (lv' := [(3, .int v2), (0, .ref (mB E + 62)), (1, .int v1), (2, .int v2)]) rfl ?_
  refine g_lv [1, 2, 0] rfl ?_
  exact wo_X7_isRung_2 hC hW hE Fu (v1) (v2) h
noncomputable def b_X7_trueLength_5 (Fu : Nat) (k5_ : Int32 × Int32 × mIT → Option (Int32 × mIT)) (v1 : Int32) (v2 : Int32) (I : mIT) : Option (Int32 × mIT) :=
  if (72 : Int32) ≤ v2 then (some ((0 : Int32), I)) else (if (nI 72) ≤ v2 then (some ((0 : Int32), I)) else (oG (inB v2 72) (oB (f_X7_behindOne Fu (mU I 65 (v2).toNatClampNeg v1) v1 v2) (fun r30 => if r30 = (181896 : Int32) then (some ((v2 + (1 : Int32)), (mU I 65 (v2).toNatClampNeg v1))) else (oB (f_X7_isRung Fu (mU I 65 (v2).toNatClampNeg v1) r30 v2) (fun r47 => if r47 = 0 then (k5_ (r30, (v2 + (1 : Int32)), (mU I 65 (v2).toNatClampNeg v1))) else (some ((0 : Int32), (mU I 65 (v2).toNatClampNeg v1)))))))))
set_option maxRecDepth 20000 in
theorem bo_X7_trueLength_5 {X : mXT} {E : mEn} {Fu : Nat} {R : mRT} {L : mLT}  (hC : mC X E mX7_trueLength RX7 cX7_trueLength) (hW : mWd R)   {out : Int32 × mIT} (hE : mEd X E 0 0 (mSame (some (.int (out.1))) 106 1 (out.2) R L)) (k5_ : Int32 × Int32 × mIT → Option (Int32 × mIT)) (hk5_ : ∀ (v1 : Int32) (v2 : Int32) (I : mIT),  k5_ (v1, v2, I) = some out → mG X E 5 [(0, .ref (mB E + 62)), (1, .int v1), (2, .int v2)] [] 106 1 I R L 0 0) (v1 : Int32) (v2 : Int32) (I : mIT) (h : b_X7_trueLength_5 Fu k5_ v1 v2 I = some out) : mG X E 5 [(0, .ref (mB E + 62)), (1, .int v1), (2, .int v2)] [] 106 1 I R L 0 0 := by
  unfold b_X7_trueLength_5 at h
  refine g_iload_n hC dX7_trueLength_5 rfl (q := 2) rfl ?_
  refine g_bipush hC dX7_trueLength_6 (v := (72 : Int32)) (by decide) ?_
  refine g_ic_ge hC dX7_trueLength_8 (tgt := 61) (by decide) (fun c8 => ?_) (fun c8 => ?_)
  · replace h := (if_pos c8).symm.trans h
    refine g_iconst hC dX7_trueLength_61 (v := (0 : Int32)) (by decide) ?_
    cases h
    exact g_iret hC hE rfl dX7_trueLength_62 (Nat.zero_le _) (Nat.zero_le _) ⟨rfl, rfl, rfl, rfl, rfl, rfl⟩
  · replace h := (if_neg c8).symm.trans h
    refine g_iload_n hC dX7_trueLength_11 rfl (q := 2) rfl ?_
    refine g_aload_n hC dX7_trueLength_12 rfl (q := 0) rfl ?_
    refine g_getr hC fd_RX7_18 rfl (by decide) (C0 := "") (t0 := _) (Or.inr rfl) (rr_62_2 hW.1) dX7_trueLength_13 ?_
    refine g_alenI hC rfl (by decide) dX7_trueLength_16 ?_
    refine g_ic_ge hC dX7_trueLength_17 (tgt := 61) (by decide) (fun c17 => ?_) (fun c17 => ?_)
    · replace h := (if_pos c17).symm.trans h
      refine g_iconst hC dX7_trueLength_61 (v := (0 : Int32)) (by decide) ?_
      cases h
      exact g_iret hC hE rfl dX7_trueLength_62 (Nat.zero_le _) (Nat.zero_le _) ⟨rfl, rfl, rfl, rfl, rfl, rfl⟩
    · replace h := (if_neg c17).symm.trans h
      refine g_aload_n hC dX7_trueLength_20 rfl (q := 0) rfl ?_
      refine g_getr hC fd_RX7_18 rfl (by decide) (C0 := "") (t0 := _) (Or.inr rfl) (rr_62_2 hW.1) dX7_trueLength_21 ?_
      refine g_iload_n hC dX7_trueLength_24 rfl (q := 2) rfl ?_
      refine g_iload_n hC dX7_trueLength_25 rfl (q := 1) rfl ?_
      obtain ⟨g26, h⟩ := oG_some h
      refine g_iast hC rfl (by decide) (inB_in g26) dX7_trueLength_26 (nm_e ?_)
      refine g_aload_n hC dX7_trueLength_27 rfl (q := 0) rfl ?_
      refine g_iload_n hC dX7_trueLength_28 rfl (q := 1) rfl ?_
      refine g_iload_n hC dX7_trueLength_29 rfl (q := 2) rfl ?_
      obtain ⟨r30, h30, h⟩ := oB_some h
      refine g_cV1 hC cv_X7_behindOne wd_741 ⟨Nat.le_of_ble_eq_true rfl, Nat.le_of_ble_eq_true rfl⟩ rfl (by decide) dX7_trueLength_30 (As := [.int v1, .int v2]) (st := []) (ok_X7_behindOne hC.2.2.2.2.2.2.2.1 hW h30) rfl rfl (Nat.le_of_ble_eq_true rfl) ⟨Nat.zero_le _, Nat.zero_le _⟩ ?_
      refine g_istore_n hC dX7_trueLength_33 rfl rfl (by decide) (lv' := [(1, .int r30), (0, .ref (mB E + 62)), (2, .int v2)]) rfl ?_
      refine g_iload_n hC dX7_trueLength_34 rfl (q := 0) rfl ?_
      refine g_ldc hC dX7_trueLength_35 wd_740 ?_
      refine g_ic_ne hC dX7_trueLength_37 (tgt := 44) (by decide) (fun c37 => ?_) (fun c37 => ?_)
      · replace h := (if_neg c37).symm.trans h
        refine g_aload_n hC dX7_trueLength_44 rfl (q := 1) rfl ?_
        refine g_iload_n hC dX7_trueLength_45 rfl (q := 0) rfl ?_
        refine g_iload_n hC dX7_trueLength_46 rfl (q := 2) rfl ?_
        obtain ⟨r47, h47, h⟩ := oB_some h
        refine g_cV1 hC cv_X7_isRung wd_756 ⟨Nat.le_of_ble_eq_true rfl, Nat.le_of_ble_eq_true rfl⟩ rfl (by decide) dX7_trueLength_47 (As := [.int r30, .int v2]) (st := []) (ok_X7_isRung hC.2.2.2.2.2.2.2.1 hW h47) rfl rfl (Nat.le_of_ble_eq_true rfl) ⟨Nat.zero_le _, Nat.zero_le _⟩ ?_
        refine g_if_eq hC dX7_trueLength_50 (tgt := 55) (by decide) (fun c50 => ?_) (fun c50 => ?_)
        · replace h := (if_pos c50).symm.trans h
          refine g_iinc hC dX7_trueLength_55 rfl (q := 2) rfl (w := (v2 + (1 : Int32))) rfl (by decide) (lv' := [(2, .int (v2 + (1 : Int32))), (1, .int r30), (0, .ref (mB E + 62))]) rfl ?_
          refine g_goto hC dX7_trueLength_58 (tgt := 5) (by decide) ?_
          refine g_lv [2, 1, 0] rfl ?_
          exact hk5_ r30 (v2 + (1 : Int32)) (mU I 65 (v2).toNatClampNeg v1) h
        · replace h := (if_neg c50).symm.trans h
          refine g_iconst hC dX7_trueLength_53 (v := (0 : Int32)) (by decide) ?_
          cases h
          exact g_iret hC hE rfl dX7_trueLength_54 (Nat.zero_le _) (Nat.zero_le _) ⟨rfl, rfl, rfl, rfl, rfl, rfl⟩
      · replace h := (if_pos c37).symm.trans h
        refine g_iload_n hC dX7_trueLength_40 rfl (q := 2) rfl ?_
        refine g_iconst hC dX7_trueLength_41 (v := (1 : Int32)) (by decide) ?_
        refine g_iadd hC dX7_trueLength_42 ?_
        cases h
        exact g_iret hC hE rfl dX7_trueLength_43 (Nat.zero_le _) (Nat.zero_le _) ⟨rfl, rfl, rfl, rfl, rfl, rfl⟩
noncomputable def w_X7_trueLength_5 (Fu : Nat)  (N : Nat) (v1 : Int32) (v2 : Int32) (I : mIT) : Option (Int32 × mIT) :=
  loopF (fun self (s : Int32 × Int32 × mIT) => b_X7_trueLength_5 Fu self s.1 s.2.1 s.2.2) N (v1, v2, I)
theorem wo_X7_trueLength_5 {X : mXT} {E : mEn} {Fu : Nat} {R : mRT} {L : mLT}  (hC : mC X E mX7_trueLength RX7 cX7_trueLength) (hW : mWd R)   {out : Int32 × mIT} (hE : mEd X E 0 0 (mSame (some (.int (out.1))) 106 1 (out.2) R L))  (N : Nat) (v1 : Int32) (v2 : Int32) (I : mIT) (h : w_X7_trueLength_5 Fu  N v1 v2 I = some out) : mG X E 5 [(0, .ref (mB E + 62)), (1, .int v1), (2, .int v2)] [] 106 1 I R L 0 0 :=
  loopF_ok (Gd := fun s : Int32 × Int32 × mIT => mG X E 5 [(0, .ref (mB E + 62)), (1, .int s.1), (2, .int s.2.1)] [] 106 1 s.2.2 R L 0 0) (fun self hs s h => bo_X7_trueLength_5 hC hW hE self (fun v1 v2 I h => hs (v1, v2, I) h) s.1 s.2.1 s.2.2 h) N (v1, v2, I) h
noncomputable def f_X7_trueLength (Fu : Nat) (I : mIT)  : Option (Int32 × mIT) :=
  w_X7_trueLength_5 Fu Fu (181896 : Int32) (0 : Int32) I
set_option maxRecDepth 20000 in
theorem ok_X7_trueLength {l : Launch} {E : mEn} {Fu : Nat} {I : mIT} {R : mRT} {L : mLT}  (hst : l.stackTraces = false) (hW : mWd R)  {out : Int32 × mIT} (h : f_X7_trueLength Fu I  = some out) : mOk l E mX7_trueLength [.ref (mB E + 62)] 106 1 I R L 0 0 (mSame (some (.int (out.1))) 106 1 (out.2) R L) := by
  refine mOk_of hst (by decide) (Nat.le_of_ble_eq_true rfl) (fun X hC hE _ => ?_)
  have hC : mC X E mX7_trueLength RX7 cX7_trueLength := hC
  show mG X E 0 [(0, .ref (mB E + 62))] [] 106 1 I R L 0 0
  unfold f_X7_trueLength at h
  refine g_ldc hC dX7_trueLength_0 wd_740 ?_
  refine g_istore_n hC dX7_trueLength_2 rfl rfl (by decide) (lv' := [(1, .int (181896 : Int32)), (0, .ref (mB E + 62))]) rfl ?_
  refine g_iconst hC dX7_trueLength_3 (v := (0 : Int32)) (by decide) ?_
  refine g_istore_n hC dX7_trueLength_4 rfl rfl (by decide) (lv' := [(2, .int (0 : Int32)), (1, .int (181896 : Int32)), (0, .ref (mB E + 62))]) rfl ?_
  refine g_lv [2, 1, 0] rfl ?_
  exact wo_X7_trueLength_5 hC hW hE Fu ((181896 : Int32)) ((0 : Int32)) (I) h
noncomputable def b_X7_bellOf_2 (Fu : Nat) (I : mIT) (k2_ : Int32 × Int32 → Option (Int32)) (v1 : Int32) (v2 : Int32) : Option (Int32) :=
  if (I 62 3) ≤ v2 then (some (-1 : Int32)) else (if (nI 6) ≤ v2 then (some (-1 : Int32)) else (oG (inB v2 6) (if (I 63 (v2).toNatClampNeg) = v1 then (some (v2)) else (k2_ (v1, (v2 + (1 : Int32)))))))
set_option maxRecDepth 20000 in
theorem bo_X7_bellOf_2 {X : mXT} {E : mEn} {Fu : Nat} {I : mIT} {R : mRT} {L : mLT}  (hC : mC X E mX7_bellOf RX7 cX7_bellOf) (hW : mWd R)   {out : Int32} (hE : mEd X E 0 0 (mSame (some (.int (out))) 106 1 I R L)) (k2_ : Int32 × Int32 → Option (Int32)) (hk2_ : ∀ (v1 : Int32) (v2 : Int32),  k2_ (v1, v2) = some out → mG X E 2 [(0, .ref (mB E + 62)), (1, .int v1), (2, .int v2)] [] 106 1 I R L 0 0) (v1 : Int32) (v2 : Int32) (h : b_X7_bellOf_2 Fu I k2_ v1 v2 = some out) : mG X E 2 [(0, .ref (mB E + 62)), (1, .int v1), (2, .int v2)] [] 106 1 I R L 0 0 := by
  unfold b_X7_bellOf_2 at h
  refine g_iload_n hC dX7_bellOf_2 rfl (q := 2) rfl ?_
  refine g_aload_n hC dX7_bellOf_3 rfl (q := 0) rfl ?_
  refine g_geti hC fd_RX7_21 rfl (by decide) (Or.inl rfl) dX7_bellOf_4 ?_
  refine g_ic_ge hC dX7_bellOf_7 (tgt := 37) (by decide) (fun c7 => ?_) (fun c7 => ?_)
  · replace h := (if_pos c7).symm.trans h
    refine g_iconst hC dX7_bellOf_37 (v := (-1 : Int32)) (by decide) ?_
    cases h
    exact g_iret hC hE rfl dX7_bellOf_38 (Nat.zero_le _) (Nat.zero_le _) ⟨rfl, rfl, rfl, rfl, rfl, rfl⟩
  · replace h := (if_neg c7).symm.trans h
    refine g_iload_n hC dX7_bellOf_10 rfl (q := 2) rfl ?_
    refine g_aload_n hC dX7_bellOf_11 rfl (q := 0) rfl ?_
    refine g_getr hC fd_RX7_9 rfl (by decide) (C0 := "") (t0 := _) (Or.inr rfl) (rr_62_0 hW.1) dX7_bellOf_12 ?_
    refine g_alenI hC rfl (by decide) dX7_bellOf_15 ?_
    refine g_ic_ge hC dX7_bellOf_16 (tgt := 37) (by decide) (fun c16 => ?_) (fun c16 => ?_)
    · replace h := (if_pos c16).symm.trans h
      refine g_iconst hC dX7_bellOf_37 (v := (-1 : Int32)) (by decide) ?_
      cases h
      exact g_iret hC hE rfl dX7_bellOf_38 (Nat.zero_le _) (Nat.zero_le _) ⟨rfl, rfl, rfl, rfl, rfl, rfl⟩
    · replace h := (if_neg c16).symm.trans h
      refine g_aload_n hC dX7_bellOf_19 rfl (q := 0) rfl ?_
      refine g_getr hC fd_RX7_9 rfl (by decide) (C0 := "") (t0 := _) (Or.inr rfl) (rr_62_0 hW.1) dX7_bellOf_20 ?_
      refine g_iload_n hC dX7_bellOf_23 rfl (q := 2) rfl ?_
      obtain ⟨g24, h⟩ := oG_some h
      refine g_iald hC rfl (by decide) (inB_in g24) dX7_bellOf_24 ?_
      refine g_iload_n hC dX7_bellOf_25 rfl (q := 1) rfl ?_
      refine g_ic_ne hC dX7_bellOf_26 (tgt := 31) (by decide) (fun c26 => ?_) (fun c26 => ?_)
      · replace h := (if_neg c26).symm.trans h
        refine g_iinc hC dX7_bellOf_31 rfl (q := 2) rfl (w := (v2 + (1 : Int32))) rfl (by decide) (lv' := [(2, .int (v2 + (1 : Int32))), (0, .ref (mB E + 62)), (1, .int v1)]) rfl ?_
        refine g_goto hC dX7_bellOf_34 (tgt := 2) (by decide) ?_
        refine g_lv [1, 2, 0] rfl ?_
        exact hk2_ v1 (v2 + (1 : Int32)) h
      · replace h := (if_pos c26).symm.trans h
        refine g_iload_n hC dX7_bellOf_29 rfl (q := 2) rfl ?_
        cases h
        exact g_iret hC hE rfl dX7_bellOf_30 (Nat.zero_le _) (Nat.zero_le _) ⟨rfl, rfl, rfl, rfl, rfl, rfl⟩
noncomputable def w_X7_bellOf_2 (Fu : Nat) (I : mIT)  (N : Nat) (v1 : Int32) (v2 : Int32) : Option (Int32) :=
  loopF (fun self (s : Int32 × Int32) => b_X7_bellOf_2 Fu I self s.1 s.2) N (v1, v2)
theorem wo_X7_bellOf_2 {X : mXT} {E : mEn} {Fu : Nat} {I : mIT} {R : mRT} {L : mLT}  (hC : mC X E mX7_bellOf RX7 cX7_bellOf) (hW : mWd R)   {out : Int32} (hE : mEd X E 0 0 (mSame (some (.int (out))) 106 1 I R L))  (N : Nat) (v1 : Int32) (v2 : Int32) (h : w_X7_bellOf_2 Fu I  N v1 v2 = some out) : mG X E 2 [(0, .ref (mB E + 62)), (1, .int v1), (2, .int v2)] [] 106 1 I R L 0 0 :=
  loopF_ok (Gd := fun s : Int32 × Int32 => mG X E 2 [(0, .ref (mB E + 62)), (1, .int s.1), (2, .int s.2)] [] 106 1 I R L 0 0) (fun self hs s h => bo_X7_bellOf_2 hC hW hE self (fun v1 v2 h => hs (v1, v2) h) s.1 s.2 h) N (v1, v2) h
noncomputable def f_X7_bellOf (Fu : Nat) (I : mIT) (v1 : Int32) : Option (Int32) :=
  w_X7_bellOf_2 Fu I Fu v1 (0 : Int32)
set_option maxRecDepth 20000 in
theorem ok_X7_bellOf {l : Launch} {E : mEn} {Fu : Nat} {I : mIT} {R : mRT} {L : mLT} {v1 : Int32} (hst : l.stackTraces = false) (hW : mWd R)  {out : Int32} (h : f_X7_bellOf Fu I v1 = some out) : mOk l E mX7_bellOf [.ref (mB E + 62), .int v1] 106 1 I R L 0 0 (mSame (some (.int (out))) 106 1 I R L) := by
  refine mOk_of hst (by decide) (Nat.le_of_ble_eq_true rfl) (fun X hC hE _ => ?_)
  have hC : mC X E mX7_bellOf RX7 cX7_bellOf := hC
  show mG X E 0 [(0, .ref (mB E + 62)), (1, .int v1)] [] 106 1 I R L 0 0
  unfold f_X7_bellOf at h
  refine g_iconst hC dX7_bellOf_0 (v := (0 : Int32)) (by decide) ?_
  refine g_istore_n hC dX7_bellOf_1 rfl rfl (by decide) (lv' := [(2, .int (0 : Int32)), (0, .ref (mB E + 62)), (1, .int v1)]) rfl ?_
  refine g_lv [1, 2, 0] rfl ?_
  exact wo_X7_bellOf_2 hC hW hE Fu (v1) ((0 : Int32)) h
noncomputable def b_X7_lengthRung_5 (Fu : Nat) (I : mIT) (k5_ : Int32 × Int32 → Option (Int32)) (v1 : Int32) (v2 : Int32) : Option (Int32) :=
  if (72 : Int32) ≤ v2 then (some (72 : Int32)) else (oB (f_X7_behindOne Fu I v1 v2) (fun r14 => if r14 = (181896 : Int32) then (some (v2 + (1 : Int32))) else (k5_ (r14, (v2 + (1 : Int32))))))
set_option maxRecDepth 20000 in
theorem bo_X7_lengthRung_5 {X : mXT} {E : mEn} {Fu : Nat} {I : mIT} {R : mRT} {L : mLT}  (hC : mC X E mX7_lengthRung RX7 cX7_lengthRung) (hW : mWd R)   {out : Int32} (hE : mEd X E 0 0 (mSame (some (.int (out))) 106 1 I R L)) (k5_ : Int32 × Int32 → Option (Int32)) (hk5_ : ∀ (v1 : Int32) (v2 : Int32),  k5_ (v1, v2) = some out → mG X E 5 [(0, .ref (mB E + 62)), (1, .int v1), (2, .int v2)] [] 106 1 I R L 0 0) (v1 : Int32) (v2 : Int32) (h : b_X7_lengthRung_5 Fu I k5_ v1 v2 = some out) : mG X E 5 [(0, .ref (mB E + 62)), (1, .int v1), (2, .int v2)] [] 106 1 I R L 0 0 := by
  unfold b_X7_lengthRung_5 at h
  refine g_iload_n hC dX7_lengthRung_5 rfl (q := 2) rfl ?_
  refine g_bipush hC dX7_lengthRung_6 (v := (72 : Int32)) (by decide) ?_
  refine g_ic_ge hC dX7_lengthRung_8 (tgt := 34) (by decide) (fun c8 => ?_) (fun c8 => ?_)
  · replace h := (if_pos c8).symm.trans h
    refine g_bipush hC dX7_lengthRung_34 (v := (72 : Int32)) (by decide) ?_
    cases h
    exact g_iret hC hE rfl dX7_lengthRung_36 (Nat.zero_le _) (Nat.zero_le _) ⟨rfl, rfl, rfl, rfl, rfl, rfl⟩
  · replace h := (if_neg c8).symm.trans h
    refine g_aload_n hC dX7_lengthRung_11 rfl (q := 0) rfl ?_
    refine g_iload_n hC dX7_lengthRung_12 rfl (q := 1) rfl ?_
    refine g_iload_n hC dX7_lengthRung_13 rfl (q := 2) rfl ?_
    obtain ⟨r14, h14, h⟩ := oB_some h
    refine g_cV1 hC cv_X7_behindOne wd_741 ⟨Nat.le_of_ble_eq_true rfl, Nat.le_of_ble_eq_true rfl⟩ rfl (by decide) dX7_lengthRung_14 (As := [.int v1, .int v2]) (st := []) (ok_X7_behindOne hC.2.2.2.2.2.2.2.1 hW h14) rfl rfl (Nat.le_of_ble_eq_true rfl) ⟨Nat.zero_le _, Nat.zero_le _⟩ ?_
    refine g_istore_n hC dX7_lengthRung_17 rfl rfl (by decide) (lv' := [(1, .int r14), (0, .ref (mB E + 62)), (2, .int v2)]) rfl ?_
    refine g_iload_n hC dX7_lengthRung_18 rfl (q := 0) rfl ?_
    refine g_ldc hC dX7_lengthRung_19 wd_740 ?_
    refine g_ic_ne hC dX7_lengthRung_21 (tgt := 28) (by decide) (fun c21 => ?_) (fun c21 => ?_)
    · replace h := (if_neg c21).symm.trans h
      refine g_iinc hC dX7_lengthRung_28 rfl (q := 2) rfl (w := (v2 + (1 : Int32))) rfl (by decide) (lv' := [(2, .int (v2 + (1 : Int32))), (1, .int r14), (0, .ref (mB E + 62))]) rfl ?_
      refine g_goto hC dX7_lengthRung_31 (tgt := 5) (by decide) ?_
      refine g_lv [2, 1, 0] rfl ?_
      exact hk5_ r14 (v2 + (1 : Int32)) h
    · replace h := (if_pos c21).symm.trans h
      refine g_iload_n hC dX7_lengthRung_24 rfl (q := 2) rfl ?_
      refine g_iconst hC dX7_lengthRung_25 (v := (1 : Int32)) (by decide) ?_
      refine g_iadd hC dX7_lengthRung_26 ?_
      cases h
      exact g_iret hC hE rfl dX7_lengthRung_27 (Nat.zero_le _) (Nat.zero_le _) ⟨rfl, rfl, rfl, rfl, rfl, rfl⟩
noncomputable def w_X7_lengthRung_5 (Fu : Nat) (I : mIT)  (N : Nat) (v1 : Int32) (v2 : Int32) : Option (Int32) :=
  loopF (fun self (s : Int32 × Int32) => b_X7_lengthRung_5 Fu I self s.1 s.2) N (v1, v2)
theorem wo_X7_lengthRung_5 {X : mXT} {E : mEn} {Fu : Nat} {I : mIT} {R : mRT} {L : mLT}  (hC : mC X E mX7_lengthRung RX7 cX7_lengthRung) (hW : mWd R)   {out : Int32} (hE : mEd X E 0 0 (mSame (some (.int (out))) 106 1 I R L))  (N : Nat) (v1 : Int32) (v2 : Int32) (h : w_X7_lengthRung_5 Fu I  N v1 v2 = some out) : mG X E 5 [(0, .ref (mB E + 62)), (1, .int v1), (2, .int v2)] [] 106 1 I R L 0 0 :=
  loopF_ok (Gd := fun s : Int32 × Int32 => mG X E 5 [(0, .ref (mB E + 62)), (1, .int s.1), (2, .int s.2)] [] 106 1 I R L 0 0) (fun self hs s h => bo_X7_lengthRung_5 hC hW hE self (fun v1 v2 h => hs (v1, v2) h) s.1 s.2 h) N (v1, v2) h
noncomputable def f_X7_lengthRung (Fu : Nat) (I : mIT)  : Option (Int32) :=
  w_X7_lengthRung_5 Fu I Fu (181896 : Int32) (0 : Int32)
set_option maxRecDepth 20000 in
theorem ok_X7_lengthRung {l : Launch} {E : mEn} {Fu : Nat} {I : mIT} {R : mRT} {L : mLT}  (hst : l.stackTraces = false) (hW : mWd R)  {out : Int32} (h : f_X7_lengthRung Fu I  = some out) : mOk l E mX7_lengthRung [.ref (mB E + 62)] 106 1 I R L 0 0 (mSame (some (.int (out))) 106 1 I R L) := by
  refine mOk_of hst (by decide) (Nat.le_of_ble_eq_true rfl) (fun X hC hE _ => ?_)
  have hC : mC X E mX7_lengthRung RX7 cX7_lengthRung := hC
  show mG X E 0 [(0, .ref (mB E + 62))] [] 106 1 I R L 0 0
  unfold f_X7_lengthRung at h
  refine g_ldc hC dX7_lengthRung_0 wd_740 ?_
  refine g_istore_n hC dX7_lengthRung_2 rfl rfl (by decide) (lv' := [(1, .int (181896 : Int32)), (0, .ref (mB E + 62))]) rfl ?_
  refine g_iconst hC dX7_lengthRung_3 (v := (0 : Int32)) (by decide) ?_
  refine g_istore_n hC dX7_lengthRung_4 rfl rfl (by decide) (lv' := [(2, .int (0 : Int32)), (1, .int (181896 : Int32)), (0, .ref (mB E + 62))]) rfl ?_
  refine g_lv [2, 1, 0] rfl ?_
  exact wo_X7_lengthRung_5 hC hW hE Fu ((181896 : Int32)) ((0 : Int32)) h
noncomputable def b_X7_leadsOf_21 (Fu : Nat) (I : mIT) (k21_ : Int32 × Int32 × Int32 × Int32 × Int32 → Option (Int32)) (v2 : Int32) (v3 : Int32) (v4 : Int32) (v5 : Int32) (v6 : Int32) : Option (Int32) :=
  if v3 ≤ v6 then (some (v5)) else (oB (f_X7_bellAt Fu v4 (0 : Int32)) (fun r32 => if r32 = v2 then (oB (f_X7_behindOne Fu I v4 v6) (fun r52 => k21_ (v2, v3, r52, (v5 + (1 : Int32)), (v6 + (1 : Int32))))) else (oB (f_X7_behindOne Fu I v4 v6) (fun r52 => k21_ (v2, v3, r52, (v5 + (0 : Int32)), (v6 + (1 : Int32)))))))
set_option maxRecDepth 20000 in
theorem bo_X7_leadsOf_21 {X : mXT} {E : mEn} {Fu : Nat} {I : mIT} {R : mRT} {L : mLT}  (hC : mC X E mX7_leadsOf RX7 cX7_leadsOf) (hW : mWd R)   {out : Int32} (hE : mEd X E 0 0 (mSame (some (.int (out))) 106 1 I R L)) (k21_ : Int32 × Int32 × Int32 × Int32 × Int32 → Option (Int32)) (hk21_ : ∀ (v2 : Int32) (v3 : Int32) (v4 : Int32) (v5 : Int32) (v6 : Int32),  k21_ (v2, v3, v4, v5, v6) = some out → mG X E 21 [(0, .ref (mB E + 62)), (2, .int v2), (3, .int v3), (4, .int v4), (5, .int v5), (6, .int v6)] [] 106 1 I R L 0 0) (v2 : Int32) (v3 : Int32) (v4 : Int32) (v5 : Int32) (v6 : Int32) (h : b_X7_leadsOf_21 Fu I k21_ v2 v3 v4 v5 v6 = some out) : mG X E 21 [(0, .ref (mB E + 62)), (2, .int v2), (3, .int v3), (4, .int v4), (5, .int v5), (6, .int v6)] [] 106 1 I R L 0 0 := by
  unfold b_X7_leadsOf_21 at h
  refine g_iload hC dX7_leadsOf_21 (q := 5) rfl ?_
  refine g_iload_n hC dX7_leadsOf_23 rfl (q := 2) rfl ?_
  refine g_ic_ge hC dX7_leadsOf_24 (tgt := 63) (by decide) (fun c24 => ?_) (fun c24 => ?_)
  · replace h := (if_pos c24).symm.trans h
    refine g_iload hC dX7_leadsOf_63 (q := 4) rfl ?_
    cases h
    exact g_iret hC hE rfl dX7_leadsOf_65 (Nat.zero_le _) (Nat.zero_le _) ⟨rfl, rfl, rfl, rfl, rfl, rfl⟩
  · replace h := (if_neg c24).symm.trans h
    refine g_iload hC dX7_leadsOf_27 (q := 4) rfl ?_
    refine g_iload hC dX7_leadsOf_29 (q := 3) rfl ?_
    refine g_iconst hC dX7_leadsOf_31 (v := (0 : Int32)) (by decide) ?_
    obtain ⟨r32, h32, h⟩ := oB_some h
    refine g_cS1 hC cs_X7_bellAt wd_745 ⟨Nat.le_of_ble_eq_true rfl, Nat.le_of_ble_eq_true rfl⟩ dX7_leadsOf_32 (As := [.int v4, .int (0 : Int32)]) (st := [.int v5]) (ok_X7_bellAt hC.2.2.2.2.2.2.2.1  h32) rfl rfl (Nat.le_of_ble_eq_true rfl) ⟨Nat.zero_le _, Nat.zero_le _⟩ ?_
    refine g_iload_n hC dX7_leadsOf_35 rfl (q := 1) rfl ?_
    refine g_ic_ne hC dX7_leadsOf_36 (tgt := 43) (by decide) (fun c36 => ?_) (fun c36 => ?_)
    · replace h := (if_neg c36).symm.trans h
      refine g_iconst hC dX7_leadsOf_43 (v := (0 : Int32)) (by decide) ?_
      refine g_iadd hC dX7_leadsOf_44 ?_
      refine g_istore hC dX7_leadsOf_45 rfl (by decide) (lv' := [(5, .int (v5 + (0 : Int32))), (0, .ref (mB E + 62)), (2, .int v2), (3, .int v3), (4, .int v4), (6, .int v6)]) rfl ?_
      refine g_aload_n hC dX7_leadsOf_47 rfl (q := 1) rfl ?_
      refine g_iload hC dX7_leadsOf_48 (q := 4) rfl ?_
      refine g_iload hC dX7_leadsOf_50 (q := 5) rfl ?_
      obtain ⟨r52, h52, h⟩ := oB_some h
      refine g_cV1 hC cv_X7_behindOne wd_741 ⟨Nat.le_of_ble_eq_true rfl, Nat.le_of_ble_eq_true rfl⟩ rfl (by decide) dX7_leadsOf_52 (As := [.int v4, .int v6]) (st := []) (ok_X7_behindOne hC.2.2.2.2.2.2.2.1 hW h52) rfl rfl (Nat.le_of_ble_eq_true rfl) ⟨Nat.zero_le _, Nat.zero_le _⟩ ?_
      refine g_istore hC dX7_leadsOf_55 rfl (by decide) (lv' := [(4, .int r52), (5, .int (v5 + (0 : Int32))), (0, .ref (mB E + 62)), (2, .int v2), (3, .int v3), (6, .int v6)]) rfl ?_
      refine g_iinc hC dX7_leadsOf_57 rfl (q := 5) rfl (w := (v6 + (1 : Int32))) rfl (by decide) (lv' := [(6, .int (v6 + (1 : Int32))), (4, .int r52), (5, .int (v5 + (0 : Int32))), (0, .ref (mB E + 62)), (2, .int v2), (3, .int v3)]) rfl ?_
      refine g_goto hC dX7_leadsOf_60 (tgt := 21) (by decide) ?_
      refine g_lv [3, 4, 5, 1, 2, 0] rfl ?_
      exact hk21_ v2 v3 r52 (v5 + (0 : Int32)) (v6 + (1 : Int32)) h
    · replace h := (if_pos c36).symm.trans h
      refine g_iconst hC dX7_leadsOf_39 (v := (1 : Int32)) (by decide) ?_
      refine g_goto hC dX7_leadsOf_40 (tgt := 44) (by decide) ?_
      refine g_iadd hC dX7_leadsOf_44 ?_
      refine g_istore hC dX7_leadsOf_45 rfl (by decide) (lv' := [(5, .int (v5 + (1 : Int32))), (0, .ref (mB E + 62)), (2, .int v2), (3, .int v3), (4, .int v4), (6, .int v6)]) rfl ?_
      refine g_aload_n hC dX7_leadsOf_47 rfl (q := 1) rfl ?_
      refine g_iload hC dX7_leadsOf_48 (q := 4) rfl ?_
      refine g_iload hC dX7_leadsOf_50 (q := 5) rfl ?_
      obtain ⟨r52, h52, h⟩ := oB_some h
      refine g_cV1 hC cv_X7_behindOne wd_741 ⟨Nat.le_of_ble_eq_true rfl, Nat.le_of_ble_eq_true rfl⟩ rfl (by decide) dX7_leadsOf_52 (As := [.int v4, .int v6]) (st := []) (ok_X7_behindOne hC.2.2.2.2.2.2.2.1 hW h52) rfl rfl (Nat.le_of_ble_eq_true rfl) ⟨Nat.zero_le _, Nat.zero_le _⟩ ?_
      refine g_istore hC dX7_leadsOf_55 rfl (by decide) (lv' := [(4, .int r52), (5, .int (v5 + (1 : Int32))), (0, .ref (mB E + 62)), (2, .int v2), (3, .int v3), (6, .int v6)]) rfl ?_
      refine g_iinc hC dX7_leadsOf_57 rfl (q := 5) rfl (w := (v6 + (1 : Int32))) rfl (by decide) (lv' := [(6, .int (v6 + (1 : Int32))), (4, .int r52), (5, .int (v5 + (1 : Int32))), (0, .ref (mB E + 62)), (2, .int v2), (3, .int v3)]) rfl ?_
      refine g_goto hC dX7_leadsOf_60 (tgt := 21) (by decide) ?_
      refine g_lv [3, 4, 5, 1, 2, 0] rfl ?_
      exact hk21_ v2 v3 r52 (v5 + (1 : Int32)) (v6 + (1 : Int32)) h
noncomputable def w_X7_leadsOf_21 (Fu : Nat) (I : mIT)  (N : Nat) (v2 : Int32) (v3 : Int32) (v4 : Int32) (v5 : Int32) (v6 : Int32) : Option (Int32) :=
  loopF (fun self (s : Int32 × Int32 × Int32 × Int32 × Int32) => b_X7_leadsOf_21 Fu I self s.1 s.2.1 s.2.2.1 s.2.2.2.1 s.2.2.2.2) N (v2, v3, v4, v5, v6)
theorem wo_X7_leadsOf_21 {X : mXT} {E : mEn} {Fu : Nat} {I : mIT} {R : mRT} {L : mLT}  (hC : mC X E mX7_leadsOf RX7 cX7_leadsOf) (hW : mWd R)   {out : Int32} (hE : mEd X E 0 0 (mSame (some (.int (out))) 106 1 I R L))  (N : Nat) (v2 : Int32) (v3 : Int32) (v4 : Int32) (v5 : Int32) (v6 : Int32) (h : w_X7_leadsOf_21 Fu I  N v2 v3 v4 v5 v6 = some out) : mG X E 21 [(0, .ref (mB E + 62)), (2, .int v2), (3, .int v3), (4, .int v4), (5, .int v5), (6, .int v6)] [] 106 1 I R L 0 0 :=
  loopF_ok (Gd := fun s : Int32 × Int32 × Int32 × Int32 × Int32 => mG X E 21 [(0, .ref (mB E + 62)), (2, .int s.1), (3, .int s.2.1), (4, .int s.2.2.1), (5, .int s.2.2.2.1), (6, .int s.2.2.2.2)] [] 106 1 I R L 0 0) (fun self hs s h => bo_X7_leadsOf_21 hC hW hE self (fun v2 v3 v4 v5 v6 h => hs (v2, v3, v4, v5, v6) h) s.1 s.2.1 s.2.2.1 s.2.2.2.1 s.2.2.2.2 h) N (v2, v3, v4, v5, v6) h
noncomputable def f_X7_leadsOf (Fu : Nat) (I : mIT) (v1 : Int32) : Option (Int32) :=
  oB (f_X7_bellOf Fu I v1) (fun r2 => oB (f_X7_lengthRung Fu I) (fun r7 => w_X7_leadsOf_21 Fu I Fu r2 r7 (181896 : Int32) (0 : Int32) (0 : Int32)))
set_option maxRecDepth 20000 in
theorem ok_X7_leadsOf {l : Launch} {E : mEn} {Fu : Nat} {I : mIT} {R : mRT} {L : mLT} {v1 : Int32} (hst : l.stackTraces = false) (hW : mWd R)  {out : Int32} (h : f_X7_leadsOf Fu I v1 = some out) : mOk l E mX7_leadsOf [.ref (mB E + 62), .int v1] 106 1 I R L 0 0 (mSame (some (.int (out))) 106 1 I R L) := by
  refine mOk_of hst (by decide) (Nat.le_of_ble_eq_true rfl) (fun X hC hE _ => ?_)
  have hC : mC X E mX7_leadsOf RX7 cX7_leadsOf := hC
  show mG X E 0 [(0, .ref (mB E + 62)), (1, .int v1)] [] 106 1 I R L 0 0
  unfold f_X7_leadsOf at h
  refine g_aload_n hC dX7_leadsOf_0 rfl (q := 0) rfl ?_
  refine g_iload_n hC dX7_leadsOf_1 rfl (q := 1) rfl ?_
  obtain ⟨r2, h2, h⟩ := oB_some h
  refine g_cV1 hC cv_X7_bellOf wd_1594 ⟨Nat.le_of_ble_eq_true rfl, Nat.le_of_ble_eq_true rfl⟩ rfl (by decide) dX7_leadsOf_2 (As := [.int v1]) (st := []) (ok_X7_bellOf hC.2.2.2.2.2.2.2.1 hW h2) rfl rfl (Nat.le_of_ble_eq_true rfl) ⟨Nat.zero_le _, Nat.zero_le _⟩ ?_
  refine g_istore_n hC dX7_leadsOf_5 rfl rfl (by decide) (lv' := [(2, .int r2), (0, .ref (mB E + 62)), (1, .int v1)]) rfl ?_
  refine g_aload_n hC dX7_leadsOf_6 rfl (q := 1) rfl ?_
  obtain ⟨r7, h7, h⟩ := oB_some h
  refine g_cV1 hC cv_X7_lengthRung wd_1598 ⟨Nat.le_of_ble_eq_true rfl, Nat.le_of_ble_eq_true rfl⟩ rfl (by decide) dX7_leadsOf_7 (As := []) (st := []) (ok_X7_lengthRung hC.2.2.2.2.2.2.2.1 hW h7) rfl rfl (Nat.le_of_ble_eq_true rfl) ⟨Nat.zero_le _, Nat.zero_le _⟩ ?_
  refine g_istore_n hC dX7_leadsOf_10 rfl rfl (by decide) (lv' := [(3, .int r7), (2, .int r2), (0, .ref (mB E + 62)), (1, .int v1)]) rfl ?_
  refine g_ldc hC dX7_leadsOf_11 wd_740 ?_
  refine g_istore hC dX7_leadsOf_13 rfl (by decide) (lv' := [(4, .int (181896 : Int32)), (3, .int r7), (2, .int r2), (0, .ref (mB E + 62)), (1, .int v1)]) rfl ?_
  refine g_iconst hC dX7_leadsOf_15 (v := (0 : Int32)) (by decide) ?_
  refine g_istore hC dX7_leadsOf_16 rfl (by decide) (lv' := [(5, .int (0 : Int32)), (4, .int (181896 : Int32)), (3, .int r7), (2, .int r2), (0, .ref (mB E + 62)), (1, .int v1)]) rfl ?_
  refine g_iconst hC dX7_leadsOf_18 (v := (0 : Int32)) (by decide) ?_
  refine g_istore hC dX7_leadsOf_19 rfl (by decide) (lv' := [(6, .int (0 : Int32)), (5, .int (0 : Int32)), (4, .int (181896 : Int32)), (3, .int r7), (2, .int r2), (0, .ref (mB E + 62)), (1, .int v1)]) rfl ?_
  refine g_lv [5, 4, 3, 2, 1, 0] rfl ?_
  exact wo_X7_leadsOf_21 hC hW hE Fu (r2) (r7) ((181896 : Int32)) ((0 : Int32)) ((0 : Int32)) h
noncomputable def b_X7_longerBy_37 (Fu : Nat) (k9_ : Int32 × Int32 × Int32 × mIT → Option (Int32 × mIT)) (k37_ : Int32 × Int32 × Int32 × Int32 × Int32 × mIT → Option (Int32 × mIT)) (v1 : Int32) (v2 : Int32) (v3 : Int32) (v4 : Int32) (v5 : Int32) (I : mIT) : Option (Int32 × mIT) :=
  if (32 : Int32) ≤ v5 then (oG (inB v3 12) (k9_ (v1, v2, (v3 + (1 : Int32)), (mU I 64 (v3).toNatClampNeg v4)))) else (if v5 = v4 then (k37_ (v1, v2, v3, v4, (v5 + (1 : Int32)), I)) else (oB (f_X11_isChangeNumber Fu v5) (fun r53 => if r53 = 0 then (k37_ (v1, v2, v3, v4, (v5 + (1 : Int32)), I)) else (oG (inB v3 12) (oB (f_X7_trueLength Fu (mU I 64 (v3).toNatClampNeg v5)) (fun r68 => if r68.1 ≤ v1 then (k37_ (v1, v2, v3, v4, (v5 + (1 : Int32)), r68.2)) else (k37_ (r68.1, (((100 : Int32) * v3) + v5), v3, v4, (v5 + (1 : Int32)), r68.2))))))))
set_option maxRecDepth 20000 in
theorem bo_X7_longerBy_37 {X : mXT} {E : mEn} {Fu : Nat} {R : mRT} {L : mLT}  (hC : mC X E mX7_longerBy RX7 cX7_longerBy) (hW : mWd R)   {out : Int32 × mIT} (hE : mEd X E 0 0 (mSame (some (.int (out.1))) 106 1 (out.2) R L)) (k9_ : Int32 × Int32 × Int32 × mIT → Option (Int32 × mIT)) (hk9_ : ∀ (v1 : Int32) (v2 : Int32) (v3 : Int32) (I : mIT),  k9_ (v1, v2, v3, I) = some out → mG X E 9 [(0, .ref (mB E + 62)), (1, .int v1), (2, .int v2), (3, .int v3)] [] 106 1 I R L 0 0) (k37_ : Int32 × Int32 × Int32 × Int32 × Int32 × mIT → Option (Int32 × mIT)) (hk37_ : ∀ (v1 : Int32) (v2 : Int32) (v3 : Int32) (v4 : Int32) (v5 : Int32) (I : mIT),  k37_ (v1, v2, v3, v4, v5, I) = some out → mG X E 37 [(0, .ref (mB E + 62)), (1, .int v1), (2, .int v2), (3, .int v3), (4, .int v4), (5, .int v5)] [] 106 1 I R L 0 0) (v1 : Int32) (v2 : Int32) (v3 : Int32) (v4 : Int32) (v5 : Int32) (I : mIT) (h : b_X7_longerBy_37 Fu k9_ k37_ v1 v2 v3 v4 v5 I = some out) : mG X E 37 [(0, .ref (mB E + 62)), (1, .int v1), (2, .int v2), (3, .int v3), (4, .int v4), (5, .int v5)] [] 106 1 I R L 0 0 := by
  unfold b_X7_longerBy_37 at h
  refine g_iload hC dX7_longerBy_37 (q := 5) rfl ?_
  refine g_bipush hC dX7_longerBy_39 (v := (32 : Int32)) (by decide) ?_
  refine g_ic_ge hC dX7_longerBy_41 (tgt := 96) (by decide) (fun c41 => ?_) (fun c41 => ?_)
  · replace h := (if_pos c41).symm.trans h
    refine g_aload_n hC dX7_longerBy_96 rfl (q := 0) rfl ?_
    refine g_getr hC fd_RX7_15 rfl (by decide) (C0 := "") (t0 := _) (Or.inr rfl) (rr_62_1 hW.1) dX7_longerBy_97 ?_
    refine g_iload_n hC dX7_longerBy_100 rfl (q := 3) rfl ?_
    refine g_iload hC dX7_longerBy_101 (q := 4) rfl ?_
    obtain ⟨g103, h⟩ := oG_some h
    refine g_iast hC rfl (by decide) (inB_in g103) dX7_longerBy_103 (nm_e ?_)
    refine g_iinc hC dX7_longerBy_104 rfl (q := 3) rfl (w := (v3 + (1 : Int32))) rfl (by decide) (lv' := [(3, .int (v3 + (1 : Int32))), (0, .ref (mB E + 62)), (1, .int v1), (2, .int v2), (4, .int v4), (5, .int v5)]) rfl ?_
    refine g_goto hC dX7_longerBy_107 (tgt := 9) (by decide) ?_
    refine g_lv [1, 2, 3, 0] rfl ?_
    exact hk9_ v1 v2 (v3 + (1 : Int32)) (mU I 64 (v3).toNatClampNeg v4) h
  · replace h := (if_neg c41).symm.trans h
    refine g_iload hC dX7_longerBy_44 (q := 5) rfl ?_
    refine g_iload hC dX7_longerBy_46 (q := 4) rfl ?_
    refine g_ic_eq hC dX7_longerBy_48 (tgt := 90) (by decide) (fun c48 => ?_) (fun c48 => ?_)
    · replace h := (if_pos c48).symm.trans h
      refine g_iinc hC dX7_longerBy_90 rfl (q := 5) rfl (w := (v5 + (1 : Int32))) rfl (by decide) (lv' := [(5, .int (v5 + (1 : Int32))), (0, .ref (mB E + 62)), (1, .int v1), (2, .int v2), (3, .int v3), (4, .int v4)]) rfl ?_
      refine g_goto hC dX7_longerBy_93 (tgt := 37) (by decide) ?_
      refine g_lv [1, 2, 3, 4, 5, 0] rfl ?_
      exact hk37_ v1 v2 v3 v4 (v5 + (1 : Int32)) I h
    · replace h := (if_neg c48).symm.trans h
      refine g_iload hC dX7_longerBy_51 (q := 5) rfl ?_
      obtain ⟨r53, h53, h⟩ := oB_some h
      refine g_cN1 hC cs_X11_isChangeNumber (host := RX11) nl_RX7_63 ⟨Nat.le_of_ble_eq_true rfl, Nat.le_of_ble_eq_true rfl⟩ dX7_longerBy_53 (As := [.int v5]) (st := []) (ok_X11_isChangeNumber hC.2.2.2.2.2.2.2.1  h53) rfl rfl (Nat.le_of_ble_eq_true rfl) ⟨Nat.zero_le _, Nat.zero_le _⟩ ?_
      refine g_if_eq hC dX7_longerBy_56 (tgt := 90) (by decide) (fun c56 => ?_) (fun c56 => ?_)
      · replace h := (if_pos c56).symm.trans h
        refine g_iinc hC dX7_longerBy_90 rfl (q := 5) rfl (w := (v5 + (1 : Int32))) rfl (by decide) (lv' := [(5, .int (v5 + (1 : Int32))), (0, .ref (mB E + 62)), (1, .int v1), (2, .int v2), (3, .int v3), (4, .int v4)]) rfl ?_
        refine g_goto hC dX7_longerBy_93 (tgt := 37) (by decide) ?_
        refine g_lv [1, 2, 3, 4, 5, 0] rfl ?_
        exact hk37_ v1 v2 v3 v4 (v5 + (1 : Int32)) I h
      · replace h := (if_neg c56).symm.trans h
        refine g_aload_n hC dX7_longerBy_59 rfl (q := 0) rfl ?_
        refine g_getr hC fd_RX7_15 rfl (by decide) (C0 := "") (t0 := _) (Or.inr rfl) (rr_62_1 hW.1) dX7_longerBy_60 ?_
        refine g_iload_n hC dX7_longerBy_63 rfl (q := 3) rfl ?_
        refine g_iload hC dX7_longerBy_64 (q := 5) rfl ?_
        obtain ⟨g66, h⟩ := oG_some h
        refine g_iast hC rfl (by decide) (inB_in g66) dX7_longerBy_66 (nm_e ?_)
        refine g_aload_n hC dX7_longerBy_67 rfl (q := 0) rfl ?_
        obtain ⟨r68, h68, h⟩ := oB_some h
        refine g_cV1 hC cv_X7_trueLength wd_768 ⟨Nat.le_of_ble_eq_true rfl, Nat.le_of_ble_eq_true rfl⟩ rfl (by decide) dX7_longerBy_68 (As := []) (st := []) (ok_X7_trueLength hC.2.2.2.2.2.2.2.1 hW h68) rfl rfl (Nat.le_of_ble_eq_true rfl) ⟨Nat.zero_le _, Nat.zero_le _⟩ ?_
        refine g_istore hC dX7_longerBy_71 rfl (by decide) (lv' := [(6, .int r68.1), (0, .ref (mB E + 62)), (1, .int v1), (2, .int v2), (3, .int v3), (4, .int v4), (5, .int v5)]) rfl ?_
        refine g_iload hC dX7_longerBy_73 (q := 0) rfl ?_
        refine g_iload_n hC dX7_longerBy_75 rfl (q := 2) rfl ?_
        refine g_ic_le hC dX7_longerBy_76 (tgt := 90) (by decide) (fun c76 => ?_) (fun c76 => ?_)
        · replace h := (if_pos c76).symm.trans h
          refine g_iinc hC dX7_longerBy_90 rfl (q := 6) rfl (w := (v5 + (1 : Int32))) rfl (by decide) (lv' := [(5, .int (v5 + (1 : Int32))), (6, .int r68.1), (0, .ref (mB E + 62)), (1, .int v1), (2, .int v2), (3, .int v3), (4, .int v4)]) rfl ?_
          refine g_goto hC dX7_longerBy_93 (tgt := 37) (by decide) ?_
          refine g_lv [2, 3, 4, 5, 6, 0] rfl ?_
          exact hk37_ v1 v2 v3 v4 (v5 + (1 : Int32)) r68.2 h
        · replace h := (if_neg c76).symm.trans h
          refine g_iload hC dX7_longerBy_79 (q := 0) rfl ?_
          refine g_istore_n hC dX7_longerBy_81 rfl rfl (by decide) (lv' := [(1, .int r68.1), (6, .int r68.1), (0, .ref (mB E + 62)), (2, .int v2), (3, .int v3), (4, .int v4), (5, .int v5)]) rfl ?_
          refine g_bipush hC dX7_longerBy_82 (v := (100 : Int32)) (by decide) ?_
          refine g_iload_n hC dX7_longerBy_84 rfl (q := 4) rfl ?_
          refine g_imul hC dX7_longerBy_85 ?_
          refine g_iload hC dX7_longerBy_86 (q := 6) rfl ?_
          refine g_iadd hC dX7_longerBy_88 ?_
          refine g_istore_n hC dX7_longerBy_89 rfl rfl (by decide) (lv' := [(2, .int (((100 : Int32) * v3) + v5)), (1, .int r68.1), (6, .int r68.1), (0, .ref (mB E + 62)), (3, .int v3), (4, .int v4), (5, .int v5)]) rfl ?_
          refine g_iinc hC dX7_longerBy_90 rfl (q := 6) rfl (w := (v5 + (1 : Int32))) rfl (by decide) (lv' := [(5, .int (v5 + (1 : Int32))), (2, .int (((100 : Int32) * v3) + v5)), (1, .int r68.1), (6, .int r68.1), (0, .ref (mB E + 62)), (3, .int v3), (4, .int v4)]) rfl ?_
          refine g_goto hC dX7_longerBy_93 (tgt := 37) (by decide) ?_
          refine g_lv [4, 2, 1, 5, 6, 0] rfl ?_
          exact hk37_ r68.1 (((100 : Int32) * v3) + v5) v3 v4 (v5 + (1 : Int32)) r68.2 h
noncomputable def w_X7_longerBy_37 (Fu : Nat) (k9_ : Int32 × Int32 × Int32 × mIT → Option (Int32 × mIT)) (N : Nat) (v1 : Int32) (v2 : Int32) (v3 : Int32) (v4 : Int32) (v5 : Int32) (I : mIT) : Option (Int32 × mIT) :=
  loopF (fun self (s : Int32 × Int32 × Int32 × Int32 × Int32 × mIT) => b_X7_longerBy_37 Fu k9_ self s.1 s.2.1 s.2.2.1 s.2.2.2.1 s.2.2.2.2.1 s.2.2.2.2.2) N (v1, v2, v3, v4, v5, I)
theorem wo_X7_longerBy_37 {X : mXT} {E : mEn} {Fu : Nat} {R : mRT} {L : mLT}  (hC : mC X E mX7_longerBy RX7 cX7_longerBy) (hW : mWd R)   {out : Int32 × mIT} (hE : mEd X E 0 0 (mSame (some (.int (out.1))) 106 1 (out.2) R L)) (k9_ : Int32 × Int32 × Int32 × mIT → Option (Int32 × mIT)) (hk9_ : ∀ (v1 : Int32) (v2 : Int32) (v3 : Int32) (I : mIT),  k9_ (v1, v2, v3, I) = some out → mG X E 9 [(0, .ref (mB E + 62)), (1, .int v1), (2, .int v2), (3, .int v3)] [] 106 1 I R L 0 0) (N : Nat) (v1 : Int32) (v2 : Int32) (v3 : Int32) (v4 : Int32) (v5 : Int32) (I : mIT) (h : w_X7_longerBy_37 Fu k9_ N v1 v2 v3 v4 v5 I = some out) : mG X E 37 [(0, .ref (mB E + 62)), (1, .int v1), (2, .int v2), (3, .int v3), (4, .int v4), (5, .int v5)] [] 106 1 I R L 0 0 :=
  loopF_ok (Gd := fun s : Int32 × Int32 × Int32 × Int32 × Int32 × mIT => mG X E 37 [(0, .ref (mB E + 62)), (1, .int s.1), (2, .int s.2.1), (3, .int s.2.2.1), (4, .int s.2.2.2.1), (5, .int s.2.2.2.2.1)] [] 106 1 s.2.2.2.2.2 R L 0 0) (fun self hs s h => bo_X7_longerBy_37 hC hW hE k9_ hk9_ self (fun v1 v2 v3 v4 v5 I h => hs (v1, v2, v3, v4, v5, I) h) s.1 s.2.1 s.2.2.1 s.2.2.2.1 s.2.2.2.2.1 s.2.2.2.2.2 h) N (v1, v2, v3, v4, v5, I) h
noncomputable def b_X7_longerBy_9 (Fu : Nat) (k9_ : Int32 × Int32 × Int32 × mIT → Option (Int32 × mIT)) (v1 : Int32) (v2 : Int32) (v3 : Int32) (I : mIT) : Option (Int32 × mIT) :=
  if (I 62 4) ≤ v3 then (some (v2, I)) else (if (nI 12) ≤ v3 then (some (v2, I)) else (oG (inB v3 12) (w_X7_longerBy_37 Fu k9_ Fu v1 v2 v3 (I 64 (v3).toNatClampNeg) (0 : Int32) I)))
set_option maxRecDepth 20000 in
theorem bo_X7_longerBy_9 {X : mXT} {E : mEn} {Fu : Nat} {R : mRT} {L : mLT}  (hC : mC X E mX7_longerBy RX7 cX7_longerBy) (hW : mWd R)   {out : Int32 × mIT} (hE : mEd X E 0 0 (mSame (some (.int (out.1))) 106 1 (out.2) R L)) (k9_ : Int32 × Int32 × Int32 × mIT → Option (Int32 × mIT)) (hk9_ : ∀ (v1 : Int32) (v2 : Int32) (v3 : Int32) (I : mIT),  k9_ (v1, v2, v3, I) = some out → mG X E 9 [(0, .ref (mB E + 62)), (1, .int v1), (2, .int v2), (3, .int v3)] [] 106 1 I R L 0 0) (v1 : Int32) (v2 : Int32) (v3 : Int32) (I : mIT) (h : b_X7_longerBy_9 Fu k9_ v1 v2 v3 I = some out) : mG X E 9 [(0, .ref (mB E + 62)), (1, .int v1), (2, .int v2), (3, .int v3)] [] 106 1 I R L 0 0 := by
  unfold b_X7_longerBy_9 at h
  refine g_iload_n hC dX7_longerBy_9 rfl (q := 3) rfl ?_
  refine g_aload_n hC dX7_longerBy_10 rfl (q := 0) rfl ?_
  refine g_geti hC fd_RX7_25 rfl (by decide) (Or.inl rfl) dX7_longerBy_11 ?_
  refine g_ic_ge hC dX7_longerBy_14 (tgt := 110) (by decide) (fun c14 => ?_) (fun c14 => ?_)
  · replace h := (if_pos c14).symm.trans h
    refine g_iload_n hC dX7_longerBy_110 rfl (q := 2) rfl ?_
    cases h
    exact g_iret hC hE rfl dX7_longerBy_111 (Nat.zero_le _) (Nat.zero_le _) ⟨rfl, rfl, rfl, rfl, rfl, rfl⟩
  · replace h := (if_neg c14).symm.trans h
    refine g_iload_n hC dX7_longerBy_17 rfl (q := 3) rfl ?_
    refine g_aload_n hC dX7_longerBy_18 rfl (q := 0) rfl ?_
    refine g_getr hC fd_RX7_15 rfl (by decide) (C0 := "") (t0 := _) (Or.inr rfl) (rr_62_1 hW.1) dX7_longerBy_19 ?_
    refine g_alenI hC rfl (by decide) dX7_longerBy_22 ?_
    refine g_ic_ge hC dX7_longerBy_23 (tgt := 110) (by decide) (fun c23 => ?_) (fun c23 => ?_)
    · replace h := (if_pos c23).symm.trans h
      refine g_iload_n hC dX7_longerBy_110 rfl (q := 2) rfl ?_
      cases h
      exact g_iret hC hE rfl dX7_longerBy_111 (Nat.zero_le _) (Nat.zero_le _) ⟨rfl, rfl, rfl, rfl, rfl, rfl⟩
    · replace h := (if_neg c23).symm.trans h
      refine g_aload_n hC dX7_longerBy_26 rfl (q := 0) rfl ?_
      refine g_getr hC fd_RX7_15 rfl (by decide) (C0 := "") (t0 := _) (Or.inr rfl) (rr_62_1 hW.1) dX7_longerBy_27 ?_
      refine g_iload_n hC dX7_longerBy_30 rfl (q := 3) rfl ?_
      obtain ⟨g31, h⟩ := oG_some h
      refine g_iald hC rfl (by decide) (inB_in g31) dX7_longerBy_31 ?_
      refine g_istore hC dX7_longerBy_32 rfl (by decide) (lv' := [(4, .int (I 64 (v3).toNatClampNeg)), (0, .ref (mB E + 62)), (1, .int v1), (2, .int v2), (3, .int v3)]) rfl ?_
      refine g_iconst hC dX7_longerBy_34 (v := (0 : Int32)) (by decide) ?_
      refine g_istore hC dX7_longerBy_35 rfl (by decide) (lv' := [(5, .int (0 : Int32)), (4, .int (I 64 (v3).toNatClampNeg)), (0, .ref (mB E + 62)), (1, .int v1), (2, .int v2), (3, .int v3)]) rfl ?_
      refine g_lv [2, 3, 4, 5, 1, 0] rfl ?_
      exact wo_X7_longerBy_37 hC hW hE k9_ hk9_ Fu (v1) (v2) (v3) ((I 64 (v3).toNatClampNeg)) ((0 : Int32)) (I) h
noncomputable def w_X7_longerBy_9 (Fu : Nat)  (N : Nat) (v1 : Int32) (v2 : Int32) (v3 : Int32) (I : mIT) : Option (Int32 × mIT) :=
  loopF (fun self (s : Int32 × Int32 × Int32 × mIT) => b_X7_longerBy_9 Fu self s.1 s.2.1 s.2.2.1 s.2.2.2) N (v1, v2, v3, I)
theorem wo_X7_longerBy_9 {X : mXT} {E : mEn} {Fu : Nat} {R : mRT} {L : mLT}  (hC : mC X E mX7_longerBy RX7 cX7_longerBy) (hW : mWd R)   {out : Int32 × mIT} (hE : mEd X E 0 0 (mSame (some (.int (out.1))) 106 1 (out.2) R L))  (N : Nat) (v1 : Int32) (v2 : Int32) (v3 : Int32) (I : mIT) (h : w_X7_longerBy_9 Fu  N v1 v2 v3 I = some out) : mG X E 9 [(0, .ref (mB E + 62)), (1, .int v1), (2, .int v2), (3, .int v3)] [] 106 1 I R L 0 0 :=
  loopF_ok (Gd := fun s : Int32 × Int32 × Int32 × mIT => mG X E 9 [(0, .ref (mB E + 62)), (1, .int s.1), (2, .int s.2.1), (3, .int s.2.2.1)] [] 106 1 s.2.2.2 R L 0 0) (fun self hs s h => bo_X7_longerBy_9 hC hW hE self (fun v1 v2 v3 I h => hs (v1, v2, v3, I) h) s.1 s.2.1 s.2.2.1 s.2.2.2 h) N (v1, v2, v3, I) h
noncomputable def f_X7_longerBy (Fu : Nat) (I : mIT)  : Option (Int32 × mIT) :=
  oB (f_X7_trueLength Fu I) (fun r1 => w_X7_longerBy_9 Fu Fu r1.1 (-1 : Int32) (0 : Int32) r1.2)
set_option maxRecDepth 20000 in
theorem ok_X7_longerBy {l : Launch} {E : mEn} {Fu : Nat} {I : mIT} {R : mRT} {L : mLT}  (hst : l.stackTraces = false) (hW : mWd R)  {out : Int32 × mIT} (h : f_X7_longerBy Fu I  = some out) : mOk l E mX7_longerBy [.ref (mB E + 62)] 106 1 I R L 0 0 (mSame (some (.int (out.1))) 106 1 (out.2) R L) := by
  refine mOk_of hst (by decide) (Nat.le_of_ble_eq_true rfl) (fun X hC hE _ => ?_)
  have hC : mC X E mX7_longerBy RX7 cX7_longerBy := hC
  show mG X E 0 [(0, .ref (mB E + 62))] [] 106 1 I R L 0 0
  unfold f_X7_longerBy at h
  refine g_aload_n hC dX7_longerBy_0 rfl (q := 0) rfl ?_
  obtain ⟨r1, h1, h⟩ := oB_some h
  refine g_cV1 hC cv_X7_trueLength wd_768 ⟨Nat.le_of_ble_eq_true rfl, Nat.le_of_ble_eq_true rfl⟩ rfl (by decide) dX7_longerBy_1 (As := []) (st := []) (ok_X7_trueLength hC.2.2.2.2.2.2.2.1 hW h1) rfl rfl (Nat.le_of_ble_eq_true rfl) ⟨Nat.zero_le _, Nat.zero_le _⟩ ?_
  refine g_istore_n hC dX7_longerBy_4 rfl rfl (by decide) (lv' := [(1, .int r1.1), (0, .ref (mB E + 62))]) rfl ?_
  refine g_iconst hC dX7_longerBy_5 (v := (-1 : Int32)) (by decide) ?_
  refine g_istore_n hC dX7_longerBy_6 rfl rfl (by decide) (lv' := [(2, .int (-1 : Int32)), (1, .int r1.1), (0, .ref (mB E + 62))]) rfl ?_
  refine g_iconst hC dX7_longerBy_7 (v := (0 : Int32)) (by decide) ?_
  refine g_istore_n hC dX7_longerBy_8 rfl rfl (by decide) (lv' := [(3, .int (0 : Int32)), (2, .int (-1 : Int32)), (1, .int r1.1), (0, .ref (mB E + 62))]) rfl ?_
  refine g_lv [3, 2, 1, 0] rfl ?_
  exact wo_X7_longerBy_9 hC hW hE Fu (r1.1) ((-1 : Int32)) ((0 : Int32)) (r1.2) h
noncomputable def b_X7_placeIn_2 (Fu : Nat) (I : mIT) (k2_ : Int32 × Int32 × Int32 → Option (Int32)) (v1 : Int32) (v2 : Int32) (v3 : Int32) : Option (Int32) :=
  if (I 62 3) ≤ v3 then (some (-1 : Int32)) else (oB (f_X7_bellAt Fu v1 v3) (fun r12 => if r12 = v2 then (some (v3)) else (k2_ (v1, v2, (v3 + (1 : Int32))))))
set_option maxRecDepth 20000 in
theorem bo_X7_placeIn_2 {X : mXT} {E : mEn} {Fu : Nat} {I : mIT} {R : mRT} {L : mLT}  (hC : mC X E mX7_placeIn RX7 cX7_placeIn) (hW : mWd R)   {out : Int32} (hE : mEd X E 0 0 (mSame (some (.int (out))) 106 1 I R L)) (k2_ : Int32 × Int32 × Int32 → Option (Int32)) (hk2_ : ∀ (v1 : Int32) (v2 : Int32) (v3 : Int32),  k2_ (v1, v2, v3) = some out → mG X E 2 [(0, .ref (mB E + 62)), (1, .int v1), (2, .int v2), (3, .int v3)] [] 106 1 I R L 0 0) (v1 : Int32) (v2 : Int32) (v3 : Int32) (h : b_X7_placeIn_2 Fu I k2_ v1 v2 v3 = some out) : mG X E 2 [(0, .ref (mB E + 62)), (1, .int v1), (2, .int v2), (3, .int v3)] [] 106 1 I R L 0 0 := by
  unfold b_X7_placeIn_2 at h
  refine g_iload_n hC dX7_placeIn_2 rfl (q := 3) rfl ?_
  refine g_aload_n hC dX7_placeIn_3 rfl (q := 0) rfl ?_
  refine g_geti hC fd_RX7_21 rfl (by decide) (Or.inl rfl) dX7_placeIn_4 ?_
  refine g_ic_ge hC dX7_placeIn_7 (tgt := 27) (by decide) (fun c7 => ?_) (fun c7 => ?_)
  · replace h := (if_pos c7).symm.trans h
    refine g_iconst hC dX7_placeIn_27 (v := (-1 : Int32)) (by decide) ?_
    cases h
    exact g_iret hC hE rfl dX7_placeIn_28 (Nat.zero_le _) (Nat.zero_le _) ⟨rfl, rfl, rfl, rfl, rfl, rfl⟩
  · replace h := (if_neg c7).symm.trans h
    refine g_iload_n hC dX7_placeIn_10 rfl (q := 1) rfl ?_
    refine g_iload_n hC dX7_placeIn_11 rfl (q := 3) rfl ?_
    obtain ⟨r12, h12, h⟩ := oB_some h
    refine g_cS1 hC cs_X7_bellAt wd_745 ⟨Nat.le_of_ble_eq_true rfl, Nat.le_of_ble_eq_true rfl⟩ dX7_placeIn_12 (As := [.int v1, .int v3]) (st := []) (ok_X7_bellAt hC.2.2.2.2.2.2.2.1  h12) rfl rfl (Nat.le_of_ble_eq_true rfl) ⟨Nat.zero_le _, Nat.zero_le _⟩ ?_
    refine g_iload_n hC dX7_placeIn_15 rfl (q := 2) rfl ?_
    refine g_ic_ne hC dX7_placeIn_16 (tgt := 21) (by decide) (fun c16 => ?_) (fun c16 => ?_)
    · replace h := (if_neg c16).symm.trans h
      refine g_iinc hC dX7_placeIn_21 rfl (q := 3) rfl (w := (v3 + (1 : Int32))) rfl (by decide) (lv' := [(3, .int (v3 + (1 : Int32))), (0, .ref (mB E + 62)), (1, .int v1), (2, .int v2)]) rfl ?_
      refine g_goto hC dX7_placeIn_24 (tgt := 2) (by decide) ?_
      refine g_lv [1, 2, 3, 0] rfl ?_
      exact hk2_ v1 v2 (v3 + (1 : Int32)) h
    · replace h := (if_pos c16).symm.trans h
      refine g_iload_n hC dX7_placeIn_19 rfl (q := 3) rfl ?_
      cases h
      exact g_iret hC hE rfl dX7_placeIn_20 (Nat.zero_le _) (Nat.zero_le _) ⟨rfl, rfl, rfl, rfl, rfl, rfl⟩
noncomputable def w_X7_placeIn_2 (Fu : Nat) (I : mIT)  (N : Nat) (v1 : Int32) (v2 : Int32) (v3 : Int32) : Option (Int32) :=
  loopF (fun self (s : Int32 × Int32 × Int32) => b_X7_placeIn_2 Fu I self s.1 s.2.1 s.2.2) N (v1, v2, v3)
theorem wo_X7_placeIn_2 {X : mXT} {E : mEn} {Fu : Nat} {I : mIT} {R : mRT} {L : mLT}  (hC : mC X E mX7_placeIn RX7 cX7_placeIn) (hW : mWd R)   {out : Int32} (hE : mEd X E 0 0 (mSame (some (.int (out))) 106 1 I R L))  (N : Nat) (v1 : Int32) (v2 : Int32) (v3 : Int32) (h : w_X7_placeIn_2 Fu I  N v1 v2 v3 = some out) : mG X E 2 [(0, .ref (mB E + 62)), (1, .int v1), (2, .int v2), (3, .int v3)] [] 106 1 I R L 0 0 :=
  loopF_ok (Gd := fun s : Int32 × Int32 × Int32 => mG X E 2 [(0, .ref (mB E + 62)), (1, .int s.1), (2, .int s.2.1), (3, .int s.2.2)] [] 106 1 I R L 0 0) (fun self hs s h => bo_X7_placeIn_2 hC hW hE self (fun v1 v2 v3 h => hs (v1, v2, v3) h) s.1 s.2.1 s.2.2 h) N (v1, v2, v3) h
noncomputable def f_X7_placeIn (Fu : Nat) (I : mIT) (v1 : Int32) (v2 : Int32) : Option (Int32) :=
  w_X7_placeIn_2 Fu I Fu v1 v2 (0 : Int32)
set_option maxRecDepth 20000 in
theorem ok_X7_placeIn {l : Launch} {E : mEn} {Fu : Nat} {I : mIT} {R : mRT} {L : mLT} {v1 : Int32} {v2 : Int32} (hst : l.stackTraces = false) (hW : mWd R)  {out : Int32} (h : f_X7_placeIn Fu I v1 v2 = some out) : mOk l E mX7_placeIn [.ref (mB E + 62), .int v1, .int v2] 106 1 I R L 0 0 (mSame (some (.int (out))) 106 1 I R L) := by
  refine mOk_of hst (by decide) (Nat.le_of_ble_eq_true rfl) (fun X hC hE _ => ?_)
  have hC : mC X E mX7_placeIn RX7 cX7_placeIn := hC
  show mG X E 0 [(0, .ref (mB E + 62)), (1, .int v1), (2, .int v2)] [] 106 1 I R L 0 0
  unfold f_X7_placeIn at h
  refine g_iconst hC dX7_placeIn_0 (v := (0 : Int32)) (by decide) ?_
  refine g_istore_n hC dX7_placeIn_1 rfl rfl (by decide) (lv' := [(3, .int (0 : Int32)), (0, .ref (mB E + 62)), (1, .int v1), (2, .int v2)]) rfl ?_
  refine g_lv [1, 2, 3, 0] rfl ?_
  exact wo_X7_placeIn_2 hC hW hE Fu (v1) (v2) ((0 : Int32)) h
noncomputable def b_X7_meetingsOf_42 (Fu : Nat) (I : mIT) (k42_ : Int32 × Int32 × Int32 × Int32 × Int32 × Int32 → Option (Int32)) (v3 : Int32) (v4 : Int32) (v5 : Int32) (v6 : Int32) (v7 : Int32) (v8 : Int32) : Option (Int32) :=
  if v5 ≤ v8 then (some (v7)) else (oB (f_X7_placeIn Fu I v6 v3) (fun r55 => oB (f_X7_placeIn Fu I v6 v4) (fun r63 => if (if 0 ≤ (r55 - r63) then (r55 - r63) else 0 - (r55 - r63)) = (1 : Int32) then (oB (f_X7_behindOne Fu I v6 v8) (fun r87 => k42_ (v3, v4, v5, r87, (v7 + (1 : Int32)), (v8 + (1 : Int32))))) else (oB (f_X7_behindOne Fu I v6 v8) (fun r87 => k42_ (v3, v4, v5, r87, (v7 + (0 : Int32)), (v8 + (1 : Int32))))))))
set_option maxRecDepth 20000 in
theorem bo_X7_meetingsOf_42 {X : mXT} {E : mEn} {Fu : Nat} {I : mIT} {R : mRT} {L : mLT}  (hC : mC X E mX7_meetingsOf RX7 cX7_meetingsOf) (hW : mWd R)   {out : Int32} (hE : mEd X E 0 0 (mSame (some (.int (out))) 106 1 I R L)) (k42_ : Int32 × Int32 × Int32 × Int32 × Int32 × Int32 → Option (Int32)) (hk42_ : ∀ (v3 : Int32) (v4 : Int32) (v5 : Int32) (v6 : Int32) (v7 : Int32) (v8 : Int32),  k42_ (v3, v4, v5, v6, v7, v8) = some out → mG X E 42 [(0, .ref (mB E + 62)), (3, .int v3), (4, .int v4), (5, .int v5), (6, .int v6), (7, .int v7), (8, .int v8)] [] 106 1 I R L 0 0) (v3 : Int32) (v4 : Int32) (v5 : Int32) (v6 : Int32) (v7 : Int32) (v8 : Int32) (h : b_X7_meetingsOf_42 Fu I k42_ v3 v4 v5 v6 v7 v8 = some out) : mG X E 42 [(0, .ref (mB E + 62)), (3, .int v3), (4, .int v4), (5, .int v5), (6, .int v6), (7, .int v7), (8, .int v8)] [] 106 1 I R L 0 0 := by
  unfold b_X7_meetingsOf_42 at h
  refine g_iload hC dX7_meetingsOf_42 (q := 6) rfl ?_
  refine g_iload hC dX7_meetingsOf_44 (q := 3) rfl ?_
  refine g_ic_ge hC dX7_meetingsOf_46 (tgt := 98) (by decide) (fun c46 => ?_) (fun c46 => ?_)
  · replace h := (if_pos c46).symm.trans h
    refine g_iload hC dX7_meetingsOf_98 (q := 5) rfl ?_
    cases h
    exact g_iret hC hE rfl dX7_meetingsOf_100 (Nat.zero_le _) (Nat.zero_le _) ⟨rfl, rfl, rfl, rfl, rfl, rfl⟩
  · replace h := (if_neg c46).symm.trans h
    refine g_iload hC dX7_meetingsOf_49 (q := 5) rfl ?_
    refine g_aload_n hC dX7_meetingsOf_51 rfl (q := 0) rfl ?_
    refine g_iload hC dX7_meetingsOf_52 (q := 4) rfl ?_
    refine g_iload_n hC dX7_meetingsOf_54 rfl (q := 1) rfl ?_
    obtain ⟨r55, h55, h⟩ := oB_some h
    refine g_cV1 hC cv_X7_placeIn wd_1610 ⟨Nat.le_of_ble_eq_true rfl, Nat.le_of_ble_eq_true rfl⟩ rfl (by decide) dX7_meetingsOf_55 (As := [.int v6, .int v3]) (st := [.int v7]) (ok_X7_placeIn hC.2.2.2.2.2.2.2.1 hW h55) rfl rfl (Nat.le_of_ble_eq_true rfl) ⟨Nat.zero_le _, Nat.zero_le _⟩ ?_
    refine g_aload_n hC dX7_meetingsOf_58 rfl (q := 0) rfl ?_
    refine g_iload hC dX7_meetingsOf_59 (q := 4) rfl ?_
    refine g_iload hC dX7_meetingsOf_61 (q := 2) rfl ?_
    obtain ⟨r63, h63, h⟩ := oB_some h
    refine g_cV1 hC cv_X7_placeIn wd_1610 ⟨Nat.le_of_ble_eq_true rfl, Nat.le_of_ble_eq_true rfl⟩ rfl (by decide) dX7_meetingsOf_63 (As := [.int v6, .int v4]) (st := [.int r55, .int v7]) (ok_X7_placeIn hC.2.2.2.2.2.2.2.1 hW h63) rfl rfl (Nat.le_of_ble_eq_true rfl) ⟨Nat.zero_le _, Nat.zero_le _⟩ ?_
    refine g_isub hC dX7_meetingsOf_66 ?_
    refine g_mabs hC wd_1614 wd_st_abs wd_in_math wd_cd_abs (Nat.le_of_ble_eq_true rfl) (Nat.le_of_ble_eq_true rfl) ⟨Nat.zero_le _, Nat.zero_le _⟩ dX7_meetingsOf_67 ?_
    refine g_iconst hC dX7_meetingsOf_70 (v := (1 : Int32)) (by decide) ?_
    refine g_ic_ne hC dX7_meetingsOf_71 (tgt := 78) (by decide) (fun c71 => ?_) (fun c71 => ?_)
    · replace h := (if_neg c71).symm.trans h
      refine g_iconst hC dX7_meetingsOf_78 (v := (0 : Int32)) (by decide) ?_
      refine g_iadd hC dX7_meetingsOf_79 ?_
      refine g_istore hC dX7_meetingsOf_80 rfl (by decide) (lv' := [(7, .int (v7 + (0 : Int32))), (0, .ref (mB E + 62)), (3, .int v3), (4, .int v4), (5, .int v5), (6, .int v6), (8, .int v8)]) rfl ?_
      refine g_aload_n hC dX7_meetingsOf_82 rfl (q := 1) rfl ?_
      refine g_iload hC dX7_meetingsOf_83 (q := 5) rfl ?_
      refine g_iload hC dX7_meetingsOf_85 (q := 6) rfl ?_
      obtain ⟨r87, h87, h⟩ := oB_some h
      refine g_cV1 hC cv_X7_behindOne wd_741 ⟨Nat.le_of_ble_eq_true rfl, Nat.le_of_ble_eq_true rfl⟩ rfl (by decide) dX7_meetingsOf_87 (As := [.int v6, .int v8]) (st := []) (ok_X7_behindOne hC.2.2.2.2.2.2.2.1 hW h87) rfl rfl (Nat.le_of_ble_eq_true rfl) ⟨Nat.zero_le _, Nat.zero_le _⟩ ?_
      refine g_istore hC dX7_meetingsOf_90 rfl (by decide) (lv' := [(6, .int r87), (7, .int (v7 + (0 : Int32))), (0, .ref (mB E + 62)), (3, .int v3), (4, .int v4), (5, .int v5), (8, .int v8)]) rfl ?_
      refine g_iinc hC dX7_meetingsOf_92 rfl (q := 6) rfl (w := (v8 + (1 : Int32))) rfl (by decide) (lv' := [(8, .int (v8 + (1 : Int32))), (6, .int r87), (7, .int (v7 + (0 : Int32))), (0, .ref (mB E + 62)), (3, .int v3), (4, .int v4), (5, .int v5)]) rfl ?_
      refine g_goto hC dX7_meetingsOf_95 (tgt := 42) (by decide) ?_
      refine g_lv [3, 4, 5, 6, 1, 2, 0] rfl ?_
      exact hk42_ v3 v4 v5 r87 (v7 + (0 : Int32)) (v8 + (1 : Int32)) h
    · replace h := (if_pos c71).symm.trans h
      refine g_iconst hC dX7_meetingsOf_74 (v := (1 : Int32)) (by decide) ?_
      refine g_goto hC dX7_meetingsOf_75 (tgt := 79) (by decide) ?_
      refine g_iadd hC dX7_meetingsOf_79 ?_
      refine g_istore hC dX7_meetingsOf_80 rfl (by decide) (lv' := [(7, .int (v7 + (1 : Int32))), (0, .ref (mB E + 62)), (3, .int v3), (4, .int v4), (5, .int v5), (6, .int v6), (8, .int v8)]) rfl ?_
      refine g_aload_n hC dX7_meetingsOf_82 rfl (q := 1) rfl ?_
      refine g_iload hC dX7_meetingsOf_83 (q := 5) rfl ?_
      refine g_iload hC dX7_meetingsOf_85 (q := 6) rfl ?_
      obtain ⟨r87, h87, h⟩ := oB_some h
      refine g_cV1 hC cv_X7_behindOne wd_741 ⟨Nat.le_of_ble_eq_true rfl, Nat.le_of_ble_eq_true rfl⟩ rfl (by decide) dX7_meetingsOf_87 (As := [.int v6, .int v8]) (st := []) (ok_X7_behindOne hC.2.2.2.2.2.2.2.1 hW h87) rfl rfl (Nat.le_of_ble_eq_true rfl) ⟨Nat.zero_le _, Nat.zero_le _⟩ ?_
      refine g_istore hC dX7_meetingsOf_90 rfl (by decide) (lv' := [(6, .int r87), (7, .int (v7 + (1 : Int32))), (0, .ref (mB E + 62)), (3, .int v3), (4, .int v4), (5, .int v5), (8, .int v8)]) rfl ?_
      refine g_iinc hC dX7_meetingsOf_92 rfl (q := 6) rfl (w := (v8 + (1 : Int32))) rfl (by decide) (lv' := [(8, .int (v8 + (1 : Int32))), (6, .int r87), (7, .int (v7 + (1 : Int32))), (0, .ref (mB E + 62)), (3, .int v3), (4, .int v4), (5, .int v5)]) rfl ?_
      refine g_goto hC dX7_meetingsOf_95 (tgt := 42) (by decide) ?_
      refine g_lv [3, 4, 5, 6, 1, 2, 0] rfl ?_
      exact hk42_ v3 v4 v5 r87 (v7 + (1 : Int32)) (v8 + (1 : Int32)) h
noncomputable def w_X7_meetingsOf_42 (Fu : Nat) (I : mIT)  (N : Nat) (v3 : Int32) (v4 : Int32) (v5 : Int32) (v6 : Int32) (v7 : Int32) (v8 : Int32) : Option (Int32) :=
  loopF (fun self (s : Int32 × Int32 × Int32 × Int32 × Int32 × Int32) => b_X7_meetingsOf_42 Fu I self s.1 s.2.1 s.2.2.1 s.2.2.2.1 s.2.2.2.2.1 s.2.2.2.2.2) N (v3, v4, v5, v6, v7, v8)
theorem wo_X7_meetingsOf_42 {X : mXT} {E : mEn} {Fu : Nat} {I : mIT} {R : mRT} {L : mLT}  (hC : mC X E mX7_meetingsOf RX7 cX7_meetingsOf) (hW : mWd R)   {out : Int32} (hE : mEd X E 0 0 (mSame (some (.int (out))) 106 1 I R L))  (N : Nat) (v3 : Int32) (v4 : Int32) (v5 : Int32) (v6 : Int32) (v7 : Int32) (v8 : Int32) (h : w_X7_meetingsOf_42 Fu I  N v3 v4 v5 v6 v7 v8 = some out) : mG X E 42 [(0, .ref (mB E + 62)), (3, .int v3), (4, .int v4), (5, .int v5), (6, .int v6), (7, .int v7), (8, .int v8)] [] 106 1 I R L 0 0 :=
  loopF_ok (Gd := fun s : Int32 × Int32 × Int32 × Int32 × Int32 × Int32 => mG X E 42 [(0, .ref (mB E + 62)), (3, .int s.1), (4, .int s.2.1), (5, .int s.2.2.1), (6, .int s.2.2.2.1), (7, .int s.2.2.2.2.1), (8, .int s.2.2.2.2.2)] [] 106 1 I R L 0 0) (fun self hs s h => bo_X7_meetingsOf_42 hC hW hE self (fun v3 v4 v5 v6 v7 v8 h => hs (v3, v4, v5, v6, v7, v8) h) s.1 s.2.1 s.2.2.1 s.2.2.2.1 s.2.2.2.2.1 s.2.2.2.2.2 h) N (v3, v4, v5, v6, v7, v8) h
noncomputable def f_X7_meetingsOf (Fu : Nat) (I : mIT) (v1 : Int32) (v2 : Int32) : Option (Int32) :=
  oB (f_X7_bellOf Fu I v1) (fun r2 => oB (f_X7_bellOf Fu I v2) (fun r8 => if r2 = (-1 : Int32) then (some (0 : Int32)) else (if r8 = (-1 : Int32) then (some (0 : Int32)) else (oB (f_X7_lengthRung Fu I) (fun r27 => w_X7_meetingsOf_42 Fu I Fu r2 r8 r27 (181896 : Int32) (0 : Int32) (0 : Int32))))))
set_option maxRecDepth 20000 in
theorem ok_X7_meetingsOf {l : Launch} {E : mEn} {Fu : Nat} {I : mIT} {R : mRT} {L : mLT} {v1 : Int32} {v2 : Int32} (hst : l.stackTraces = false) (hW : mWd R)  {out : Int32} (h : f_X7_meetingsOf Fu I v1 v2 = some out) : mOk l E mX7_meetingsOf [.ref (mB E + 62), .int v1, .int v2] 106 1 I R L 0 0 (mSame (some (.int (out))) 106 1 I R L) := by
  refine mOk_of hst (by decide) (Nat.le_of_ble_eq_true rfl) (fun X hC hE _ => ?_)
  have hC : mC X E mX7_meetingsOf RX7 cX7_meetingsOf := hC
  show mG X E 0 [(0, .ref (mB E + 62)), (1, .int v1), (2, .int v2)] [] 106 1 I R L 0 0
  unfold f_X7_meetingsOf at h
  refine g_aload_n hC dX7_meetingsOf_0 rfl (q := 0) rfl ?_
  refine g_iload_n hC dX7_meetingsOf_1 rfl (q := 1) rfl ?_
  obtain ⟨r2, h2, h⟩ := oB_some h
  refine g_cV1 hC cv_X7_bellOf wd_1594 ⟨Nat.le_of_ble_eq_true rfl, Nat.le_of_ble_eq_true rfl⟩ rfl (by decide) dX7_meetingsOf_2 (As := [.int v1]) (st := []) (ok_X7_bellOf hC.2.2.2.2.2.2.2.1 hW h2) rfl rfl (Nat.le_of_ble_eq_true rfl) ⟨Nat.zero_le _, Nat.zero_le _⟩ ?_
  refine g_istore_n hC dX7_meetingsOf_5 rfl rfl (by decide) (lv' := [(3, .int r2), (0, .ref (mB E + 62)), (1, .int v1), (2, .int v2)]) rfl ?_
  refine g_aload_n hC dX7_meetingsOf_6 rfl (q := 1) rfl ?_
  refine g_iload_n hC dX7_meetingsOf_7 rfl (q := 3) rfl ?_
  obtain ⟨r8, h8, h⟩ := oB_some h
  refine g_cV1 hC cv_X7_bellOf wd_1594 ⟨Nat.le_of_ble_eq_true rfl, Nat.le_of_ble_eq_true rfl⟩ rfl (by decide) dX7_meetingsOf_8 (As := [.int v2]) (st := []) (ok_X7_bellOf hC.2.2.2.2.2.2.2.1 hW h8) rfl rfl (Nat.le_of_ble_eq_true rfl) ⟨Nat.zero_le _, Nat.zero_le _⟩ ?_
  refine g_istore hC dX7_meetingsOf_11 rfl (by decide) (lv' := [(4, .int r8), (3, .int r2), (0, .ref (mB E + 62)), (1, .int v1), (2, .int v2)]) rfl ?_
  refine g_iload_n hC dX7_meetingsOf_13 rfl (q := 1) rfl ?_
  refine g_iconst hC dX7_meetingsOf_14 (v := (-1 : Int32)) (by decide) ?_
  refine g_ic_eq hC dX7_meetingsOf_15 (tgt := 24) (by decide) (fun c15 => ?_) (fun c15 => ?_)
  · replace h := (if_pos c15).symm.trans h
    refine g_iconst hC dX7_meetingsOf_24 (v := (0 : Int32)) (by decide) ?_
    cases h
    exact g_iret hC hE rfl dX7_meetingsOf_25 (Nat.zero_le _) (Nat.zero_le _) ⟨rfl, rfl, rfl, rfl, rfl, rfl⟩
  · replace h := (if_neg c15).symm.trans h
    refine g_iload hC dX7_meetingsOf_18 (q := 0) rfl ?_
    refine g_iconst hC dX7_meetingsOf_20 (v := (-1 : Int32)) (by decide) ?_
    refine g_ic_ne hC dX7_meetingsOf_21 (tgt := 26) (by decide) (fun c21 => ?_) (fun c21 => ?_)
    · replace h := (if_neg c21).symm.trans h
      refine g_aload_n hC dX7_meetingsOf_26 rfl (q := 2) rfl ?_
      obtain ⟨r27, h27, h⟩ := oB_some h
      refine g_cV1 hC cv_X7_lengthRung wd_1598 ⟨Nat.le_of_ble_eq_true rfl, Nat.le_of_ble_eq_true rfl⟩ rfl (by decide) dX7_meetingsOf_27 (As := []) (st := []) (ok_X7_lengthRung hC.2.2.2.2.2.2.2.1 hW h27) rfl rfl (Nat.le_of_ble_eq_true rfl) ⟨Nat.zero_le _, Nat.zero_le _⟩ ?_
      refine g_istore hC dX7_meetingsOf_30 rfl (by decide) (lv' := [(5, .int r27), (4, .int r8), (3, .int r2), (0, .ref (mB E + 62)), (1, .int v1), (2, .int v2)]) rfl ?_
      refine g_ldc hC dX7_meetingsOf_32 wd_740 ?_
      refine g_istore hC dX7_meetingsOf_34 rfl (by decide) (lv' := [(6, .int (181896 : Int32)), (5, .int r27), (4, .int r8), (3, .int r2), (0, .ref (mB E + 62)), (1, .int v1), (2, .int v2)]) rfl ?_
      refine g_iconst hC dX7_meetingsOf_36 (v := (0 : Int32)) (by decide) ?_
      refine g_istore hC dX7_meetingsOf_37 rfl (by decide) (lv' := [(7, .int (0 : Int32)), (6, .int (181896 : Int32)), (5, .int r27), (4, .int r8), (3, .int r2), (0, .ref (mB E + 62)), (1, .int v1), (2, .int v2)]) rfl ?_
      refine g_iconst hC dX7_meetingsOf_39 (v := (0 : Int32)) (by decide) ?_
      refine g_istore hC dX7_meetingsOf_40 rfl (by decide) (lv' := [(8, .int (0 : Int32)), (7, .int (0 : Int32)), (6, .int (181896 : Int32)), (5, .int r27), (4, .int r8), (3, .int r2), (0, .ref (mB E + 62)), (1, .int v1), (2, .int v2)]) rfl ?_
      refine g_lv [6, 5, 4, 3, 2, 1, 0] rfl ?_
      exact wo_X7_meetingsOf_42 hC hW hE Fu (r2) (r8) (r27) ((181896 : Int32)) ((0 : Int32)) ((0 : Int32)) h
    · replace h := (if_pos c21).symm.trans h
      refine g_iconst hC dX7_meetingsOf_24 (v := (0 : Int32)) (by decide) ?_
      cases h
      exact g_iret hC hE rfl dX7_meetingsOf_25 (Nat.zero_le _) (Nat.zero_le _) ⟨rfl, rfl, rfl, rfl, rfl, rfl⟩
noncomputable def b_X9_neededFor_22 (Fu : Nat) (k0 : Nat) (k1 : Nat) (k22_ : Int32 × Int32 × Int32 × Int32 × mIT → Option (Int32 × mIT)) (v2 : Int32) (v3 : Int32) (v4 : Int32) (v5 : Int32) (I : mIT) : Option (Int32 × mIT) :=
  if v4 < v5 then (some ((-1 : Int32), I)) else (oB (f_X9_noteOf Fu I k0 k1 v2 v5) (fun r34 => if r34.1 = v3 then (some (v5, r34.2)) else (k22_ (v2, v3, v4, (v5 + (1 : Int32)), r34.2))))
set_option maxRecDepth 20000 in
theorem bo_X9_neededFor_22 {X : mXT} {E : mEn} {Fu : Nat} {R : mRT} {L : mLT} {k0 : Nat} {k1 : Nat} (hC : mC X E mX9_neededFor RX9 cX9_neededFor) (hk0 : mO9 R k0) (hk1 : mO5 R k1)  {out : Int32 × mIT} (hE : mEd X E 0 0 (mSame (some (.int (out.1))) 106 1 (out.2) R L)) (k22_ : Int32 × Int32 × Int32 × Int32 × mIT → Option (Int32 × mIT)) (hk22_ : ∀ (v2 : Int32) (v3 : Int32) (v4 : Int32) (v5 : Int32) (I : mIT),  k22_ (v2, v3, v4, v5, I) = some out → mG X E 22 [(0, .ref (mB E + k0)), (1, .ref (mB E + k1)), (2, .int v2), (3, .int v3), (4, .int v4), (5, .int v5)] [] 106 1 I R L 0 0) (v2 : Int32) (v3 : Int32) (v4 : Int32) (v5 : Int32) (I : mIT) (h : b_X9_neededFor_22 Fu k0 k1 k22_ v2 v3 v4 v5 I = some out) : mG X E 22 [(0, .ref (mB E + k0)), (1, .ref (mB E + k1)), (2, .int v2), (3, .int v3), (4, .int v4), (5, .int v5)] [] 106 1 I R L 0 0 := by
  unfold b_X9_neededFor_22 at h
  refine g_iload hC dX9_neededFor_22 (q := 5) rfl ?_
  refine g_iload hC dX9_neededFor_24 (q := 4) rfl ?_
  refine g_ic_gt hC dX9_neededFor_26 (tgt := 50) (by decide) (fun c26 => ?_) (fun c26 => ?_)
  · replace h := (if_pos c26).symm.trans h
    refine g_iconst hC dX9_neededFor_50 (v := (-1 : Int32)) (by decide) ?_
    cases h
    exact g_iret hC hE rfl dX9_neededFor_51 (Nat.zero_le _) (Nat.zero_le _) ⟨rfl, rfl, rfl, rfl, rfl, rfl⟩
  · replace h := (if_neg c26).symm.trans h
    refine g_aload_n hC dX9_neededFor_29 rfl (q := 0) rfl ?_
    refine g_aload_n hC dX9_neededFor_30 rfl (q := 1) rfl ?_
    refine g_iload_n hC dX9_neededFor_31 rfl (q := 2) rfl ?_
    refine g_iload hC dX9_neededFor_32 (q := 5) rfl ?_
    obtain ⟨r34, h34, h⟩ := oB_some h
    refine g_cV1 hC cv_X9_noteOf wd_1557 ⟨Nat.le_of_ble_eq_true rfl, Nat.le_of_ble_eq_true rfl⟩ hk0.2.1 hk0.1 dX9_neededFor_34 (As := [.ref (mB E + k1), .int v2, .int v5]) (st := []) (ok_X9_noteOf hC.2.2.2.2.2.2.2.1 hk0 hk1 h34) rfl rfl (Nat.le_of_ble_eq_true rfl) ⟨Nat.zero_le _, Nat.zero_le _⟩ ?_
    refine g_iload_n hC dX9_neededFor_37 rfl (q := 3) rfl ?_
    refine g_ic_ne hC dX9_neededFor_38 (tgt := 44) (by decide) (fun c38 => ?_) (fun c38 => ?_)
    · replace h := (if_neg c38).symm.trans h
      refine g_iinc hC dX9_neededFor_44 rfl (q := 5) rfl (w := (v5 + (1 : Int32))) rfl (by decide) (lv' := [(5, .int (v5 + (1 : Int32))), (0, .ref (mB E + k0)), (1, .ref (mB E + k1)), (2, .int v2), (3, .int v3), (4, .int v4)]) rfl ?_
      refine g_goto hC dX9_neededFor_47 (tgt := 22) (by decide) ?_
      refine g_lv [1, 2, 3, 4, 5, 0] rfl ?_
      exact hk22_ v2 v3 v4 (v5 + (1 : Int32)) r34.2 h
    · replace h := (if_pos c38).symm.trans h
      refine g_iload hC dX9_neededFor_41 (q := 5) rfl ?_
      cases h
      exact g_iret hC hE rfl dX9_neededFor_43 (Nat.zero_le _) (Nat.zero_le _) ⟨rfl, rfl, rfl, rfl, rfl, rfl⟩
noncomputable def w_X9_neededFor_22 (Fu : Nat) (k0 : Nat) (k1 : Nat)  (N : Nat) (v2 : Int32) (v3 : Int32) (v4 : Int32) (v5 : Int32) (I : mIT) : Option (Int32 × mIT) :=
  loopF (fun self (s : Int32 × Int32 × Int32 × Int32 × mIT) => b_X9_neededFor_22 Fu k0 k1 self s.1 s.2.1 s.2.2.1 s.2.2.2.1 s.2.2.2.2) N (v2, v3, v4, v5, I)
theorem wo_X9_neededFor_22 {X : mXT} {E : mEn} {Fu : Nat} {R : mRT} {L : mLT} {k0 : Nat} {k1 : Nat} (hC : mC X E mX9_neededFor RX9 cX9_neededFor) (hk0 : mO9 R k0) (hk1 : mO5 R k1)  {out : Int32 × mIT} (hE : mEd X E 0 0 (mSame (some (.int (out.1))) 106 1 (out.2) R L))  (N : Nat) (v2 : Int32) (v3 : Int32) (v4 : Int32) (v5 : Int32) (I : mIT) (h : w_X9_neededFor_22 Fu k0 k1  N v2 v3 v4 v5 I = some out) : mG X E 22 [(0, .ref (mB E + k0)), (1, .ref (mB E + k1)), (2, .int v2), (3, .int v3), (4, .int v4), (5, .int v5)] [] 106 1 I R L 0 0 :=
  loopF_ok (Gd := fun s : Int32 × Int32 × Int32 × Int32 × mIT => mG X E 22 [(0, .ref (mB E + k0)), (1, .ref (mB E + k1)), (2, .int s.1), (3, .int s.2.1), (4, .int s.2.2.1), (5, .int s.2.2.2.1)] [] 106 1 s.2.2.2.2 R L 0 0) (fun self hs s h => bo_X9_neededFor_22 hC hk0 hk1 hE self (fun v2 v3 v4 v5 I h => hs (v2, v3, v4, v5, I) h) s.1 s.2.1 s.2.2.1 s.2.2.2.1 s.2.2.2.2 h) N (v2, v3, v4, v5, I) h
noncomputable def f_X9_neededFor (Fu : Nat) (I : mIT) (k0 : Nat) (k1 : Nat) (v2 : Int32) (v3 : Int32) : Option (Int32 × mIT) :=
  oB (f_X9_placeOf Fu I k0 v2) (fun r2 => if r2 = (-2 : Int32) then (some ((-1 : Int32), I)) else (oB (f_X9_roomToHollow Fu I k0 v2) (fun r14 => w_X9_neededFor_22 Fu k0 k1 Fu v2 v3 r14 (0 : Int32) I)))
set_option maxRecDepth 20000 in
theorem ok_X9_neededFor {l : Launch} {E : mEn} {Fu : Nat} {I : mIT} {R : mRT} {L : mLT} {k0 : Nat} {k1 : Nat} {v2 : Int32} {v3 : Int32} (hst : l.stackTraces = false) (hk0 : mO9 R k0) (hk1 : mO5 R k1) {out : Int32 × mIT} (h : f_X9_neededFor Fu I k0 k1 v2 v3 = some out) : mOk l E mX9_neededFor [.ref (mB E + k0), .ref (mB E + k1), .int v2, .int v3] 106 1 I R L 0 0 (mSame (some (.int (out.1))) 106 1 (out.2) R L) := by
  refine mOk_of hst (by decide) (Nat.le_of_ble_eq_true rfl) (fun X hC hE _ => ?_)
  have hC : mC X E mX9_neededFor RX9 cX9_neededFor := hC
  show mG X E 0 [(0, .ref (mB E + k0)), (1, .ref (mB E + k1)), (2, .int v2), (3, .int v3)] [] 106 1 I R L 0 0
  unfold f_X9_neededFor at h
  refine g_aload_n hC dX9_neededFor_0 rfl (q := 0) rfl ?_
  refine g_iload_n hC dX9_neededFor_1 rfl (q := 2) rfl ?_
  obtain ⟨r2, h2, h⟩ := oB_some h
  refine g_cV1 hC cv_X9_placeOf wd_586 ⟨Nat.le_of_ble_eq_true rfl, Nat.le_of_ble_eq_true rfl⟩ hk0.2.1 hk0.1 dX9_neededFor_2 (As := [.int v2]) (st := []) (ok_X9_placeOf hC.2.2.2.2.2.2.2.1 hk0 h2) rfl rfl (Nat.le_of_ble_eq_true rfl) ⟨Nat.zero_le _, Nat.zero_le _⟩ ?_
  refine g_bipush hC dX9_neededFor_5 (v := (-2 : Int32)) (by decide) ?_
  refine g_ic_ne hC dX9_neededFor_7 (tgt := 12) (by decide) (fun c7 => ?_) (fun c7 => ?_)
  · replace h := (if_neg c7).symm.trans h
    refine g_aload_n hC dX9_neededFor_12 rfl (q := 0) rfl ?_
    refine g_iload_n hC dX9_neededFor_13 rfl (q := 2) rfl ?_
    obtain ⟨r14, h14, h⟩ := oB_some h
    refine g_cV1 hC cv_X9_roomToHollow wd_1556 ⟨Nat.le_of_ble_eq_true rfl, Nat.le_of_ble_eq_true rfl⟩ hk0.2.1 hk0.1 dX9_neededFor_14 (As := [.int v2]) (st := []) (ok_X9_roomToHollow hC.2.2.2.2.2.2.2.1 hk0 h14) rfl rfl (Nat.le_of_ble_eq_true rfl) ⟨Nat.zero_le _, Nat.zero_le _⟩ ?_
    refine g_istore hC dX9_neededFor_17 rfl (by decide) (lv' := [(4, .int r14), (0, .ref (mB E + k0)), (1, .ref (mB E + k1)), (2, .int v2), (3, .int v3)]) rfl ?_
    refine g_iconst hC dX9_neededFor_19 (v := (0 : Int32)) (by decide) ?_
    refine g_istore hC dX9_neededFor_20 rfl (by decide) (lv' := [(5, .int (0 : Int32)), (4, .int r14), (0, .ref (mB E + k0)), (1, .ref (mB E + k1)), (2, .int v2), (3, .int v3)]) rfl ?_
    refine g_lv [2, 3, 4, 5, 1, 0] rfl ?_
    exact wo_X9_neededFor_22 hC hk0 hk1 hE Fu (v2) (v3) (r14) ((0 : Int32)) (I) h
  · replace h := (if_pos c7).symm.trans h
    refine g_iconst hC dX9_neededFor_10 (v := (-1 : Int32)) (by decide) ?_
    cases h
    exact g_iret hC hE rfl dX9_neededFor_11 (Nat.zero_le _) (Nat.zero_le _) ⟨rfl, rfl, rfl, rfl, rfl, rfl⟩
noncomputable def b_X3_withSet_34 (Fu : Nat)  (v1 : Int32) (v2 : Int32) (I : mIT) : Option (Int32 × mIT) :=
  if v2 < 0 then (some ((v2 + (1 : Int32)), I)) else (if (nI 11) ≤ v2 then (some ((v2 + (1 : Int32)), I)) else (oG (inB v2 11) (some ((v2 + (1 : Int32)), (mU I 71 (v2).toNatClampNeg v1)))))
set_option maxRecDepth 20000 in
theorem bo_X3_withSet_34 {X : mXT} {E : mEn} {Fu : Nat} {R : mRT} {L : mLT}  (hC : mC X E mX3_withSet RX3 cX3_withSet) (hW : mWd R)   {out : Int32 × mIT} (hE : mEd X E 0 0 (mSame (some (.int (out.1))) 106 1 (out.2) R L))  (v1 : Int32) (v2 : Int32) (I : mIT) (h : b_X3_withSet_34 Fu  v1 v2 I = some out) : mG X E 34 [(0, .ref (mB E + 69)), (1, .int v1), (2, .int v2)] [] 106 1 I R L 0 0 := by
  unfold b_X3_withSet_34 at h
  refine g_iload_n hC dX3_withSet_34 rfl (q := 2) rfl ?_
  refine g_if_lt hC dX3_withSet_35 (tgt := 54) (by decide) (fun c35 => ?_) (fun c35 => ?_)
  · replace h := (if_pos c35).symm.trans h
    refine g_iload_n hC dX3_withSet_54 rfl (q := 2) rfl ?_
    refine g_iconst hC dX3_withSet_55 (v := (1 : Int32)) (by decide) ?_
    refine g_iadd hC dX3_withSet_56 ?_
    cases h
    exact g_iret hC hE rfl dX3_withSet_57 (Nat.zero_le _) (Nat.zero_le _) ⟨rfl, rfl, rfl, rfl, rfl, rfl⟩
  · replace h := (if_neg c35).symm.trans h
    refine g_iload_n hC dX3_withSet_38 rfl (q := 2) rfl ?_
    refine g_aload_n hC dX3_withSet_39 rfl (q := 0) rfl ?_
    refine g_getr hC fd_RX3_15 rfl (by decide) (C0 := "") (t0 := _) (Or.inr rfl) (rr_69_1 hW.1) dX3_withSet_40 ?_
    refine g_alenI hC rfl (by decide) dX3_withSet_43 ?_
    refine g_ic_ge hC dX3_withSet_44 (tgt := 54) (by decide) (fun c44 => ?_) (fun c44 => ?_)
    · replace h := (if_pos c44).symm.trans h
      refine g_iload_n hC dX3_withSet_54 rfl (q := 2) rfl ?_
      refine g_iconst hC dX3_withSet_55 (v := (1 : Int32)) (by decide) ?_
      refine g_iadd hC dX3_withSet_56 ?_
      cases h
      exact g_iret hC hE rfl dX3_withSet_57 (Nat.zero_le _) (Nat.zero_le _) ⟨rfl, rfl, rfl, rfl, rfl, rfl⟩
    · replace h := (if_neg c44).symm.trans h
      refine g_aload_n hC dX3_withSet_47 rfl (q := 0) rfl ?_
      refine g_getr hC fd_RX3_15 rfl (by decide) (C0 := "") (t0 := _) (Or.inr rfl) (rr_69_1 hW.1) dX3_withSet_48 ?_
      refine g_iload_n hC dX3_withSet_51 rfl (q := 2) rfl ?_
      refine g_iload_n hC dX3_withSet_52 rfl (q := 1) rfl ?_
      obtain ⟨g53, h⟩ := oG_some h
      refine g_iast hC rfl (by decide) (inB_in g53) dX3_withSet_53 (nm_e ?_)
      refine g_iload_n hC dX3_withSet_54 rfl (q := 2) rfl ?_
      refine g_iconst hC dX3_withSet_55 (v := (1 : Int32)) (by decide) ?_
      refine g_iadd hC dX3_withSet_56 ?_
      cases h
      exact g_iret hC hE rfl dX3_withSet_57 (Nat.zero_le _) (Nat.zero_le _) ⟨rfl, rfl, rfl, rfl, rfl, rfl⟩
noncomputable def b_X3_withSet_2 (Fu : Nat) (k2_ : Int32 × Int32 × Int32 × mIT → Option (Int32 × mIT)) (v1 : Int32) (v2 : Int32) (v3 : Int32) (I : mIT) : Option (Int32 × mIT) :=
  if v2 ≤ v3 then (b_X3_withSet_34 Fu v1 v2 I) else (if (nI 11) ≤ v3 then (b_X3_withSet_34 Fu v1 v2 I) else (oG (inB v3 11) (if (I 71 (v3).toNatClampNeg) = v1 then (some (v2, I)) else (k2_ (v1, v2, (v3 + (1 : Int32)), I)))))
set_option maxRecDepth 20000 in
theorem bo_X3_withSet_2 {X : mXT} {E : mEn} {Fu : Nat} {R : mRT} {L : mLT}  (hC : mC X E mX3_withSet RX3 cX3_withSet) (hW : mWd R)   {out : Int32 × mIT} (hE : mEd X E 0 0 (mSame (some (.int (out.1))) 106 1 (out.2) R L)) (k2_ : Int32 × Int32 × Int32 × mIT → Option (Int32 × mIT)) (hk2_ : ∀ (v1 : Int32) (v2 : Int32) (v3 : Int32) (I : mIT),  k2_ (v1, v2, v3, I) = some out → mG X E 2 [(0, .ref (mB E + 69)), (1, .int v1), (2, .int v2), (3, .int v3)] [] 106 1 I R L 0 0) (v1 : Int32) (v2 : Int32) (v3 : Int32) (I : mIT) (h : b_X3_withSet_2 Fu k2_ v1 v2 v3 I = some out) : mG X E 2 [(0, .ref (mB E + 69)), (1, .int v1), (2, .int v2), (3, .int v3)] [] 106 1 I R L 0 0 := by
  unfold b_X3_withSet_2 at h
  refine g_iload_n hC dX3_withSet_2 rfl (q := 3) rfl ?_
  refine g_iload_n hC dX3_withSet_3 rfl (q := 2) rfl ?_
  refine g_ic_ge hC dX3_withSet_4 (tgt := 34) (by decide) (fun c4 => ?_) (fun c4 => ?_)
  · replace h := (if_pos c4).symm.trans h
    refine g_lv [0, 1, 2] rfl ?_
    exact bo_X3_withSet_34 hC hW hE (v1) (v2) (I) h
  · replace h := (if_neg c4).symm.trans h
    refine g_iload_n hC dX3_withSet_7 rfl (q := 3) rfl ?_
    refine g_aload_n hC dX3_withSet_8 rfl (q := 0) rfl ?_
    refine g_getr hC fd_RX3_15 rfl (by decide) (C0 := "") (t0 := _) (Or.inr rfl) (rr_69_1 hW.1) dX3_withSet_9 ?_
    refine g_alenI hC rfl (by decide) dX3_withSet_12 ?_
    refine g_ic_ge hC dX3_withSet_13 (tgt := 34) (by decide) (fun c13 => ?_) (fun c13 => ?_)
    · replace h := (if_pos c13).symm.trans h
      refine g_lv [0, 1, 2] rfl ?_
      exact bo_X3_withSet_34 hC hW hE (v1) (v2) (I) h
    · replace h := (if_neg c13).symm.trans h
      refine g_aload_n hC dX3_withSet_16 rfl (q := 0) rfl ?_
      refine g_getr hC fd_RX3_15 rfl (by decide) (C0 := "") (t0 := _) (Or.inr rfl) (rr_69_1 hW.1) dX3_withSet_17 ?_
      refine g_iload_n hC dX3_withSet_20 rfl (q := 3) rfl ?_
      obtain ⟨g21, h⟩ := oG_some h
      refine g_iald hC rfl (by decide) (inB_in g21) dX3_withSet_21 ?_
      refine g_iload_n hC dX3_withSet_22 rfl (q := 1) rfl ?_
      refine g_ic_ne hC dX3_withSet_23 (tgt := 28) (by decide) (fun c23 => ?_) (fun c23 => ?_)
      · replace h := (if_neg c23).symm.trans h
        refine g_iinc hC dX3_withSet_28 rfl (q := 3) rfl (w := (v3 + (1 : Int32))) rfl (by decide) (lv' := [(3, .int (v3 + (1 : Int32))), (0, .ref (mB E + 69)), (1, .int v1), (2, .int v2)]) rfl ?_
        refine g_goto hC dX3_withSet_31 (tgt := 2) (by decide) ?_
        refine g_lv [1, 2, 3, 0] rfl ?_
        exact hk2_ v1 v2 (v3 + (1 : Int32)) I h
      · replace h := (if_pos c23).symm.trans h
        refine g_iload_n hC dX3_withSet_26 rfl (q := 2) rfl ?_
        cases h
        exact g_iret hC hE rfl dX3_withSet_27 (Nat.zero_le _) (Nat.zero_le _) ⟨rfl, rfl, rfl, rfl, rfl, rfl⟩
noncomputable def w_X3_withSet_2 (Fu : Nat)  (N : Nat) (v1 : Int32) (v2 : Int32) (v3 : Int32) (I : mIT) : Option (Int32 × mIT) :=
  loopF (fun self (s : Int32 × Int32 × Int32 × mIT) => b_X3_withSet_2 Fu self s.1 s.2.1 s.2.2.1 s.2.2.2) N (v1, v2, v3, I)
theorem wo_X3_withSet_2 {X : mXT} {E : mEn} {Fu : Nat} {R : mRT} {L : mLT}  (hC : mC X E mX3_withSet RX3 cX3_withSet) (hW : mWd R)   {out : Int32 × mIT} (hE : mEd X E 0 0 (mSame (some (.int (out.1))) 106 1 (out.2) R L))  (N : Nat) (v1 : Int32) (v2 : Int32) (v3 : Int32) (I : mIT) (h : w_X3_withSet_2 Fu  N v1 v2 v3 I = some out) : mG X E 2 [(0, .ref (mB E + 69)), (1, .int v1), (2, .int v2), (3, .int v3)] [] 106 1 I R L 0 0 :=
  loopF_ok (Gd := fun s : Int32 × Int32 × Int32 × mIT => mG X E 2 [(0, .ref (mB E + 69)), (1, .int s.1), (2, .int s.2.1), (3, .int s.2.2.1)] [] 106 1 s.2.2.2 R L 0 0) (fun self hs s h => bo_X3_withSet_2 hC hW hE self (fun v1 v2 v3 I h => hs (v1, v2, v3, I) h) s.1 s.2.1 s.2.2.1 s.2.2.2 h) N (v1, v2, v3, I) h
noncomputable def f_X3_withSet (Fu : Nat) (I : mIT) (v1 : Int32) (v2 : Int32) : Option (Int32 × mIT) :=
  w_X3_withSet_2 Fu Fu v1 v2 (0 : Int32) I
set_option maxRecDepth 20000 in
theorem ok_X3_withSet {l : Launch} {E : mEn} {Fu : Nat} {I : mIT} {R : mRT} {L : mLT} {v1 : Int32} {v2 : Int32} (hst : l.stackTraces = false) (hW : mWd R)  {out : Int32 × mIT} (h : f_X3_withSet Fu I v1 v2 = some out) : mOk l E mX3_withSet [.ref (mB E + 69), .int v1, .int v2] 106 1 I R L 0 0 (mSame (some (.int (out.1))) 106 1 (out.2) R L) := by
  refine mOk_of hst (by decide) (Nat.le_of_ble_eq_true rfl) (fun X hC hE _ => ?_)
  have hC : mC X E mX3_withSet RX3 cX3_withSet := hC
  show mG X E 0 [(0, .ref (mB E + 69)), (1, .int v1), (2, .int v2)] [] 106 1 I R L 0 0
  unfold f_X3_withSet at h
  refine g_iconst hC dX3_withSet_0 (v := (0 : Int32)) (by decide) ?_
  refine g_istore_n hC dX3_withSet_1 rfl rfl (by decide) (lv' := [(3, .int (0 : Int32)), (0, .ref (mB E + 69)), (1, .int v1), (2, .int v2)]) rfl ?_
  refine g_lv [1, 2, 3, 0] rfl ?_
  exact wo_X3_withSet_2 hC hW hE Fu (v1) (v2) ((0 : Int32)) (I) h
noncomputable def b_X3_unlikeSets_73 (Fu : Nat) (k29_ : Int32 × Int32 × Int32 × Int32 × Int32 × Int32 × mIT → Option (Int32 × mIT)) (v2 : Int32) (v3 : Int32) (v4 : Int32) (v5 : Int32) (v6 : Int32) (v7 : Int32) (I : mIT) : Option (Int32 × mIT) :=
  if v5 = 0 then (oG (inB v7 10) (if ((I 70 (v7).toNatClampNeg) &&& (v4 ^^^ (-1 : Int32))) = 0 then (k29_ (v2, v3, v4, (0 : Int32), v6, (v7 + (1 : Int32)), I)) else (k29_ (v2, v3, v4, (1 : Int32), v6, (v7 + (1 : Int32)), I)))) else (k29_ (v2, v3, v4, (1 : Int32), v6, (v7 + (1 : Int32)), I))
set_option maxRecDepth 20000 in
theorem bo_X3_unlikeSets_73 {X : mXT} {E : mEn} {Fu : Nat} {R : mRT} {L : mLT}  (hC : mC X E mX3_unlikeSets RX3 cX3_unlikeSets) (hW : mWd R)   {out : Int32 × mIT} (hE : mEd X E 0 0 (mSame (some (.int (out.1))) 106 1 (out.2) R L)) (k29_ : Int32 × Int32 × Int32 × Int32 × Int32 × Int32 × mIT → Option (Int32 × mIT)) (hk29_ : ∀ (v2 : Int32) (v3 : Int32) (v4 : Int32) (v5 : Int32) (v6 : Int32) (v7 : Int32) (I : mIT),  k29_ (v2, v3, v4, v5, v6, v7, I) = some out → mG X E 29 [(0, .ref (mB E + 69)), (1, .ref (mB E + 56)), (2, .int v2), (3, .int v3), (4, .int v4), (5, .int v5), (6, .int v6), (7, .int v7)] [] 106 1 I R L 0 0) (v2 : Int32) (v3 : Int32) (v4 : Int32) (v5 : Int32) (v6 : Int32) (v7 : Int32) (I : mIT) (h : b_X3_unlikeSets_73 Fu k29_ v2 v3 v4 v5 v6 v7 I = some out) : mG X E 73 [(0, .ref (mB E + 69)), (1, .ref (mB E + 56)), (2, .int v2), (3, .int v3), (4, .int v4), (5, .int v5), (6, .int v6), (7, .int v7)] [] 106 1 I R L 0 0 := by
  unfold b_X3_unlikeSets_73 at h
  refine g_iload hC dX3_unlikeSets_73 (q := 5) rfl ?_
  refine g_if_ne hC dX3_unlikeSets_75 (tgt := 93) (by decide) (fun c75 => ?_) (fun c75 => ?_)
  · replace h := (if_neg c75).symm.trans h
    refine g_iconst hC dX3_unlikeSets_93 (v := (1 : Int32)) (by decide) ?_
    refine g_goto hC dX3_unlikeSets_94 (tgt := 98) (by decide) ?_
    refine g_istore hC dX3_unlikeSets_98 rfl (by decide) (lv' := [(5, .int (1 : Int32)), (0, .ref (mB E + 69)), (1, .ref (mB E + 56)), (2, .int v2), (3, .int v3), (4, .int v4), (6, .int v6), (7, .int v7)]) rfl ?_
    refine g_iinc hC dX3_unlikeSets_100 rfl (q := 7) rfl (w := (v7 + (1 : Int32))) rfl (by decide) (lv' := [(7, .int (v7 + (1 : Int32))), (5, .int (1 : Int32)), (0, .ref (mB E + 69)), (1, .ref (mB E + 56)), (2, .int v2), (3, .int v3), (4, .int v4), (6, .int v6)]) rfl ?_
    refine g_goto hC dX3_unlikeSets_103 (tgt := 29) (by decide) ?_
    refine g_lv [2, 3, 4, 5, 6, 1, 7, 0] rfl ?_
    exact hk29_ v2 v3 v4 (1 : Int32) v6 (v7 + (1 : Int32)) I h
  · replace h := (if_pos c75).symm.trans h
    refine g_aload_n hC dX3_unlikeSets_78 rfl (q := 0) rfl ?_
    refine g_getr hC fd_RX3_9 rfl (by decide) (C0 := "") (t0 := _) (Or.inr rfl) (rr_69_0 hW.1) dX3_unlikeSets_79 ?_
    refine g_iload hC dX3_unlikeSets_82 (q := 7) rfl ?_
    obtain ⟨g84, h⟩ := oG_some h
    refine g_iald hC rfl (by decide) (inB_in g84) dX3_unlikeSets_84 ?_
    refine g_iload hC dX3_unlikeSets_85 (q := 4) rfl ?_
    refine g_iconst hC dX3_unlikeSets_87 (v := (-1 : Int32)) (by decide) ?_
    refine g_ixor hC dX3_unlikeSets_88 ?_
    refine g_iand hC dX3_unlikeSets_89 ?_
    refine g_if_eq hC dX3_unlikeSets_90 (tgt := 97) (by decide) (fun c90 => ?_) (fun c90 => ?_)
    · replace h := (if_pos c90).symm.trans h
      refine g_iconst hC dX3_unlikeSets_97 (v := (0 : Int32)) (by decide) ?_
      refine g_istore hC dX3_unlikeSets_98 rfl (by decide) (lv' := [(5, .int (0 : Int32)), (0, .ref (mB E + 69)), (1, .ref (mB E + 56)), (2, .int v2), (3, .int v3), (4, .int v4), (6, .int v6), (7, .int v7)]) rfl ?_
      refine g_iinc hC dX3_unlikeSets_100 rfl (q := 7) rfl (w := (v7 + (1 : Int32))) rfl (by decide) (lv' := [(7, .int (v7 + (1 : Int32))), (5, .int (0 : Int32)), (0, .ref (mB E + 69)), (1, .ref (mB E + 56)), (2, .int v2), (3, .int v3), (4, .int v4), (6, .int v6)]) rfl ?_
      refine g_goto hC dX3_unlikeSets_103 (tgt := 29) (by decide) ?_
      refine g_lv [2, 3, 4, 5, 6, 1, 7, 0] rfl ?_
      exact hk29_ v2 v3 v4 (0 : Int32) v6 (v7 + (1 : Int32)) I h
    · replace h := (if_neg c90).symm.trans h
      refine g_iconst hC dX3_unlikeSets_93 (v := (1 : Int32)) (by decide) ?_
      refine g_goto hC dX3_unlikeSets_94 (tgt := 98) (by decide) ?_
      refine g_istore hC dX3_unlikeSets_98 rfl (by decide) (lv' := [(5, .int (1 : Int32)), (0, .ref (mB E + 69)), (1, .ref (mB E + 56)), (2, .int v2), (3, .int v3), (4, .int v4), (6, .int v6), (7, .int v7)]) rfl ?_
      refine g_iinc hC dX3_unlikeSets_100 rfl (q := 7) rfl (w := (v7 + (1 : Int32))) rfl (by decide) (lv' := [(7, .int (v7 + (1 : Int32))), (5, .int (1 : Int32)), (0, .ref (mB E + 69)), (1, .ref (mB E + 56)), (2, .int v2), (3, .int v3), (4, .int v4), (6, .int v6)]) rfl ?_
      refine g_goto hC dX3_unlikeSets_103 (tgt := 29) (by decide) ?_
      refine g_lv [2, 3, 4, 5, 6, 1, 7, 0] rfl ?_
      exact hk29_ v2 v3 v4 (1 : Int32) v6 (v7 + (1 : Int32)) I h
noncomputable def b_X3_unlikeSets_29 (Fu : Nat) (k29_ : Int32 × Int32 × Int32 × Int32 × Int32 × Int32 × mIT → Option (Int32 × mIT)) (v2 : Int32) (v3 : Int32) (v4 : Int32) (v5 : Int32) (v6 : Int32) (v7 : Int32) (I : mIT) : Option (Int32 × mIT) :=
  if (nI 10) ≤ v7 then (if v5 = 0 then (some (v6, I)) else (oB (f_X1_noteBits Fu I v2 v3) (fun r115 => oB (f_X3_withSet Fu I r115 v6) (fun r120 => some (r120.1, r120.2))))) else (oG (inB v7 10) (if ((I 70 (v7).toNatClampNeg) &&& v4) = 0 then (b_X3_unlikeSets_73 Fu k29_ v2 v3 v4 v5 v6 v7 I) else (oB (f_X1_noteBits Fu I v2 (v3 &&& (((1 : Int32) <<< (v7 &&& 31)) ^^^ (-1 : Int32)))) (fun r63 => oB (f_X3_withSet Fu I r63 v6) (fun r68 => b_X3_unlikeSets_73 Fu k29_ v2 v3 v4 v5 r68.1 v7 r68.2)))))
set_option maxRecDepth 20000 in
theorem bo_X3_unlikeSets_29 {X : mXT} {E : mEn} {Fu : Nat} {R : mRT} {L : mLT}  (hC : mC X E mX3_unlikeSets RX3 cX3_unlikeSets) (hW : mWd R)   {out : Int32 × mIT} (hE : mEd X E 0 0 (mSame (some (.int (out.1))) 106 1 (out.2) R L)) (k29_ : Int32 × Int32 × Int32 × Int32 × Int32 × Int32 × mIT → Option (Int32 × mIT)) (hk29_ : ∀ (v2 : Int32) (v3 : Int32) (v4 : Int32) (v5 : Int32) (v6 : Int32) (v7 : Int32) (I : mIT),  k29_ (v2, v3, v4, v5, v6, v7, I) = some out → mG X E 29 [(0, .ref (mB E + 69)), (1, .ref (mB E + 56)), (2, .int v2), (3, .int v3), (4, .int v4), (5, .int v5), (6, .int v6), (7, .int v7)] [] 106 1 I R L 0 0) (v2 : Int32) (v3 : Int32) (v4 : Int32) (v5 : Int32) (v6 : Int32) (v7 : Int32) (I : mIT) (h : b_X3_unlikeSets_29 Fu k29_ v2 v3 v4 v5 v6 v7 I = some out) : mG X E 29 [(0, .ref (mB E + 69)), (1, .ref (mB E + 56)), (2, .int v2), (3, .int v3), (4, .int v4), (5, .int v5), (6, .int v6), (7, .int v7)] [] 106 1 I R L 0 0 := by
  unfold b_X3_unlikeSets_29 at h
  refine g_iload hC dX3_unlikeSets_29 (q := 7) rfl ?_
  refine g_aload_n hC dX3_unlikeSets_31 rfl (q := 0) rfl ?_
  refine g_getr hC fd_RX3_9 rfl (by decide) (C0 := "") (t0 := _) (Or.inr rfl) (rr_69_0 hW.1) dX3_unlikeSets_32 ?_
  refine g_alenI hC rfl (by decide) dX3_unlikeSets_35 ?_
  refine g_ic_ge hC dX3_unlikeSets_36 (tgt := 106) (by decide) (fun c36 => ?_) (fun c36 => ?_)
  · replace h := (if_pos c36).symm.trans h
    refine g_iload hC dX3_unlikeSets_106 (q := 5) rfl ?_
    refine g_if_eq hC dX3_unlikeSets_108 (tgt := 126) (by decide) (fun c108 => ?_) (fun c108 => ?_)
    · replace h := (if_pos c108).symm.trans h
      refine g_iload hC dX3_unlikeSets_126 (q := 6) rfl ?_
      cases h
      exact g_iret hC hE rfl dX3_unlikeSets_128 (Nat.zero_le _) (Nat.zero_le _) ⟨rfl, rfl, rfl, rfl, rfl, rfl⟩
    · replace h := (if_neg c108).symm.trans h
      refine g_aload_n hC dX3_unlikeSets_111 rfl (q := 0) rfl ?_
      refine g_aload_n hC dX3_unlikeSets_112 rfl (q := 1) rfl ?_
      refine g_iload_n hC dX3_unlikeSets_113 rfl (q := 2) rfl ?_
      refine g_iload_n hC dX3_unlikeSets_114 rfl (q := 3) rfl ?_
      obtain ⟨r115, h115, h⟩ := oB_some h
      refine g_cV1 hC cv_X1_noteBits wd_1420 ⟨Nat.le_of_ble_eq_true rfl, Nat.le_of_ble_eq_true rfl⟩ rfl (by decide) dX3_unlikeSets_115 (As := [.int v2, .int v3]) (st := [.ref (mB E + 69)]) (ok_X1_noteBits hC.2.2.2.2.2.2.2.1 hW h115) rfl rfl (Nat.le_of_ble_eq_true rfl) ⟨Nat.zero_le _, Nat.zero_le _⟩ ?_
      refine g_iload hC dX3_unlikeSets_118 (q := 6) rfl ?_
      obtain ⟨r120, h120, h⟩ := oB_some h
      refine g_cV1 hC cv_X3_withSet wd_1459 ⟨Nat.le_of_ble_eq_true rfl, Nat.le_of_ble_eq_true rfl⟩ rfl (by decide) dX3_unlikeSets_120 (As := [.int r115, .int v6]) (st := []) (ok_X3_withSet hC.2.2.2.2.2.2.2.1 hW h120) rfl rfl (Nat.le_of_ble_eq_true rfl) ⟨Nat.zero_le _, Nat.zero_le _⟩ ?_
      refine g_goto hC dX3_unlikeSets_123 (tgt := 128) (by decide) ?_
      cases h
      exact g_iret hC hE rfl dX3_unlikeSets_128 (Nat.zero_le _) (Nat.zero_le _) ⟨rfl, rfl, rfl, rfl, rfl, rfl⟩
  · replace h := (if_neg c36).symm.trans h
    refine g_aload_n hC dX3_unlikeSets_39 rfl (q := 0) rfl ?_
    refine g_getr hC fd_RX3_9 rfl (by decide) (C0 := "") (t0 := _) (Or.inr rfl) (rr_69_0 hW.1) dX3_unlikeSets_40 ?_
    refine g_iload hC dX3_unlikeSets_43 (q := 7) rfl ?_
    obtain ⟨g45, h⟩ := oG_some h
    refine g_iald hC rfl (by decide) (inB_in g45) dX3_unlikeSets_45 ?_
    refine g_iload hC dX3_unlikeSets_46 (q := 4) rfl ?_
    refine g_iand hC dX3_unlikeSets_48 ?_
    refine g_if_eq hC dX3_unlikeSets_49 (tgt := 73) (by decide) (fun c49 => ?_) (fun c49 => ?_)
    · replace h := (if_pos c49).symm.trans h
      exact bo_X3_unlikeSets_73 hC hW hE k29_ hk29_ (v2) (v3) (v4) (v5) (v6) (v7) (I) h
    · replace h := (if_neg c49).symm.trans h
      refine g_aload_n hC dX3_unlikeSets_52 rfl (q := 0) rfl ?_
      refine g_aload_n hC dX3_unlikeSets_53 rfl (q := 1) rfl ?_
      refine g_iload_n hC dX3_unlikeSets_54 rfl (q := 2) rfl ?_
      refine g_iload_n hC dX3_unlikeSets_55 rfl (q := 3) rfl ?_
      refine g_iconst hC dX3_unlikeSets_56 (v := (1 : Int32)) (by decide) ?_
      refine g_iload hC dX3_unlikeSets_57 (q := 7) rfl ?_
      refine g_ishl hC dX3_unlikeSets_59 ?_
      refine g_iconst hC dX3_unlikeSets_60 (v := (-1 : Int32)) (by decide) ?_
      refine g_ixor hC dX3_unlikeSets_61 ?_
      refine g_iand hC dX3_unlikeSets_62 ?_
      obtain ⟨r63, h63, h⟩ := oB_some h
      refine g_cV1 hC cv_X1_noteBits wd_1420 ⟨Nat.le_of_ble_eq_true rfl, Nat.le_of_ble_eq_true rfl⟩ rfl (by decide) dX3_unlikeSets_63 (As := [.int v2, .int (v3 &&& (((1 : Int32) <<< (v7 &&& 31)) ^^^ (-1 : Int32)))]) (st := [.ref (mB E + 69)]) (ok_X1_noteBits hC.2.2.2.2.2.2.2.1 hW h63) rfl rfl (Nat.le_of_ble_eq_true rfl) ⟨Nat.zero_le _, Nat.zero_le _⟩ ?_
      refine g_iload hC dX3_unlikeSets_66 (q := 6) rfl ?_
      obtain ⟨r68, h68, h⟩ := oB_some h
      refine g_cV1 hC cv_X3_withSet wd_1459 ⟨Nat.le_of_ble_eq_true rfl, Nat.le_of_ble_eq_true rfl⟩ rfl (by decide) dX3_unlikeSets_68 (As := [.int r63, .int v6]) (st := []) (ok_X3_withSet hC.2.2.2.2.2.2.2.1 hW h68) rfl rfl (Nat.le_of_ble_eq_true rfl) ⟨Nat.zero_le _, Nat.zero_le _⟩ ?_
      refine g_istore hC dX3_unlikeSets_71 rfl (by decide) (lv' := [(6, .int r68.1), (0, .ref (mB E + 69)), (1, .ref (mB E + 56)), (2, .int v2), (3, .int v3), (4, .int v4), (5, .int v5), (7, .int v7)]) rfl ?_
      refine g_lv [1, 2, 3, 4, 5, 6, 0, 7] rfl ?_
      exact bo_X3_unlikeSets_73 hC hW hE k29_ hk29_ (v2) (v3) (v4) (v5) (r68.1) (v7) (r68.2) h
noncomputable def w_X3_unlikeSets_29 (Fu : Nat)  (N : Nat) (v2 : Int32) (v3 : Int32) (v4 : Int32) (v5 : Int32) (v6 : Int32) (v7 : Int32) (I : mIT) : Option (Int32 × mIT) :=
  loopF (fun self (s : Int32 × Int32 × Int32 × Int32 × Int32 × Int32 × mIT) => b_X3_unlikeSets_29 Fu self s.1 s.2.1 s.2.2.1 s.2.2.2.1 s.2.2.2.2.1 s.2.2.2.2.2.1 s.2.2.2.2.2.2) N (v2, v3, v4, v5, v6, v7, I)
theorem wo_X3_unlikeSets_29 {X : mXT} {E : mEn} {Fu : Nat} {R : mRT} {L : mLT}  (hC : mC X E mX3_unlikeSets RX3 cX3_unlikeSets) (hW : mWd R)   {out : Int32 × mIT} (hE : mEd X E 0 0 (mSame (some (.int (out.1))) 106 1 (out.2) R L))  (N : Nat) (v2 : Int32) (v3 : Int32) (v4 : Int32) (v5 : Int32) (v6 : Int32) (v7 : Int32) (I : mIT) (h : w_X3_unlikeSets_29 Fu  N v2 v3 v4 v5 v6 v7 I = some out) : mG X E 29 [(0, .ref (mB E + 69)), (1, .ref (mB E + 56)), (2, .int v2), (3, .int v3), (4, .int v4), (5, .int v5), (6, .int v6), (7, .int v7)] [] 106 1 I R L 0 0 :=
  loopF_ok (Gd := fun s : Int32 × Int32 × Int32 × Int32 × Int32 × Int32 × mIT => mG X E 29 [(0, .ref (mB E + 69)), (1, .ref (mB E + 56)), (2, .int s.1), (3, .int s.2.1), (4, .int s.2.2.1), (5, .int s.2.2.2.1), (6, .int s.2.2.2.2.1), (7, .int s.2.2.2.2.2.1)] [] 106 1 s.2.2.2.2.2.2 R L 0 0) (fun self hs s h => bo_X3_unlikeSets_29 hC hW hE self (fun v2 v3 v4 v5 v6 v7 I h => hs (v2, v3, v4, v5, v6, v7, I) h) s.1 s.2.1 s.2.2.1 s.2.2.2.1 s.2.2.2.2.1 s.2.2.2.2.2.1 s.2.2.2.2.2.2 h) N (v2, v3, v4, v5, v6, v7, I) h
noncomputable def f_X3_unlikeSets (Fu : Nat) (I : mIT) (v2 : Int32) : Option (Int32 × mIT) :=
  oB (f_X1_soundingOn Fu I v2) (fun r2 => w_X3_unlikeSets_29 Fu Fu v2 r2 (((1 : Int32) <<< ((if (10 : Int32) < (v2 + (1 : Int32)) then (10 : Int32) else (v2 + (1 : Int32))) &&& 31)) - (1 : Int32)) (0 : Int32) (0 : Int32) (0 : Int32) I)
set_option maxRecDepth 20000 in
theorem ok_X3_unlikeSets {l : Launch} {E : mEn} {Fu : Nat} {I : mIT} {R : mRT} {L : mLT} {v2 : Int32} (hst : l.stackTraces = false) (hW : mWd R)  {out : Int32 × mIT} (h : f_X3_unlikeSets Fu I v2 = some out) : mOk l E mX3_unlikeSets [.ref (mB E + 69), .ref (mB E + 56), .int v2] 106 1 I R L 0 0 (mSame (some (.int (out.1))) 106 1 (out.2) R L) := by
  refine mOk_of hst (by decide) (Nat.le_of_ble_eq_true rfl) (fun X hC hE _ => ?_)
  have hC : mC X E mX3_unlikeSets RX3 cX3_unlikeSets := hC
  show mG X E 0 [(0, .ref (mB E + 69)), (1, .ref (mB E + 56)), (2, .int v2)] [] 106 1 I R L 0 0
  unfold f_X3_unlikeSets at h
  refine g_aload_n hC dX3_unlikeSets_0 rfl (q := 1) rfl ?_
  refine g_iload_n hC dX3_unlikeSets_1 rfl (q := 2) rfl ?_
  obtain ⟨r2, h2, h⟩ := oB_some h
  refine g_cV1 hC cv_X1_soundingOn wd_1419 ⟨Nat.le_of_ble_eq_true rfl, Nat.le_of_ble_eq_true rfl⟩ rfl (by decide) dX3_unlikeSets_2 (As := [.int v2]) (st := []) (ok_X1_soundingOn hC.2.2.2.2.2.2.2.1 hW h2) rfl rfl (Nat.le_of_ble_eq_true rfl) ⟨Nat.zero_le _, Nat.zero_le _⟩ ?_
  refine g_istore_n hC dX3_unlikeSets_5 rfl rfl (by decide) (lv' := [(3, .int r2), (0, .ref (mB E + 69)), (1, .ref (mB E + 56)), (2, .int v2)]) rfl ?_
  refine g_iconst hC dX3_unlikeSets_6 (v := (1 : Int32)) (by decide) ?_
  refine g_iload_n hC dX3_unlikeSets_7 rfl (q := 3) rfl ?_
  refine g_iconst hC dX3_unlikeSets_8 (v := (1 : Int32)) (by decide) ?_
  refine g_iadd hC dX3_unlikeSets_9 ?_
  refine g_bipush hC dX3_unlikeSets_10 (v := (10 : Int32)) (by decide) ?_
  refine g_mmin hC wd_1458 wd_st_min wd_in_math wd_cd_min (Nat.le_of_ble_eq_true rfl) (Nat.le_of_ble_eq_true rfl) ⟨Nat.zero_le _, Nat.zero_le _⟩ dX3_unlikeSets_12 ?_
  refine g_ishl hC dX3_unlikeSets_15 ?_
  refine g_iconst hC dX3_unlikeSets_16 (v := (1 : Int32)) (by decide) ?_
  refine g_isub hC dX3_unlikeSets_17 ?_
  refine g_istore hC dX3_unlikeSets_18 rfl (by decide) (lv' := [(4, .int (((1 : Int32) <<< ((if (10 : Int32) < (v2 + (1 : Int32)) then (10 : Int32) else (v2 + (1 : Int32))) &&& 31)) - (1 : Int32))), (3, .int r2), (0, .ref (mB E + 69)), (1, .ref (mB E + 56)), (2, .int v2)]) rfl ?_
  refine g_iconst hC dX3_unlikeSets_20 (v := (0 : Int32)) (by decide) ?_
  refine g_istore hC dX3_unlikeSets_21 rfl (by decide) (lv' := [(5, .int (0 : Int32)), (4, .int (((1 : Int32) <<< ((if (10 : Int32) < (v2 + (1 : Int32)) then (10 : Int32) else (v2 + (1 : Int32))) &&& 31)) - (1 : Int32))), (3, .int r2), (0, .ref (mB E + 69)), (1, .ref (mB E + 56)), (2, .int v2)]) rfl ?_
  refine g_iconst hC dX3_unlikeSets_23 (v := (0 : Int32)) (by decide) ?_
  refine g_istore hC dX3_unlikeSets_24 rfl (by decide) (lv' := [(6, .int (0 : Int32)), (5, .int (0 : Int32)), (4, .int (((1 : Int32) <<< ((if (10 : Int32) < (v2 + (1 : Int32)) then (10 : Int32) else (v2 + (1 : Int32))) &&& 31)) - (1 : Int32))), (3, .int r2), (0, .ref (mB E + 69)), (1, .ref (mB E + 56)), (2, .int v2)]) rfl ?_
  refine g_iconst hC dX3_unlikeSets_26 (v := (0 : Int32)) (by decide) ?_
  refine g_istore hC dX3_unlikeSets_27 rfl (by decide) (lv' := [(7, .int (0 : Int32)), (6, .int (0 : Int32)), (5, .int (0 : Int32)), (4, .int (((1 : Int32) <<< ((if (10 : Int32) < (v2 + (1 : Int32)) then (10 : Int32) else (v2 + (1 : Int32))) &&& 31)) - (1 : Int32))), (3, .int r2), (0, .ref (mB E + 69)), (1, .ref (mB E + 56)), (2, .int v2)]) rfl ?_
  refine g_lv [5, 6, 7, 4, 3, 2, 1, 0] rfl ?_
  exact wo_X3_unlikeSets_29 hC hW hE Fu (v2) (r2) ((((1 : Int32) <<< ((if (10 : Int32) < (v2 + (1 : Int32)) then (10 : Int32) else (v2 + (1 : Int32))) &&& 31)) - (1 : Int32))) ((0 : Int32)) ((0 : Int32)) ((0 : Int32)) (I) h
noncomputable def b_X3_findDay_12 (Fu : Nat) (k12_ : Int32 × mIT → Option (mIT)) (v2 : Int32) (I : mIT) : Option (mIT) :=
  if (30 : Int32) < v2 then (some (I)) else (oB (f_X3_unlikeSets Fu I v2) (fun r21 => if r21.1 ≤ (r21.2 69 5) then (k12_ ((v2 + (1 : Int32)), r21.2)) else (k12_ ((v2 + (1 : Int32)), (mU (mU r21.2 69 5 r21.1) 69 4 v2)))))
set_option maxRecDepth 20000 in
theorem bo_X3_findDay_12 {X : mXT} {E : mEn} {Fu : Nat} {R : mRT} {L : mLT}  (hC : mC X E mX3_findDay RX3 cX3_findDay) (hW : mWd R)   {out : mIT} (hE : mEd X E 0 0 (mSame none 106 1 (out) R L)) (k12_ : Int32 × mIT → Option (mIT)) (hk12_ : ∀ (v2 : Int32) (I : mIT),  k12_ (v2, I) = some out → mG X E 12 [(0, .ref (mB E + 69)), (1, .ref (mB E + 56)), (2, .int v2)] [] 106 1 I R L 0 0) (v2 : Int32) (I : mIT) (h : b_X3_findDay_12 Fu k12_ v2 I = some out) : mG X E 12 [(0, .ref (mB E + 69)), (1, .ref (mB E + 56)), (2, .int v2)] [] 106 1 I R L 0 0 := by
  unfold b_X3_findDay_12 at h
  refine g_iload_n hC dX3_findDay_12 rfl (q := 2) rfl ?_
  refine g_bipush hC dX3_findDay_13 (v := (30 : Int32)) (by decide) ?_
  refine g_ic_gt hC dX3_findDay_15 (tgt := 49) (by decide) (fun c15 => ?_) (fun c15 => ?_)
  · replace h := (if_pos c15).symm.trans h
    cases h
    exact g_vret hC hE rfl dX3_findDay_49 (Nat.zero_le _) (Nat.zero_le _) ⟨rfl, rfl, rfl, rfl, rfl, rfl⟩
  · replace h := (if_neg c15).symm.trans h
    refine g_aload_n hC dX3_findDay_18 rfl (q := 0) rfl ?_
    refine g_aload_n hC dX3_findDay_19 rfl (q := 1) rfl ?_
    refine g_iload_n hC dX3_findDay_20 rfl (q := 2) rfl ?_
    obtain ⟨r21, h21, h⟩ := oB_some h
    refine g_cV1 hC cv_X3_unlikeSets wd_1454 ⟨Nat.le_of_ble_eq_true rfl, Nat.le_of_ble_eq_true rfl⟩ rfl (by decide) dX3_findDay_21 (As := [.ref (mB E + 56), .int v2]) (st := []) (ok_X3_unlikeSets hC.2.2.2.2.2.2.2.1 hW h21) rfl rfl (Nat.le_of_ble_eq_true rfl) ⟨Nat.zero_le _, Nat.zero_le _⟩ ?_
    refine g_istore_n hC dX3_findDay_24 rfl rfl (by decide) (lv' := [(3, .int r21.1), (0, .ref (mB E + 69)), (1, .ref (mB E + 56)), (2, .int v2)]) rfl ?_
    refine g_iload_n hC dX3_findDay_25 rfl (q := 0) rfl ?_
    refine g_aload_n hC dX3_findDay_26 rfl (q := 1) rfl ?_
    refine g_geti hC fd_RX3_28 rfl (by decide) (Or.inl rfl) dX3_findDay_27 ?_
    refine g_ic_le hC dX3_findDay_30 (tgt := 43) (by decide) (fun c30 => ?_) (fun c30 => ?_)
    · replace h := (if_pos c30).symm.trans h
      refine g_iinc hC dX3_findDay_43 rfl (q := 3) rfl (w := (v2 + (1 : Int32))) rfl (by decide) (lv' := [(2, .int (v2 + (1 : Int32))), (3, .int r21.1), (0, .ref (mB E + 69)), (1, .ref (mB E + 56))]) rfl ?_
      refine g_goto hC dX3_findDay_46 (tgt := 12) (by decide) ?_
      refine g_lv [2, 3, 0] rfl ?_
      exact hk12_ (v2 + (1 : Int32)) r21.2 h
    · replace h := (if_neg c30).symm.trans h
      refine g_aload_n hC dX3_findDay_33 rfl (q := 1) rfl ?_
      refine g_iload_n hC dX3_findDay_34 rfl (q := 0) rfl ?_
      refine g_puti hC fd_RX3_28 rfl (by decide) rfl dX3_findDay_35 (nm_e ?_)
      refine g_aload_n hC dX3_findDay_38 rfl (q := 1) rfl ?_
      refine g_iload_n hC dX3_findDay_39 rfl (q := 3) rfl ?_
      refine g_puti hC fd_RX3_25 rfl (by decide) rfl dX3_findDay_40 (nm_e ?_)
      refine g_iinc hC dX3_findDay_43 rfl (q := 3) rfl (w := (v2 + (1 : Int32))) rfl (by decide) (lv' := [(2, .int (v2 + (1 : Int32))), (3, .int r21.1), (0, .ref (mB E + 69)), (1, .ref (mB E + 56))]) rfl ?_
      refine g_goto hC dX3_findDay_46 (tgt := 12) (by decide) ?_
      refine g_lv [2, 3, 0] rfl ?_
      exact hk12_ (v2 + (1 : Int32)) (mU (mU r21.2 69 5 r21.1) 69 4 v2) h
noncomputable def w_X3_findDay_12 (Fu : Nat)  (N : Nat) (v2 : Int32) (I : mIT) : Option (mIT) :=
  loopF (fun self (s : Int32 × mIT) => b_X3_findDay_12 Fu self s.1 s.2) N (v2, I)
theorem wo_X3_findDay_12 {X : mXT} {E : mEn} {Fu : Nat} {R : mRT} {L : mLT}  (hC : mC X E mX3_findDay RX3 cX3_findDay) (hW : mWd R)   {out : mIT} (hE : mEd X E 0 0 (mSame none 106 1 (out) R L))  (N : Nat) (v2 : Int32) (I : mIT) (h : w_X3_findDay_12 Fu  N v2 I = some out) : mG X E 12 [(0, .ref (mB E + 69)), (1, .ref (mB E + 56)), (2, .int v2)] [] 106 1 I R L 0 0 :=
  loopF_ok (Gd := fun s : Int32 × mIT => mG X E 12 [(0, .ref (mB E + 69)), (1, .ref (mB E + 56)), (2, .int s.1)] [] 106 1 s.2 R L 0 0) (fun self hs s h => bo_X3_findDay_12 hC hW hE self (fun v2 I h => hs (v2, I) h) s.1 s.2 h) N (v2, I) h
noncomputable def f_X3_findDay (Fu : Nat) (I : mIT)  : Option (mIT) :=
  w_X3_findDay_12 Fu Fu (0 : Int32) (mU (mU I 69 4 (-1 : Int32)) 69 5 (0 : Int32))
set_option maxRecDepth 20000 in
theorem ok_X3_findDay {l : Launch} {E : mEn} {Fu : Nat} {I : mIT} {R : mRT} {L : mLT}  (hst : l.stackTraces = false) (hW : mWd R)  {out : mIT} (h : f_X3_findDay Fu I  = some out) : mOk l E mX3_findDay [.ref (mB E + 69), .ref (mB E + 56)] 106 1 I R L 0 0 (mSame none 106 1 (out) R L) := by
  refine mOk_of hst (by decide) (Nat.le_of_ble_eq_true rfl) (fun X hC hE _ => ?_)
  have hC : mC X E mX3_findDay RX3 cX3_findDay := hC
  show mG X E 0 [(0, .ref (mB E + 69)), (1, .ref (mB E + 56))] [] 106 1 I R L 0 0
  unfold f_X3_findDay at h
  refine g_aload_n hC dX3_findDay_0 rfl (q := 0) rfl ?_
  refine g_iconst hC dX3_findDay_1 (v := (-1 : Int32)) (by decide) ?_
  refine g_puti hC fd_RX3_25 rfl (by decide) rfl dX3_findDay_2 (nm_e ?_)
  refine g_aload_n hC dX3_findDay_5 rfl (q := 0) rfl ?_
  refine g_iconst hC dX3_findDay_6 (v := (0 : Int32)) (by decide) ?_
  refine g_puti hC fd_RX3_28 rfl (by decide) rfl dX3_findDay_7 (nm_e ?_)
  refine g_iconst hC dX3_findDay_10 (v := (0 : Int32)) (by decide) ?_
  refine g_istore_n hC dX3_findDay_11 rfl rfl (by decide) (lv' := [(2, .int (0 : Int32)), (0, .ref (mB E + 69)), (1, .ref (mB E + 56))]) rfl ?_
  refine g_lv [1, 2, 0] rfl ?_
  exact wo_X3_findDay_12 hC hW hE Fu ((0 : Int32)) ((mU (mU I 69 4 (-1 : Int32)) 69 5 (0 : Int32))) h
noncomputable def f_X3_tellingDay (Fu : Nat) (I : mIT)  : Option (Int32) :=
  some (I 69 4)
set_option maxRecDepth 20000 in
theorem ok_X3_tellingDay {l : Launch} {E : mEn} {Fu : Nat} {I : mIT} {R : mRT} {L : mLT}  (hst : l.stackTraces = false) (hW : mWd R)  {out : Int32} (h : f_X3_tellingDay Fu I  = some out) : mOk l E mX3_tellingDay [.ref (mB E + 69)] 106 1 I R L 0 0 (mSame (some (.int (out))) 106 1 I R L) := by
  refine mOk_of hst (by decide) (Nat.le_of_ble_eq_true rfl) (fun X hC hE _ => ?_)
  have hC : mC X E mX3_tellingDay RX3 cX3_tellingDay := hC
  show mG X E 0 [(0, .ref (mB E + 69))] [] 106 1 I R L 0 0
  unfold f_X3_tellingDay at h
  refine g_aload_n hC dX3_tellingDay_0 rfl (q := 0) rfl ?_
  refine g_geti hC fd_RX3_25 rfl (by decide) (Or.inl rfl) dX3_tellingDay_1 ?_
  cases h
  exact g_iret hC hE rfl dX3_tellingDay_4 (Nat.zero_le _) (Nat.zero_le _) ⟨rfl, rfl, rfl, rfl, rfl, rfl⟩
noncomputable def f_X3_tellingSets (Fu : Nat) (I : mIT)  : Option (Int32) :=
  some (I 69 5)
set_option maxRecDepth 20000 in
theorem ok_X3_tellingSets {l : Launch} {E : mEn} {Fu : Nat} {I : mIT} {R : mRT} {L : mLT}  (hst : l.stackTraces = false) (hW : mWd R)  {out : Int32} (h : f_X3_tellingSets Fu I  = some out) : mOk l E mX3_tellingSets [.ref (mB E + 69)] 106 1 I R L 0 0 (mSame (some (.int (out))) 106 1 I R L) := by
  refine mOk_of hst (by decide) (Nat.le_of_ble_eq_true rfl) (fun X hC hE _ => ?_)
  have hC : mC X E mX3_tellingSets RX3 cX3_tellingSets := hC
  show mG X E 0 [(0, .ref (mB E + 69))] [] 106 1 I R L 0 0
  unfold f_X3_tellingSets at h
  refine g_aload_n hC dX3_tellingSets_0 rfl (q := 0) rfl ?_
  refine g_geti hC fd_RX3_28 rfl (by decide) (Or.inl rfl) dX3_tellingSets_1 ?_
  cases h
  exact g_iret hC hE rfl dX3_tellingSets_4 (Nat.zero_le _) (Nat.zero_le _) ⟨rfl, rfl, rfl, rfl, rfl, rfl⟩
noncomputable def b_X7_numberBehind_11 (Fu : Nat) (I : mIT) (k11_ : Int32 × Int32 × Int32 → Option (Int32)) (v2 : Int32) (v3 : Int32) (v4 : Int32) : Option (Int32) :=
  if (I 62 3) ≤ v4 then (some (v3)) else (oB (f_X7_bellAt Fu v2 v4) (fun r27 => k11_ (v2, (((10 : Int32) * v3) + r27), (v4 + (1 : Int32)))))
set_option maxRecDepth 20000 in
theorem bo_X7_numberBehind_11 {X : mXT} {E : mEn} {Fu : Nat} {I : mIT} {R : mRT} {L : mLT}  (hC : mC X E mX7_numberBehind RX7 cX7_numberBehind) (hW : mWd R)   {out : Int32} (hE : mEd X E 0 0 (mSame (some (.int (out))) 106 1 I R L)) (k11_ : Int32 × Int32 × Int32 → Option (Int32)) (hk11_ : ∀ (v2 : Int32) (v3 : Int32) (v4 : Int32),  k11_ (v2, v3, v4) = some out → mG X E 11 [(0, .ref (mB E + 62)), (2, .int v2), (3, .int v3), (4, .int v4)] [] 106 1 I R L 0 0) (v2 : Int32) (v3 : Int32) (v4 : Int32) (h : b_X7_numberBehind_11 Fu I k11_ v2 v3 v4 = some out) : mG X E 11 [(0, .ref (mB E + 62)), (2, .int v2), (3, .int v3), (4, .int v4)] [] 106 1 I R L 0 0 := by
  unfold b_X7_numberBehind_11 at h
  refine g_iload hC dX7_numberBehind_11 (q := 3) rfl ?_
  refine g_aload_n hC dX7_numberBehind_13 rfl (q := 0) rfl ?_
  refine g_geti hC fd_RX7_21 rfl (by decide) (Or.inl rfl) dX7_numberBehind_14 ?_
  refine g_ic_ge hC dX7_numberBehind_17 (tgt := 38) (by decide) (fun c17 => ?_) (fun c17 => ?_)
  · replace h := (if_pos c17).symm.trans h
    refine g_iload_n hC dX7_numberBehind_38 rfl (q := 2) rfl ?_
    cases h
    exact g_iret hC hE rfl dX7_numberBehind_39 (Nat.zero_le _) (Nat.zero_le _) ⟨rfl, rfl, rfl, rfl, rfl, rfl⟩
  · replace h := (if_neg c17).symm.trans h
    refine g_bipush hC dX7_numberBehind_20 (v := (10 : Int32)) (by decide) ?_
    refine g_iload_n hC dX7_numberBehind_22 rfl (q := 2) rfl ?_
    refine g_imul hC dX7_numberBehind_23 ?_
    refine g_iload_n hC dX7_numberBehind_24 rfl (q := 1) rfl ?_
    refine g_iload hC dX7_numberBehind_25 (q := 3) rfl ?_
    obtain ⟨r27, h27, h⟩ := oB_some h
    refine g_cS1 hC cs_X7_bellAt wd_745 ⟨Nat.le_of_ble_eq_true rfl, Nat.le_of_ble_eq_true rfl⟩ dX7_numberBehind_27 (As := [.int v2, .int v4]) (st := [.int ((10 : Int32) * v3)]) (ok_X7_bellAt hC.2.2.2.2.2.2.2.1  h27) rfl rfl (Nat.le_of_ble_eq_true rfl) ⟨Nat.zero_le _, Nat.zero_le _⟩ ?_
    refine g_iadd hC dX7_numberBehind_30 ?_
    refine g_istore_n hC dX7_numberBehind_31 rfl rfl (by decide) (lv' := [(3, .int (((10 : Int32) * v3) + r27)), (0, .ref (mB E + 62)), (2, .int v2), (4, .int v4)]) rfl ?_
    refine g_iinc hC dX7_numberBehind_32 rfl (q := 3) rfl (w := (v4 + (1 : Int32))) rfl (by decide) (lv' := [(4, .int (v4 + (1 : Int32))), (3, .int (((10 : Int32) * v3) + r27)), (0, .ref (mB E + 62)), (2, .int v2)]) rfl ?_
    refine g_goto hC dX7_numberBehind_35 (tgt := 11) (by decide) ?_
    refine g_lv [2, 3, 1, 0] rfl ?_
    exact hk11_ v2 (((10 : Int32) * v3) + r27) (v4 + (1 : Int32)) h
noncomputable def w_X7_numberBehind_11 (Fu : Nat) (I : mIT)  (N : Nat) (v2 : Int32) (v3 : Int32) (v4 : Int32) : Option (Int32) :=
  loopF (fun self (s : Int32 × Int32 × Int32) => b_X7_numberBehind_11 Fu I self s.1 s.2.1 s.2.2) N (v2, v3, v4)
theorem wo_X7_numberBehind_11 {X : mXT} {E : mEn} {Fu : Nat} {I : mIT} {R : mRT} {L : mLT}  (hC : mC X E mX7_numberBehind RX7 cX7_numberBehind) (hW : mWd R)   {out : Int32} (hE : mEd X E 0 0 (mSame (some (.int (out))) 106 1 I R L))  (N : Nat) (v2 : Int32) (v3 : Int32) (v4 : Int32) (h : w_X7_numberBehind_11 Fu I  N v2 v3 v4 = some out) : mG X E 11 [(0, .ref (mB E + 62)), (2, .int v2), (3, .int v3), (4, .int v4)] [] 106 1 I R L 0 0 :=
  loopF_ok (Gd := fun s : Int32 × Int32 × Int32 => mG X E 11 [(0, .ref (mB E + 62)), (2, .int s.1), (3, .int s.2.1), (4, .int s.2.2)] [] 106 1 I R L 0 0) (fun self hs s h => bo_X7_numberBehind_11 hC hW hE self (fun v2 v3 v4 h => hs (v2, v3, v4) h) s.1 s.2.1 s.2.2 h) N (v2, v3, v4) h
noncomputable def f_X7_numberBehind (Fu : Nat) (I : mIT) (v1 : Int32) : Option (Int32) :=
  oB (f_X7_rowBehind Fu I v1) (fun r2 => w_X7_numberBehind_11 Fu I Fu r2 (0 : Int32) (0 : Int32))
set_option maxRecDepth 20000 in
theorem ok_X7_numberBehind {l : Launch} {E : mEn} {Fu : Nat} {I : mIT} {R : mRT} {L : mLT} {v1 : Int32} (hst : l.stackTraces = false) (hW : mWd R)  {out : Int32} (h : f_X7_numberBehind Fu I v1 = some out) : mOk l E mX7_numberBehind [.ref (mB E + 62), .int v1] 106 1 I R L 0 0 (mSame (some (.int (out))) 106 1 I R L) := by
  refine mOk_of hst (by decide) (Nat.le_of_ble_eq_true rfl) (fun X hC hE _ => ?_)
  have hC : mC X E mX7_numberBehind RX7 cX7_numberBehind := hC
  show mG X E 0 [(0, .ref (mB E + 62)), (1, .int v1)] [] 106 1 I R L 0 0
  unfold f_X7_numberBehind at h
  refine g_aload_n hC dX7_numberBehind_0 rfl (q := 0) rfl ?_
  refine g_iload_n hC dX7_numberBehind_1 rfl (q := 1) rfl ?_
  obtain ⟨r2, h2, h⟩ := oB_some h
  refine g_cV1 hC cv_X7_rowBehind wd_1340 ⟨Nat.le_of_ble_eq_true rfl, Nat.le_of_ble_eq_true rfl⟩ rfl (by decide) dX7_numberBehind_2 (As := [.int v1]) (st := []) (ok_X7_rowBehind hC.2.2.2.2.2.2.2.1 hW h2) rfl rfl (Nat.le_of_ble_eq_true rfl) ⟨Nat.zero_le _, Nat.zero_le _⟩ ?_
  refine g_istore_n hC dX7_numberBehind_5 rfl rfl (by decide) (lv' := [(2, .int r2), (0, .ref (mB E + 62)), (1, .int v1)]) rfl ?_
  refine g_iconst hC dX7_numberBehind_6 (v := (0 : Int32)) (by decide) ?_
  refine g_istore_n hC dX7_numberBehind_7 rfl rfl (by decide) (lv' := [(3, .int (0 : Int32)), (2, .int r2), (0, .ref (mB E + 62)), (1, .int v1)]) rfl ?_
  refine g_iconst hC dX7_numberBehind_8 (v := (0 : Int32)) (by decide) ?_
  refine g_istore hC dX7_numberBehind_9 rfl (by decide) (lv' := [(4, .int (0 : Int32)), (3, .int (0 : Int32)), (2, .int r2), (0, .ref (mB E + 62)), (1, .int v1)]) rfl ?_
  refine g_lv [3, 2, 1, 0] rfl ?_
  exact wo_X7_numberBehind_11 hC hW hE Fu (r2) ((0 : Int32)) ((0 : Int32)) h
noncomputable def f_X8_clear (Fu : Nat) (I : mIT) (k0 : Nat) : Option (mIT) :=
  some (mU (mU I k0 5 (0 : Int32)) k0 6 (0 : Int32))
set_option maxRecDepth 20000 in
theorem ok_X8_clear {l : Launch} {E : mEn} {Fu : Nat} {I : mIT} {R : mRT} {L : mLT} {k0 : Nat} (hst : l.stackTraces = false) (hk0 : mO8 R k0) {out : mIT} (h : f_X8_clear Fu I k0 = some out) : mOk l E mX8_clear [.ref (mB E + k0)] 106 1 I R L 0 0 (mSame none 106 1 (out) R L) := by
  refine mOk_of hst (by decide) (Nat.le_of_ble_eq_true rfl) (fun X hC hE _ => ?_)
  have hC : mC X E mX8_clear RX8 cX8_clear := hC
  show mG X E 0 [(0, .ref (mB E + k0))] [] 106 1 I R L 0 0
  unfold f_X8_clear at h
  refine g_aload_n hC dX8_clear_0 rfl (q := 0) rfl ?_
  refine g_iconst hC dX8_clear_1 (v := (0 : Int32)) (by decide) ?_
  refine g_puti hC fd_RX8_27 hk0.2.1 hk0.1 rfl dX8_clear_2 (nm_e ?_)
  refine g_aload_n hC dX8_clear_5 rfl (q := 0) rfl ?_
  refine g_iconst hC dX8_clear_6 (v := (0 : Int32)) (by decide) ?_
  refine g_puti hC fd_RX8_31 hk0.2.1 hk0.1 rfl dX8_clear_7 (nm_e ?_)
  cases h
  exact g_vret hC hE rfl dX8_clear_10 (Nat.zero_le _) (Nat.zero_le _) ⟨rfl, rfl, rfl, rfl, rfl, rfl⟩
noncomputable def b_X9_clear_2 (Fu : Nat) (k0 : Nat) (k2_ : Int32 × mIT → Option (mIT)) (v1 : Int32) (I : mIT) : Option (mIT) :=
  if (nI 53) ≤ v1 then (some (I)) else (oG (inB v1 53) (k2_ ((v1 + (1 : Int32)), (mU I (k0 + 1) (v1).toNatClampNeg (0 : Int32)))))
set_option maxRecDepth 20000 in
theorem bo_X9_clear_2 {X : mXT} {E : mEn} {Fu : Nat} {R : mRT} {L : mLT} {k0 : Nat} (hC : mC X E mX9_clear RX9 cX9_clear) (hk0 : mO9 R k0)  {out : mIT} (hE : mEd X E 0 0 (mSame none 106 1 (out) R L)) (k2_ : Int32 × mIT → Option (mIT)) (hk2_ : ∀ (v1 : Int32) (I : mIT),  k2_ (v1, I) = some out → mG X E 2 [(0, .ref (mB E + k0)), (1, .int v1)] [] 106 1 I R L 0 0) (v1 : Int32) (I : mIT) (h : b_X9_clear_2 Fu k0 k2_ v1 I = some out) : mG X E 2 [(0, .ref (mB E + k0)), (1, .int v1)] [] 106 1 I R L 0 0 := by
  unfold b_X9_clear_2 at h
  refine g_iload_n hC dX9_clear_2 rfl (q := 1) rfl ?_
  refine g_aload_n hC dX9_clear_3 rfl (q := 0) rfl ?_
  refine g_getr hC fd_RX9_11 hk0.2.1 hk0.1 (C0 := "") (t0 := _) (Or.inr rfl) hk0.2.2.1 dX9_clear_4 ?_
  refine g_alenI hC hk0.2.2.2.2 hk0.2.2.2.1 dX9_clear_7 ?_
  refine g_ic_ge hC dX9_clear_8 (tgt := 24) (by decide) (fun c8 => ?_) (fun c8 => ?_)
  · replace h := (if_pos c8).symm.trans h
    cases h
    exact g_vret hC hE rfl dX9_clear_24 (Nat.zero_le _) (Nat.zero_le _) ⟨rfl, rfl, rfl, rfl, rfl, rfl⟩
  · replace h := (if_neg c8).symm.trans h
    refine g_aload_n hC dX9_clear_11 rfl (q := 0) rfl ?_
    refine g_getr hC fd_RX9_11 hk0.2.1 hk0.1 (C0 := "") (t0 := _) (Or.inr rfl) hk0.2.2.1 dX9_clear_12 ?_
    refine g_iload_n hC dX9_clear_15 rfl (q := 1) rfl ?_
    refine g_iconst hC dX9_clear_16 (v := (0 : Int32)) (by decide) ?_
    obtain ⟨g17, h⟩ := oG_some h
    refine g_iast hC hk0.2.2.2.2 hk0.2.2.2.1 (inB_in g17) dX9_clear_17 (nm_e ?_)
    refine g_iinc hC dX9_clear_18 rfl (q := 1) rfl (w := (v1 + (1 : Int32))) rfl (by decide) (lv' := [(1, .int (v1 + (1 : Int32))), (0, .ref (mB E + k0))]) rfl ?_
    refine g_goto hC dX9_clear_21 (tgt := 2) (by decide) ?_
    refine g_lv [1, 0] rfl ?_
    exact hk2_ (v1 + (1 : Int32)) (mU I (k0 + 1) (v1).toNatClampNeg (0 : Int32)) h
noncomputable def w_X9_clear_2 (Fu : Nat) (k0 : Nat)  (N : Nat) (v1 : Int32) (I : mIT) : Option (mIT) :=
  loopF (fun self (s : Int32 × mIT) => b_X9_clear_2 Fu k0 self s.1 s.2) N (v1, I)
theorem wo_X9_clear_2 {X : mXT} {E : mEn} {Fu : Nat} {R : mRT} {L : mLT} {k0 : Nat} (hC : mC X E mX9_clear RX9 cX9_clear) (hk0 : mO9 R k0)  {out : mIT} (hE : mEd X E 0 0 (mSame none 106 1 (out) R L))  (N : Nat) (v1 : Int32) (I : mIT) (h : w_X9_clear_2 Fu k0  N v1 I = some out) : mG X E 2 [(0, .ref (mB E + k0)), (1, .int v1)] [] 106 1 I R L 0 0 :=
  loopF_ok (Gd := fun s : Int32 × mIT => mG X E 2 [(0, .ref (mB E + k0)), (1, .int s.1)] [] 106 1 s.2 R L 0 0) (fun self hs s h => bo_X9_clear_2 hC hk0 hE self (fun v1 I h => hs (v1, I) h) s.1 s.2 h) N (v1, I) h
noncomputable def f_X9_clear (Fu : Nat) (I : mIT) (k0 : Nat) : Option (mIT) :=
  w_X9_clear_2 Fu k0 Fu (0 : Int32) I
set_option maxRecDepth 20000 in
theorem ok_X9_clear {l : Launch} {E : mEn} {Fu : Nat} {I : mIT} {R : mRT} {L : mLT} {k0 : Nat} (hst : l.stackTraces = false) (hk0 : mO9 R k0) {out : mIT} (h : f_X9_clear Fu I k0 = some out) : mOk l E mX9_clear [.ref (mB E + k0)] 106 1 I R L 0 0 (mSame none 106 1 (out) R L) := by
  refine mOk_of hst (by decide) (Nat.le_of_ble_eq_true rfl) (fun X hC hE _ => ?_)
  have hC : mC X E mX9_clear RX9 cX9_clear := hC
  show mG X E 0 [(0, .ref (mB E + k0))] [] 106 1 I R L 0 0
  unfold f_X9_clear at h
  refine g_iconst hC dX9_clear_0 (v := (0 : Int32)) (by decide) ?_
  refine g_istore_n hC dX9_clear_1 rfl rfl (by decide) (lv' := [(1, .int (0 : Int32)), (0, .ref (mB E + k0))]) rfl ?_
  refine g_lv [1, 0] rfl ?_
  exact wo_X9_clear_2 hC hk0 hE Fu ((0 : Int32)) (I) h
noncomputable def f_X5_clear (Fu : Nat) (I : mIT) (k0 : Nat) : Option (mIT) :=
  oB (f_X8_clear Fu (mU (mU (mU (mU (mU (mU I k0 3 (0 : Int32)) k0 4 (0 : Int32)) k0 5 (20 : Int32)) k0 6 (0 : Int32)) k0 7 (0 : Int32)) k0 8 (0 : Int32)) (k0 + 4)) (fun r35 => oB (f_X8_clear Fu r35 (k0 + 10)) (fun r42 => oB (f_X9_clear Fu r42 (k0 + 16)) (fun r49 => some (r49))))
set_option maxRecDepth 20000 in
theorem ok_X5_clear {l : Launch} {E : mEn} {Fu : Nat} {I : mIT} {R : mRT} {L : mLT} {k0 : Nat} (hst : l.stackTraces = false) (hk0 : mO5 R k0) {out : mIT} (h : f_X5_clear Fu I k0 = some out) : mOk l E mX5_clear [.ref (mB E + k0)] 106 1 I R L 0 0 (mSame none 106 1 (out) R L) := by
  refine mOk_of hst (by decide) (Nat.le_of_ble_eq_true rfl) (fun X hC hE _ => ?_)
  have hC : mC X E mX5_clear RX5 cX5_clear := hC
  show mG X E 0 [(0, .ref (mB E + k0))] [] 106 1 I R L 0 0
  unfold f_X5_clear at h
  refine g_aload_n hC dX5_clear_0 rfl (q := 0) rfl ?_
  refine g_iconst hC dX5_clear_1 (v := (0 : Int32)) (by decide) ?_
  refine g_puti hC fd_RX5_21 hk0.2.1 hk0.1 rfl dX5_clear_2 (nm_e ?_)
  refine g_aload_n hC dX5_clear_5 rfl (q := 0) rfl ?_
  refine g_iconst hC dX5_clear_6 (v := (0 : Int32)) (by decide) ?_
  refine g_puti hC fd_RX5_25 hk0.2.1 hk0.1 rfl dX5_clear_7 (nm_e ?_)
  refine g_aload_n hC dX5_clear_10 rfl (q := 0) rfl ?_
  refine g_bipush hC dX5_clear_11 (v := (20 : Int32)) (by decide) ?_
  refine g_puti hC fd_RX5_28 hk0.2.1 hk0.1 rfl dX5_clear_13 (nm_e ?_)
  refine g_aload_n hC dX5_clear_16 rfl (q := 0) rfl ?_
  refine g_iconst hC dX5_clear_17 (v := (0 : Int32)) (by decide) ?_
  refine g_puti hC fd_RX5_31 hk0.2.1 hk0.1 rfl dX5_clear_18 (nm_e ?_)
  refine g_aload_n hC dX5_clear_21 rfl (q := 0) rfl ?_
  refine g_iconst hC dX5_clear_22 (v := (0 : Int32)) (by decide) ?_
  refine g_puti hC fd_RX5_34 hk0.2.1 hk0.1 rfl dX5_clear_23 (nm_e ?_)
  refine g_aload_n hC dX5_clear_26 rfl (q := 0) rfl ?_
  refine g_iconst hC dX5_clear_27 (v := (0 : Int32)) (by decide) ?_
  refine g_puti hC fd_RX5_37 hk0.2.1 hk0.1 rfl dX5_clear_28 (nm_e ?_)
  refine g_aload_n hC dX5_clear_31 rfl (q := 0) rfl ?_
  refine g_getr hC fd_RX5_43 hk0.2.1 hk0.1 (C0 := _) (t0 := .int) (Or.inl rfl) hk0.2.2.2.2.2.1.1 dX5_clear_32 ?_
  obtain ⟨r35, h35, h⟩ := oB_some h
  refine g_cV0 hC cv_X8_clear wd_916 ⟨Nat.le_of_ble_eq_true rfl, Nat.le_of_ble_eq_true rfl⟩ hk0.2.2.2.2.2.1.2.2.1 hk0.2.2.2.2.2.1.2.1 dX5_clear_35 (As := []) (st := []) (ok_X8_clear hC.2.2.2.2.2.2.2.1 hk0.2.2.2.2.2.1.2 h35) rfl rfl (Nat.le_of_ble_eq_true rfl) ⟨Nat.zero_le _, Nat.zero_le _⟩ ?_
  refine g_aload_n hC dX5_clear_38 rfl (q := 0) rfl ?_
  refine g_getr hC fd_RX5_47 hk0.2.1 hk0.1 (C0 := _) (t0 := .int) (Or.inl rfl) hk0.2.2.2.2.2.2.1.1 dX5_clear_39 ?_
  obtain ⟨r42, h42, h⟩ := oB_some h
  refine g_cV0 hC cv_X8_clear wd_916 ⟨Nat.le_of_ble_eq_true rfl, Nat.le_of_ble_eq_true rfl⟩ hk0.2.2.2.2.2.2.1.2.2.1 hk0.2.2.2.2.2.2.1.2.1 dX5_clear_42 (As := []) (st := []) (ok_X8_clear hC.2.2.2.2.2.2.2.1 hk0.2.2.2.2.2.2.1.2 h42) rfl rfl (Nat.le_of_ble_eq_true rfl) ⟨Nat.zero_le _, Nat.zero_le _⟩ ?_
  refine g_aload_n hC dX5_clear_45 rfl (q := 0) rfl ?_
  refine g_getr hC fd_RX5_53 hk0.2.1 hk0.1 (C0 := _) (t0 := .int) (Or.inl rfl) hk0.2.2.2.2.2.2.2.1 dX5_clear_46 ?_
  obtain ⟨r49, h49, h⟩ := oB_some h
  refine g_cV0 hC cv_X9_clear wd_920 ⟨Nat.le_of_ble_eq_true rfl, Nat.le_of_ble_eq_true rfl⟩ hk0.2.2.2.2.2.2.2.2.2.1 hk0.2.2.2.2.2.2.2.2.1 dX5_clear_49 (As := []) (st := []) (ok_X9_clear hC.2.2.2.2.2.2.2.1 hk0.2.2.2.2.2.2.2.2 h49) rfl rfl (Nat.le_of_ble_eq_true rfl) ⟨Nat.zero_le _, Nat.zero_le _⟩ ?_
  cases h
  exact g_vret hC hE rfl dX5_clear_52 (Nat.zero_le _) (Nat.zero_le _) ⟨rfl, rfl, rfl, rfl, rfl, rfl⟩
noncomputable def f_X9_setRoot (Fu : Nat) (I : mIT) (k0 : Nat) (v1 : Int32) (v2 : Int32) (v3 : Int32) (v4 : Int32) : Option (mIT) :=
  oB (f_X9_setCell Fu I k0 (1 : Int32) v1 v2) (fun r4 => oB (f_X9_setCell Fu r4 k0 (11 : Int32) v1 v3) (fun r12 => oB (f_X9_setCell Fu r12 k0 (21 : Int32) v1 (0 : Int32)) (fun r20 => oB (f_X9_setCell Fu r20 k0 (31 : Int32) v1 v4) (fun r29 => some (r29)))))
set_option maxRecDepth 20000 in
theorem ok_X9_setRoot {l : Launch} {E : mEn} {Fu : Nat} {I : mIT} {R : mRT} {L : mLT} {k0 : Nat} {v1 : Int32} {v2 : Int32} {v3 : Int32} {v4 : Int32} (hst : l.stackTraces = false) (hk0 : mO9 R k0) {out : mIT} (h : f_X9_setRoot Fu I k0 v1 v2 v3 v4 = some out) : mOk l E mX9_setRoot [.ref (mB E + k0), .int v1, .int v2, .int v3, .int v4] 106 1 I R L 0 0 (mSame none 106 1 (out) R L) := by
  refine mOk_of hst (by decide) (Nat.le_of_ble_eq_true rfl) (fun X hC hE _ => ?_)
  have hC : mC X E mX9_setRoot RX9 cX9_setRoot := hC
  show mG X E 0 [(0, .ref (mB E + k0)), (1, .int v1), (2, .int v2), (3, .int v3), (4, .int v4)] [] 106 1 I R L 0 0
  unfold f_X9_setRoot at h
  refine g_aload_n hC dX9_setRoot_0 rfl (q := 0) rfl ?_
  refine g_iconst hC dX9_setRoot_1 (v := (1 : Int32)) (by decide) ?_
  refine g_iload_n hC dX9_setRoot_2 rfl (q := 1) rfl ?_
  refine g_iload_n hC dX9_setRoot_3 rfl (q := 2) rfl ?_
  obtain ⟨r4, h4, h⟩ := oB_some h
  refine g_cV0 hC cv_X9_setCell wd_636 ⟨Nat.le_of_ble_eq_true rfl, Nat.le_of_ble_eq_true rfl⟩ hk0.2.1 hk0.1 dX9_setRoot_4 (As := [.int (1 : Int32), .int v1, .int v2]) (st := []) (ok_X9_setCell hC.2.2.2.2.2.2.2.1 hk0 h4) rfl rfl (Nat.le_of_ble_eq_true rfl) ⟨Nat.zero_le _, Nat.zero_le _⟩ ?_
  refine g_aload_n hC dX9_setRoot_7 rfl (q := 0) rfl ?_
  refine g_bipush hC dX9_setRoot_8 (v := (11 : Int32)) (by decide) ?_
  refine g_iload_n hC dX9_setRoot_10 rfl (q := 1) rfl ?_
  refine g_iload_n hC dX9_setRoot_11 rfl (q := 3) rfl ?_
  obtain ⟨r12, h12, h⟩ := oB_some h
  refine g_cV0 hC cv_X9_setCell wd_636 ⟨Nat.le_of_ble_eq_true rfl, Nat.le_of_ble_eq_true rfl⟩ hk0.2.1 hk0.1 dX9_setRoot_12 (As := [.int (11 : Int32), .int v1, .int v3]) (st := []) (ok_X9_setCell hC.2.2.2.2.2.2.2.1 hk0 h12) rfl rfl (Nat.le_of_ble_eq_true rfl) ⟨Nat.zero_le _, Nat.zero_le _⟩ ?_
  refine g_aload_n hC dX9_setRoot_15 rfl (q := 0) rfl ?_
  refine g_bipush hC dX9_setRoot_16 (v := (21 : Int32)) (by decide) ?_
  refine g_iload_n hC dX9_setRoot_18 rfl (q := 1) rfl ?_
  refine g_iconst hC dX9_setRoot_19 (v := (0 : Int32)) (by decide) ?_
  obtain ⟨r20, h20, h⟩ := oB_some h
  refine g_cV0 hC cv_X9_setCell wd_636 ⟨Nat.le_of_ble_eq_true rfl, Nat.le_of_ble_eq_true rfl⟩ hk0.2.1 hk0.1 dX9_setRoot_20 (As := [.int (21 : Int32), .int v1, .int (0 : Int32)]) (st := []) (ok_X9_setCell hC.2.2.2.2.2.2.2.1 hk0 h20) rfl rfl (Nat.le_of_ble_eq_true rfl) ⟨Nat.zero_le _, Nat.zero_le _⟩ ?_
  refine g_aload_n hC dX9_setRoot_23 rfl (q := 0) rfl ?_
  refine g_bipush hC dX9_setRoot_24 (v := (31 : Int32)) (by decide) ?_
  refine g_iload_n hC dX9_setRoot_26 rfl (q := 1) rfl ?_
  refine g_iload hC dX9_setRoot_27 (q := 4) rfl ?_
  obtain ⟨r29, h29, h⟩ := oB_some h
  refine g_cV0 hC cv_X9_setCell wd_636 ⟨Nat.le_of_ble_eq_true rfl, Nat.le_of_ble_eq_true rfl⟩ hk0.2.1 hk0.1 dX9_setRoot_29 (As := [.int (31 : Int32), .int v1, .int v4]) (st := []) (ok_X9_setCell hC.2.2.2.2.2.2.2.1 hk0 h29) rfl rfl (Nat.le_of_ble_eq_true rfl) ⟨Nat.zero_le _, Nat.zero_le _⟩ ?_
  cases h
  exact g_vret hC hE rfl dX9_setRoot_32 (Nat.zero_le _) (Nat.zero_le _) ⟨rfl, rfl, rfl, rfl, rfl, rfl⟩
noncomputable def f_X5_addRoot (Fu : Nat) (I : mIT) (k0 : Nat) (v1 : Int32) (v2 : Int32) (v3 : Int32) (v4 : Int32) : Option (mIT) :=
  if (I k0 3) < 0 then (some (I)) else (if (nI 10) ≤ (I k0 3) then (some (I)) else (oG (inB (I k0 3) 10) (oB (f_X9_setRoot Fu (mU I (k0 + 1) ((I k0 3)).toNatClampNeg v1) (k0 + 16) ((mU I (k0 + 1) ((I k0 3)).toNatClampNeg v1) k0 3) v2 v3 v4) (fun r41 => some (mU r41 k0 3 ((r41 k0 3) + (1 : Int32)))))))
set_option maxRecDepth 20000 in
theorem ok_X5_addRoot {l : Launch} {E : mEn} {Fu : Nat} {I : mIT} {R : mRT} {L : mLT} {k0 : Nat} {v1 : Int32} {v2 : Int32} {v3 : Int32} {v4 : Int32} (hst : l.stackTraces = false) (hk0 : mO5 R k0) {out : mIT} (h : f_X5_addRoot Fu I k0 v1 v2 v3 v4 = some out) : mOk l E mX5_addRoot [.ref (mB E + k0), .int v1, .int v2, .int v3, .int v4] 106 1 I R L 0 0 (mSame none 106 1 (out) R L) := by
  refine mOk_of hst (by decide) (Nat.le_of_ble_eq_true rfl) (fun X hC hE _ => ?_)
  have hC : mC X E mX5_addRoot RX5 cX5_addRoot := hC
  show mG X E 0 [(0, .ref (mB E + k0)), (1, .int v1), (2, .int v2), (3, .int v3), (4, .int v4)] [] 106 1 I R L 0 0
  unfold f_X5_addRoot at h
  refine g_aload_n hC dX5_addRoot_0 rfl (q := 0) rfl ?_
  refine g_geti hC fd_RX5_21 hk0.2.1 hk0.1 (Or.inl rfl) dX5_addRoot_1 ?_
  refine g_if_lt hC dX5_addRoot_4 (tgt := 54) (by decide) (fun c4 => ?_) (fun c4 => ?_)
  · replace h := (if_pos c4).symm.trans h
    cases h
    exact g_vret hC hE rfl dX5_addRoot_54 (Nat.zero_le _) (Nat.zero_le _) ⟨rfl, rfl, rfl, rfl, rfl, rfl⟩
  · replace h := (if_neg c4).symm.trans h
    refine g_aload_n hC dX5_addRoot_7 rfl (q := 0) rfl ?_
    refine g_geti hC fd_RX5_21 hk0.2.1 hk0.1 (Or.inl rfl) dX5_addRoot_8 ?_
    refine g_aload_n hC dX5_addRoot_11 rfl (q := 0) rfl ?_
    refine g_getr hC fd_RX5_9 hk0.2.1 hk0.1 (C0 := "") (t0 := _) (Or.inr rfl) hk0.2.2.1.1 dX5_addRoot_12 ?_
    refine g_alenI hC hk0.2.2.1.2.2 hk0.2.2.1.2.1 dX5_addRoot_15 ?_
    refine g_ic_ge hC dX5_addRoot_16 (tgt := 54) (by decide) (fun c16 => ?_) (fun c16 => ?_)
    · replace h := (if_pos c16).symm.trans h
      cases h
      exact g_vret hC hE rfl dX5_addRoot_54 (Nat.zero_le _) (Nat.zero_le _) ⟨rfl, rfl, rfl, rfl, rfl, rfl⟩
    · replace h := (if_neg c16).symm.trans h
      refine g_aload_n hC dX5_addRoot_19 rfl (q := 0) rfl ?_
      refine g_getr hC fd_RX5_9 hk0.2.1 hk0.1 (C0 := "") (t0 := _) (Or.inr rfl) hk0.2.2.1.1 dX5_addRoot_20 ?_
      refine g_aload_n hC dX5_addRoot_23 rfl (q := 0) rfl ?_
      refine g_geti hC fd_RX5_21 hk0.2.1 hk0.1 (Or.inl rfl) dX5_addRoot_24 ?_
      refine g_iload_n hC dX5_addRoot_27 rfl (q := 1) rfl ?_
      obtain ⟨g28, h⟩ := oG_some h
      refine g_iast hC hk0.2.2.1.2.2 hk0.2.2.1.2.1 (inB_in g28) dX5_addRoot_28 (nm_e ?_)
      refine g_aload_n hC dX5_addRoot_29 rfl (q := 0) rfl ?_
      refine g_getr hC fd_RX5_53 hk0.2.1 hk0.1 (C0 := _) (t0 := .int) (Or.inl rfl) hk0.2.2.2.2.2.2.2.1 dX5_addRoot_30 ?_
      refine g_aload_n hC dX5_addRoot_33 rfl (q := 0) rfl ?_
      refine g_geti hC fd_RX5_21 hk0.2.1 hk0.1 (Or.inl rfl) dX5_addRoot_34 ?_
      refine g_iload_n hC dX5_addRoot_37 rfl (q := 2) rfl ?_
      refine g_iload_n hC dX5_addRoot_38 rfl (q := 3) rfl ?_
      refine g_iload hC dX5_addRoot_39 (q := 4) rfl ?_
      obtain ⟨r41, h41, h⟩ := oB_some h
      refine g_cV0 hC cv_X9_setRoot wd_1036 ⟨Nat.le_of_ble_eq_true rfl, Nat.le_of_ble_eq_true rfl⟩ hk0.2.2.2.2.2.2.2.2.2.1 hk0.2.2.2.2.2.2.2.2.1 dX5_addRoot_41 (As := [.int ((mU I (k0 + 1) ((I k0 3)).toNatClampNeg v1) k0 3), .int v2, .int v3, .int v4]) (st := []) (ok_X9_setRoot hC.2.2.2.2.2.2.2.1 hk0.2.2.2.2.2.2.2.2 h41) rfl rfl (Nat.le_of_ble_eq_true rfl) ⟨Nat.zero_le _, Nat.zero_le _⟩ ?_
      refine g_aload_n hC dX5_addRoot_44 rfl (q := 0) rfl ?_
      refine g_dup hC dX5_addRoot_45 rfl ?_
      refine g_geti hC fd_RX5_21 hk0.2.1 hk0.1 (Or.inl rfl) dX5_addRoot_46 ?_
      refine g_iconst hC dX5_addRoot_49 (v := (1 : Int32)) (by decide) ?_
      refine g_iadd hC dX5_addRoot_50 ?_
      refine g_puti hC fd_RX5_21 hk0.2.1 hk0.1 rfl dX5_addRoot_51 (nm_e ?_)
      cases h
      exact g_vret hC hE rfl dX5_addRoot_54 (Nat.zero_le _) (Nat.zero_le _) ⟨rfl, rfl, rfl, rfl, rfl, rfl⟩
noncomputable def f_X5_addWeather (Fu : Nat) (I : mIT) (k0 : Nat) (v1 : Int32) : Option (mIT) :=
  if (I k0 4) < 0 then (some (I)) else (if (nI 10) ≤ (I k0 4) then (some (I)) else (oG (inB (I k0 4) 10) (some (mU (mU I (k0 + 2) ((I k0 4)).toNatClampNeg v1) k0 4 (((mU I (k0 + 2) ((I k0 4)).toNatClampNeg v1) k0 4) + (1 : Int32))))))
set_option maxRecDepth 20000 in
theorem ok_X5_addWeather {l : Launch} {E : mEn} {Fu : Nat} {I : mIT} {R : mRT} {L : mLT} {k0 : Nat} {v1 : Int32} (hst : l.stackTraces = false) (hk0 : mO5 R k0) {out : mIT} (h : f_X5_addWeather Fu I k0 v1 = some out) : mOk l E mX5_addWeather [.ref (mB E + k0), .int v1] 106 1 I R L 0 0 (mSame none 106 1 (out) R L) := by
  refine mOk_of hst (by decide) (Nat.le_of_ble_eq_true rfl) (fun X hC hE _ => ?_)
  have hC : mC X E mX5_addWeather RX5 cX5_addWeather := hC
  show mG X E 0 [(0, .ref (mB E + k0)), (1, .int v1)] [] 106 1 I R L 0 0
  unfold f_X5_addWeather at h
  refine g_aload_n hC dX5_addWeather_0 rfl (q := 0) rfl ?_
  refine g_geti hC fd_RX5_25 hk0.2.1 hk0.1 (Or.inl rfl) dX5_addWeather_1 ?_
  refine g_if_lt hC dX5_addWeather_4 (tgt := 39) (by decide) (fun c4 => ?_) (fun c4 => ?_)
  · replace h := (if_pos c4).symm.trans h
    cases h
    exact g_vret hC hE rfl dX5_addWeather_39 (Nat.zero_le _) (Nat.zero_le _) ⟨rfl, rfl, rfl, rfl, rfl, rfl⟩
  · replace h := (if_neg c4).symm.trans h
    refine g_aload_n hC dX5_addWeather_7 rfl (q := 0) rfl ?_
    refine g_geti hC fd_RX5_25 hk0.2.1 hk0.1 (Or.inl rfl) dX5_addWeather_8 ?_
    refine g_aload_n hC dX5_addWeather_11 rfl (q := 0) rfl ?_
    refine g_getr hC fd_RX5_15 hk0.2.1 hk0.1 (C0 := "") (t0 := _) (Or.inr rfl) hk0.2.2.2.1.1 dX5_addWeather_12 ?_
    refine g_alenI hC hk0.2.2.2.1.2.2 hk0.2.2.2.1.2.1 dX5_addWeather_15 ?_
    refine g_ic_ge hC dX5_addWeather_16 (tgt := 39) (by decide) (fun c16 => ?_) (fun c16 => ?_)
    · replace h := (if_pos c16).symm.trans h
      cases h
      exact g_vret hC hE rfl dX5_addWeather_39 (Nat.zero_le _) (Nat.zero_le _) ⟨rfl, rfl, rfl, rfl, rfl, rfl⟩
    · replace h := (if_neg c16).symm.trans h
      refine g_aload_n hC dX5_addWeather_19 rfl (q := 0) rfl ?_
      refine g_getr hC fd_RX5_15 hk0.2.1 hk0.1 (C0 := "") (t0 := _) (Or.inr rfl) hk0.2.2.2.1.1 dX5_addWeather_20 ?_
      refine g_aload_n hC dX5_addWeather_23 rfl (q := 0) rfl ?_
      refine g_geti hC fd_RX5_25 hk0.2.1 hk0.1 (Or.inl rfl) dX5_addWeather_24 ?_
      refine g_iload_n hC dX5_addWeather_27 rfl (q := 1) rfl ?_
      obtain ⟨g28, h⟩ := oG_some h
      refine g_iast hC hk0.2.2.2.1.2.2 hk0.2.2.2.1.2.1 (inB_in g28) dX5_addWeather_28 (nm_e ?_)
      refine g_aload_n hC dX5_addWeather_29 rfl (q := 0) rfl ?_
      refine g_dup hC dX5_addWeather_30 rfl ?_
      refine g_geti hC fd_RX5_25 hk0.2.1 hk0.1 (Or.inl rfl) dX5_addWeather_31 ?_
      refine g_iconst hC dX5_addWeather_34 (v := (1 : Int32)) (by decide) ?_
      refine g_iadd hC dX5_addWeather_35 ?_
      refine g_puti hC fd_RX5_25 hk0.2.1 hk0.1 rfl dX5_addWeather_36 (nm_e ?_)
      cases h
      exact g_vret hC hE rfl dX5_addWeather_39 (Nat.zero_le _) (Nat.zero_le _) ⟨rfl, rfl, rfl, rfl, rfl, rfl⟩
noncomputable def f_X5_addTuneNote (Fu : Nat) (I : mIT) (k0 : Nat) (v1 : Int32) : Option (mIT) :=
  if (I k0 6) < 0 then (some (I)) else (if (nI 8) ≤ (I k0 6) then (some (I)) else (oG (inB (I k0 6) 8) (some (mU (mU (mU I (k0 + 3) ((I k0 6)).toNatClampNeg v1) k0 7 (((mU I (k0 + 3) ((I k0 6)).toNatClampNeg v1) k0 7) ||| ((1 : Int32) <<< (v1 &&& 31)))) k0 6 (((mU (mU I (k0 + 3) ((I k0 6)).toNatClampNeg v1) k0 7 (((mU I (k0 + 3) ((I k0 6)).toNatClampNeg v1) k0 7) ||| ((1 : Int32) <<< (v1 &&& 31)))) k0 6) + (1 : Int32))))))
set_option maxRecDepth 20000 in
theorem ok_X5_addTuneNote {l : Launch} {E : mEn} {Fu : Nat} {I : mIT} {R : mRT} {L : mLT} {k0 : Nat} {v1 : Int32} (hst : l.stackTraces = false) (hk0 : mO5 R k0) {out : mIT} (h : f_X5_addTuneNote Fu I k0 v1 = some out) : mOk l E mX5_addTuneNote [.ref (mB E + k0), .int v1] 106 1 I R L 0 0 (mSame none 106 1 (out) R L) := by
  refine mOk_of hst (by decide) (Nat.le_of_ble_eq_true rfl) (fun X hC hE _ => ?_)
  have hC : mC X E mX5_addTuneNote RX5 cX5_addTuneNote := hC
  show mG X E 0 [(0, .ref (mB E + k0)), (1, .int v1)] [] 106 1 I R L 0 0
  unfold f_X5_addTuneNote at h
  refine g_aload_n hC dX5_addTuneNote_0 rfl (q := 0) rfl ?_
  refine g_geti hC fd_RX5_31 hk0.2.1 hk0.1 (Or.inl rfl) dX5_addTuneNote_1 ?_
  refine g_if_lt hC dX5_addTuneNote_4 (tgt := 51) (by decide) (fun c4 => ?_) (fun c4 => ?_)
  · replace h := (if_pos c4).symm.trans h
    cases h
    exact g_vret hC hE rfl dX5_addTuneNote_51 (Nat.zero_le _) (Nat.zero_le _) ⟨rfl, rfl, rfl, rfl, rfl, rfl⟩
  · replace h := (if_neg c4).symm.trans h
    refine g_aload_n hC dX5_addTuneNote_7 rfl (q := 0) rfl ?_
    refine g_geti hC fd_RX5_31 hk0.2.1 hk0.1 (Or.inl rfl) dX5_addTuneNote_8 ?_
    refine g_aload_n hC dX5_addTuneNote_11 rfl (q := 0) rfl ?_
    refine g_getr hC fd_RX5_18 hk0.2.1 hk0.1 (C0 := "") (t0 := _) (Or.inr rfl) hk0.2.2.2.2.1.1 dX5_addTuneNote_12 ?_
    refine g_alenI hC hk0.2.2.2.2.1.2.2 hk0.2.2.2.2.1.2.1 dX5_addTuneNote_15 ?_
    refine g_ic_ge hC dX5_addTuneNote_16 (tgt := 51) (by decide) (fun c16 => ?_) (fun c16 => ?_)
    · replace h := (if_pos c16).symm.trans h
      cases h
      exact g_vret hC hE rfl dX5_addTuneNote_51 (Nat.zero_le _) (Nat.zero_le _) ⟨rfl, rfl, rfl, rfl, rfl, rfl⟩
    · replace h := (if_neg c16).symm.trans h
      refine g_aload_n hC dX5_addTuneNote_19 rfl (q := 0) rfl ?_
      refine g_getr hC fd_RX5_18 hk0.2.1 hk0.1 (C0 := "") (t0 := _) (Or.inr rfl) hk0.2.2.2.2.1.1 dX5_addTuneNote_20 ?_
      refine g_aload_n hC dX5_addTuneNote_23 rfl (q := 0) rfl ?_
      refine g_geti hC fd_RX5_31 hk0.2.1 hk0.1 (Or.inl rfl) dX5_addTuneNote_24 ?_
      refine g_iload_n hC dX5_addTuneNote_27 rfl (q := 1) rfl ?_
      obtain ⟨g28, h⟩ := oG_some h
      refine g_iast hC hk0.2.2.2.2.1.2.2 hk0.2.2.2.2.1.2.1 (inB_in g28) dX5_addTuneNote_28 (nm_e ?_)
      refine g_aload_n hC dX5_addTuneNote_29 rfl (q := 0) rfl ?_
      refine g_dup hC dX5_addTuneNote_30 rfl ?_
      refine g_geti hC fd_RX5_34 hk0.2.1 hk0.1 (Or.inl rfl) dX5_addTuneNote_31 ?_
      refine g_iconst hC dX5_addTuneNote_34 (v := (1 : Int32)) (by decide) ?_
      refine g_iload_n hC dX5_addTuneNote_35 rfl (q := 1) rfl ?_
      refine g_ishl hC dX5_addTuneNote_36 ?_
      refine g_ior hC dX5_addTuneNote_37 ?_
      refine g_puti hC fd_RX5_34 hk0.2.1 hk0.1 rfl dX5_addTuneNote_38 (nm_e ?_)
      refine g_aload_n hC dX5_addTuneNote_41 rfl (q := 0) rfl ?_
      refine g_dup hC dX5_addTuneNote_42 rfl ?_
      refine g_geti hC fd_RX5_31 hk0.2.1 hk0.1 (Or.inl rfl) dX5_addTuneNote_43 ?_
      refine g_iconst hC dX5_addTuneNote_46 (v := (1 : Int32)) (by decide) ?_
      refine g_iadd hC dX5_addTuneNote_47 ?_
      refine g_puti hC fd_RX5_31 hk0.2.1 hk0.1 rfl dX5_addTuneNote_48 (nm_e ?_)
      cases h
      exact g_vret hC hE rfl dX5_addTuneNote_51 (Nat.zero_le _) (Nat.zero_le _) ⟨rfl, rfl, rfl, rfl, rfl, rfl⟩
noncomputable def f_X5_addChange (Fu : Nat) (I : mIT) (k0 : Nat) (v1 : Int32) : Option (mIT) :=
  if (12 : Int32) ≤ (I k0 8) then (some (I)) else (oB (f_X9_setChange Fu I (k0 + 16) (I k0 8) v1) (fun r18 => some (mU r18 k0 8 ((r18 k0 8) + (1 : Int32)))))
set_option maxRecDepth 20000 in
theorem ok_X5_addChange {l : Launch} {E : mEn} {Fu : Nat} {I : mIT} {R : mRT} {L : mLT} {k0 : Nat} {v1 : Int32} (hst : l.stackTraces = false) (hk0 : mO5 R k0) {out : mIT} (h : f_X5_addChange Fu I k0 v1 = some out) : mOk l E mX5_addChange [.ref (mB E + k0), .int v1] 106 1 I R L 0 0 (mSame none 106 1 (out) R L) := by
  refine mOk_of hst (by decide) (Nat.le_of_ble_eq_true rfl) (fun X hC hE _ => ?_)
  have hC : mC X E mX5_addChange RX5 cX5_addChange := hC
  show mG X E 0 [(0, .ref (mB E + k0)), (1, .int v1)] [] 106 1 I R L 0 0
  unfold f_X5_addChange at h
  refine g_aload_n hC dX5_addChange_0 rfl (q := 0) rfl ?_
  refine g_geti hC fd_RX5_37 hk0.2.1 hk0.1 (Or.inl rfl) dX5_addChange_1 ?_
  refine g_bipush hC dX5_addChange_4 (v := (12 : Int32)) (by decide) ?_
  refine g_ic_ge hC dX5_addChange_6 (tgt := 31) (by decide) (fun c6 => ?_) (fun c6 => ?_)
  · replace h := (if_pos c6).symm.trans h
    cases h
    exact g_vret hC hE rfl dX5_addChange_31 (Nat.zero_le _) (Nat.zero_le _) ⟨rfl, rfl, rfl, rfl, rfl, rfl⟩
  · replace h := (if_neg c6).symm.trans h
    refine g_aload_n hC dX5_addChange_9 rfl (q := 0) rfl ?_
    refine g_getr hC fd_RX5_53 hk0.2.1 hk0.1 (C0 := _) (t0 := .int) (Or.inl rfl) hk0.2.2.2.2.2.2.2.1 dX5_addChange_10 ?_
    refine g_aload_n hC dX5_addChange_13 rfl (q := 0) rfl ?_
    refine g_geti hC fd_RX5_37 hk0.2.1 hk0.1 (Or.inl rfl) dX5_addChange_14 ?_
    refine g_iload_n hC dX5_addChange_17 rfl (q := 1) rfl ?_
    obtain ⟨r18, h18, h⟩ := oB_some h
    refine g_cV0 hC cv_X9_setChange wd_1065 ⟨Nat.le_of_ble_eq_true rfl, Nat.le_of_ble_eq_true rfl⟩ hk0.2.2.2.2.2.2.2.2.2.1 hk0.2.2.2.2.2.2.2.2.1 dX5_addChange_18 (As := [.int (I k0 8), .int v1]) (st := []) (ok_X9_setChange hC.2.2.2.2.2.2.2.1 hk0.2.2.2.2.2.2.2.2 h18) rfl rfl (Nat.le_of_ble_eq_true rfl) ⟨Nat.zero_le _, Nat.zero_le _⟩ ?_
    refine g_aload_n hC dX5_addChange_21 rfl (q := 0) rfl ?_
    refine g_dup hC dX5_addChange_22 rfl ?_
    refine g_geti hC fd_RX5_37 hk0.2.1 hk0.1 (Or.inl rfl) dX5_addChange_23 ?_
    refine g_iconst hC dX5_addChange_26 (v := (1 : Int32)) (by decide) ?_
    refine g_iadd hC dX5_addChange_27 ?_
    refine g_puti hC fd_RX5_37 hk0.2.1 hk0.1 rfl dX5_addChange_28 (nm_e ?_)
    cases h
    exact g_vret hC hE rfl dX5_addChange_31 (Nat.zero_le _) (Nat.zero_le _) ⟨rfl, rfl, rfl, rfl, rfl, rfl⟩
noncomputable def b_X8_putWaiting_0 (Fu : Nat) (k0 : Nat) (k0_ : Int32 × mIT → Option (mIT)) (v1 : Int32) (I : mIT) : Option (mIT) :=
  if (I k0 6) ≤ 0 then (some (I)) else (if (nI 80) < (I k0 6) then (some (I)) else (oG (inB ((I k0 6) - (1 : Int32)) 80) (if ((I (k0 + 3) (((I k0 6) - (1 : Int32))).toNatClampNeg) / (10 : Int32)) < v1 then (some (I)) else (if ((mU I k0 6 ((I k0 6) - (1 : Int32))) k0 5) < 0 then (k0_ (v1, (mU I k0 6 ((I k0 6) - (1 : Int32))))) else (if (nI 700) ≤ ((mU I k0 6 ((I k0 6) - (1 : Int32))) k0 5) then (k0_ (v1, (mU I k0 6 ((I k0 6) - (1 : Int32))))) else (oG (inB ((mU I k0 6 ((I k0 6) - (1 : Int32))) k0 6) 80) (oG (inB ((mU I k0 6 ((I k0 6) - (1 : Int32))) k0 5) 700) (k0_ (v1, (mU (mU (mU I k0 6 ((I k0 6) - (1 : Int32))) (k0 + 1) (((mU I k0 6 ((I k0 6) - (1 : Int32))) k0 5)).toNatClampNeg ((mU I k0 6 ((I k0 6) - (1 : Int32))) (k0 + 3) (((mU I k0 6 ((I k0 6) - (1 : Int32))) k0 6)).toNatClampNeg)) k0 5 (((mU (mU I k0 6 ((I k0 6) - (1 : Int32))) (k0 + 1) (((mU I k0 6 ((I k0 6) - (1 : Int32))) k0 5)).toNatClampNeg ((mU I k0 6 ((I k0 6) - (1 : Int32))) (k0 + 3) (((mU I k0 6 ((I k0 6) - (1 : Int32))) k0 6)).toNatClampNeg)) k0 5) + (1 : Int32))))))))))))
set_option maxRecDepth 20000 in
theorem bo_X8_putWaiting_0 {X : mXT} {E : mEn} {Fu : Nat} {R : mRT} {L : mLT} {k0 : Nat} (hC : mC X E mX8_putWaiting RX8 cX8_putWaiting) (hk0 : mO8 R k0)  {out : mIT} (hE : mEd X E 0 0 (mSame none 106 1 (out) R L)) (k0_ : Int32 × mIT → Option (mIT)) (hk0_ : ∀ (v1 : Int32) (I : mIT),  k0_ (v1, I) = some out → mG X E 0 [(0, .ref (mB E + k0)), (1, .int v1)] [] 106 1 I R L 0 0) (v1 : Int32) (I : mIT) (h : b_X8_putWaiting_0 Fu k0 k0_ v1 I = some out) : mG X E 0 [(0, .ref (mB E + k0)), (1, .int v1)] [] 106 1 I R L 0 0 := by
  unfold b_X8_putWaiting_0 at h
  refine g_aload_n hC dX8_putWaiting_0 rfl (q := 0) rfl ?_
  refine g_geti hC fd_RX8_31 hk0.2.1 hk0.1 (Or.inl rfl) dX8_putWaiting_1 ?_
  refine g_if_le hC dX8_putWaiting_4 (tgt := 97) (by decide) (fun c4 => ?_) (fun c4 => ?_)
  · replace h := (if_pos c4).symm.trans h
    cases h
    exact g_vret hC hE rfl dX8_putWaiting_97 (Nat.zero_le _) (Nat.zero_le _) ⟨rfl, rfl, rfl, rfl, rfl, rfl⟩
  · replace h := (if_neg c4).symm.trans h
    refine g_aload_n hC dX8_putWaiting_7 rfl (q := 0) rfl ?_
    refine g_geti hC fd_RX8_31 hk0.2.1 hk0.1 (Or.inl rfl) dX8_putWaiting_8 ?_
    refine g_aload_n hC dX8_putWaiting_11 rfl (q := 0) rfl ?_
    refine g_getr hC fd_RX8_18 hk0.2.1 hk0.1 (C0 := "") (t0 := _) (Or.inr rfl) hk0.2.2.2.2.1.1 dX8_putWaiting_12 ?_
    refine g_alenI hC hk0.2.2.2.2.1.2.2 hk0.2.2.2.2.1.2.1 dX8_putWaiting_15 ?_
    refine g_ic_gt hC dX8_putWaiting_16 (tgt := 97) (by decide) (fun c16 => ?_) (fun c16 => ?_)
    · replace h := (if_pos c16).symm.trans h
      cases h
      exact g_vret hC hE rfl dX8_putWaiting_97 (Nat.zero_le _) (Nat.zero_le _) ⟨rfl, rfl, rfl, rfl, rfl, rfl⟩
    · replace h := (if_neg c16).symm.trans h
      refine g_aload_n hC dX8_putWaiting_19 rfl (q := 0) rfl ?_
      refine g_getr hC fd_RX8_18 hk0.2.1 hk0.1 (C0 := "") (t0 := _) (Or.inr rfl) hk0.2.2.2.2.1.1 dX8_putWaiting_20 ?_
      refine g_aload_n hC dX8_putWaiting_23 rfl (q := 0) rfl ?_
      refine g_geti hC fd_RX8_31 hk0.2.1 hk0.1 (Or.inl rfl) dX8_putWaiting_24 ?_
      refine g_iconst hC dX8_putWaiting_27 (v := (1 : Int32)) (by decide) ?_
      refine g_isub hC dX8_putWaiting_28 ?_
      obtain ⟨g29, h⟩ := oG_some h
      refine g_iald hC hk0.2.2.2.2.1.2.2 hk0.2.2.2.2.1.2.1 (inB_in g29) dX8_putWaiting_29 ?_
      refine g_bipush hC dX8_putWaiting_30 (v := (10 : Int32)) (by decide) ?_
      refine g_idiv hC dX8_putWaiting_32 (by decide) ?_
      refine g_iload_n hC dX8_putWaiting_33 rfl (q := 1) rfl ?_
      refine g_ic_lt hC dX8_putWaiting_34 (tgt := 97) (by decide) (fun c34 => ?_) (fun c34 => ?_)
      · replace h := (if_pos c34).symm.trans h
        cases h
        exact g_vret hC hE rfl dX8_putWaiting_97 (Nat.zero_le _) (Nat.zero_le _) ⟨rfl, rfl, rfl, rfl, rfl, rfl⟩
      · replace h := (if_neg c34).symm.trans h
        refine g_aload_n hC dX8_putWaiting_37 rfl (q := 0) rfl ?_
        refine g_dup hC dX8_putWaiting_38 rfl ?_
        refine g_geti hC fd_RX8_31 hk0.2.1 hk0.1 (Or.inl rfl) dX8_putWaiting_39 ?_
        refine g_iconst hC dX8_putWaiting_42 (v := (1 : Int32)) (by decide) ?_
        refine g_isub hC dX8_putWaiting_43 ?_
        refine g_puti hC fd_RX8_31 hk0.2.1 hk0.1 rfl dX8_putWaiting_44 (nm_e ?_)
        refine g_aload_n hC dX8_putWaiting_47 rfl (q := 0) rfl ?_
        refine g_geti hC fd_RX8_27 hk0.2.1 hk0.1 (Or.inl rfl) dX8_putWaiting_48 ?_
        refine g_if_lt hC dX8_putWaiting_51 (tgt := 0) (by decide) (fun c51 => ?_) (fun c51 => ?_)
        · replace h := (if_pos c51).symm.trans h
          exact hk0_ v1 (mU I k0 6 ((I k0 6) - (1 : Int32))) h
        · replace h := (if_neg c51).symm.trans h
          refine g_aload_n hC dX8_putWaiting_54 rfl (q := 0) rfl ?_
          refine g_geti hC fd_RX8_27 hk0.2.1 hk0.1 (Or.inl rfl) dX8_putWaiting_55 ?_
          refine g_aload_n hC dX8_putWaiting_58 rfl (q := 0) rfl ?_
          refine g_getr hC fd_RX8_9 hk0.2.1 hk0.1 (C0 := "") (t0 := _) (Or.inr rfl) hk0.2.2.1.1 dX8_putWaiting_59 ?_
          refine g_alenI hC hk0.2.2.1.2.2 hk0.2.2.1.2.1 dX8_putWaiting_62 ?_
          refine g_ic_ge hC dX8_putWaiting_63 (tgt := 0) (by decide) (fun c63 => ?_) (fun c63 => ?_)
          · replace h := (if_pos c63).symm.trans h
            exact hk0_ v1 (mU I k0 6 ((I k0 6) - (1 : Int32))) h
          · replace h := (if_neg c63).symm.trans h
            refine g_aload_n hC dX8_putWaiting_66 rfl (q := 0) rfl ?_
            refine g_getr hC fd_RX8_9 hk0.2.1 hk0.1 (C0 := "") (t0 := _) (Or.inr rfl) hk0.2.2.1.1 dX8_putWaiting_67 ?_
            refine g_aload_n hC dX8_putWaiting_70 rfl (q := 0) rfl ?_
            refine g_geti hC fd_RX8_27 hk0.2.1 hk0.1 (Or.inl rfl) dX8_putWaiting_71 ?_
            refine g_aload_n hC dX8_putWaiting_74 rfl (q := 0) rfl ?_
            refine g_getr hC fd_RX8_18 hk0.2.1 hk0.1 (C0 := "") (t0 := _) (Or.inr rfl) hk0.2.2.2.2.1.1 dX8_putWaiting_75 ?_
            refine g_aload_n hC dX8_putWaiting_78 rfl (q := 0) rfl ?_
            refine g_geti hC fd_RX8_31 hk0.2.1 hk0.1 (Or.inl rfl) dX8_putWaiting_79 ?_
            obtain ⟨g82, h⟩ := oG_some h
            refine g_iald hC hk0.2.2.2.2.1.2.2 hk0.2.2.2.2.1.2.1 (inB_in g82) dX8_putWaiting_82 ?_
            obtain ⟨g83, h⟩ := oG_some h
            refine g_iast hC hk0.2.2.1.2.2 hk0.2.2.1.2.1 (inB_in g83) dX8_putWaiting_83 (nm_e ?_)
            refine g_aload_n hC dX8_putWaiting_84 rfl (q := 0) rfl ?_
            refine g_dup hC dX8_putWaiting_85 rfl ?_
            refine g_geti hC fd_RX8_27 hk0.2.1 hk0.1 (Or.inl rfl) dX8_putWaiting_86 ?_
            refine g_iconst hC dX8_putWaiting_89 (v := (1 : Int32)) (by decide) ?_
            refine g_iadd hC dX8_putWaiting_90 ?_
            refine g_puti hC fd_RX8_27 hk0.2.1 hk0.1 rfl dX8_putWaiting_91 (nm_e ?_)
            refine g_goto hC dX8_putWaiting_94 (tgt := 0) (by decide) ?_
            exact hk0_ v1 (mU (mU (mU I k0 6 ((I k0 6) - (1 : Int32))) (k0 + 1) (((mU I k0 6 ((I k0 6) - (1 : Int32))) k0 5)).toNatClampNeg ((mU I k0 6 ((I k0 6) - (1 : Int32))) (k0 + 3) (((mU I k0 6 ((I k0 6) - (1 : Int32))) k0 6)).toNatClampNeg)) k0 5 (((mU (mU I k0 6 ((I k0 6) - (1 : Int32))) (k0 + 1) (((mU I k0 6 ((I k0 6) - (1 : Int32))) k0 5)).toNatClampNeg ((mU I k0 6 ((I k0 6) - (1 : Int32))) (k0 + 3) (((mU I k0 6 ((I k0 6) - (1 : Int32))) k0 6)).toNatClampNeg)) k0 5) + (1 : Int32))) h
noncomputable def w_X8_putWaiting_0 (Fu : Nat) (k0 : Nat)  (N : Nat) (v1 : Int32) (I : mIT) : Option (mIT) :=
  loopF (fun self (s : Int32 × mIT) => b_X8_putWaiting_0 Fu k0 self s.1 s.2) N (v1, I)
theorem wo_X8_putWaiting_0 {X : mXT} {E : mEn} {Fu : Nat} {R : mRT} {L : mLT} {k0 : Nat} (hC : mC X E mX8_putWaiting RX8 cX8_putWaiting) (hk0 : mO8 R k0)  {out : mIT} (hE : mEd X E 0 0 (mSame none 106 1 (out) R L))  (N : Nat) (v1 : Int32) (I : mIT) (h : w_X8_putWaiting_0 Fu k0  N v1 I = some out) : mG X E 0 [(0, .ref (mB E + k0)), (1, .int v1)] [] 106 1 I R L 0 0 :=
  loopF_ok (Gd := fun s : Int32 × mIT => mG X E 0 [(0, .ref (mB E + k0)), (1, .int s.1)] [] 106 1 s.2 R L 0 0) (fun self hs s h => bo_X8_putWaiting_0 hC hk0 hE self (fun v1 I h => hs (v1, I) h) s.1 s.2 h) N (v1, I) h
noncomputable def f_X8_putWaiting (Fu : Nat) (I : mIT) (k0 : Nat) (v1 : Int32) : Option (mIT) :=
  w_X8_putWaiting_0 Fu k0 Fu v1 I
set_option maxRecDepth 20000 in
theorem ok_X8_putWaiting {l : Launch} {E : mEn} {Fu : Nat} {I : mIT} {R : mRT} {L : mLT} {k0 : Nat} {v1 : Int32} (hst : l.stackTraces = false) (hk0 : mO8 R k0) {out : mIT} (h : f_X8_putWaiting Fu I k0 v1 = some out) : mOk l E mX8_putWaiting [.ref (mB E + k0), .int v1] 106 1 I R L 0 0 (mSame none 106 1 (out) R L) := by
  refine mOk_of hst (by decide) (Nat.le_of_ble_eq_true rfl) (fun X hC hE _ => ?_)
  have hC : mC X E mX8_putWaiting RX8 cX8_putWaiting := hC
  show mG X E 0 [(0, .ref (mB E + k0)), (1, .int v1)] [] 106 1 I R L 0 0
  unfold f_X8_putWaiting at h
  exact wo_X8_putWaiting_0 hC hk0 hE Fu (v1) (I) h
noncomputable def f_X8_close (Fu : Nat) (I : mIT) (k0 : Nat) : Option (mIT) :=
  oB (f_X8_putWaiting Fu I k0 (1 : Int32)) (fun r2 => if (r2 k0 6) ≤ 0 then (some (r2)) else (some (mU r2 k0 6 ((r2 k0 6) - (1 : Int32)))))
set_option maxRecDepth 20000 in
theorem ok_X8_close {l : Launch} {E : mEn} {Fu : Nat} {I : mIT} {R : mRT} {L : mLT} {k0 : Nat} (hst : l.stackTraces = false) (hk0 : mO8 R k0) {out : mIT} (h : f_X8_close Fu I k0 = some out) : mOk l E mX8_close [.ref (mB E + k0)] 106 1 I R L 0 0 (mSame none 106 1 (out) R L) := by
  refine mOk_of hst (by decide) (Nat.le_of_ble_eq_true rfl) (fun X hC hE _ => ?_)
  have hC : mC X E mX8_close RX8 cX8_close := hC
  show mG X E 0 [(0, .ref (mB E + k0))] [] 106 1 I R L 0 0
  unfold f_X8_close at h
  refine g_aload_n hC dX8_close_0 rfl (q := 0) rfl ?_
  refine g_iconst hC dX8_close_1 (v := (1 : Int32)) (by decide) ?_
  obtain ⟨r2, h2, h⟩ := oB_some h
  refine g_cV0 hC cv_X8_putWaiting wd_1089 ⟨Nat.le_of_ble_eq_true rfl, Nat.le_of_ble_eq_true rfl⟩ hk0.2.1 hk0.1 dX8_close_2 (As := [.int (1 : Int32)]) (st := []) (ok_X8_putWaiting hC.2.2.2.2.2.2.2.1 hk0 h2) rfl rfl (Nat.le_of_ble_eq_true rfl) ⟨Nat.zero_le _, Nat.zero_le _⟩ ?_
  refine g_aload_n hC dX8_close_5 rfl (q := 0) rfl ?_
  refine g_geti hC fd_RX8_31 hk0.2.1 hk0.1 (Or.inl rfl) dX8_close_6 ?_
  refine g_if_le hC dX8_close_9 (tgt := 22) (by decide) (fun c9 => ?_) (fun c9 => ?_)
  · replace h := (if_pos c9).symm.trans h
    cases h
    exact g_vret hC hE rfl dX8_close_22 (Nat.zero_le _) (Nat.zero_le _) ⟨rfl, rfl, rfl, rfl, rfl, rfl⟩
  · replace h := (if_neg c9).symm.trans h
    refine g_aload_n hC dX8_close_12 rfl (q := 0) rfl ?_
    refine g_dup hC dX8_close_13 rfl ?_
    refine g_geti hC fd_RX8_31 hk0.2.1 hk0.1 (Or.inl rfl) dX8_close_14 ?_
    refine g_iconst hC dX8_close_17 (v := (1 : Int32)) (by decide) ?_
    refine g_isub hC dX8_close_18 ?_
    refine g_puti hC fd_RX8_31 hk0.2.1 hk0.1 rfl dX8_close_19 (nm_e ?_)
    cases h
    exact g_vret hC hE rfl dX8_close_22 (Nat.zero_le _) (Nat.zero_le _) ⟨rfl, rfl, rfl, rfl, rfl, rfl⟩
noncomputable def b_X8_join_18 (Fu : Nat) (k0 : Nat)  (v1 : Int32) (I : mIT) : Option (mIT) :=
  if (I k0 6) < 0 then (some (I)) else (if (nI 80) ≤ (I k0 6) then (some (I)) else (oG (inB (I k0 6) 80) (some (mU (mU I (k0 + 3) ((I k0 6)).toNatClampNeg v1) k0 6 (((mU I (k0 + 3) ((I k0 6)).toNatClampNeg v1) k0 6) + (1 : Int32))))))
set_option maxRecDepth 20000 in
theorem bo_X8_join_18 {X : mXT} {E : mEn} {Fu : Nat} {R : mRT} {L : mLT} {k0 : Nat} (hC : mC X E mX8_join RX8 cX8_join) (hk0 : mO8 R k0)  {out : mIT} (hE : mEd X E 0 0 (mSame none 106 1 (out) R L))  (v1 : Int32) (I : mIT) (h : b_X8_join_18 Fu k0  v1 I = some out) : mG X E 18 [(0, .ref (mB E + k0)), (1, .int v1)] [] 106 1 I R L 0 0 := by
  unfold b_X8_join_18 at h
  refine g_aload_n hC dX8_join_18 rfl (q := 0) rfl ?_
  refine g_geti hC fd_RX8_31 hk0.2.1 hk0.1 (Or.inl rfl) dX8_join_19 ?_
  refine g_if_lt hC dX8_join_22 (tgt := 57) (by decide) (fun c22 => ?_) (fun c22 => ?_)
  · replace h := (if_pos c22).symm.trans h
    cases h
    exact g_vret hC hE rfl dX8_join_57 (Nat.zero_le _) (Nat.zero_le _) ⟨rfl, rfl, rfl, rfl, rfl, rfl⟩
  · replace h := (if_neg c22).symm.trans h
    refine g_aload_n hC dX8_join_25 rfl (q := 0) rfl ?_
    refine g_geti hC fd_RX8_31 hk0.2.1 hk0.1 (Or.inl rfl) dX8_join_26 ?_
    refine g_aload_n hC dX8_join_29 rfl (q := 0) rfl ?_
    refine g_getr hC fd_RX8_18 hk0.2.1 hk0.1 (C0 := "") (t0 := _) (Or.inr rfl) hk0.2.2.2.2.1.1 dX8_join_30 ?_
    refine g_alenI hC hk0.2.2.2.2.1.2.2 hk0.2.2.2.2.1.2.1 dX8_join_33 ?_
    refine g_ic_ge hC dX8_join_34 (tgt := 57) (by decide) (fun c34 => ?_) (fun c34 => ?_)
    · replace h := (if_pos c34).symm.trans h
      cases h
      exact g_vret hC hE rfl dX8_join_57 (Nat.zero_le _) (Nat.zero_le _) ⟨rfl, rfl, rfl, rfl, rfl, rfl⟩
    · replace h := (if_neg c34).symm.trans h
      refine g_aload_n hC dX8_join_37 rfl (q := 0) rfl ?_
      refine g_getr hC fd_RX8_18 hk0.2.1 hk0.1 (C0 := "") (t0 := _) (Or.inr rfl) hk0.2.2.2.2.1.1 dX8_join_38 ?_
      refine g_aload_n hC dX8_join_41 rfl (q := 0) rfl ?_
      refine g_geti hC fd_RX8_31 hk0.2.1 hk0.1 (Or.inl rfl) dX8_join_42 ?_
      refine g_iload_n hC dX8_join_45 rfl (q := 1) rfl ?_
      obtain ⟨g46, h⟩ := oG_some h
      refine g_iast hC hk0.2.2.2.2.1.2.2 hk0.2.2.2.2.1.2.1 (inB_in g46) dX8_join_46 (nm_e ?_)
      refine g_aload_n hC dX8_join_47 rfl (q := 0) rfl ?_
      refine g_dup hC dX8_join_48 rfl ?_
      refine g_geti hC fd_RX8_31 hk0.2.1 hk0.1 (Or.inl rfl) dX8_join_49 ?_
      refine g_iconst hC dX8_join_52 (v := (1 : Int32)) (by decide) ?_
      refine g_iadd hC dX8_join_53 ?_
      refine g_puti hC fd_RX8_31 hk0.2.1 hk0.1 rfl dX8_join_54 (nm_e ?_)
      cases h
      exact g_vret hC hE rfl dX8_join_57 (Nat.zero_le _) (Nat.zero_le _) ⟨rfl, rfl, rfl, rfl, rfl, rfl⟩
noncomputable def f_X8_join (Fu : Nat) (I : mIT) (k0 : Nat) (v1 : Int32) : Option (mIT) :=
  if v1 = (30 : Int32) then (b_X8_join_18 Fu k0 v1 I) else (if v1 = 0 then (b_X8_join_18 Fu k0 v1 I) else (oB (f_X8_putWaiting Fu I k0 (v1 / (10 : Int32))) (fun r15 => b_X8_join_18 Fu k0 v1 r15)))
set_option maxRecDepth 20000 in
theorem ok_X8_join {l : Launch} {E : mEn} {Fu : Nat} {I : mIT} {R : mRT} {L : mLT} {k0 : Nat} {v1 : Int32} (hst : l.stackTraces = false) (hk0 : mO8 R k0) {out : mIT} (h : f_X8_join Fu I k0 v1 = some out) : mOk l E mX8_join [.ref (mB E + k0), .int v1] 106 1 I R L 0 0 (mSame none 106 1 (out) R L) := by
  refine mOk_of hst (by decide) (Nat.le_of_ble_eq_true rfl) (fun X hC hE _ => ?_)
  have hC : mC X E mX8_join RX8 cX8_join := hC
  show mG X E 0 [(0, .ref (mB E + k0)), (1, .int v1)] [] 106 1 I R L 0 0
  unfold f_X8_join at h
  refine g_iload_n hC dX8_join_0 rfl (q := 1) rfl ?_
  refine g_bipush hC dX8_join_1 (v := (30 : Int32)) (by decide) ?_
  refine g_ic_eq hC dX8_join_3 (tgt := 18) (by decide) (fun c3 => ?_) (fun c3 => ?_)
  · replace h := (if_pos c3).symm.trans h
    exact bo_X8_join_18 hC hk0 hE (v1) (I) h
  · replace h := (if_neg c3).symm.trans h
    refine g_iload_n hC dX8_join_6 rfl (q := 1) rfl ?_
    refine g_if_eq hC dX8_join_7 (tgt := 18) (by decide) (fun c7 => ?_) (fun c7 => ?_)
    · replace h := (if_pos c7).symm.trans h
      exact bo_X8_join_18 hC hk0 hE (v1) (I) h
    · replace h := (if_neg c7).symm.trans h
      refine g_aload_n hC dX8_join_10 rfl (q := 0) rfl ?_
      refine g_iload_n hC dX8_join_11 rfl (q := 1) rfl ?_
      refine g_bipush hC dX8_join_12 (v := (10 : Int32)) (by decide) ?_
      refine g_idiv hC dX8_join_14 (by decide) ?_
      obtain ⟨r15, h15, h⟩ := oB_some h
      refine g_cV0 hC cv_X8_putWaiting wd_1089 ⟨Nat.le_of_ble_eq_true rfl, Nat.le_of_ble_eq_true rfl⟩ hk0.2.1 hk0.1 dX8_join_15 (As := [.int (v1 / (10 : Int32))]) (st := []) (ok_X8_putWaiting hC.2.2.2.2.2.2.2.1 hk0 h15) rfl rfl (Nat.le_of_ble_eq_true rfl) ⟨Nat.zero_le _, Nat.zero_le _⟩ ?_
      exact bo_X8_join_18 hC hk0 hE (v1) (r15) h
noncomputable def f_X8_putOperand (Fu : Nat) (I : mIT) (k0 : Nat) (v1 : Int32) (v2 : Int32) : Option (mIT) :=
  if (I k0 5) < 0 then (some (I)) else (if (nI 700) ≤ (I k0 5) then (some (I)) else (if (nI 700) ≤ (I k0 5) then (some (I)) else (oG (inB (I k0 5) 700) (oG (inB ((mU I (k0 + 1) ((I k0 5)).toNatClampNeg v1) k0 5) 700) (some (mU (mU (mU I (k0 + 1) ((I k0 5)).toNatClampNeg v1) (k0 + 2) (((mU I (k0 + 1) ((I k0 5)).toNatClampNeg v1) k0 5)).toNatClampNeg v2) k0 5 (((mU (mU I (k0 + 1) ((I k0 5)).toNatClampNeg v1) (k0 + 2) (((mU I (k0 + 1) ((I k0 5)).toNatClampNeg v1) k0 5)).toNatClampNeg v2) k0 5) + (1 : Int32))))))))
set_option maxRecDepth 20000 in
theorem ok_X8_putOperand {l : Launch} {E : mEn} {Fu : Nat} {I : mIT} {R : mRT} {L : mLT} {k0 : Nat} {v1 : Int32} {v2 : Int32} (hst : l.stackTraces = false) (hk0 : mO8 R k0) {out : mIT} (h : f_X8_putOperand Fu I k0 v1 v2 = some out) : mOk l E mX8_putOperand [.ref (mB E + k0), .int v1, .int v2] 106 1 I R L 0 0 (mSame none 106 1 (out) R L) := by
  refine mOk_of hst (by decide) (Nat.le_of_ble_eq_true rfl) (fun X hC hE _ => ?_)
  have hC : mC X E mX8_putOperand RX8 cX8_putOperand := hC
  show mG X E 0 [(0, .ref (mB E + k0)), (1, .int v1), (2, .int v2)] [] 106 1 I R L 0 0
  unfold f_X8_putOperand at h
  refine g_aload_n hC dX8_putOperand_0 rfl (q := 0) rfl ?_
  refine g_geti hC fd_RX8_27 hk0.2.1 hk0.1 (Or.inl rfl) dX8_putOperand_1 ?_
  refine g_if_lt hC dX8_putOperand_4 (tgt := 61) (by decide) (fun c4 => ?_) (fun c4 => ?_)
  · replace h := (if_pos c4).symm.trans h
    cases h
    exact g_vret hC hE rfl dX8_putOperand_61 (Nat.zero_le _) (Nat.zero_le _) ⟨rfl, rfl, rfl, rfl, rfl, rfl⟩
  · replace h := (if_neg c4).symm.trans h
    refine g_aload_n hC dX8_putOperand_7 rfl (q := 0) rfl ?_
    refine g_geti hC fd_RX8_27 hk0.2.1 hk0.1 (Or.inl rfl) dX8_putOperand_8 ?_
    refine g_aload_n hC dX8_putOperand_11 rfl (q := 0) rfl ?_
    refine g_getr hC fd_RX8_9 hk0.2.1 hk0.1 (C0 := "") (t0 := _) (Or.inr rfl) hk0.2.2.1.1 dX8_putOperand_12 ?_
    refine g_alenI hC hk0.2.2.1.2.2 hk0.2.2.1.2.1 dX8_putOperand_15 ?_
    refine g_ic_ge hC dX8_putOperand_16 (tgt := 61) (by decide) (fun c16 => ?_) (fun c16 => ?_)
    · replace h := (if_pos c16).symm.trans h
      cases h
      exact g_vret hC hE rfl dX8_putOperand_61 (Nat.zero_le _) (Nat.zero_le _) ⟨rfl, rfl, rfl, rfl, rfl, rfl⟩
    · replace h := (if_neg c16).symm.trans h
      refine g_aload_n hC dX8_putOperand_19 rfl (q := 0) rfl ?_
      refine g_geti hC fd_RX8_27 hk0.2.1 hk0.1 (Or.inl rfl) dX8_putOperand_20 ?_
      refine g_aload_n hC dX8_putOperand_23 rfl (q := 0) rfl ?_
      refine g_getr hC fd_RX8_15 hk0.2.1 hk0.1 (C0 := "") (t0 := _) (Or.inr rfl) hk0.2.2.2.1.1 dX8_putOperand_24 ?_
      refine g_alenI hC hk0.2.2.2.1.2.2 hk0.2.2.2.1.2.1 dX8_putOperand_27 ?_
      refine g_ic_ge hC dX8_putOperand_28 (tgt := 61) (by decide) (fun c28 => ?_) (fun c28 => ?_)
      · replace h := (if_pos c28).symm.trans h
        cases h
        exact g_vret hC hE rfl dX8_putOperand_61 (Nat.zero_le _) (Nat.zero_le _) ⟨rfl, rfl, rfl, rfl, rfl, rfl⟩
      · replace h := (if_neg c28).symm.trans h
        refine g_aload_n hC dX8_putOperand_31 rfl (q := 0) rfl ?_
        refine g_getr hC fd_RX8_9 hk0.2.1 hk0.1 (C0 := "") (t0 := _) (Or.inr rfl) hk0.2.2.1.1 dX8_putOperand_32 ?_
        refine g_aload_n hC dX8_putOperand_35 rfl (q := 0) rfl ?_
        refine g_geti hC fd_RX8_27 hk0.2.1 hk0.1 (Or.inl rfl) dX8_putOperand_36 ?_
        refine g_iload_n hC dX8_putOperand_39 rfl (q := 1) rfl ?_
        obtain ⟨g40, h⟩ := oG_some h
        refine g_iast hC hk0.2.2.1.2.2 hk0.2.2.1.2.1 (inB_in g40) dX8_putOperand_40 (nm_e ?_)
        refine g_aload_n hC dX8_putOperand_41 rfl (q := 0) rfl ?_
        refine g_getr hC fd_RX8_15 hk0.2.1 hk0.1 (C0 := "") (t0 := _) (Or.inr rfl) hk0.2.2.2.1.1 dX8_putOperand_42 ?_
        refine g_aload_n hC dX8_putOperand_45 rfl (q := 0) rfl ?_
        refine g_geti hC fd_RX8_27 hk0.2.1 hk0.1 (Or.inl rfl) dX8_putOperand_46 ?_
        refine g_iload_n hC dX8_putOperand_49 rfl (q := 2) rfl ?_
        obtain ⟨g50, h⟩ := oG_some h
        refine g_iast hC hk0.2.2.2.1.2.2 hk0.2.2.2.1.2.1 (inB_in g50) dX8_putOperand_50 (nm_e ?_)
        refine g_aload_n hC dX8_putOperand_51 rfl (q := 0) rfl ?_
        refine g_dup hC dX8_putOperand_52 rfl ?_
        refine g_geti hC fd_RX8_27 hk0.2.1 hk0.1 (Or.inl rfl) dX8_putOperand_53 ?_
        refine g_iconst hC dX8_putOperand_56 (v := (1 : Int32)) (by decide) ?_
        refine g_iadd hC dX8_putOperand_57 ?_
        refine g_puti hC fd_RX8_27 hk0.2.1 hk0.1 rfl dX8_putOperand_58 (nm_e ?_)
        cases h
        exact g_vret hC hE rfl dX8_putOperand_61 (Nat.zero_le _) (Nat.zero_le _) ⟨rfl, rfl, rfl, rfl, rfl, rfl⟩
noncomputable def f_X8_finish (Fu : Nat) (I : mIT) (k0 : Nat) : Option (mIT) :=
  oB (f_X8_putWaiting Fu I k0 (1 : Int32)) (fun r2 => some (r2))
set_option maxRecDepth 20000 in
theorem ok_X8_finish {l : Launch} {E : mEn} {Fu : Nat} {I : mIT} {R : mRT} {L : mLT} {k0 : Nat} (hst : l.stackTraces = false) (hk0 : mO8 R k0) {out : mIT} (h : f_X8_finish Fu I k0 = some out) : mOk l E mX8_finish [.ref (mB E + k0)] 106 1 I R L 0 0 (mSame none 106 1 (out) R L) := by
  refine mOk_of hst (by decide) (Nat.le_of_ble_eq_true rfl) (fun X hC hE _ => ?_)
  have hC : mC X E mX8_finish RX8 cX8_finish := hC
  show mG X E 0 [(0, .ref (mB E + k0))] [] 106 1 I R L 0 0
  unfold f_X8_finish at h
  refine g_aload_n hC dX8_finish_0 rfl (q := 0) rfl ?_
  refine g_iconst hC dX8_finish_1 (v := (1 : Int32)) (by decide) ?_
  obtain ⟨r2, h2, h⟩ := oB_some h
  refine g_cV0 hC cv_X8_putWaiting wd_1089 ⟨Nat.le_of_ble_eq_true rfl, Nat.le_of_ble_eq_true rfl⟩ hk0.2.1 hk0.1 dX8_finish_2 (As := [.int (1 : Int32)]) (st := []) (ok_X8_putWaiting hC.2.2.2.2.2.2.2.1 hk0 h2) rfl rfl (Nat.le_of_ble_eq_true rfl) ⟨Nat.zero_le _, Nat.zero_le _⟩ ?_
  cases h
  exact g_vret hC hE rfl dX8_finish_5 (Nat.zero_le _) (Nat.zero_le _) ⟨rfl, rfl, rfl, rfl, rfl, rfl⟩
