noncomputable def f_X12_noteOf (Fu : Nat) (I : mIT) (v1 : Int32) (v2 : Int32) : Option (Int32 × mIT) :=
  if (I 75 6) = (-1 : Int32) then (oG (inB ((v1 + (1 : Int32)) + v2) 106) (oG (inB ((v1 + (11 : Int32)) + v2) 106) (oB (f_X12_kept Fu ((15 : Int32) - (((I 89 (((v1 + (1 : Int32)) + v2)).toNatClampNeg) - (I 89 (((v1 + (11 : Int32)) + v2)).toNatClampNeg)) / (2 : Int32))) (0 : Int32) (15 : Int32)) (fun r38 => some (r38, I))))) else (oB (f_X12_tells Fu I v1 v2) (fun r45 => oB (f_X12_reckons Fu r45 (r45 75 6)) (fun r53 => oB (f_X12_kept Fu r53.1 (0 : Int32) (15 : Int32)) (fun r59 => some (r59, r53.2)))))
set_option maxRecDepth 20000 in
theorem ok_X12_noteOf {l : Launch} {E : mEn} {Fu : Nat} {I : mIT} {R : mRT} {L : mLT} {v1 : Int32} {v2 : Int32} (hst : l.stackTraces = false) (hW : mWd R)  {out : Int32 × mIT} (h : f_X12_noteOf Fu I v1 v2 = some out) : mOk l E mX12_noteOf [.ref (mB E + 75), .int v1, .int v2] 106 1 I R L 0 0 (mSame (some (.int (out.1))) 106 1 (out.2) R L) := by
  refine mOk_of hst (by decide) (Nat.le_of_ble_eq_true rfl) (fun X hC hE _ => ?_)
  have hC : mC X E mX12_noteOf RX12 cX12_noteOf := hC
  show mG X E 0 [(0, .ref (mB E + 75)), (1, .int v1), (2, .int v2)] [] 106 1 I R L 0 0
  unfold f_X12_noteOf at h
  refine g_aload_n hC dX12_noteOf_0 rfl (q := 0) rfl ?_
  refine g_geti hC fd_RX12_13 rfl (by decide) (Or.inl rfl) dX12_noteOf_1 ?_
  refine g_iconst hC dX12_noteOf_4 (v := (-1 : Int32)) (by decide) ?_
  refine g_ic_ne hC dX12_noteOf_5 (tgt := 42) (by decide) (fun c5 => ?_) (fun c5 => ?_)
  · replace h := (if_neg c5).symm.trans h
    refine g_aload_n hC dX12_noteOf_42 rfl (q := 0) rfl ?_
    refine g_iload_n hC dX12_noteOf_43 rfl (q := 1) rfl ?_
    refine g_iload_n hC dX12_noteOf_44 rfl (q := 2) rfl ?_
    obtain ⟨r45, h45, h⟩ := oB_some h
    refine g_cV0 hC cv_X12_tells wd_2019 ⟨Nat.le_of_ble_eq_true rfl, Nat.le_of_ble_eq_true rfl⟩ rfl (by decide) dX12_noteOf_45 (As := [.int v1, .int v2]) (st := []) (ok_X12_tells hC.2.2.2.2.2.2.2.1 hW h45) rfl rfl (Nat.le_of_ble_eq_true rfl) ⟨Nat.zero_le _, Nat.zero_le _⟩ ?_
    refine g_aload_n hC dX12_noteOf_48 rfl (q := 0) rfl ?_
    refine g_aload_n hC dX12_noteOf_49 rfl (q := 0) rfl ?_
    refine g_geti hC fd_RX12_13 rfl (by decide) (Or.inl rfl) dX12_noteOf_50 ?_
    obtain ⟨r53, h53, h⟩ := oB_some h
    refine g_cV1 hC cv_X12_reckons wd_2023 ⟨Nat.le_of_ble_eq_true rfl, Nat.le_of_ble_eq_true rfl⟩ rfl (by decide) dX12_noteOf_53 (As := [.int (r45 75 6)]) (st := []) (ok_X12_reckons hC.2.2.2.2.2.2.2.1 hW h53) rfl rfl (Nat.le_of_ble_eq_true rfl) ⟨Nat.zero_le _, Nat.zero_le _⟩ ?_
    refine g_iconst hC dX12_noteOf_56 (v := (0 : Int32)) (by decide) ?_
    refine g_bipush hC dX12_noteOf_57 (v := (15 : Int32)) (by decide) ?_
    obtain ⟨r59, h59, h⟩ := oB_some h
    refine g_cS1 hC cs_X12_kept wd_2016 ⟨Nat.le_of_ble_eq_true rfl, Nat.le_of_ble_eq_true rfl⟩ dX12_noteOf_59 (As := [.int r53.1, .int (0 : Int32), .int (15 : Int32)]) (st := []) (ok_X12_kept hC.2.2.2.2.2.2.2.1 hW h59) rfl rfl (Nat.le_of_ble_eq_true rfl) ⟨Nat.zero_le _, Nat.zero_le _⟩ ?_
    cases h
    exact g_iret hC hE rfl dX12_noteOf_62 (Nat.zero_le _) (Nat.zero_le _) ⟨rfl, rfl, rfl, rfl, rfl, rfl⟩
  · replace h := (if_pos c5).symm.trans h
    refine g_bipush hC dX12_noteOf_8 (v := (15 : Int32)) (by decide) ?_
    refine g_aload_n hC dX12_noteOf_10 rfl (q := 0) rfl ?_
    refine g_getr hC fd_RX12_63 rfl (by decide) (C0 := "") (t0 := _) (Or.inr rfl) (rr_75_42 hW.1) dX12_noteOf_11 ?_
    refine g_iload_n hC dX12_noteOf_14 rfl (q := 1) rfl ?_
    refine g_iconst hC dX12_noteOf_15 (v := (1 : Int32)) (by decide) ?_
    refine g_iadd hC dX12_noteOf_16 ?_
    refine g_iload_n hC dX12_noteOf_17 rfl (q := 2) rfl ?_
    refine g_iadd hC dX12_noteOf_18 ?_
    obtain ⟨g19, h⟩ := oG_some h
    refine g_iald hC rfl (by decide) (inB_in g19) dX12_noteOf_19 ?_
    refine g_aload_n hC dX12_noteOf_20 rfl (q := 0) rfl ?_
    refine g_getr hC fd_RX12_63 rfl (by decide) (C0 := "") (t0 := _) (Or.inr rfl) (rr_75_42 hW.1) dX12_noteOf_21 ?_
    refine g_iload_n hC dX12_noteOf_24 rfl (q := 1) rfl ?_
    refine g_bipush hC dX12_noteOf_25 (v := (11 : Int32)) (by decide) ?_
    refine g_iadd hC dX12_noteOf_27 ?_
    refine g_iload_n hC dX12_noteOf_28 rfl (q := 2) rfl ?_
    refine g_iadd hC dX12_noteOf_29 ?_
    obtain ⟨g30, h⟩ := oG_some h
    refine g_iald hC rfl (by decide) (inB_in g30) dX12_noteOf_30 ?_
    refine g_isub hC dX12_noteOf_31 ?_
    refine g_iconst hC dX12_noteOf_32 (v := (2 : Int32)) (by decide) ?_
    refine g_idiv hC dX12_noteOf_33 (by decide) ?_
    refine g_isub hC dX12_noteOf_34 ?_
    refine g_iconst hC dX12_noteOf_35 (v := (0 : Int32)) (by decide) ?_
    refine g_bipush hC dX12_noteOf_36 (v := (15 : Int32)) (by decide) ?_
    obtain ⟨r38, h38, h⟩ := oB_some h
    refine g_cS1 hC cs_X12_kept wd_2016 ⟨Nat.le_of_ble_eq_true rfl, Nat.le_of_ble_eq_true rfl⟩ dX12_noteOf_38 (As := [.int ((15 : Int32) - (((I 89 (((v1 + (1 : Int32)) + v2)).toNatClampNeg) - (I 89 (((v1 + (11 : Int32)) + v2)).toNatClampNeg)) / (2 : Int32))), .int (0 : Int32), .int (15 : Int32)]) (st := []) (ok_X12_kept hC.2.2.2.2.2.2.2.1 hW h38) rfl rfl (Nat.le_of_ble_eq_true rfl) ⟨Nat.zero_le _, Nat.zero_le _⟩ ?_
    cases h
    exact g_iret hC hE rfl dX12_noteOf_41 (Nat.zero_le _) (Nat.zero_le _) ⟨rfl, rfl, rfl, rfl, rfl, rfl⟩
noncomputable def b_X12_costOf_36 (Fu : Nat) (k36_ : Int32 × Int32 × Int32 × Int32 × mIT → Option (Int32 × mIT)) (v1 : Int32) (v2 : Int32) (v4 : Int32) (v5 : Int32) (I : mIT) : Option (Int32 × mIT) :=
  if v5 < 0 then (some (v4, I)) else (oG (inB ((11 : Int32) + v1) 106) (oG (inB ((64 : Int32) + v1) 106) (oB (f_X12_noteOf Fu (mU I 89 (((64 : Int32) + v1)).toNatClampNeg ((I 89 (((11 : Int32) + v1)).toNatClampNeg) + v5)) (53 : Int32) v1) (fun r66 => if r66.1 = v2 then (k36_ (v1, v2, v5, (v5 + (-1 : Int32)), r66.2)) else (k36_ (v1, v2, v4, (v5 + (-1 : Int32)), r66.2))))))
set_option maxRecDepth 20000 in
theorem bo_X12_costOf_36 {X : mXT} {E : mEn} {Fu : Nat} {R : mRT} {L : mLT}  (hC : mC X E mX12_costOf RX12 cX12_costOf) (hW : mWd R)   {out : Int32 × mIT} (hE : mEd X E 0 0 (mSame (some (.int (out.1))) 106 1 (out.2) R L)) (k36_ : Int32 × Int32 × Int32 × Int32 × mIT → Option (Int32 × mIT)) (hk36_ : ∀ (v1 : Int32) (v2 : Int32) (v4 : Int32) (v5 : Int32) (I : mIT),  k36_ (v1, v2, v4, v5, I) = some out → mG X E 36 [(0, .ref (mB E + 75)), (1, .int v1), (2, .int v2), (4, .int v4), (5, .int v5)] [] 106 1 I R L 0 0) (v1 : Int32) (v2 : Int32) (v4 : Int32) (v5 : Int32) (I : mIT) (h : b_X12_costOf_36 Fu k36_ v1 v2 v4 v5 I = some out) : mG X E 36 [(0, .ref (mB E + 75)), (1, .int v1), (2, .int v2), (4, .int v4), (5, .int v5)] [] 106 1 I R L 0 0 := by
  unfold b_X12_costOf_36 at h
  refine g_iload hC dX12_costOf_36 (q := 4) rfl ?_
  refine g_if_lt hC dX12_costOf_38 (tgt := 88) (by decide) (fun c38 => ?_) (fun c38 => ?_)
  · replace h := (if_pos c38).symm.trans h
    refine g_iload hC dX12_costOf_88 (q := 3) rfl ?_
    cases h
    exact g_iret hC hE rfl dX12_costOf_90 (Nat.zero_le _) (Nat.zero_le _) ⟨rfl, rfl, rfl, rfl, rfl, rfl⟩
  · replace h := (if_neg c38).symm.trans h
    refine g_aload_n hC dX12_costOf_41 rfl (q := 0) rfl ?_
    refine g_getr hC fd_RX12_63 rfl (by decide) (C0 := "") (t0 := _) (Or.inr rfl) (rr_75_42 hW.1) dX12_costOf_42 ?_
    refine g_bipush hC dX12_costOf_45 (v := (64 : Int32)) (by decide) ?_
    refine g_iload_n hC dX12_costOf_47 rfl (q := 1) rfl ?_
    refine g_iadd hC dX12_costOf_48 ?_
    refine g_aload_n hC dX12_costOf_49 rfl (q := 0) rfl ?_
    refine g_getr hC fd_RX12_63 rfl (by decide) (C0 := "") (t0 := _) (Or.inr rfl) (rr_75_42 hW.1) dX12_costOf_50 ?_
    refine g_bipush hC dX12_costOf_53 (v := (11 : Int32)) (by decide) ?_
    refine g_iload_n hC dX12_costOf_55 rfl (q := 1) rfl ?_
    refine g_iadd hC dX12_costOf_56 ?_
    obtain ⟨g57, h⟩ := oG_some h
    refine g_iald hC rfl (by decide) (inB_in g57) dX12_costOf_57 ?_
    refine g_iload hC dX12_costOf_58 (q := 4) rfl ?_
    refine g_iadd hC dX12_costOf_60 ?_
    obtain ⟨g61, h⟩ := oG_some h
    refine g_iast hC rfl (by decide) (inB_in g61) dX12_costOf_61 (nm_e ?_)
    refine g_aload_n hC dX12_costOf_62 rfl (q := 0) rfl ?_
    refine g_bipush hC dX12_costOf_63 (v := (53 : Int32)) (by decide) ?_
    refine g_iload_n hC dX12_costOf_65 rfl (q := 1) rfl ?_
    obtain ⟨r66, h66, h⟩ := oB_some h
    refine g_cV1 hC cv_X12_noteOf wd_2012 ⟨Nat.le_of_ble_eq_true rfl, Nat.le_of_ble_eq_true rfl⟩ rfl (by decide) dX12_costOf_66 (As := [.int (53 : Int32), .int v1]) (st := []) (ok_X12_noteOf hC.2.2.2.2.2.2.2.1 hW h66) rfl rfl (Nat.le_of_ble_eq_true rfl) ⟨Nat.zero_le _, Nat.zero_le _⟩ ?_
    refine g_iload_n hC dX12_costOf_69 rfl (q := 2) rfl ?_
    refine g_ic_ne hC dX12_costOf_70 (tgt := 78) (by decide) (fun c70 => ?_) (fun c70 => ?_)
    · replace h := (if_neg c70).symm.trans h
      refine g_iload hC dX12_costOf_78 (q := 3) rfl ?_
      refine g_istore hC dX12_costOf_80 rfl (by decide) (lv' := [(4, .int v4), (0, .ref (mB E + 75)), (1, .int v1), (2, .int v2), (5, .int v5)]) rfl ?_
      refine g_iinc hC dX12_costOf_82 rfl (q := 4) rfl (w := (v5 + (-1 : Int32))) rfl (by decide) (lv' := [(5, .int (v5 + (-1 : Int32))), (4, .int v4), (0, .ref (mB E + 75)), (1, .int v1), (2, .int v2)]) rfl ?_
      refine g_goto hC dX12_costOf_85 (tgt := 36) (by decide) ?_
      refine g_lv [2, 3, 4, 1, 0] rfl ?_
      exact hk36_ v1 v2 v4 (v5 + (-1 : Int32)) r66.2 h
    · replace h := (if_pos c70).symm.trans h
      refine g_iload hC dX12_costOf_73 (q := 4) rfl ?_
      refine g_goto hC dX12_costOf_75 (tgt := 80) (by decide) ?_
      refine g_istore hC dX12_costOf_80 rfl (by decide) (lv' := [(4, .int v5), (0, .ref (mB E + 75)), (1, .int v1), (2, .int v2), (5, .int v5)]) rfl ?_
      refine g_iinc hC dX12_costOf_82 rfl (q := 4) rfl (w := (v5 + (-1 : Int32))) rfl (by decide) (lv' := [(5, .int (v5 + (-1 : Int32))), (4, .int v5), (0, .ref (mB E + 75)), (1, .int v1), (2, .int v2)]) rfl ?_
      refine g_goto hC dX12_costOf_85 (tgt := 36) (by decide) ?_
      refine g_lv [2, 3, 4, 1, 0] rfl ?_
      exact hk36_ v1 v2 v5 (v5 + (-1 : Int32)) r66.2 h
noncomputable def w_X12_costOf_36 (Fu : Nat)  (N : Nat) (v1 : Int32) (v2 : Int32) (v4 : Int32) (v5 : Int32) (I : mIT) : Option (Int32 × mIT) :=
  loopF (fun self (s : Int32 × Int32 × Int32 × Int32 × mIT) => b_X12_costOf_36 Fu self s.1 s.2.1 s.2.2.1 s.2.2.2.1 s.2.2.2.2) N (v1, v2, v4, v5, I)
theorem wo_X12_costOf_36 {X : mXT} {E : mEn} {Fu : Nat} {R : mRT} {L : mLT}  (hC : mC X E mX12_costOf RX12 cX12_costOf) (hW : mWd R)   {out : Int32 × mIT} (hE : mEd X E 0 0 (mSame (some (.int (out.1))) 106 1 (out.2) R L))  (N : Nat) (v1 : Int32) (v2 : Int32) (v4 : Int32) (v5 : Int32) (I : mIT) (h : w_X12_costOf_36 Fu  N v1 v2 v4 v5 I = some out) : mG X E 36 [(0, .ref (mB E + 75)), (1, .int v1), (2, .int v2), (4, .int v4), (5, .int v5)] [] 106 1 I R L 0 0 :=
  loopF_ok (Gd := fun s : Int32 × Int32 × Int32 × Int32 × mIT => mG X E 36 [(0, .ref (mB E + 75)), (1, .int s.1), (2, .int s.2.1), (4, .int s.2.2.1), (5, .int s.2.2.2.1)] [] 106 1 s.2.2.2.2 R L 0 0) (fun self hs s h => bo_X12_costOf_36 hC hW hE self (fun v1 v2 v4 v5 I h => hs (v1, v2, v4, v5, I) h) s.1 s.2.1 s.2.2.1 s.2.2.2.1 s.2.2.2.2 h) N (v1, v2, v4, v5, I) h
noncomputable def f_X12_costOf (Fu : Nat) (I : mIT) (v1 : Int32) (v2 : Int32) : Option (Int32 × mIT) :=
  oB (f_X12_mayBe Fu I v1) (fun r2 => oG (inB ((31 : Int32) + v1) 106) (if (I 89 (((31 : Int32) + v1)).toNatClampNeg) = (-2 : Int32) then (some ((9999 : Int32), I)) else (oB (f_X12_tries Fu I) (fun r30 => w_X12_costOf_36 Fu Fu v1 v2 (9999 : Int32) r2 r30))))
set_option maxRecDepth 20000 in
theorem ok_X12_costOf {l : Launch} {E : mEn} {Fu : Nat} {I : mIT} {R : mRT} {L : mLT} {v1 : Int32} {v2 : Int32} (hst : l.stackTraces = false) (hW : mWd R)  {out : Int32 × mIT} (h : f_X12_costOf Fu I v1 v2 = some out) : mOk l E mX12_costOf [.ref (mB E + 75), .int v1, .int v2] 106 1 I R L 0 0 (mSame (some (.int (out.1))) 106 1 (out.2) R L) := by
  refine mOk_of hst (by decide) (Nat.le_of_ble_eq_true rfl) (fun X hC hE _ => ?_)
  have hC : mC X E mX12_costOf RX12 cX12_costOf := hC
  show mG X E 0 [(0, .ref (mB E + 75)), (1, .int v1), (2, .int v2)] [] 106 1 I R L 0 0
  unfold f_X12_costOf at h
  refine g_aload_n hC dX12_costOf_0 rfl (q := 0) rfl ?_
  refine g_iload_n hC dX12_costOf_1 rfl (q := 1) rfl ?_
  obtain ⟨r2, h2, h⟩ := oB_some h
  refine g_cV1 hC cv_X12_mayBe wd_2042 ⟨Nat.le_of_ble_eq_true rfl, Nat.le_of_ble_eq_true rfl⟩ rfl (by decide) dX12_costOf_2 (As := [.int v1]) (st := []) (ok_X12_mayBe hC.2.2.2.2.2.2.2.1 hW h2) rfl rfl (Nat.le_of_ble_eq_true rfl) ⟨Nat.zero_le _, Nat.zero_le _⟩ ?_
  refine g_istore_n hC dX12_costOf_5 rfl rfl (by decide) (lv' := [(3, .int r2), (0, .ref (mB E + 75)), (1, .int v1), (2, .int v2)]) rfl ?_
  refine g_sipush hC dX12_costOf_6 (v := (9999 : Int32)) (by decide) ?_
  refine g_istore hC dX12_costOf_9 rfl (by decide) (lv' := [(4, .int (9999 : Int32)), (3, .int r2), (0, .ref (mB E + 75)), (1, .int v1), (2, .int v2)]) rfl ?_
  refine g_aload_n hC dX12_costOf_11 rfl (q := 2) rfl ?_
  refine g_getr hC fd_RX12_63 rfl (by decide) (C0 := "") (t0 := _) (Or.inr rfl) (rr_75_42 hW.1) dX12_costOf_12 ?_
  refine g_bipush hC dX12_costOf_15 (v := (31 : Int32)) (by decide) ?_
  refine g_iload_n hC dX12_costOf_17 rfl (q := 3) rfl ?_
  refine g_iadd hC dX12_costOf_18 ?_
  obtain ⟨g19, h⟩ := oG_some h
  refine g_iald hC rfl (by decide) (inB_in g19) dX12_costOf_19 ?_
  refine g_bipush hC dX12_costOf_20 (v := (-2 : Int32)) (by decide) ?_
  refine g_ic_ne hC dX12_costOf_22 (tgt := 29) (by decide) (fun c22 => ?_) (fun c22 => ?_)
  · replace h := (if_neg c22).symm.trans h
    refine g_aload_n hC dX12_costOf_29 rfl (q := 2) rfl ?_
    obtain ⟨r30, h30, h⟩ := oB_some h
    refine g_cV0 hC cv_X12_tries wd_2110 ⟨Nat.le_of_ble_eq_true rfl, Nat.le_of_ble_eq_true rfl⟩ rfl (by decide) dX12_costOf_30 (As := []) (st := []) (ok_X12_tries hC.2.2.2.2.2.2.2.1 hW h30) rfl rfl (Nat.le_of_ble_eq_true rfl) ⟨Nat.zero_le _, Nat.zero_le _⟩ ?_
    refine g_iload_n hC dX12_costOf_33 rfl (q := 1) rfl ?_
    refine g_istore hC dX12_costOf_34 rfl (by decide) (lv' := [(5, .int r2), (4, .int (9999 : Int32)), (3, .int r2), (0, .ref (mB E + 75)), (1, .int v1), (2, .int v2)]) rfl ?_
    refine g_lv [3, 4, 5, 1, 0] rfl ?_
    exact wo_X12_costOf_36 hC hW hE Fu (v1) (v2) ((9999 : Int32)) (r2) (r30) h
  · replace h := (if_pos c22).symm.trans h
    refine g_sipush hC dX12_costOf_25 (v := (9999 : Int32)) (by decide) ?_
    cases h
    exact g_iret hC hE rfl dX12_costOf_28 (Nat.zero_le _) (Nat.zero_le _) ⟨rfl, rfl, rfl, rfl, rfl, rfl⟩
noncomputable def f_X12_sounds (Fu : Nat) (I : mIT) (v1 : Int32) (v2 : Int32) : Option (Int32) :=
  oB (f_X12_hangs Fu I v1 v2) (fun r3 => if r3 = 0 then (some (0 : Int32)) else (oG (inB ((v1 + (21 : Int32)) + v2) 106) (if (I 75 3) ≤ (I 89 (((v1 + (21 : Int32)) + v2)).toNatClampNeg) then (some (0 : Int32)) else (some (1 : Int32)))))
set_option maxRecDepth 20000 in
theorem ok_X12_sounds {l : Launch} {E : mEn} {Fu : Nat} {I : mIT} {R : mRT} {L : mLT} {v1 : Int32} {v2 : Int32} (hst : l.stackTraces = false) (hW : mWd R)  {out : Int32} (h : f_X12_sounds Fu I v1 v2 = some out) : mOk l E mX12_sounds [.ref (mB E + 75), .int v1, .int v2] 106 1 I R L 0 0 (mSame (some (.int (out))) 106 1 I R L) := by
  refine mOk_of hst (by decide) (Nat.le_of_ble_eq_true rfl) (fun X hC hE _ => ?_)
  have hC : mC X E mX12_sounds RX12 cX12_sounds := hC
  show mG X E 0 [(0, .ref (mB E + 75)), (1, .int v1), (2, .int v2)] [] 106 1 I R L 0 0
  unfold f_X12_sounds at h
  refine g_aload_n hC dX12_sounds_0 rfl (q := 0) rfl ?_
  refine g_iload_n hC dX12_sounds_1 rfl (q := 1) rfl ?_
  refine g_iload_n hC dX12_sounds_2 rfl (q := 2) rfl ?_
  obtain ⟨r3, h3, h⟩ := oB_some h
  refine g_cV1 hC cv_X12_hangs wd_2004 ⟨Nat.le_of_ble_eq_true rfl, Nat.le_of_ble_eq_true rfl⟩ rfl (by decide) dX12_sounds_3 (As := [.int v1, .int v2]) (st := []) (ok_X12_hangs hC.2.2.2.2.2.2.2.1 hW h3) rfl rfl (Nat.le_of_ble_eq_true rfl) ⟨Nat.zero_le _, Nat.zero_le _⟩ ?_
  refine g_if_eq hC dX12_sounds_6 (tgt := 31) (by decide) (fun c6 => ?_) (fun c6 => ?_)
  · replace h := (if_pos c6).symm.trans h
    refine g_iconst hC dX12_sounds_31 (v := (0 : Int32)) (by decide) ?_
    cases h
    exact g_zret hC (by decide) hE rfl dX12_sounds_32 (Nat.zero_le _) (Nat.zero_le _) ⟨rfl, rfl, rfl, rfl, rfl, rfl⟩
  · replace h := (if_neg c6).symm.trans h
    refine g_aload_n hC dX12_sounds_9 rfl (q := 0) rfl ?_
    refine g_getr hC fd_RX12_63 rfl (by decide) (C0 := "") (t0 := _) (Or.inr rfl) (rr_75_42 hW.1) dX12_sounds_10 ?_
    refine g_iload_n hC dX12_sounds_13 rfl (q := 1) rfl ?_
    refine g_bipush hC dX12_sounds_14 (v := (21 : Int32)) (by decide) ?_
    refine g_iadd hC dX12_sounds_16 ?_
    refine g_iload_n hC dX12_sounds_17 rfl (q := 2) rfl ?_
    refine g_iadd hC dX12_sounds_18 ?_
    obtain ⟨g19, h⟩ := oG_some h
    refine g_iald hC rfl (by decide) (inB_in g19) dX12_sounds_19 ?_
    refine g_aload_n hC dX12_sounds_20 rfl (q := 0) rfl ?_
    refine g_geti hC fd_RX12_7 rfl (by decide) (Or.inl rfl) dX12_sounds_21 ?_
    refine g_ic_ge hC dX12_sounds_24 (tgt := 31) (by decide) (fun c24 => ?_) (fun c24 => ?_)
    · replace h := (if_pos c24).symm.trans h
      refine g_iconst hC dX12_sounds_31 (v := (0 : Int32)) (by decide) ?_
      cases h
      exact g_zret hC (by decide) hE rfl dX12_sounds_32 (Nat.zero_le _) (Nat.zero_le _) ⟨rfl, rfl, rfl, rfl, rfl, rfl⟩
    · replace h := (if_neg c24).symm.trans h
      refine g_iconst hC dX12_sounds_27 (v := (1 : Int32)) (by decide) ?_
      refine g_goto hC dX12_sounds_28 (tgt := 32) (by decide) ?_
      cases h
      exact g_zret hC (by decide) hE rfl dX12_sounds_32 (Nat.zero_le _) (Nat.zero_le _) ⟨rfl, rfl, rfl, rfl, rfl, rfl⟩
noncomputable def b_X12_soundingIn_4 (Fu : Nat) (I : mIT) (k4_ : Int32 × Int32 × Int32 → Option (Int32)) (v1 : Int32) (v2 : Int32) (v3 : Int32) : Option (Int32) :=
  if (I 75 1) ≤ v3 then (some (v2)) else (oB (f_X12_sounds Fu I v1 v3) (fun r16 => if r16 = 0 then (k4_ (v1, (v2 ||| (0 : Int32)), (v3 + (1 : Int32)))) else (k4_ (v1, (v2 ||| ((1 : Int32) <<< (v3 &&& 31))), (v3 + (1 : Int32))))))
set_option maxRecDepth 20000 in
theorem bo_X12_soundingIn_4 {X : mXT} {E : mEn} {Fu : Nat} {I : mIT} {R : mRT} {L : mLT}  (hC : mC X E mX12_soundingIn RX12 cX12_soundingIn) (hW : mWd R)   {out : Int32} (hE : mEd X E 0 0 (mSame (some (.int (out))) 106 1 I R L)) (k4_ : Int32 × Int32 × Int32 → Option (Int32)) (hk4_ : ∀ (v1 : Int32) (v2 : Int32) (v3 : Int32),  k4_ (v1, v2, v3) = some out → mG X E 4 [(0, .ref (mB E + 75)), (1, .int v1), (2, .int v2), (3, .int v3)] [] 106 1 I R L 0 0) (v1 : Int32) (v2 : Int32) (v3 : Int32) (h : b_X12_soundingIn_4 Fu I k4_ v1 v2 v3 = some out) : mG X E 4 [(0, .ref (mB E + 75)), (1, .int v1), (2, .int v2), (3, .int v3)] [] 106 1 I R L 0 0 := by
  unfold b_X12_soundingIn_4 at h
  refine g_iload_n hC dX12_soundingIn_4 rfl (q := 3) rfl ?_
  refine g_aload_n hC dX12_soundingIn_5 rfl (q := 0) rfl ?_
  refine g_geti hC fd_RX12_289 rfl (by decide) (Or.inl rfl) dX12_soundingIn_6 ?_
  refine g_ic_ge hC dX12_soundingIn_9 (tgt := 37) (by decide) (fun c9 => ?_) (fun c9 => ?_)
  · replace h := (if_pos c9).symm.trans h
    refine g_iload_n hC dX12_soundingIn_37 rfl (q := 2) rfl ?_
    cases h
    exact g_iret hC hE rfl dX12_soundingIn_38 (Nat.zero_le _) (Nat.zero_le _) ⟨rfl, rfl, rfl, rfl, rfl, rfl⟩
  · replace h := (if_neg c9).symm.trans h
    refine g_iload_n hC dX12_soundingIn_12 rfl (q := 2) rfl ?_
    refine g_aload_n hC dX12_soundingIn_13 rfl (q := 0) rfl ?_
    refine g_iload_n hC dX12_soundingIn_14 rfl (q := 1) rfl ?_
    refine g_iload_n hC dX12_soundingIn_15 rfl (q := 3) rfl ?_
    obtain ⟨r16, h16, h⟩ := oB_some h
    refine g_cV1 hC cv_X12_sounds wd_2000 ⟨Nat.le_of_ble_eq_true rfl, Nat.le_of_ble_eq_true rfl⟩ rfl (by decide) dX12_soundingIn_16 (As := [.int v1, .int v3]) (st := [.int v2]) (ok_X12_sounds hC.2.2.2.2.2.2.2.1 hW h16) rfl rfl (Nat.le_of_ble_eq_true rfl) ⟨Nat.zero_le _, Nat.zero_le _⟩ ?_
    refine g_if_eq hC dX12_soundingIn_19 (tgt := 28) (by decide) (fun c19 => ?_) (fun c19 => ?_)
    · replace h := (if_pos c19).symm.trans h
      refine g_iconst hC dX12_soundingIn_28 (v := (0 : Int32)) (by decide) ?_
      refine g_ior hC dX12_soundingIn_29 ?_
      refine g_istore_n hC dX12_soundingIn_30 rfl rfl (by decide) (lv' := [(2, .int (v2 ||| (0 : Int32))), (0, .ref (mB E + 75)), (1, .int v1), (3, .int v3)]) rfl ?_
      refine g_iinc hC dX12_soundingIn_31 rfl (q := 3) rfl (w := (v3 + (1 : Int32))) rfl (by decide) (lv' := [(3, .int (v3 + (1 : Int32))), (2, .int (v2 ||| (0 : Int32))), (0, .ref (mB E + 75)), (1, .int v1)]) rfl ?_
      refine g_goto hC dX12_soundingIn_34 (tgt := 4) (by decide) ?_
      refine g_lv [2, 3, 1, 0] rfl ?_
      exact hk4_ v1 (v2 ||| (0 : Int32)) (v3 + (1 : Int32)) h
    · replace h := (if_neg c19).symm.trans h
      refine g_iconst hC dX12_soundingIn_22 (v := (1 : Int32)) (by decide) ?_
      refine g_iload_n hC dX12_soundingIn_23 rfl (q := 3) rfl ?_
      refine g_ishl hC dX12_soundingIn_24 ?_
      refine g_goto hC dX12_soundingIn_25 (tgt := 29) (by decide) ?_
      refine g_ior hC dX12_soundingIn_29 ?_
      refine g_istore_n hC dX12_soundingIn_30 rfl rfl (by decide) (lv' := [(2, .int (v2 ||| ((1 : Int32) <<< (v3 &&& 31)))), (0, .ref (mB E + 75)), (1, .int v1), (3, .int v3)]) rfl ?_
      refine g_iinc hC dX12_soundingIn_31 rfl (q := 3) rfl (w := (v3 + (1 : Int32))) rfl (by decide) (lv' := [(3, .int (v3 + (1 : Int32))), (2, .int (v2 ||| ((1 : Int32) <<< (v3 &&& 31)))), (0, .ref (mB E + 75)), (1, .int v1)]) rfl ?_
      refine g_goto hC dX12_soundingIn_34 (tgt := 4) (by decide) ?_
      refine g_lv [2, 3, 1, 0] rfl ?_
      exact hk4_ v1 (v2 ||| ((1 : Int32) <<< (v3 &&& 31))) (v3 + (1 : Int32)) h
noncomputable def w_X12_soundingIn_4 (Fu : Nat) (I : mIT)  (N : Nat) (v1 : Int32) (v2 : Int32) (v3 : Int32) : Option (Int32) :=
  loopF (fun self (s : Int32 × Int32 × Int32) => b_X12_soundingIn_4 Fu I self s.1 s.2.1 s.2.2) N (v1, v2, v3)
theorem wo_X12_soundingIn_4 {X : mXT} {E : mEn} {Fu : Nat} {I : mIT} {R : mRT} {L : mLT}  (hC : mC X E mX12_soundingIn RX12 cX12_soundingIn) (hW : mWd R)   {out : Int32} (hE : mEd X E 0 0 (mSame (some (.int (out))) 106 1 I R L))  (N : Nat) (v1 : Int32) (v2 : Int32) (v3 : Int32) (h : w_X12_soundingIn_4 Fu I  N v1 v2 v3 = some out) : mG X E 4 [(0, .ref (mB E + 75)), (1, .int v1), (2, .int v2), (3, .int v3)] [] 106 1 I R L 0 0 :=
  loopF_ok (Gd := fun s : Int32 × Int32 × Int32 => mG X E 4 [(0, .ref (mB E + 75)), (1, .int s.1), (2, .int s.2.1), (3, .int s.2.2)] [] 106 1 I R L 0 0) (fun self hs s h => bo_X12_soundingIn_4 hC hW hE self (fun v1 v2 v3 h => hs (v1, v2, v3) h) s.1 s.2.1 s.2.2 h) N (v1, v2, v3) h
noncomputable def f_X12_soundingIn (Fu : Nat) (I : mIT) (v1 : Int32) : Option (Int32) :=
  w_X12_soundingIn_4 Fu I Fu v1 (0 : Int32) (0 : Int32)
set_option maxRecDepth 20000 in
theorem ok_X12_soundingIn {l : Launch} {E : mEn} {Fu : Nat} {I : mIT} {R : mRT} {L : mLT} {v1 : Int32} (hst : l.stackTraces = false) (hW : mWd R)  {out : Int32} (h : f_X12_soundingIn Fu I v1 = some out) : mOk l E mX12_soundingIn [.ref (mB E + 75), .int v1] 106 1 I R L 0 0 (mSame (some (.int (out))) 106 1 I R L) := by
  refine mOk_of hst (by decide) (Nat.le_of_ble_eq_true rfl) (fun X hC hE _ => ?_)
  have hC : mC X E mX12_soundingIn RX12 cX12_soundingIn := hC
  show mG X E 0 [(0, .ref (mB E + 75)), (1, .int v1)] [] 106 1 I R L 0 0
  unfold f_X12_soundingIn at h
  refine g_iconst hC dX12_soundingIn_0 (v := (0 : Int32)) (by decide) ?_
  refine g_istore_n hC dX12_soundingIn_1 rfl rfl (by decide) (lv' := [(2, .int (0 : Int32)), (0, .ref (mB E + 75)), (1, .int v1)]) rfl ?_
  refine g_iconst hC dX12_soundingIn_2 (v := (0 : Int32)) (by decide) ?_
  refine g_istore_n hC dX12_soundingIn_3 rfl rfl (by decide) (lv' := [(3, .int (0 : Int32)), (2, .int (0 : Int32)), (0, .ref (mB E + 75)), (1, .int v1)]) rfl ?_
  refine g_lv [2, 3, 1, 0] rfl ?_
  exact wo_X12_soundingIn_4 hC hW hE Fu (v1) ((0 : Int32)) ((0 : Int32)) h
noncomputable def b_X12_notesIn_4 (Fu : Nat) (k4_ : Int32 × Int32 × Int32 × mIT → Option (Int32 × mIT)) (v1 : Int32) (v2 : Int32) (v3 : Int32) (I : mIT) : Option (Int32 × mIT) :=
  if (I 75 1) ≤ v3 then (some (v2, I)) else (oB (f_X12_sounds Fu I v1 v3) (fun r16 => if r16 = 0 then (k4_ (v1, (v2 ||| (0 : Int32)), (v3 + (1 : Int32)), I)) else (oB (f_X12_noteOf Fu I v1 v3) (fun r26 => k4_ (v1, (v2 ||| ((1 : Int32) <<< (r26.1 &&& 31))), (v3 + (1 : Int32)), r26.2)))))
set_option maxRecDepth 20000 in
theorem bo_X12_notesIn_4 {X : mXT} {E : mEn} {Fu : Nat} {R : mRT} {L : mLT}  (hC : mC X E mX12_notesIn RX12 cX12_notesIn) (hW : mWd R)   {out : Int32 × mIT} (hE : mEd X E 0 0 (mSame (some (.int (out.1))) 106 1 (out.2) R L)) (k4_ : Int32 × Int32 × Int32 × mIT → Option (Int32 × mIT)) (hk4_ : ∀ (v1 : Int32) (v2 : Int32) (v3 : Int32) (I : mIT),  k4_ (v1, v2, v3, I) = some out → mG X E 4 [(0, .ref (mB E + 75)), (1, .int v1), (2, .int v2), (3, .int v3)] [] 106 1 I R L 0 0) (v1 : Int32) (v2 : Int32) (v3 : Int32) (I : mIT) (h : b_X12_notesIn_4 Fu k4_ v1 v2 v3 I = some out) : mG X E 4 [(0, .ref (mB E + 75)), (1, .int v1), (2, .int v2), (3, .int v3)] [] 106 1 I R L 0 0 := by
  unfold b_X12_notesIn_4 at h
  refine g_iload_n hC dX12_notesIn_4 rfl (q := 3) rfl ?_
  refine g_aload_n hC dX12_notesIn_5 rfl (q := 0) rfl ?_
  refine g_geti hC fd_RX12_289 rfl (by decide) (Or.inl rfl) dX12_notesIn_6 ?_
  refine g_ic_ge hC dX12_notesIn_9 (tgt := 42) (by decide) (fun c9 => ?_) (fun c9 => ?_)
  · replace h := (if_pos c9).symm.trans h
    refine g_iload_n hC dX12_notesIn_42 rfl (q := 2) rfl ?_
    cases h
    exact g_iret hC hE rfl dX12_notesIn_43 (Nat.zero_le _) (Nat.zero_le _) ⟨rfl, rfl, rfl, rfl, rfl, rfl⟩
  · replace h := (if_neg c9).symm.trans h
    refine g_iload_n hC dX12_notesIn_12 rfl (q := 2) rfl ?_
    refine g_aload_n hC dX12_notesIn_13 rfl (q := 0) rfl ?_
    refine g_iload_n hC dX12_notesIn_14 rfl (q := 1) rfl ?_
    refine g_iload_n hC dX12_notesIn_15 rfl (q := 3) rfl ?_
    obtain ⟨r16, h16, h⟩ := oB_some h
    refine g_cV1 hC cv_X12_sounds wd_2000 ⟨Nat.le_of_ble_eq_true rfl, Nat.le_of_ble_eq_true rfl⟩ rfl (by decide) dX12_notesIn_16 (As := [.int v1, .int v3]) (st := [.int v2]) (ok_X12_sounds hC.2.2.2.2.2.2.2.1 hW h16) rfl rfl (Nat.le_of_ble_eq_true rfl) ⟨Nat.zero_le _, Nat.zero_le _⟩ ?_
    refine g_if_eq hC dX12_notesIn_19 (tgt := 33) (by decide) (fun c19 => ?_) (fun c19 => ?_)
    · replace h := (if_pos c19).symm.trans h
      refine g_iconst hC dX12_notesIn_33 (v := (0 : Int32)) (by decide) ?_
      refine g_ior hC dX12_notesIn_34 ?_
      refine g_istore_n hC dX12_notesIn_35 rfl rfl (by decide) (lv' := [(2, .int (v2 ||| (0 : Int32))), (0, .ref (mB E + 75)), (1, .int v1), (3, .int v3)]) rfl ?_
      refine g_iinc hC dX12_notesIn_36 rfl (q := 3) rfl (w := (v3 + (1 : Int32))) rfl (by decide) (lv' := [(3, .int (v3 + (1 : Int32))), (2, .int (v2 ||| (0 : Int32))), (0, .ref (mB E + 75)), (1, .int v1)]) rfl ?_
      refine g_goto hC dX12_notesIn_39 (tgt := 4) (by decide) ?_
      refine g_lv [2, 3, 1, 0] rfl ?_
      exact hk4_ v1 (v2 ||| (0 : Int32)) (v3 + (1 : Int32)) I h
    · replace h := (if_neg c19).symm.trans h
      refine g_iconst hC dX12_notesIn_22 (v := (1 : Int32)) (by decide) ?_
      refine g_aload_n hC dX12_notesIn_23 rfl (q := 0) rfl ?_
      refine g_iload_n hC dX12_notesIn_24 rfl (q := 1) rfl ?_
      refine g_iload_n hC dX12_notesIn_25 rfl (q := 3) rfl ?_
      obtain ⟨r26, h26, h⟩ := oB_some h
      refine g_cV1 hC cv_X12_noteOf wd_2012 ⟨Nat.le_of_ble_eq_true rfl, Nat.le_of_ble_eq_true rfl⟩ rfl (by decide) dX12_notesIn_26 (As := [.int v1, .int v3]) (st := [.int (1 : Int32), .int v2]) (ok_X12_noteOf hC.2.2.2.2.2.2.2.1 hW h26) rfl rfl (Nat.le_of_ble_eq_true rfl) ⟨Nat.zero_le _, Nat.zero_le _⟩ ?_
      refine g_ishl hC dX12_notesIn_29 ?_
      refine g_goto hC dX12_notesIn_30 (tgt := 34) (by decide) ?_
      refine g_ior hC dX12_notesIn_34 ?_
      refine g_istore_n hC dX12_notesIn_35 rfl rfl (by decide) (lv' := [(2, .int (v2 ||| ((1 : Int32) <<< (r26.1 &&& 31)))), (0, .ref (mB E + 75)), (1, .int v1), (3, .int v3)]) rfl ?_
      refine g_iinc hC dX12_notesIn_36 rfl (q := 3) rfl (w := (v3 + (1 : Int32))) rfl (by decide) (lv' := [(3, .int (v3 + (1 : Int32))), (2, .int (v2 ||| ((1 : Int32) <<< (r26.1 &&& 31)))), (0, .ref (mB E + 75)), (1, .int v1)]) rfl ?_
      refine g_goto hC dX12_notesIn_39 (tgt := 4) (by decide) ?_
      refine g_lv [2, 3, 1, 0] rfl ?_
      exact hk4_ v1 (v2 ||| ((1 : Int32) <<< (r26.1 &&& 31))) (v3 + (1 : Int32)) r26.2 h
noncomputable def w_X12_notesIn_4 (Fu : Nat)  (N : Nat) (v1 : Int32) (v2 : Int32) (v3 : Int32) (I : mIT) : Option (Int32 × mIT) :=
  loopF (fun self (s : Int32 × Int32 × Int32 × mIT) => b_X12_notesIn_4 Fu self s.1 s.2.1 s.2.2.1 s.2.2.2) N (v1, v2, v3, I)
theorem wo_X12_notesIn_4 {X : mXT} {E : mEn} {Fu : Nat} {R : mRT} {L : mLT}  (hC : mC X E mX12_notesIn RX12 cX12_notesIn) (hW : mWd R)   {out : Int32 × mIT} (hE : mEd X E 0 0 (mSame (some (.int (out.1))) 106 1 (out.2) R L))  (N : Nat) (v1 : Int32) (v2 : Int32) (v3 : Int32) (I : mIT) (h : w_X12_notesIn_4 Fu  N v1 v2 v3 I = some out) : mG X E 4 [(0, .ref (mB E + 75)), (1, .int v1), (2, .int v2), (3, .int v3)] [] 106 1 I R L 0 0 :=
  loopF_ok (Gd := fun s : Int32 × Int32 × Int32 × mIT => mG X E 4 [(0, .ref (mB E + 75)), (1, .int s.1), (2, .int s.2.1), (3, .int s.2.2.1)] [] 106 1 s.2.2.2 R L 0 0) (fun self hs s h => bo_X12_notesIn_4 hC hW hE self (fun v1 v2 v3 I h => hs (v1, v2, v3, I) h) s.1 s.2.1 s.2.2.1 s.2.2.2 h) N (v1, v2, v3, I) h
noncomputable def f_X12_notesIn (Fu : Nat) (I : mIT) (v1 : Int32) : Option (Int32 × mIT) :=
  w_X12_notesIn_4 Fu Fu v1 (0 : Int32) (0 : Int32) I
set_option maxRecDepth 20000 in
theorem ok_X12_notesIn {l : Launch} {E : mEn} {Fu : Nat} {I : mIT} {R : mRT} {L : mLT} {v1 : Int32} (hst : l.stackTraces = false) (hW : mWd R)  {out : Int32 × mIT} (h : f_X12_notesIn Fu I v1 = some out) : mOk l E mX12_notesIn [.ref (mB E + 75), .int v1] 106 1 I R L 0 0 (mSame (some (.int (out.1))) 106 1 (out.2) R L) := by
  refine mOk_of hst (by decide) (Nat.le_of_ble_eq_true rfl) (fun X hC hE _ => ?_)
  have hC : mC X E mX12_notesIn RX12 cX12_notesIn := hC
  show mG X E 0 [(0, .ref (mB E + 75)), (1, .int v1)] [] 106 1 I R L 0 0
  unfold f_X12_notesIn at h
  refine g_iconst hC dX12_notesIn_0 (v := (0 : Int32)) (by decide) ?_
  refine g_istore_n hC dX12_notesIn_1 rfl rfl (by decide) (lv' := [(2, .int (0 : Int32)), (0, .ref (mB E + 75)), (1, .int v1)]) rfl ?_
  refine g_iconst hC dX12_notesIn_2 (v := (0 : Int32)) (by decide) ?_
  refine g_istore_n hC dX12_notesIn_3 rfl rfl (by decide) (lv' := [(3, .int (0 : Int32)), (2, .int (0 : Int32)), (0, .ref (mB E + 75)), (1, .int v1)]) rfl ?_
  refine g_lv [2, 3, 1, 0] rfl ?_
  exact wo_X12_notesIn_4 hC hW hE Fu (v1) ((0 : Int32)) ((0 : Int32)) (I) h
noncomputable def f_X12_count (Fu : Nat) (I : mIT) (v1 : Int32) : Option (Int32 × mIT) :=
  oB (f_X12_within Fu v1 (0 : Int32) (16 : Int32)) (fun r10 => oB (f_X12_right Fu (mU I 75 0 (0 : Int32)) r10 (1 : Int32)) (fun r14 => if r14.1 = 0 then (some ((0 : Int32), r14.2)) else (if v1 = (0 : Int32) then (some ((r14.2 75 1), r14.2)) else if v1 = (1 : Int32) then (oB (f_X12_bells Fu r14.2) (fun r98 => some (r98.1, r98.2))) else if v1 = (2 : Int32) then (oG (inB (0 : Int32) 106) (some ((r14.2 89 ((0 : Int32)).toNatClampNeg), r14.2))) else if v1 = (3 : Int32) then (oG (inB (0 : Int32) 106) (oB (f_X12_weatherOf Fu r14.2 (r14.2 89 ((0 : Int32)).toNatClampNeg)) (fun r116 => some (r116, r14.2)))) else if v1 = (4 : Int32) then (some ((r14.2 75 3), r14.2)) else if v1 = (5 : Int32) then (some ((r14.2 75 4), r14.2)) else if v1 = (6 : Int32) then (some ((r14.2 75 5), r14.2)) else if v1 = (7 : Int32) then (oB (f_X12_soundingIn Fu r14.2 (0 : Int32)) (fun r137 => some (r137, r14.2))) else if v1 = (8 : Int32) then (oB (f_X12_whereIn Fu r14.2 (0 : Int32) (-1 : Int32)) (fun r144 => some (r144, r14.2))) else if v1 = (9 : Int32) then (oB (f_X12_whereIn Fu r14.2 (0 : Int32) (-2 : Int32)) (fun r152 => some (r152, r14.2))) else if v1 = (10 : Int32) then (oB (f_X12_notesIn Fu r14.2 (0 : Int32)) (fun r158 => some (r158.1, r158.2))) else if v1 = (11 : Int32) then (some ((r14.2 75 44), r14.2)) else if v1 = (12 : Int32) then (some ((r14.2 75 55), r14.2)) else if v1 = (13 : Int32) then (some ((r14.2 75 13), r14.2)) else (oG (inB (v1 - (14 : Int32)) 3) (some ((r14.2 81 ((v1 - (14 : Int32))).toNatClampNeg), r14.2))))))
set_option maxRecDepth 20000 in
theorem ok_X12_count {l : Launch} {E : mEn} {Fu : Nat} {I : mIT} {R : mRT} {L : mLT} {v1 : Int32} (hst : l.stackTraces = false) (hW : mWd R)  {out : Int32 × mIT} (h : f_X12_count Fu I v1 = some out) : mOk l E mX12_count [.ref (mB E + 75), .int v1] 106 1 I R L 0 0 (mSame (some (.int (out.1))) 106 1 (out.2) R L) := by
  refine mOk_of hst (by decide) (Nat.le_of_ble_eq_true rfl) (fun X hC hE _ => ?_)
  have hC : mC X E mX12_count RX12 cX12_count := hC
  show mG X E 0 [(0, .ref (mB E + 75)), (1, .int v1)] [] 106 1 I R L 0 0
  unfold f_X12_count at h
  refine g_aload_n hC dX12_count_0 rfl (q := 0) rfl ?_
  refine g_iconst hC dX12_count_1 (v := (0 : Int32)) (by decide) ?_
  refine g_puti hC fd_RX12_114 rfl (by decide) rfl dX12_count_2 (nm_e ?_)
  refine g_aload_n hC dX12_count_5 rfl (q := 0) rfl ?_
  refine g_iload_n hC dX12_count_6 rfl (q := 1) rfl ?_
  refine g_iconst hC dX12_count_7 (v := (0 : Int32)) (by decide) ?_
  refine g_bipush hC dX12_count_8 (v := (16 : Int32)) (by decide) ?_
  obtain ⟨r10, h10, h⟩ := oB_some h
  refine g_cS1 hC cs_X12_within wd_1915 ⟨Nat.le_of_ble_eq_true rfl, Nat.le_of_ble_eq_true rfl⟩ dX12_count_10 (As := [.int v1, .int (0 : Int32), .int (16 : Int32)]) (st := [.ref (mB E + 75)]) (ok_X12_within hC.2.2.2.2.2.2.2.1 hW h10) rfl rfl (Nat.le_of_ble_eq_true rfl) ⟨Nat.zero_le _, Nat.zero_le _⟩ ?_
  refine g_iconst hC dX12_count_13 (v := (1 : Int32)) (by decide) ?_
  obtain ⟨r14, h14, h⟩ := oB_some h
  refine g_cV1 hC cv_X12_right wd_1851 ⟨Nat.le_of_ble_eq_true rfl, Nat.le_of_ble_eq_true rfl⟩ rfl (by decide) dX12_count_14 (As := [.int r10, .int (1 : Int32)]) (st := []) (ok_X12_right hC.2.2.2.2.2.2.2.1 hW h14) rfl rfl (Nat.le_of_ble_eq_true rfl) ⟨Nat.zero_le _, Nat.zero_le _⟩ ?_
  refine g_if_ne hC dX12_count_17 (tgt := 22) (by decide) (fun c17 => ?_) (fun c17 => ?_)
  · replace h := (if_neg c17).symm.trans h
    refine g_iload_n hC dX12_count_22 rfl (q := 1) rfl ?_
    by_cases c23_0 : v1 = (0 : Int32)
    · replace h := (if_pos c23_0).symm.trans h
      refine g_tabI hC dX12_count_23 (off := 69) (tgt := 92) (by rw [c23_0]; decide) (by rw [c23_0]; decide) (by rw [c23_0]; rfl) (by decide) ?_
      refine g_aload_n hC dX12_count_92 rfl (q := 0) rfl ?_
      refine g_geti hC fd_RX12_289 rfl (by decide) (Or.inl rfl) dX12_count_93 ?_
      cases h
      exact g_iret hC hE rfl dX12_count_96 (Nat.zero_le _) (Nat.zero_le _) ⟨rfl, rfl, rfl, rfl, rfl, rfl⟩
    replace h := (if_neg c23_0).symm.trans h
    by_cases c23_1 : v1 = (1 : Int32)
    · replace h := (if_pos c23_1).symm.trans h
      refine g_tabI hC dX12_count_23 (off := 74) (tgt := 97) (by rw [c23_1]; decide) (by rw [c23_1]; decide) (by rw [c23_1]; rfl) (by decide) ?_
      refine g_aload_n hC dX12_count_97 rfl (q := 0) rfl ?_
      obtain ⟨r98, h98, h⟩ := oB_some h
      refine g_cV1 hC cv_X12_bells wd_1984 ⟨Nat.le_of_ble_eq_true rfl, Nat.le_of_ble_eq_true rfl⟩ rfl (by decide) dX12_count_98 (As := []) (st := []) (ok_X12_bells hC.2.2.2.2.2.2.2.1 hW h98) rfl rfl (Nat.le_of_ble_eq_true rfl) ⟨Nat.zero_le _, Nat.zero_le _⟩ ?_
      cases h
      exact g_iret hC hE rfl dX12_count_101 (Nat.zero_le _) (Nat.zero_le _) ⟨rfl, rfl, rfl, rfl, rfl, rfl⟩
    replace h := (if_neg c23_1).symm.trans h
    by_cases c23_2 : v1 = (2 : Int32)
    · replace h := (if_pos c23_2).symm.trans h
      refine g_tabI hC dX12_count_23 (off := 79) (tgt := 102) (by rw [c23_2]; decide) (by rw [c23_2]; decide) (by rw [c23_2]; rfl) (by decide) ?_
      refine g_aload_n hC dX12_count_102 rfl (q := 0) rfl ?_
      refine g_getr hC fd_RX12_63 rfl (by decide) (C0 := "") (t0 := _) (Or.inr rfl) (rr_75_42 hW.1) dX12_count_103 ?_
      refine g_iconst hC dX12_count_106 (v := (0 : Int32)) (by decide) ?_
      obtain ⟨g107, h⟩ := oG_some h
      refine g_iald hC rfl (by decide) (inB_in g107) dX12_count_107 ?_
      cases h
      exact g_iret hC hE rfl dX12_count_108 (Nat.zero_le _) (Nat.zero_le _) ⟨rfl, rfl, rfl, rfl, rfl, rfl⟩
    replace h := (if_neg c23_2).symm.trans h
    by_cases c23_3 : v1 = (3 : Int32)
    · replace h := (if_pos c23_3).symm.trans h
      refine g_tabI hC dX12_count_23 (off := 86) (tgt := 109) (by rw [c23_3]; decide) (by rw [c23_3]; decide) (by rw [c23_3]; rfl) (by decide) ?_
      refine g_aload_n hC dX12_count_109 rfl (q := 0) rfl ?_
      refine g_aload_n hC dX12_count_110 rfl (q := 0) rfl ?_
      refine g_getr hC fd_RX12_63 rfl (by decide) (C0 := "") (t0 := _) (Or.inr rfl) (rr_75_42 hW.1) dX12_count_111 ?_
      refine g_iconst hC dX12_count_114 (v := (0 : Int32)) (by decide) ?_
      obtain ⟨g115, h⟩ := oG_some h
      refine g_iald hC rfl (by decide) (inB_in g115) dX12_count_115 ?_
      obtain ⟨r116, h116, h⟩ := oB_some h
      refine g_cV1 hC cv_X12_weatherOf wd_1992 ⟨Nat.le_of_ble_eq_true rfl, Nat.le_of_ble_eq_true rfl⟩ rfl (by decide) dX12_count_116 (As := [.int (r14.2 89 ((0 : Int32)).toNatClampNeg)]) (st := []) (ok_X12_weatherOf hC.2.2.2.2.2.2.2.1 hW h116) rfl rfl (Nat.le_of_ble_eq_true rfl) ⟨Nat.zero_le _, Nat.zero_le _⟩ ?_
      cases h
      exact g_iret hC hE rfl dX12_count_119 (Nat.zero_le _) (Nat.zero_le _) ⟨rfl, rfl, rfl, rfl, rfl, rfl⟩
    replace h := (if_neg c23_3).symm.trans h
    by_cases c23_4 : v1 = (4 : Int32)
    · replace h := (if_pos c23_4).symm.trans h
      refine g_tabI hC dX12_count_23 (off := 97) (tgt := 120) (by rw [c23_4]; decide) (by rw [c23_4]; decide) (by rw [c23_4]; rfl) (by decide) ?_
      refine g_aload_n hC dX12_count_120 rfl (q := 0) rfl ?_
      refine g_geti hC fd_RX12_7 rfl (by decide) (Or.inl rfl) dX12_count_121 ?_
      cases h
      exact g_iret hC hE rfl dX12_count_124 (Nat.zero_le _) (Nat.zero_le _) ⟨rfl, rfl, rfl, rfl, rfl, rfl⟩
    replace h := (if_neg c23_4).symm.trans h
    by_cases c23_5 : v1 = (5 : Int32)
    · replace h := (if_pos c23_5).symm.trans h
      refine g_tabI hC dX12_count_23 (off := 102) (tgt := 125) (by rw [c23_5]; decide) (by rw [c23_5]; decide) (by rw [c23_5]; rfl) (by decide) ?_
      refine g_aload_n hC dX12_count_125 rfl (q := 0) rfl ?_
      refine g_geti hC fd_RX12_295 rfl (by decide) (Or.inl rfl) dX12_count_126 ?_
      cases h
      exact g_iret hC hE rfl dX12_count_129 (Nat.zero_le _) (Nat.zero_le _) ⟨rfl, rfl, rfl, rfl, rfl, rfl⟩
    replace h := (if_neg c23_5).symm.trans h
    by_cases c23_6 : v1 = (6 : Int32)
    · replace h := (if_pos c23_6).symm.trans h
      refine g_tabI hC dX12_count_23 (off := 107) (tgt := 130) (by rw [c23_6]; decide) (by rw [c23_6]; decide) (by rw [c23_6]; rfl) (by decide) ?_
      refine g_aload_n hC dX12_count_130 rfl (q := 0) rfl ?_
      refine g_geti hC fd_RX12_298 rfl (by decide) (Or.inl rfl) dX12_count_131 ?_
      cases h
      exact g_iret hC hE rfl dX12_count_134 (Nat.zero_le _) (Nat.zero_le _) ⟨rfl, rfl, rfl, rfl, rfl, rfl⟩
    replace h := (if_neg c23_6).symm.trans h
    by_cases c23_7 : v1 = (7 : Int32)
    · replace h := (if_pos c23_7).symm.trans h
      refine g_tabI hC dX12_count_23 (off := 112) (tgt := 135) (by rw [c23_7]; decide) (by rw [c23_7]; decide) (by rw [c23_7]; rfl) (by decide) ?_
      refine g_aload_n hC dX12_count_135 rfl (q := 0) rfl ?_
      refine g_iconst hC dX12_count_136 (v := (0 : Int32)) (by decide) ?_
      obtain ⟨r137, h137, h⟩ := oB_some h
      refine g_cV1 hC cv_X12_soundingIn wd_1996 ⟨Nat.le_of_ble_eq_true rfl, Nat.le_of_ble_eq_true rfl⟩ rfl (by decide) dX12_count_137 (As := [.int (0 : Int32)]) (st := []) (ok_X12_soundingIn hC.2.2.2.2.2.2.2.1 hW h137) rfl rfl (Nat.le_of_ble_eq_true rfl) ⟨Nat.zero_le _, Nat.zero_le _⟩ ?_
      cases h
      exact g_iret hC hE rfl dX12_count_140 (Nat.zero_le _) (Nat.zero_le _) ⟨rfl, rfl, rfl, rfl, rfl, rfl⟩
    replace h := (if_neg c23_7).symm.trans h
    by_cases c23_8 : v1 = (8 : Int32)
    · replace h := (if_pos c23_8).symm.trans h
      refine g_tabI hC dX12_count_23 (off := 118) (tgt := 141) (by rw [c23_8]; decide) (by rw [c23_8]; decide) (by rw [c23_8]; rfl) (by decide) ?_
      refine g_aload_n hC dX12_count_141 rfl (q := 0) rfl ?_
      refine g_iconst hC dX12_count_142 (v := (0 : Int32)) (by decide) ?_
      refine g_iconst hC dX12_count_143 (v := (-1 : Int32)) (by decide) ?_
      obtain ⟨r144, h144, h⟩ := oB_some h
      refine g_cV1 hC cv_X12_whereIn wd_1988 ⟨Nat.le_of_ble_eq_true rfl, Nat.le_of_ble_eq_true rfl⟩ rfl (by decide) dX12_count_144 (As := [.int (0 : Int32), .int (-1 : Int32)]) (st := []) (ok_X12_whereIn hC.2.2.2.2.2.2.2.1 hW h144) rfl rfl (Nat.le_of_ble_eq_true rfl) ⟨Nat.zero_le _, Nat.zero_le _⟩ ?_
      cases h
      exact g_iret hC hE rfl dX12_count_147 (Nat.zero_le _) (Nat.zero_le _) ⟨rfl, rfl, rfl, rfl, rfl, rfl⟩
    replace h := (if_neg c23_8).symm.trans h
    by_cases c23_9 : v1 = (9 : Int32)
    · replace h := (if_pos c23_9).symm.trans h
      refine g_tabI hC dX12_count_23 (off := 125) (tgt := 148) (by rw [c23_9]; decide) (by rw [c23_9]; decide) (by rw [c23_9]; rfl) (by decide) ?_
      refine g_aload_n hC dX12_count_148 rfl (q := 0) rfl ?_
      refine g_iconst hC dX12_count_149 (v := (0 : Int32)) (by decide) ?_
      refine g_bipush hC dX12_count_150 (v := (-2 : Int32)) (by decide) ?_
      obtain ⟨r152, h152, h⟩ := oB_some h
      refine g_cV1 hC cv_X12_whereIn wd_1988 ⟨Nat.le_of_ble_eq_true rfl, Nat.le_of_ble_eq_true rfl⟩ rfl (by decide) dX12_count_152 (As := [.int (0 : Int32), .int (-2 : Int32)]) (st := []) (ok_X12_whereIn hC.2.2.2.2.2.2.2.1 hW h152) rfl rfl (Nat.le_of_ble_eq_true rfl) ⟨Nat.zero_le _, Nat.zero_le _⟩ ?_
      cases h
      exact g_iret hC hE rfl dX12_count_155 (Nat.zero_le _) (Nat.zero_le _) ⟨rfl, rfl, rfl, rfl, rfl, rfl⟩
    replace h := (if_neg c23_9).symm.trans h
    by_cases c23_10 : v1 = (10 : Int32)
    · replace h := (if_pos c23_10).symm.trans h
      refine g_tabI hC dX12_count_23 (off := 133) (tgt := 156) (by rw [c23_10]; decide) (by rw [c23_10]; decide) (by rw [c23_10]; rfl) (by decide) ?_
      refine g_aload_n hC dX12_count_156 rfl (q := 0) rfl ?_
      refine g_iconst hC dX12_count_157 (v := (0 : Int32)) (by decide) ?_
      obtain ⟨r158, h158, h⟩ := oB_some h
      refine g_cV1 hC cv_X12_notesIn wd_2008 ⟨Nat.le_of_ble_eq_true rfl, Nat.le_of_ble_eq_true rfl⟩ rfl (by decide) dX12_count_158 (As := [.int (0 : Int32)]) (st := []) (ok_X12_notesIn hC.2.2.2.2.2.2.2.1 hW h158) rfl rfl (Nat.le_of_ble_eq_true rfl) ⟨Nat.zero_le _, Nat.zero_le _⟩ ?_
      cases h
      exact g_iret hC hE rfl dX12_count_161 (Nat.zero_le _) (Nat.zero_le _) ⟨rfl, rfl, rfl, rfl, rfl, rfl⟩
    replace h := (if_neg c23_10).symm.trans h
    by_cases c23_11 : v1 = (11 : Int32)
    · replace h := (if_pos c23_11).symm.trans h
      refine g_tabI hC dX12_count_23 (off := 139) (tgt := 162) (by rw [c23_11]; decide) (by rw [c23_11]; decide) (by rw [c23_11]; rfl) (by decide) ?_
      refine g_aload_n hC dX12_count_162 rfl (q := 0) rfl ?_
      refine g_geti hC fd_RX12_305 rfl (by decide) (Or.inl rfl) dX12_count_163 ?_
      cases h
      exact g_iret hC hE rfl dX12_count_166 (Nat.zero_le _) (Nat.zero_le _) ⟨rfl, rfl, rfl, rfl, rfl, rfl⟩
    replace h := (if_neg c23_11).symm.trans h
    by_cases c23_12 : v1 = (12 : Int32)
    · replace h := (if_pos c23_12).symm.trans h
      refine g_tabI hC dX12_count_23 (off := 144) (tgt := 167) (by rw [c23_12]; decide) (by rw [c23_12]; decide) (by rw [c23_12]; rfl) (by decide) ?_
      refine g_aload_n hC dX12_count_167 rfl (q := 0) rfl ?_
      refine g_geti hC fd_RX12_308 rfl (by decide) (Or.inl rfl) dX12_count_168 ?_
      cases h
      exact g_iret hC hE rfl dX12_count_171 (Nat.zero_le _) (Nat.zero_le _) ⟨rfl, rfl, rfl, rfl, rfl, rfl⟩
    replace h := (if_neg c23_12).symm.trans h
    by_cases c23_13 : v1 = (13 : Int32)
    · replace h := (if_pos c23_13).symm.trans h
      refine g_tabI hC dX12_count_23 (off := 149) (tgt := 172) (by rw [c23_13]; decide) (by rw [c23_13]; decide) (by rw [c23_13]; rfl) (by decide) ?_
      refine g_aload_n hC dX12_count_172 rfl (q := 0) rfl ?_
      refine g_geti hC fd_RX12_117 rfl (by decide) (Or.inl rfl) dX12_count_173 ?_
      cases h
      exact g_iret hC hE rfl dX12_count_176 (Nat.zero_le _) (Nat.zero_le _) ⟨rfl, rfl, rfl, rfl, rfl, rfl⟩
    replace h := (if_neg c23_13).symm.trans h
    refine g_tabO hC dX12_count_23 (sw_out (fun j hj1 hj2 => ?_)) (tgt := 177) (by decide) ?_
    · rcases (show j = 0 ∨ j = 1 ∨ j = 2 ∨ j = 3 ∨ j = 4 ∨ j = 5 ∨ j = 6 ∨ j = 7 ∨ j = 8 ∨ j = 9 ∨ j = 10 ∨ j = 11 ∨ j = 12 ∨ j = 13 by omega) with rfl | rfl | rfl | rfl | rfl | rfl | rfl | rfl | rfl | rfl | rfl | rfl | rfl | rfl <;> assumption
    refine g_aload_n hC dX12_count_177 rfl (q := 0) rfl ?_
    refine g_getr hC fd_RX12_38 rfl (by decide) (C0 := "") (t0 := _) (Or.inr rfl) (rr_75_16 hW.1) dX12_count_178 ?_
    refine g_iload_n hC dX12_count_181 rfl (q := 1) rfl ?_
    refine g_bipush hC dX12_count_182 (v := (14 : Int32)) (by decide) ?_
    refine g_isub hC dX12_count_184 ?_
    obtain ⟨g185, h⟩ := oG_some h
    refine g_iald hC rfl (by decide) (inB_in g185) dX12_count_185 ?_
    cases h
    exact g_iret hC hE rfl dX12_count_186 (Nat.zero_le _) (Nat.zero_le _) ⟨rfl, rfl, rfl, rfl, rfl, rfl⟩
  · replace h := (if_pos c17).symm.trans h
    refine g_iconst hC dX12_count_20 (v := (0 : Int32)) (by decide) ?_
    cases h
    exact g_iret hC hE rfl dX12_count_21 (Nat.zero_le _) (Nat.zero_le _) ⟨rfl, rfl, rfl, rfl, rfl, rfl⟩
noncomputable def f_X12_growth (Fu : Nat) (I : mIT) (v1 : Int32) (v2 : Int32) : Option (Int32 × mIT) :=
  if (I 75 7) = (-1 : Int32) then (oG (inB (v1 + (0 : Int32)) 106) (oB (f_X12_weatherOf Fu I (I 89 ((v1 + (0 : Int32))).toNatClampNeg)) (fun r17 => if (5 : Int32) ≤ r17 then (some ((0 : Int32), I)) else (some ((1 : Int32), I))))) else (oB (f_X12_tells Fu I v1 v2) (fun r33 => oB (f_X12_reckons Fu r33 (r33 75 7)) (fun r41 => oB (f_X12_kept Fu r41.1 (0 : Int32) (9 : Int32)) (fun r47 => some (r47, r41.2)))))
set_option maxRecDepth 20000 in
theorem ok_X12_growth {l : Launch} {E : mEn} {Fu : Nat} {I : mIT} {R : mRT} {L : mLT} {v1 : Int32} {v2 : Int32} (hst : l.stackTraces = false) (hW : mWd R)  {out : Int32 × mIT} (h : f_X12_growth Fu I v1 v2 = some out) : mOk l E mX12_growth [.ref (mB E + 75), .int v1, .int v2] 106 1 I R L 0 0 (mSame (some (.int (out.1))) 106 1 (out.2) R L) := by
  refine mOk_of hst (by decide) (Nat.le_of_ble_eq_true rfl) (fun X hC hE _ => ?_)
  have hC : mC X E mX12_growth RX12 cX12_growth := hC
  show mG X E 0 [(0, .ref (mB E + 75)), (1, .int v1), (2, .int v2)] [] 106 1 I R L 0 0
  unfold f_X12_growth at h
  refine g_aload_n hC dX12_growth_0 rfl (q := 0) rfl ?_
  refine g_geti hC fd_RX12_16 rfl (by decide) (Or.inl rfl) dX12_growth_1 ?_
  refine g_iconst hC dX12_growth_4 (v := (-1 : Int32)) (by decide) ?_
  refine g_ic_ne hC dX12_growth_5 (tgt := 30) (by decide) (fun c5 => ?_) (fun c5 => ?_)
  · replace h := (if_neg c5).symm.trans h
    refine g_aload_n hC dX12_growth_30 rfl (q := 0) rfl ?_
    refine g_iload_n hC dX12_growth_31 rfl (q := 1) rfl ?_
    refine g_iload_n hC dX12_growth_32 rfl (q := 2) rfl ?_
    obtain ⟨r33, h33, h⟩ := oB_some h
    refine g_cV0 hC cv_X12_tells wd_2019 ⟨Nat.le_of_ble_eq_true rfl, Nat.le_of_ble_eq_true rfl⟩ rfl (by decide) dX12_growth_33 (As := [.int v1, .int v2]) (st := []) (ok_X12_tells hC.2.2.2.2.2.2.2.1 hW h33) rfl rfl (Nat.le_of_ble_eq_true rfl) ⟨Nat.zero_le _, Nat.zero_le _⟩ ?_
    refine g_aload_n hC dX12_growth_36 rfl (q := 0) rfl ?_
    refine g_aload_n hC dX12_growth_37 rfl (q := 0) rfl ?_
    refine g_geti hC fd_RX12_16 rfl (by decide) (Or.inl rfl) dX12_growth_38 ?_
    obtain ⟨r41, h41, h⟩ := oB_some h
    refine g_cV1 hC cv_X12_reckons wd_2023 ⟨Nat.le_of_ble_eq_true rfl, Nat.le_of_ble_eq_true rfl⟩ rfl (by decide) dX12_growth_41 (As := [.int (r33 75 7)]) (st := []) (ok_X12_reckons hC.2.2.2.2.2.2.2.1 hW h41) rfl rfl (Nat.le_of_ble_eq_true rfl) ⟨Nat.zero_le _, Nat.zero_le _⟩ ?_
    refine g_iconst hC dX12_growth_44 (v := (0 : Int32)) (by decide) ?_
    refine g_bipush hC dX12_growth_45 (v := (9 : Int32)) (by decide) ?_
    obtain ⟨r47, h47, h⟩ := oB_some h
    refine g_cS1 hC cs_X12_kept wd_2016 ⟨Nat.le_of_ble_eq_true rfl, Nat.le_of_ble_eq_true rfl⟩ dX12_growth_47 (As := [.int r41.1, .int (0 : Int32), .int (9 : Int32)]) (st := []) (ok_X12_kept hC.2.2.2.2.2.2.2.1 hW h47) rfl rfl (Nat.le_of_ble_eq_true rfl) ⟨Nat.zero_le _, Nat.zero_le _⟩ ?_
    cases h
    exact g_iret hC hE rfl dX12_growth_50 (Nat.zero_le _) (Nat.zero_le _) ⟨rfl, rfl, rfl, rfl, rfl, rfl⟩
  · replace h := (if_pos c5).symm.trans h
    refine g_aload_n hC dX12_growth_8 rfl (q := 0) rfl ?_
    refine g_aload_n hC dX12_growth_9 rfl (q := 0) rfl ?_
    refine g_getr hC fd_RX12_63 rfl (by decide) (C0 := "") (t0 := _) (Or.inr rfl) (rr_75_42 hW.1) dX12_growth_10 ?_
    refine g_iload_n hC dX12_growth_13 rfl (q := 1) rfl ?_
    refine g_iconst hC dX12_growth_14 (v := (0 : Int32)) (by decide) ?_
    refine g_iadd hC dX12_growth_15 ?_
    obtain ⟨g16, h⟩ := oG_some h
    refine g_iald hC rfl (by decide) (inB_in g16) dX12_growth_16 ?_
    obtain ⟨r17, h17, h⟩ := oB_some h
    refine g_cV1 hC cv_X12_weatherOf wd_1992 ⟨Nat.le_of_ble_eq_true rfl, Nat.le_of_ble_eq_true rfl⟩ rfl (by decide) dX12_growth_17 (As := [.int (I 89 ((v1 + (0 : Int32))).toNatClampNeg)]) (st := []) (ok_X12_weatherOf hC.2.2.2.2.2.2.2.1 hW h17) rfl rfl (Nat.le_of_ble_eq_true rfl) ⟨Nat.zero_le _, Nat.zero_le _⟩ ?_
    refine g_iconst hC dX12_growth_20 (v := (5 : Int32)) (by decide) ?_
    refine g_ic_ge hC dX12_growth_21 (tgt := 28) (by decide) (fun c21 => ?_) (fun c21 => ?_)
    · replace h := (if_pos c21).symm.trans h
      refine g_iconst hC dX12_growth_28 (v := (0 : Int32)) (by decide) ?_
      cases h
      exact g_iret hC hE rfl dX12_growth_29 (Nat.zero_le _) (Nat.zero_le _) ⟨rfl, rfl, rfl, rfl, rfl, rfl⟩
    · replace h := (if_neg c21).symm.trans h
      refine g_iconst hC dX12_growth_24 (v := (1 : Int32)) (by decide) ?_
      refine g_goto hC dX12_growth_25 (tgt := 29) (by decide) ?_
      cases h
      exact g_iret hC hE rfl dX12_growth_29 (Nat.zero_le _) (Nat.zero_le _) ⟨rfl, rfl, rfl, rfl, rfl, rfl⟩
noncomputable def b_X12_dayGoes_71 (Fu : Nat) (k15_ : Int32 × Int32 × Int32 × mIT → Option (mIT)) (v1 : Int32) (v2 : Int32) (v3 : Int32) (I : mIT) : Option (mIT) :=
  oB (f_X12_hangs Fu I v1 v3) (fun r74 => if r74 = 0 then (k15_ (v1, v2, (v3 + (1 : Int32)), I)) else (oG (inB ((v1 + (21 : Int32)) + v3) 106) (oB (f_X12_kept Fu (((I 89 (((v1 + (21 : Int32)) + v3)).toNatClampNeg) + (1 : Int32)) + (v2 / (2 : Int32))) (0 : Int32) (99 : Int32)) (fun r110 => oG (inB ((v1 + (21 : Int32)) + v3) 106) (k15_ (v1, v2, (v3 + (1 : Int32)), (mU I 89 (((v1 + (21 : Int32)) + v3)).toNatClampNeg r110)))))))
set_option maxRecDepth 20000 in
theorem bo_X12_dayGoes_71 {X : mXT} {E : mEn} {Fu : Nat} {R : mRT} {L : mLT}  (hC : mC X E mX12_dayGoes RX12 cX12_dayGoes) (hW : mWd R)   {out : mIT} (hE : mEd X E 0 0 (mSame none 106 1 (out) R L)) (k15_ : Int32 × Int32 × Int32 × mIT → Option (mIT)) (hk15_ : ∀ (v1 : Int32) (v2 : Int32) (v3 : Int32) (I : mIT),  k15_ (v1, v2, v3, I) = some out → mG X E 15 [(0, .ref (mB E + 75)), (1, .int v1), (2, .int v2), (3, .int v3)] [] 106 1 I R L 0 0) (v1 : Int32) (v2 : Int32) (v3 : Int32) (I : mIT) (h : b_X12_dayGoes_71 Fu k15_ v1 v2 v3 I = some out) : mG X E 71 [(0, .ref (mB E + 75)), (1, .int v1), (2, .int v2), (3, .int v3)] [] 106 1 I R L 0 0 := by
  unfold b_X12_dayGoes_71 at h
  refine g_aload_n hC dX12_dayGoes_71 rfl (q := 0) rfl ?_
  refine g_iload_n hC dX12_dayGoes_72 rfl (q := 1) rfl ?_
  refine g_iload_n hC dX12_dayGoes_73 rfl (q := 3) rfl ?_
  obtain ⟨r74, h74, h⟩ := oB_some h
  refine g_cV1 hC cv_X12_hangs wd_2004 ⟨Nat.le_of_ble_eq_true rfl, Nat.le_of_ble_eq_true rfl⟩ rfl (by decide) dX12_dayGoes_74 (As := [.int v1, .int v3]) (st := []) (ok_X12_hangs hC.2.2.2.2.2.2.2.1 hW h74) rfl rfl (Nat.le_of_ble_eq_true rfl) ⟨Nat.zero_le _, Nat.zero_le _⟩ ?_
  refine g_if_eq hC dX12_dayGoes_77 (tgt := 114) (by decide) (fun c77 => ?_) (fun c77 => ?_)
  · replace h := (if_pos c77).symm.trans h
    refine g_iinc hC dX12_dayGoes_114 rfl (q := 3) rfl (w := (v3 + (1 : Int32))) rfl (by decide) (lv' := [(3, .int (v3 + (1 : Int32))), (0, .ref (mB E + 75)), (1, .int v1), (2, .int v2)]) rfl ?_
    refine g_goto hC dX12_dayGoes_117 (tgt := 15) (by decide) ?_
    refine g_lv [1, 2, 3, 0] rfl ?_
    exact hk15_ v1 v2 (v3 + (1 : Int32)) I h
  · replace h := (if_neg c77).symm.trans h
    refine g_aload_n hC dX12_dayGoes_80 rfl (q := 0) rfl ?_
    refine g_getr hC fd_RX12_63 rfl (by decide) (C0 := "") (t0 := _) (Or.inr rfl) (rr_75_42 hW.1) dX12_dayGoes_81 ?_
    refine g_iload_n hC dX12_dayGoes_84 rfl (q := 1) rfl ?_
    refine g_bipush hC dX12_dayGoes_85 (v := (21 : Int32)) (by decide) ?_
    refine g_iadd hC dX12_dayGoes_87 ?_
    refine g_iload_n hC dX12_dayGoes_88 rfl (q := 3) rfl ?_
    refine g_iadd hC dX12_dayGoes_89 ?_
    refine g_aload_n hC dX12_dayGoes_90 rfl (q := 0) rfl ?_
    refine g_getr hC fd_RX12_63 rfl (by decide) (C0 := "") (t0 := _) (Or.inr rfl) (rr_75_42 hW.1) dX12_dayGoes_91 ?_
    refine g_iload_n hC dX12_dayGoes_94 rfl (q := 1) rfl ?_
    refine g_bipush hC dX12_dayGoes_95 (v := (21 : Int32)) (by decide) ?_
    refine g_iadd hC dX12_dayGoes_97 ?_
    refine g_iload_n hC dX12_dayGoes_98 rfl (q := 3) rfl ?_
    refine g_iadd hC dX12_dayGoes_99 ?_
    obtain ⟨g100, h⟩ := oG_some h
    refine g_iald hC rfl (by decide) (inB_in g100) dX12_dayGoes_100 ?_
    refine g_iconst hC dX12_dayGoes_101 (v := (1 : Int32)) (by decide) ?_
    refine g_iadd hC dX12_dayGoes_102 ?_
    refine g_iload_n hC dX12_dayGoes_103 rfl (q := 2) rfl ?_
    refine g_iconst hC dX12_dayGoes_104 (v := (2 : Int32)) (by decide) ?_
    refine g_idiv hC dX12_dayGoes_105 (by decide) ?_
    refine g_iadd hC dX12_dayGoes_106 ?_
    refine g_iconst hC dX12_dayGoes_107 (v := (0 : Int32)) (by decide) ?_
    refine g_bipush hC dX12_dayGoes_108 (v := (99 : Int32)) (by decide) ?_
    obtain ⟨r110, h110, h⟩ := oB_some h
    refine g_cS1 hC cs_X12_kept wd_2016 ⟨Nat.le_of_ble_eq_true rfl, Nat.le_of_ble_eq_true rfl⟩ dX12_dayGoes_110 (As := [.int (((I 89 (((v1 + (21 : Int32)) + v3)).toNatClampNeg) + (1 : Int32)) + (v2 / (2 : Int32))), .int (0 : Int32), .int (99 : Int32)]) (st := [.int ((v1 + (21 : Int32)) + v3), .ref (mB E + 89)]) (ok_X12_kept hC.2.2.2.2.2.2.2.1 hW h110) rfl rfl (Nat.le_of_ble_eq_true rfl) ⟨Nat.zero_le _, Nat.zero_le _⟩ ?_
    obtain ⟨g113, h⟩ := oG_some h
    refine g_iast hC rfl (by decide) (inB_in g113) dX12_dayGoes_113 (nm_e ?_)
    refine g_iinc hC dX12_dayGoes_114 rfl (q := 3) rfl (w := (v3 + (1 : Int32))) rfl (by decide) (lv' := [(3, .int (v3 + (1 : Int32))), (0, .ref (mB E + 75)), (1, .int v1), (2, .int v2)]) rfl ?_
    refine g_goto hC dX12_dayGoes_117 (tgt := 15) (by decide) ?_
    refine g_lv [1, 2, 3, 0] rfl ?_
    exact hk15_ v1 v2 (v3 + (1 : Int32)) (mU I 89 (((v1 + (21 : Int32)) + v3)).toNatClampNeg r110) h
noncomputable def b_X12_dayGoes_15 (Fu : Nat) (k15_ : Int32 × Int32 × Int32 × mIT → Option (mIT)) (v1 : Int32) (v2 : Int32) (v3 : Int32) (I : mIT) : Option (mIT) :=
  if (I 75 1) ≤ v3 then (oG (inB (v1 + (0 : Int32)) 106) (oG (inB (v1 + (0 : Int32)) 106) (some (mU I 89 ((v1 + (0 : Int32))).toNatClampNeg ((I 89 ((v1 + (0 : Int32))).toNatClampNeg) + (1 : Int32)))))) else (oG (inB ((v1 + (31 : Int32)) + v3) 106) (if (I 89 (((v1 + (31 : Int32)) + v3)).toNatClampNeg) = (-1 : Int32) then (oG (inB ((v1 + (1 : Int32)) + v3) 106) (oB (f_X12_growth Fu I v1 v3) (fun r60 => oB (f_X12_kept Fu ((I 89 (((v1 + (1 : Int32)) + v3)).toNatClampNeg) + r60.1) (0 : Int32) (60 : Int32)) (fun r67 => oG (inB ((v1 + (1 : Int32)) + v3) 106) (b_X12_dayGoes_71 Fu k15_ v1 v2 v3 (mU r60.2 89 (((v1 + (1 : Int32)) + v3)).toNatClampNeg r67)))))) else (b_X12_dayGoes_71 Fu k15_ v1 v2 v3 I)))
set_option maxRecDepth 20000 in
theorem bo_X12_dayGoes_15 {X : mXT} {E : mEn} {Fu : Nat} {R : mRT} {L : mLT}  (hC : mC X E mX12_dayGoes RX12 cX12_dayGoes) (hW : mWd R)   {out : mIT} (hE : mEd X E 0 0 (mSame none 106 1 (out) R L)) (k15_ : Int32 × Int32 × Int32 × mIT → Option (mIT)) (hk15_ : ∀ (v1 : Int32) (v2 : Int32) (v3 : Int32) (I : mIT),  k15_ (v1, v2, v3, I) = some out → mG X E 15 [(0, .ref (mB E + 75)), (1, .int v1), (2, .int v2), (3, .int v3)] [] 106 1 I R L 0 0) (v1 : Int32) (v2 : Int32) (v3 : Int32) (I : mIT) (h : b_X12_dayGoes_15 Fu k15_ v1 v2 v3 I = some out) : mG X E 15 [(0, .ref (mB E + 75)), (1, .int v1), (2, .int v2), (3, .int v3)] [] 106 1 I R L 0 0 := by
  unfold b_X12_dayGoes_15 at h
  refine g_iload_n hC dX12_dayGoes_15 rfl (q := 3) rfl ?_
  refine g_aload_n hC dX12_dayGoes_16 rfl (q := 0) rfl ?_
  refine g_geti hC fd_RX12_289 rfl (by decide) (Or.inl rfl) dX12_dayGoes_17 ?_
  refine g_ic_ge hC dX12_dayGoes_20 (tgt := 120) (by decide) (fun c20 => ?_) (fun c20 => ?_)
  · replace h := (if_pos c20).symm.trans h
    refine g_aload_n hC dX12_dayGoes_120 rfl (q := 0) rfl ?_
    refine g_getr hC fd_RX12_63 rfl (by decide) (C0 := "") (t0 := _) (Or.inr rfl) (rr_75_42 hW.1) dX12_dayGoes_121 ?_
    refine g_iload_n hC dX12_dayGoes_124 rfl (q := 1) rfl ?_
    refine g_iconst hC dX12_dayGoes_125 (v := (0 : Int32)) (by decide) ?_
    refine g_iadd hC dX12_dayGoes_126 ?_
    refine g_dup2 hC dX12_dayGoes_127 rfl rfl ?_
    obtain ⟨g128, h⟩ := oG_some h
    refine g_iald hC rfl (by decide) (inB_in g128) dX12_dayGoes_128 ?_
    refine g_iconst hC dX12_dayGoes_129 (v := (1 : Int32)) (by decide) ?_
    refine g_iadd hC dX12_dayGoes_130 ?_
    obtain ⟨g131, h⟩ := oG_some h
    refine g_iast hC rfl (by decide) (inB_in g131) dX12_dayGoes_131 (nm_e ?_)
    cases h
    exact g_vret hC hE rfl dX12_dayGoes_132 (Nat.zero_le _) (Nat.zero_le _) ⟨rfl, rfl, rfl, rfl, rfl, rfl⟩
  · replace h := (if_neg c20).symm.trans h
    refine g_aload_n hC dX12_dayGoes_23 rfl (q := 0) rfl ?_
    refine g_getr hC fd_RX12_63 rfl (by decide) (C0 := "") (t0 := _) (Or.inr rfl) (rr_75_42 hW.1) dX12_dayGoes_24 ?_
    refine g_iload_n hC dX12_dayGoes_27 rfl (q := 1) rfl ?_
    refine g_bipush hC dX12_dayGoes_28 (v := (31 : Int32)) (by decide) ?_
    refine g_iadd hC dX12_dayGoes_30 ?_
    refine g_iload_n hC dX12_dayGoes_31 rfl (q := 3) rfl ?_
    refine g_iadd hC dX12_dayGoes_32 ?_
    obtain ⟨g33, h⟩ := oG_some h
    refine g_iald hC rfl (by decide) (inB_in g33) dX12_dayGoes_33 ?_
    refine g_iconst hC dX12_dayGoes_34 (v := (-1 : Int32)) (by decide) ?_
    refine g_ic_ne hC dX12_dayGoes_35 (tgt := 71) (by decide) (fun c35 => ?_) (fun c35 => ?_)
    · replace h := (if_neg c35).symm.trans h
      exact bo_X12_dayGoes_71 hC hW hE k15_ hk15_ (v1) (v2) (v3) (I) h
    · replace h := (if_pos c35).symm.trans h
      refine g_aload_n hC dX12_dayGoes_38 rfl (q := 0) rfl ?_
      refine g_getr hC fd_RX12_63 rfl (by decide) (C0 := "") (t0 := _) (Or.inr rfl) (rr_75_42 hW.1) dX12_dayGoes_39 ?_
      refine g_iload_n hC dX12_dayGoes_42 rfl (q := 1) rfl ?_
      refine g_iconst hC dX12_dayGoes_43 (v := (1 : Int32)) (by decide) ?_
      refine g_iadd hC dX12_dayGoes_44 ?_
      refine g_iload_n hC dX12_dayGoes_45 rfl (q := 3) rfl ?_
      refine g_iadd hC dX12_dayGoes_46 ?_
      refine g_aload_n hC dX12_dayGoes_47 rfl (q := 0) rfl ?_
      refine g_getr hC fd_RX12_63 rfl (by decide) (C0 := "") (t0 := _) (Or.inr rfl) (rr_75_42 hW.1) dX12_dayGoes_48 ?_
      refine g_iload_n hC dX12_dayGoes_51 rfl (q := 1) rfl ?_
      refine g_iconst hC dX12_dayGoes_52 (v := (1 : Int32)) (by decide) ?_
      refine g_iadd hC dX12_dayGoes_53 ?_
      refine g_iload_n hC dX12_dayGoes_54 rfl (q := 3) rfl ?_
      refine g_iadd hC dX12_dayGoes_55 ?_
      obtain ⟨g56, h⟩ := oG_some h
      refine g_iald hC rfl (by decide) (inB_in g56) dX12_dayGoes_56 ?_
      refine g_aload_n hC dX12_dayGoes_57 rfl (q := 0) rfl ?_
      refine g_iload_n hC dX12_dayGoes_58 rfl (q := 1) rfl ?_
      refine g_iload_n hC dX12_dayGoes_59 rfl (q := 3) rfl ?_
      obtain ⟨r60, h60, h⟩ := oB_some h
      refine g_cV1 hC cv_X12_growth wd_2074 ⟨Nat.le_of_ble_eq_true rfl, Nat.le_of_ble_eq_true rfl⟩ rfl (by decide) dX12_dayGoes_60 (As := [.int v1, .int v3]) (st := [.int (I 89 (((v1 + (1 : Int32)) + v3)).toNatClampNeg), .int ((v1 + (1 : Int32)) + v3), .ref (mB E + 89)]) (ok_X12_growth hC.2.2.2.2.2.2.2.1 hW h60) rfl rfl (Nat.le_of_ble_eq_true rfl) ⟨Nat.zero_le _, Nat.zero_le _⟩ ?_
      refine g_iadd hC dX12_dayGoes_63 ?_
      refine g_iconst hC dX12_dayGoes_64 (v := (0 : Int32)) (by decide) ?_
      refine g_bipush hC dX12_dayGoes_65 (v := (60 : Int32)) (by decide) ?_
      obtain ⟨r67, h67, h⟩ := oB_some h
      refine g_cS1 hC cs_X12_kept wd_2016 ⟨Nat.le_of_ble_eq_true rfl, Nat.le_of_ble_eq_true rfl⟩ dX12_dayGoes_67 (As := [.int ((I 89 (((v1 + (1 : Int32)) + v3)).toNatClampNeg) + r60.1), .int (0 : Int32), .int (60 : Int32)]) (st := [.int ((v1 + (1 : Int32)) + v3), .ref (mB E + 89)]) (ok_X12_kept hC.2.2.2.2.2.2.2.1 hW h67) rfl rfl (Nat.le_of_ble_eq_true rfl) ⟨Nat.zero_le _, Nat.zero_le _⟩ ?_
      obtain ⟨g70, h⟩ := oG_some h
      refine g_iast hC rfl (by decide) (inB_in g70) dX12_dayGoes_70 (nm_e ?_)
      exact bo_X12_dayGoes_71 hC hW hE k15_ hk15_ (v1) (v2) (v3) ((mU r60.2 89 (((v1 + (1 : Int32)) + v3)).toNatClampNeg r67)) h
noncomputable def w_X12_dayGoes_15 (Fu : Nat)  (N : Nat) (v1 : Int32) (v2 : Int32) (v3 : Int32) (I : mIT) : Option (mIT) :=
  loopF (fun self (s : Int32 × Int32 × Int32 × mIT) => b_X12_dayGoes_15 Fu self s.1 s.2.1 s.2.2.1 s.2.2.2) N (v1, v2, v3, I)
theorem wo_X12_dayGoes_15 {X : mXT} {E : mEn} {Fu : Nat} {R : mRT} {L : mLT}  (hC : mC X E mX12_dayGoes RX12 cX12_dayGoes) (hW : mWd R)   {out : mIT} (hE : mEd X E 0 0 (mSame none 106 1 (out) R L))  (N : Nat) (v1 : Int32) (v2 : Int32) (v3 : Int32) (I : mIT) (h : w_X12_dayGoes_15 Fu  N v1 v2 v3 I = some out) : mG X E 15 [(0, .ref (mB E + 75)), (1, .int v1), (2, .int v2), (3, .int v3)] [] 106 1 I R L 0 0 :=
  loopF_ok (Gd := fun s : Int32 × Int32 × Int32 × mIT => mG X E 15 [(0, .ref (mB E + 75)), (1, .int s.1), (2, .int s.2.1), (3, .int s.2.2.1)] [] 106 1 s.2.2.2 R L 0 0) (fun self hs s h => bo_X12_dayGoes_15 hC hW hE self (fun v1 v2 v3 I h => hs (v1, v2, v3, I) h) s.1 s.2.1 s.2.2.1 s.2.2.2 h) N (v1, v2, v3, I) h
noncomputable def f_X12_dayGoes (Fu : Nat) (I : mIT) (v1 : Int32) : Option (mIT) :=
  oG (inB (v1 + (0 : Int32)) 106) (oB (f_X12_weatherOf Fu I (I 89 ((v1 + (0 : Int32))).toNatClampNeg)) (fun r9 => w_X12_dayGoes_15 Fu Fu v1 r9 (0 : Int32) I))
set_option maxRecDepth 20000 in
theorem ok_X12_dayGoes {l : Launch} {E : mEn} {Fu : Nat} {I : mIT} {R : mRT} {L : mLT} {v1 : Int32} (hst : l.stackTraces = false) (hW : mWd R)  {out : mIT} (h : f_X12_dayGoes Fu I v1 = some out) : mOk l E mX12_dayGoes [.ref (mB E + 75), .int v1] 106 1 I R L 0 0 (mSame none 106 1 (out) R L) := by
  refine mOk_of hst (by decide) (Nat.le_of_ble_eq_true rfl) (fun X hC hE _ => ?_)
  have hC : mC X E mX12_dayGoes RX12 cX12_dayGoes := hC
  show mG X E 0 [(0, .ref (mB E + 75)), (1, .int v1)] [] 106 1 I R L 0 0
  unfold f_X12_dayGoes at h
  refine g_aload_n hC dX12_dayGoes_0 rfl (q := 0) rfl ?_
  refine g_aload_n hC dX12_dayGoes_1 rfl (q := 0) rfl ?_
  refine g_getr hC fd_RX12_63 rfl (by decide) (C0 := "") (t0 := _) (Or.inr rfl) (rr_75_42 hW.1) dX12_dayGoes_2 ?_
  refine g_iload_n hC dX12_dayGoes_5 rfl (q := 1) rfl ?_
  refine g_iconst hC dX12_dayGoes_6 (v := (0 : Int32)) (by decide) ?_
  refine g_iadd hC dX12_dayGoes_7 ?_
  obtain ⟨g8, h⟩ := oG_some h
  refine g_iald hC rfl (by decide) (inB_in g8) dX12_dayGoes_8 ?_
  obtain ⟨r9, h9, h⟩ := oB_some h
  refine g_cV1 hC cv_X12_weatherOf wd_1992 ⟨Nat.le_of_ble_eq_true rfl, Nat.le_of_ble_eq_true rfl⟩ rfl (by decide) dX12_dayGoes_9 (As := [.int (I 89 ((v1 + (0 : Int32))).toNatClampNeg)]) (st := []) (ok_X12_weatherOf hC.2.2.2.2.2.2.2.1 hW h9) rfl rfl (Nat.le_of_ble_eq_true rfl) ⟨Nat.zero_le _, Nat.zero_le _⟩ ?_
  refine g_istore_n hC dX12_dayGoes_12 rfl rfl (by decide) (lv' := [(2, .int r9), (0, .ref (mB E + 75)), (1, .int v1)]) rfl ?_
  refine g_iconst hC dX12_dayGoes_13 (v := (0 : Int32)) (by decide) ?_
  refine g_istore_n hC dX12_dayGoes_14 rfl rfl (by decide) (lv' := [(3, .int (0 : Int32)), (2, .int r9), (0, .ref (mB E + 75)), (1, .int v1)]) rfl ?_
  refine g_lv [2, 3, 1, 0] rfl ?_
  exact wo_X12_dayGoes_15 hC hW hE Fu (v1) (r9) ((0 : Int32)) (I) h
noncomputable def b_X12_days_41 (Fu : Nat) (k41_ : Int32 × Int32 × mIT → Option (Int32 × mIT)) (v1 : Int32) (v2 : Int32) (I : mIT) : Option (Int32 × mIT) :=
  if v1 ≤ v2 then (oG (inB (0 : Int32) 106) (some ((I 89 ((0 : Int32)).toNatClampNeg), I))) else (oB (f_X12_dayGoes Fu I (0 : Int32)) (fun r48 => k41_ (v1, (v2 + (1 : Int32)), r48)))
set_option maxRecDepth 20000 in
theorem bo_X12_days_41 {X : mXT} {E : mEn} {Fu : Nat} {R : mRT} {L : mLT}  (hC : mC X E mX12_days RX12 cX12_days) (hW : mWd R)   {out : Int32 × mIT} (hE : mEd X E 0 0 (mSame (some (.int (out.1))) 106 1 (out.2) R L)) (k41_ : Int32 × Int32 × mIT → Option (Int32 × mIT)) (hk41_ : ∀ (v1 : Int32) (v2 : Int32) (I : mIT),  k41_ (v1, v2, I) = some out → mG X E 41 [(0, .ref (mB E + 75)), (1, .int v1), (2, .int v2)] [] 106 1 I R L 0 0) (v1 : Int32) (v2 : Int32) (I : mIT) (h : b_X12_days_41 Fu k41_ v1 v2 I = some out) : mG X E 41 [(0, .ref (mB E + 75)), (1, .int v1), (2, .int v2)] [] 106 1 I R L 0 0 := by
  unfold b_X12_days_41 at h
  refine g_iload_n hC dX12_days_41 rfl (q := 2) rfl ?_
  refine g_iload_n hC dX12_days_42 rfl (q := 1) rfl ?_
  refine g_ic_ge hC dX12_days_43 (tgt := 57) (by decide) (fun c43 => ?_) (fun c43 => ?_)
  · replace h := (if_pos c43).symm.trans h
    refine g_aload_n hC dX12_days_57 rfl (q := 0) rfl ?_
    refine g_getr hC fd_RX12_63 rfl (by decide) (C0 := "") (t0 := _) (Or.inr rfl) (rr_75_42 hW.1) dX12_days_58 ?_
    refine g_iconst hC dX12_days_61 (v := (0 : Int32)) (by decide) ?_
    obtain ⟨g62, h⟩ := oG_some h
    refine g_iald hC rfl (by decide) (inB_in g62) dX12_days_62 ?_
    cases h
    exact g_iret hC hE rfl dX12_days_63 (Nat.zero_le _) (Nat.zero_le _) ⟨rfl, rfl, rfl, rfl, rfl, rfl⟩
  · replace h := (if_neg c43).symm.trans h
    refine g_aload_n hC dX12_days_46 rfl (q := 0) rfl ?_
    refine g_iconst hC dX12_days_47 (v := (0 : Int32)) (by decide) ?_
    obtain ⟨r48, h48, h⟩ := oB_some h
    refine g_cV0 hC cv_X12_dayGoes wd_2070 ⟨Nat.le_of_ble_eq_true rfl, Nat.le_of_ble_eq_true rfl⟩ rfl (by decide) dX12_days_48 (As := [.int (0 : Int32)]) (st := []) (ok_X12_dayGoes hC.2.2.2.2.2.2.2.1 hW h48) rfl rfl (Nat.le_of_ble_eq_true rfl) ⟨Nat.zero_le _, Nat.zero_le _⟩ ?_
    refine g_iinc hC dX12_days_51 rfl (q := 2) rfl (w := (v2 + (1 : Int32))) rfl (by decide) (lv' := [(2, .int (v2 + (1 : Int32))), (0, .ref (mB E + 75)), (1, .int v1)]) rfl ?_
    refine g_goto hC dX12_days_54 (tgt := 41) (by decide) ?_
    refine g_lv [1, 2, 0] rfl ?_
    exact hk41_ v1 (v2 + (1 : Int32)) r48 h
noncomputable def w_X12_days_41 (Fu : Nat)  (N : Nat) (v1 : Int32) (v2 : Int32) (I : mIT) : Option (Int32 × mIT) :=
  loopF (fun self (s : Int32 × Int32 × mIT) => b_X12_days_41 Fu self s.1 s.2.1 s.2.2) N (v1, v2, I)
theorem wo_X12_days_41 {X : mXT} {E : mEn} {Fu : Nat} {R : mRT} {L : mLT}  (hC : mC X E mX12_days RX12 cX12_days) (hW : mWd R)   {out : Int32 × mIT} (hE : mEd X E 0 0 (mSame (some (.int (out.1))) 106 1 (out.2) R L))  (N : Nat) (v1 : Int32) (v2 : Int32) (I : mIT) (h : w_X12_days_41 Fu  N v1 v2 I = some out) : mG X E 41 [(0, .ref (mB E + 75)), (1, .int v1), (2, .int v2)] [] 106 1 I R L 0 0 :=
  loopF_ok (Gd := fun s : Int32 × Int32 × mIT => mG X E 41 [(0, .ref (mB E + 75)), (1, .int s.1), (2, .int s.2.1)] [] 106 1 s.2.2 R L 0 0) (fun self hs s h => bo_X12_days_41 hC hW hE self (fun v1 v2 I h => hs (v1, v2, I) h) s.1 s.2.1 s.2.2 h) N (v1, v2, I) h
noncomputable def f_X12_days (Fu : Nat) (I : mIT) (v1 : Int32) : Option (Int32 × mIT) :=
  oB (f_X12_within Fu v1 (1 : Int32) (30 : Int32)) (fun r9 => if r9 = 0 then (oB (f_X12_refuses Fu (mU I 75 0 (0 : Int32)) (1 : Int32)) (fun r31 => some (r31.1, r31.2))) else (oG (inB (0 : Int32) 106) (if (((mU I 75 0 (0 : Int32)) 89 ((0 : Int32)).toNatClampNeg) + v1) ≤ (999 : Int32) then (oB (f_X12_keeps Fu (mU I 75 0 (0 : Int32))) (fun r36 => w_X12_days_41 Fu Fu v1 (0 : Int32) r36)) else (oB (f_X12_refuses Fu (mU I 75 0 (0 : Int32)) (1 : Int32)) (fun r31 => some (r31.1, r31.2))))))
set_option maxRecDepth 20000 in
theorem ok_X12_days {l : Launch} {E : mEn} {Fu : Nat} {I : mIT} {R : mRT} {L : mLT} {v1 : Int32} (hst : l.stackTraces = false) (hW : mWd R)  {out : Int32 × mIT} (h : f_X12_days Fu I v1 = some out) : mOk l E mX12_days [.ref (mB E + 75), .int v1] 106 1 I R L 0 0 (mSame (some (.int (out.1))) 106 1 (out.2) R L) := by
  refine mOk_of hst (by decide) (Nat.le_of_ble_eq_true rfl) (fun X hC hE _ => ?_)
  have hC : mC X E mX12_days RX12 cX12_days := hC
  show mG X E 0 [(0, .ref (mB E + 75)), (1, .int v1)] [] 106 1 I R L 0 0
  unfold f_X12_days at h
  refine g_aload_n hC dX12_days_0 rfl (q := 0) rfl ?_
  refine g_iconst hC dX12_days_1 (v := (0 : Int32)) (by decide) ?_
  refine g_puti hC fd_RX12_114 rfl (by decide) rfl dX12_days_2 (nm_e ?_)
  refine g_iload_n hC dX12_days_5 rfl (q := 1) rfl ?_
  refine g_iconst hC dX12_days_6 (v := (1 : Int32)) (by decide) ?_
  refine g_bipush hC dX12_days_7 (v := (30 : Int32)) (by decide) ?_
  obtain ⟨r9, h9, h⟩ := oB_some h
  refine g_cS1 hC cs_X12_within wd_1915 ⟨Nat.le_of_ble_eq_true rfl, Nat.le_of_ble_eq_true rfl⟩ dX12_days_9 (As := [.int v1, .int (1 : Int32), .int (30 : Int32)]) (st := []) (ok_X12_within hC.2.2.2.2.2.2.2.1 hW h9) rfl rfl (Nat.le_of_ble_eq_true rfl) ⟨Nat.zero_le _, Nat.zero_le _⟩ ?_
  refine g_if_eq hC dX12_days_12 (tgt := 29) (by decide) (fun c12 => ?_) (fun c12 => ?_)
  · replace h := (if_pos c12).symm.trans h
    refine g_aload_n hC dX12_days_29 rfl (q := 0) rfl ?_
    refine g_iconst hC dX12_days_30 (v := (1 : Int32)) (by decide) ?_
    obtain ⟨r31, h31, h⟩ := oB_some h
    refine g_cV1 hC cv_X12_refuses wd_2062 ⟨Nat.le_of_ble_eq_true rfl, Nat.le_of_ble_eq_true rfl⟩ rfl (by decide) dX12_days_31 (As := [.int (1 : Int32)]) (st := []) (ok_X12_refuses hC.2.2.2.2.2.2.2.1 hW h31) rfl rfl (Nat.le_of_ble_eq_true rfl) ⟨Nat.zero_le _, Nat.zero_le _⟩ ?_
    cases h
    exact g_iret hC hE rfl dX12_days_34 (Nat.zero_le _) (Nat.zero_le _) ⟨rfl, rfl, rfl, rfl, rfl, rfl⟩
  · replace h := (if_neg c12).symm.trans h
    refine g_aload_n hC dX12_days_15 rfl (q := 0) rfl ?_
    refine g_getr hC fd_RX12_63 rfl (by decide) (C0 := "") (t0 := _) (Or.inr rfl) (rr_75_42 hW.1) dX12_days_16 ?_
    refine g_iconst hC dX12_days_19 (v := (0 : Int32)) (by decide) ?_
    obtain ⟨g20, h⟩ := oG_some h
    refine g_iald hC rfl (by decide) (inB_in g20) dX12_days_20 ?_
    refine g_iload_n hC dX12_days_21 rfl (q := 1) rfl ?_
    refine g_iadd hC dX12_days_22 ?_
    refine g_sipush hC dX12_days_23 (v := (999 : Int32)) (by decide) ?_
    refine g_ic_le hC dX12_days_26 (tgt := 35) (by decide) (fun c26 => ?_) (fun c26 => ?_)
    · replace h := (if_pos c26).symm.trans h
      refine g_aload_n hC dX12_days_35 rfl (q := 0) rfl ?_
      obtain ⟨r36, h36, h⟩ := oB_some h
      refine g_cV0 hC cv_X12_keeps wd_2066 ⟨Nat.le_of_ble_eq_true rfl, Nat.le_of_ble_eq_true rfl⟩ rfl (by decide) dX12_days_36 (As := []) (st := []) (ok_X12_keeps hC.2.2.2.2.2.2.2.1 hW h36) rfl rfl (Nat.le_of_ble_eq_true rfl) ⟨Nat.zero_le _, Nat.zero_le _⟩ ?_
      refine g_iconst hC dX12_days_39 (v := (0 : Int32)) (by decide) ?_
      refine g_istore_n hC dX12_days_40 rfl rfl (by decide) (lv' := [(2, .int (0 : Int32)), (0, .ref (mB E + 75)), (1, .int v1)]) rfl ?_
      refine g_lv [1, 2, 0] rfl ?_
      exact wo_X12_days_41 hC hW hE Fu (v1) ((0 : Int32)) (r36) h
    · replace h := (if_neg c26).symm.trans h
      refine g_aload_n hC dX12_days_29 rfl (q := 0) rfl ?_
      refine g_iconst hC dX12_days_30 (v := (1 : Int32)) (by decide) ?_
      obtain ⟨r31, h31, h⟩ := oB_some h
      refine g_cV1 hC cv_X12_refuses wd_2062 ⟨Nat.le_of_ble_eq_true rfl, Nat.le_of_ble_eq_true rfl⟩ rfl (by decide) dX12_days_31 (As := [.int (1 : Int32)]) (st := []) (ok_X12_refuses hC.2.2.2.2.2.2.2.1 hW h31) rfl rfl (Nat.le_of_ble_eq_true rfl) ⟨Nat.zero_le _, Nat.zero_le _⟩ ?_
      cases h
      exact g_iret hC hE rfl dX12_days_34 (Nat.zero_le _) (Nat.zero_le _) ⟨rfl, rfl, rfl, rfl, rfl, rfl⟩
noncomputable def b_X12_daysGo_6 (Fu : Nat) (k6_ : Int32 × Int32 × mIT → Option (mIT)) (v1 : Int32) (v2 : Int32) (I : mIT) : Option (mIT) :=
  if v1 ≤ v2 then (some (I)) else (oB (f_X12_dayGoes Fu I (53 : Int32)) (fun r14 => k6_ (v1, (v2 + (1 : Int32)), r14)))
set_option maxRecDepth 20000 in
theorem bo_X12_daysGo_6 {X : mXT} {E : mEn} {Fu : Nat} {R : mRT} {L : mLT}  (hC : mC X E mX12_daysGo RX12 cX12_daysGo) (hW : mWd R)   {out : mIT} (hE : mEd X E 0 0 (mSame none 106 1 (out) R L)) (k6_ : Int32 × Int32 × mIT → Option (mIT)) (hk6_ : ∀ (v1 : Int32) (v2 : Int32) (I : mIT),  k6_ (v1, v2, I) = some out → mG X E 6 [(0, .ref (mB E + 75)), (1, .int v1), (2, .int v2)] [] 106 1 I R L 0 0) (v1 : Int32) (v2 : Int32) (I : mIT) (h : b_X12_daysGo_6 Fu k6_ v1 v2 I = some out) : mG X E 6 [(0, .ref (mB E + 75)), (1, .int v1), (2, .int v2)] [] 106 1 I R L 0 0 := by
  unfold b_X12_daysGo_6 at h
  refine g_iload_n hC dX12_daysGo_6 rfl (q := 2) rfl ?_
  refine g_iload_n hC dX12_daysGo_7 rfl (q := 1) rfl ?_
  refine g_ic_ge hC dX12_daysGo_8 (tgt := 23) (by decide) (fun c8 => ?_) (fun c8 => ?_)
  · replace h := (if_pos c8).symm.trans h
    cases h
    exact g_vret hC hE rfl dX12_daysGo_23 (Nat.zero_le _) (Nat.zero_le _) ⟨rfl, rfl, rfl, rfl, rfl, rfl⟩
  · replace h := (if_neg c8).symm.trans h
    refine g_aload_n hC dX12_daysGo_11 rfl (q := 0) rfl ?_
    refine g_bipush hC dX12_daysGo_12 (v := (53 : Int32)) (by decide) ?_
    obtain ⟨r14, h14, h⟩ := oB_some h
    refine g_cV0 hC cv_X12_dayGoes wd_2070 ⟨Nat.le_of_ble_eq_true rfl, Nat.le_of_ble_eq_true rfl⟩ rfl (by decide) dX12_daysGo_14 (As := [.int (53 : Int32)]) (st := []) (ok_X12_dayGoes hC.2.2.2.2.2.2.2.1 hW h14) rfl rfl (Nat.le_of_ble_eq_true rfl) ⟨Nat.zero_le _, Nat.zero_le _⟩ ?_
    refine g_iinc hC dX12_daysGo_17 rfl (q := 2) rfl (w := (v2 + (1 : Int32))) rfl (by decide) (lv' := [(2, .int (v2 + (1 : Int32))), (0, .ref (mB E + 75)), (1, .int v1)]) rfl ?_
    refine g_goto hC dX12_daysGo_20 (tgt := 6) (by decide) ?_
    refine g_lv [1, 2, 0] rfl ?_
    exact hk6_ v1 (v2 + (1 : Int32)) r14 h
noncomputable def w_X12_daysGo_6 (Fu : Nat)  (N : Nat) (v1 : Int32) (v2 : Int32) (I : mIT) : Option (mIT) :=
  loopF (fun self (s : Int32 × Int32 × mIT) => b_X12_daysGo_6 Fu self s.1 s.2.1 s.2.2) N (v1, v2, I)
theorem wo_X12_daysGo_6 {X : mXT} {E : mEn} {Fu : Nat} {R : mRT} {L : mLT}  (hC : mC X E mX12_daysGo RX12 cX12_daysGo) (hW : mWd R)   {out : mIT} (hE : mEd X E 0 0 (mSame none 106 1 (out) R L))  (N : Nat) (v1 : Int32) (v2 : Int32) (I : mIT) (h : w_X12_daysGo_6 Fu  N v1 v2 I = some out) : mG X E 6 [(0, .ref (mB E + 75)), (1, .int v1), (2, .int v2)] [] 106 1 I R L 0 0 :=
  loopF_ok (Gd := fun s : Int32 × Int32 × mIT => mG X E 6 [(0, .ref (mB E + 75)), (1, .int s.1), (2, .int s.2.1)] [] 106 1 s.2.2 R L 0 0) (fun self hs s h => bo_X12_daysGo_6 hC hW hE self (fun v1 v2 I h => hs (v1, v2, I) h) s.1 s.2.1 s.2.2 h) N (v1, v2, I) h
noncomputable def f_X12_daysGo (Fu : Nat) (I : mIT) (v1 : Int32) : Option (mIT) :=
  oB (f_X12_tries Fu I) (fun r1 => w_X12_daysGo_6 Fu Fu v1 (0 : Int32) r1)
set_option maxRecDepth 20000 in
theorem ok_X12_daysGo {l : Launch} {E : mEn} {Fu : Nat} {I : mIT} {R : mRT} {L : mLT} {v1 : Int32} (hst : l.stackTraces = false) (hW : mWd R)  {out : mIT} (h : f_X12_daysGo Fu I v1 = some out) : mOk l E mX12_daysGo [.ref (mB E + 75), .int v1] 106 1 I R L 0 0 (mSame none 106 1 (out) R L) := by
  refine mOk_of hst (by decide) (Nat.le_of_ble_eq_true rfl) (fun X hC hE _ => ?_)
  have hC : mC X E mX12_daysGo RX12 cX12_daysGo := hC
  show mG X E 0 [(0, .ref (mB E + 75)), (1, .int v1)] [] 106 1 I R L 0 0
  unfold f_X12_daysGo at h
  refine g_aload_n hC dX12_daysGo_0 rfl (q := 0) rfl ?_
  obtain ⟨r1, h1, h⟩ := oB_some h
  refine g_cV0 hC cv_X12_tries wd_2110 ⟨Nat.le_of_ble_eq_true rfl, Nat.le_of_ble_eq_true rfl⟩ rfl (by decide) dX12_daysGo_1 (As := []) (st := []) (ok_X12_tries hC.2.2.2.2.2.2.2.1 hW h1) rfl rfl (Nat.le_of_ble_eq_true rfl) ⟨Nat.zero_le _, Nat.zero_le _⟩ ?_
  refine g_iconst hC dX12_daysGo_4 (v := (0 : Int32)) (by decide) ?_
  refine g_istore_n hC dX12_daysGo_5 rfl rfl (by decide) (lv' := [(2, .int (0 : Int32)), (0, .ref (mB E + 75)), (1, .int v1)]) rfl ?_
  refine g_lv [1, 2, 0] rfl ?_
  exact wo_X12_daysGo_6 hC hW hE Fu (v1) ((0 : Int32)) (r1) h
noncomputable def f_X12_isSign (Fu : Nat) (I : mIT) (v1 : Int32) : Option (Int32) :=
  if (I 75 19) = (3 : Int32) then (if (I 75 23) = v1 then (some (1 : Int32)) else (some (0 : Int32))) else (some (0 : Int32))
set_option maxRecDepth 20000 in
theorem ok_X12_isSign {l : Launch} {E : mEn} {Fu : Nat} {I : mIT} {R : mRT} {L : mLT} {v1 : Int32} (hst : l.stackTraces = false) (hW : mWd R)  {out : Int32} (h : f_X12_isSign Fu I v1 = some out) : mOk l E mX12_isSign [.ref (mB E + 75), .int v1] 106 1 I R L 0 0 (mSame (some (.int (out))) 106 1 I R L) := by
  refine mOk_of hst (by decide) (Nat.le_of_ble_eq_true rfl) (fun X hC hE _ => ?_)
  have hC : mC X E mX12_isSign RX12 cX12_isSign := hC
  show mG X E 0 [(0, .ref (mB E + 75)), (1, .int v1)] [] 106 1 I R L 0 0
  unfold f_X12_isSign at h
  refine g_aload_n hC dX12_isSign_0 rfl (q := 0) rfl ?_
  refine g_geti hC fd_RX12_147 rfl (by decide) (Or.inl rfl) dX12_isSign_1 ?_
  refine g_iconst hC dX12_isSign_4 (v := (3 : Int32)) (by decide) ?_
  refine g_ic_ne hC dX12_isSign_5 (tgt := 20) (by decide) (fun c5 => ?_) (fun c5 => ?_)
  · replace h := (if_neg c5).symm.trans h
    refine g_iconst hC dX12_isSign_20 (v := (0 : Int32)) (by decide) ?_
    cases h
    exact g_zret hC (by decide) hE rfl dX12_isSign_21 (Nat.zero_le _) (Nat.zero_le _) ⟨rfl, rfl, rfl, rfl, rfl, rfl⟩
  · replace h := (if_pos c5).symm.trans h
    refine g_aload_n hC dX12_isSign_8 rfl (q := 0) rfl ?_
    refine g_geti hC fd_RX12_144 rfl (by decide) (Or.inl rfl) dX12_isSign_9 ?_
    refine g_iload_n hC dX12_isSign_12 rfl (q := 1) rfl ?_
    refine g_ic_ne hC dX12_isSign_13 (tgt := 20) (by decide) (fun c13 => ?_) (fun c13 => ?_)
    · replace h := (if_neg c13).symm.trans h
      refine g_iconst hC dX12_isSign_20 (v := (0 : Int32)) (by decide) ?_
      cases h
      exact g_zret hC (by decide) hE rfl dX12_isSign_21 (Nat.zero_le _) (Nat.zero_le _) ⟨rfl, rfl, rfl, rfl, rfl, rfl⟩
    · replace h := (if_pos c13).symm.trans h
      refine g_iconst hC dX12_isSign_16 (v := (1 : Int32)) (by decide) ?_
      refine g_goto hC dX12_isSign_17 (tgt := 21) (by decide) ?_
      cases h
      exact g_zret hC (by decide) hE rfl dX12_isSign_21 (Nat.zero_le _) (Nat.zero_le _) ⟨rfl, rfl, rfl, rfl, rfl, rfl⟩
noncomputable def f_X12_deeper (Fu : Nat) (I : mIT)  : Option (mIT) :=
  if (6 : Int32) ≤ (I 75 34) then (if (I 75 19) = (2 : Int32) then (oB (f_X12_wrong Fu I (2 : Int32)) (fun r61 => some (r61))) else (if (I 75 19) = (1 : Int32) then (oB (f_X12_wrong Fu I (2 : Int32)) (fun r61 => some (r61))) else (oB (f_X12_isSign Fu I (40 : Int32)) (fun r50 => if r50 = 0 then (oB (f_X12_wrong Fu I (1 : Int32)) (fun r61 => some (r61))) else (oB (f_X12_wrong Fu I (2 : Int32)) (fun r61 => some (r61))))))) else (oG (inB ((mU I 75 34 ((I 75 34) + (1 : Int32))) 75 34) 9) (some (mU (mU I 75 34 ((I 75 34) + (1 : Int32))) 88 (((mU I 75 34 ((I 75 34) + (1 : Int32))) 75 34)).toNatClampNeg (vp_nar .boolean (0 : Int32)))))
set_option maxRecDepth 20000 in
theorem ok_X12_deeper {l : Launch} {E : mEn} {Fu : Nat} {I : mIT} {R : mRT} {L : mLT}  (hst : l.stackTraces = false) (hW : mWd R)  {out : mIT} (h : f_X12_deeper Fu I  = some out) : mOk l E mX12_deeper [.ref (mB E + 75)] 106 1 I R L 0 0 (mSame none 106 1 (out) R L) := by
  refine mOk_of hst (by decide) (Nat.le_of_ble_eq_true rfl) (fun X hC hE _ => ?_)
  have hC : mC X E mX12_deeper RX12 cX12_deeper := hC
  show mG X E 0 [(0, .ref (mB E + 75))] [] 106 1 I R L 0 0
  unfold f_X12_deeper at h
  refine g_aload_n hC dX12_deeper_0 rfl (q := 0) rfl ?_
  refine g_geti hC fd_RX12_202 rfl (by decide) (Or.inl rfl) dX12_deeper_1 ?_
  refine g_bipush hC dX12_deeper_4 (v := (6 : Int32)) (by decide) ?_
  refine g_ic_ge hC dX12_deeper_6 (tgt := 30) (by decide) (fun c6 => ?_) (fun c6 => ?_)
  · replace h := (if_pos c6).symm.trans h
    refine g_aload_n hC dX12_deeper_30 rfl (q := 0) rfl ?_
    refine g_aload_n hC dX12_deeper_31 rfl (q := 0) rfl ?_
    refine g_geti hC fd_RX12_147 rfl (by decide) (Or.inl rfl) dX12_deeper_32 ?_
    refine g_iconst hC dX12_deeper_35 (v := (2 : Int32)) (by decide) ?_
    refine g_ic_eq hC dX12_deeper_36 (tgt := 56) (by decide) (fun c36 => ?_) (fun c36 => ?_)
    · replace h := (if_pos c36).symm.trans h
      refine g_iconst hC dX12_deeper_56 (v := (2 : Int32)) (by decide) ?_
      refine g_goto hC dX12_deeper_57 (tgt := 61) (by decide) ?_
      obtain ⟨r61, h61, h⟩ := oB_some h
      refine g_cV0 hC cv_X12_wrong wd_1892 ⟨Nat.le_of_ble_eq_true rfl, Nat.le_of_ble_eq_true rfl⟩ rfl (by decide) dX12_deeper_61 (As := [.int (2 : Int32)]) (st := []) (ok_X12_wrong hC.2.2.2.2.2.2.2.1 hW h61) rfl rfl (Nat.le_of_ble_eq_true rfl) ⟨Nat.zero_le _, Nat.zero_le _⟩ ?_
      cases h
      exact g_vret hC hE rfl dX12_deeper_64 (Nat.zero_le _) (Nat.zero_le _) ⟨rfl, rfl, rfl, rfl, rfl, rfl⟩
    · replace h := (if_neg c36).symm.trans h
      refine g_aload_n hC dX12_deeper_39 rfl (q := 0) rfl ?_
      refine g_geti hC fd_RX12_147 rfl (by decide) (Or.inl rfl) dX12_deeper_40 ?_
      refine g_iconst hC dX12_deeper_43 (v := (1 : Int32)) (by decide) ?_
      refine g_ic_eq hC dX12_deeper_44 (tgt := 56) (by decide) (fun c44 => ?_) (fun c44 => ?_)
      · replace h := (if_pos c44).symm.trans h
        refine g_iconst hC dX12_deeper_56 (v := (2 : Int32)) (by decide) ?_
        refine g_goto hC dX12_deeper_57 (tgt := 61) (by decide) ?_
        obtain ⟨r61, h61, h⟩ := oB_some h
        refine g_cV0 hC cv_X12_wrong wd_1892 ⟨Nat.le_of_ble_eq_true rfl, Nat.le_of_ble_eq_true rfl⟩ rfl (by decide) dX12_deeper_61 (As := [.int (2 : Int32)]) (st := []) (ok_X12_wrong hC.2.2.2.2.2.2.2.1 hW h61) rfl rfl (Nat.le_of_ble_eq_true rfl) ⟨Nat.zero_le _, Nat.zero_le _⟩ ?_
        cases h
        exact g_vret hC hE rfl dX12_deeper_64 (Nat.zero_le _) (Nat.zero_le _) ⟨rfl, rfl, rfl, rfl, rfl, rfl⟩
      · replace h := (if_neg c44).symm.trans h
        refine g_aload_n hC dX12_deeper_47 rfl (q := 0) rfl ?_
        refine g_bipush hC dX12_deeper_48 (v := (40 : Int32)) (by decide) ?_
        obtain ⟨r50, h50, h⟩ := oB_some h
        refine g_cV1 hC cv_X12_isSign wd_1926 ⟨Nat.le_of_ble_eq_true rfl, Nat.le_of_ble_eq_true rfl⟩ rfl (by decide) dX12_deeper_50 (As := [.int (40 : Int32)]) (st := [.ref (mB E + 75)]) (ok_X12_isSign hC.2.2.2.2.2.2.2.1 hW h50) rfl rfl (Nat.le_of_ble_eq_true rfl) ⟨Nat.zero_le _, Nat.zero_le _⟩ ?_
        refine g_if_eq hC dX12_deeper_53 (tgt := 60) (by decide) (fun c53 => ?_) (fun c53 => ?_)
        · replace h := (if_pos c53).symm.trans h
          refine g_iconst hC dX12_deeper_60 (v := (1 : Int32)) (by decide) ?_
          obtain ⟨r61, h61, h⟩ := oB_some h
          refine g_cV0 hC cv_X12_wrong wd_1892 ⟨Nat.le_of_ble_eq_true rfl, Nat.le_of_ble_eq_true rfl⟩ rfl (by decide) dX12_deeper_61 (As := [.int (1 : Int32)]) (st := []) (ok_X12_wrong hC.2.2.2.2.2.2.2.1 hW h61) rfl rfl (Nat.le_of_ble_eq_true rfl) ⟨Nat.zero_le _, Nat.zero_le _⟩ ?_
          cases h
          exact g_vret hC hE rfl dX12_deeper_64 (Nat.zero_le _) (Nat.zero_le _) ⟨rfl, rfl, rfl, rfl, rfl, rfl⟩
        · replace h := (if_neg c53).symm.trans h
          refine g_iconst hC dX12_deeper_56 (v := (2 : Int32)) (by decide) ?_
          refine g_goto hC dX12_deeper_57 (tgt := 61) (by decide) ?_
          obtain ⟨r61, h61, h⟩ := oB_some h
          refine g_cV0 hC cv_X12_wrong wd_1892 ⟨Nat.le_of_ble_eq_true rfl, Nat.le_of_ble_eq_true rfl⟩ rfl (by decide) dX12_deeper_61 (As := [.int (2 : Int32)]) (st := []) (ok_X12_wrong hC.2.2.2.2.2.2.2.1 hW h61) rfl rfl (Nat.le_of_ble_eq_true rfl) ⟨Nat.zero_le _, Nat.zero_le _⟩ ?_
          cases h
          exact g_vret hC hE rfl dX12_deeper_64 (Nat.zero_le _) (Nat.zero_le _) ⟨rfl, rfl, rfl, rfl, rfl, rfl⟩
  · replace h := (if_neg c6).symm.trans h
    refine g_aload_n hC dX12_deeper_9 rfl (q := 0) rfl ?_
    refine g_dup hC dX12_deeper_10 rfl ?_
    refine g_geti hC fd_RX12_202 rfl (by decide) (Or.inl rfl) dX12_deeper_11 ?_
    refine g_iconst hC dX12_deeper_14 (v := (1 : Int32)) (by decide) ?_
    refine g_iadd hC dX12_deeper_15 ?_
    refine g_puti hC fd_RX12_202 rfl (by decide) rfl dX12_deeper_16 (nm_e ?_)
    refine g_aload_n hC dX12_deeper_19 rfl (q := 0) rfl ?_
    refine g_getr hC fd_RX12_59 rfl (by decide) (C0 := "") (t0 := _) (Or.inr rfl) (rr_75_41 hW.1) dX12_deeper_20 ?_
    refine g_aload_n hC dX12_deeper_23 rfl (q := 0) rfl ?_
    refine g_geti hC fd_RX12_202 rfl (by decide) (Or.inl rfl) dX12_deeper_24 ?_
    refine g_iconst hC dX12_deeper_27 (v := (0 : Int32)) (by decide) ?_
    obtain ⟨g28, h⟩ := oG_some h
    refine g_zast hC rfl (by decide) (inB_in g28) dX12_deeper_28 (nm_e ?_)
    cases h
    exact g_vret hC hE rfl dX12_deeper_29 (Nat.zero_le _) (Nat.zero_le _) ⟨rfl, rfl, rfl, rfl, rfl, rfl⟩
noncomputable def f_X12_draw (Fu : Nat) (I : mIT) (v1 : Int32) : Option (Int32 × mIT) :=
  oG (v1 != 0) (some ((((((mU I 75 59 (((I 75 59) * (1103515245 : Int32)) + (12345 : Int32))) 75 59) >>> ((16 : Int32) &&& 31)) &&& (32767 : Int32)) - ((((mU I 75 59 (((I 75 59) * (1103515245 : Int32)) + (12345 : Int32))) 75 59) >>> ((16 : Int32) &&& 31)) &&& (32767 : Int32)) / v1 * v1), (mU I 75 59 (((I 75 59) * (1103515245 : Int32)) + (12345 : Int32)))))
set_option maxRecDepth 20000 in
theorem ok_X12_draw {l : Launch} {E : mEn} {Fu : Nat} {I : mIT} {R : mRT} {L : mLT} {v1 : Int32} (hst : l.stackTraces = false) (hW : mWd R)  {out : Int32 × mIT} (h : f_X12_draw Fu I v1 = some out) : mOk l E mX12_draw [.ref (mB E + 75), .int v1] 106 1 I R L 0 0 (mSame (some (.int (out.1))) 106 1 (out.2) R L) := by
  refine mOk_of hst (by decide) (Nat.le_of_ble_eq_true rfl) (fun X hC hE _ => ?_)
  have hC : mC X E mX12_draw RX12 cX12_draw := hC
  show mG X E 0 [(0, .ref (mB E + 75)), (1, .int v1)] [] 106 1 I R L 0 0
  unfold f_X12_draw at h
  refine g_aload_n hC dX12_draw_0 rfl (q := 0) rfl ?_
  refine g_aload_n hC dX12_draw_1 rfl (q := 0) rfl ?_
  refine g_geti hC fd_RX12_442 rfl (by decide) (Or.inl rfl) dX12_draw_2 ?_
  refine g_ldcw hC dX12_draw_5 wd_2269 ?_
  refine g_imul hC dX12_draw_8 ?_
  refine g_sipush hC dX12_draw_9 (v := (12345 : Int32)) (by decide) ?_
  refine g_iadd hC dX12_draw_12 ?_
  refine g_puti hC fd_RX12_442 rfl (by decide) rfl dX12_draw_13 (nm_e ?_)
  refine g_aload_n hC dX12_draw_16 rfl (q := 0) rfl ?_
  refine g_geti hC fd_RX12_442 rfl (by decide) (Or.inl rfl) dX12_draw_17 ?_
  refine g_bipush hC dX12_draw_20 (v := (16 : Int32)) (by decide) ?_
  refine g_ishr hC dX12_draw_22 ?_
  refine g_sipush hC dX12_draw_23 (v := (32767 : Int32)) (by decide) ?_
  refine g_iand hC dX12_draw_26 ?_
  refine g_iload_n hC dX12_draw_27 rfl (q := 1) rfl ?_
  obtain ⟨g28, h⟩ := oG_some h
  refine g_irem hC dX12_draw_28 (mNz g28) ?_
  cases h
  exact g_iret hC hE rfl dX12_draw_29 (Nat.zero_le _) (Nat.zero_le _) ⟨rfl, rfl, rfl, rfl, rfl, rfl⟩
noncomputable def b_X12_hasTune_2 (Fu : Nat) (I : mIT) (k2_ : Int32 × Int32 → Option (Int32)) (v1 : Int32) (v2 : Int32) : Option (Int32) :=
  if (I 75 4) ≤ v2 then (some (1 : Int32)) else (oG (inB v2 8) (if ((v1 >>> ((I 78 (v2).toNatClampNeg) &&& 31)) &&& (1 : Int32)) = 0 then (some (0 : Int32)) else (k2_ (v1, (v2 + (1 : Int32))))))
set_option maxRecDepth 20000 in
theorem bo_X12_hasTune_2 {X : mXT} {E : mEn} {Fu : Nat} {I : mIT} {R : mRT} {L : mLT}  (hC : mC X E mX12_hasTune RX12 cX12_hasTune) (hW : mWd R)   {out : Int32} (hE : mEd X E 0 0 (mSame (some (.int (out))) 106 1 I R L)) (k2_ : Int32 × Int32 → Option (Int32)) (hk2_ : ∀ (v1 : Int32) (v2 : Int32),  k2_ (v1, v2) = some out → mG X E 2 [(0, .ref (mB E + 75)), (1, .int v1), (2, .int v2)] [] 106 1 I R L 0 0) (v1 : Int32) (v2 : Int32) (h : b_X12_hasTune_2 Fu I k2_ v1 v2 = some out) : mG X E 2 [(0, .ref (mB E + 75)), (1, .int v1), (2, .int v2)] [] 106 1 I R L 0 0 := by
  unfold b_X12_hasTune_2 at h
  refine g_iload_n hC dX12_hasTune_2 rfl (q := 2) rfl ?_
  refine g_aload_n hC dX12_hasTune_3 rfl (q := 0) rfl ?_
  refine g_geti hC fd_RX12_295 rfl (by decide) (Or.inl rfl) dX12_hasTune_4 ?_
  refine g_ic_ge hC dX12_hasTune_7 (tgt := 31) (by decide) (fun c7 => ?_) (fun c7 => ?_)
  · replace h := (if_pos c7).symm.trans h
    refine g_iconst hC dX12_hasTune_31 (v := (1 : Int32)) (by decide) ?_
    cases h
    exact g_zret hC (by decide) hE rfl dX12_hasTune_32 (Nat.zero_le _) (Nat.zero_le _) ⟨rfl, rfl, rfl, rfl, rfl, rfl⟩
  · replace h := (if_neg c7).symm.trans h
    refine g_iload_n hC dX12_hasTune_10 rfl (q := 1) rfl ?_
    refine g_aload_n hC dX12_hasTune_11 rfl (q := 0) rfl ?_
    refine g_getr hC fd_RX12_26 rfl (by decide) (C0 := "") (t0 := _) (Or.inr rfl) (rr_75_10 hW.1) dX12_hasTune_12 ?_
    refine g_iload_n hC dX12_hasTune_15 rfl (q := 2) rfl ?_
    obtain ⟨g16, h⟩ := oG_some h
    refine g_iald hC rfl (by decide) (inB_in g16) dX12_hasTune_16 ?_
    refine g_ishr hC dX12_hasTune_17 ?_
    refine g_iconst hC dX12_hasTune_18 (v := (1 : Int32)) (by decide) ?_
    refine g_iand hC dX12_hasTune_19 ?_
    refine g_if_ne hC dX12_hasTune_20 (tgt := 25) (by decide) (fun c20 => ?_) (fun c20 => ?_)
    · replace h := (if_neg c20).symm.trans h
      refine g_iinc hC dX12_hasTune_25 rfl (q := 2) rfl (w := (v2 + (1 : Int32))) rfl (by decide) (lv' := [(2, .int (v2 + (1 : Int32))), (0, .ref (mB E + 75)), (1, .int v1)]) rfl ?_
      refine g_goto hC dX12_hasTune_28 (tgt := 2) (by decide) ?_
      refine g_lv [1, 2, 0] rfl ?_
      exact hk2_ v1 (v2 + (1 : Int32)) h
    · replace h := (if_pos c20).symm.trans h
      refine g_iconst hC dX12_hasTune_23 (v := (0 : Int32)) (by decide) ?_
      cases h
      exact g_zret hC (by decide) hE rfl dX12_hasTune_24 (Nat.zero_le _) (Nat.zero_le _) ⟨rfl, rfl, rfl, rfl, rfl, rfl⟩
noncomputable def w_X12_hasTune_2 (Fu : Nat) (I : mIT)  (N : Nat) (v1 : Int32) (v2 : Int32) : Option (Int32) :=
  loopF (fun self (s : Int32 × Int32) => b_X12_hasTune_2 Fu I self s.1 s.2) N (v1, v2)
theorem wo_X12_hasTune_2 {X : mXT} {E : mEn} {Fu : Nat} {I : mIT} {R : mRT} {L : mLT}  (hC : mC X E mX12_hasTune RX12 cX12_hasTune) (hW : mWd R)   {out : Int32} (hE : mEd X E 0 0 (mSame (some (.int (out))) 106 1 I R L))  (N : Nat) (v1 : Int32) (v2 : Int32) (h : w_X12_hasTune_2 Fu I  N v1 v2 = some out) : mG X E 2 [(0, .ref (mB E + 75)), (1, .int v1), (2, .int v2)] [] 106 1 I R L 0 0 :=
  loopF_ok (Gd := fun s : Int32 × Int32 => mG X E 2 [(0, .ref (mB E + 75)), (1, .int s.1), (2, .int s.2)] [] 106 1 I R L 0 0) (fun self hs s h => bo_X12_hasTune_2 hC hW hE self (fun v1 v2 h => hs (v1, v2) h) s.1 s.2 h) N (v1, v2) h
noncomputable def f_X12_hasTune (Fu : Nat) (I : mIT) (v1 : Int32) : Option (Int32) :=
  w_X12_hasTune_2 Fu I Fu v1 (0 : Int32)
set_option maxRecDepth 20000 in
theorem ok_X12_hasTune {l : Launch} {E : mEn} {Fu : Nat} {I : mIT} {R : mRT} {L : mLT} {v1 : Int32} (hst : l.stackTraces = false) (hW : mWd R)  {out : Int32} (h : f_X12_hasTune Fu I v1 = some out) : mOk l E mX12_hasTune [.ref (mB E + 75), .int v1] 106 1 I R L 0 0 (mSame (some (.int (out))) 106 1 I R L) := by
  refine mOk_of hst (by decide) (Nat.le_of_ble_eq_true rfl) (fun X hC hE _ => ?_)
  have hC : mC X E mX12_hasTune RX12 cX12_hasTune := hC
  show mG X E 0 [(0, .ref (mB E + 75)), (1, .int v1)] [] 106 1 I R L 0 0
  unfold f_X12_hasTune at h
  refine g_iconst hC dX12_hasTune_0 (v := (0 : Int32)) (by decide) ?_
  refine g_istore_n hC dX12_hasTune_1 rfl rfl (by decide) (lv' := [(2, .int (0 : Int32)), (0, .ref (mB E + 75)), (1, .int v1)]) rfl ?_
  refine g_lv [1, 2, 0] rfl ?_
  exact wo_X12_hasTune_2 hC hW hE Fu (v1) ((0 : Int32)) h
noncomputable def b_X12_earliest_21 (Fu : Nat) (k11_ : Int32 × mIT → Option (Int32 × mIT)) (k21_ : Int32 × Int32 × Int32 × mIT → Option (Int32 × mIT)) (v1 : Int32) (v2 : Int32) (v3 : Int32) (I : mIT) : Option (Int32 × mIT) :=
  if (I 75 1) ≤ v3 then (oB (f_X12_hasTune Fu I v2) (fun r83 => if r83 = 0 then (oB (f_X12_dayGoes Fu I (53 : Int32)) (fun r94 => k11_ ((v1 + (1 : Int32)), r94))) else (some (v1, I)))) else (oG (inB ((84 : Int32) + v3) 106) (if (I 89 (((84 : Int32) + v3)).toNatClampNeg) = (-2 : Int32) then (k21_ (v1, (v2 ||| (0 : Int32)), (v3 + (1 : Int32)), I)) else (oG (inB ((74 : Int32) + v3) 106) (if (I 75 3) ≤ (I 89 (((74 : Int32) + v3)).toNatClampNeg) then (k21_ (v1, (v2 ||| (0 : Int32)), (v3 + (1 : Int32)), I)) else (oB (f_X12_noteOf Fu I (53 : Int32) v3) (fun r65 => k21_ (v1, (v2 ||| ((1 : Int32) <<< (r65.1 &&& 31))), (v3 + (1 : Int32)), r65.2)))))))
set_option maxRecDepth 20000 in
theorem bo_X12_earliest_21 {X : mXT} {E : mEn} {Fu : Nat} {R : mRT} {L : mLT}  (hC : mC X E mX12_earliest RX12 cX12_earliest) (hW : mWd R)   {out : Int32 × mIT} (hE : mEd X E 0 0 (mSame (some (.int (out.1))) 106 1 (out.2) R L)) (k11_ : Int32 × mIT → Option (Int32 × mIT)) (hk11_ : ∀ (v1 : Int32) (I : mIT),  k11_ (v1, I) = some out → mG X E 11 [(0, .ref (mB E + 75)), (1, .int v1)] [] 106 1 I R L 0 0) (k21_ : Int32 × Int32 × Int32 × mIT → Option (Int32 × mIT)) (hk21_ : ∀ (v1 : Int32) (v2 : Int32) (v3 : Int32) (I : mIT),  k21_ (v1, v2, v3, I) = some out → mG X E 21 [(0, .ref (mB E + 75)), (1, .int v1), (2, .int v2), (3, .int v3)] [] 106 1 I R L 0 0) (v1 : Int32) (v2 : Int32) (v3 : Int32) (I : mIT) (h : b_X12_earliest_21 Fu k11_ k21_ v1 v2 v3 I = some out) : mG X E 21 [(0, .ref (mB E + 75)), (1, .int v1), (2, .int v2), (3, .int v3)] [] 106 1 I R L 0 0 := by
  unfold b_X12_earliest_21 at h
  refine g_iload_n hC dX12_earliest_21 rfl (q := 3) rfl ?_
  refine g_aload_n hC dX12_earliest_22 rfl (q := 0) rfl ?_
  refine g_geti hC fd_RX12_289 rfl (by decide) (Or.inl rfl) dX12_earliest_23 ?_
  refine g_ic_ge hC dX12_earliest_26 (tgt := 81) (by decide) (fun c26 => ?_) (fun c26 => ?_)
  · replace h := (if_pos c26).symm.trans h
    refine g_aload_n hC dX12_earliest_81 rfl (q := 0) rfl ?_
    refine g_iload_n hC dX12_earliest_82 rfl (q := 2) rfl ?_
    obtain ⟨r83, h83, h⟩ := oB_some h
    refine g_cV1 hC cv_X12_hasTune wd_2126 ⟨Nat.le_of_ble_eq_true rfl, Nat.le_of_ble_eq_true rfl⟩ rfl (by decide) dX12_earliest_83 (As := [.int v2]) (st := []) (ok_X12_hasTune hC.2.2.2.2.2.2.2.1 hW h83) rfl rfl (Nat.le_of_ble_eq_true rfl) ⟨Nat.zero_le _, Nat.zero_le _⟩ ?_
    refine g_if_eq hC dX12_earliest_86 (tgt := 91) (by decide) (fun c86 => ?_) (fun c86 => ?_)
    · replace h := (if_pos c86).symm.trans h
      refine g_aload_n hC dX12_earliest_91 rfl (q := 0) rfl ?_
      refine g_bipush hC dX12_earliest_92 (v := (53 : Int32)) (by decide) ?_
      obtain ⟨r94, h94, h⟩ := oB_some h
      refine g_cV0 hC cv_X12_dayGoes wd_2070 ⟨Nat.le_of_ble_eq_true rfl, Nat.le_of_ble_eq_true rfl⟩ rfl (by decide) dX12_earliest_94 (As := [.int (53 : Int32)]) (st := []) (ok_X12_dayGoes hC.2.2.2.2.2.2.2.1 hW h94) rfl rfl (Nat.le_of_ble_eq_true rfl) ⟨Nat.zero_le _, Nat.zero_le _⟩ ?_
      refine g_iinc hC dX12_earliest_97 rfl (q := 1) rfl (w := (v1 + (1 : Int32))) rfl (by decide) (lv' := [(1, .int (v1 + (1 : Int32))), (0, .ref (mB E + 75)), (2, .int v2), (3, .int v3)]) rfl ?_
      refine g_goto hC dX12_earliest_100 (tgt := 11) (by decide) ?_
      refine g_lv [1, 0] rfl ?_
      exact hk11_ (v1 + (1 : Int32)) r94 h
    · replace h := (if_neg c86).symm.trans h
      refine g_iload_n hC dX12_earliest_89 rfl (q := 1) rfl ?_
      cases h
      exact g_iret hC hE rfl dX12_earliest_90 (Nat.zero_le _) (Nat.zero_le _) ⟨rfl, rfl, rfl, rfl, rfl, rfl⟩
  · replace h := (if_neg c26).symm.trans h
    refine g_iload_n hC dX12_earliest_29 rfl (q := 2) rfl ?_
    refine g_aload_n hC dX12_earliest_30 rfl (q := 0) rfl ?_
    refine g_getr hC fd_RX12_63 rfl (by decide) (C0 := "") (t0 := _) (Or.inr rfl) (rr_75_42 hW.1) dX12_earliest_31 ?_
    refine g_bipush hC dX12_earliest_34 (v := (84 : Int32)) (by decide) ?_
    refine g_iload_n hC dX12_earliest_36 rfl (q := 3) rfl ?_
    refine g_iadd hC dX12_earliest_37 ?_
    obtain ⟨g38, h⟩ := oG_some h
    refine g_iald hC rfl (by decide) (inB_in g38) dX12_earliest_38 ?_
    refine g_bipush hC dX12_earliest_39 (v := (-2 : Int32)) (by decide) ?_
    refine g_ic_eq hC dX12_earliest_41 (tgt := 72) (by decide) (fun c41 => ?_) (fun c41 => ?_)
    · replace h := (if_pos c41).symm.trans h
      refine g_iconst hC dX12_earliest_72 (v := (0 : Int32)) (by decide) ?_
      refine g_ior hC dX12_earliest_73 ?_
      refine g_istore_n hC dX12_earliest_74 rfl rfl (by decide) (lv' := [(2, .int (v2 ||| (0 : Int32))), (0, .ref (mB E + 75)), (1, .int v1), (3, .int v3)]) rfl ?_
      refine g_iinc hC dX12_earliest_75 rfl (q := 3) rfl (w := (v3 + (1 : Int32))) rfl (by decide) (lv' := [(3, .int (v3 + (1 : Int32))), (2, .int (v2 ||| (0 : Int32))), (0, .ref (mB E + 75)), (1, .int v1)]) rfl ?_
      refine g_goto hC dX12_earliest_78 (tgt := 21) (by decide) ?_
      refine g_lv [2, 3, 1, 0] rfl ?_
      exact hk21_ v1 (v2 ||| (0 : Int32)) (v3 + (1 : Int32)) I h
    · replace h := (if_neg c41).symm.trans h
      refine g_aload_n hC dX12_earliest_44 rfl (q := 0) rfl ?_
      refine g_getr hC fd_RX12_63 rfl (by decide) (C0 := "") (t0 := _) (Or.inr rfl) (rr_75_42 hW.1) dX12_earliest_45 ?_
      refine g_bipush hC dX12_earliest_48 (v := (74 : Int32)) (by decide) ?_
      refine g_iload_n hC dX12_earliest_50 rfl (q := 3) rfl ?_
      refine g_iadd hC dX12_earliest_51 ?_
      obtain ⟨g52, h⟩ := oG_some h
      refine g_iald hC rfl (by decide) (inB_in g52) dX12_earliest_52 ?_
      refine g_aload_n hC dX12_earliest_53 rfl (q := 0) rfl ?_
      refine g_geti hC fd_RX12_7 rfl (by decide) (Or.inl rfl) dX12_earliest_54 ?_
      refine g_ic_ge hC dX12_earliest_57 (tgt := 72) (by decide) (fun c57 => ?_) (fun c57 => ?_)
      · replace h := (if_pos c57).symm.trans h
        refine g_iconst hC dX12_earliest_72 (v := (0 : Int32)) (by decide) ?_
        refine g_ior hC dX12_earliest_73 ?_
        refine g_istore_n hC dX12_earliest_74 rfl rfl (by decide) (lv' := [(2, .int (v2 ||| (0 : Int32))), (0, .ref (mB E + 75)), (1, .int v1), (3, .int v3)]) rfl ?_
        refine g_iinc hC dX12_earliest_75 rfl (q := 3) rfl (w := (v3 + (1 : Int32))) rfl (by decide) (lv' := [(3, .int (v3 + (1 : Int32))), (2, .int (v2 ||| (0 : Int32))), (0, .ref (mB E + 75)), (1, .int v1)]) rfl ?_
        refine g_goto hC dX12_earliest_78 (tgt := 21) (by decide) ?_
        refine g_lv [2, 3, 1, 0] rfl ?_
        exact hk21_ v1 (v2 ||| (0 : Int32)) (v3 + (1 : Int32)) I h
      · replace h := (if_neg c57).symm.trans h
        refine g_iconst hC dX12_earliest_60 (v := (1 : Int32)) (by decide) ?_
        refine g_aload_n hC dX12_earliest_61 rfl (q := 0) rfl ?_
        refine g_bipush hC dX12_earliest_62 (v := (53 : Int32)) (by decide) ?_
        refine g_iload_n hC dX12_earliest_64 rfl (q := 3) rfl ?_
        obtain ⟨r65, h65, h⟩ := oB_some h
        refine g_cV1 hC cv_X12_noteOf wd_2012 ⟨Nat.le_of_ble_eq_true rfl, Nat.le_of_ble_eq_true rfl⟩ rfl (by decide) dX12_earliest_65 (As := [.int (53 : Int32), .int v3]) (st := [.int (1 : Int32), .int v2]) (ok_X12_noteOf hC.2.2.2.2.2.2.2.1 hW h65) rfl rfl (Nat.le_of_ble_eq_true rfl) ⟨Nat.zero_le _, Nat.zero_le _⟩ ?_
        refine g_ishl hC dX12_earliest_68 ?_
        refine g_goto hC dX12_earliest_69 (tgt := 73) (by decide) ?_
        refine g_ior hC dX12_earliest_73 ?_
        refine g_istore_n hC dX12_earliest_74 rfl rfl (by decide) (lv' := [(2, .int (v2 ||| ((1 : Int32) <<< (r65.1 &&& 31)))), (0, .ref (mB E + 75)), (1, .int v1), (3, .int v3)]) rfl ?_
        refine g_iinc hC dX12_earliest_75 rfl (q := 3) rfl (w := (v3 + (1 : Int32))) rfl (by decide) (lv' := [(3, .int (v3 + (1 : Int32))), (2, .int (v2 ||| ((1 : Int32) <<< (r65.1 &&& 31)))), (0, .ref (mB E + 75)), (1, .int v1)]) rfl ?_
        refine g_goto hC dX12_earliest_78 (tgt := 21) (by decide) ?_
        refine g_lv [2, 3, 1, 0] rfl ?_
        exact hk21_ v1 (v2 ||| ((1 : Int32) <<< (r65.1 &&& 31))) (v3 + (1 : Int32)) r65.2 h
noncomputable def w_X12_earliest_21 (Fu : Nat) (k11_ : Int32 × mIT → Option (Int32 × mIT)) (N : Nat) (v1 : Int32) (v2 : Int32) (v3 : Int32) (I : mIT) : Option (Int32 × mIT) :=
  loopF (fun self (s : Int32 × Int32 × Int32 × mIT) => b_X12_earliest_21 Fu k11_ self s.1 s.2.1 s.2.2.1 s.2.2.2) N (v1, v2, v3, I)
theorem wo_X12_earliest_21 {X : mXT} {E : mEn} {Fu : Nat} {R : mRT} {L : mLT}  (hC : mC X E mX12_earliest RX12 cX12_earliest) (hW : mWd R)   {out : Int32 × mIT} (hE : mEd X E 0 0 (mSame (some (.int (out.1))) 106 1 (out.2) R L)) (k11_ : Int32 × mIT → Option (Int32 × mIT)) (hk11_ : ∀ (v1 : Int32) (I : mIT),  k11_ (v1, I) = some out → mG X E 11 [(0, .ref (mB E + 75)), (1, .int v1)] [] 106 1 I R L 0 0) (N : Nat) (v1 : Int32) (v2 : Int32) (v3 : Int32) (I : mIT) (h : w_X12_earliest_21 Fu k11_ N v1 v2 v3 I = some out) : mG X E 21 [(0, .ref (mB E + 75)), (1, .int v1), (2, .int v2), (3, .int v3)] [] 106 1 I R L 0 0 :=
  loopF_ok (Gd := fun s : Int32 × Int32 × Int32 × mIT => mG X E 21 [(0, .ref (mB E + 75)), (1, .int s.1), (2, .int s.2.1), (3, .int s.2.2.1)] [] 106 1 s.2.2.2 R L 0 0) (fun self hs s h => bo_X12_earliest_21 hC hW hE k11_ hk11_ self (fun v1 v2 v3 I h => hs (v1, v2, v3, I) h) s.1 s.2.1 s.2.2.1 s.2.2.2 h) N (v1, v2, v3, I) h
noncomputable def b_X12_earliest_11 (Fu : Nat) (k11_ : Int32 × mIT → Option (Int32 × mIT)) (v1 : Int32) (I : mIT) : Option (Int32 × mIT) :=
  if (60 : Int32) < v1 then (some ((-1 : Int32), I)) else (w_X12_earliest_21 Fu k11_ Fu v1 (0 : Int32) (0 : Int32) I)
set_option maxRecDepth 20000 in
theorem bo_X12_earliest_11 {X : mXT} {E : mEn} {Fu : Nat} {R : mRT} {L : mLT}  (hC : mC X E mX12_earliest RX12 cX12_earliest) (hW : mWd R)   {out : Int32 × mIT} (hE : mEd X E 0 0 (mSame (some (.int (out.1))) 106 1 (out.2) R L)) (k11_ : Int32 × mIT → Option (Int32 × mIT)) (hk11_ : ∀ (v1 : Int32) (I : mIT),  k11_ (v1, I) = some out → mG X E 11 [(0, .ref (mB E + 75)), (1, .int v1)] [] 106 1 I R L 0 0) (v1 : Int32) (I : mIT) (h : b_X12_earliest_11 Fu k11_ v1 I = some out) : mG X E 11 [(0, .ref (mB E + 75)), (1, .int v1)] [] 106 1 I R L 0 0 := by
  unfold b_X12_earliest_11 at h
  refine g_iload_n hC dX12_earliest_11 rfl (q := 1) rfl ?_
  refine g_bipush hC dX12_earliest_12 (v := (60 : Int32)) (by decide) ?_
  refine g_ic_gt hC dX12_earliest_14 (tgt := 103) (by decide) (fun c14 => ?_) (fun c14 => ?_)
  · replace h := (if_pos c14).symm.trans h
    refine g_iconst hC dX12_earliest_103 (v := (-1 : Int32)) (by decide) ?_
    cases h
    exact g_iret hC hE rfl dX12_earliest_104 (Nat.zero_le _) (Nat.zero_le _) ⟨rfl, rfl, rfl, rfl, rfl, rfl⟩
  · replace h := (if_neg c14).symm.trans h
    refine g_iconst hC dX12_earliest_17 (v := (0 : Int32)) (by decide) ?_
    refine g_istore_n hC dX12_earliest_18 rfl rfl (by decide) (lv' := [(2, .int (0 : Int32)), (0, .ref (mB E + 75)), (1, .int v1)]) rfl ?_
    refine g_iconst hC dX12_earliest_19 (v := (0 : Int32)) (by decide) ?_
    refine g_istore_n hC dX12_earliest_20 rfl rfl (by decide) (lv' := [(3, .int (0 : Int32)), (2, .int (0 : Int32)), (0, .ref (mB E + 75)), (1, .int v1)]) rfl ?_
    refine g_lv [2, 3, 1, 0] rfl ?_
    exact wo_X12_earliest_21 hC hW hE k11_ hk11_ Fu (v1) ((0 : Int32)) ((0 : Int32)) (I) h
noncomputable def w_X12_earliest_11 (Fu : Nat)  (N : Nat) (v1 : Int32) (I : mIT) : Option (Int32 × mIT) :=
  loopF (fun self (s : Int32 × mIT) => b_X12_earliest_11 Fu self s.1 s.2) N (v1, I)
theorem wo_X12_earliest_11 {X : mXT} {E : mEn} {Fu : Nat} {R : mRT} {L : mLT}  (hC : mC X E mX12_earliest RX12 cX12_earliest) (hW : mWd R)   {out : Int32 × mIT} (hE : mEd X E 0 0 (mSame (some (.int (out.1))) 106 1 (out.2) R L))  (N : Nat) (v1 : Int32) (I : mIT) (h : w_X12_earliest_11 Fu  N v1 I = some out) : mG X E 11 [(0, .ref (mB E + 75)), (1, .int v1)] [] 106 1 I R L 0 0 :=
  loopF_ok (Gd := fun s : Int32 × mIT => mG X E 11 [(0, .ref (mB E + 75)), (1, .int s.1)] [] 106 1 s.2 R L 0 0) (fun self hs s h => bo_X12_earliest_11 hC hW hE self (fun v1 I h => hs (v1, I) h) s.1 s.2 h) N (v1, I) h
noncomputable def f_X12_earliest (Fu : Nat) (I : mIT)  : Option (Int32 × mIT) :=
  oB (f_X12_tries Fu (mU I 75 0 (0 : Int32))) (fun r6 => w_X12_earliest_11 Fu Fu (0 : Int32) r6)
set_option maxRecDepth 20000 in
theorem ok_X12_earliest {l : Launch} {E : mEn} {Fu : Nat} {I : mIT} {R : mRT} {L : mLT}  (hst : l.stackTraces = false) (hW : mWd R)  {out : Int32 × mIT} (h : f_X12_earliest Fu I  = some out) : mOk l E mX12_earliest [.ref (mB E + 75)] 106 1 I R L 0 0 (mSame (some (.int (out.1))) 106 1 (out.2) R L) := by
  refine mOk_of hst (by decide) (Nat.le_of_ble_eq_true rfl) (fun X hC hE _ => ?_)
  have hC : mC X E mX12_earliest RX12 cX12_earliest := hC
  show mG X E 0 [(0, .ref (mB E + 75))] [] 106 1 I R L 0 0
  unfold f_X12_earliest at h
  refine g_aload_n hC dX12_earliest_0 rfl (q := 0) rfl ?_
  refine g_iconst hC dX12_earliest_1 (v := (0 : Int32)) (by decide) ?_
  refine g_puti hC fd_RX12_114 rfl (by decide) rfl dX12_earliest_2 (nm_e ?_)
  refine g_aload_n hC dX12_earliest_5 rfl (q := 0) rfl ?_
  obtain ⟨r6, h6, h⟩ := oB_some h
  refine g_cV0 hC cv_X12_tries wd_2110 ⟨Nat.le_of_ble_eq_true rfl, Nat.le_of_ble_eq_true rfl⟩ rfl (by decide) dX12_earliest_6 (As := []) (st := []) (ok_X12_tries hC.2.2.2.2.2.2.2.1 hW h6) rfl rfl (Nat.le_of_ble_eq_true rfl) ⟨Nat.zero_le _, Nat.zero_le _⟩ ?_
  refine g_iconst hC dX12_earliest_9 (v := (0 : Int32)) (by decide) ?_
  refine g_istore_n hC dX12_earliest_10 rfl rfl (by decide) (lv' := [(1, .int (0 : Int32)), (0, .ref (mB E + 75))]) rfl ?_
  refine g_lv [1, 0] rfl ?_
  exact wo_X12_earliest_11 hC hW hE Fu ((0 : Int32)) (r6) h
noncomputable def f_X12_isRoot (Fu : Nat) (I : mIT) (v1 : Int32) : Option (Int32 × mIT) :=
  if v1 < 0 then (oB (f_X12_right Fu I (0 : Int32) (1 : Int32)) (fun r19 => oG (isB r19.1) (some (r19.1, r19.2)))) else (if (I 75 1) ≤ v1 then (oB (f_X12_right Fu I (0 : Int32) (1 : Int32)) (fun r19 => oG (isB r19.1) (some (r19.1, r19.2)))) else (oB (f_X12_right Fu I (1 : Int32) (1 : Int32)) (fun r19 => oG (isB r19.1) (some (r19.1, r19.2)))))
set_option maxRecDepth 20000 in
theorem ok_X12_isRoot {l : Launch} {E : mEn} {Fu : Nat} {I : mIT} {R : mRT} {L : mLT} {v1 : Int32} (hst : l.stackTraces = false) (hW : mWd R)  {out : Int32 × mIT} (h : f_X12_isRoot Fu I v1 = some out) : mOk l E mX12_isRoot [.ref (mB E + 75), .int v1] 106 1 I R L 0 0 (mSame (some (.int (out.1))) 106 1 (out.2) R L) := by
  refine mOk_of hst (by decide) (Nat.le_of_ble_eq_true rfl) (fun X hC hE _ => ?_)
  have hC : mC X E mX12_isRoot RX12 cX12_isRoot := hC
  show mG X E 0 [(0, .ref (mB E + 75)), (1, .int v1)] [] 106 1 I R L 0 0
  unfold f_X12_isRoot at h
  refine g_aload_n hC dX12_isRoot_0 rfl (q := 0) rfl ?_
  refine g_iload_n hC dX12_isRoot_1 rfl (q := 1) rfl ?_
  refine g_if_lt hC dX12_isRoot_2 (tgt := 17) (by decide) (fun c2 => ?_) (fun c2 => ?_)
  · replace h := (if_pos c2).symm.trans h
    refine g_iconst hC dX12_isRoot_17 (v := (0 : Int32)) (by decide) ?_
    refine g_iconst hC dX12_isRoot_18 (v := (1 : Int32)) (by decide) ?_
    obtain ⟨r19, h19, h⟩ := oB_some h
    refine g_cV1 hC cv_X12_right wd_1851 ⟨Nat.le_of_ble_eq_true rfl, Nat.le_of_ble_eq_true rfl⟩ rfl (by decide) dX12_isRoot_19 (As := [.int (0 : Int32), .int (1 : Int32)]) (st := []) (ok_X12_right hC.2.2.2.2.2.2.2.1 hW h19) rfl rfl (Nat.le_of_ble_eq_true rfl) ⟨Nat.zero_le _, Nat.zero_le _⟩ ?_
    obtain ⟨g22, h⟩ := oG_some h
    cases h
    exact g_zret hC (isB_or g22) hE rfl dX12_isRoot_22 (Nat.zero_le _) (Nat.zero_le _) ⟨rfl, rfl, rfl, rfl, rfl, rfl⟩
  · replace h := (if_neg c2).symm.trans h
    refine g_iload_n hC dX12_isRoot_5 rfl (q := 1) rfl ?_
    refine g_aload_n hC dX12_isRoot_6 rfl (q := 0) rfl ?_
    refine g_geti hC fd_RX12_289 rfl (by decide) (Or.inl rfl) dX12_isRoot_7 ?_
    refine g_ic_ge hC dX12_isRoot_10 (tgt := 17) (by decide) (fun c10 => ?_) (fun c10 => ?_)
    · replace h := (if_pos c10).symm.trans h
      refine g_iconst hC dX12_isRoot_17 (v := (0 : Int32)) (by decide) ?_
      refine g_iconst hC dX12_isRoot_18 (v := (1 : Int32)) (by decide) ?_
      obtain ⟨r19, h19, h⟩ := oB_some h
      refine g_cV1 hC cv_X12_right wd_1851 ⟨Nat.le_of_ble_eq_true rfl, Nat.le_of_ble_eq_true rfl⟩ rfl (by decide) dX12_isRoot_19 (As := [.int (0 : Int32), .int (1 : Int32)]) (st := []) (ok_X12_right hC.2.2.2.2.2.2.2.1 hW h19) rfl rfl (Nat.le_of_ble_eq_true rfl) ⟨Nat.zero_le _, Nat.zero_le _⟩ ?_
      obtain ⟨g22, h⟩ := oG_some h
      cases h
      exact g_zret hC (isB_or g22) hE rfl dX12_isRoot_22 (Nat.zero_le _) (Nat.zero_le _) ⟨rfl, rfl, rfl, rfl, rfl, rfl⟩
    · replace h := (if_neg c10).symm.trans h
      refine g_iconst hC dX12_isRoot_13 (v := (1 : Int32)) (by decide) ?_
      refine g_goto hC dX12_isRoot_14 (tgt := 18) (by decide) ?_
      refine g_iconst hC dX12_isRoot_18 (v := (1 : Int32)) (by decide) ?_
      obtain ⟨r19, h19, h⟩ := oB_some h
      refine g_cV1 hC cv_X12_right wd_1851 ⟨Nat.le_of_ble_eq_true rfl, Nat.le_of_ble_eq_true rfl⟩ rfl (by decide) dX12_isRoot_19 (As := [.int (1 : Int32), .int (1 : Int32)]) (st := []) (ok_X12_right hC.2.2.2.2.2.2.2.1 hW h19) rfl rfl (Nat.le_of_ble_eq_true rfl) ⟨Nat.zero_le _, Nat.zero_le _⟩ ?_
      obtain ⟨g22, h⟩ := oG_some h
      cases h
      exact g_zret hC (isB_or g22) hE rfl dX12_isRoot_22 (Nat.zero_le _) (Nat.zero_le _) ⟨rfl, rfl, rfl, rfl, rfl, rfl⟩
noncomputable def f_X12_eat (Fu : Nat) (I : mIT) (v1 : Int32) : Option (Int32 × mIT) :=
  oB (f_X12_isRoot Fu (mU I 75 0 (0 : Int32)) v1) (fun r7 => if r7.1 = 0 then (some ((0 : Int32), r7.2)) else (oG (inB ((31 : Int32) + v1) 106) (if (r7.2 89 (((31 : Int32) + v1)).toNatClampNeg) = (-2 : Int32) then (oB (f_X12_refuses Fu r7.2 (1 : Int32)) (fun r31 => if r31.1 ≤ 0 then (some ((0 : Int32), r31.2)) else (some ((1 : Int32), r31.2)))) else (oB (f_X12_keeps Fu r7.2) (fun r44 => oG (inB ((31 : Int32) + v1) 106) (some ((1 : Int32), (mU r44 89 (((31 : Int32) + v1)).toNatClampNeg (-2 : Int32)))))))))
set_option maxRecDepth 20000 in
theorem ok_X12_eat {l : Launch} {E : mEn} {Fu : Nat} {I : mIT} {R : mRT} {L : mLT} {v1 : Int32} (hst : l.stackTraces = false) (hW : mWd R)  {out : Int32 × mIT} (h : f_X12_eat Fu I v1 = some out) : mOk l E mX12_eat [.ref (mB E + 75), .int v1] 106 1 I R L 0 0 (mSame (some (.int (out.1))) 106 1 (out.2) R L) := by
  refine mOk_of hst (by decide) (Nat.le_of_ble_eq_true rfl) (fun X hC hE _ => ?_)
  have hC : mC X E mX12_eat RX12 cX12_eat := hC
  show mG X E 0 [(0, .ref (mB E + 75)), (1, .int v1)] [] 106 1 I R L 0 0
  unfold f_X12_eat at h
  refine g_aload_n hC dX12_eat_0 rfl (q := 0) rfl ?_
  refine g_iconst hC dX12_eat_1 (v := (0 : Int32)) (by decide) ?_
  refine g_puti hC fd_RX12_114 rfl (by decide) rfl dX12_eat_2 (nm_e ?_)
  refine g_aload_n hC dX12_eat_5 rfl (q := 0) rfl ?_
  refine g_iload_n hC dX12_eat_6 rfl (q := 1) rfl ?_
  obtain ⟨r7, h7, h⟩ := oB_some h
  refine g_cV1 hC cv_X12_isRoot wd_2034 ⟨Nat.le_of_ble_eq_true rfl, Nat.le_of_ble_eq_true rfl⟩ rfl (by decide) dX12_eat_7 (As := [.int v1]) (st := []) (ok_X12_isRoot hC.2.2.2.2.2.2.2.1 hW h7) rfl rfl (Nat.le_of_ble_eq_true rfl) ⟨Nat.zero_le _, Nat.zero_le _⟩ ?_
  refine g_if_ne hC dX12_eat_10 (tgt := 15) (by decide) (fun c10 => ?_) (fun c10 => ?_)
  · replace h := (if_neg c10).symm.trans h
    refine g_aload_n hC dX12_eat_15 rfl (q := 0) rfl ?_
    refine g_getr hC fd_RX12_63 rfl (by decide) (C0 := "") (t0 := _) (Or.inr rfl) (rr_75_42 hW.1) dX12_eat_16 ?_
    refine g_bipush hC dX12_eat_19 (v := (31 : Int32)) (by decide) ?_
    refine g_iload_n hC dX12_eat_21 rfl (q := 1) rfl ?_
    refine g_iadd hC dX12_eat_22 ?_
    obtain ⟨g23, h⟩ := oG_some h
    refine g_iald hC rfl (by decide) (inB_in g23) dX12_eat_23 ?_
    refine g_bipush hC dX12_eat_24 (v := (-2 : Int32)) (by decide) ?_
    refine g_ic_ne hC dX12_eat_26 (tgt := 43) (by decide) (fun c26 => ?_) (fun c26 => ?_)
    · replace h := (if_neg c26).symm.trans h
      refine g_aload_n hC dX12_eat_43 rfl (q := 0) rfl ?_
      obtain ⟨r44, h44, h⟩ := oB_some h
      refine g_cV0 hC cv_X12_keeps wd_2066 ⟨Nat.le_of_ble_eq_true rfl, Nat.le_of_ble_eq_true rfl⟩ rfl (by decide) dX12_eat_44 (As := []) (st := []) (ok_X12_keeps hC.2.2.2.2.2.2.2.1 hW h44) rfl rfl (Nat.le_of_ble_eq_true rfl) ⟨Nat.zero_le _, Nat.zero_le _⟩ ?_
      refine g_aload_n hC dX12_eat_47 rfl (q := 0) rfl ?_
      refine g_getr hC fd_RX12_63 rfl (by decide) (C0 := "") (t0 := _) (Or.inr rfl) (rr_75_42 hW.1) dX12_eat_48 ?_
      refine g_bipush hC dX12_eat_51 (v := (31 : Int32)) (by decide) ?_
      refine g_iload_n hC dX12_eat_53 rfl (q := 1) rfl ?_
      refine g_iadd hC dX12_eat_54 ?_
      refine g_bipush hC dX12_eat_55 (v := (-2 : Int32)) (by decide) ?_
      obtain ⟨g57, h⟩ := oG_some h
      refine g_iast hC rfl (by decide) (inB_in g57) dX12_eat_57 (nm_e ?_)
      refine g_iconst hC dX12_eat_58 (v := (1 : Int32)) (by decide) ?_
      cases h
      exact g_zret hC (by decide) hE rfl dX12_eat_59 (Nat.zero_le _) (Nat.zero_le _) ⟨rfl, rfl, rfl, rfl, rfl, rfl⟩
    · replace h := (if_pos c26).symm.trans h
      refine g_aload_n hC dX12_eat_29 rfl (q := 0) rfl ?_
      refine g_iconst hC dX12_eat_30 (v := (1 : Int32)) (by decide) ?_
      obtain ⟨r31, h31, h⟩ := oB_some h
      refine g_cV1 hC cv_X12_refuses wd_2062 ⟨Nat.le_of_ble_eq_true rfl, Nat.le_of_ble_eq_true rfl⟩ rfl (by decide) dX12_eat_31 (As := [.int (1 : Int32)]) (st := []) (ok_X12_refuses hC.2.2.2.2.2.2.2.1 hW h31) rfl rfl (Nat.le_of_ble_eq_true rfl) ⟨Nat.zero_le _, Nat.zero_le _⟩ ?_
      refine g_if_le hC dX12_eat_34 (tgt := 41) (by decide) (fun c34 => ?_) (fun c34 => ?_)
      · replace h := (if_pos c34).symm.trans h
        refine g_iconst hC dX12_eat_41 (v := (0 : Int32)) (by decide) ?_
        cases h
        exact g_zret hC (by decide) hE rfl dX12_eat_42 (Nat.zero_le _) (Nat.zero_le _) ⟨rfl, rfl, rfl, rfl, rfl, rfl⟩
      · replace h := (if_neg c34).symm.trans h
        refine g_iconst hC dX12_eat_37 (v := (1 : Int32)) (by decide) ?_
        refine g_goto hC dX12_eat_38 (tgt := 42) (by decide) ?_
        cases h
        exact g_zret hC (by decide) hE rfl dX12_eat_42 (Nat.zero_le _) (Nat.zero_le _) ⟨rfl, rfl, rfl, rfl, rfl, rfl⟩
  · replace h := (if_pos c10).symm.trans h
    refine g_iconst hC dX12_eat_13 (v := (0 : Int32)) (by decide) ?_
    cases h
    exact g_zret hC (by decide) hE rfl dX12_eat_14 (Nat.zero_le _) (Nat.zero_le _) ⟨rfl, rfl, rfl, rfl, rfl, rfl⟩
noncomputable def f_X12_isWhat (Fu : Nat) (I : mIT) (v1 : Int32) (v2 : Int32) : Option (Int32 × mIT) :=
  oB (f_X12_within Fu v1 (0 : Int32) v2) (fun r4 => oB (f_X12_right Fu I r4 (1 : Int32)) (fun r8 => oG (isB r8.1) (some (r8.1, r8.2))))
set_option maxRecDepth 20000 in
theorem ok_X12_isWhat {l : Launch} {E : mEn} {Fu : Nat} {I : mIT} {R : mRT} {L : mLT} {v1 : Int32} {v2 : Int32} (hst : l.stackTraces = false) (hW : mWd R)  {out : Int32 × mIT} (h : f_X12_isWhat Fu I v1 v2 = some out) : mOk l E mX12_isWhat [.ref (mB E + 75), .int v1, .int v2] 106 1 I R L 0 0 (mSame (some (.int (out.1))) 106 1 (out.2) R L) := by
  refine mOk_of hst (by decide) (Nat.le_of_ble_eq_true rfl) (fun X hC hE _ => ?_)
  have hC : mC X E mX12_isWhat RX12 cX12_isWhat := hC
  show mG X E 0 [(0, .ref (mB E + 75)), (1, .int v1), (2, .int v2)] [] 106 1 I R L 0 0
  unfold f_X12_isWhat at h
  refine g_aload_n hC dX12_isWhat_0 rfl (q := 0) rfl ?_
  refine g_iload_n hC dX12_isWhat_1 rfl (q := 1) rfl ?_
  refine g_iconst hC dX12_isWhat_2 (v := (0 : Int32)) (by decide) ?_
  refine g_iload_n hC dX12_isWhat_3 rfl (q := 2) rfl ?_
  obtain ⟨r4, h4, h⟩ := oB_some h
  refine g_cS1 hC cs_X12_within wd_1915 ⟨Nat.le_of_ble_eq_true rfl, Nat.le_of_ble_eq_true rfl⟩ dX12_isWhat_4 (As := [.int v1, .int (0 : Int32), .int v2]) (st := [.ref (mB E + 75)]) (ok_X12_within hC.2.2.2.2.2.2.2.1 hW h4) rfl rfl (Nat.le_of_ble_eq_true rfl) ⟨Nat.zero_le _, Nat.zero_le _⟩ ?_
  refine g_iconst hC dX12_isWhat_7 (v := (1 : Int32)) (by decide) ?_
  obtain ⟨r8, h8, h⟩ := oB_some h
  refine g_cV1 hC cv_X12_right wd_1851 ⟨Nat.le_of_ble_eq_true rfl, Nat.le_of_ble_eq_true rfl⟩ rfl (by decide) dX12_isWhat_8 (As := [.int r4, .int (1 : Int32)]) (st := []) (ok_X12_right hC.2.2.2.2.2.2.2.1 hW h8) rfl rfl (Nat.le_of_ble_eq_true rfl) ⟨Nat.zero_le _, Nat.zero_le _⟩ ?_
  obtain ⟨g11, h⟩ := oG_some h
  cases h
  exact g_zret hC (isB_or g11) hE rfl dX12_isWhat_11 (Nat.zero_le _) (Nat.zero_le _) ⟨rfl, rfl, rfl, rfl, rfl, rfl⟩
noncomputable def b_X12_isHeard_59 (Fu : Nat) (k59_ : Int32 × mIT → Option (Int32 × mIT)) (v3 : Int32) (I : mIT) : Option (Int32 × mIT) :=
  if (I 75 55) ≤ v3 then (some ((1 : Int32), I)) else (oG (inB ((3 : Int32) * v3) 24) (oG (inB (I 99 (((3 : Int32) * v3)).toNatClampNeg) 31) (oG (inB (((3 : Int32) * v3) + (1 : Int32)) 24) (oG (inB (((3 : Int32) * v3) + (2 : Int32)) 24) (if (((I 100 ((I 99 (((3 : Int32) * v3)).toNatClampNeg)).toNatClampNeg) >>> ((I 99 ((((3 : Int32) * v3) + (1 : Int32))).toNatClampNeg) &&& 31)) &&& (1 : Int32)) = (I 99 ((((3 : Int32) * v3) + (2 : Int32))).toNatClampNeg) then (k59_ ((v3 + (1 : Int32)), I)) else (some ((0 : Int32), I)))))))
set_option maxRecDepth 20000 in
theorem bo_X12_isHeard_59 {X : mXT} {E : mEn} {Fu : Nat} {R : mRT} {L : mLT}  (hC : mC X E mX12_isHeard RX12 cX12_isHeard) (hW : mWd R)   {out : Int32 × mIT} (hE : mEd X E 0 0 (mSame (some (.int (out.1))) 106 1 (out.2) R L)) (k59_ : Int32 × mIT → Option (Int32 × mIT)) (hk59_ : ∀ (v3 : Int32) (I : mIT),  k59_ (v3, I) = some out → mG X E 59 [(0, .ref (mB E + 75)), (3, .int v3)] [] 106 1 I R L 0 0) (v3 : Int32) (I : mIT) (h : b_X12_isHeard_59 Fu k59_ v3 I = some out) : mG X E 59 [(0, .ref (mB E + 75)), (3, .int v3)] [] 106 1 I R L 0 0 := by
  unfold b_X12_isHeard_59 at h
  refine g_iload_n hC dX12_isHeard_59 rfl (q := 1) rfl ?_
  refine g_aload_n hC dX12_isHeard_60 rfl (q := 0) rfl ?_
  refine g_geti hC fd_RX12_308 rfl (by decide) (Or.inl rfl) dX12_isHeard_61 ?_
  refine g_ic_ge hC dX12_isHeard_64 (tgt := 114) (by decide) (fun c64 => ?_) (fun c64 => ?_)
  · replace h := (if_pos c64).symm.trans h
    refine g_iconst hC dX12_isHeard_114 (v := (1 : Int32)) (by decide) ?_
    cases h
    exact g_zret hC (by decide) hE rfl dX12_isHeard_115 (Nat.zero_le _) (Nat.zero_le _) ⟨rfl, rfl, rfl, rfl, rfl, rfl⟩
  · replace h := (if_neg c64).symm.trans h
    refine g_aload_n hC dX12_isHeard_67 rfl (q := 0) rfl ?_
    refine g_getr hC fd_RX12_99 rfl (by decide) (C0 := "") (t0 := _) (Or.inr rfl) (rr_75_57 hW.1) dX12_isHeard_68 ?_
    refine g_aload_n hC dX12_isHeard_71 rfl (q := 0) rfl ?_
    refine g_getr hC fd_RX12_96 rfl (by decide) (C0 := "") (t0 := _) (Or.inr rfl) (rr_75_56 hW.1) dX12_isHeard_72 ?_
    refine g_iconst hC dX12_isHeard_75 (v := (3 : Int32)) (by decide) ?_
    refine g_iload_n hC dX12_isHeard_76 rfl (q := 1) rfl ?_
    refine g_imul hC dX12_isHeard_77 ?_
    obtain ⟨g78, h⟩ := oG_some h
    refine g_iald hC rfl (by decide) (inB_in g78) dX12_isHeard_78 ?_
    obtain ⟨g79, h⟩ := oG_some h
    refine g_iald hC rfl (by decide) (inB_in g79) dX12_isHeard_79 ?_
    refine g_aload_n hC dX12_isHeard_80 rfl (q := 0) rfl ?_
    refine g_getr hC fd_RX12_96 rfl (by decide) (C0 := "") (t0 := _) (Or.inr rfl) (rr_75_56 hW.1) dX12_isHeard_81 ?_
    refine g_iconst hC dX12_isHeard_84 (v := (3 : Int32)) (by decide) ?_
    refine g_iload_n hC dX12_isHeard_85 rfl (q := 1) rfl ?_
    refine g_imul hC dX12_isHeard_86 ?_
    refine g_iconst hC dX12_isHeard_87 (v := (1 : Int32)) (by decide) ?_
    refine g_iadd hC dX12_isHeard_88 ?_
    obtain ⟨g89, h⟩ := oG_some h
    refine g_iald hC rfl (by decide) (inB_in g89) dX12_isHeard_89 ?_
    refine g_ishr hC dX12_isHeard_90 ?_
    refine g_iconst hC dX12_isHeard_91 (v := (1 : Int32)) (by decide) ?_
    refine g_iand hC dX12_isHeard_92 ?_
    refine g_aload_n hC dX12_isHeard_93 rfl (q := 0) rfl ?_
    refine g_getr hC fd_RX12_96 rfl (by decide) (C0 := "") (t0 := _) (Or.inr rfl) (rr_75_56 hW.1) dX12_isHeard_94 ?_
    refine g_iconst hC dX12_isHeard_97 (v := (3 : Int32)) (by decide) ?_
    refine g_iload_n hC dX12_isHeard_98 rfl (q := 1) rfl ?_
    refine g_imul hC dX12_isHeard_99 ?_
    refine g_iconst hC dX12_isHeard_100 (v := (2 : Int32)) (by decide) ?_
    refine g_iadd hC dX12_isHeard_101 ?_
    obtain ⟨g102, h⟩ := oG_some h
    refine g_iald hC rfl (by decide) (inB_in g102) dX12_isHeard_102 ?_
    refine g_ic_eq hC dX12_isHeard_103 (tgt := 108) (by decide) (fun c103 => ?_) (fun c103 => ?_)
    · replace h := (if_pos c103).symm.trans h
      refine g_iinc hC dX12_isHeard_108 rfl (q := 1) rfl (w := (v3 + (1 : Int32))) rfl (by decide) (lv' := [(3, .int (v3 + (1 : Int32))), (0, .ref (mB E + 75))]) rfl ?_
      refine g_goto hC dX12_isHeard_111 (tgt := 59) (by decide) ?_
      refine g_lv [1, 0] rfl ?_
      exact hk59_ (v3 + (1 : Int32)) I h
    · replace h := (if_neg c103).symm.trans h
      refine g_iconst hC dX12_isHeard_106 (v := (0 : Int32)) (by decide) ?_
      cases h
      exact g_zret hC (by decide) hE rfl dX12_isHeard_107 (Nat.zero_le _) (Nat.zero_le _) ⟨rfl, rfl, rfl, rfl, rfl, rfl⟩
noncomputable def w_X12_isHeard_59 (Fu : Nat)  (N : Nat) (v3 : Int32) (I : mIT) : Option (Int32 × mIT) :=
  loopF (fun self (s : Int32 × mIT) => b_X12_isHeard_59 Fu self s.1 s.2) N (v3, I)
theorem wo_X12_isHeard_59 {X : mXT} {E : mEn} {Fu : Nat} {R : mRT} {L : mLT}  (hC : mC X E mX12_isHeard RX12 cX12_isHeard) (hW : mWd R)   {out : Int32 × mIT} (hE : mEd X E 0 0 (mSame (some (.int (out.1))) 106 1 (out.2) R L))  (N : Nat) (v3 : Int32) (I : mIT) (h : w_X12_isHeard_59 Fu  N v3 I = some out) : mG X E 59 [(0, .ref (mB E + 75)), (3, .int v3)] [] 106 1 I R L 0 0 :=
  loopF_ok (Gd := fun s : Int32 × mIT => mG X E 59 [(0, .ref (mB E + 75)), (3, .int s.1)] [] 106 1 s.2 R L 0 0) (fun self hs s h => bo_X12_isHeard_59 hC hW hE self (fun v3 I h => hs (v3, I) h) s.1 s.2 h) N (v3, I) h
noncomputable def b_X12_isHeard_33 (Fu : Nat) (k6_ : Int32 × Int32 × Int32 × mIT → Option (Int32 × mIT)) (v1 : Int32) (v2 : Int32) (v3 : Int32) (I : mIT) : Option (Int32 × mIT) :=
  oB (f_X12_notesIn Fu I (53 : Int32)) (fun r41 => oG (inB v3 31) (oB (f_X12_dayGoes Fu (mU r41.2 100 (v3).toNatClampNeg r41.1) (53 : Int32)) (fun r48 => k6_ (v1, v2, (v3 + (1 : Int32)), r48))))
set_option maxRecDepth 20000 in
theorem bo_X12_isHeard_33 {X : mXT} {E : mEn} {Fu : Nat} {R : mRT} {L : mLT}  (hC : mC X E mX12_isHeard RX12 cX12_isHeard) (hW : mWd R)   {out : Int32 × mIT} (hE : mEd X E 0 0 (mSame (some (.int (out.1))) 106 1 (out.2) R L)) (k6_ : Int32 × Int32 × Int32 × mIT → Option (Int32 × mIT)) (hk6_ : ∀ (v1 : Int32) (v2 : Int32) (v3 : Int32) (I : mIT),  k6_ (v1, v2, v3, I) = some out → mG X E 6 [(0, .ref (mB E + 75)), (1, .int v1), (2, .int v2), (3, .int v3)] [] 106 1 I R L 0 0) (v1 : Int32) (v2 : Int32) (v3 : Int32) (I : mIT) (h : b_X12_isHeard_33 Fu k6_ v1 v2 v3 I = some out) : mG X E 33 [(0, .ref (mB E + 75)), (1, .int v1), (2, .int v2), (3, .int v3)] [] 106 1 I R L 0 0 := by
  unfold b_X12_isHeard_33 at h
  refine g_aload_n hC dX12_isHeard_33 rfl (q := 0) rfl ?_
  refine g_getr hC fd_RX12_99 rfl (by decide) (C0 := "") (t0 := _) (Or.inr rfl) (rr_75_57 hW.1) dX12_isHeard_34 ?_
  refine g_iload_n hC dX12_isHeard_37 rfl (q := 3) rfl ?_
  refine g_aload_n hC dX12_isHeard_38 rfl (q := 0) rfl ?_
  refine g_bipush hC dX12_isHeard_39 (v := (53 : Int32)) (by decide) ?_
  obtain ⟨r41, h41, h⟩ := oB_some h
  refine g_cV1 hC cv_X12_notesIn wd_2008 ⟨Nat.le_of_ble_eq_true rfl, Nat.le_of_ble_eq_true rfl⟩ rfl (by decide) dX12_isHeard_41 (As := [.int (53 : Int32)]) (st := [.int v3, .ref (mB E + 100)]) (ok_X12_notesIn hC.2.2.2.2.2.2.2.1 hW h41) rfl rfl (Nat.le_of_ble_eq_true rfl) ⟨Nat.zero_le _, Nat.zero_le _⟩ ?_
  obtain ⟨g44, h⟩ := oG_some h
  refine g_iast hC rfl (by decide) (inB_in g44) dX12_isHeard_44 (nm_e ?_)
  refine g_aload_n hC dX12_isHeard_45 rfl (q := 0) rfl ?_
  refine g_bipush hC dX12_isHeard_46 (v := (53 : Int32)) (by decide) ?_
  obtain ⟨r48, h48, h⟩ := oB_some h
  refine g_cV0 hC cv_X12_dayGoes wd_2070 ⟨Nat.le_of_ble_eq_true rfl, Nat.le_of_ble_eq_true rfl⟩ rfl (by decide) dX12_isHeard_48 (As := [.int (53 : Int32)]) (st := []) (ok_X12_dayGoes hC.2.2.2.2.2.2.2.1 hW h48) rfl rfl (Nat.le_of_ble_eq_true rfl) ⟨Nat.zero_le _, Nat.zero_le _⟩ ?_
  refine g_iinc hC dX12_isHeard_51 rfl (q := 3) rfl (w := (v3 + (1 : Int32))) rfl (by decide) (lv' := [(3, .int (v3 + (1 : Int32))), (0, .ref (mB E + 75)), (1, .int v1), (2, .int v2)]) rfl ?_
  refine g_goto hC dX12_isHeard_54 (tgt := 6) (by decide) ?_
  refine g_lv [1, 2, 3, 0] rfl ?_
  exact hk6_ v1 v2 (v3 + (1 : Int32)) r48 h
noncomputable def b_X12_isHeard_6 (Fu : Nat) (k6_ : Int32 × Int32 × Int32 × mIT → Option (Int32 × mIT)) (v1 : Int32) (v2 : Int32) (v3 : Int32) (I : mIT) : Option (Int32 × mIT) :=
  if (30 : Int32) < v3 then (w_X12_isHeard_59 Fu Fu (0 : Int32) I) else (if v1 = (-1 : Int32) then (b_X12_isHeard_33 Fu k6_ v1 v2 v3 I) else (if v3 = v2 then (oG (inB ((84 : Int32) + v1) 106) (b_X12_isHeard_33 Fu k6_ v1 v2 v3 (mU I 89 (((84 : Int32) + v1)).toNatClampNeg (-2 : Int32)))) else (b_X12_isHeard_33 Fu k6_ v1 v2 v3 I)))
set_option maxRecDepth 20000 in
theorem bo_X12_isHeard_6 {X : mXT} {E : mEn} {Fu : Nat} {R : mRT} {L : mLT}  (hC : mC X E mX12_isHeard RX12 cX12_isHeard) (hW : mWd R)   {out : Int32 × mIT} (hE : mEd X E 0 0 (mSame (some (.int (out.1))) 106 1 (out.2) R L)) (k6_ : Int32 × Int32 × Int32 × mIT → Option (Int32 × mIT)) (hk6_ : ∀ (v1 : Int32) (v2 : Int32) (v3 : Int32) (I : mIT),  k6_ (v1, v2, v3, I) = some out → mG X E 6 [(0, .ref (mB E + 75)), (1, .int v1), (2, .int v2), (3, .int v3)] [] 106 1 I R L 0 0) (v1 : Int32) (v2 : Int32) (v3 : Int32) (I : mIT) (h : b_X12_isHeard_6 Fu k6_ v1 v2 v3 I = some out) : mG X E 6 [(0, .ref (mB E + 75)), (1, .int v1), (2, .int v2), (3, .int v3)] [] 106 1 I R L 0 0 := by
  unfold b_X12_isHeard_6 at h
  refine g_iload_n hC dX12_isHeard_6 rfl (q := 3) rfl ?_
  refine g_bipush hC dX12_isHeard_7 (v := (30 : Int32)) (by decide) ?_
  refine g_ic_gt hC dX12_isHeard_9 (tgt := 57) (by decide) (fun c9 => ?_) (fun c9 => ?_)
  · replace h := (if_pos c9).symm.trans h
    refine g_iconst hC dX12_isHeard_57 (v := (0 : Int32)) (by decide) ?_
    refine g_istore_n hC dX12_isHeard_58 rfl rfl (by decide) (lv' := [(3, .int (0 : Int32)), (0, .ref (mB E + 75)), (1, .int v1), (2, .int v2)]) rfl ?_
    refine g_lv [1, 0] rfl ?_
    exact wo_X12_isHeard_59 hC hW hE Fu ((0 : Int32)) (I) h
  · replace h := (if_neg c9).symm.trans h
    refine g_iload_n hC dX12_isHeard_12 rfl (q := 1) rfl ?_
    refine g_iconst hC dX12_isHeard_13 (v := (-1 : Int32)) (by decide) ?_
    refine g_ic_eq hC dX12_isHeard_14 (tgt := 33) (by decide) (fun c14 => ?_) (fun c14 => ?_)
    · replace h := (if_pos c14).symm.trans h
      exact bo_X12_isHeard_33 hC hW hE k6_ hk6_ (v1) (v2) (v3) (I) h
    · replace h := (if_neg c14).symm.trans h
      refine g_iload_n hC dX12_isHeard_17 rfl (q := 3) rfl ?_
      refine g_iload_n hC dX12_isHeard_18 rfl (q := 2) rfl ?_
      refine g_ic_ne hC dX12_isHeard_19 (tgt := 33) (by decide) (fun c19 => ?_) (fun c19 => ?_)
      · replace h := (if_neg c19).symm.trans h
        exact bo_X12_isHeard_33 hC hW hE k6_ hk6_ (v1) (v2) (v3) (I) h
      · replace h := (if_pos c19).symm.trans h
        refine g_aload_n hC dX12_isHeard_22 rfl (q := 0) rfl ?_
        refine g_getr hC fd_RX12_63 rfl (by decide) (C0 := "") (t0 := _) (Or.inr rfl) (rr_75_42 hW.1) dX12_isHeard_23 ?_
        refine g_bipush hC dX12_isHeard_26 (v := (84 : Int32)) (by decide) ?_
        refine g_iload_n hC dX12_isHeard_28 rfl (q := 1) rfl ?_
        refine g_iadd hC dX12_isHeard_29 ?_
        refine g_bipush hC dX12_isHeard_30 (v := (-2 : Int32)) (by decide) ?_
        obtain ⟨g32, h⟩ := oG_some h
        refine g_iast hC rfl (by decide) (inB_in g32) dX12_isHeard_32 (nm_e ?_)
        exact bo_X12_isHeard_33 hC hW hE k6_ hk6_ (v1) (v2) (v3) ((mU I 89 (((84 : Int32) + v1)).toNatClampNeg (-2 : Int32))) h
noncomputable def w_X12_isHeard_6 (Fu : Nat)  (N : Nat) (v1 : Int32) (v2 : Int32) (v3 : Int32) (I : mIT) : Option (Int32 × mIT) :=
  loopF (fun self (s : Int32 × Int32 × Int32 × mIT) => b_X12_isHeard_6 Fu self s.1 s.2.1 s.2.2.1 s.2.2.2) N (v1, v2, v3, I)
theorem wo_X12_isHeard_6 {X : mXT} {E : mEn} {Fu : Nat} {R : mRT} {L : mLT}  (hC : mC X E mX12_isHeard RX12 cX12_isHeard) (hW : mWd R)   {out : Int32 × mIT} (hE : mEd X E 0 0 (mSame (some (.int (out.1))) 106 1 (out.2) R L))  (N : Nat) (v1 : Int32) (v2 : Int32) (v3 : Int32) (I : mIT) (h : w_X12_isHeard_6 Fu  N v1 v2 v3 I = some out) : mG X E 6 [(0, .ref (mB E + 75)), (1, .int v1), (2, .int v2), (3, .int v3)] [] 106 1 I R L 0 0 :=
  loopF_ok (Gd := fun s : Int32 × Int32 × Int32 × mIT => mG X E 6 [(0, .ref (mB E + 75)), (1, .int s.1), (2, .int s.2.1), (3, .int s.2.2.1)] [] 106 1 s.2.2.2 R L 0 0) (fun self hs s h => bo_X12_isHeard_6 hC hW hE self (fun v1 v2 v3 I h => hs (v1, v2, v3, I) h) s.1 s.2.1 s.2.2.1 s.2.2.2 h) N (v1, v2, v3, I) h
noncomputable def f_X12_isHeard (Fu : Nat) (I : mIT) (v1 : Int32) (v2 : Int32) : Option (Int32 × mIT) :=
  oB (f_X12_tries Fu I) (fun r1 => w_X12_isHeard_6 Fu Fu v1 v2 (0 : Int32) r1)
set_option maxRecDepth 20000 in
theorem ok_X12_isHeard {l : Launch} {E : mEn} {Fu : Nat} {I : mIT} {R : mRT} {L : mLT} {v1 : Int32} {v2 : Int32} (hst : l.stackTraces = false) (hW : mWd R)  {out : Int32 × mIT} (h : f_X12_isHeard Fu I v1 v2 = some out) : mOk l E mX12_isHeard [.ref (mB E + 75), .int v1, .int v2] 106 1 I R L 0 0 (mSame (some (.int (out.1))) 106 1 (out.2) R L) := by
  refine mOk_of hst (by decide) (Nat.le_of_ble_eq_true rfl) (fun X hC hE _ => ?_)
  have hC : mC X E mX12_isHeard RX12 cX12_isHeard := hC
  show mG X E 0 [(0, .ref (mB E + 75)), (1, .int v1), (2, .int v2)] [] 106 1 I R L 0 0
  unfold f_X12_isHeard at h
  refine g_aload_n hC dX12_isHeard_0 rfl (q := 0) rfl ?_
  obtain ⟨r1, h1, h⟩ := oB_some h
  refine g_cV0 hC cv_X12_tries wd_2110 ⟨Nat.le_of_ble_eq_true rfl, Nat.le_of_ble_eq_true rfl⟩ rfl (by decide) dX12_isHeard_1 (As := []) (st := []) (ok_X12_tries hC.2.2.2.2.2.2.2.1 hW h1) rfl rfl (Nat.le_of_ble_eq_true rfl) ⟨Nat.zero_le _, Nat.zero_le _⟩ ?_
  refine g_iconst hC dX12_isHeard_4 (v := (0 : Int32)) (by decide) ?_
  refine g_istore_n hC dX12_isHeard_5 rfl rfl (by decide) (lv' := [(3, .int (0 : Int32)), (0, .ref (mB E + 75)), (1, .int v1), (2, .int v2)]) rfl ?_
  refine g_lv [1, 2, 3, 0] rfl ?_
  exact wo_X12_isHeard_6 hC hW hE Fu (v1) (v2) ((0 : Int32)) (r1) h
noncomputable def f_X12_isGuess (Fu : Nat) (I : mIT) (v1 : Int32) : Option (Int32 × mIT) :=
  oG (inB ((31 : Int32) + (v1 / (10 : Int32))) 106) (if (I 89 (((31 : Int32) + (v1 / (10 : Int32)))).toNatClampNeg) = (-2 : Int32) then (some ((0 : Int32), I)) else (oB (f_X12_isHeard Fu I (v1 / (10 : Int32)) (v1 - v1 / (10 : Int32) * (10 : Int32))) (fun r26 => if r26.1 = 0 then (some ((0 : Int32), r26.2)) else (some ((1 : Int32), r26.2)))))
set_option maxRecDepth 20000 in
theorem ok_X12_isGuess {l : Launch} {E : mEn} {Fu : Nat} {I : mIT} {R : mRT} {L : mLT} {v1 : Int32} (hst : l.stackTraces = false) (hW : mWd R)  {out : Int32 × mIT} (h : f_X12_isGuess Fu I v1 = some out) : mOk l E mX12_isGuess [.ref (mB E + 75), .int v1] 106 1 I R L 0 0 (mSame (some (.int (out.1))) 106 1 (out.2) R L) := by
  refine mOk_of hst (by decide) (Nat.le_of_ble_eq_true rfl) (fun X hC hE _ => ?_)
  have hC : mC X E mX12_isGuess RX12 cX12_isGuess := hC
  show mG X E 0 [(0, .ref (mB E + 75)), (1, .int v1)] [] 106 1 I R L 0 0
  unfold f_X12_isGuess at h
  refine g_aload_n hC dX12_isGuess_0 rfl (q := 0) rfl ?_
  refine g_getr hC fd_RX12_63 rfl (by decide) (C0 := "") (t0 := _) (Or.inr rfl) (rr_75_42 hW.1) dX12_isGuess_1 ?_
  refine g_bipush hC dX12_isGuess_4 (v := (31 : Int32)) (by decide) ?_
  refine g_iload_n hC dX12_isGuess_6 rfl (q := 1) rfl ?_
  refine g_bipush hC dX12_isGuess_7 (v := (10 : Int32)) (by decide) ?_
  refine g_idiv hC dX12_isGuess_9 (by decide) ?_
  refine g_iadd hC dX12_isGuess_10 ?_
  obtain ⟨g11, h⟩ := oG_some h
  refine g_iald hC rfl (by decide) (inB_in g11) dX12_isGuess_11 ?_
  refine g_bipush hC dX12_isGuess_12 (v := (-2 : Int32)) (by decide) ?_
  refine g_ic_eq hC dX12_isGuess_14 (tgt := 36) (by decide) (fun c14 => ?_) (fun c14 => ?_)
  · replace h := (if_pos c14).symm.trans h
    refine g_iconst hC dX12_isGuess_36 (v := (0 : Int32)) (by decide) ?_
    cases h
    exact g_zret hC (by decide) hE rfl dX12_isGuess_37 (Nat.zero_le _) (Nat.zero_le _) ⟨rfl, rfl, rfl, rfl, rfl, rfl⟩
  · replace h := (if_neg c14).symm.trans h
    refine g_aload_n hC dX12_isGuess_17 rfl (q := 0) rfl ?_
    refine g_iload_n hC dX12_isGuess_18 rfl (q := 1) rfl ?_
    refine g_bipush hC dX12_isGuess_19 (v := (10 : Int32)) (by decide) ?_
    refine g_idiv hC dX12_isGuess_21 (by decide) ?_
    refine g_iload_n hC dX12_isGuess_22 rfl (q := 1) rfl ?_
    refine g_bipush hC dX12_isGuess_23 (v := (10 : Int32)) (by decide) ?_
    refine g_irem hC dX12_isGuess_25 (by decide) ?_
    obtain ⟨r26, h26, h⟩ := oB_some h
    refine g_cV1 hC cv_X12_isHeard wd_2233 ⟨Nat.le_of_ble_eq_true rfl, Nat.le_of_ble_eq_true rfl⟩ rfl (by decide) dX12_isGuess_26 (As := [.int (v1 / (10 : Int32)), .int (v1 - v1 / (10 : Int32) * (10 : Int32))]) (st := []) (ok_X12_isHeard hC.2.2.2.2.2.2.2.1 hW h26) rfl rfl (Nat.le_of_ble_eq_true rfl) ⟨Nat.zero_le _, Nat.zero_le _⟩ ?_
    refine g_if_eq hC dX12_isGuess_29 (tgt := 36) (by decide) (fun c29 => ?_) (fun c29 => ?_)
    · replace h := (if_pos c29).symm.trans h
      refine g_iconst hC dX12_isGuess_36 (v := (0 : Int32)) (by decide) ?_
      cases h
      exact g_zret hC (by decide) hE rfl dX12_isGuess_37 (Nat.zero_le _) (Nat.zero_le _) ⟨rfl, rfl, rfl, rfl, rfl, rfl⟩
    · replace h := (if_neg c29).symm.trans h
      refine g_iconst hC dX12_isGuess_32 (v := (1 : Int32)) (by decide) ?_
      refine g_goto hC dX12_isGuess_33 (tgt := 37) (by decide) ?_
      cases h
      exact g_zret hC (by decide) hE rfl dX12_isGuess_37 (Nat.zero_le _) (Nat.zero_le _) ⟨rfl, rfl, rfl, rfl, rfl, rfl⟩
noncomputable def b_X12_eaten_43 (Fu : Nat) (k43_ : Int32 × Int32 × Int32 × Int32 × mIT → Option (Int32 × mIT)) (v1 : Int32) (v2 : Int32) (v3 : Int32) (v4 : Int32) (I : mIT) : Option (Int32 × mIT) :=
  if ((10 : Int32) * (I 75 1)) ≤ v4 then (if v1 = 0 then (some (v2, I)) else (some (v3, I))) else (oB (f_X12_isGuess Fu I v4) (fun r58 => if r58.1 = 0 then (k43_ (v1, v2, v3, (v4 + (1 : Int32)), r58.2)) else (if v3 = (-1 : Int32) then (k43_ (v1, (v2 + (1 : Int32)), v4, (v4 + (1 : Int32)), r58.2)) else (k43_ (v1, (v2 + (1 : Int32)), v3, (v4 + (1 : Int32)), r58.2)))))
set_option maxRecDepth 20000 in
theorem bo_X12_eaten_43 {X : mXT} {E : mEn} {Fu : Nat} {R : mRT} {L : mLT}  (hC : mC X E mX12_eaten RX12 cX12_eaten) (hW : mWd R)   {out : Int32 × mIT} (hE : mEd X E 0 0 (mSame (some (.int (out.1))) 106 1 (out.2) R L)) (k43_ : Int32 × Int32 × Int32 × Int32 × mIT → Option (Int32 × mIT)) (hk43_ : ∀ (v1 : Int32) (v2 : Int32) (v3 : Int32) (v4 : Int32) (I : mIT),  k43_ (v1, v2, v3, v4, I) = some out → mG X E 43 [(0, .ref (mB E + 75)), (1, .int v1), (2, .int v2), (3, .int v3), (4, .int v4)] [] 106 1 I R L 0 0) (v1 : Int32) (v2 : Int32) (v3 : Int32) (v4 : Int32) (I : mIT) (h : b_X12_eaten_43 Fu k43_ v1 v2 v3 v4 I = some out) : mG X E 43 [(0, .ref (mB E + 75)), (1, .int v1), (2, .int v2), (3, .int v3), (4, .int v4)] [] 106 1 I R L 0 0 := by
  unfold b_X12_eaten_43 at h
  refine g_iload hC dX12_eaten_43 (q := 4) rfl ?_
  refine g_bipush hC dX12_eaten_45 (v := (10 : Int32)) (by decide) ?_
  refine g_aload_n hC dX12_eaten_47 rfl (q := 0) rfl ?_
  refine g_geti hC fd_RX12_289 rfl (by decide) (Or.inl rfl) dX12_eaten_48 ?_
  refine g_imul hC dX12_eaten_51 ?_
  refine g_ic_ge hC dX12_eaten_52 (tgt := 84) (by decide) (fun c52 => ?_) (fun c52 => ?_)
  · replace h := (if_pos c52).symm.trans h
    refine g_iload_n hC dX12_eaten_84 rfl (q := 1) rfl ?_
    refine g_if_ne hC dX12_eaten_85 (tgt := 92) (by decide) (fun c85 => ?_) (fun c85 => ?_)
    · replace h := (if_neg c85).symm.trans h
      refine g_iload_n hC dX12_eaten_92 rfl (q := 3) rfl ?_
      cases h
      exact g_iret hC hE rfl dX12_eaten_93 (Nat.zero_le _) (Nat.zero_le _) ⟨rfl, rfl, rfl, rfl, rfl, rfl⟩
    · replace h := (if_pos c85).symm.trans h
      refine g_iload_n hC dX12_eaten_88 rfl (q := 2) rfl ?_
      refine g_goto hC dX12_eaten_89 (tgt := 93) (by decide) ?_
      cases h
      exact g_iret hC hE rfl dX12_eaten_93 (Nat.zero_le _) (Nat.zero_le _) ⟨rfl, rfl, rfl, rfl, rfl, rfl⟩
  · replace h := (if_neg c52).symm.trans h
    refine g_aload_n hC dX12_eaten_55 rfl (q := 0) rfl ?_
    refine g_iload hC dX12_eaten_56 (q := 4) rfl ?_
    obtain ⟨r58, h58, h⟩ := oB_some h
    refine g_cV1 hC cv_X12_isGuess wd_2237 ⟨Nat.le_of_ble_eq_true rfl, Nat.le_of_ble_eq_true rfl⟩ rfl (by decide) dX12_eaten_58 (As := [.int v4]) (st := []) (ok_X12_isGuess hC.2.2.2.2.2.2.2.1 hW h58) rfl rfl (Nat.le_of_ble_eq_true rfl) ⟨Nat.zero_le _, Nat.zero_le _⟩ ?_
    refine g_if_ne hC dX12_eaten_61 (tgt := 67) (by decide) (fun c61 => ?_) (fun c61 => ?_)
    · replace h := (if_neg c61).symm.trans h
      refine g_iinc hC dX12_eaten_67 rfl (q := 2) rfl (w := (v2 + (1 : Int32))) rfl (by decide) (lv' := [(2, .int (v2 + (1 : Int32))), (0, .ref (mB E + 75)), (1, .int v1), (3, .int v3), (4, .int v4)]) rfl ?_
      refine g_iload_n hC dX12_eaten_70 rfl (q := 3) rfl ?_
      refine g_iconst hC dX12_eaten_71 (v := (-1 : Int32)) (by decide) ?_
      refine g_ic_ne hC dX12_eaten_72 (tgt := 78) (by decide) (fun c72 => ?_) (fun c72 => ?_)
      · replace h := (if_neg c72).symm.trans h
        refine g_iinc hC dX12_eaten_78 rfl (q := 4) rfl (w := (v4 + (1 : Int32))) rfl (by decide) (lv' := [(4, .int (v4 + (1 : Int32))), (2, .int (v2 + (1 : Int32))), (0, .ref (mB E + 75)), (1, .int v1), (3, .int v3)]) rfl ?_
        refine g_goto hC dX12_eaten_81 (tgt := 43) (by decide) ?_
        refine g_lv [2, 3, 1, 4, 0] rfl ?_
        exact hk43_ v1 (v2 + (1 : Int32)) v3 (v4 + (1 : Int32)) r58.2 h
      · replace h := (if_pos c72).symm.trans h
        refine g_iload hC dX12_eaten_75 (q := 4) rfl ?_
        refine g_istore_n hC dX12_eaten_77 rfl rfl (by decide) (lv' := [(3, .int v4), (2, .int (v2 + (1 : Int32))), (0, .ref (mB E + 75)), (1, .int v1), (4, .int v4)]) rfl ?_
        refine g_iinc hC dX12_eaten_78 rfl (q := 4) rfl (w := (v4 + (1 : Int32))) rfl (by decide) (lv' := [(4, .int (v4 + (1 : Int32))), (3, .int v4), (2, .int (v2 + (1 : Int32))), (0, .ref (mB E + 75)), (1, .int v1)]) rfl ?_
        refine g_goto hC dX12_eaten_81 (tgt := 43) (by decide) ?_
        refine g_lv [3, 4, 2, 1, 0] rfl ?_
        exact hk43_ v1 (v2 + (1 : Int32)) v4 (v4 + (1 : Int32)) r58.2 h
    · replace h := (if_pos c61).symm.trans h
      refine g_goto hC dX12_eaten_64 (tgt := 78) (by decide) ?_
      refine g_iinc hC dX12_eaten_78 rfl (q := 4) rfl (w := (v4 + (1 : Int32))) rfl (by decide) (lv' := [(4, .int (v4 + (1 : Int32))), (0, .ref (mB E + 75)), (1, .int v1), (2, .int v2), (3, .int v3)]) rfl ?_
      refine g_goto hC dX12_eaten_81 (tgt := 43) (by decide) ?_
      refine g_lv [1, 2, 3, 4, 0] rfl ?_
      exact hk43_ v1 v2 v3 (v4 + (1 : Int32)) r58.2 h
noncomputable def w_X12_eaten_43 (Fu : Nat)  (N : Nat) (v1 : Int32) (v2 : Int32) (v3 : Int32) (v4 : Int32) (I : mIT) : Option (Int32 × mIT) :=
  loopF (fun self (s : Int32 × Int32 × Int32 × Int32 × mIT) => b_X12_eaten_43 Fu self s.1 s.2.1 s.2.2.1 s.2.2.2.1 s.2.2.2.2) N (v1, v2, v3, v4, I)
theorem wo_X12_eaten_43 {X : mXT} {E : mEn} {Fu : Nat} {R : mRT} {L : mLT}  (hC : mC X E mX12_eaten RX12 cX12_eaten) (hW : mWd R)   {out : Int32 × mIT} (hE : mEd X E 0 0 (mSame (some (.int (out.1))) 106 1 (out.2) R L))  (N : Nat) (v1 : Int32) (v2 : Int32) (v3 : Int32) (v4 : Int32) (I : mIT) (h : w_X12_eaten_43 Fu  N v1 v2 v3 v4 I = some out) : mG X E 43 [(0, .ref (mB E + 75)), (1, .int v1), (2, .int v2), (3, .int v3), (4, .int v4)] [] 106 1 I R L 0 0 :=
  loopF_ok (Gd := fun s : Int32 × Int32 × Int32 × Int32 × mIT => mG X E 43 [(0, .ref (mB E + 75)), (1, .int s.1), (2, .int s.2.1), (3, .int s.2.2.1), (4, .int s.2.2.2.1)] [] 106 1 s.2.2.2.2 R L 0 0) (fun self hs s h => bo_X12_eaten_43 hC hW hE self (fun v1 v2 v3 v4 I h => hs (v1, v2, v3, v4, I) h) s.1 s.2.1 s.2.2.1 s.2.2.2.1 s.2.2.2.2 h) N (v1, v2, v3, v4, I) h
noncomputable def f_X12_eaten (Fu : Nat) (I : mIT) (v1 : Int32) : Option (Int32 × mIT) :=
  oB (f_X12_isWhat Fu (mU I 75 0 (0 : Int32)) v1 (2 : Int32)) (fun r8 => if r8.1 = 0 then (some ((0 : Int32), r8.2)) else (if v1 = (2 : Int32) then (oB (f_X12_isHeard Fu r8.2 (-1 : Int32) (0 : Int32)) (fun r24 => if r24.1 = 0 then (some ((0 : Int32), r24.2)) else (some ((1 : Int32), r24.2)))) else (w_X12_eaten_43 Fu Fu v1 (0 : Int32) (-1 : Int32) (0 : Int32) r8.2)))
set_option maxRecDepth 20000 in
theorem ok_X12_eaten {l : Launch} {E : mEn} {Fu : Nat} {I : mIT} {R : mRT} {L : mLT} {v1 : Int32} (hst : l.stackTraces = false) (hW : mWd R)  {out : Int32 × mIT} (h : f_X12_eaten Fu I v1 = some out) : mOk l E mX12_eaten [.ref (mB E + 75), .int v1] 106 1 I R L 0 0 (mSame (some (.int (out.1))) 106 1 (out.2) R L) := by
  refine mOk_of hst (by decide) (Nat.le_of_ble_eq_true rfl) (fun X hC hE _ => ?_)
  have hC : mC X E mX12_eaten RX12 cX12_eaten := hC
  show mG X E 0 [(0, .ref (mB E + 75)), (1, .int v1)] [] 106 1 I R L 0 0
  unfold f_X12_eaten at h
  refine g_aload_n hC dX12_eaten_0 rfl (q := 0) rfl ?_
  refine g_iconst hC dX12_eaten_1 (v := (0 : Int32)) (by decide) ?_
  refine g_puti hC fd_RX12_114 rfl (by decide) rfl dX12_eaten_2 (nm_e ?_)
  refine g_aload_n hC dX12_eaten_5 rfl (q := 0) rfl ?_
  refine g_iload_n hC dX12_eaten_6 rfl (q := 1) rfl ?_
  refine g_iconst hC dX12_eaten_7 (v := (2 : Int32)) (by decide) ?_
  obtain ⟨r8, h8, h⟩ := oB_some h
  refine g_cV1 hC cv_X12_isWhat wd_2038 ⟨Nat.le_of_ble_eq_true rfl, Nat.le_of_ble_eq_true rfl⟩ rfl (by decide) dX12_eaten_8 (As := [.int v1, .int (2 : Int32)]) (st := []) (ok_X12_isWhat hC.2.2.2.2.2.2.2.1 hW h8) rfl rfl (Nat.le_of_ble_eq_true rfl) ⟨Nat.zero_le _, Nat.zero_le _⟩ ?_
  refine g_if_ne hC dX12_eaten_11 (tgt := 16) (by decide) (fun c11 => ?_) (fun c11 => ?_)
  · replace h := (if_neg c11).symm.trans h
    refine g_iload_n hC dX12_eaten_16 rfl (q := 1) rfl ?_
    refine g_iconst hC dX12_eaten_17 (v := (2 : Int32)) (by decide) ?_
    refine g_ic_ne hC dX12_eaten_18 (tgt := 36) (by decide) (fun c18 => ?_) (fun c18 => ?_)
    · replace h := (if_neg c18).symm.trans h
      refine g_iconst hC dX12_eaten_36 (v := (0 : Int32)) (by decide) ?_
      refine g_istore_n hC dX12_eaten_37 rfl rfl (by decide) (lv' := [(2, .int (0 : Int32)), (0, .ref (mB E + 75)), (1, .int v1)]) rfl ?_
      refine g_iconst hC dX12_eaten_38 (v := (-1 : Int32)) (by decide) ?_
      refine g_istore_n hC dX12_eaten_39 rfl rfl (by decide) (lv' := [(3, .int (-1 : Int32)), (2, .int (0 : Int32)), (0, .ref (mB E + 75)), (1, .int v1)]) rfl ?_
      refine g_iconst hC dX12_eaten_40 (v := (0 : Int32)) (by decide) ?_
      refine g_istore hC dX12_eaten_41 rfl (by decide) (lv' := [(4, .int (0 : Int32)), (3, .int (-1 : Int32)), (2, .int (0 : Int32)), (0, .ref (mB E + 75)), (1, .int v1)]) rfl ?_
      refine g_lv [3, 4, 2, 1, 0] rfl ?_
      exact wo_X12_eaten_43 hC hW hE Fu (v1) ((0 : Int32)) ((-1 : Int32)) ((0 : Int32)) (r8.2) h
    · replace h := (if_pos c18).symm.trans h
      refine g_aload_n hC dX12_eaten_21 rfl (q := 0) rfl ?_
      refine g_iconst hC dX12_eaten_22 (v := (-1 : Int32)) (by decide) ?_
      refine g_iconst hC dX12_eaten_23 (v := (0 : Int32)) (by decide) ?_
      obtain ⟨r24, h24, h⟩ := oB_some h
      refine g_cV1 hC cv_X12_isHeard wd_2233 ⟨Nat.le_of_ble_eq_true rfl, Nat.le_of_ble_eq_true rfl⟩ rfl (by decide) dX12_eaten_24 (As := [.int (-1 : Int32), .int (0 : Int32)]) (st := []) (ok_X12_isHeard hC.2.2.2.2.2.2.2.1 hW h24) rfl rfl (Nat.le_of_ble_eq_true rfl) ⟨Nat.zero_le _, Nat.zero_le _⟩ ?_
      refine g_if_eq hC dX12_eaten_27 (tgt := 34) (by decide) (fun c27 => ?_) (fun c27 => ?_)
      · replace h := (if_pos c27).symm.trans h
        refine g_iconst hC dX12_eaten_34 (v := (0 : Int32)) (by decide) ?_
        cases h
        exact g_iret hC hE rfl dX12_eaten_35 (Nat.zero_le _) (Nat.zero_le _) ⟨rfl, rfl, rfl, rfl, rfl, rfl⟩
      · replace h := (if_neg c27).symm.trans h
        refine g_iconst hC dX12_eaten_30 (v := (1 : Int32)) (by decide) ?_
        refine g_goto hC dX12_eaten_31 (tgt := 35) (by decide) ?_
        cases h
        exact g_iret hC hE rfl dX12_eaten_35 (Nat.zero_le _) (Nat.zero_le _) ⟨rfl, rfl, rfl, rfl, rfl, rfl⟩
  · replace h := (if_pos c11).symm.trans h
    refine g_iconst hC dX12_eaten_14 (v := (0 : Int32)) (by decide) ?_
    cases h
    exact g_iret hC hE rfl dX12_eaten_15 (Nat.zero_le _) (Nat.zero_le _) ⟨rfl, rfl, rfl, rfl, rfl, rfl⟩
