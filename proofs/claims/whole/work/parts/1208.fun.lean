noncomputable def b_X12_at_37 (Fu : Nat)  (v2 : Int32) (s1 : Int32) (I : mIT) : Option (Int32 × mIT) :=
  oB (f_X12_right Fu I s1 (1 : Int32)) (fun r38 => if r38.1 = 0 then (some ((0 : Int32), r38.2)) else (oG (inB v2 6) (oG (inB (r38.2 95 (v2).toNatClampNeg) 6) (some ((r38.2 93 ((r38.2 95 (v2).toNatClampNeg)).toNatClampNeg), r38.2)))))
set_option maxRecDepth 20000 in
theorem bo_X12_at_37 {X : mXT} {E : mEn} {Fu : Nat} {R : mRT} {L : mLT}  (hC : mC X E mX12_at RX12 cX12_at) (hW : mWd R)   {out : Int32 × mIT} (hE : mEd X E 0 0 (mSame (some (.int (out.1))) 106 1 (out.2) R L))  (v2 : Int32) (s1 : Int32) (I : mIT) (h : b_X12_at_37 Fu  v2 s1 I = some out) : mG X E 37 [(0, .ref (mB E + 75)), (2, .int v2)] [.int s1, .ref (mB E + 75)] 106 1 I R L 0 0 := by
  unfold b_X12_at_37 at h
  refine g_iconst hC dX12_at_37 (v := (1 : Int32)) (by decide) ?_
  obtain ⟨r38, h38, h⟩ := oB_some h
  refine g_cV1 hC cv_X12_right wd_1851 ⟨Nat.le_of_ble_eq_true rfl, Nat.le_of_ble_eq_true rfl⟩ rfl (by decide) dX12_at_38 (As := [.int s1, .int (1 : Int32)]) (st := []) (ok_X12_right hC.2.2.2.2.2.2.2.1 hW h38) rfl rfl (Nat.le_of_ble_eq_true rfl) ⟨Nat.zero_le _, Nat.zero_le _⟩ ?_
  refine g_if_eq hC dX12_at_41 (tgt := 58) (by decide) (fun c41 => ?_) (fun c41 => ?_)
  · replace h := (if_pos c41).symm.trans h
    refine g_iconst hC dX12_at_58 (v := (0 : Int32)) (by decide) ?_
    cases h
    exact g_iret hC hE rfl dX12_at_59 (Nat.zero_le _) (Nat.zero_le _) ⟨rfl, rfl, rfl, rfl, rfl, rfl⟩
  · replace h := (if_neg c41).symm.trans h
    refine g_aload_n hC dX12_at_44 rfl (q := 0) rfl ?_
    refine g_getr hC fd_RX12_78 rfl (by decide) (C0 := "") (t0 := _) (Or.inr rfl) (rr_75_48 hW.1) dX12_at_45 ?_
    refine g_aload_n hC dX12_at_48 rfl (q := 0) rfl ?_
    refine g_getr hC fd_RX12_84 rfl (by decide) (C0 := "") (t0 := _) (Or.inr rfl) (rr_75_50 hW.1) dX12_at_49 ?_
    refine g_iload_n hC dX12_at_52 rfl (q := 1) rfl ?_
    obtain ⟨g53, h⟩ := oG_some h
    refine g_iald hC rfl (by decide) (inB_in g53) dX12_at_53 ?_
    obtain ⟨g54, h⟩ := oG_some h
    refine g_iald hC rfl (by decide) (inB_in g54) dX12_at_54 ?_
    refine g_goto hC dX12_at_55 (tgt := 59) (by decide) ?_
    cases h
    exact g_iret hC hE rfl dX12_at_59 (Nat.zero_le _) (Nat.zero_le _) ⟨rfl, rfl, rfl, rfl, rfl, rfl⟩
noncomputable def b_X12_at_36 (Fu : Nat)  (v2 : Int32) (I : mIT) : Option (Int32 × mIT) :=
  b_X12_at_37 Fu v2 (0 : Int32) I
set_option maxRecDepth 20000 in
theorem bo_X12_at_36 {X : mXT} {E : mEn} {Fu : Nat} {R : mRT} {L : mLT}  (hC : mC X E mX12_at RX12 cX12_at) (hW : mWd R)   {out : Int32 × mIT} (hE : mEd X E 0 0 (mSame (some (.int (out.1))) 106 1 (out.2) R L))  (v2 : Int32) (I : mIT) (h : b_X12_at_36 Fu  v2 I = some out) : mG X E 36 [(0, .ref (mB E + 75)), (2, .int v2)] [.ref (mB E + 75)] 106 1 I R L 0 0 := by
  unfold b_X12_at_36 at h
  refine g_iconst hC dX12_at_36 (v := (0 : Int32)) (by decide) ?_
  exact bo_X12_at_37 hC hW hE (v2) ((0 : Int32)) (I) h
noncomputable def f_X12_at (Fu : Nat) (I : mIT) (v1 : Int32) (v2 : Int32) : Option (Int32 × mIT) :=
  oB (f_X12_isRow Fu (mU I 75 0 (0 : Int32)) v1 (2 : Int32)) (fun r8 => if r8.1 = 0 then (some ((0 : Int32), r8.2)) else (oB (f_X12_ringsMany Fu r8.2 v1) (fun r18 => if v2 < 0 then (b_X12_at_36 Fu v2 r18.2) else (if r18.1 ≤ v2 then (b_X12_at_36 Fu v2 r18.2) else (b_X12_at_37 Fu v2 (1 : Int32) r18.2)))))
set_option maxRecDepth 20000 in
theorem ok_X12_at {l : Launch} {E : mEn} {Fu : Nat} {I : mIT} {R : mRT} {L : mLT} {v1 : Int32} {v2 : Int32} (hst : l.stackTraces = false) (hW : mWd R)  {out : Int32 × mIT} (h : f_X12_at Fu I v1 v2 = some out) : mOk l E mX12_at [.ref (mB E + 75), .int v1, .int v2] 106 1 I R L 0 0 (mSame (some (.int (out.1))) 106 1 (out.2) R L) := by
  refine mOk_of hst (by decide) (Nat.le_of_ble_eq_true rfl) (fun X hC hE _ => ?_)
  have hC : mC X E mX12_at RX12 cX12_at := hC
  show mG X E 0 [(0, .ref (mB E + 75)), (1, .int v1), (2, .int v2)] [] 106 1 I R L 0 0
  unfold f_X12_at at h
  refine g_aload_n hC dX12_at_0 rfl (q := 0) rfl ?_
  refine g_iconst hC dX12_at_1 (v := (0 : Int32)) (by decide) ?_
  refine g_puti hC fd_RX12_114 rfl (by decide) rfl dX12_at_2 (nm_e ?_)
  refine g_aload_n hC dX12_at_5 rfl (q := 0) rfl ?_
  refine g_iload_n hC dX12_at_6 rfl (q := 1) rfl ?_
  refine g_iconst hC dX12_at_7 (v := (2 : Int32)) (by decide) ?_
  obtain ⟨r8, h8, h⟩ := oB_some h
  refine g_cV1 hC cv_X12_isRow wd_2150 ⟨Nat.le_of_ble_eq_true rfl, Nat.le_of_ble_eq_true rfl⟩ rfl (by decide) dX12_at_8 (As := [.int v1, .int (2 : Int32)]) (st := []) (ok_X12_isRow hC.2.2.2.2.2.2.2.1 hW h8) rfl rfl (Nat.le_of_ble_eq_true rfl) ⟨Nat.zero_le _, Nat.zero_le _⟩ ?_
  refine g_if_ne hC dX12_at_11 (tgt := 16) (by decide) (fun c11 => ?_) (fun c11 => ?_)
  · replace h := (if_neg c11).symm.trans h
    refine g_aload_n hC dX12_at_16 rfl (q := 0) rfl ?_
    refine g_iload_n hC dX12_at_17 rfl (q := 1) rfl ?_
    obtain ⟨r18, h18, h⟩ := oB_some h
    refine g_cV1 hC cv_X12_ringsMany wd_2154 ⟨Nat.le_of_ble_eq_true rfl, Nat.le_of_ble_eq_true rfl⟩ rfl (by decide) dX12_at_18 (As := [.int v1]) (st := []) (ok_X12_ringsMany hC.2.2.2.2.2.2.2.1 hW h18) rfl rfl (Nat.le_of_ble_eq_true rfl) ⟨Nat.zero_le _, Nat.zero_le _⟩ ?_
    refine g_istore_n hC dX12_at_21 rfl rfl (by decide) (lv' := [(3, .int r18.1), (0, .ref (mB E + 75)), (1, .int v1), (2, .int v2)]) rfl ?_
    refine g_aload_n hC dX12_at_22 rfl (q := 1) rfl ?_
    refine g_iload_n hC dX12_at_23 rfl (q := 3) rfl ?_
    refine g_if_lt hC dX12_at_24 (tgt := 36) (by decide) (fun c24 => ?_) (fun c24 => ?_)
    · replace h := (if_pos c24).symm.trans h
      refine g_lv [1, 3] rfl ?_
      exact bo_X12_at_36 hC hW hE (v2) (r18.2) h
    · replace h := (if_neg c24).symm.trans h
      refine g_iload_n hC dX12_at_27 rfl (q := 3) rfl ?_
      refine g_iload_n hC dX12_at_28 rfl (q := 0) rfl ?_
      refine g_ic_ge hC dX12_at_29 (tgt := 36) (by decide) (fun c29 => ?_) (fun c29 => ?_)
      · replace h := (if_pos c29).symm.trans h
        refine g_lv [1, 3] rfl ?_
        exact bo_X12_at_36 hC hW hE (v2) (r18.2) h
      · replace h := (if_neg c29).symm.trans h
        refine g_iconst hC dX12_at_32 (v := (1 : Int32)) (by decide) ?_
        refine g_goto hC dX12_at_33 (tgt := 37) (by decide) ?_
        refine g_lv [1, 3] rfl ?_
        exact bo_X12_at_37 hC hW hE (v2) ((1 : Int32)) (r18.2) h
  · replace h := (if_pos c11).symm.trans h
    refine g_iconst hC dX12_at_14 (v := (0 : Int32)) (by decide) ?_
    cases h
    exact g_iret hC hE rfl dX12_at_15 (Nat.zero_le _) (Nat.zero_le _) ⟨rfl, rfl, rfl, rfl, rfl, rfl⟩
noncomputable def f_X12_wrong (Fu : Nat) (I : mIT) (v1 : Int32) : Option (mIT) :=
  if (I 75 14) = 0 then (some (mU (mU I 75 14 v1) 75 15 ((mU I 75 14 v1) 75 20))) else (some (I))
set_option maxRecDepth 20000 in
theorem ok_X12_wrong {l : Launch} {E : mEn} {Fu : Nat} {I : mIT} {R : mRT} {L : mLT} {v1 : Int32} (hst : l.stackTraces = false) (hW : mWd R)  {out : mIT} (h : f_X12_wrong Fu I v1 = some out) : mOk l E mX12_wrong [.ref (mB E + 75), .int v1] 106 1 I R L 0 0 (mSame none 106 1 (out) R L) := by
  refine mOk_of hst (by decide) (Nat.le_of_ble_eq_true rfl) (fun X hC hE _ => ?_)
  have hC : mC X E mX12_wrong RX12 cX12_wrong := hC
  show mG X E 0 [(0, .ref (mB E + 75)), (1, .int v1)] [] 106 1 I R L 0 0
  unfold f_X12_wrong at h
  refine g_aload_n hC dX12_wrong_0 rfl (q := 0) rfl ?_
  refine g_geti hC fd_RX12_170 rfl (by decide) (Or.inl rfl) dX12_wrong_1 ?_
  refine g_if_eq hC dX12_wrong_4 (tgt := 8) (by decide) (fun c4 => ?_) (fun c4 => ?_)
  · replace h := (if_pos c4).symm.trans h
    refine g_aload_n hC dX12_wrong_8 rfl (q := 0) rfl ?_
    refine g_iload_n hC dX12_wrong_9 rfl (q := 1) rfl ?_
    refine g_puti hC fd_RX12_170 rfl (by decide) rfl dX12_wrong_10 (nm_e ?_)
    refine g_aload_n hC dX12_wrong_13 rfl (q := 0) rfl ?_
    refine g_aload_n hC dX12_wrong_14 rfl (q := 0) rfl ?_
    refine g_geti hC fd_RX12_134 rfl (by decide) (Or.inl rfl) dX12_wrong_15 ?_
    refine g_puti hC fd_RX12_35 rfl (by decide) rfl dX12_wrong_18 (nm_e ?_)
    cases h
    exact g_vret hC hE rfl dX12_wrong_21 (Nat.zero_le _) (Nat.zero_le _) ⟨rfl, rfl, rfl, rfl, rfl, rfl⟩
  · replace h := (if_neg c4).symm.trans h
    cases h
    exact g_vret hC hE rfl dX12_wrong_7 (Nat.zero_le _) (Nat.zero_le _) ⟨rfl, rfl, rfl, rfl, rfl, rfl⟩
noncomputable def f_X12_isGood (Fu : Nat) (I : mIT)  : Option (Int32) :=
  if (I 75 14) = 0 then (some (1 : Int32)) else (some (0 : Int32))
set_option maxRecDepth 20000 in
theorem ok_X12_isGood {l : Launch} {E : mEn} {Fu : Nat} {I : mIT} {R : mRT} {L : mLT}  (hst : l.stackTraces = false) (hW : mWd R)  {out : Int32} (h : f_X12_isGood Fu I  = some out) : mOk l E mX12_isGood [.ref (mB E + 75)] 106 1 I R L 0 0 (mSame (some (.int (out))) 106 1 I R L) := by
  refine mOk_of hst (by decide) (Nat.le_of_ble_eq_true rfl) (fun X hC hE _ => ?_)
  have hC : mC X E mX12_isGood RX12 cX12_isGood := hC
  show mG X E 0 [(0, .ref (mB E + 75))] [] 106 1 I R L 0 0
  unfold f_X12_isGood at h
  refine g_aload_n hC dX12_isGood_0 rfl (q := 0) rfl ?_
  refine g_geti hC fd_RX12_170 rfl (by decide) (Or.inl rfl) dX12_isGood_1 ?_
  refine g_if_ne hC dX12_isGood_4 (tgt := 11) (by decide) (fun c4 => ?_) (fun c4 => ?_)
  · replace h := (if_neg c4).symm.trans h
    refine g_iconst hC dX12_isGood_11 (v := (0 : Int32)) (by decide) ?_
    cases h
    exact g_zret hC (by decide) hE rfl dX12_isGood_12 (Nat.zero_le _) (Nat.zero_le _) ⟨rfl, rfl, rfl, rfl, rfl, rfl⟩
  · replace h := (if_pos c4).symm.trans h
    refine g_iconst hC dX12_isGood_7 (v := (1 : Int32)) (by decide) ?_
    refine g_goto hC dX12_isGood_8 (tgt := 12) (by decide) ?_
    cases h
    exact g_zret hC (by decide) hE rfl dX12_isGood_12 (Nat.zero_le _) (Nat.zero_le _) ⟨rfl, rfl, rfl, rfl, rfl, rfl⟩
noncomputable def f_X12_byteAt (Fu : Nat) (I : mIT) (v1 : Int32) : Option (Int32) :=
  if (I 75 17) ≤ v1 then (some (0 : Int32)) else (oG (inB v1 700) (some (I 80 (v1).toNatClampNeg)))
set_option maxRecDepth 20000 in
theorem ok_X12_byteAt {l : Launch} {E : mEn} {Fu : Nat} {I : mIT} {R : mRT} {L : mLT} {v1 : Int32} (hst : l.stackTraces = false) (hW : mWd R)  {out : Int32} (h : f_X12_byteAt Fu I v1 = some out) : mOk l E mX12_byteAt [.ref (mB E + 75), .int v1] 106 1 I R L 0 0 (mSame (some (.int (out))) 106 1 I R L) := by
  refine mOk_of hst (by decide) (Nat.le_of_ble_eq_true rfl) (fun X hC hE _ => ?_)
  have hC : mC X E mX12_byteAt RX12 cX12_byteAt := hC
  show mG X E 0 [(0, .ref (mB E + 75)), (1, .int v1)] [] 106 1 I R L 0 0
  unfold f_X12_byteAt at h
  refine g_iload_n hC dX12_byteAt_0 rfl (q := 1) rfl ?_
  refine g_aload_n hC dX12_byteAt_1 rfl (q := 0) rfl ?_
  refine g_geti hC fd_RX12_124 rfl (by decide) (Or.inl rfl) dX12_byteAt_2 ?_
  refine g_ic_ge hC dX12_byteAt_5 (tgt := 17) (by decide) (fun c5 => ?_) (fun c5 => ?_)
  · replace h := (if_pos c5).symm.trans h
    refine g_iconst hC dX12_byteAt_17 (v := (0 : Int32)) (by decide) ?_
    cases h
    exact g_iret hC hE rfl dX12_byteAt_18 (Nat.zero_le _) (Nat.zero_le _) ⟨rfl, rfl, rfl, rfl, rfl, rfl⟩
  · replace h := (if_neg c5).symm.trans h
    refine g_aload_n hC dX12_byteAt_8 rfl (q := 0) rfl ?_
    refine g_getr hC fd_RX12_32 rfl (by decide) (C0 := "") (t0 := _) (Or.inr rfl) (rr_75_12 hW.1) dX12_byteAt_9 ?_
    refine g_iload_n hC dX12_byteAt_12 rfl (q := 1) rfl ?_
    obtain ⟨g13, h⟩ := oG_some h
    refine g_iald hC rfl (by decide) (inB_in g13) dX12_byteAt_13 ?_
    refine g_goto hC dX12_byteAt_14 (tgt := 18) (by decide) ?_
    cases h
    exact g_iret hC hE rfl dX12_byteAt_18 (Nat.zero_le _) (Nat.zero_le _) ⟨rfl, rfl, rfl, rfl, rfl, rfl⟩
noncomputable def f_X12_isLetter (Fu : Nat)  (v0 : Int32) : Option (Int32) :=
  if v0 < (97 : Int32) then (some (0 : Int32)) else (if (122 : Int32) < v0 then (some (0 : Int32)) else (some (1 : Int32)))
set_option maxRecDepth 20000 in
theorem ok_X12_isLetter {l : Launch} {E : mEn} {Fu : Nat} {I : mIT} {R : mRT} {L : mLT} {v0 : Int32} (hst : l.stackTraces = false) (hW : mWd R)  {out : Int32} (h : f_X12_isLetter Fu  v0 = some out) : mOk l E mX12_isLetter [.int v0] 106 1 I R L 0 0 (mSame (some (.int (out))) 106 1 I R L) := by
  refine mOk_of hst (by decide) (Nat.le_of_ble_eq_true rfl) (fun X hC hE _ => ?_)
  have hC : mC X E mX12_isLetter RX12 cX12_isLetter := hC
  show mG X E 0 [(0, .int v0)] [] 106 1 I R L 0 0
  unfold f_X12_isLetter at h
  refine g_iload_n hC dX12_isLetter_0 rfl (q := 0) rfl ?_
  refine g_bipush hC dX12_isLetter_1 (v := (97 : Int32)) (by decide) ?_
  refine g_ic_lt hC dX12_isLetter_3 (tgt := 16) (by decide) (fun c3 => ?_) (fun c3 => ?_)
  · replace h := (if_pos c3).symm.trans h
    refine g_iconst hC dX12_isLetter_16 (v := (0 : Int32)) (by decide) ?_
    cases h
    exact g_zret hC (by decide) hE rfl dX12_isLetter_17 (Nat.zero_le _) (Nat.zero_le _) ⟨rfl, rfl, rfl, rfl, rfl, rfl⟩
  · replace h := (if_neg c3).symm.trans h
    refine g_iload_n hC dX12_isLetter_6 rfl (q := 0) rfl ?_
    refine g_bipush hC dX12_isLetter_7 (v := (122 : Int32)) (by decide) ?_
    refine g_ic_gt hC dX12_isLetter_9 (tgt := 16) (by decide) (fun c9 => ?_) (fun c9 => ?_)
    · replace h := (if_pos c9).symm.trans h
      refine g_iconst hC dX12_isLetter_16 (v := (0 : Int32)) (by decide) ?_
      cases h
      exact g_zret hC (by decide) hE rfl dX12_isLetter_17 (Nat.zero_le _) (Nat.zero_le _) ⟨rfl, rfl, rfl, rfl, rfl, rfl⟩
    · replace h := (if_neg c9).symm.trans h
      refine g_iconst hC dX12_isLetter_12 (v := (1 : Int32)) (by decide) ?_
      refine g_goto hC dX12_isLetter_13 (tgt := 17) (by decide) ?_
      cases h
      exact g_zret hC (by decide) hE rfl dX12_isLetter_17 (Nat.zero_le _) (Nat.zero_le _) ⟨rfl, rfl, rfl, rfl, rfl, rfl⟩
noncomputable def f_X12_isDigit (Fu : Nat)  (v0 : Int32) : Option (Int32) :=
  if v0 < (48 : Int32) then (some (0 : Int32)) else (if (57 : Int32) < v0 then (some (0 : Int32)) else (some (1 : Int32)))
set_option maxRecDepth 20000 in
theorem ok_X12_isDigit {l : Launch} {E : mEn} {Fu : Nat} {I : mIT} {R : mRT} {L : mLT} {v0 : Int32} (hst : l.stackTraces = false) (hW : mWd R)  {out : Int32} (h : f_X12_isDigit Fu  v0 = some out) : mOk l E mX12_isDigit [.int v0] 106 1 I R L 0 0 (mSame (some (.int (out))) 106 1 I R L) := by
  refine mOk_of hst (by decide) (Nat.le_of_ble_eq_true rfl) (fun X hC hE _ => ?_)
  have hC : mC X E mX12_isDigit RX12 cX12_isDigit := hC
  show mG X E 0 [(0, .int v0)] [] 106 1 I R L 0 0
  unfold f_X12_isDigit at h
  refine g_iload_n hC dX12_isDigit_0 rfl (q := 0) rfl ?_
  refine g_bipush hC dX12_isDigit_1 (v := (48 : Int32)) (by decide) ?_
  refine g_ic_lt hC dX12_isDigit_3 (tgt := 16) (by decide) (fun c3 => ?_) (fun c3 => ?_)
  · replace h := (if_pos c3).symm.trans h
    refine g_iconst hC dX12_isDigit_16 (v := (0 : Int32)) (by decide) ?_
    cases h
    exact g_zret hC (by decide) hE rfl dX12_isDigit_17 (Nat.zero_le _) (Nat.zero_le _) ⟨rfl, rfl, rfl, rfl, rfl, rfl⟩
  · replace h := (if_neg c3).symm.trans h
    refine g_iload_n hC dX12_isDigit_6 rfl (q := 0) rfl ?_
    refine g_bipush hC dX12_isDigit_7 (v := (57 : Int32)) (by decide) ?_
    refine g_ic_gt hC dX12_isDigit_9 (tgt := 16) (by decide) (fun c9 => ?_) (fun c9 => ?_)
    · replace h := (if_pos c9).symm.trans h
      refine g_iconst hC dX12_isDigit_16 (v := (0 : Int32)) (by decide) ?_
      cases h
      exact g_zret hC (by decide) hE rfl dX12_isDigit_17 (Nat.zero_le _) (Nat.zero_le _) ⟨rfl, rfl, rfl, rfl, rfl, rfl⟩
    · replace h := (if_neg c9).symm.trans h
      refine g_iconst hC dX12_isDigit_12 (v := (1 : Int32)) (by decide) ?_
      refine g_goto hC dX12_isDigit_13 (tgt := 17) (by decide) ?_
      cases h
      exact g_zret hC (by decide) hE rfl dX12_isDigit_17 (Nat.zero_le _) (Nat.zero_le _) ⟨rfl, rfl, rfl, rfl, rfl, rfl⟩
noncomputable def b_X12_reads_323 (Fu : Nat)  (I : mIT) (L : mLT) : Option (mIT × mLT) :=
  some ((mU (mU I 75 19 (3 : Int32)) 75 21 (((mU I 75 19 (3 : Int32)) 75 18) - ((mU I 75 19 (3 : Int32)) 75 20))), L)
set_option maxRecDepth 20000 in
theorem bo_X12_reads_323 {X : mXT} {E : mEn} {Fu : Nat} {R : mRT}  (hC : mC X E mX12_reads RX12 cX12_reads) (hW : mWd R)   {out : mIT × mLT} (hE : mEd X E 0 0 (mSame none 106 1 (out.1) R (out.2)))  (I : mIT) (L : mLT) (h : b_X12_reads_323 Fu  I L = some out) : mG X E 323 [(0, .ref (mB E + 75))] [.ref (mB E + 75)] 106 1 I R L 0 0 := by
  unfold b_X12_reads_323 at h
  refine g_iconst hC dX12_reads_323 (v := (3 : Int32)) (by decide) ?_
  refine g_goto hC dX12_reads_324 (tgt := 328) (by decide) ?_
  refine g_puti hC fd_RX12_147 rfl (by decide) rfl dX12_reads_328 (nm_e ?_)
  refine g_aload_n hC dX12_reads_331 rfl (q := 0) rfl ?_
  refine g_aload_n hC dX12_reads_332 rfl (q := 0) rfl ?_
  refine g_geti hC fd_RX12_127 rfl (by decide) (Or.inl rfl) dX12_reads_333 ?_
  refine g_aload_n hC dX12_reads_336 rfl (q := 0) rfl ?_
  refine g_geti hC fd_RX12_134 rfl (by decide) (Or.inl rfl) dX12_reads_337 ?_
  refine g_isub hC dX12_reads_340 ?_
  refine g_puti hC fd_RX12_157 rfl (by decide) rfl dX12_reads_341 (nm_e ?_)
  cases h
  exact g_vret hC hE rfl dX12_reads_344 (Nat.zero_le _) (Nat.zero_le _) ⟨rfl, rfl, rfl, rfl, rfl, rfl⟩
noncomputable def b_X12_reads_187 (Fu : Nat) (k187_ : mIT × mLT → Option (mIT × mLT)) (I : mIT) (L : mLT) : Option (mIT × mLT) :=
  oB (f_X12_byteAt Fu I (I 75 18)) (fun r192 => oB (f_X12_isDigit Fu r192) (fun r195 => if r195 = 0 then (some ((mU (mU I 75 19 (2 : Int32)) 75 21 (((mU I 75 19 (2 : Int32)) 75 18) - ((mU I 75 19 (2 : Int32)) 75 20))), L)) else (if (4 : Int32) ≤ ((I 75 18) - (I 75 20)) then (k187_ ((mU I 75 18 ((I 75 18) + (1 : Int32))), L)) else (oB (f_X12_byteAt Fu I (I 75 18)) (fun r227 => k187_ ((mU (mU I 75 22 ((((10 : Int32) * (I 75 22)) + r227) - (48 : Int32))) 75 18 (((mU I 75 22 ((((10 : Int32) * (I 75 22)) + r227) - (48 : Int32))) 75 18) + (1 : Int32))), L))))))
set_option maxRecDepth 20000 in
theorem bo_X12_reads_187 {X : mXT} {E : mEn} {Fu : Nat} {R : mRT}  (hC : mC X E mX12_reads RX12 cX12_reads) (hW : mWd R)   {out : mIT × mLT} (hE : mEd X E 0 0 (mSame none 106 1 (out.1) R (out.2))) (k187_ : mIT × mLT → Option (mIT × mLT)) (hk187_ : ∀ (I : mIT) (L : mLT),  k187_ (I, L) = some out → mG X E 187 [(0, .ref (mB E + 75))] [] 106 1 I R L 0 0) (I : mIT) (L : mLT) (h : b_X12_reads_187 Fu k187_ I L = some out) : mG X E 187 [(0, .ref (mB E + 75))] [] 106 1 I R L 0 0 := by
  unfold b_X12_reads_187 at h
  refine g_aload_n hC dX12_reads_187 rfl (q := 0) rfl ?_
  refine g_aload_n hC dX12_reads_188 rfl (q := 0) rfl ?_
  refine g_geti hC fd_RX12_127 rfl (by decide) (Or.inl rfl) dX12_reads_189 ?_
  obtain ⟨r192, h192, h⟩ := oB_some h
  refine g_cV1 hC cv_X12_byteAt wd_1859 ⟨Nat.le_of_ble_eq_true rfl, Nat.le_of_ble_eq_true rfl⟩ rfl (by decide) dX12_reads_192 (As := [.int (I 75 18)]) (st := []) (ok_X12_byteAt hC.2.2.2.2.2.2.2.1 hW h192) rfl rfl (Nat.le_of_ble_eq_true rfl) ⟨Nat.zero_le _, Nat.zero_le _⟩ ?_
  obtain ⟨r195, h195, h⟩ := oB_some h
  refine g_cS1 hC cs_X12_isDigit wd_1866 ⟨Nat.le_of_ble_eq_true rfl, Nat.le_of_ble_eq_true rfl⟩ dX12_reads_195 (As := [.int r192]) (st := []) (ok_X12_isDigit hC.2.2.2.2.2.2.2.1 hW h195) rfl rfl (Nat.le_of_ble_eq_true rfl) ⟨Nat.zero_le _, Nat.zero_le _⟩ ?_
  refine g_if_eq hC dX12_reads_198 (tgt := 250) (by decide) (fun c198 => ?_) (fun c198 => ?_)
  · replace h := (if_pos c198).symm.trans h
    refine g_aload_n hC dX12_reads_250 rfl (q := 0) rfl ?_
    refine g_iconst hC dX12_reads_251 (v := (2 : Int32)) (by decide) ?_
    refine g_puti hC fd_RX12_147 rfl (by decide) rfl dX12_reads_252 (nm_e ?_)
    refine g_goto hC dX12_reads_255 (tgt := 331) (by decide) ?_
    refine g_aload_n hC dX12_reads_331 rfl (q := 0) rfl ?_
    refine g_aload_n hC dX12_reads_332 rfl (q := 0) rfl ?_
    refine g_geti hC fd_RX12_127 rfl (by decide) (Or.inl rfl) dX12_reads_333 ?_
    refine g_aload_n hC dX12_reads_336 rfl (q := 0) rfl ?_
    refine g_geti hC fd_RX12_134 rfl (by decide) (Or.inl rfl) dX12_reads_337 ?_
    refine g_isub hC dX12_reads_340 ?_
    refine g_puti hC fd_RX12_157 rfl (by decide) rfl dX12_reads_341 (nm_e ?_)
    cases h
    exact g_vret hC hE rfl dX12_reads_344 (Nat.zero_le _) (Nat.zero_le _) ⟨rfl, rfl, rfl, rfl, rfl, rfl⟩
  · replace h := (if_neg c198).symm.trans h
    refine g_aload_n hC dX12_reads_201 rfl (q := 0) rfl ?_
    refine g_geti hC fd_RX12_127 rfl (by decide) (Or.inl rfl) dX12_reads_202 ?_
    refine g_aload_n hC dX12_reads_205 rfl (q := 0) rfl ?_
    refine g_geti hC fd_RX12_134 rfl (by decide) (Or.inl rfl) dX12_reads_206 ?_
    refine g_isub hC dX12_reads_209 ?_
    refine g_iconst hC dX12_reads_210 (v := (4 : Int32)) (by decide) ?_
    refine g_ic_ge hC dX12_reads_211 (tgt := 237) (by decide) (fun c211 => ?_) (fun c211 => ?_)
    · replace h := (if_pos c211).symm.trans h
      refine g_aload_n hC dX12_reads_237 rfl (q := 0) rfl ?_
      refine g_dup hC dX12_reads_238 rfl ?_
      refine g_geti hC fd_RX12_127 rfl (by decide) (Or.inl rfl) dX12_reads_239 ?_
      refine g_iconst hC dX12_reads_242 (v := (1 : Int32)) (by decide) ?_
      refine g_iadd hC dX12_reads_243 ?_
      refine g_puti hC fd_RX12_127 rfl (by decide) rfl dX12_reads_244 (nm_e ?_)
      refine g_goto hC dX12_reads_247 (tgt := 187) (by decide) ?_
      exact hk187_ (mU I 75 18 ((I 75 18) + (1 : Int32))) L h
    · replace h := (if_neg c211).symm.trans h
      refine g_aload_n hC dX12_reads_214 rfl (q := 0) rfl ?_
      refine g_bipush hC dX12_reads_215 (v := (10 : Int32)) (by decide) ?_
      refine g_aload_n hC dX12_reads_217 rfl (q := 0) rfl ?_
      refine g_geti hC fd_RX12_141 rfl (by decide) (Or.inl rfl) dX12_reads_218 ?_
      refine g_imul hC dX12_reads_221 ?_
      refine g_aload_n hC dX12_reads_222 rfl (q := 0) rfl ?_
      refine g_aload_n hC dX12_reads_223 rfl (q := 0) rfl ?_
      refine g_geti hC fd_RX12_127 rfl (by decide) (Or.inl rfl) dX12_reads_224 ?_
      obtain ⟨r227, h227, h⟩ := oB_some h
      refine g_cV1 hC cv_X12_byteAt wd_1859 ⟨Nat.le_of_ble_eq_true rfl, Nat.le_of_ble_eq_true rfl⟩ rfl (by decide) dX12_reads_227 (As := [.int (I 75 18)]) (st := [.int ((10 : Int32) * (I 75 22)), .ref (mB E + 75)]) (ok_X12_byteAt hC.2.2.2.2.2.2.2.1 hW h227) rfl rfl (Nat.le_of_ble_eq_true rfl) ⟨Nat.zero_le _, Nat.zero_le _⟩ ?_
      refine g_iadd hC dX12_reads_230 ?_
      refine g_bipush hC dX12_reads_231 (v := (48 : Int32)) (by decide) ?_
      refine g_isub hC dX12_reads_233 ?_
      refine g_puti hC fd_RX12_141 rfl (by decide) rfl dX12_reads_234 (nm_e ?_)
      refine g_aload_n hC dX12_reads_237 rfl (q := 0) rfl ?_
      refine g_dup hC dX12_reads_238 rfl ?_
      refine g_geti hC fd_RX12_127 rfl (by decide) (Or.inl rfl) dX12_reads_239 ?_
      refine g_iconst hC dX12_reads_242 (v := (1 : Int32)) (by decide) ?_
      refine g_iadd hC dX12_reads_243 ?_
      refine g_puti hC fd_RX12_127 rfl (by decide) rfl dX12_reads_244 (nm_e ?_)
      refine g_goto hC dX12_reads_247 (tgt := 187) (by decide) ?_
      exact hk187_ (mU (mU I 75 22 ((((10 : Int32) * (I 75 22)) + r227) - (48 : Int32))) 75 18 (((mU I 75 22 ((((10 : Int32) * (I 75 22)) + r227) - (48 : Int32))) 75 18) + (1 : Int32))) L h
noncomputable def w_X12_reads_187 (Fu : Nat)  (N : Nat) (I : mIT) (L : mLT) : Option (mIT × mLT) :=
  loopF (fun self (s : mIT × mLT) => b_X12_reads_187 Fu self s.1 s.2) N (I, L)
theorem wo_X12_reads_187 {X : mXT} {E : mEn} {Fu : Nat} {R : mRT}  (hC : mC X E mX12_reads RX12 cX12_reads) (hW : mWd R)   {out : mIT × mLT} (hE : mEd X E 0 0 (mSame none 106 1 (out.1) R (out.2)))  (N : Nat) (I : mIT) (L : mLT) (h : w_X12_reads_187 Fu  N I L = some out) : mG X E 187 [(0, .ref (mB E + 75))] [] 106 1 I R L 0 0 :=
  loopF_ok (Gd := fun s : mIT × mLT => mG X E 187 [(0, .ref (mB E + 75))] [] 106 1 s.1 R s.2 0 0) (fun self hs s h => bo_X12_reads_187 hC hW hE self (fun I L h => hs (I, L) h) s.1 s.2 h) N (I, L) h
noncomputable def b_X12_reads_108 (Fu : Nat) (k108_ : mIT × mLT → Option (mIT × mLT)) (I : mIT) (L : mLT) : Option (mIT × mLT) :=
  oB (f_X12_byteAt Fu I (I 75 18)) (fun r113 => oB (f_X12_isLetter Fu r113) (fun r116 => if r116 = 0 then (some ((mU (mU I 75 19 (1 : Int32)) 75 21 (((mU I 75 19 (1 : Int32)) 75 18) - ((mU I 75 19 (1 : Int32)) 75 20))), L)) else (if (7 : Int32) ≤ ((I 75 18) - (I 75 20)) then (k108_ ((mU I 75 18 ((I 75 18) + (1 : Int32))), L)) else (oB (f_X12_byteAt Fu I (I 75 18)) (fun r148 => k108_ ((mU I 75 18 ((I 75 18) + (1 : Int32))), (mUL L 75 24 (((L 75 24) <<< (((5 : Int32)).toInt64 &&& 63)) ||| (((r148 - (96 : Int32))).toInt64)))))))))
set_option maxRecDepth 20000 in
theorem bo_X12_reads_108 {X : mXT} {E : mEn} {Fu : Nat} {R : mRT}  (hC : mC X E mX12_reads RX12 cX12_reads) (hW : mWd R)   {out : mIT × mLT} (hE : mEd X E 0 0 (mSame none 106 1 (out.1) R (out.2))) (k108_ : mIT × mLT → Option (mIT × mLT)) (hk108_ : ∀ (I : mIT) (L : mLT),  k108_ (I, L) = some out → mG X E 108 [(0, .ref (mB E + 75))] [] 106 1 I R L 0 0) (I : mIT) (L : mLT) (h : b_X12_reads_108 Fu k108_ I L = some out) : mG X E 108 [(0, .ref (mB E + 75))] [] 106 1 I R L 0 0 := by
  unfold b_X12_reads_108 at h
  refine g_aload_n hC dX12_reads_108 rfl (q := 0) rfl ?_
  refine g_aload_n hC dX12_reads_109 rfl (q := 0) rfl ?_
  refine g_geti hC fd_RX12_127 rfl (by decide) (Or.inl rfl) dX12_reads_110 ?_
  obtain ⟨r113, h113, h⟩ := oB_some h
  refine g_cV1 hC cv_X12_byteAt wd_1859 ⟨Nat.le_of_ble_eq_true rfl, Nat.le_of_ble_eq_true rfl⟩ rfl (by decide) dX12_reads_113 (As := [.int (I 75 18)]) (st := []) (ok_X12_byteAt hC.2.2.2.2.2.2.2.1 hW h113) rfl rfl (Nat.le_of_ble_eq_true rfl) ⟨Nat.zero_le _, Nat.zero_le _⟩ ?_
  obtain ⟨r116, h116, h⟩ := oB_some h
  refine g_cS1 hC cs_X12_isLetter wd_1863 ⟨Nat.le_of_ble_eq_true rfl, Nat.le_of_ble_eq_true rfl⟩ dX12_reads_116 (As := [.int r113]) (st := []) (ok_X12_isLetter hC.2.2.2.2.2.2.2.1 hW h116) rfl rfl (Nat.le_of_ble_eq_true rfl) ⟨Nat.zero_le _, Nat.zero_le _⟩ ?_
  refine g_if_eq hC dX12_reads_119 (tgt := 172) (by decide) (fun c119 => ?_) (fun c119 => ?_)
  · replace h := (if_pos c119).symm.trans h
    refine g_aload_n hC dX12_reads_172 rfl (q := 0) rfl ?_
    refine g_iconst hC dX12_reads_173 (v := (1 : Int32)) (by decide) ?_
    refine g_puti hC fd_RX12_147 rfl (by decide) rfl dX12_reads_174 (nm_e ?_)
    refine g_goto hC dX12_reads_177 (tgt := 331) (by decide) ?_
    refine g_aload_n hC dX12_reads_331 rfl (q := 0) rfl ?_
    refine g_aload_n hC dX12_reads_332 rfl (q := 0) rfl ?_
    refine g_geti hC fd_RX12_127 rfl (by decide) (Or.inl rfl) dX12_reads_333 ?_
    refine g_aload_n hC dX12_reads_336 rfl (q := 0) rfl ?_
    refine g_geti hC fd_RX12_134 rfl (by decide) (Or.inl rfl) dX12_reads_337 ?_
    refine g_isub hC dX12_reads_340 ?_
    refine g_puti hC fd_RX12_157 rfl (by decide) rfl dX12_reads_341 (nm_e ?_)
    cases h
    exact g_vret hC hE rfl dX12_reads_344 (Nat.zero_le _) (Nat.zero_le _) ⟨rfl, rfl, rfl, rfl, rfl, rfl⟩
  · replace h := (if_neg c119).symm.trans h
    refine g_aload_n hC dX12_reads_122 rfl (q := 0) rfl ?_
    refine g_geti hC fd_RX12_127 rfl (by decide) (Or.inl rfl) dX12_reads_123 ?_
    refine g_aload_n hC dX12_reads_126 rfl (q := 0) rfl ?_
    refine g_geti hC fd_RX12_134 rfl (by decide) (Or.inl rfl) dX12_reads_127 ?_
    refine g_isub hC dX12_reads_130 ?_
    refine g_bipush hC dX12_reads_131 (v := (7 : Int32)) (by decide) ?_
    refine g_ic_ge hC dX12_reads_133 (tgt := 159) (by decide) (fun c133 => ?_) (fun c133 => ?_)
    · replace h := (if_pos c133).symm.trans h
      refine g_aload_n hC dX12_reads_159 rfl (q := 0) rfl ?_
      refine g_dup hC dX12_reads_160 rfl ?_
      refine g_geti hC fd_RX12_127 rfl (by decide) (Or.inl rfl) dX12_reads_161 ?_
      refine g_iconst hC dX12_reads_164 (v := (1 : Int32)) (by decide) ?_
      refine g_iadd hC dX12_reads_165 ?_
      refine g_puti hC fd_RX12_127 rfl (by decide) rfl dX12_reads_166 (nm_e ?_)
      refine g_goto hC dX12_reads_169 (tgt := 108) (by decide) ?_
      exact hk108_ (mU I 75 18 ((I 75 18) + (1 : Int32))) L h
    · replace h := (if_neg c133).symm.trans h
      refine g_aload_n hC dX12_reads_136 rfl (q := 0) rfl ?_
      refine g_aload_n hC dX12_reads_137 rfl (q := 0) rfl ?_
      refine g_getl hC fd_RX12_137 rfl (by decide) rfl dX12_reads_138 ?_
      refine g_iconst hC dX12_reads_141 (v := (5 : Int32)) (by decide) ?_
      refine g_lshl hC dX12_reads_142 ?_
      refine g_aload_n hC dX12_reads_143 rfl (q := 0) rfl ?_
      refine g_aload_n hC dX12_reads_144 rfl (q := 0) rfl ?_
      refine g_geti hC fd_RX12_127 rfl (by decide) (Or.inl rfl) dX12_reads_145 ?_
      obtain ⟨r148, h148, h⟩ := oB_some h
      refine g_cV1 hC cv_X12_byteAt wd_1859 ⟨Nat.le_of_ble_eq_true rfl, Nat.le_of_ble_eq_true rfl⟩ rfl (by decide) dX12_reads_148 (As := [.int (I 75 18)]) (st := [.long ((L 75 24) <<< (((5 : Int32)).toInt64 &&& 63)), .ref (mB E + 75)]) (ok_X12_byteAt hC.2.2.2.2.2.2.2.1 hW h148) rfl rfl (Nat.le_of_ble_eq_true rfl) ⟨Nat.zero_le _, Nat.zero_le _⟩ ?_
      refine g_bipush hC dX12_reads_151 (v := (96 : Int32)) (by decide) ?_
      refine g_isub hC dX12_reads_153 ?_
      refine g_i2l hC dX12_reads_154 ?_
      refine g_lor hC dX12_reads_155 ?_
      refine g_putl hC fd_RX12_137 rfl (by decide) rfl dX12_reads_156 (nm_e ?_)
      refine g_aload_n hC dX12_reads_159 rfl (q := 0) rfl ?_
      refine g_dup hC dX12_reads_160 rfl ?_
      refine g_geti hC fd_RX12_127 rfl (by decide) (Or.inl rfl) dX12_reads_161 ?_
      refine g_iconst hC dX12_reads_164 (v := (1 : Int32)) (by decide) ?_
      refine g_iadd hC dX12_reads_165 ?_
      refine g_puti hC fd_RX12_127 rfl (by decide) rfl dX12_reads_166 (nm_e ?_)
      refine g_goto hC dX12_reads_169 (tgt := 108) (by decide) ?_
      exact hk108_ (mU I 75 18 ((I 75 18) + (1 : Int32))) (mUL L 75 24 (((L 75 24) <<< (((5 : Int32)).toInt64 &&& 63)) ||| (((r148 - (96 : Int32))).toInt64))) h
noncomputable def w_X12_reads_108 (Fu : Nat)  (N : Nat) (I : mIT) (L : mLT) : Option (mIT × mLT) :=
  loopF (fun self (s : mIT × mLT) => b_X12_reads_108 Fu self s.1 s.2) N (I, L)
theorem wo_X12_reads_108 {X : mXT} {E : mEn} {Fu : Nat} {R : mRT}  (hC : mC X E mX12_reads RX12 cX12_reads) (hW : mWd R)   {out : mIT × mLT} (hE : mEd X E 0 0 (mSame none 106 1 (out.1) R (out.2)))  (N : Nat) (I : mIT) (L : mLT) (h : w_X12_reads_108 Fu  N I L = some out) : mG X E 108 [(0, .ref (mB E + 75))] [] 106 1 I R L 0 0 :=
  loopF_ok (Gd := fun s : mIT × mLT => mG X E 108 [(0, .ref (mB E + 75))] [] 106 1 s.1 R s.2 0 0) (fun self hs s h => bo_X12_reads_108 hC hW hE self (fun I L h => hs (I, L) h) s.1 s.2 h) N (I, L) h
noncomputable def b_X12_reads_50 (Fu : Nat)  (I : mIT) (L : mLT) : Option (mIT × mLT) :=
  oB (f_X12_byteAt Fu (mU (mU I 75 20 (I 75 18)) 75 22 (0 : Int32)) ((mU (mU I 75 20 (I 75 18)) 75 22 (0 : Int32)) 75 18)) (fun r73 => if ((mU (mU (mU I 75 20 (I 75 18)) 75 22 (0 : Int32)) 75 23 r73) 75 18) < ((mU (mU (mU I 75 20 (I 75 18)) 75 22 (0 : Int32)) 75 23 r73) 75 17) then (oB (f_X12_isLetter Fu r73) (fun r102 => if r102 = 0 then (oB (f_X12_isDigit Fu r73) (fun r181 => if r181 = 0 then (if r73 = (59 : Int32) then (b_X12_reads_323 Fu (mU (mU (mU (mU I 75 20 (I 75 18)) 75 22 (0 : Int32)) 75 23 r73) 75 18 (((mU (mU (mU I 75 20 (I 75 18)) 75 22 (0 : Int32)) 75 23 r73) 75 18) + (1 : Int32))) (mUL L 75 24 (0 : Int64))) else (if r73 = (40 : Int32) then (b_X12_reads_323 Fu (mU (mU (mU (mU I 75 20 (I 75 18)) 75 22 (0 : Int32)) 75 23 r73) 75 18 (((mU (mU (mU I 75 20 (I 75 18)) 75 22 (0 : Int32)) 75 23 r73) 75 18) + (1 : Int32))) (mUL L 75 24 (0 : Int64))) else (if r73 = (41 : Int32) then (b_X12_reads_323 Fu (mU (mU (mU (mU I 75 20 (I 75 18)) 75 22 (0 : Int32)) 75 23 r73) 75 18 (((mU (mU (mU I 75 20 (I 75 18)) 75 22 (0 : Int32)) 75 23 r73) 75 18) + (1 : Int32))) (mUL L 75 24 (0 : Int64))) else (if r73 = (43 : Int32) then (b_X12_reads_323 Fu (mU (mU (mU (mU I 75 20 (I 75 18)) 75 22 (0 : Int32)) 75 23 r73) 75 18 (((mU (mU (mU I 75 20 (I 75 18)) 75 22 (0 : Int32)) 75 23 r73) 75 18) + (1 : Int32))) (mUL L 75 24 (0 : Int64))) else (if r73 = (45 : Int32) then (b_X12_reads_323 Fu (mU (mU (mU (mU I 75 20 (I 75 18)) 75 22 (0 : Int32)) 75 23 r73) 75 18 (((mU (mU (mU I 75 20 (I 75 18)) 75 22 (0 : Int32)) 75 23 r73) 75 18) + (1 : Int32))) (mUL L 75 24 (0 : Int64))) else (if r73 = (42 : Int32) then (b_X12_reads_323 Fu (mU (mU (mU (mU I 75 20 (I 75 18)) 75 22 (0 : Int32)) 75 23 r73) 75 18 (((mU (mU (mU I 75 20 (I 75 18)) 75 22 (0 : Int32)) 75 23 r73) 75 18) + (1 : Int32))) (mUL L 75 24 (0 : Int64))) else (if r73 = (47 : Int32) then (b_X12_reads_323 Fu (mU (mU (mU (mU I 75 20 (I 75 18)) 75 22 (0 : Int32)) 75 23 r73) 75 18 (((mU (mU (mU I 75 20 (I 75 18)) 75 22 (0 : Int32)) 75 23 r73) 75 18) + (1 : Int32))) (mUL L 75 24 (0 : Int64))) else (if r73 = (60 : Int32) then (b_X12_reads_323 Fu (mU (mU (mU (mU I 75 20 (I 75 18)) 75 22 (0 : Int32)) 75 23 r73) 75 18 (((mU (mU (mU I 75 20 (I 75 18)) 75 22 (0 : Int32)) 75 23 r73) 75 18) + (1 : Int32))) (mUL L 75 24 (0 : Int64))) else (if r73 = (61 : Int32) then (b_X12_reads_323 Fu (mU (mU (mU (mU I 75 20 (I 75 18)) 75 22 (0 : Int32)) 75 23 r73) 75 18 (((mU (mU (mU I 75 20 (I 75 18)) 75 22 (0 : Int32)) 75 23 r73) 75 18) + (1 : Int32))) (mUL L 75 24 (0 : Int64))) else (some ((mU (mU (mU (mU (mU (mU I 75 20 (I 75 18)) 75 22 (0 : Int32)) 75 23 r73) 75 18 (((mU (mU (mU I 75 20 (I 75 18)) 75 22 (0 : Int32)) 75 23 r73) 75 18) + (1 : Int32))) 75 19 (4 : Int32)) 75 21 (((mU (mU (mU (mU (mU I 75 20 (I 75 18)) 75 22 (0 : Int32)) 75 23 r73) 75 18 (((mU (mU (mU I 75 20 (I 75 18)) 75 22 (0 : Int32)) 75 23 r73) 75 18) + (1 : Int32))) 75 19 (4 : Int32)) 75 18) - ((mU (mU (mU (mU (mU I 75 20 (I 75 18)) 75 22 (0 : Int32)) 75 23 r73) 75 18 (((mU (mU (mU I 75 20 (I 75 18)) 75 22 (0 : Int32)) 75 23 r73) 75 18) + (1 : Int32))) 75 19 (4 : Int32)) 75 20))), (mUL L 75 24 (0 : Int64))))))))))))) else (w_X12_reads_187 Fu Fu (mU (mU (mU I 75 20 (I 75 18)) 75 22 (0 : Int32)) 75 23 r73) (mUL L 75 24 (0 : Int64))))) else (w_X12_reads_108 Fu Fu (mU (mU (mU I 75 20 (I 75 18)) 75 22 (0 : Int32)) 75 23 r73) (mUL L 75 24 (0 : Int64))))) else (some ((mU (mU (mU (mU (mU I 75 20 (I 75 18)) 75 22 (0 : Int32)) 75 23 r73) 75 19 (0 : Int32)) 75 21 (((mU (mU (mU (mU I 75 20 (I 75 18)) 75 22 (0 : Int32)) 75 23 r73) 75 19 (0 : Int32)) 75 18) - ((mU (mU (mU (mU I 75 20 (I 75 18)) 75 22 (0 : Int32)) 75 23 r73) 75 19 (0 : Int32)) 75 20))), (mUL L 75 24 (0 : Int64)))))
set_option maxRecDepth 20000 in
theorem bo_X12_reads_50 {X : mXT} {E : mEn} {Fu : Nat} {R : mRT}  (hC : mC X E mX12_reads RX12 cX12_reads) (hW : mWd R)   {out : mIT × mLT} (hE : mEd X E 0 0 (mSame none 106 1 (out.1) R (out.2)))  (I : mIT) (L : mLT) (h : b_X12_reads_50 Fu  I L = some out) : mG X E 50 [(0, .ref (mB E + 75))] [] 106 1 I R L 0 0 := by
  unfold b_X12_reads_50 at h
  refine g_aload_n hC dX12_reads_50 rfl (q := 0) rfl ?_
  refine g_aload_n hC dX12_reads_51 rfl (q := 0) rfl ?_
  refine g_geti hC fd_RX12_127 rfl (by decide) (Or.inl rfl) dX12_reads_52 ?_
  refine g_puti hC fd_RX12_134 rfl (by decide) rfl dX12_reads_55 (nm_e ?_)
  refine g_aload_n hC dX12_reads_58 rfl (q := 0) rfl ?_
  refine g_lconst hC dX12_reads_59 (v := 0) (by decide) ?_
  refine g_putl hC fd_RX12_137 rfl (by decide) rfl dX12_reads_60 (nm_e ?_)
  refine g_aload_n hC dX12_reads_63 rfl (q := 0) rfl ?_
  refine g_iconst hC dX12_reads_64 (v := (0 : Int32)) (by decide) ?_
  refine g_puti hC fd_RX12_141 rfl (by decide) rfl dX12_reads_65 (nm_e ?_)
  refine g_aload_n hC dX12_reads_68 rfl (q := 0) rfl ?_
  refine g_aload_n hC dX12_reads_69 rfl (q := 0) rfl ?_
  refine g_geti hC fd_RX12_127 rfl (by decide) (Or.inl rfl) dX12_reads_70 ?_
  obtain ⟨r73, h73, h⟩ := oB_some h
  refine g_cV1 hC cv_X12_byteAt wd_1859 ⟨Nat.le_of_ble_eq_true rfl, Nat.le_of_ble_eq_true rfl⟩ rfl (by decide) dX12_reads_73 (As := [.int ((mU (mU I 75 20 (I 75 18)) 75 22 (0 : Int32)) 75 18)]) (st := []) (ok_X12_byteAt hC.2.2.2.2.2.2.2.1 hW h73) rfl rfl (Nat.le_of_ble_eq_true rfl) ⟨Nat.zero_le _, Nat.zero_le _⟩ ?_
  refine g_istore_n hC dX12_reads_76 rfl rfl (by decide) (lv' := [(1, .int r73), (0, .ref (mB E + 75))]) rfl ?_
  refine g_aload_n hC dX12_reads_77 rfl (q := 1) rfl ?_
  refine g_iload_n hC dX12_reads_78 rfl (q := 0) rfl ?_
  refine g_puti hC fd_RX12_144 rfl (by decide) rfl dX12_reads_79 (nm_e ?_)
  refine g_aload_n hC dX12_reads_82 rfl (q := 1) rfl ?_
  refine g_geti hC fd_RX12_127 rfl (by decide) (Or.inl rfl) dX12_reads_83 ?_
  refine g_aload_n hC dX12_reads_86 rfl (q := 1) rfl ?_
  refine g_geti hC fd_RX12_124 rfl (by decide) (Or.inl rfl) dX12_reads_87 ?_
  refine g_ic_lt hC dX12_reads_90 (tgt := 101) (by decide) (fun c90 => ?_) (fun c90 => ?_)
  · replace h := (if_pos c90).symm.trans h
    refine g_iload_n hC dX12_reads_101 rfl (q := 0) rfl ?_
    obtain ⟨r102, h102, h⟩ := oB_some h
    refine g_cS1 hC cs_X12_isLetter wd_1863 ⟨Nat.le_of_ble_eq_true rfl, Nat.le_of_ble_eq_true rfl⟩ dX12_reads_102 (As := [.int r73]) (st := []) (ok_X12_isLetter hC.2.2.2.2.2.2.2.1 hW h102) rfl rfl (Nat.le_of_ble_eq_true rfl) ⟨Nat.zero_le _, Nat.zero_le _⟩ ?_
    refine g_if_eq hC dX12_reads_105 (tgt := 180) (by decide) (fun c105 => ?_) (fun c105 => ?_)
    · replace h := (if_pos c105).symm.trans h
      refine g_iload_n hC dX12_reads_180 rfl (q := 0) rfl ?_
      obtain ⟨r181, h181, h⟩ := oB_some h
      refine g_cS1 hC cs_X12_isDigit wd_1866 ⟨Nat.le_of_ble_eq_true rfl, Nat.le_of_ble_eq_true rfl⟩ dX12_reads_181 (As := [.int r73]) (st := []) (ok_X12_isDigit hC.2.2.2.2.2.2.2.1 hW h181) rfl rfl (Nat.le_of_ble_eq_true rfl) ⟨Nat.zero_le _, Nat.zero_le _⟩ ?_
      refine g_if_eq hC dX12_reads_184 (tgt := 258) (by decide) (fun c184 => ?_) (fun c184 => ?_)
      · replace h := (if_pos c184).symm.trans h
        refine g_aload_n hC dX12_reads_258 rfl (q := 1) rfl ?_
        refine g_dup hC dX12_reads_259 rfl ?_
        refine g_geti hC fd_RX12_127 rfl (by decide) (Or.inl rfl) dX12_reads_260 ?_
        refine g_iconst hC dX12_reads_263 (v := (1 : Int32)) (by decide) ?_
        refine g_iadd hC dX12_reads_264 ?_
        refine g_puti hC fd_RX12_127 rfl (by decide) rfl dX12_reads_265 (nm_e ?_)
        refine g_aload_n hC dX12_reads_268 rfl (q := 1) rfl ?_
        refine g_iload_n hC dX12_reads_269 rfl (q := 0) rfl ?_
        refine g_bipush hC dX12_reads_270 (v := (59 : Int32)) (by decide) ?_
        refine g_ic_eq hC dX12_reads_272 (tgt := 323) (by decide) (fun c272 => ?_) (fun c272 => ?_)
        · replace h := (if_pos c272).symm.trans h
          refine g_lv [1] rfl ?_
          exact bo_X12_reads_323 hC hW hE ((mU (mU (mU (mU I 75 20 (I 75 18)) 75 22 (0 : Int32)) 75 23 r73) 75 18 (((mU (mU (mU I 75 20 (I 75 18)) 75 22 (0 : Int32)) 75 23 r73) 75 18) + (1 : Int32)))) ((mUL L 75 24 (0 : Int64))) h
        · replace h := (if_neg c272).symm.trans h
          refine g_iload_n hC dX12_reads_275 rfl (q := 0) rfl ?_
          refine g_bipush hC dX12_reads_276 (v := (40 : Int32)) (by decide) ?_
          refine g_ic_eq hC dX12_reads_278 (tgt := 323) (by decide) (fun c278 => ?_) (fun c278 => ?_)
          · replace h := (if_pos c278).symm.trans h
            refine g_lv [1] rfl ?_
            exact bo_X12_reads_323 hC hW hE ((mU (mU (mU (mU I 75 20 (I 75 18)) 75 22 (0 : Int32)) 75 23 r73) 75 18 (((mU (mU (mU I 75 20 (I 75 18)) 75 22 (0 : Int32)) 75 23 r73) 75 18) + (1 : Int32)))) ((mUL L 75 24 (0 : Int64))) h
          · replace h := (if_neg c278).symm.trans h
            refine g_iload_n hC dX12_reads_281 rfl (q := 0) rfl ?_
            refine g_bipush hC dX12_reads_282 (v := (41 : Int32)) (by decide) ?_
            refine g_ic_eq hC dX12_reads_284 (tgt := 323) (by decide) (fun c284 => ?_) (fun c284 => ?_)
            · replace h := (if_pos c284).symm.trans h
              refine g_lv [1] rfl ?_
              exact bo_X12_reads_323 hC hW hE ((mU (mU (mU (mU I 75 20 (I 75 18)) 75 22 (0 : Int32)) 75 23 r73) 75 18 (((mU (mU (mU I 75 20 (I 75 18)) 75 22 (0 : Int32)) 75 23 r73) 75 18) + (1 : Int32)))) ((mUL L 75 24 (0 : Int64))) h
            · replace h := (if_neg c284).symm.trans h
              refine g_iload_n hC dX12_reads_287 rfl (q := 0) rfl ?_
              refine g_bipush hC dX12_reads_288 (v := (43 : Int32)) (by decide) ?_
              refine g_ic_eq hC dX12_reads_290 (tgt := 323) (by decide) (fun c290 => ?_) (fun c290 => ?_)
              · replace h := (if_pos c290).symm.trans h
                refine g_lv [1] rfl ?_
                exact bo_X12_reads_323 hC hW hE ((mU (mU (mU (mU I 75 20 (I 75 18)) 75 22 (0 : Int32)) 75 23 r73) 75 18 (((mU (mU (mU I 75 20 (I 75 18)) 75 22 (0 : Int32)) 75 23 r73) 75 18) + (1 : Int32)))) ((mUL L 75 24 (0 : Int64))) h
              · replace h := (if_neg c290).symm.trans h
                refine g_iload_n hC dX12_reads_293 rfl (q := 0) rfl ?_
                refine g_bipush hC dX12_reads_294 (v := (45 : Int32)) (by decide) ?_
                refine g_ic_eq hC dX12_reads_296 (tgt := 323) (by decide) (fun c296 => ?_) (fun c296 => ?_)
                · replace h := (if_pos c296).symm.trans h
                  refine g_lv [1] rfl ?_
                  exact bo_X12_reads_323 hC hW hE ((mU (mU (mU (mU I 75 20 (I 75 18)) 75 22 (0 : Int32)) 75 23 r73) 75 18 (((mU (mU (mU I 75 20 (I 75 18)) 75 22 (0 : Int32)) 75 23 r73) 75 18) + (1 : Int32)))) ((mUL L 75 24 (0 : Int64))) h
                · replace h := (if_neg c296).symm.trans h
                  refine g_iload_n hC dX12_reads_299 rfl (q := 0) rfl ?_
                  refine g_bipush hC dX12_reads_300 (v := (42 : Int32)) (by decide) ?_
                  refine g_ic_eq hC dX12_reads_302 (tgt := 323) (by decide) (fun c302 => ?_) (fun c302 => ?_)
                  · replace h := (if_pos c302).symm.trans h
                    refine g_lv [1] rfl ?_
                    exact bo_X12_reads_323 hC hW hE ((mU (mU (mU (mU I 75 20 (I 75 18)) 75 22 (0 : Int32)) 75 23 r73) 75 18 (((mU (mU (mU I 75 20 (I 75 18)) 75 22 (0 : Int32)) 75 23 r73) 75 18) + (1 : Int32)))) ((mUL L 75 24 (0 : Int64))) h
                  · replace h := (if_neg c302).symm.trans h
                    refine g_iload_n hC dX12_reads_305 rfl (q := 0) rfl ?_
                    refine g_bipush hC dX12_reads_306 (v := (47 : Int32)) (by decide) ?_
                    refine g_ic_eq hC dX12_reads_308 (tgt := 323) (by decide) (fun c308 => ?_) (fun c308 => ?_)
                    · replace h := (if_pos c308).symm.trans h
                      refine g_lv [1] rfl ?_
                      exact bo_X12_reads_323 hC hW hE ((mU (mU (mU (mU I 75 20 (I 75 18)) 75 22 (0 : Int32)) 75 23 r73) 75 18 (((mU (mU (mU I 75 20 (I 75 18)) 75 22 (0 : Int32)) 75 23 r73) 75 18) + (1 : Int32)))) ((mUL L 75 24 (0 : Int64))) h
                    · replace h := (if_neg c308).symm.trans h
                      refine g_iload_n hC dX12_reads_311 rfl (q := 0) rfl ?_
                      refine g_bipush hC dX12_reads_312 (v := (60 : Int32)) (by decide) ?_
                      refine g_ic_eq hC dX12_reads_314 (tgt := 323) (by decide) (fun c314 => ?_) (fun c314 => ?_)
                      · replace h := (if_pos c314).symm.trans h
                        refine g_lv [1] rfl ?_
                        exact bo_X12_reads_323 hC hW hE ((mU (mU (mU (mU I 75 20 (I 75 18)) 75 22 (0 : Int32)) 75 23 r73) 75 18 (((mU (mU (mU I 75 20 (I 75 18)) 75 22 (0 : Int32)) 75 23 r73) 75 18) + (1 : Int32)))) ((mUL L 75 24 (0 : Int64))) h
                      · replace h := (if_neg c314).symm.trans h
                        refine g_iload_n hC dX12_reads_317 rfl (q := 0) rfl ?_
                        refine g_bipush hC dX12_reads_318 (v := (61 : Int32)) (by decide) ?_
                        refine g_ic_ne hC dX12_reads_320 (tgt := 327) (by decide) (fun c320 => ?_) (fun c320 => ?_)
                        · replace h := (if_neg c320).symm.trans h
                          refine g_iconst hC dX12_reads_327 (v := (4 : Int32)) (by decide) ?_
                          refine g_puti hC fd_RX12_147 rfl (by decide) rfl dX12_reads_328 (nm_e ?_)
                          refine g_aload_n hC dX12_reads_331 rfl (q := 1) rfl ?_
                          refine g_aload_n hC dX12_reads_332 rfl (q := 1) rfl ?_
                          refine g_geti hC fd_RX12_127 rfl (by decide) (Or.inl rfl) dX12_reads_333 ?_
                          refine g_aload_n hC dX12_reads_336 rfl (q := 1) rfl ?_
                          refine g_geti hC fd_RX12_134 rfl (by decide) (Or.inl rfl) dX12_reads_337 ?_
                          refine g_isub hC dX12_reads_340 ?_
                          refine g_puti hC fd_RX12_157 rfl (by decide) rfl dX12_reads_341 (nm_e ?_)
                          cases h
                          exact g_vret hC hE rfl dX12_reads_344 (Nat.zero_le _) (Nat.zero_le _) ⟨rfl, rfl, rfl, rfl, rfl, rfl⟩
                        · replace h := (if_pos c320).symm.trans h
                          refine g_lv [1] rfl ?_
                          exact bo_X12_reads_323 hC hW hE ((mU (mU (mU (mU I 75 20 (I 75 18)) 75 22 (0 : Int32)) 75 23 r73) 75 18 (((mU (mU (mU I 75 20 (I 75 18)) 75 22 (0 : Int32)) 75 23 r73) 75 18) + (1 : Int32)))) ((mUL L 75 24 (0 : Int64))) h
      · replace h := (if_neg c184).symm.trans h
        refine g_lv [1] rfl ?_
        exact wo_X12_reads_187 hC hW hE Fu ((mU (mU (mU I 75 20 (I 75 18)) 75 22 (0 : Int32)) 75 23 r73)) ((mUL L 75 24 (0 : Int64))) h
    · replace h := (if_neg c105).symm.trans h
      refine g_lv [1] rfl ?_
      exact wo_X12_reads_108 hC hW hE Fu ((mU (mU (mU I 75 20 (I 75 18)) 75 22 (0 : Int32)) 75 23 r73)) ((mUL L 75 24 (0 : Int64))) h
  · replace h := (if_neg c90).symm.trans h
    refine g_aload_n hC dX12_reads_93 rfl (q := 1) rfl ?_
    refine g_iconst hC dX12_reads_94 (v := (0 : Int32)) (by decide) ?_
    refine g_puti hC fd_RX12_147 rfl (by decide) rfl dX12_reads_95 (nm_e ?_)
    refine g_goto hC dX12_reads_98 (tgt := 331) (by decide) ?_
    refine g_aload_n hC dX12_reads_331 rfl (q := 1) rfl ?_
    refine g_aload_n hC dX12_reads_332 rfl (q := 1) rfl ?_
    refine g_geti hC fd_RX12_127 rfl (by decide) (Or.inl rfl) dX12_reads_333 ?_
    refine g_aload_n hC dX12_reads_336 rfl (q := 1) rfl ?_
    refine g_geti hC fd_RX12_134 rfl (by decide) (Or.inl rfl) dX12_reads_337 ?_
    refine g_isub hC dX12_reads_340 ?_
    refine g_puti hC fd_RX12_157 rfl (by decide) rfl dX12_reads_341 (nm_e ?_)
    cases h
    exact g_vret hC hE rfl dX12_reads_344 (Nat.zero_le _) (Nat.zero_le _) ⟨rfl, rfl, rfl, rfl, rfl, rfl⟩
noncomputable def b_X12_reads_0 (Fu : Nat) (k0_ : mIT × mLT → Option (mIT × mLT)) (I : mIT) (L : mLT) : Option (mIT × mLT) :=
  if (I 75 17) ≤ (I 75 18) then (b_X12_reads_50 Fu I L) else (oB (f_X12_byteAt Fu I (I 75 18)) (fun r16 => if r16 = (32 : Int32) then (k0_ ((mU I 75 18 ((I 75 18) + (1 : Int32))), L)) else (oB (f_X12_byteAt Fu I (I 75 18)) (fun r29 => if r29 = (10 : Int32) then (k0_ ((mU I 75 18 ((I 75 18) + (1 : Int32))), L)) else (b_X12_reads_50 Fu I L)))))
set_option maxRecDepth 20000 in
theorem bo_X12_reads_0 {X : mXT} {E : mEn} {Fu : Nat} {R : mRT}  (hC : mC X E mX12_reads RX12 cX12_reads) (hW : mWd R)   {out : mIT × mLT} (hE : mEd X E 0 0 (mSame none 106 1 (out.1) R (out.2))) (k0_ : mIT × mLT → Option (mIT × mLT)) (hk0_ : ∀ (I : mIT) (L : mLT),  k0_ (I, L) = some out → mG X E 0 [(0, .ref (mB E + 75))] [] 106 1 I R L 0 0) (I : mIT) (L : mLT) (h : b_X12_reads_0 Fu k0_ I L = some out) : mG X E 0 [(0, .ref (mB E + 75))] [] 106 1 I R L 0 0 := by
  unfold b_X12_reads_0 at h
  refine g_aload_n hC dX12_reads_0 rfl (q := 0) rfl ?_
  refine g_geti hC fd_RX12_127 rfl (by decide) (Or.inl rfl) dX12_reads_1 ?_
  refine g_aload_n hC dX12_reads_4 rfl (q := 0) rfl ?_
  refine g_geti hC fd_RX12_124 rfl (by decide) (Or.inl rfl) dX12_reads_5 ?_
  refine g_ic_ge hC dX12_reads_8 (tgt := 50) (by decide) (fun c8 => ?_) (fun c8 => ?_)
  · replace h := (if_pos c8).symm.trans h
    exact bo_X12_reads_50 hC hW hE (I) (L) h
  · replace h := (if_neg c8).symm.trans h
    refine g_aload_n hC dX12_reads_11 rfl (q := 0) rfl ?_
    refine g_aload_n hC dX12_reads_12 rfl (q := 0) rfl ?_
    refine g_geti hC fd_RX12_127 rfl (by decide) (Or.inl rfl) dX12_reads_13 ?_
    obtain ⟨r16, h16, h⟩ := oB_some h
    refine g_cV1 hC cv_X12_byteAt wd_1859 ⟨Nat.le_of_ble_eq_true rfl, Nat.le_of_ble_eq_true rfl⟩ rfl (by decide) dX12_reads_16 (As := [.int (I 75 18)]) (st := []) (ok_X12_byteAt hC.2.2.2.2.2.2.2.1 hW h16) rfl rfl (Nat.le_of_ble_eq_true rfl) ⟨Nat.zero_le _, Nat.zero_le _⟩ ?_
    refine g_bipush hC dX12_reads_19 (v := (32 : Int32)) (by decide) ?_
    refine g_ic_eq hC dX12_reads_21 (tgt := 37) (by decide) (fun c21 => ?_) (fun c21 => ?_)
    · replace h := (if_pos c21).symm.trans h
      refine g_aload_n hC dX12_reads_37 rfl (q := 0) rfl ?_
      refine g_dup hC dX12_reads_38 rfl ?_
      refine g_geti hC fd_RX12_127 rfl (by decide) (Or.inl rfl) dX12_reads_39 ?_
      refine g_iconst hC dX12_reads_42 (v := (1 : Int32)) (by decide) ?_
      refine g_iadd hC dX12_reads_43 ?_
      refine g_puti hC fd_RX12_127 rfl (by decide) rfl dX12_reads_44 (nm_e ?_)
      refine g_goto hC dX12_reads_47 (tgt := 0) (by decide) ?_
      exact hk0_ (mU I 75 18 ((I 75 18) + (1 : Int32))) L h
    · replace h := (if_neg c21).symm.trans h
      refine g_aload_n hC dX12_reads_24 rfl (q := 0) rfl ?_
      refine g_aload_n hC dX12_reads_25 rfl (q := 0) rfl ?_
      refine g_geti hC fd_RX12_127 rfl (by decide) (Or.inl rfl) dX12_reads_26 ?_
      obtain ⟨r29, h29, h⟩ := oB_some h
      refine g_cV1 hC cv_X12_byteAt wd_1859 ⟨Nat.le_of_ble_eq_true rfl, Nat.le_of_ble_eq_true rfl⟩ rfl (by decide) dX12_reads_29 (As := [.int (I 75 18)]) (st := []) (ok_X12_byteAt hC.2.2.2.2.2.2.2.1 hW h29) rfl rfl (Nat.le_of_ble_eq_true rfl) ⟨Nat.zero_le _, Nat.zero_le _⟩ ?_
      refine g_bipush hC dX12_reads_32 (v := (10 : Int32)) (by decide) ?_
      refine g_ic_ne hC dX12_reads_34 (tgt := 50) (by decide) (fun c34 => ?_) (fun c34 => ?_)
      · replace h := (if_neg c34).symm.trans h
        exact bo_X12_reads_50 hC hW hE (I) (L) h
      · replace h := (if_pos c34).symm.trans h
        refine g_aload_n hC dX12_reads_37 rfl (q := 0) rfl ?_
        refine g_dup hC dX12_reads_38 rfl ?_
        refine g_geti hC fd_RX12_127 rfl (by decide) (Or.inl rfl) dX12_reads_39 ?_
        refine g_iconst hC dX12_reads_42 (v := (1 : Int32)) (by decide) ?_
        refine g_iadd hC dX12_reads_43 ?_
        refine g_puti hC fd_RX12_127 rfl (by decide) rfl dX12_reads_44 (nm_e ?_)
        refine g_goto hC dX12_reads_47 (tgt := 0) (by decide) ?_
        exact hk0_ (mU I 75 18 ((I 75 18) + (1 : Int32))) L h
noncomputable def w_X12_reads_0 (Fu : Nat)  (N : Nat) (I : mIT) (L : mLT) : Option (mIT × mLT) :=
  loopF (fun self (s : mIT × mLT) => b_X12_reads_0 Fu self s.1 s.2) N (I, L)
theorem wo_X12_reads_0 {X : mXT} {E : mEn} {Fu : Nat} {R : mRT}  (hC : mC X E mX12_reads RX12 cX12_reads) (hW : mWd R)   {out : mIT × mLT} (hE : mEd X E 0 0 (mSame none 106 1 (out.1) R (out.2)))  (N : Nat) (I : mIT) (L : mLT) (h : w_X12_reads_0 Fu  N I L = some out) : mG X E 0 [(0, .ref (mB E + 75))] [] 106 1 I R L 0 0 :=
  loopF_ok (Gd := fun s : mIT × mLT => mG X E 0 [(0, .ref (mB E + 75))] [] 106 1 s.1 R s.2 0 0) (fun self hs s h => bo_X12_reads_0 hC hW hE self (fun I L h => hs (I, L) h) s.1 s.2 h) N (I, L) h
noncomputable def f_X12_reads (Fu : Nat) (I : mIT) (L : mLT)  : Option (mIT × mLT) :=
  w_X12_reads_0 Fu Fu I L
set_option maxRecDepth 20000 in
theorem ok_X12_reads {l : Launch} {E : mEn} {Fu : Nat} {I : mIT} {R : mRT} {L : mLT}  (hst : l.stackTraces = false) (hW : mWd R)  {out : mIT × mLT} (h : f_X12_reads Fu I L  = some out) : mOk l E mX12_reads [.ref (mB E + 75)] 106 1 I R L 0 0 (mSame none 106 1 (out.1) R (out.2)) := by
  refine mOk_of hst (by decide) (Nat.le_of_ble_eq_true rfl) (fun X hC hE _ => ?_)
  have hC : mC X E mX12_reads RX12 cX12_reads := hC
  show mG X E 0 [(0, .ref (mB E + 75))] [] 106 1 I R L 0 0
  unfold f_X12_reads at h
  exact wo_X12_reads_0 hC hW hE Fu (I) (L) h
noncomputable def f_X12_begins (Fu : Nat) (I : mIT) (L : mLT) (v1 : Int32) : Option (Int32 × mIT × mLT) :=
  if v1 = 0 then (oB (f_X12_isGood Fu I) (fun r10 => if r10 = 0 then (some ((0 : Int32), I, L)) else (oB (f_X12_reads Fu I L) (fun r19 => some ((1 : Int32), r19.1, r19.2))))) else (oB (f_X12_wrong Fu I (5 : Int32)) (fun r6 => oB (f_X12_isGood Fu r6) (fun r10 => if r10 = 0 then (some ((0 : Int32), r6, L)) else (oB (f_X12_reads Fu r6 L) (fun r19 => some ((1 : Int32), r19.1, r19.2))))))
set_option maxRecDepth 20000 in
theorem ok_X12_begins {l : Launch} {E : mEn} {Fu : Nat} {I : mIT} {R : mRT} {L : mLT} {v1 : Int32} (hst : l.stackTraces = false) (hW : mWd R)  {out : Int32 × mIT × mLT} (h : f_X12_begins Fu I L v1 = some out) : mOk l E mX12_begins [.ref (mB E + 75), .int v1] 106 1 I R L 0 0 (mSame (some (.int (out.1))) 106 1 (out.2.1) R (out.2.2)) := by
  refine mOk_of hst (by decide) (Nat.le_of_ble_eq_true rfl) (fun X hC hE _ => ?_)
  have hC : mC X E mX12_begins RX12 cX12_begins := hC
  show mG X E 0 [(0, .ref (mB E + 75)), (1, .int v1)] [] 106 1 I R L 0 0
  unfold f_X12_begins at h
  refine g_iload_n hC dX12_begins_0 rfl (q := 1) rfl ?_
  refine g_if_eq hC dX12_begins_1 (tgt := 9) (by decide) (fun c1 => ?_) (fun c1 => ?_)
  · replace h := (if_pos c1).symm.trans h
    refine g_aload_n hC dX12_begins_9 rfl (q := 0) rfl ?_
    obtain ⟨r10, h10, h⟩ := oB_some h
    refine g_cV1 hC cv_X12_isGood wd_1869 ⟨Nat.le_of_ble_eq_true rfl, Nat.le_of_ble_eq_true rfl⟩ rfl (by decide) dX12_begins_10 (As := []) (st := []) (ok_X12_isGood hC.2.2.2.2.2.2.2.1 hW h10) rfl rfl (Nat.le_of_ble_eq_true rfl) ⟨Nat.zero_le _, Nat.zero_le _⟩ ?_
    refine g_if_ne hC dX12_begins_13 (tgt := 18) (by decide) (fun c13 => ?_) (fun c13 => ?_)
    · replace h := (if_neg c13).symm.trans h
      refine g_aload_n hC dX12_begins_18 rfl (q := 0) rfl ?_
      obtain ⟨r19, h19, h⟩ := oB_some h
      refine g_cV0 hC cv_X12_reads wd_1855 ⟨Nat.le_of_ble_eq_true rfl, Nat.le_of_ble_eq_true rfl⟩ rfl (by decide) dX12_begins_19 (As := []) (st := []) (ok_X12_reads hC.2.2.2.2.2.2.2.1 hW h19) rfl rfl (Nat.le_of_ble_eq_true rfl) ⟨Nat.zero_le _, Nat.zero_le _⟩ ?_
      refine g_iconst hC dX12_begins_22 (v := (1 : Int32)) (by decide) ?_
      cases h
      exact g_zret hC (by decide) hE rfl dX12_begins_23 (Nat.zero_le _) (Nat.zero_le _) ⟨rfl, rfl, rfl, rfl, rfl, rfl⟩
    · replace h := (if_pos c13).symm.trans h
      refine g_iconst hC dX12_begins_16 (v := (0 : Int32)) (by decide) ?_
      cases h
      exact g_zret hC (by decide) hE rfl dX12_begins_17 (Nat.zero_le _) (Nat.zero_le _) ⟨rfl, rfl, rfl, rfl, rfl, rfl⟩
  · replace h := (if_neg c1).symm.trans h
    refine g_aload_n hC dX12_begins_4 rfl (q := 0) rfl ?_
    refine g_iconst hC dX12_begins_5 (v := (5 : Int32)) (by decide) ?_
    obtain ⟨r6, h6, h⟩ := oB_some h
    refine g_cV0 hC cv_X12_wrong wd_1892 ⟨Nat.le_of_ble_eq_true rfl, Nat.le_of_ble_eq_true rfl⟩ rfl (by decide) dX12_begins_6 (As := [.int (5 : Int32)]) (st := []) (ok_X12_wrong hC.2.2.2.2.2.2.2.1 hW h6) rfl rfl (Nat.le_of_ble_eq_true rfl) ⟨Nat.zero_le _, Nat.zero_le _⟩ ?_
    refine g_aload_n hC dX12_begins_9 rfl (q := 0) rfl ?_
    obtain ⟨r10, h10, h⟩ := oB_some h
    refine g_cV1 hC cv_X12_isGood wd_1869 ⟨Nat.le_of_ble_eq_true rfl, Nat.le_of_ble_eq_true rfl⟩ rfl (by decide) dX12_begins_10 (As := []) (st := []) (ok_X12_isGood hC.2.2.2.2.2.2.2.1 hW h10) rfl rfl (Nat.le_of_ble_eq_true rfl) ⟨Nat.zero_le _, Nat.zero_le _⟩ ?_
    refine g_if_ne hC dX12_begins_13 (tgt := 18) (by decide) (fun c13 => ?_) (fun c13 => ?_)
    · replace h := (if_neg c13).symm.trans h
      refine g_aload_n hC dX12_begins_18 rfl (q := 0) rfl ?_
      obtain ⟨r19, h19, h⟩ := oB_some h
      refine g_cV0 hC cv_X12_reads wd_1855 ⟨Nat.le_of_ble_eq_true rfl, Nat.le_of_ble_eq_true rfl⟩ rfl (by decide) dX12_begins_19 (As := []) (st := []) (ok_X12_reads hC.2.2.2.2.2.2.2.1 hW h19) rfl rfl (Nat.le_of_ble_eq_true rfl) ⟨Nat.zero_le _, Nat.zero_le _⟩ ?_
      refine g_iconst hC dX12_begins_22 (v := (1 : Int32)) (by decide) ?_
      cases h
      exact g_zret hC (by decide) hE rfl dX12_begins_23 (Nat.zero_le _) (Nat.zero_le _) ⟨rfl, rfl, rfl, rfl, rfl, rfl⟩
    · replace h := (if_pos c13).symm.trans h
      refine g_iconst hC dX12_begins_16 (v := (0 : Int32)) (by decide) ?_
      cases h
      exact g_zret hC (by decide) hE rfl dX12_begins_17 (Nat.zero_le _) (Nat.zero_le _) ⟨rfl, rfl, rfl, rfl, rfl, rfl⟩
noncomputable def b_X12_bits_4 (Fu : Nat) (k4_ : Int32 × Int32 × Int32 → Option (Int32)) (v0 : Int32) (v1 : Int32) (v2 : Int32) : Option (Int32) :=
  if (16 : Int32) ≤ v2 then (some (v1)) else (k4_ (v0, (v1 + ((v0 >>> (v2 &&& 31)) &&& (1 : Int32))), (v2 + (1 : Int32))))
set_option maxRecDepth 20000 in
theorem bo_X12_bits_4 {X : mXT} {E : mEn} {Fu : Nat} {I : mIT} {R : mRT} {L : mLT}  (hC : mC X E mX12_bits RX12 cX12_bits) (hW : mWd R)   {out : Int32} (hE : mEd X E 0 0 (mSame (some (.int (out))) 106 1 I R L)) (k4_ : Int32 × Int32 × Int32 → Option (Int32)) (hk4_ : ∀ (v0 : Int32) (v1 : Int32) (v2 : Int32),  k4_ (v0, v1, v2) = some out → mG X E 4 [(0, .int v0), (1, .int v1), (2, .int v2)] [] 106 1 I R L 0 0) (v0 : Int32) (v1 : Int32) (v2 : Int32) (h : b_X12_bits_4 Fu k4_ v0 v1 v2 = some out) : mG X E 4 [(0, .int v0), (1, .int v1), (2, .int v2)] [] 106 1 I R L 0 0 := by
  unfold b_X12_bits_4 at h
  refine g_iload_n hC dX12_bits_4 rfl (q := 2) rfl ?_
  refine g_bipush hC dX12_bits_5 (v := (16 : Int32)) (by decide) ?_
  refine g_ic_ge hC dX12_bits_7 (tgt := 24) (by decide) (fun c7 => ?_) (fun c7 => ?_)
  · replace h := (if_pos c7).symm.trans h
    refine g_iload_n hC dX12_bits_24 rfl (q := 1) rfl ?_
    cases h
    exact g_iret hC hE rfl dX12_bits_25 (Nat.zero_le _) (Nat.zero_le _) ⟨rfl, rfl, rfl, rfl, rfl, rfl⟩
  · replace h := (if_neg c7).symm.trans h
    refine g_iload_n hC dX12_bits_10 rfl (q := 1) rfl ?_
    refine g_iload_n hC dX12_bits_11 rfl (q := 0) rfl ?_
    refine g_iload_n hC dX12_bits_12 rfl (q := 2) rfl ?_
    refine g_ishr hC dX12_bits_13 ?_
    refine g_iconst hC dX12_bits_14 (v := (1 : Int32)) (by decide) ?_
    refine g_iand hC dX12_bits_15 ?_
    refine g_iadd hC dX12_bits_16 ?_
    refine g_istore_n hC dX12_bits_17 rfl rfl (by decide) (lv' := [(1, .int (v1 + ((v0 >>> (v2 &&& 31)) &&& (1 : Int32)))), (0, .int v0), (2, .int v2)]) rfl ?_
    refine g_iinc hC dX12_bits_18 rfl (q := 2) rfl (w := (v2 + (1 : Int32))) rfl (by decide) (lv' := [(2, .int (v2 + (1 : Int32))), (1, .int (v1 + ((v0 >>> (v2 &&& 31)) &&& (1 : Int32)))), (0, .int v0)]) rfl ?_
    refine g_goto hC dX12_bits_21 (tgt := 4) (by decide) ?_
    refine g_lv [2, 1, 0] rfl ?_
    exact hk4_ v0 (v1 + ((v0 >>> (v2 &&& 31)) &&& (1 : Int32))) (v2 + (1 : Int32)) h
noncomputable def w_X12_bits_4 (Fu : Nat)  (N : Nat) (v0 : Int32) (v1 : Int32) (v2 : Int32) : Option (Int32) :=
  loopF (fun self (s : Int32 × Int32 × Int32) => b_X12_bits_4 Fu self s.1 s.2.1 s.2.2) N (v0, v1, v2)
theorem wo_X12_bits_4 {X : mXT} {E : mEn} {Fu : Nat} {I : mIT} {R : mRT} {L : mLT}  (hC : mC X E mX12_bits RX12 cX12_bits) (hW : mWd R)   {out : Int32} (hE : mEd X E 0 0 (mSame (some (.int (out))) 106 1 I R L))  (N : Nat) (v0 : Int32) (v1 : Int32) (v2 : Int32) (h : w_X12_bits_4 Fu  N v0 v1 v2 = some out) : mG X E 4 [(0, .int v0), (1, .int v1), (2, .int v2)] [] 106 1 I R L 0 0 :=
  loopF_ok (Gd := fun s : Int32 × Int32 × Int32 => mG X E 4 [(0, .int s.1), (1, .int s.2.1), (2, .int s.2.2)] [] 106 1 I R L 0 0) (fun self hs s h => bo_X12_bits_4 hC hW hE self (fun v0 v1 v2 h => hs (v0, v1, v2) h) s.1 s.2.1 s.2.2 h) N (v0, v1, v2) h
noncomputable def f_X12_bits (Fu : Nat)  (v0 : Int32) : Option (Int32) :=
  w_X12_bits_4 Fu Fu v0 (0 : Int32) (0 : Int32)
set_option maxRecDepth 20000 in
theorem ok_X12_bits {l : Launch} {E : mEn} {Fu : Nat} {I : mIT} {R : mRT} {L : mLT} {v0 : Int32} (hst : l.stackTraces = false) (hW : mWd R)  {out : Int32} (h : f_X12_bits Fu  v0 = some out) : mOk l E mX12_bits [.int v0] 106 1 I R L 0 0 (mSame (some (.int (out))) 106 1 I R L) := by
  refine mOk_of hst (by decide) (Nat.le_of_ble_eq_true rfl) (fun X hC hE _ => ?_)
  have hC : mC X E mX12_bits RX12 cX12_bits := hC
  show mG X E 0 [(0, .int v0)] [] 106 1 I R L 0 0
  unfold f_X12_bits at h
  refine g_iconst hC dX12_bits_0 (v := (0 : Int32)) (by decide) ?_
  refine g_istore_n hC dX12_bits_1 rfl rfl (by decide) (lv' := [(1, .int (0 : Int32)), (0, .int v0)]) rfl ?_
  refine g_iconst hC dX12_bits_2 (v := (0 : Int32)) (by decide) ?_
  refine g_istore_n hC dX12_bits_3 rfl rfl (by decide) (lv' := [(2, .int (0 : Int32)), (1, .int (0 : Int32)), (0, .int v0)]) rfl ?_
  refine g_lv [2, 1, 0] rfl ?_
  exact wo_X12_bits_4 hC hW hE Fu (v0) ((0 : Int32)) ((0 : Int32)) h
noncomputable def b_X12_change_23 (Fu : Nat)  (v1 : Int32) (s1 : Int32) (I : mIT) : Option (Int32 × mIT) :=
  oB (f_X12_right Fu I s1 (1 : Int32)) (fun r24 => if r24.1 = 0 then (some ((0 : Int32), r24.2)) else (oG (inB ((41 : Int32) + v1) 106) (some ((r24.2 89 (((41 : Int32) + v1)).toNatClampNeg), r24.2))))
set_option maxRecDepth 20000 in
theorem bo_X12_change_23 {X : mXT} {E : mEn} {Fu : Nat} {R : mRT} {L : mLT}  (hC : mC X E mX12_change RX12 cX12_change) (hW : mWd R)   {out : Int32 × mIT} (hE : mEd X E 0 0 (mSame (some (.int (out.1))) 106 1 (out.2) R L))  (v1 : Int32) (s1 : Int32) (I : mIT) (h : b_X12_change_23 Fu  v1 s1 I = some out) : mG X E 23 [(0, .ref (mB E + 75)), (1, .int v1)] [.int s1, .ref (mB E + 75)] 106 1 I R L 0 0 := by
  unfold b_X12_change_23 at h
  refine g_iconst hC dX12_change_23 (v := (1 : Int32)) (by decide) ?_
  obtain ⟨r24, h24, h⟩ := oB_some h
  refine g_cV1 hC cv_X12_right wd_1851 ⟨Nat.le_of_ble_eq_true rfl, Nat.le_of_ble_eq_true rfl⟩ rfl (by decide) dX12_change_24 (As := [.int s1, .int (1 : Int32)]) (st := []) (ok_X12_right hC.2.2.2.2.2.2.2.1 hW h24) rfl rfl (Nat.le_of_ble_eq_true rfl) ⟨Nat.zero_le _, Nat.zero_le _⟩ ?_
  refine g_if_eq hC dX12_change_27 (tgt := 42) (by decide) (fun c27 => ?_) (fun c27 => ?_)
  · replace h := (if_pos c27).symm.trans h
    refine g_iconst hC dX12_change_42 (v := (0 : Int32)) (by decide) ?_
    cases h
    exact g_iret hC hE rfl dX12_change_43 (Nat.zero_le _) (Nat.zero_le _) ⟨rfl, rfl, rfl, rfl, rfl, rfl⟩
  · replace h := (if_neg c27).symm.trans h
    refine g_aload_n hC dX12_change_30 rfl (q := 0) rfl ?_
    refine g_getr hC fd_RX12_63 rfl (by decide) (C0 := "") (t0 := _) (Or.inr rfl) (rr_75_42 hW.1) dX12_change_31 ?_
    refine g_bipush hC dX12_change_34 (v := (41 : Int32)) (by decide) ?_
    refine g_iload_n hC dX12_change_36 rfl (q := 1) rfl ?_
    refine g_iadd hC dX12_change_37 ?_
    obtain ⟨g38, h⟩ := oG_some h
    refine g_iald hC rfl (by decide) (inB_in g38) dX12_change_38 ?_
    refine g_goto hC dX12_change_39 (tgt := 43) (by decide) ?_
    cases h
    exact g_iret hC hE rfl dX12_change_43 (Nat.zero_le _) (Nat.zero_le _) ⟨rfl, rfl, rfl, rfl, rfl, rfl⟩
noncomputable def b_X12_change_22 (Fu : Nat)  (v1 : Int32) (I : mIT) : Option (Int32 × mIT) :=
  b_X12_change_23 Fu v1 (0 : Int32) I
set_option maxRecDepth 20000 in
theorem bo_X12_change_22 {X : mXT} {E : mEn} {Fu : Nat} {R : mRT} {L : mLT}  (hC : mC X E mX12_change RX12 cX12_change) (hW : mWd R)   {out : Int32 × mIT} (hE : mEd X E 0 0 (mSame (some (.int (out.1))) 106 1 (out.2) R L))  (v1 : Int32) (I : mIT) (h : b_X12_change_22 Fu  v1 I = some out) : mG X E 22 [(0, .ref (mB E + 75)), (1, .int v1)] [.ref (mB E + 75)] 106 1 I R L 0 0 := by
  unfold b_X12_change_22 at h
  refine g_iconst hC dX12_change_22 (v := (0 : Int32)) (by decide) ?_
  exact bo_X12_change_23 hC hW hE (v1) ((0 : Int32)) (I) h
noncomputable def f_X12_change (Fu : Nat) (I : mIT) (v1 : Int32) : Option (Int32 × mIT) :=
  if v1 < 0 then (b_X12_change_22 Fu v1 (mU I 75 0 (0 : Int32))) else (if ((mU I 75 0 (0 : Int32)) 75 5) ≤ v1 then (b_X12_change_22 Fu v1 (mU I 75 0 (0 : Int32))) else (b_X12_change_23 Fu v1 (1 : Int32) (mU I 75 0 (0 : Int32))))
set_option maxRecDepth 20000 in
theorem ok_X12_change {l : Launch} {E : mEn} {Fu : Nat} {I : mIT} {R : mRT} {L : mLT} {v1 : Int32} (hst : l.stackTraces = false) (hW : mWd R)  {out : Int32 × mIT} (h : f_X12_change Fu I v1 = some out) : mOk l E mX12_change [.ref (mB E + 75), .int v1] 106 1 I R L 0 0 (mSame (some (.int (out.1))) 106 1 (out.2) R L) := by
  refine mOk_of hst (by decide) (Nat.le_of_ble_eq_true rfl) (fun X hC hE _ => ?_)
  have hC : mC X E mX12_change RX12 cX12_change := hC
  show mG X E 0 [(0, .ref (mB E + 75)), (1, .int v1)] [] 106 1 I R L 0 0
  unfold f_X12_change at h
  refine g_aload_n hC dX12_change_0 rfl (q := 0) rfl ?_
  refine g_iconst hC dX12_change_1 (v := (0 : Int32)) (by decide) ?_
  refine g_puti hC fd_RX12_114 rfl (by decide) rfl dX12_change_2 (nm_e ?_)
  refine g_aload_n hC dX12_change_5 rfl (q := 0) rfl ?_
  refine g_iload_n hC dX12_change_6 rfl (q := 1) rfl ?_
  refine g_if_lt hC dX12_change_7 (tgt := 22) (by decide) (fun c7 => ?_) (fun c7 => ?_)
  · replace h := (if_pos c7).symm.trans h
    exact bo_X12_change_22 hC hW hE (v1) ((mU I 75 0 (0 : Int32))) h
  · replace h := (if_neg c7).symm.trans h
    refine g_iload_n hC dX12_change_10 rfl (q := 1) rfl ?_
    refine g_aload_n hC dX12_change_11 rfl (q := 0) rfl ?_
    refine g_geti hC fd_RX12_298 rfl (by decide) (Or.inl rfl) dX12_change_12 ?_
    refine g_ic_ge hC dX12_change_15 (tgt := 22) (by decide) (fun c15 => ?_) (fun c15 => ?_)
    · replace h := (if_pos c15).symm.trans h
      exact bo_X12_change_22 hC hW hE (v1) ((mU I 75 0 (0 : Int32))) h
    · replace h := (if_neg c15).symm.trans h
      refine g_iconst hC dX12_change_18 (v := (1 : Int32)) (by decide) ?_
      refine g_goto hC dX12_change_19 (tgt := 23) (by decide) ?_
      exact bo_X12_change_23 hC hW hE (v1) ((1 : Int32)) ((mU I 75 0 (0 : Int32))) h
noncomputable def f_X12_isOpen (Fu : Nat)  (v0 : Int32) : Option (Int32) :=
  if v0 < (14 : Int32) then (some (0 : Int32)) else (some (1 : Int32))
set_option maxRecDepth 20000 in
theorem ok_X12_isOpen {l : Launch} {E : mEn} {Fu : Nat} {I : mIT} {R : mRT} {L : mLT} {v0 : Int32} (hst : l.stackTraces = false) (hW : mWd R)  {out : Int32} (h : f_X12_isOpen Fu  v0 = some out) : mOk l E mX12_isOpen [.int v0] 106 1 I R L 0 0 (mSame (some (.int (out))) 106 1 I R L) := by
  refine mOk_of hst (by decide) (Nat.le_of_ble_eq_true rfl) (fun X hC hE _ => ?_)
  have hC : mC X E mX12_isOpen RX12 cX12_isOpen := hC
  show mG X E 0 [(0, .int v0)] [] 106 1 I R L 0 0
  unfold f_X12_isOpen at h
  refine g_iload_n hC dX12_isOpen_0 rfl (q := 0) rfl ?_
  refine g_bipush hC dX12_isOpen_1 (v := (14 : Int32)) (by decide) ?_
  refine g_ic_lt hC dX12_isOpen_3 (tgt := 10) (by decide) (fun c3 => ?_) (fun c3 => ?_)
  · replace h := (if_pos c3).symm.trans h
    refine g_iconst hC dX12_isOpen_10 (v := (0 : Int32)) (by decide) ?_
    cases h
    exact g_zret hC (by decide) hE rfl dX12_isOpen_11 (Nat.zero_le _) (Nat.zero_le _) ⟨rfl, rfl, rfl, rfl, rfl, rfl⟩
  · replace h := (if_neg c3).symm.trans h
    refine g_iconst hC dX12_isOpen_6 (v := (1 : Int32)) (by decide) ?_
    refine g_goto hC dX12_isOpen_7 (tgt := 11) (by decide) ?_
    cases h
    exact g_zret hC (by decide) hE rfl dX12_isOpen_11 (Nat.zero_le _) (Nat.zero_le _) ⟨rfl, rfl, rfl, rfl, rfl, rfl⟩
noncomputable def f_X12_strength (Fu : Nat)  (v0 : Int32) : Option (Int32) :=
  if v0 = (5 : Int32) then (some (1 : Int32)) else (if v0 = (4 : Int32) then (some (2 : Int32)) else (if v0 = (3 : Int32) then (some (3 : Int32)) else (if v0 = (6 : Int32) then (some (4 : Int32)) else (if v0 = (7 : Int32) then (some (4 : Int32)) else (if v0 = (8 : Int32) then (some (5 : Int32)) else (if v0 = (9 : Int32) then (some (5 : Int32)) else (some (6 : Int32))))))))
set_option maxRecDepth 20000 in
theorem ok_X12_strength {l : Launch} {E : mEn} {Fu : Nat} {I : mIT} {R : mRT} {L : mLT} {v0 : Int32} (hst : l.stackTraces = false) (hW : mWd R)  {out : Int32} (h : f_X12_strength Fu  v0 = some out) : mOk l E mX12_strength [.int v0] 106 1 I R L 0 0 (mSame (some (.int (out))) 106 1 I R L) := by
  refine mOk_of hst (by decide) (Nat.le_of_ble_eq_true rfl) (fun X hC hE _ => ?_)
  have hC : mC X E mX12_strength RX12 cX12_strength := hC
  show mG X E 0 [(0, .int v0)] [] 106 1 I R L 0 0
  unfold f_X12_strength at h
  refine g_iload_n hC dX12_strength_0 rfl (q := 0) rfl ?_
  refine g_iconst hC dX12_strength_1 (v := (5 : Int32)) (by decide) ?_
  refine g_ic_ne hC dX12_strength_2 (tgt := 9) (by decide) (fun c2 => ?_) (fun c2 => ?_)
  · replace h := (if_neg c2).symm.trans h
    refine g_iload_n hC dX12_strength_9 rfl (q := 0) rfl ?_
    refine g_iconst hC dX12_strength_10 (v := (4 : Int32)) (by decide) ?_
    refine g_ic_ne hC dX12_strength_11 (tgt := 18) (by decide) (fun c11 => ?_) (fun c11 => ?_)
    · replace h := (if_neg c11).symm.trans h
      refine g_iload_n hC dX12_strength_18 rfl (q := 0) rfl ?_
      refine g_iconst hC dX12_strength_19 (v := (3 : Int32)) (by decide) ?_
      refine g_ic_ne hC dX12_strength_20 (tgt := 27) (by decide) (fun c20 => ?_) (fun c20 => ?_)
      · replace h := (if_neg c20).symm.trans h
        refine g_iload_n hC dX12_strength_27 rfl (q := 0) rfl ?_
        refine g_bipush hC dX12_strength_28 (v := (6 : Int32)) (by decide) ?_
        refine g_ic_eq hC dX12_strength_30 (tgt := 39) (by decide) (fun c30 => ?_) (fun c30 => ?_)
        · replace h := (if_pos c30).symm.trans h
          refine g_iconst hC dX12_strength_39 (v := (4 : Int32)) (by decide) ?_
          refine g_goto hC dX12_strength_40 (tgt := 61) (by decide) ?_
          cases h
          exact g_iret hC hE rfl dX12_strength_61 (Nat.zero_le _) (Nat.zero_le _) ⟨rfl, rfl, rfl, rfl, rfl, rfl⟩
        · replace h := (if_neg c30).symm.trans h
          refine g_iload_n hC dX12_strength_33 rfl (q := 0) rfl ?_
          refine g_bipush hC dX12_strength_34 (v := (7 : Int32)) (by decide) ?_
          refine g_ic_ne hC dX12_strength_36 (tgt := 43) (by decide) (fun c36 => ?_) (fun c36 => ?_)
          · replace h := (if_neg c36).symm.trans h
            refine g_iload_n hC dX12_strength_43 rfl (q := 0) rfl ?_
            refine g_bipush hC dX12_strength_44 (v := (8 : Int32)) (by decide) ?_
            refine g_ic_eq hC dX12_strength_46 (tgt := 55) (by decide) (fun c46 => ?_) (fun c46 => ?_)
            · replace h := (if_pos c46).symm.trans h
              refine g_iconst hC dX12_strength_55 (v := (5 : Int32)) (by decide) ?_
              refine g_goto hC dX12_strength_56 (tgt := 61) (by decide) ?_
              cases h
              exact g_iret hC hE rfl dX12_strength_61 (Nat.zero_le _) (Nat.zero_le _) ⟨rfl, rfl, rfl, rfl, rfl, rfl⟩
            · replace h := (if_neg c46).symm.trans h
              refine g_iload_n hC dX12_strength_49 rfl (q := 0) rfl ?_
              refine g_bipush hC dX12_strength_50 (v := (9 : Int32)) (by decide) ?_
              refine g_ic_ne hC dX12_strength_52 (tgt := 59) (by decide) (fun c52 => ?_) (fun c52 => ?_)
              · replace h := (if_neg c52).symm.trans h
                refine g_bipush hC dX12_strength_59 (v := (6 : Int32)) (by decide) ?_
                cases h
                exact g_iret hC hE rfl dX12_strength_61 (Nat.zero_le _) (Nat.zero_le _) ⟨rfl, rfl, rfl, rfl, rfl, rfl⟩
              · replace h := (if_pos c52).symm.trans h
                refine g_iconst hC dX12_strength_55 (v := (5 : Int32)) (by decide) ?_
                refine g_goto hC dX12_strength_56 (tgt := 61) (by decide) ?_
                cases h
                exact g_iret hC hE rfl dX12_strength_61 (Nat.zero_le _) (Nat.zero_le _) ⟨rfl, rfl, rfl, rfl, rfl, rfl⟩
          · replace h := (if_pos c36).symm.trans h
            refine g_iconst hC dX12_strength_39 (v := (4 : Int32)) (by decide) ?_
            refine g_goto hC dX12_strength_40 (tgt := 61) (by decide) ?_
            cases h
            exact g_iret hC hE rfl dX12_strength_61 (Nat.zero_le _) (Nat.zero_le _) ⟨rfl, rfl, rfl, rfl, rfl, rfl⟩
      · replace h := (if_pos c20).symm.trans h
        refine g_iconst hC dX12_strength_23 (v := (3 : Int32)) (by decide) ?_
        refine g_goto hC dX12_strength_24 (tgt := 61) (by decide) ?_
        cases h
        exact g_iret hC hE rfl dX12_strength_61 (Nat.zero_le _) (Nat.zero_le _) ⟨rfl, rfl, rfl, rfl, rfl, rfl⟩
    · replace h := (if_pos c11).symm.trans h
      refine g_iconst hC dX12_strength_14 (v := (2 : Int32)) (by decide) ?_
      refine g_goto hC dX12_strength_15 (tgt := 61) (by decide) ?_
      cases h
      exact g_iret hC hE rfl dX12_strength_61 (Nat.zero_le _) (Nat.zero_le _) ⟨rfl, rfl, rfl, rfl, rfl, rfl⟩
  · replace h := (if_pos c2).symm.trans h
    refine g_iconst hC dX12_strength_5 (v := (1 : Int32)) (by decide) ?_
    refine g_goto hC dX12_strength_6 (tgt := 61) (by decide) ?_
    cases h
    exact g_iret hC hE rfl dX12_strength_61 (Nat.zero_le _) (Nat.zero_le _) ⟨rfl, rfl, rfl, rfl, rfl, rfl⟩
noncomputable def f_X12_puts (Fu : Nat) (I : mIT) (v1 : Int32) : Option (mIT) :=
  oG (inB (I 75 32) 1400) (some (mU (mU I 86 ((I 75 32)).toNatClampNeg v1) 75 32 (((mU I 86 ((I 75 32)).toNatClampNeg v1) 75 32) + (1 : Int32))))
set_option maxRecDepth 20000 in
theorem ok_X12_puts {l : Launch} {E : mEn} {Fu : Nat} {I : mIT} {R : mRT} {L : mLT} {v1 : Int32} (hst : l.stackTraces = false) (hW : mWd R)  {out : mIT} (h : f_X12_puts Fu I v1 = some out) : mOk l E mX12_puts [.ref (mB E + 75), .int v1] 106 1 I R L 0 0 (mSame none 106 1 (out) R L) := by
  refine mOk_of hst (by decide) (Nat.le_of_ble_eq_true rfl) (fun X hC hE _ => ?_)
  have hC : mC X E mX12_puts RX12 cX12_puts := hC
  show mG X E 0 [(0, .ref (mB E + 75)), (1, .int v1)] [] 106 1 I R L 0 0
  unfold f_X12_puts at h
  refine g_aload_n hC dX12_puts_0 rfl (q := 0) rfl ?_
  refine g_getr hC fd_RX12_53 rfl (by decide) (C0 := "") (t0 := _) (Or.inr rfl) (rr_75_39 hW.1) dX12_puts_1 ?_
  refine g_aload_n hC dX12_puts_4 rfl (q := 0) rfl ?_
  refine g_geti hC fd_RX12_183 rfl (by decide) (Or.inl rfl) dX12_puts_5 ?_
  refine g_iload_n hC dX12_puts_8 rfl (q := 1) rfl ?_
  obtain ⟨g9, h⟩ := oG_some h
  refine g_iast hC rfl (by decide) (inB_in g9) dX12_puts_9 (nm_e ?_)
  refine g_aload_n hC dX12_puts_10 rfl (q := 0) rfl ?_
  refine g_dup hC dX12_puts_11 rfl ?_
  refine g_geti hC fd_RX12_183 rfl (by decide) (Or.inl rfl) dX12_puts_12 ?_
  refine g_iconst hC dX12_puts_15 (v := (1 : Int32)) (by decide) ?_
  refine g_iadd hC dX12_puts_16 ?_
  refine g_puti hC fd_RX12_183 rfl (by decide) rfl dX12_puts_17 (nm_e ?_)
  cases h
  exact g_vret hC hE rfl dX12_puts_20 (Nat.zero_le _) (Nat.zero_le _) ⟨rfl, rfl, rfl, rfl, rfl, rfl⟩
noncomputable def b_X12_drops_0 (Fu : Nat) (k0_ : Int32 × mIT → Option (mIT)) (v1 : Int32) (I : mIT) : Option (mIT) :=
  if (I 75 33) ≤ 0 then (some (I)) else (oG (inB ((I 75 33) - (1 : Int32)) 950) (oB (f_X12_isOpen Fu (I 87 (((I 75 33) - (1 : Int32))).toNatClampNeg)) (fun r18 => if r18 = 0 then (oG (inB ((I 75 33) - (1 : Int32)) 950) (oB (f_X12_strength Fu (I 87 (((I 75 33) - (1 : Int32))).toNatClampNeg)) (fun r35 => if r35 < v1 then (some (I)) else (oG (inB ((mU I 75 33 ((I 75 33) - (1 : Int32))) 75 33) 950) (oB (f_X12_puts Fu (mU I 75 33 ((I 75 33) - (1 : Int32))) ((mU I 75 33 ((I 75 33) - (1 : Int32))) 87 (((mU I 75 33 ((I 75 33) - (1 : Int32))) 75 33)).toNatClampNeg)) (fun r62 => k0_ (v1, r62))))))) else (some (I)))))
set_option maxRecDepth 20000 in
theorem bo_X12_drops_0 {X : mXT} {E : mEn} {Fu : Nat} {R : mRT} {L : mLT}  (hC : mC X E mX12_drops RX12 cX12_drops) (hW : mWd R)   {out : mIT} (hE : mEd X E 0 0 (mSame none 106 1 (out) R L)) (k0_ : Int32 × mIT → Option (mIT)) (hk0_ : ∀ (v1 : Int32) (I : mIT),  k0_ (v1, I) = some out → mG X E 0 [(0, .ref (mB E + 75)), (1, .int v1)] [] 106 1 I R L 0 0) (v1 : Int32) (I : mIT) (h : b_X12_drops_0 Fu k0_ v1 I = some out) : mG X E 0 [(0, .ref (mB E + 75)), (1, .int v1)] [] 106 1 I R L 0 0 := by
  unfold b_X12_drops_0 at h
  refine g_aload_n hC dX12_drops_0 rfl (q := 0) rfl ?_
  refine g_geti hC fd_RX12_186 rfl (by decide) (Or.inl rfl) dX12_drops_1 ?_
  refine g_if_le hC dX12_drops_4 (tgt := 68) (by decide) (fun c4 => ?_) (fun c4 => ?_)
  · replace h := (if_pos c4).symm.trans h
    cases h
    exact g_vret hC hE rfl dX12_drops_68 (Nat.zero_le _) (Nat.zero_le _) ⟨rfl, rfl, rfl, rfl, rfl, rfl⟩
  · replace h := (if_neg c4).symm.trans h
    refine g_aload_n hC dX12_drops_7 rfl (q := 0) rfl ?_
    refine g_getr hC fd_RX12_56 rfl (by decide) (C0 := "") (t0 := _) (Or.inr rfl) (rr_75_40 hW.1) dX12_drops_8 ?_
    refine g_aload_n hC dX12_drops_11 rfl (q := 0) rfl ?_
    refine g_geti hC fd_RX12_186 rfl (by decide) (Or.inl rfl) dX12_drops_12 ?_
    refine g_iconst hC dX12_drops_15 (v := (1 : Int32)) (by decide) ?_
    refine g_isub hC dX12_drops_16 ?_
    obtain ⟨g17, h⟩ := oG_some h
    refine g_iald hC rfl (by decide) (inB_in g17) dX12_drops_17 ?_
    obtain ⟨r18, h18, h⟩ := oB_some h
    refine g_cS1 hC cs_X12_isOpen wd_1950 ⟨Nat.le_of_ble_eq_true rfl, Nat.le_of_ble_eq_true rfl⟩ dX12_drops_18 (As := [.int (I 87 (((I 75 33) - (1 : Int32))).toNatClampNeg)]) (st := []) (ok_X12_isOpen hC.2.2.2.2.2.2.2.1 hW h18) rfl rfl (Nat.le_of_ble_eq_true rfl) ⟨Nat.zero_le _, Nat.zero_le _⟩ ?_
    refine g_if_ne hC dX12_drops_21 (tgt := 68) (by decide) (fun c21 => ?_) (fun c21 => ?_)
    · replace h := (if_neg c21).symm.trans h
      cases h
      exact g_vret hC hE rfl dX12_drops_68 (Nat.zero_le _) (Nat.zero_le _) ⟨rfl, rfl, rfl, rfl, rfl, rfl⟩
    · replace h := (if_pos c21).symm.trans h
      refine g_aload_n hC dX12_drops_24 rfl (q := 0) rfl ?_
      refine g_getr hC fd_RX12_56 rfl (by decide) (C0 := "") (t0 := _) (Or.inr rfl) (rr_75_40 hW.1) dX12_drops_25 ?_
      refine g_aload_n hC dX12_drops_28 rfl (q := 0) rfl ?_
      refine g_geti hC fd_RX12_186 rfl (by decide) (Or.inl rfl) dX12_drops_29 ?_
      refine g_iconst hC dX12_drops_32 (v := (1 : Int32)) (by decide) ?_
      refine g_isub hC dX12_drops_33 ?_
      obtain ⟨g34, h⟩ := oG_some h
      refine g_iald hC rfl (by decide) (inB_in g34) dX12_drops_34 ?_
      obtain ⟨r35, h35, h⟩ := oB_some h
      refine g_cS1 hC cs_X12_strength wd_1953 ⟨Nat.le_of_ble_eq_true rfl, Nat.le_of_ble_eq_true rfl⟩ dX12_drops_35 (As := [.int (I 87 (((I 75 33) - (1 : Int32))).toNatClampNeg)]) (st := []) (ok_X12_strength hC.2.2.2.2.2.2.2.1 hW h35) rfl rfl (Nat.le_of_ble_eq_true rfl) ⟨Nat.zero_le _, Nat.zero_le _⟩ ?_
      refine g_iload_n hC dX12_drops_38 rfl (q := 1) rfl ?_
      refine g_ic_lt hC dX12_drops_39 (tgt := 68) (by decide) (fun c39 => ?_) (fun c39 => ?_)
      · replace h := (if_pos c39).symm.trans h
        cases h
        exact g_vret hC hE rfl dX12_drops_68 (Nat.zero_le _) (Nat.zero_le _) ⟨rfl, rfl, rfl, rfl, rfl, rfl⟩
      · replace h := (if_neg c39).symm.trans h
        refine g_aload_n hC dX12_drops_42 rfl (q := 0) rfl ?_
        refine g_dup hC dX12_drops_43 rfl ?_
        refine g_geti hC fd_RX12_186 rfl (by decide) (Or.inl rfl) dX12_drops_44 ?_
        refine g_iconst hC dX12_drops_47 (v := (1 : Int32)) (by decide) ?_
        refine g_isub hC dX12_drops_48 ?_
        refine g_puti hC fd_RX12_186 rfl (by decide) rfl dX12_drops_49 (nm_e ?_)
        refine g_aload_n hC dX12_drops_52 rfl (q := 0) rfl ?_
        refine g_aload_n hC dX12_drops_53 rfl (q := 0) rfl ?_
        refine g_getr hC fd_RX12_56 rfl (by decide) (C0 := "") (t0 := _) (Or.inr rfl) (rr_75_40 hW.1) dX12_drops_54 ?_
        refine g_aload_n hC dX12_drops_57 rfl (q := 0) rfl ?_
        refine g_geti hC fd_RX12_186 rfl (by decide) (Or.inl rfl) dX12_drops_58 ?_
        obtain ⟨g61, h⟩ := oG_some h
        refine g_iald hC rfl (by decide) (inB_in g61) dX12_drops_61 ?_
        obtain ⟨r62, h62, h⟩ := oB_some h
        refine g_cV0 hC cv_X12_puts wd_1942 ⟨Nat.le_of_ble_eq_true rfl, Nat.le_of_ble_eq_true rfl⟩ rfl (by decide) dX12_drops_62 (As := [.int ((mU I 75 33 ((I 75 33) - (1 : Int32))) 87 (((mU I 75 33 ((I 75 33) - (1 : Int32))) 75 33)).toNatClampNeg)]) (st := []) (ok_X12_puts hC.2.2.2.2.2.2.2.1 hW h62) rfl rfl (Nat.le_of_ble_eq_true rfl) ⟨Nat.zero_le _, Nat.zero_le _⟩ ?_
        refine g_goto hC dX12_drops_65 (tgt := 0) (by decide) ?_
        exact hk0_ v1 r62 h
noncomputable def w_X12_drops_0 (Fu : Nat)  (N : Nat) (v1 : Int32) (I : mIT) : Option (mIT) :=
  loopF (fun self (s : Int32 × mIT) => b_X12_drops_0 Fu self s.1 s.2) N (v1, I)
theorem wo_X12_drops_0 {X : mXT} {E : mEn} {Fu : Nat} {R : mRT} {L : mLT}  (hC : mC X E mX12_drops RX12 cX12_drops) (hW : mWd R)   {out : mIT} (hE : mEd X E 0 0 (mSame none 106 1 (out) R L))  (N : Nat) (v1 : Int32) (I : mIT) (h : w_X12_drops_0 Fu  N v1 I = some out) : mG X E 0 [(0, .ref (mB E + 75)), (1, .int v1)] [] 106 1 I R L 0 0 :=
  loopF_ok (Gd := fun s : Int32 × mIT => mG X E 0 [(0, .ref (mB E + 75)), (1, .int s.1)] [] 106 1 s.2 R L 0 0) (fun self hs s h => bo_X12_drops_0 hC hW hE self (fun v1 I h => hs (v1, I) h) s.1 s.2 h) N (v1, I) h
noncomputable def f_X12_drops (Fu : Nat) (I : mIT) (v1 : Int32) : Option (mIT) :=
  w_X12_drops_0 Fu Fu v1 I
set_option maxRecDepth 20000 in
theorem ok_X12_drops {l : Launch} {E : mEn} {Fu : Nat} {I : mIT} {R : mRT} {L : mLT} {v1 : Int32} (hst : l.stackTraces = false) (hW : mWd R)  {out : mIT} (h : f_X12_drops Fu I v1 = some out) : mOk l E mX12_drops [.ref (mB E + 75), .int v1] 106 1 I R L 0 0 (mSame none 106 1 (out) R L) := by
  refine mOk_of hst (by decide) (Nat.le_of_ble_eq_true rfl) (fun X hC hE _ => ?_)
  have hC : mC X E mX12_drops RX12 cX12_drops := hC
  show mG X E 0 [(0, .ref (mB E + 75)), (1, .int v1)] [] 106 1 I R L 0 0
  unfold f_X12_drops at h
  exact wo_X12_drops_0 hC hW hE Fu (v1) (I) h
noncomputable def f_X12_closes (Fu : Nat) (I : mIT) (L : mLT)  : Option (mIT × mLT) :=
  oB (f_X12_drops Fu I (0 : Int32)) (fun r2 => oB (f_X12_reads Fu (mU (mU r2 75 33 ((r2 75 33) - (1 : Int32))) 75 34 (((mU r2 75 33 ((r2 75 33) - (1 : Int32))) 75 34) - (1 : Int32))) L) (fun r26 => some (r26.1, r26.2)))
set_option maxRecDepth 20000 in
theorem ok_X12_closes {l : Launch} {E : mEn} {Fu : Nat} {I : mIT} {R : mRT} {L : mLT}  (hst : l.stackTraces = false) (hW : mWd R)  {out : mIT × mLT} (h : f_X12_closes Fu I L  = some out) : mOk l E mX12_closes [.ref (mB E + 75)] 106 1 I R L 0 0 (mSame none 106 1 (out.1) R (out.2)) := by
  refine mOk_of hst (by decide) (Nat.le_of_ble_eq_true rfl) (fun X hC hE _ => ?_)
  have hC : mC X E mX12_closes RX12 cX12_closes := hC
  show mG X E 0 [(0, .ref (mB E + 75))] [] 106 1 I R L 0 0
  unfold f_X12_closes at h
  refine g_aload_n hC dX12_closes_0 rfl (q := 0) rfl ?_
  refine g_iconst hC dX12_closes_1 (v := (0 : Int32)) (by decide) ?_
  obtain ⟨r2, h2, h⟩ := oB_some h
  refine g_cV0 hC cv_X12_drops wd_1946 ⟨Nat.le_of_ble_eq_true rfl, Nat.le_of_ble_eq_true rfl⟩ rfl (by decide) dX12_closes_2 (As := [.int (0 : Int32)]) (st := []) (ok_X12_drops hC.2.2.2.2.2.2.2.1 hW h2) rfl rfl (Nat.le_of_ble_eq_true rfl) ⟨Nat.zero_le _, Nat.zero_le _⟩ ?_
  refine g_aload_n hC dX12_closes_5 rfl (q := 0) rfl ?_
  refine g_dup hC dX12_closes_6 rfl ?_
  refine g_geti hC fd_RX12_186 rfl (by decide) (Or.inl rfl) dX12_closes_7 ?_
  refine g_iconst hC dX12_closes_10 (v := (1 : Int32)) (by decide) ?_
  refine g_isub hC dX12_closes_11 ?_
  refine g_puti hC fd_RX12_186 rfl (by decide) rfl dX12_closes_12 (nm_e ?_)
  refine g_aload_n hC dX12_closes_15 rfl (q := 0) rfl ?_
  refine g_dup hC dX12_closes_16 rfl ?_
  refine g_geti hC fd_RX12_202 rfl (by decide) (Or.inl rfl) dX12_closes_17 ?_
  refine g_iconst hC dX12_closes_20 (v := (1 : Int32)) (by decide) ?_
  refine g_isub hC dX12_closes_21 ?_
  refine g_puti hC fd_RX12_202 rfl (by decide) rfl dX12_closes_22 (nm_e ?_)
  refine g_aload_n hC dX12_closes_25 rfl (q := 0) rfl ?_
  obtain ⟨r26, h26, h⟩ := oB_some h
  refine g_cV0 hC cv_X12_reads wd_1855 ⟨Nat.le_of_ble_eq_true rfl, Nat.le_of_ble_eq_true rfl⟩ rfl (by decide) dX12_closes_26 (As := []) (st := []) (ok_X12_reads hC.2.2.2.2.2.2.2.1 hW h26) rfl rfl (Nat.le_of_ble_eq_true rfl) ⟨Nat.zero_le _, Nat.zero_le _⟩ ?_
  cases h
  exact g_vret hC hE rfl dX12_closes_29 (Nat.zero_le _) (Nat.zero_le _) ⟨rfl, rfl, rfl, rfl, rfl, rfl⟩
noncomputable def b_X12_copies_2 (Fu : Nat) (k1 : Nat) (k2 : Nat) (k2_ : Int32 × mIT → Option (mIT)) (v3 : Int32) (I : mIT) : Option (mIT) :=
  if (nI (mT k1).2) ≤ v3 then (some (I)) else (oG (inB v3 (mT k1).2) (oG (inB v3 (mT k2).2) (k2_ ((v3 + (1 : Int32)), (mU I k2 (v3).toNatClampNeg (I k1 (v3).toNatClampNeg))))))
set_option maxRecDepth 20000 in
theorem bo_X12_copies_2 {X : mXT} {E : mEn} {Fu : Nat} {R : mRT} {L : mLT} {k1 : Nat} {k2 : Nat} (hC : mC X E mX12_copies RX12 cX12_copies) (hW : mWd R) (hk1 : (mT k1).1 = 1 ∧ k1 < 106) (hk2 : (mT k2).1 = 1 ∧ k2 < 106)  {out : mIT} (hE : mEd X E 0 0 (mSame none 106 1 (out) R L)) (k2_ : Int32 × mIT → Option (mIT)) (hk2_ : ∀ (v3 : Int32) (I : mIT),  k2_ (v3, I) = some out → mG X E 2 [(1, .ref (mB E + k1)), (2, .ref (mB E + k2)), (3, .int v3)] [] 106 1 I R L 0 0) (v3 : Int32) (I : mIT) (h : b_X12_copies_2 Fu k1 k2 k2_ v3 I = some out) : mG X E 2 [(1, .ref (mB E + k1)), (2, .ref (mB E + k2)), (3, .int v3)] [] 106 1 I R L 0 0 := by
  unfold b_X12_copies_2 at h
  refine g_iload_n hC dX12_copies_2 rfl (q := 2) rfl ?_
  refine g_aload_n hC dX12_copies_3 rfl (q := 0) rfl ?_
  refine g_alenI hC (mAr_T hk1) hk1.2 dX12_copies_4 ?_
  refine g_ic_ge hC dX12_copies_5 (tgt := 20) (by decide) (fun c5 => ?_) (fun c5 => ?_)
  · replace h := (if_pos c5).symm.trans h
    cases h
    exact g_vret hC hE rfl dX12_copies_20 (Nat.zero_le _) (Nat.zero_le _) ⟨rfl, rfl, rfl, rfl, rfl, rfl⟩
  · replace h := (if_neg c5).symm.trans h
    refine g_aload_n hC dX12_copies_8 rfl (q := 1) rfl ?_
    refine g_iload_n hC dX12_copies_9 rfl (q := 2) rfl ?_
    refine g_aload_n hC dX12_copies_10 rfl (q := 0) rfl ?_
    refine g_iload_n hC dX12_copies_11 rfl (q := 2) rfl ?_
    obtain ⟨g12, h⟩ := oG_some h
    refine g_iald hC (mAr_T hk1) hk1.2 (inB_in g12) dX12_copies_12 ?_
    obtain ⟨g13, h⟩ := oG_some h
    refine g_iast hC (mAr_T hk2) hk2.2 (inB_in g13) dX12_copies_13 (nm_e ?_)
    refine g_iinc hC dX12_copies_14 rfl (q := 2) rfl (w := (v3 + (1 : Int32))) rfl (by decide) (lv' := [(3, .int (v3 + (1 : Int32))), (1, .ref (mB E + k1)), (2, .ref (mB E + k2))]) rfl ?_
    refine g_goto hC dX12_copies_17 (tgt := 2) (by decide) ?_
    refine g_lv [1, 2, 0] rfl ?_
    exact hk2_ (v3 + (1 : Int32)) (mU I k2 (v3).toNatClampNeg (I k1 (v3).toNatClampNeg)) h
noncomputable def w_X12_copies_2 (Fu : Nat) (k1 : Nat) (k2 : Nat)  (N : Nat) (v3 : Int32) (I : mIT) : Option (mIT) :=
  loopF (fun self (s : Int32 × mIT) => b_X12_copies_2 Fu k1 k2 self s.1 s.2) N (v3, I)
theorem wo_X12_copies_2 {X : mXT} {E : mEn} {Fu : Nat} {R : mRT} {L : mLT} {k1 : Nat} {k2 : Nat} (hC : mC X E mX12_copies RX12 cX12_copies) (hW : mWd R) (hk1 : (mT k1).1 = 1 ∧ k1 < 106) (hk2 : (mT k2).1 = 1 ∧ k2 < 106)  {out : mIT} (hE : mEd X E 0 0 (mSame none 106 1 (out) R L))  (N : Nat) (v3 : Int32) (I : mIT) (h : w_X12_copies_2 Fu k1 k2  N v3 I = some out) : mG X E 2 [(1, .ref (mB E + k1)), (2, .ref (mB E + k2)), (3, .int v3)] [] 106 1 I R L 0 0 :=
  loopF_ok (Gd := fun s : Int32 × mIT => mG X E 2 [(1, .ref (mB E + k1)), (2, .ref (mB E + k2)), (3, .int s.1)] [] 106 1 s.2 R L 0 0) (fun self hs s h => bo_X12_copies_2 hC hW hk1 hk2 hE self (fun v3 I h => hs (v3, I) h) s.1 s.2 h) N (v3, I) h
noncomputable def f_X12_copies (Fu : Nat) (I : mIT) (k1 : Nat) (k2 : Nat) : Option (mIT) :=
  w_X12_copies_2 Fu k1 k2 Fu (0 : Int32) I
set_option maxRecDepth 20000 in
theorem ok_X12_copies {l : Launch} {E : mEn} {Fu : Nat} {I : mIT} {R : mRT} {L : mLT} {k1 : Nat} {k2 : Nat} (hst : l.stackTraces = false) (hW : mWd R) (hk1 : (mT k1).1 = 1 ∧ k1 < 106) (hk2 : (mT k2).1 = 1 ∧ k2 < 106) {out : mIT} (h : f_X12_copies Fu I k1 k2 = some out) : mOk l E mX12_copies [.ref (mB E + 75), .ref (mB E + k1), .ref (mB E + k2)] 106 1 I R L 0 0 (mSame none 106 1 (out) R L) := by
  refine mOk_of hst (by decide) (Nat.le_of_ble_eq_true rfl) (fun X hC hE _ => ?_)
  have hC : mC X E mX12_copies RX12 cX12_copies := hC
  show mG X E 0 [(0, .ref (mB E + 75)), (1, .ref (mB E + k1)), (2, .ref (mB E + k2))] [] 106 1 I R L 0 0
  unfold f_X12_copies at h
  refine g_iconst hC dX12_copies_0 (v := (0 : Int32)) (by decide) ?_
  refine g_istore_n hC dX12_copies_1 rfl rfl (by decide) (lv' := [(3, .int (0 : Int32)), (0, .ref (mB E + 75)), (1, .ref (mB E + k1)), (2, .ref (mB E + k2))]) rfl ?_
  refine g_lv [2, 3, 0] rfl ?_
  exact wo_X12_copies_2 hC hW hk1 hk2 hE Fu ((0 : Int32)) (I) h
noncomputable def f_X12_mayBe (Fu : Nat) (I : mIT) (v1 : Int32) : Option (Int32) :=
  oG (inB ((31 : Int32) + v1) 106) (if (I 89 (((31 : Int32) + v1)).toNatClampNeg) = (-2 : Int32) then (some (0 : Int32)) else (oG (inB ((11 : Int32) + v1) 106) (oG (inB ((1 : Int32) + v1) 106) (oG (inB ((11 : Int32) + v1) 106) (if (((I 89 (((1 : Int32) + v1)).toNatClampNeg) - (1 : Int32)) - (I 89 (((11 : Int32) + v1)).toNatClampNeg)) ≤ ((20 : Int32) - (I 89 (((11 : Int32) + v1)).toNatClampNeg)) then (some (((I 89 (((1 : Int32) + v1)).toNatClampNeg) - (1 : Int32)) - (I 89 (((11 : Int32) + v1)).toNatClampNeg))) else (some ((20 : Int32) - (I 89 (((11 : Int32) + v1)).toNatClampNeg))))))))
set_option maxRecDepth 20000 in
theorem ok_X12_mayBe {l : Launch} {E : mEn} {Fu : Nat} {I : mIT} {R : mRT} {L : mLT} {v1 : Int32} (hst : l.stackTraces = false) (hW : mWd R)  {out : Int32} (h : f_X12_mayBe Fu I v1 = some out) : mOk l E mX12_mayBe [.ref (mB E + 75), .int v1] 106 1 I R L 0 0 (mSame (some (.int (out))) 106 1 I R L) := by
  refine mOk_of hst (by decide) (Nat.le_of_ble_eq_true rfl) (fun X hC hE _ => ?_)
  have hC : mC X E mX12_mayBe RX12 cX12_mayBe := hC
  show mG X E 0 [(0, .ref (mB E + 75)), (1, .int v1)] [] 106 1 I R L 0 0
  unfold f_X12_mayBe at h
  refine g_aload_n hC dX12_mayBe_0 rfl (q := 0) rfl ?_
  refine g_getr hC fd_RX12_63 rfl (by decide) (C0 := "") (t0 := _) (Or.inr rfl) (rr_75_42 hW.1) dX12_mayBe_1 ?_
  refine g_bipush hC dX12_mayBe_4 (v := (31 : Int32)) (by decide) ?_
  refine g_iload_n hC dX12_mayBe_6 rfl (q := 1) rfl ?_
  refine g_iadd hC dX12_mayBe_7 ?_
  obtain ⟨g8, h⟩ := oG_some h
  refine g_iald hC rfl (by decide) (inB_in g8) dX12_mayBe_8 ?_
  refine g_bipush hC dX12_mayBe_9 (v := (-2 : Int32)) (by decide) ?_
  refine g_ic_ne hC dX12_mayBe_11 (tgt := 16) (by decide) (fun c11 => ?_) (fun c11 => ?_)
  · replace h := (if_neg c11).symm.trans h
    refine g_bipush hC dX12_mayBe_16 (v := (20 : Int32)) (by decide) ?_
    refine g_aload_n hC dX12_mayBe_18 rfl (q := 0) rfl ?_
    refine g_getr hC fd_RX12_63 rfl (by decide) (C0 := "") (t0 := _) (Or.inr rfl) (rr_75_42 hW.1) dX12_mayBe_19 ?_
    refine g_bipush hC dX12_mayBe_22 (v := (11 : Int32)) (by decide) ?_
    refine g_iload_n hC dX12_mayBe_24 rfl (q := 1) rfl ?_
    refine g_iadd hC dX12_mayBe_25 ?_
    obtain ⟨g26, h⟩ := oG_some h
    refine g_iald hC rfl (by decide) (inB_in g26) dX12_mayBe_26 ?_
    refine g_isub hC dX12_mayBe_27 ?_
    refine g_istore_n hC dX12_mayBe_28 rfl rfl (by decide) (lv' := [(2, .int ((20 : Int32) - (I 89 (((11 : Int32) + v1)).toNatClampNeg))), (0, .ref (mB E + 75)), (1, .int v1)]) rfl ?_
    refine g_aload_n hC dX12_mayBe_29 rfl (q := 1) rfl ?_
    refine g_getr hC fd_RX12_63 rfl (by decide) (C0 := "") (t0 := _) (Or.inr rfl) (rr_75_42 hW.1) dX12_mayBe_30 ?_
    refine g_iconst hC dX12_mayBe_33 (v := (1 : Int32)) (by decide) ?_
    refine g_iload_n hC dX12_mayBe_34 rfl (q := 2) rfl ?_
    refine g_iadd hC dX12_mayBe_35 ?_
    obtain ⟨g36, h⟩ := oG_some h
    refine g_iald hC rfl (by decide) (inB_in g36) dX12_mayBe_36 ?_
    refine g_iconst hC dX12_mayBe_37 (v := (1 : Int32)) (by decide) ?_
    refine g_isub hC dX12_mayBe_38 ?_
    refine g_aload_n hC dX12_mayBe_39 rfl (q := 1) rfl ?_
    refine g_getr hC fd_RX12_63 rfl (by decide) (C0 := "") (t0 := _) (Or.inr rfl) (rr_75_42 hW.1) dX12_mayBe_40 ?_
    refine g_bipush hC dX12_mayBe_43 (v := (11 : Int32)) (by decide) ?_
    refine g_iload_n hC dX12_mayBe_45 rfl (q := 2) rfl ?_
    refine g_iadd hC dX12_mayBe_46 ?_
    obtain ⟨g47, h⟩ := oG_some h
    refine g_iald hC rfl (by decide) (inB_in g47) dX12_mayBe_47 ?_
    refine g_isub hC dX12_mayBe_48 ?_
    refine g_istore_n hC dX12_mayBe_49 rfl rfl (by decide) (lv' := [(3, .int (((I 89 (((1 : Int32) + v1)).toNatClampNeg) - (1 : Int32)) - (I 89 (((11 : Int32) + v1)).toNatClampNeg))), (2, .int ((20 : Int32) - (I 89 (((11 : Int32) + v1)).toNatClampNeg))), (0, .ref (mB E + 75)), (1, .int v1)]) rfl ?_
    refine g_iload_n hC dX12_mayBe_50 rfl (q := 1) rfl ?_
    refine g_iload_n hC dX12_mayBe_51 rfl (q := 0) rfl ?_
    refine g_ic_ge hC dX12_mayBe_52 (tgt := 59) (by decide) (fun c52 => ?_) (fun c52 => ?_)
    · replace h := (if_pos c52).symm.trans h
      refine g_iload_n hC dX12_mayBe_59 rfl (q := 0) rfl ?_
      cases h
      exact g_iret hC hE rfl dX12_mayBe_60 (Nat.zero_le _) (Nat.zero_le _) ⟨rfl, rfl, rfl, rfl, rfl, rfl⟩
    · replace h := (if_neg c52).symm.trans h
      refine g_iload_n hC dX12_mayBe_55 rfl (q := 1) rfl ?_
      refine g_goto hC dX12_mayBe_56 (tgt := 60) (by decide) ?_
      cases h
      exact g_iret hC hE rfl dX12_mayBe_60 (Nat.zero_le _) (Nat.zero_le _) ⟨rfl, rfl, rfl, rfl, rfl, rfl⟩
  · replace h := (if_pos c11).symm.trans h
    refine g_iconst hC dX12_mayBe_14 (v := (0 : Int32)) (by decide) ?_
    cases h
    exact g_iret hC hE rfl dX12_mayBe_15 (Nat.zero_le _) (Nat.zero_le _) ⟨rfl, rfl, rfl, rfl, rfl, rfl⟩
noncomputable def b_X12_tries_2 (Fu : Nat) (k2_ : Int32 × mIT → Option (mIT)) (v1 : Int32) (I : mIT) : Option (mIT) :=
  if (53 : Int32) ≤ v1 then (some (I)) else (oG (inB v1 106) (oG (inB ((53 : Int32) + v1) 106) (k2_ ((v1 + (1 : Int32)), (mU I 89 (((53 : Int32) + v1)).toNatClampNeg (I 89 (v1).toNatClampNeg))))))
set_option maxRecDepth 20000 in
theorem bo_X12_tries_2 {X : mXT} {E : mEn} {Fu : Nat} {R : mRT} {L : mLT}  (hC : mC X E mX12_tries RX12 cX12_tries) (hW : mWd R)   {out : mIT} (hE : mEd X E 0 0 (mSame none 106 1 (out) R L)) (k2_ : Int32 × mIT → Option (mIT)) (hk2_ : ∀ (v1 : Int32) (I : mIT),  k2_ (v1, I) = some out → mG X E 2 [(0, .ref (mB E + 75)), (1, .int v1)] [] 106 1 I R L 0 0) (v1 : Int32) (I : mIT) (h : b_X12_tries_2 Fu k2_ v1 I = some out) : mG X E 2 [(0, .ref (mB E + 75)), (1, .int v1)] [] 106 1 I R L 0 0 := by
  unfold b_X12_tries_2 at h
  refine g_iload_n hC dX12_tries_2 rfl (q := 1) rfl ?_
  refine g_bipush hC dX12_tries_3 (v := (53 : Int32)) (by decide) ?_
  refine g_ic_ge hC dX12_tries_5 (tgt := 29) (by decide) (fun c5 => ?_) (fun c5 => ?_)
  · replace h := (if_pos c5).symm.trans h
    cases h
    exact g_vret hC hE rfl dX12_tries_29 (Nat.zero_le _) (Nat.zero_le _) ⟨rfl, rfl, rfl, rfl, rfl, rfl⟩
  · replace h := (if_neg c5).symm.trans h
    refine g_aload_n hC dX12_tries_8 rfl (q := 0) rfl ?_
    refine g_getr hC fd_RX12_63 rfl (by decide) (C0 := "") (t0 := _) (Or.inr rfl) (rr_75_42 hW.1) dX12_tries_9 ?_
    refine g_bipush hC dX12_tries_12 (v := (53 : Int32)) (by decide) ?_
    refine g_iload_n hC dX12_tries_14 rfl (q := 1) rfl ?_
    refine g_iadd hC dX12_tries_15 ?_
    refine g_aload_n hC dX12_tries_16 rfl (q := 0) rfl ?_
    refine g_getr hC fd_RX12_63 rfl (by decide) (C0 := "") (t0 := _) (Or.inr rfl) (rr_75_42 hW.1) dX12_tries_17 ?_
    refine g_iload_n hC dX12_tries_20 rfl (q := 1) rfl ?_
    obtain ⟨g21, h⟩ := oG_some h
    refine g_iald hC rfl (by decide) (inB_in g21) dX12_tries_21 ?_
    obtain ⟨g22, h⟩ := oG_some h
    refine g_iast hC rfl (by decide) (inB_in g22) dX12_tries_22 (nm_e ?_)
    refine g_iinc hC dX12_tries_23 rfl (q := 1) rfl (w := (v1 + (1 : Int32))) rfl (by decide) (lv' := [(1, .int (v1 + (1 : Int32))), (0, .ref (mB E + 75))]) rfl ?_
    refine g_goto hC dX12_tries_26 (tgt := 2) (by decide) ?_
    refine g_lv [1, 0] rfl ?_
    exact hk2_ (v1 + (1 : Int32)) (mU I 89 (((53 : Int32) + v1)).toNatClampNeg (I 89 (v1).toNatClampNeg)) h
noncomputable def w_X12_tries_2 (Fu : Nat)  (N : Nat) (v1 : Int32) (I : mIT) : Option (mIT) :=
  loopF (fun self (s : Int32 × mIT) => b_X12_tries_2 Fu self s.1 s.2) N (v1, I)
theorem wo_X12_tries_2 {X : mXT} {E : mEn} {Fu : Nat} {R : mRT} {L : mLT}  (hC : mC X E mX12_tries RX12 cX12_tries) (hW : mWd R)   {out : mIT} (hE : mEd X E 0 0 (mSame none 106 1 (out) R L))  (N : Nat) (v1 : Int32) (I : mIT) (h : w_X12_tries_2 Fu  N v1 I = some out) : mG X E 2 [(0, .ref (mB E + 75)), (1, .int v1)] [] 106 1 I R L 0 0 :=
  loopF_ok (Gd := fun s : Int32 × mIT => mG X E 2 [(0, .ref (mB E + 75)), (1, .int s.1)] [] 106 1 s.2 R L 0 0) (fun self hs s h => bo_X12_tries_2 hC hW hE self (fun v1 I h => hs (v1, I) h) s.1 s.2 h) N (v1, I) h
noncomputable def f_X12_tries (Fu : Nat) (I : mIT)  : Option (mIT) :=
  w_X12_tries_2 Fu Fu (0 : Int32) I
set_option maxRecDepth 20000 in
theorem ok_X12_tries {l : Launch} {E : mEn} {Fu : Nat} {I : mIT} {R : mRT} {L : mLT}  (hst : l.stackTraces = false) (hW : mWd R)  {out : mIT} (h : f_X12_tries Fu I  = some out) : mOk l E mX12_tries [.ref (mB E + 75)] 106 1 I R L 0 0 (mSame none 106 1 (out) R L) := by
  refine mOk_of hst (by decide) (Nat.le_of_ble_eq_true rfl) (fun X hC hE _ => ?_)
  have hC : mC X E mX12_tries RX12 cX12_tries := hC
  show mG X E 0 [(0, .ref (mB E + 75))] [] 106 1 I R L 0 0
  unfold f_X12_tries at h
  refine g_iconst hC dX12_tries_0 (v := (0 : Int32)) (by decide) ?_
  refine g_istore_n hC dX12_tries_1 rfl rfl (by decide) (lv' := [(1, .int (0 : Int32)), (0, .ref (mB E + 75))]) rfl ?_
  refine g_lv [1, 0] rfl ?_
  exact wo_X12_tries_2 hC hW hE Fu ((0 : Int32)) (I) h
noncomputable def f_X12_kept (Fu : Nat)  (v0 : Int32) (v1 : Int32) (v2 : Int32) : Option (Int32) :=
  if v1 ≤ v0 then (if v0 ≤ v2 then (some (v0)) else (some (v2))) else (some (v1))
set_option maxRecDepth 20000 in
theorem ok_X12_kept {l : Launch} {E : mEn} {Fu : Nat} {I : mIT} {R : mRT} {L : mLT} {v0 : Int32} {v1 : Int32} {v2 : Int32} (hst : l.stackTraces = false) (hW : mWd R)  {out : Int32} (h : f_X12_kept Fu  v0 v1 v2 = some out) : mOk l E mX12_kept [.int v0, .int v1, .int v2] 106 1 I R L 0 0 (mSame (some (.int (out))) 106 1 I R L) := by
  refine mOk_of hst (by decide) (Nat.le_of_ble_eq_true rfl) (fun X hC hE _ => ?_)
  have hC : mC X E mX12_kept RX12 cX12_kept := hC
  show mG X E 0 [(0, .int v0), (1, .int v1), (2, .int v2)] [] 106 1 I R L 0 0
  unfold f_X12_kept at h
  refine g_iload_n hC dX12_kept_0 rfl (q := 0) rfl ?_
  refine g_iload_n hC dX12_kept_1 rfl (q := 1) rfl ?_
  refine g_ic_ge hC dX12_kept_2 (tgt := 9) (by decide) (fun c2 => ?_) (fun c2 => ?_)
  · replace h := (if_pos c2).symm.trans h
    refine g_iload_n hC dX12_kept_9 rfl (q := 0) rfl ?_
    refine g_iload_n hC dX12_kept_10 rfl (q := 2) rfl ?_
    refine g_ic_le hC dX12_kept_11 (tgt := 18) (by decide) (fun c11 => ?_) (fun c11 => ?_)
    · replace h := (if_pos c11).symm.trans h
      refine g_iload_n hC dX12_kept_18 rfl (q := 0) rfl ?_
      cases h
      exact g_iret hC hE rfl dX12_kept_19 (Nat.zero_le _) (Nat.zero_le _) ⟨rfl, rfl, rfl, rfl, rfl, rfl⟩
    · replace h := (if_neg c11).symm.trans h
      refine g_iload_n hC dX12_kept_14 rfl (q := 2) rfl ?_
      refine g_goto hC dX12_kept_15 (tgt := 19) (by decide) ?_
      cases h
      exact g_iret hC hE rfl dX12_kept_19 (Nat.zero_le _) (Nat.zero_le _) ⟨rfl, rfl, rfl, rfl, rfl, rfl⟩
  · replace h := (if_neg c2).symm.trans h
    refine g_iload_n hC dX12_kept_5 rfl (q := 1) rfl ?_
    refine g_goto hC dX12_kept_6 (tgt := 19) (by decide) ?_
    cases h
    exact g_iret hC hE rfl dX12_kept_19 (Nat.zero_le _) (Nat.zero_le _) ⟨rfl, rfl, rfl, rfl, rfl, rfl⟩
noncomputable def f_X12_weatherOf (Fu : Nat) (I : mIT) (v1 : Int32) : Option (Int32) :=
  if (I 75 47) = (-1 : Int32) then (if (I 75 2) = 0 then (some (4 : Int32)) else (oG ((I 75 2) != 0) (oG (inB (v1 - v1 / (I 75 2) * (I 75 2)) 10) (some (I 77 ((v1 - v1 / (I 75 2) * (I 75 2))).toNatClampNeg))))) else (some (I 75 47))
set_option maxRecDepth 20000 in
theorem ok_X12_weatherOf {l : Launch} {E : mEn} {Fu : Nat} {I : mIT} {R : mRT} {L : mLT} {v1 : Int32} (hst : l.stackTraces = false) (hW : mWd R)  {out : Int32} (h : f_X12_weatherOf Fu I v1 = some out) : mOk l E mX12_weatherOf [.ref (mB E + 75), .int v1] 106 1 I R L 0 0 (mSame (some (.int (out))) 106 1 I R L) := by
  refine mOk_of hst (by decide) (Nat.le_of_ble_eq_true rfl) (fun X hC hE _ => ?_)
  have hC : mC X E mX12_weatherOf RX12 cX12_weatherOf := hC
  show mG X E 0 [(0, .ref (mB E + 75)), (1, .int v1)] [] 106 1 I R L 0 0
  unfold f_X12_weatherOf at h
  refine g_aload_n hC dX12_weatherOf_0 rfl (q := 0) rfl ?_
  refine g_geti hC fd_RX12_75 rfl (by decide) (Or.inl rfl) dX12_weatherOf_1 ?_
  refine g_iconst hC dX12_weatherOf_4 (v := (-1 : Int32)) (by decide) ?_
  refine g_ic_eq hC dX12_weatherOf_5 (tgt := 13) (by decide) (fun c5 => ?_) (fun c5 => ?_)
  · replace h := (if_pos c5).symm.trans h
    refine g_aload_n hC dX12_weatherOf_13 rfl (q := 0) rfl ?_
    refine g_geti hC fd_RX12_292 rfl (by decide) (Or.inl rfl) dX12_weatherOf_14 ?_
    refine g_if_ne hC dX12_weatherOf_17 (tgt := 24) (by decide) (fun c17 => ?_) (fun c17 => ?_)
    · replace h := (if_neg c17).symm.trans h
      refine g_aload_n hC dX12_weatherOf_24 rfl (q := 0) rfl ?_
      refine g_getr hC fd_RX12_23 rfl (by decide) (C0 := "") (t0 := _) (Or.inr rfl) (rr_75_9 hW.1) dX12_weatherOf_25 ?_
      refine g_iload_n hC dX12_weatherOf_28 rfl (q := 1) rfl ?_
      refine g_aload_n hC dX12_weatherOf_29 rfl (q := 0) rfl ?_
      refine g_geti hC fd_RX12_292 rfl (by decide) (Or.inl rfl) dX12_weatherOf_30 ?_
      obtain ⟨g33, h⟩ := oG_some h
      refine g_irem hC dX12_weatherOf_33 (mNz g33) ?_
      obtain ⟨g34, h⟩ := oG_some h
      refine g_iald hC rfl (by decide) (inB_in g34) dX12_weatherOf_34 ?_
      cases h
      exact g_iret hC hE rfl dX12_weatherOf_35 (Nat.zero_le _) (Nat.zero_le _) ⟨rfl, rfl, rfl, rfl, rfl, rfl⟩
    · replace h := (if_pos c17).symm.trans h
      refine g_iconst hC dX12_weatherOf_20 (v := (4 : Int32)) (by decide) ?_
      refine g_goto hC dX12_weatherOf_21 (tgt := 35) (by decide) ?_
      cases h
      exact g_iret hC hE rfl dX12_weatherOf_35 (Nat.zero_le _) (Nat.zero_le _) ⟨rfl, rfl, rfl, rfl, rfl, rfl⟩
  · replace h := (if_neg c5).symm.trans h
    refine g_aload_n hC dX12_weatherOf_8 rfl (q := 0) rfl ?_
    refine g_geti hC fd_RX12_75 rfl (by decide) (Or.inl rfl) dX12_weatherOf_9 ?_
    cases h
    exact g_iret hC hE rfl dX12_weatherOf_12 (Nat.zero_le _) (Nat.zero_le _) ⟨rfl, rfl, rfl, rfl, rfl, rfl⟩
noncomputable def f_X12_hangs (Fu : Nat) (I : mIT) (v1 : Int32) (v2 : Int32) : Option (Int32) :=
  oG (inB ((v1 + (31 : Int32)) + v2) 106) (if (I 89 (((v1 + (31 : Int32)) + v2)).toNatClampNeg) < 0 then (some (0 : Int32)) else (some (1 : Int32)))
set_option maxRecDepth 20000 in
theorem ok_X12_hangs {l : Launch} {E : mEn} {Fu : Nat} {I : mIT} {R : mRT} {L : mLT} {v1 : Int32} {v2 : Int32} (hst : l.stackTraces = false) (hW : mWd R)  {out : Int32} (h : f_X12_hangs Fu I v1 v2 = some out) : mOk l E mX12_hangs [.ref (mB E + 75), .int v1, .int v2] 106 1 I R L 0 0 (mSame (some (.int (out))) 106 1 I R L) := by
  refine mOk_of hst (by decide) (Nat.le_of_ble_eq_true rfl) (fun X hC hE _ => ?_)
  have hC : mC X E mX12_hangs RX12 cX12_hangs := hC
  show mG X E 0 [(0, .ref (mB E + 75)), (1, .int v1), (2, .int v2)] [] 106 1 I R L 0 0
  unfold f_X12_hangs at h
  refine g_aload_n hC dX12_hangs_0 rfl (q := 0) rfl ?_
  refine g_getr hC fd_RX12_63 rfl (by decide) (C0 := "") (t0 := _) (Or.inr rfl) (rr_75_42 hW.1) dX12_hangs_1 ?_
  refine g_iload_n hC dX12_hangs_4 rfl (q := 1) rfl ?_
  refine g_bipush hC dX12_hangs_5 (v := (31 : Int32)) (by decide) ?_
  refine g_iadd hC dX12_hangs_7 ?_
  refine g_iload_n hC dX12_hangs_8 rfl (q := 2) rfl ?_
  refine g_iadd hC dX12_hangs_9 ?_
  obtain ⟨g10, h⟩ := oG_some h
  refine g_iald hC rfl (by decide) (inB_in g10) dX12_hangs_10 ?_
  refine g_if_lt hC dX12_hangs_11 (tgt := 18) (by decide) (fun c11 => ?_) (fun c11 => ?_)
  · replace h := (if_pos c11).symm.trans h
    refine g_iconst hC dX12_hangs_18 (v := (0 : Int32)) (by decide) ?_
    cases h
    exact g_zret hC (by decide) hE rfl dX12_hangs_19 (Nat.zero_le _) (Nat.zero_le _) ⟨rfl, rfl, rfl, rfl, rfl, rfl⟩
  · replace h := (if_neg c11).symm.trans h
    refine g_iconst hC dX12_hangs_14 (v := (1 : Int32)) (by decide) ?_
    refine g_goto hC dX12_hangs_15 (tgt := 19) (by decide) ?_
    cases h
    exact g_zret hC (by decide) hE rfl dX12_hangs_19 (Nat.zero_le _) (Nat.zero_le _) ⟨rfl, rfl, rfl, rfl, rfl, rfl⟩
noncomputable def f_X12_tells (Fu : Nat) (I : mIT) (v1 : Int32) (v2 : Int32) : Option (mIT) :=
  oG (inB ((v1 + (1 : Int32)) + v2) 106) (oG (inB (0 : Int32) 7) (oG (inB ((v1 + (11 : Int32)) + v2) 106) (oG (inB (1 : Int32) 7) (oG (inB v2 10) (oG (inB (2 : Int32) 7) (oG (inB ((v1 + (21 : Int32)) + v2) 106) (oG (inB (3 : Int32) 7) (oG (inB (v1 + (0 : Int32)) 106) (oB (f_X12_weatherOf Fu (mU (mU (mU (mU I 91 ((0 : Int32)).toNatClampNeg (I 89 (((v1 + (1 : Int32)) + v2)).toNatClampNeg)) 91 ((1 : Int32)).toNatClampNeg ((mU I 91 ((0 : Int32)).toNatClampNeg (I 89 (((v1 + (1 : Int32)) + v2)).toNatClampNeg)) 89 (((v1 + (11 : Int32)) + v2)).toNatClampNeg)) 91 ((2 : Int32)).toNatClampNeg ((mU (mU I 91 ((0 : Int32)).toNatClampNeg (I 89 (((v1 + (1 : Int32)) + v2)).toNatClampNeg)) 91 ((1 : Int32)).toNatClampNeg ((mU I 91 ((0 : Int32)).toNatClampNeg (I 89 (((v1 + (1 : Int32)) + v2)).toNatClampNeg)) 89 (((v1 + (11 : Int32)) + v2)).toNatClampNeg)) 76 (v2).toNatClampNeg)) 91 ((3 : Int32)).toNatClampNeg ((mU (mU (mU I 91 ((0 : Int32)).toNatClampNeg (I 89 (((v1 + (1 : Int32)) + v2)).toNatClampNeg)) 91 ((1 : Int32)).toNatClampNeg ((mU I 91 ((0 : Int32)).toNatClampNeg (I 89 (((v1 + (1 : Int32)) + v2)).toNatClampNeg)) 89 (((v1 + (11 : Int32)) + v2)).toNatClampNeg)) 91 ((2 : Int32)).toNatClampNeg ((mU (mU I 91 ((0 : Int32)).toNatClampNeg (I 89 (((v1 + (1 : Int32)) + v2)).toNatClampNeg)) 91 ((1 : Int32)).toNatClampNeg ((mU I 91 ((0 : Int32)).toNatClampNeg (I 89 (((v1 + (1 : Int32)) + v2)).toNatClampNeg)) 89 (((v1 + (11 : Int32)) + v2)).toNatClampNeg)) 76 (v2).toNatClampNeg)) 89 (((v1 + (21 : Int32)) + v2)).toNatClampNeg)) ((mU (mU (mU (mU I 91 ((0 : Int32)).toNatClampNeg (I 89 (((v1 + (1 : Int32)) + v2)).toNatClampNeg)) 91 ((1 : Int32)).toNatClampNeg ((mU I 91 ((0 : Int32)).toNatClampNeg (I 89 (((v1 + (1 : Int32)) + v2)).toNatClampNeg)) 89 (((v1 + (11 : Int32)) + v2)).toNatClampNeg)) 91 ((2 : Int32)).toNatClampNeg ((mU (mU I 91 ((0 : Int32)).toNatClampNeg (I 89 (((v1 + (1 : Int32)) + v2)).toNatClampNeg)) 91 ((1 : Int32)).toNatClampNeg ((mU I 91 ((0 : Int32)).toNatClampNeg (I 89 (((v1 + (1 : Int32)) + v2)).toNatClampNeg)) 89 (((v1 + (11 : Int32)) + v2)).toNatClampNeg)) 76 (v2).toNatClampNeg)) 91 ((3 : Int32)).toNatClampNeg ((mU (mU (mU I 91 ((0 : Int32)).toNatClampNeg (I 89 (((v1 + (1 : Int32)) + v2)).toNatClampNeg)) 91 ((1 : Int32)).toNatClampNeg ((mU I 91 ((0 : Int32)).toNatClampNeg (I 89 (((v1 + (1 : Int32)) + v2)).toNatClampNeg)) 89 (((v1 + (11 : Int32)) + v2)).toNatClampNeg)) 91 ((2 : Int32)).toNatClampNeg ((mU (mU I 91 ((0 : Int32)).toNatClampNeg (I 89 (((v1 + (1 : Int32)) + v2)).toNatClampNeg)) 91 ((1 : Int32)).toNatClampNeg ((mU I 91 ((0 : Int32)).toNatClampNeg (I 89 (((v1 + (1 : Int32)) + v2)).toNatClampNeg)) 89 (((v1 + (11 : Int32)) + v2)).toNatClampNeg)) 76 (v2).toNatClampNeg)) 89 (((v1 + (21 : Int32)) + v2)).toNatClampNeg)) 89 ((v1 + (0 : Int32))).toNatClampNeg)) (fun r76 => oG (inB (4 : Int32) 7) (oG (inB (v1 + (0 : Int32)) 106) (oG (inB (5 : Int32) 7) (oB (f_X12_hangs Fu (mU (mU (mU (mU (mU (mU I 91 ((0 : Int32)).toNatClampNeg (I 89 (((v1 + (1 : Int32)) + v2)).toNatClampNeg)) 91 ((1 : Int32)).toNatClampNeg ((mU I 91 ((0 : Int32)).toNatClampNeg (I 89 (((v1 + (1 : Int32)) + v2)).toNatClampNeg)) 89 (((v1 + (11 : Int32)) + v2)).toNatClampNeg)) 91 ((2 : Int32)).toNatClampNeg ((mU (mU I 91 ((0 : Int32)).toNatClampNeg (I 89 (((v1 + (1 : Int32)) + v2)).toNatClampNeg)) 91 ((1 : Int32)).toNatClampNeg ((mU I 91 ((0 : Int32)).toNatClampNeg (I 89 (((v1 + (1 : Int32)) + v2)).toNatClampNeg)) 89 (((v1 + (11 : Int32)) + v2)).toNatClampNeg)) 76 (v2).toNatClampNeg)) 91 ((3 : Int32)).toNatClampNeg ((mU (mU (mU I 91 ((0 : Int32)).toNatClampNeg (I 89 (((v1 + (1 : Int32)) + v2)).toNatClampNeg)) 91 ((1 : Int32)).toNatClampNeg ((mU I 91 ((0 : Int32)).toNatClampNeg (I 89 (((v1 + (1 : Int32)) + v2)).toNatClampNeg)) 89 (((v1 + (11 : Int32)) + v2)).toNatClampNeg)) 91 ((2 : Int32)).toNatClampNeg ((mU (mU I 91 ((0 : Int32)).toNatClampNeg (I 89 (((v1 + (1 : Int32)) + v2)).toNatClampNeg)) 91 ((1 : Int32)).toNatClampNeg ((mU I 91 ((0 : Int32)).toNatClampNeg (I 89 (((v1 + (1 : Int32)) + v2)).toNatClampNeg)) 89 (((v1 + (11 : Int32)) + v2)).toNatClampNeg)) 76 (v2).toNatClampNeg)) 89 (((v1 + (21 : Int32)) + v2)).toNatClampNeg)) 91 ((4 : Int32)).toNatClampNeg r76) 91 ((5 : Int32)).toNatClampNeg ((mU (mU (mU (mU (mU I 91 ((0 : Int32)).toNatClampNeg (I 89 (((v1 + (1 : Int32)) + v2)).toNatClampNeg)) 91 ((1 : Int32)).toNatClampNeg ((mU I 91 ((0 : Int32)).toNatClampNeg (I 89 (((v1 + (1 : Int32)) + v2)).toNatClampNeg)) 89 (((v1 + (11 : Int32)) + v2)).toNatClampNeg)) 91 ((2 : Int32)).toNatClampNeg ((mU (mU I 91 ((0 : Int32)).toNatClampNeg (I 89 (((v1 + (1 : Int32)) + v2)).toNatClampNeg)) 91 ((1 : Int32)).toNatClampNeg ((mU I 91 ((0 : Int32)).toNatClampNeg (I 89 (((v1 + (1 : Int32)) + v2)).toNatClampNeg)) 89 (((v1 + (11 : Int32)) + v2)).toNatClampNeg)) 76 (v2).toNatClampNeg)) 91 ((3 : Int32)).toNatClampNeg ((mU (mU (mU I 91 ((0 : Int32)).toNatClampNeg (I 89 (((v1 + (1 : Int32)) + v2)).toNatClampNeg)) 91 ((1 : Int32)).toNatClampNeg ((mU I 91 ((0 : Int32)).toNatClampNeg (I 89 (((v1 + (1 : Int32)) + v2)).toNatClampNeg)) 89 (((v1 + (11 : Int32)) + v2)).toNatClampNeg)) 91 ((2 : Int32)).toNatClampNeg ((mU (mU I 91 ((0 : Int32)).toNatClampNeg (I 89 (((v1 + (1 : Int32)) + v2)).toNatClampNeg)) 91 ((1 : Int32)).toNatClampNeg ((mU I 91 ((0 : Int32)).toNatClampNeg (I 89 (((v1 + (1 : Int32)) + v2)).toNatClampNeg)) 89 (((v1 + (11 : Int32)) + v2)).toNatClampNeg)) 76 (v2).toNatClampNeg)) 89 (((v1 + (21 : Int32)) + v2)).toNatClampNeg)) 91 ((4 : Int32)).toNatClampNeg r76) 89 ((v1 + (0 : Int32))).toNatClampNeg)) v1 v2) (fun r103 => if r103 = 0 then (oG (inB (6 : Int32) 7) (some (mU (mU (mU (mU (mU (mU (mU I 91 ((0 : Int32)).toNatClampNeg (I 89 (((v1 + (1 : Int32)) + v2)).toNatClampNeg)) 91 ((1 : Int32)).toNatClampNeg ((mU I 91 ((0 : Int32)).toNatClampNeg (I 89 (((v1 + (1 : Int32)) + v2)).toNatClampNeg)) 89 (((v1 + (11 : Int32)) + v2)).toNatClampNeg)) 91 ((2 : Int32)).toNatClampNeg ((mU (mU I 91 ((0 : Int32)).toNatClampNeg (I 89 (((v1 + (1 : Int32)) + v2)).toNatClampNeg)) 91 ((1 : Int32)).toNatClampNeg ((mU I 91 ((0 : Int32)).toNatClampNeg (I 89 (((v1 + (1 : Int32)) + v2)).toNatClampNeg)) 89 (((v1 + (11 : Int32)) + v2)).toNatClampNeg)) 76 (v2).toNatClampNeg)) 91 ((3 : Int32)).toNatClampNeg ((mU (mU (mU I 91 ((0 : Int32)).toNatClampNeg (I 89 (((v1 + (1 : Int32)) + v2)).toNatClampNeg)) 91 ((1 : Int32)).toNatClampNeg ((mU I 91 ((0 : Int32)).toNatClampNeg (I 89 (((v1 + (1 : Int32)) + v2)).toNatClampNeg)) 89 (((v1 + (11 : Int32)) + v2)).toNatClampNeg)) 91 ((2 : Int32)).toNatClampNeg ((mU (mU I 91 ((0 : Int32)).toNatClampNeg (I 89 (((v1 + (1 : Int32)) + v2)).toNatClampNeg)) 91 ((1 : Int32)).toNatClampNeg ((mU I 91 ((0 : Int32)).toNatClampNeg (I 89 (((v1 + (1 : Int32)) + v2)).toNatClampNeg)) 89 (((v1 + (11 : Int32)) + v2)).toNatClampNeg)) 76 (v2).toNatClampNeg)) 89 (((v1 + (21 : Int32)) + v2)).toNatClampNeg)) 91 ((4 : Int32)).toNatClampNeg r76) 91 ((5 : Int32)).toNatClampNeg ((mU (mU (mU (mU (mU I 91 ((0 : Int32)).toNatClampNeg (I 89 (((v1 + (1 : Int32)) + v2)).toNatClampNeg)) 91 ((1 : Int32)).toNatClampNeg ((mU I 91 ((0 : Int32)).toNatClampNeg (I 89 (((v1 + (1 : Int32)) + v2)).toNatClampNeg)) 89 (((v1 + (11 : Int32)) + v2)).toNatClampNeg)) 91 ((2 : Int32)).toNatClampNeg ((mU (mU I 91 ((0 : Int32)).toNatClampNeg (I 89 (((v1 + (1 : Int32)) + v2)).toNatClampNeg)) 91 ((1 : Int32)).toNatClampNeg ((mU I 91 ((0 : Int32)).toNatClampNeg (I 89 (((v1 + (1 : Int32)) + v2)).toNatClampNeg)) 89 (((v1 + (11 : Int32)) + v2)).toNatClampNeg)) 76 (v2).toNatClampNeg)) 91 ((3 : Int32)).toNatClampNeg ((mU (mU (mU I 91 ((0 : Int32)).toNatClampNeg (I 89 (((v1 + (1 : Int32)) + v2)).toNatClampNeg)) 91 ((1 : Int32)).toNatClampNeg ((mU I 91 ((0 : Int32)).toNatClampNeg (I 89 (((v1 + (1 : Int32)) + v2)).toNatClampNeg)) 89 (((v1 + (11 : Int32)) + v2)).toNatClampNeg)) 91 ((2 : Int32)).toNatClampNeg ((mU (mU I 91 ((0 : Int32)).toNatClampNeg (I 89 (((v1 + (1 : Int32)) + v2)).toNatClampNeg)) 91 ((1 : Int32)).toNatClampNeg ((mU I 91 ((0 : Int32)).toNatClampNeg (I 89 (((v1 + (1 : Int32)) + v2)).toNatClampNeg)) 89 (((v1 + (11 : Int32)) + v2)).toNatClampNeg)) 76 (v2).toNatClampNeg)) 89 (((v1 + (21 : Int32)) + v2)).toNatClampNeg)) 91 ((4 : Int32)).toNatClampNeg r76) 89 ((v1 + (0 : Int32))).toNatClampNeg)) 91 ((6 : Int32)).toNatClampNeg (0 : Int32)))) else (oG (inB (6 : Int32) 7) (some (mU (mU (mU (mU (mU (mU (mU I 91 ((0 : Int32)).toNatClampNeg (I 89 (((v1 + (1 : Int32)) + v2)).toNatClampNeg)) 91 ((1 : Int32)).toNatClampNeg ((mU I 91 ((0 : Int32)).toNatClampNeg (I 89 (((v1 + (1 : Int32)) + v2)).toNatClampNeg)) 89 (((v1 + (11 : Int32)) + v2)).toNatClampNeg)) 91 ((2 : Int32)).toNatClampNeg ((mU (mU I 91 ((0 : Int32)).toNatClampNeg (I 89 (((v1 + (1 : Int32)) + v2)).toNatClampNeg)) 91 ((1 : Int32)).toNatClampNeg ((mU I 91 ((0 : Int32)).toNatClampNeg (I 89 (((v1 + (1 : Int32)) + v2)).toNatClampNeg)) 89 (((v1 + (11 : Int32)) + v2)).toNatClampNeg)) 76 (v2).toNatClampNeg)) 91 ((3 : Int32)).toNatClampNeg ((mU (mU (mU I 91 ((0 : Int32)).toNatClampNeg (I 89 (((v1 + (1 : Int32)) + v2)).toNatClampNeg)) 91 ((1 : Int32)).toNatClampNeg ((mU I 91 ((0 : Int32)).toNatClampNeg (I 89 (((v1 + (1 : Int32)) + v2)).toNatClampNeg)) 89 (((v1 + (11 : Int32)) + v2)).toNatClampNeg)) 91 ((2 : Int32)).toNatClampNeg ((mU (mU I 91 ((0 : Int32)).toNatClampNeg (I 89 (((v1 + (1 : Int32)) + v2)).toNatClampNeg)) 91 ((1 : Int32)).toNatClampNeg ((mU I 91 ((0 : Int32)).toNatClampNeg (I 89 (((v1 + (1 : Int32)) + v2)).toNatClampNeg)) 89 (((v1 + (11 : Int32)) + v2)).toNatClampNeg)) 76 (v2).toNatClampNeg)) 89 (((v1 + (21 : Int32)) + v2)).toNatClampNeg)) 91 ((4 : Int32)).toNatClampNeg r76) 91 ((5 : Int32)).toNatClampNeg ((mU (mU (mU (mU (mU I 91 ((0 : Int32)).toNatClampNeg (I 89 (((v1 + (1 : Int32)) + v2)).toNatClampNeg)) 91 ((1 : Int32)).toNatClampNeg ((mU I 91 ((0 : Int32)).toNatClampNeg (I 89 (((v1 + (1 : Int32)) + v2)).toNatClampNeg)) 89 (((v1 + (11 : Int32)) + v2)).toNatClampNeg)) 91 ((2 : Int32)).toNatClampNeg ((mU (mU I 91 ((0 : Int32)).toNatClampNeg (I 89 (((v1 + (1 : Int32)) + v2)).toNatClampNeg)) 91 ((1 : Int32)).toNatClampNeg ((mU I 91 ((0 : Int32)).toNatClampNeg (I 89 (((v1 + (1 : Int32)) + v2)).toNatClampNeg)) 89 (((v1 + (11 : Int32)) + v2)).toNatClampNeg)) 76 (v2).toNatClampNeg)) 91 ((3 : Int32)).toNatClampNeg ((mU (mU (mU I 91 ((0 : Int32)).toNatClampNeg (I 89 (((v1 + (1 : Int32)) + v2)).toNatClampNeg)) 91 ((1 : Int32)).toNatClampNeg ((mU I 91 ((0 : Int32)).toNatClampNeg (I 89 (((v1 + (1 : Int32)) + v2)).toNatClampNeg)) 89 (((v1 + (11 : Int32)) + v2)).toNatClampNeg)) 91 ((2 : Int32)).toNatClampNeg ((mU (mU I 91 ((0 : Int32)).toNatClampNeg (I 89 (((v1 + (1 : Int32)) + v2)).toNatClampNeg)) 91 ((1 : Int32)).toNatClampNeg ((mU I 91 ((0 : Int32)).toNatClampNeg (I 89 (((v1 + (1 : Int32)) + v2)).toNatClampNeg)) 89 (((v1 + (11 : Int32)) + v2)).toNatClampNeg)) 76 (v2).toNatClampNeg)) 89 (((v1 + (21 : Int32)) + v2)).toNatClampNeg)) 91 ((4 : Int32)).toNatClampNeg r76) 89 ((v1 + (0 : Int32))).toNatClampNeg)) 91 ((6 : Int32)).toNatClampNeg (1 : Int32))))))))))))))))))
set_option maxRecDepth 20000 in
theorem ok_X12_tells {l : Launch} {E : mEn} {Fu : Nat} {I : mIT} {R : mRT} {L : mLT} {v1 : Int32} {v2 : Int32} (hst : l.stackTraces = false) (hW : mWd R)  {out : mIT} (h : f_X12_tells Fu I v1 v2 = some out) : mOk l E mX12_tells [.ref (mB E + 75), .int v1, .int v2] 106 1 I R L 0 0 (mSame none 106 1 (out) R L) := by
  refine mOk_of hst (by decide) (Nat.le_of_ble_eq_true rfl) (fun X hC hE _ => ?_)
  have hC : mC X E mX12_tells RX12 cX12_tells := hC
  show mG X E 0 [(0, .ref (mB E + 75)), (1, .int v1), (2, .int v2)] [] 106 1 I R L 0 0
  unfold f_X12_tells at h
  refine g_aload_n hC dX12_tells_0 rfl (q := 0) rfl ?_
  refine g_getr hC fd_RX12_69 rfl (by decide) (C0 := "") (t0 := _) (Or.inr rfl) (rr_75_45 hW.1) dX12_tells_1 ?_
  refine g_iconst hC dX12_tells_4 (v := (0 : Int32)) (by decide) ?_
  refine g_aload_n hC dX12_tells_5 rfl (q := 0) rfl ?_
  refine g_getr hC fd_RX12_63 rfl (by decide) (C0 := "") (t0 := _) (Or.inr rfl) (rr_75_42 hW.1) dX12_tells_6 ?_
  refine g_iload_n hC dX12_tells_9 rfl (q := 1) rfl ?_
  refine g_iconst hC dX12_tells_10 (v := (1 : Int32)) (by decide) ?_
  refine g_iadd hC dX12_tells_11 ?_
  refine g_iload_n hC dX12_tells_12 rfl (q := 2) rfl ?_
  refine g_iadd hC dX12_tells_13 ?_
  obtain ⟨g14, h⟩ := oG_some h
  refine g_iald hC rfl (by decide) (inB_in g14) dX12_tells_14 ?_
  obtain ⟨g15, h⟩ := oG_some h
  refine g_iast hC rfl (by decide) (inB_in g15) dX12_tells_15 (nm_e ?_)
  refine g_aload_n hC dX12_tells_16 rfl (q := 0) rfl ?_
  refine g_getr hC fd_RX12_69 rfl (by decide) (C0 := "") (t0 := _) (Or.inr rfl) (rr_75_45 hW.1) dX12_tells_17 ?_
  refine g_iconst hC dX12_tells_20 (v := (1 : Int32)) (by decide) ?_
  refine g_aload_n hC dX12_tells_21 rfl (q := 0) rfl ?_
  refine g_getr hC fd_RX12_63 rfl (by decide) (C0 := "") (t0 := _) (Or.inr rfl) (rr_75_42 hW.1) dX12_tells_22 ?_
  refine g_iload_n hC dX12_tells_25 rfl (q := 1) rfl ?_
  refine g_bipush hC dX12_tells_26 (v := (11 : Int32)) (by decide) ?_
  refine g_iadd hC dX12_tells_28 ?_
  refine g_iload_n hC dX12_tells_29 rfl (q := 2) rfl ?_
  refine g_iadd hC dX12_tells_30 ?_
  obtain ⟨g31, h⟩ := oG_some h
  refine g_iald hC rfl (by decide) (inB_in g31) dX12_tells_31 ?_
  obtain ⟨g32, h⟩ := oG_some h
  refine g_iast hC rfl (by decide) (inB_in g32) dX12_tells_32 (nm_e ?_)
  refine g_aload_n hC dX12_tells_33 rfl (q := 0) rfl ?_
  refine g_getr hC fd_RX12_69 rfl (by decide) (C0 := "") (t0 := _) (Or.inr rfl) (rr_75_45 hW.1) dX12_tells_34 ?_
  refine g_iconst hC dX12_tells_37 (v := (2 : Int32)) (by decide) ?_
  refine g_aload_n hC dX12_tells_38 rfl (q := 0) rfl ?_
  refine g_getr hC fd_RX12_19 rfl (by decide) (C0 := "") (t0 := _) (Or.inr rfl) (rr_75_8 hW.1) dX12_tells_39 ?_
  refine g_iload_n hC dX12_tells_42 rfl (q := 2) rfl ?_
  obtain ⟨g43, h⟩ := oG_some h
  refine g_iald hC rfl (by decide) (inB_in g43) dX12_tells_43 ?_
  obtain ⟨g44, h⟩ := oG_some h
  refine g_iast hC rfl (by decide) (inB_in g44) dX12_tells_44 (nm_e ?_)
  refine g_aload_n hC dX12_tells_45 rfl (q := 0) rfl ?_
  refine g_getr hC fd_RX12_69 rfl (by decide) (C0 := "") (t0 := _) (Or.inr rfl) (rr_75_45 hW.1) dX12_tells_46 ?_
  refine g_iconst hC dX12_tells_49 (v := (3 : Int32)) (by decide) ?_
  refine g_aload_n hC dX12_tells_50 rfl (q := 0) rfl ?_
  refine g_getr hC fd_RX12_63 rfl (by decide) (C0 := "") (t0 := _) (Or.inr rfl) (rr_75_42 hW.1) dX12_tells_51 ?_
  refine g_iload_n hC dX12_tells_54 rfl (q := 1) rfl ?_
  refine g_bipush hC dX12_tells_55 (v := (21 : Int32)) (by decide) ?_
  refine g_iadd hC dX12_tells_57 ?_
  refine g_iload_n hC dX12_tells_58 rfl (q := 2) rfl ?_
  refine g_iadd hC dX12_tells_59 ?_
  obtain ⟨g60, h⟩ := oG_some h
  refine g_iald hC rfl (by decide) (inB_in g60) dX12_tells_60 ?_
  obtain ⟨g61, h⟩ := oG_some h
  refine g_iast hC rfl (by decide) (inB_in g61) dX12_tells_61 (nm_e ?_)
  refine g_aload_n hC dX12_tells_62 rfl (q := 0) rfl ?_
  refine g_getr hC fd_RX12_69 rfl (by decide) (C0 := "") (t0 := _) (Or.inr rfl) (rr_75_45 hW.1) dX12_tells_63 ?_
  refine g_iconst hC dX12_tells_66 (v := (4 : Int32)) (by decide) ?_
  refine g_aload_n hC dX12_tells_67 rfl (q := 0) rfl ?_
  refine g_aload_n hC dX12_tells_68 rfl (q := 0) rfl ?_
  refine g_getr hC fd_RX12_63 rfl (by decide) (C0 := "") (t0 := _) (Or.inr rfl) (rr_75_42 hW.1) dX12_tells_69 ?_
  refine g_iload_n hC dX12_tells_72 rfl (q := 1) rfl ?_
  refine g_iconst hC dX12_tells_73 (v := (0 : Int32)) (by decide) ?_
  refine g_iadd hC dX12_tells_74 ?_
  obtain ⟨g75, h⟩ := oG_some h
  refine g_iald hC rfl (by decide) (inB_in g75) dX12_tells_75 ?_
  obtain ⟨r76, h76, h⟩ := oB_some h
  refine g_cV1 hC cv_X12_weatherOf wd_1992 ⟨Nat.le_of_ble_eq_true rfl, Nat.le_of_ble_eq_true rfl⟩ rfl (by decide) dX12_tells_76 (As := [.int ((mU (mU (mU (mU I 91 ((0 : Int32)).toNatClampNeg (I 89 (((v1 + (1 : Int32)) + v2)).toNatClampNeg)) 91 ((1 : Int32)).toNatClampNeg ((mU I 91 ((0 : Int32)).toNatClampNeg (I 89 (((v1 + (1 : Int32)) + v2)).toNatClampNeg)) 89 (((v1 + (11 : Int32)) + v2)).toNatClampNeg)) 91 ((2 : Int32)).toNatClampNeg ((mU (mU I 91 ((0 : Int32)).toNatClampNeg (I 89 (((v1 + (1 : Int32)) + v2)).toNatClampNeg)) 91 ((1 : Int32)).toNatClampNeg ((mU I 91 ((0 : Int32)).toNatClampNeg (I 89 (((v1 + (1 : Int32)) + v2)).toNatClampNeg)) 89 (((v1 + (11 : Int32)) + v2)).toNatClampNeg)) 76 (v2).toNatClampNeg)) 91 ((3 : Int32)).toNatClampNeg ((mU (mU (mU I 91 ((0 : Int32)).toNatClampNeg (I 89 (((v1 + (1 : Int32)) + v2)).toNatClampNeg)) 91 ((1 : Int32)).toNatClampNeg ((mU I 91 ((0 : Int32)).toNatClampNeg (I 89 (((v1 + (1 : Int32)) + v2)).toNatClampNeg)) 89 (((v1 + (11 : Int32)) + v2)).toNatClampNeg)) 91 ((2 : Int32)).toNatClampNeg ((mU (mU I 91 ((0 : Int32)).toNatClampNeg (I 89 (((v1 + (1 : Int32)) + v2)).toNatClampNeg)) 91 ((1 : Int32)).toNatClampNeg ((mU I 91 ((0 : Int32)).toNatClampNeg (I 89 (((v1 + (1 : Int32)) + v2)).toNatClampNeg)) 89 (((v1 + (11 : Int32)) + v2)).toNatClampNeg)) 76 (v2).toNatClampNeg)) 89 (((v1 + (21 : Int32)) + v2)).toNatClampNeg)) 89 ((v1 + (0 : Int32))).toNatClampNeg)]) (st := [.int (4 : Int32), .ref (mB E + 91)]) (ok_X12_weatherOf hC.2.2.2.2.2.2.2.1 hW h76) rfl rfl (Nat.le_of_ble_eq_true rfl) ⟨Nat.zero_le _, Nat.zero_le _⟩ ?_
  obtain ⟨g79, h⟩ := oG_some h
  refine g_iast hC rfl (by decide) (inB_in g79) dX12_tells_79 (nm_e ?_)
  refine g_aload_n hC dX12_tells_80 rfl (q := 0) rfl ?_
  refine g_getr hC fd_RX12_69 rfl (by decide) (C0 := "") (t0 := _) (Or.inr rfl) (rr_75_45 hW.1) dX12_tells_81 ?_
  refine g_iconst hC dX12_tells_84 (v := (5 : Int32)) (by decide) ?_
  refine g_aload_n hC dX12_tells_85 rfl (q := 0) rfl ?_
  refine g_getr hC fd_RX12_63 rfl (by decide) (C0 := "") (t0 := _) (Or.inr rfl) (rr_75_42 hW.1) dX12_tells_86 ?_
  refine g_iload_n hC dX12_tells_89 rfl (q := 1) rfl ?_
  refine g_iconst hC dX12_tells_90 (v := (0 : Int32)) (by decide) ?_
  refine g_iadd hC dX12_tells_91 ?_
  obtain ⟨g92, h⟩ := oG_some h
  refine g_iald hC rfl (by decide) (inB_in g92) dX12_tells_92 ?_
  obtain ⟨g93, h⟩ := oG_some h
  refine g_iast hC rfl (by decide) (inB_in g93) dX12_tells_93 (nm_e ?_)
  refine g_aload_n hC dX12_tells_94 rfl (q := 0) rfl ?_
  refine g_getr hC fd_RX12_69 rfl (by decide) (C0 := "") (t0 := _) (Or.inr rfl) (rr_75_45 hW.1) dX12_tells_95 ?_
  refine g_bipush hC dX12_tells_98 (v := (6 : Int32)) (by decide) ?_
  refine g_aload_n hC dX12_tells_100 rfl (q := 0) rfl ?_
  refine g_iload_n hC dX12_tells_101 rfl (q := 1) rfl ?_
  refine g_iload_n hC dX12_tells_102 rfl (q := 2) rfl ?_
  obtain ⟨r103, h103, h⟩ := oB_some h
  refine g_cV1 hC cv_X12_hangs wd_2004 ⟨Nat.le_of_ble_eq_true rfl, Nat.le_of_ble_eq_true rfl⟩ rfl (by decide) dX12_tells_103 (As := [.int v1, .int v2]) (st := [.int (6 : Int32), .ref (mB E + 91)]) (ok_X12_hangs hC.2.2.2.2.2.2.2.1 hW h103) rfl rfl (Nat.le_of_ble_eq_true rfl) ⟨Nat.zero_le _, Nat.zero_le _⟩ ?_
  refine g_if_eq hC dX12_tells_106 (tgt := 113) (by decide) (fun c106 => ?_) (fun c106 => ?_)
  · replace h := (if_pos c106).symm.trans h
    refine g_iconst hC dX12_tells_113 (v := (0 : Int32)) (by decide) ?_
    obtain ⟨g114, h⟩ := oG_some h
    refine g_iast hC rfl (by decide) (inB_in g114) dX12_tells_114 (nm_e ?_)
    cases h
    exact g_vret hC hE rfl dX12_tells_115 (Nat.zero_le _) (Nat.zero_le _) ⟨rfl, rfl, rfl, rfl, rfl, rfl⟩
  · replace h := (if_neg c106).symm.trans h
    refine g_iconst hC dX12_tells_109 (v := (1 : Int32)) (by decide) ?_
    refine g_goto hC dX12_tells_110 (tgt := 114) (by decide) ?_
    obtain ⟨g114, h⟩ := oG_some h
    refine g_iast hC rfl (by decide) (inB_in g114) dX12_tells_114 (nm_e ?_)
    cases h
    exact g_vret hC hE rfl dX12_tells_115 (Nat.zero_le _) (Nat.zero_le _) ⟨rfl, rfl, rfl, rfl, rfl, rfl⟩
noncomputable def f_X12_works (Fu : Nat)  (v0 : Int32) (v1 : Int32) (v2 : Int32) : Option (Int32) :=
  if v0 = (4 : Int32) then (if v1 = 0 then (some (0 : Int32)) else (if v2 = 0 then (some (0 : Int32)) else (some (1 : Int32)))) else if v0 = (5 : Int32) then (if v1 = 0 then (if v2 = 0 then (some (0 : Int32)) else (some (1 : Int32))) else (some (1 : Int32))) else if v0 = (6 : Int32) then (if v2 ≤ v1 then (some (0 : Int32)) else (some (1 : Int32))) else if v0 = (7 : Int32) then (if v1 = v2 then (some (1 : Int32)) else (some (0 : Int32))) else if v0 = (8 : Int32) then (some (v1 + v2)) else if v0 = (9 : Int32) then (some (v1 - v2)) else if v0 = (10 : Int32) then (some (v1 * v2)) else (if v2 = 0 then (some (0 : Int32)) else (oG (v2 != 0) (some (v1 / v2))))
set_option maxRecDepth 20000 in
theorem ok_X12_works {l : Launch} {E : mEn} {Fu : Nat} {I : mIT} {R : mRT} {L : mLT} {v0 : Int32} {v1 : Int32} {v2 : Int32} (hst : l.stackTraces = false) (hW : mWd R)  {out : Int32} (h : f_X12_works Fu  v0 v1 v2 = some out) : mOk l E mX12_works [.int v0, .int v1, .int v2] 106 1 I R L 0 0 (mSame (some (.int (out))) 106 1 I R L) := by
  refine mOk_of hst (by decide) (Nat.le_of_ble_eq_true rfl) (fun X hC hE _ => ?_)
  have hC : mC X E mX12_works RX12 cX12_works := hC
  show mG X E 0 [(0, .int v0), (1, .int v1), (2, .int v2)] [] 106 1 I R L 0 0
  unfold f_X12_works at h
  refine g_iload_n hC dX12_works_0 rfl (q := 0) rfl ?_
  by_cases c1_4 : v0 = (4 : Int32)
  · replace h := (if_pos c1_4).symm.trans h
    refine g_tabI hC dX12_works_1 (off := 43) (tgt := 44) (by rw [c1_4]; decide) (by rw [c1_4]; decide) (by rw [c1_4]; rfl) (by decide) ?_
    refine g_iload_n hC dX12_works_44 rfl (q := 1) rfl ?_
    refine g_if_eq hC dX12_works_45 (tgt := 56) (by decide) (fun c45 => ?_) (fun c45 => ?_)
    · replace h := (if_pos c45).symm.trans h
      refine g_iconst hC dX12_works_56 (v := (0 : Int32)) (by decide) ?_
      cases h
      exact g_iret hC hE rfl dX12_works_57 (Nat.zero_le _) (Nat.zero_le _) ⟨rfl, rfl, rfl, rfl, rfl, rfl⟩
    · replace h := (if_neg c45).symm.trans h
      refine g_iload_n hC dX12_works_48 rfl (q := 2) rfl ?_
      refine g_if_eq hC dX12_works_49 (tgt := 56) (by decide) (fun c49 => ?_) (fun c49 => ?_)
      · replace h := (if_pos c49).symm.trans h
        refine g_iconst hC dX12_works_56 (v := (0 : Int32)) (by decide) ?_
        cases h
        exact g_iret hC hE rfl dX12_works_57 (Nat.zero_le _) (Nat.zero_le _) ⟨rfl, rfl, rfl, rfl, rfl, rfl⟩
      · replace h := (if_neg c49).symm.trans h
        refine g_iconst hC dX12_works_52 (v := (1 : Int32)) (by decide) ?_
        refine g_goto hC dX12_works_53 (tgt := 57) (by decide) ?_
        cases h
        exact g_iret hC hE rfl dX12_works_57 (Nat.zero_le _) (Nat.zero_le _) ⟨rfl, rfl, rfl, rfl, rfl, rfl⟩
  replace h := (if_neg c1_4).symm.trans h
  by_cases c1_5 : v0 = (5 : Int32)
  · replace h := (if_pos c1_5).symm.trans h
    refine g_tabI hC dX12_works_1 (off := 57) (tgt := 58) (by rw [c1_5]; decide) (by rw [c1_5]; decide) (by rw [c1_5]; rfl) (by decide) ?_
    refine g_iload_n hC dX12_works_58 rfl (q := 1) rfl ?_
    refine g_if_ne hC dX12_works_59 (tgt := 66) (by decide) (fun c59 => ?_) (fun c59 => ?_)
    · replace h := (if_neg c59).symm.trans h
      refine g_iconst hC dX12_works_66 (v := (1 : Int32)) (by decide) ?_
      refine g_goto hC dX12_works_67 (tgt := 71) (by decide) ?_
      cases h
      exact g_iret hC hE rfl dX12_works_71 (Nat.zero_le _) (Nat.zero_le _) ⟨rfl, rfl, rfl, rfl, rfl, rfl⟩
    · replace h := (if_pos c59).symm.trans h
      refine g_iload_n hC dX12_works_62 rfl (q := 2) rfl ?_
      refine g_if_eq hC dX12_works_63 (tgt := 70) (by decide) (fun c63 => ?_) (fun c63 => ?_)
      · replace h := (if_pos c63).symm.trans h
        refine g_iconst hC dX12_works_70 (v := (0 : Int32)) (by decide) ?_
        cases h
        exact g_iret hC hE rfl dX12_works_71 (Nat.zero_le _) (Nat.zero_le _) ⟨rfl, rfl, rfl, rfl, rfl, rfl⟩
      · replace h := (if_neg c63).symm.trans h
        refine g_iconst hC dX12_works_66 (v := (1 : Int32)) (by decide) ?_
        refine g_goto hC dX12_works_67 (tgt := 71) (by decide) ?_
        cases h
        exact g_iret hC hE rfl dX12_works_71 (Nat.zero_le _) (Nat.zero_le _) ⟨rfl, rfl, rfl, rfl, rfl, rfl⟩
  replace h := (if_neg c1_5).symm.trans h
  by_cases c1_6 : v0 = (6 : Int32)
  · replace h := (if_pos c1_6).symm.trans h
    refine g_tabI hC dX12_works_1 (off := 71) (tgt := 72) (by rw [c1_6]; decide) (by rw [c1_6]; decide) (by rw [c1_6]; rfl) (by decide) ?_
    refine g_iload_n hC dX12_works_72 rfl (q := 1) rfl ?_
    refine g_iload_n hC dX12_works_73 rfl (q := 2) rfl ?_
    refine g_ic_ge hC dX12_works_74 (tgt := 81) (by decide) (fun c74 => ?_) (fun c74 => ?_)
    · replace h := (if_pos c74).symm.trans h
      refine g_iconst hC dX12_works_81 (v := (0 : Int32)) (by decide) ?_
      cases h
      exact g_iret hC hE rfl dX12_works_82 (Nat.zero_le _) (Nat.zero_le _) ⟨rfl, rfl, rfl, rfl, rfl, rfl⟩
    · replace h := (if_neg c74).symm.trans h
      refine g_iconst hC dX12_works_77 (v := (1 : Int32)) (by decide) ?_
      refine g_goto hC dX12_works_78 (tgt := 82) (by decide) ?_
      cases h
      exact g_iret hC hE rfl dX12_works_82 (Nat.zero_le _) (Nat.zero_le _) ⟨rfl, rfl, rfl, rfl, rfl, rfl⟩
  replace h := (if_neg c1_6).symm.trans h
  by_cases c1_7 : v0 = (7 : Int32)
  · replace h := (if_pos c1_7).symm.trans h
    refine g_tabI hC dX12_works_1 (off := 82) (tgt := 83) (by rw [c1_7]; decide) (by rw [c1_7]; decide) (by rw [c1_7]; rfl) (by decide) ?_
    refine g_iload_n hC dX12_works_83 rfl (q := 1) rfl ?_
    refine g_iload_n hC dX12_works_84 rfl (q := 2) rfl ?_
    refine g_ic_ne hC dX12_works_85 (tgt := 92) (by decide) (fun c85 => ?_) (fun c85 => ?_)
    · replace h := (if_neg c85).symm.trans h
      refine g_iconst hC dX12_works_92 (v := (0 : Int32)) (by decide) ?_
      cases h
      exact g_iret hC hE rfl dX12_works_93 (Nat.zero_le _) (Nat.zero_le _) ⟨rfl, rfl, rfl, rfl, rfl, rfl⟩
    · replace h := (if_pos c85).symm.trans h
      refine g_iconst hC dX12_works_88 (v := (1 : Int32)) (by decide) ?_
      refine g_goto hC dX12_works_89 (tgt := 93) (by decide) ?_
      cases h
      exact g_iret hC hE rfl dX12_works_93 (Nat.zero_le _) (Nat.zero_le _) ⟨rfl, rfl, rfl, rfl, rfl, rfl⟩
  replace h := (if_neg c1_7).symm.trans h
  by_cases c1_8 : v0 = (8 : Int32)
  · replace h := (if_pos c1_8).symm.trans h
    refine g_tabI hC dX12_works_1 (off := 93) (tgt := 94) (by rw [c1_8]; decide) (by rw [c1_8]; decide) (by rw [c1_8]; rfl) (by decide) ?_
    refine g_iload_n hC dX12_works_94 rfl (q := 1) rfl ?_
    refine g_iload_n hC dX12_works_95 rfl (q := 2) rfl ?_
    refine g_iadd hC dX12_works_96 ?_
    cases h
    exact g_iret hC hE rfl dX12_works_97 (Nat.zero_le _) (Nat.zero_le _) ⟨rfl, rfl, rfl, rfl, rfl, rfl⟩
  replace h := (if_neg c1_8).symm.trans h
  by_cases c1_9 : v0 = (9 : Int32)
  · replace h := (if_pos c1_9).symm.trans h
    refine g_tabI hC dX12_works_1 (off := 97) (tgt := 98) (by rw [c1_9]; decide) (by rw [c1_9]; decide) (by rw [c1_9]; rfl) (by decide) ?_
    refine g_iload_n hC dX12_works_98 rfl (q := 1) rfl ?_
    refine g_iload_n hC dX12_works_99 rfl (q := 2) rfl ?_
    refine g_isub hC dX12_works_100 ?_
    cases h
    exact g_iret hC hE rfl dX12_works_101 (Nat.zero_le _) (Nat.zero_le _) ⟨rfl, rfl, rfl, rfl, rfl, rfl⟩
  replace h := (if_neg c1_9).symm.trans h
  by_cases c1_10 : v0 = (10 : Int32)
  · replace h := (if_pos c1_10).symm.trans h
    refine g_tabI hC dX12_works_1 (off := 101) (tgt := 102) (by rw [c1_10]; decide) (by rw [c1_10]; decide) (by rw [c1_10]; rfl) (by decide) ?_
    refine g_iload_n hC dX12_works_102 rfl (q := 1) rfl ?_
    refine g_iload_n hC dX12_works_103 rfl (q := 2) rfl ?_
    refine g_imul hC dX12_works_104 ?_
    cases h
    exact g_iret hC hE rfl dX12_works_105 (Nat.zero_le _) (Nat.zero_le _) ⟨rfl, rfl, rfl, rfl, rfl, rfl⟩
  replace h := (if_neg c1_10).symm.trans h
  refine g_tabO hC dX12_works_1 (sw_out (fun j hj1 hj2 => ?_)) (tgt := 106) (by decide) ?_
  · rcases (show j = 4 ∨ j = 5 ∨ j = 6 ∨ j = 7 ∨ j = 8 ∨ j = 9 ∨ j = 10 by omega) with rfl | rfl | rfl | rfl | rfl | rfl | rfl <;> assumption
  refine g_iload_n hC dX12_works_106 rfl (q := 2) rfl ?_
  refine g_if_ne hC dX12_works_107 (tgt := 114) (by decide) (fun c107 => ?_) (fun c107 => ?_)
  · replace h := (if_neg c107).symm.trans h
    refine g_iload_n hC dX12_works_114 rfl (q := 1) rfl ?_
    refine g_iload_n hC dX12_works_115 rfl (q := 2) rfl ?_
    obtain ⟨g116, h⟩ := oG_some h
    refine g_idiv hC dX12_works_116 (mNz g116) ?_
    cases h
    exact g_iret hC hE rfl dX12_works_117 (Nat.zero_le _) (Nat.zero_le _) ⟨rfl, rfl, rfl, rfl, rfl, rfl⟩
  · replace h := (if_pos c107).symm.trans h
    refine g_iconst hC dX12_works_110 (v := (0 : Int32)) (by decide) ?_
    refine g_goto hC dX12_works_111 (tgt := 117) (by decide) ?_
    cases h
    exact g_iret hC hE rfl dX12_works_117 (Nat.zero_le _) (Nat.zero_le _) ⟨rfl, rfl, rfl, rfl, rfl, rfl⟩
noncomputable def b_X12_reckons_36 (Fu : Nat) (k4_ : Int32 × Int32 × mIT → Option (Int32 × mIT)) (v2 : Int32) (v3 : Int32) (v4 : Int32) (I : mIT) : Option (Int32 × mIT) :=
  if v4 = (1 : Int32) then (oG (inB v3 1400) (oG (inB v2 950) (k4_ ((v2 + (1 : Int32)), (v3 + (1 : Int32)), (mU I 92 (v2).toNatClampNeg (I 79 (v3).toNatClampNeg)))))) else (oG (inB v3 1400) (oG (inB (I 79 (v3).toNatClampNeg) 7) (oG (inB v2 950) (k4_ ((v2 + (1 : Int32)), (v3 + (1 : Int32)), (mU I 92 (v2).toNatClampNeg (I 91 ((I 79 (v3).toNatClampNeg)).toNatClampNeg)))))))
set_option maxRecDepth 20000 in
theorem bo_X12_reckons_36 {X : mXT} {E : mEn} {Fu : Nat} {R : mRT} {L : mLT}  (hC : mC X E mX12_reckons RX12 cX12_reckons) (hW : mWd R)   {out : Int32 × mIT} (hE : mEd X E 0 0 (mSame (some (.int (out.1))) 106 1 (out.2) R L)) (k4_ : Int32 × Int32 × mIT → Option (Int32 × mIT)) (hk4_ : ∀ (v2 : Int32) (v3 : Int32) (I : mIT),  k4_ (v2, v3, I) = some out → mG X E 4 [(0, .ref (mB E + 75)), (2, .int v2), (3, .int v3)] [] 106 1 I R L 0 0) (v2 : Int32) (v3 : Int32) (v4 : Int32) (I : mIT) (h : b_X12_reckons_36 Fu k4_ v2 v3 v4 I = some out) : mG X E 36 [(0, .ref (mB E + 75)), (2, .int v2), (3, .int v3), (4, .int v4)] [] 106 1 I R L 0 0 := by
  unfold b_X12_reckons_36 at h
  refine g_aload_n hC dX12_reckons_36 rfl (q := 0) rfl ?_
  refine g_getr hC fd_RX12_72 rfl (by decide) (C0 := "") (t0 := _) (Or.inr rfl) (rr_75_46 hW.1) dX12_reckons_37 ?_
  refine g_iload_n hC dX12_reckons_40 rfl (q := 1) rfl ?_
  refine g_iload hC dX12_reckons_41 (q := 3) rfl ?_
  refine g_iconst hC dX12_reckons_43 (v := (1 : Int32)) (by decide) ?_
  refine g_ic_ne hC dX12_reckons_44 (tgt := 56) (by decide) (fun c44 => ?_) (fun c44 => ?_)
  · replace h := (if_neg c44).symm.trans h
    refine g_aload_n hC dX12_reckons_56 rfl (q := 0) rfl ?_
    refine g_getr hC fd_RX12_69 rfl (by decide) (C0 := "") (t0 := _) (Or.inr rfl) (rr_75_45 hW.1) dX12_reckons_57 ?_
    refine g_aload_n hC dX12_reckons_60 rfl (q := 0) rfl ?_
    refine g_getr hC fd_RX12_29 rfl (by decide) (C0 := "") (t0 := _) (Or.inr rfl) (rr_75_11 hW.1) dX12_reckons_61 ?_
    refine g_iload_n hC dX12_reckons_64 rfl (q := 2) rfl ?_
    obtain ⟨g65, h⟩ := oG_some h
    refine g_iald hC rfl (by decide) (inB_in g65) dX12_reckons_65 ?_
    obtain ⟨g66, h⟩ := oG_some h
    refine g_iald hC rfl (by decide) (inB_in g66) dX12_reckons_66 ?_
    obtain ⟨g67, h⟩ := oG_some h
    refine g_iast hC rfl (by decide) (inB_in g67) dX12_reckons_67 (nm_e ?_)
    refine g_iinc hC dX12_reckons_68 rfl (q := 2) rfl (w := (v3 + (1 : Int32))) rfl (by decide) (lv' := [(3, .int (v3 + (1 : Int32))), (0, .ref (mB E + 75)), (2, .int v2), (4, .int v4)]) rfl ?_
    refine g_iinc hC dX12_reckons_71 rfl (q := 2) rfl (w := (v2 + (1 : Int32))) rfl (by decide) (lv' := [(2, .int (v2 + (1 : Int32))), (3, .int (v3 + (1 : Int32))), (0, .ref (mB E + 75)), (4, .int v4)]) rfl ?_
    refine g_goto hC dX12_reckons_74 (tgt := 140) (by decide) ?_
    refine g_goto hC dX12_reckons_140 (tgt := 4) (by decide) ?_
    refine g_lv [2, 0, 1] rfl ?_
    exact hk4_ (v2 + (1 : Int32)) (v3 + (1 : Int32)) (mU I 92 (v2).toNatClampNeg (I 91 ((I 79 (v3).toNatClampNeg)).toNatClampNeg)) h
  · replace h := (if_pos c44).symm.trans h
    refine g_aload_n hC dX12_reckons_47 rfl (q := 0) rfl ?_
    refine g_getr hC fd_RX12_29 rfl (by decide) (C0 := "") (t0 := _) (Or.inr rfl) (rr_75_11 hW.1) dX12_reckons_48 ?_
    refine g_iload_n hC dX12_reckons_51 rfl (q := 2) rfl ?_
    obtain ⟨g52, h⟩ := oG_some h
    refine g_iald hC rfl (by decide) (inB_in g52) dX12_reckons_52 ?_
    refine g_goto hC dX12_reckons_53 (tgt := 67) (by decide) ?_
    obtain ⟨g67, h⟩ := oG_some h
    refine g_iast hC rfl (by decide) (inB_in g67) dX12_reckons_67 (nm_e ?_)
    refine g_iinc hC dX12_reckons_68 rfl (q := 2) rfl (w := (v3 + (1 : Int32))) rfl (by decide) (lv' := [(3, .int (v3 + (1 : Int32))), (0, .ref (mB E + 75)), (2, .int v2), (4, .int v4)]) rfl ?_
    refine g_iinc hC dX12_reckons_71 rfl (q := 2) rfl (w := (v2 + (1 : Int32))) rfl (by decide) (lv' := [(2, .int (v2 + (1 : Int32))), (3, .int (v3 + (1 : Int32))), (0, .ref (mB E + 75)), (4, .int v4)]) rfl ?_
    refine g_goto hC dX12_reckons_74 (tgt := 140) (by decide) ?_
    refine g_goto hC dX12_reckons_140 (tgt := 4) (by decide) ?_
    refine g_lv [2, 0, 1] rfl ?_
    exact hk4_ (v2 + (1 : Int32)) (v3 + (1 : Int32)) (mU I 92 (v2).toNatClampNeg (I 79 (v3).toNatClampNeg)) h
noncomputable def b_X12_reckons_4 (Fu : Nat) (k4_ : Int32 × Int32 × mIT → Option (Int32 × mIT)) (v2 : Int32) (v3 : Int32) (I : mIT) : Option (Int32 × mIT) :=
  oG (inB v3 1400) (if (I 79 (v3).toNatClampNeg) = 0 then (oG (inB (0 : Int32) 950) (some ((I 92 ((0 : Int32)).toNatClampNeg), I))) else (oG (inB v3 1400) (if (I 79 (v3).toNatClampNeg) = (1 : Int32) then (b_X12_reckons_36 Fu k4_ v2 (v3 + (1 : Int32)) (I 79 (v3).toNatClampNeg) I) else (if (I 79 (v3).toNatClampNeg) = (2 : Int32) then (b_X12_reckons_36 Fu k4_ v2 (v3 + (1 : Int32)) (I 79 (v3).toNatClampNeg) I) else (if (I 79 (v3).toNatClampNeg) = (3 : Int32) then (oG (inB (v2 - (1 : Int32)) 950) (if (I 92 ((v2 - (1 : Int32))).toNatClampNeg) = 0 then (oG (inB (v2 - (1 : Int32)) 950) (k4_ (v2, (v3 + (1 : Int32)), (mU I 92 ((v2 - (1 : Int32))).toNatClampNeg (1 : Int32))))) else (oG (inB (v2 - (1 : Int32)) 950) (k4_ (v2, (v3 + (1 : Int32)), (mU I 92 ((v2 - (1 : Int32))).toNatClampNeg (0 : Int32))))))) else (oG (inB ((v2 + (-1 : Int32)) - (1 : Int32)) 950) (oG (inB (v2 + (-1 : Int32)) 950) (oB (f_X12_works Fu (I 79 (v3).toNatClampNeg) (I 92 (((v2 + (-1 : Int32)) - (1 : Int32))).toNatClampNeg) (I 92 ((v2 + (-1 : Int32))).toNatClampNeg)) (fun r136 => oG (inB ((v2 + (-1 : Int32)) - (1 : Int32)) 950) (k4_ ((v2 + (-1 : Int32)), (v3 + (1 : Int32)), (mU I 92 (((v2 + (-1 : Int32)) - (1 : Int32))).toNatClampNeg r136))))))))))))
set_option maxRecDepth 20000 in
theorem bo_X12_reckons_4 {X : mXT} {E : mEn} {Fu : Nat} {R : mRT} {L : mLT}  (hC : mC X E mX12_reckons RX12 cX12_reckons) (hW : mWd R)   {out : Int32 × mIT} (hE : mEd X E 0 0 (mSame (some (.int (out.1))) 106 1 (out.2) R L)) (k4_ : Int32 × Int32 × mIT → Option (Int32 × mIT)) (hk4_ : ∀ (v2 : Int32) (v3 : Int32) (I : mIT),  k4_ (v2, v3, I) = some out → mG X E 4 [(0, .ref (mB E + 75)), (2, .int v2), (3, .int v3)] [] 106 1 I R L 0 0) (v2 : Int32) (v3 : Int32) (I : mIT) (h : b_X12_reckons_4 Fu k4_ v2 v3 I = some out) : mG X E 4 [(0, .ref (mB E + 75)), (2, .int v2), (3, .int v3)] [] 106 1 I R L 0 0 := by
  unfold b_X12_reckons_4 at h
  refine g_aload_n hC dX12_reckons_4 rfl (q := 0) rfl ?_
  refine g_getr hC fd_RX12_29 rfl (by decide) (C0 := "") (t0 := _) (Or.inr rfl) (rr_75_11 hW.1) dX12_reckons_5 ?_
  refine g_iload_n hC dX12_reckons_8 rfl (q := 2) rfl ?_
  obtain ⟨g9, h⟩ := oG_some h
  refine g_iald hC rfl (by decide) (inB_in g9) dX12_reckons_9 ?_
  refine g_if_eq hC dX12_reckons_10 (tgt := 143) (by decide) (fun c10 => ?_) (fun c10 => ?_)
  · replace h := (if_pos c10).symm.trans h
    refine g_aload_n hC dX12_reckons_143 rfl (q := 0) rfl ?_
    refine g_getr hC fd_RX12_72 rfl (by decide) (C0 := "") (t0 := _) (Or.inr rfl) (rr_75_46 hW.1) dX12_reckons_144 ?_
    refine g_iconst hC dX12_reckons_147 (v := (0 : Int32)) (by decide) ?_
    obtain ⟨g148, h⟩ := oG_some h
    refine g_iald hC rfl (by decide) (inB_in g148) dX12_reckons_148 ?_
    cases h
    exact g_iret hC hE rfl dX12_reckons_149 (Nat.zero_le _) (Nat.zero_le _) ⟨rfl, rfl, rfl, rfl, rfl, rfl⟩
  · replace h := (if_neg c10).symm.trans h
    refine g_aload_n hC dX12_reckons_13 rfl (q := 0) rfl ?_
    refine g_getr hC fd_RX12_29 rfl (by decide) (C0 := "") (t0 := _) (Or.inr rfl) (rr_75_11 hW.1) dX12_reckons_14 ?_
    refine g_iload_n hC dX12_reckons_17 rfl (q := 2) rfl ?_
    obtain ⟨g18, h⟩ := oG_some h
    refine g_iald hC rfl (by decide) (inB_in g18) dX12_reckons_18 ?_
    refine g_istore hC dX12_reckons_19 rfl (by decide) (lv' := [(4, .int (I 79 (v3).toNatClampNeg)), (0, .ref (mB E + 75)), (2, .int v2), (3, .int v3)]) rfl ?_
    refine g_iinc hC dX12_reckons_21 rfl (q := 3) rfl (w := (v3 + (1 : Int32))) rfl (by decide) (lv' := [(3, .int (v3 + (1 : Int32))), (4, .int (I 79 (v3).toNatClampNeg)), (0, .ref (mB E + 75)), (2, .int v2)]) rfl ?_
    refine g_iload hC dX12_reckons_24 (q := 1) rfl ?_
    refine g_iconst hC dX12_reckons_26 (v := (1 : Int32)) (by decide) ?_
    refine g_ic_eq hC dX12_reckons_27 (tgt := 36) (by decide) (fun c27 => ?_) (fun c27 => ?_)
    · replace h := (if_pos c27).symm.trans h
      refine g_lv [2, 3, 0, 1] rfl ?_
      exact bo_X12_reckons_36 hC hW hE k4_ hk4_ (v2) ((v3 + (1 : Int32))) ((I 79 (v3).toNatClampNeg)) (I) h
    · replace h := (if_neg c27).symm.trans h
      refine g_iload hC dX12_reckons_30 (q := 1) rfl ?_
      refine g_iconst hC dX12_reckons_32 (v := (2 : Int32)) (by decide) ?_
      refine g_ic_ne hC dX12_reckons_33 (tgt := 77) (by decide) (fun c33 => ?_) (fun c33 => ?_)
      · replace h := (if_neg c33).symm.trans h
        refine g_iload hC dX12_reckons_77 (q := 1) rfl ?_
        refine g_iconst hC dX12_reckons_79 (v := (3 : Int32)) (by decide) ?_
        refine g_ic_ne hC dX12_reckons_80 (tgt := 110) (by decide) (fun c80 => ?_) (fun c80 => ?_)
        · replace h := (if_neg c80).symm.trans h
          refine g_iinc hC dX12_reckons_110 rfl (q := 3) rfl (w := (v2 + (-1 : Int32))) rfl (by decide) (lv' := [(2, .int (v2 + (-1 : Int32))), (3, .int (v3 + (1 : Int32))), (4, .int (I 79 (v3).toNatClampNeg)), (0, .ref (mB E + 75))]) rfl ?_
          refine g_aload_n hC dX12_reckons_113 rfl (q := 3) rfl ?_
          refine g_getr hC fd_RX12_72 rfl (by decide) (C0 := "") (t0 := _) (Or.inr rfl) (rr_75_46 hW.1) dX12_reckons_114 ?_
          refine g_iload_n hC dX12_reckons_117 rfl (q := 0) rfl ?_
          refine g_iconst hC dX12_reckons_118 (v := (1 : Int32)) (by decide) ?_
          refine g_isub hC dX12_reckons_119 ?_
          refine g_iload hC dX12_reckons_120 (q := 2) rfl ?_
          refine g_aload_n hC dX12_reckons_122 rfl (q := 3) rfl ?_
          refine g_getr hC fd_RX12_72 rfl (by decide) (C0 := "") (t0 := _) (Or.inr rfl) (rr_75_46 hW.1) dX12_reckons_123 ?_
          refine g_iload_n hC dX12_reckons_126 rfl (q := 0) rfl ?_
          refine g_iconst hC dX12_reckons_127 (v := (1 : Int32)) (by decide) ?_
          refine g_isub hC dX12_reckons_128 ?_
          obtain ⟨g129, h⟩ := oG_some h
          refine g_iald hC rfl (by decide) (inB_in g129) dX12_reckons_129 ?_
          refine g_aload_n hC dX12_reckons_130 rfl (q := 3) rfl ?_
          refine g_getr hC fd_RX12_72 rfl (by decide) (C0 := "") (t0 := _) (Or.inr rfl) (rr_75_46 hW.1) dX12_reckons_131 ?_
          refine g_iload_n hC dX12_reckons_134 rfl (q := 0) rfl ?_
          obtain ⟨g135, h⟩ := oG_some h
          refine g_iald hC rfl (by decide) (inB_in g135) dX12_reckons_135 ?_
          obtain ⟨r136, h136, h⟩ := oB_some h
          refine g_cS1 hC cs_X12_works wd_2027 ⟨Nat.le_of_ble_eq_true rfl, Nat.le_of_ble_eq_true rfl⟩ dX12_reckons_136 (As := [.int (I 79 (v3).toNatClampNeg), .int (I 92 (((v2 + (-1 : Int32)) - (1 : Int32))).toNatClampNeg), .int (I 92 ((v2 + (-1 : Int32))).toNatClampNeg)]) (st := [.int ((v2 + (-1 : Int32)) - (1 : Int32)), .ref (mB E + 92)]) (ok_X12_works hC.2.2.2.2.2.2.2.1 hW h136) rfl rfl (Nat.le_of_ble_eq_true rfl) ⟨Nat.zero_le _, Nat.zero_le _⟩ ?_
          obtain ⟨g139, h⟩ := oG_some h
          refine g_iast hC rfl (by decide) (inB_in g139) dX12_reckons_139 (nm_e ?_)
          refine g_goto hC dX12_reckons_140 (tgt := 4) (by decide) ?_
          refine g_lv [3, 0, 1] rfl ?_
          exact hk4_ (v2 + (-1 : Int32)) (v3 + (1 : Int32)) (mU I 92 (((v2 + (-1 : Int32)) - (1 : Int32))).toNatClampNeg r136) h
        · replace h := (if_pos c80).symm.trans h
          refine g_aload_n hC dX12_reckons_83 rfl (q := 2) rfl ?_
          refine g_getr hC fd_RX12_72 rfl (by decide) (C0 := "") (t0 := _) (Or.inr rfl) (rr_75_46 hW.1) dX12_reckons_84 ?_
          refine g_iload_n hC dX12_reckons_87 rfl (q := 3) rfl ?_
          refine g_iconst hC dX12_reckons_88 (v := (1 : Int32)) (by decide) ?_
          refine g_isub hC dX12_reckons_89 ?_
          refine g_aload_n hC dX12_reckons_90 rfl (q := 2) rfl ?_
          refine g_getr hC fd_RX12_72 rfl (by decide) (C0 := "") (t0 := _) (Or.inr rfl) (rr_75_46 hW.1) dX12_reckons_91 ?_
          refine g_iload_n hC dX12_reckons_94 rfl (q := 3) rfl ?_
          refine g_iconst hC dX12_reckons_95 (v := (1 : Int32)) (by decide) ?_
          refine g_isub hC dX12_reckons_96 ?_
          obtain ⟨g97, h⟩ := oG_some h
          refine g_iald hC rfl (by decide) (inB_in g97) dX12_reckons_97 ?_
          refine g_if_ne hC dX12_reckons_98 (tgt := 105) (by decide) (fun c98 => ?_) (fun c98 => ?_)
          · replace h := (if_neg c98).symm.trans h
            refine g_iconst hC dX12_reckons_105 (v := (0 : Int32)) (by decide) ?_
            obtain ⟨g106, h⟩ := oG_some h
            refine g_iast hC rfl (by decide) (inB_in g106) dX12_reckons_106 (nm_e ?_)
            refine g_goto hC dX12_reckons_107 (tgt := 140) (by decide) ?_
            refine g_goto hC dX12_reckons_140 (tgt := 4) (by decide) ?_
            refine g_lv [2, 3, 0] rfl ?_
            exact hk4_ v2 (v3 + (1 : Int32)) (mU I 92 ((v2 - (1 : Int32))).toNatClampNeg (0 : Int32)) h
          · replace h := (if_pos c98).symm.trans h
            refine g_iconst hC dX12_reckons_101 (v := (1 : Int32)) (by decide) ?_
            refine g_goto hC dX12_reckons_102 (tgt := 106) (by decide) ?_
            obtain ⟨g106, h⟩ := oG_some h
            refine g_iast hC rfl (by decide) (inB_in g106) dX12_reckons_106 (nm_e ?_)
            refine g_goto hC dX12_reckons_107 (tgt := 140) (by decide) ?_
            refine g_goto hC dX12_reckons_140 (tgt := 4) (by decide) ?_
            refine g_lv [2, 3, 0] rfl ?_
            exact hk4_ v2 (v3 + (1 : Int32)) (mU I 92 ((v2 - (1 : Int32))).toNatClampNeg (1 : Int32)) h
      · replace h := (if_pos c33).symm.trans h
        refine g_lv [2, 3, 0, 1] rfl ?_
        exact bo_X12_reckons_36 hC hW hE k4_ hk4_ (v2) ((v3 + (1 : Int32))) ((I 79 (v3).toNatClampNeg)) (I) h
noncomputable def w_X12_reckons_4 (Fu : Nat)  (N : Nat) (v2 : Int32) (v3 : Int32) (I : mIT) : Option (Int32 × mIT) :=
  loopF (fun self (s : Int32 × Int32 × mIT) => b_X12_reckons_4 Fu self s.1 s.2.1 s.2.2) N (v2, v3, I)
theorem wo_X12_reckons_4 {X : mXT} {E : mEn} {Fu : Nat} {R : mRT} {L : mLT}  (hC : mC X E mX12_reckons RX12 cX12_reckons) (hW : mWd R)   {out : Int32 × mIT} (hE : mEd X E 0 0 (mSame (some (.int (out.1))) 106 1 (out.2) R L))  (N : Nat) (v2 : Int32) (v3 : Int32) (I : mIT) (h : w_X12_reckons_4 Fu  N v2 v3 I = some out) : mG X E 4 [(0, .ref (mB E + 75)), (2, .int v2), (3, .int v3)] [] 106 1 I R L 0 0 :=
  loopF_ok (Gd := fun s : Int32 × Int32 × mIT => mG X E 4 [(0, .ref (mB E + 75)), (2, .int s.1), (3, .int s.2.1)] [] 106 1 s.2.2 R L 0 0) (fun self hs s h => bo_X12_reckons_4 hC hW hE self (fun v2 v3 I h => hs (v2, v3, I) h) s.1 s.2.1 s.2.2 h) N (v2, v3, I) h
noncomputable def f_X12_reckons (Fu : Nat) (I : mIT) (v1 : Int32) : Option (Int32 × mIT) :=
  w_X12_reckons_4 Fu Fu (0 : Int32) v1 I
set_option maxRecDepth 20000 in
theorem ok_X12_reckons {l : Launch} {E : mEn} {Fu : Nat} {I : mIT} {R : mRT} {L : mLT} {v1 : Int32} (hst : l.stackTraces = false) (hW : mWd R)  {out : Int32 × mIT} (h : f_X12_reckons Fu I v1 = some out) : mOk l E mX12_reckons [.ref (mB E + 75), .int v1] 106 1 I R L 0 0 (mSame (some (.int (out.1))) 106 1 (out.2) R L) := by
  refine mOk_of hst (by decide) (Nat.le_of_ble_eq_true rfl) (fun X hC hE _ => ?_)
  have hC : mC X E mX12_reckons RX12 cX12_reckons := hC
  show mG X E 0 [(0, .ref (mB E + 75)), (1, .int v1)] [] 106 1 I R L 0 0
  unfold f_X12_reckons at h
  refine g_iconst hC dX12_reckons_0 (v := (0 : Int32)) (by decide) ?_
  refine g_istore_n hC dX12_reckons_1 rfl rfl (by decide) (lv' := [(2, .int (0 : Int32)), (0, .ref (mB E + 75)), (1, .int v1)]) rfl ?_
  refine g_iload_n hC dX12_reckons_2 rfl (q := 2) rfl ?_
  refine g_istore_n hC dX12_reckons_3 rfl rfl (by decide) (lv' := [(3, .int v1), (2, .int (0 : Int32)), (0, .ref (mB E + 75)), (1, .int v1)]) rfl ?_
  refine g_lv [2, 1, 0] rfl ?_
  exact wo_X12_reckons_4 hC hW hE Fu ((0 : Int32)) (v1) (I) h
