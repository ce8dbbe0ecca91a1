noncomputable def b_X2_workOut_96 (Fu : Nat) (k1 : Nat) (k2 : Nat) (k96_ : Int32 × mIT → Option (mIT)) (v3 : Int32) (I : mIT) : Option (mIT) :=
  if v3 < 0 then (some (I)) else (if (nI 1024) ≤ v3 then (k96_ ((v3 + (-1 : Int32)), I)) else (oB (f_X2_leastBehind Fu I v3) (fun r116 => oG (inB v3 1024) (k96_ ((v3 + (-1 : Int32)), (mU I 68 (v3).toNatClampNeg r116))))))
set_option maxRecDepth 20000 in
theorem bo_X2_workOut_96 {X : mXT} {E : mEn} {Fu : Nat} {R : mRT} {L : mLT} {k1 : Nat} {k2 : Nat} (hC : mC X E mX2_workOut RX2 cX2_workOut) (hW : mWd R) (hk1 : mO5 R k1) (hk2 : mO9 R k2)  {out : mIT} (hE : mEd X E 0 0 (mSame none 106 1 (out) R L)) (k96_ : Int32 × mIT → Option (mIT)) (hk96_ : ∀ (v3 : Int32) (I : mIT),  k96_ (v3, I) = some out → mG X E 96 [(0, .ref (mB E + 66)), (3, .int v3)] [] 106 1 I R L 0 0) (v3 : Int32) (I : mIT) (h : b_X2_workOut_96 Fu k1 k2 k96_ v3 I = some out) : mG X E 96 [(0, .ref (mB E + 66)), (3, .int v3)] [] 106 1 I R L 0 0 := by
  unfold b_X2_workOut_96 at h
  refine g_iload_n hC dX2_workOut_96 rfl (q := 1) rfl ?_
  refine g_if_lt hC dX2_workOut_97 (tgt := 126) (by decide) (fun c97 => ?_) (fun c97 => ?_)
  · replace h := (if_pos c97).symm.trans h
    cases h
    exact g_vret hC hE rfl dX2_workOut_126 (Nat.zero_le _) (Nat.zero_le _) ⟨rfl, rfl, rfl, rfl, rfl, rfl⟩
  · replace h := (if_neg c97).symm.trans h
    refine g_iload_n hC dX2_workOut_100 rfl (q := 1) rfl ?_
    refine g_aload_n hC dX2_workOut_101 rfl (q := 0) rfl ?_
    refine g_getr hC fd_RX2_15 rfl (by decide) (C0 := "") (t0 := _) (Or.inr rfl) (rr_66_1 hW.1) dX2_workOut_102 ?_
    refine g_alenI hC rfl (by decide) dX2_workOut_105 ?_
    refine g_ic_ge hC dX2_workOut_106 (tgt := 120) (by decide) (fun c106 => ?_) (fun c106 => ?_)
    · replace h := (if_pos c106).symm.trans h
      refine g_iinc hC dX2_workOut_120 rfl (q := 1) rfl (w := (v3 + (-1 : Int32))) rfl (by decide) (lv' := [(3, .int (v3 + (-1 : Int32))), (0, .ref (mB E + 66))]) rfl ?_
      refine g_goto hC dX2_workOut_123 (tgt := 96) (by decide) ?_
      refine g_lv [1, 0] rfl ?_
      exact hk96_ (v3 + (-1 : Int32)) I h
    · replace h := (if_neg c106).symm.trans h
      refine g_aload_n hC dX2_workOut_109 rfl (q := 0) rfl ?_
      refine g_getr hC fd_RX2_15 rfl (by decide) (C0 := "") (t0 := _) (Or.inr rfl) (rr_66_1 hW.1) dX2_workOut_110 ?_
      refine g_iload_n hC dX2_workOut_113 rfl (q := 1) rfl ?_
      refine g_aload_n hC dX2_workOut_114 rfl (q := 0) rfl ?_
      refine g_iload_n hC dX2_workOut_115 rfl (q := 1) rfl ?_
      obtain ⟨r116, h116, h⟩ := oB_some h
      refine g_cV1 hC cv_X2_leastBehind wd_1380 ⟨Nat.le_of_ble_eq_true rfl, Nat.le_of_ble_eq_true rfl⟩ rfl (by decide) dX2_workOut_116 (As := [.int v3]) (st := [.int v3, .ref (mB E + 68)]) (ok_X2_leastBehind hC.2.2.2.2.2.2.2.1 hW h116) rfl rfl (Nat.le_of_ble_eq_true rfl) ⟨Nat.zero_le _, Nat.zero_le _⟩ ?_
      obtain ⟨g119, h⟩ := oG_some h
      refine g_iast hC rfl (by decide) (inB_in g119) dX2_workOut_119 (nm_e ?_)
      refine g_iinc hC dX2_workOut_120 rfl (q := 1) rfl (w := (v3 + (-1 : Int32))) rfl (by decide) (lv' := [(3, .int (v3 + (-1 : Int32))), (0, .ref (mB E + 66))]) rfl ?_
      refine g_goto hC dX2_workOut_123 (tgt := 96) (by decide) ?_
      refine g_lv [1, 0] rfl ?_
      exact hk96_ (v3 + (-1 : Int32)) (mU I 68 (v3).toNatClampNeg r116) h
noncomputable def w_X2_workOut_96 (Fu : Nat) (k1 : Nat) (k2 : Nat)  (N : Nat) (v3 : Int32) (I : mIT) : Option (mIT) :=
  loopF (fun self (s : Int32 × mIT) => b_X2_workOut_96 Fu k1 k2 self s.1 s.2) N (v3, I)
theorem wo_X2_workOut_96 {X : mXT} {E : mEn} {Fu : Nat} {R : mRT} {L : mLT} {k1 : Nat} {k2 : Nat} (hC : mC X E mX2_workOut RX2 cX2_workOut) (hW : mWd R) (hk1 : mO5 R k1) (hk2 : mO9 R k2)  {out : mIT} (hE : mEd X E 0 0 (mSame none 106 1 (out) R L))  (N : Nat) (v3 : Int32) (I : mIT) (h : w_X2_workOut_96 Fu k1 k2  N v3 I = some out) : mG X E 96 [(0, .ref (mB E + 66)), (3, .int v3)] [] 106 1 I R L 0 0 :=
  loopF_ok (Gd := fun s : Int32 × mIT => mG X E 96 [(0, .ref (mB E + 66)), (3, .int s.1)] [] 106 1 s.2 R L 0 0) (fun self hs s h => bo_X2_workOut_96 hC hW hk1 hk2 hE self (fun v3 I h => hs (v3, I) h) s.1 s.2 h) N (v3, I) h
noncomputable def b_X2_workOut_56 (Fu : Nat) (k1 : Nat) (k2 : Nat) (k56_ : Int32 × mIT → Option (mIT)) (v3 : Int32) (I : mIT) : Option (mIT) :=
  if (I 66 3) ≤ v3 then (w_X2_workOut_96 Fu k1 k2 Fu (((1 : Int32) <<< ((I 66 3) &&& 31)) - (1 : Int32)) I) else (oB (f_X9_placeOf Fu I k2 v3) (fun r66 => if r66 = (-2 : Int32) then (k56_ ((v3 + (1 : Int32)), I)) else (oB (f_X2_findNeeds Fu I k1 k2 v3) (fun r78 => k56_ ((v3 + (1 : Int32)), r78)))))
set_option maxRecDepth 20000 in
theorem bo_X2_workOut_56 {X : mXT} {E : mEn} {Fu : Nat} {R : mRT} {L : mLT} {k1 : Nat} {k2 : Nat} (hC : mC X E mX2_workOut RX2 cX2_workOut) (hW : mWd R) (hk1 : mO5 R k1) (hk2 : mO9 R k2)  {out : mIT} (hE : mEd X E 0 0 (mSame none 106 1 (out) R L)) (k56_ : Int32 × mIT → Option (mIT)) (hk56_ : ∀ (v3 : Int32) (I : mIT),  k56_ (v3, I) = some out → mG X E 56 [(0, .ref (mB E + 66)), (1, .ref (mB E + k1)), (2, .ref (mB E + k2)), (3, .int v3)] [] 106 1 I R L 0 0) (v3 : Int32) (I : mIT) (h : b_X2_workOut_56 Fu k1 k2 k56_ v3 I = some out) : mG X E 56 [(0, .ref (mB E + 66)), (1, .ref (mB E + k1)), (2, .ref (mB E + k2)), (3, .int v3)] [] 106 1 I R L 0 0 := by
  unfold b_X2_workOut_56 at h
  refine g_iload_n hC dX2_workOut_56 rfl (q := 3) rfl ?_
  refine g_aload_n hC dX2_workOut_57 rfl (q := 0) rfl ?_
  refine g_geti hC fd_RX2_22 rfl (by decide) (Or.inl rfl) dX2_workOut_58 ?_
  refine g_ic_ge hC dX2_workOut_61 (tgt := 87) (by decide) (fun c61 => ?_) (fun c61 => ?_)
  · replace h := (if_pos c61).symm.trans h
    refine g_iconst hC dX2_workOut_87 (v := (1 : Int32)) (by decide) ?_
    refine g_aload_n hC dX2_workOut_88 rfl (q := 0) rfl ?_
    refine g_geti hC fd_RX2_22 rfl (by decide) (Or.inl rfl) dX2_workOut_89 ?_
    refine g_ishl hC dX2_workOut_92 ?_
    refine g_iconst hC dX2_workOut_93 (v := (1 : Int32)) (by decide) ?_
    refine g_isub hC dX2_workOut_94 ?_
    refine g_istore_n hC dX2_workOut_95 rfl rfl (by decide) (lv' := [(3, .int (((1 : Int32) <<< ((I 66 3) &&& 31)) - (1 : Int32))), (0, .ref (mB E + 66)), (1, .ref (mB E + k1)), (2, .ref (mB E + k2))]) rfl ?_
    refine g_lv [1, 0] rfl ?_
    exact wo_X2_workOut_96 hC hW hk1 hk2 hE Fu ((((1 : Int32) <<< ((I 66 3) &&& 31)) - (1 : Int32))) (I) h
  · replace h := (if_neg c61).symm.trans h
    refine g_aload_n hC dX2_workOut_64 rfl (q := 2) rfl ?_
    refine g_iload_n hC dX2_workOut_65 rfl (q := 3) rfl ?_
    obtain ⟨r66, h66, h⟩ := oB_some h
    refine g_cV1 hC cv_X9_placeOf wd_1372 ⟨Nat.le_of_ble_eq_true rfl, Nat.le_of_ble_eq_true rfl⟩ hk2.2.1 hk2.1 dX2_workOut_66 (As := [.int v3]) (st := []) (ok_X9_placeOf hC.2.2.2.2.2.2.2.1 hk2 h66) rfl rfl (Nat.le_of_ble_eq_true rfl) ⟨Nat.zero_le _, Nat.zero_le _⟩ ?_
    refine g_bipush hC dX2_workOut_69 (v := (-2 : Int32)) (by decide) ?_
    refine g_ic_eq hC dX2_workOut_71 (tgt := 81) (by decide) (fun c71 => ?_) (fun c71 => ?_)
    · replace h := (if_pos c71).symm.trans h
      refine g_iinc hC dX2_workOut_81 rfl (q := 3) rfl (w := (v3 + (1 : Int32))) rfl (by decide) (lv' := [(3, .int (v3 + (1 : Int32))), (0, .ref (mB E + 66)), (1, .ref (mB E + k1)), (2, .ref (mB E + k2))]) rfl ?_
      refine g_goto hC dX2_workOut_84 (tgt := 56) (by decide) ?_
      refine g_lv [1, 2, 3, 0] rfl ?_
      exact hk56_ (v3 + (1 : Int32)) I h
    · replace h := (if_neg c71).symm.trans h
      refine g_aload_n hC dX2_workOut_74 rfl (q := 0) rfl ?_
      refine g_aload_n hC dX2_workOut_75 rfl (q := 1) rfl ?_
      refine g_aload_n hC dX2_workOut_76 rfl (q := 2) rfl ?_
      refine g_iload_n hC dX2_workOut_77 rfl (q := 3) rfl ?_
      obtain ⟨r78, h78, h⟩ := oB_some h
      refine g_cV0 hC cv_X2_findNeeds wd_1373 ⟨Nat.le_of_ble_eq_true rfl, Nat.le_of_ble_eq_true rfl⟩ rfl (by decide) dX2_workOut_78 (As := [.ref (mB E + k1), .ref (mB E + k2), .int v3]) (st := []) (ok_X2_findNeeds hC.2.2.2.2.2.2.2.1 hW hk1 hk2 h78) rfl rfl (Nat.le_of_ble_eq_true rfl) ⟨Nat.zero_le _, Nat.zero_le _⟩ ?_
      refine g_iinc hC dX2_workOut_81 rfl (q := 3) rfl (w := (v3 + (1 : Int32))) rfl (by decide) (lv' := [(3, .int (v3 + (1 : Int32))), (0, .ref (mB E + 66)), (1, .ref (mB E + k1)), (2, .ref (mB E + k2))]) rfl ?_
      refine g_goto hC dX2_workOut_84 (tgt := 56) (by decide) ?_
      refine g_lv [1, 2, 3, 0] rfl ?_
      exact hk56_ (v3 + (1 : Int32)) r78 h
noncomputable def w_X2_workOut_56 (Fu : Nat) (k1 : Nat) (k2 : Nat)  (N : Nat) (v3 : Int32) (I : mIT) : Option (mIT) :=
  loopF (fun self (s : Int32 × mIT) => b_X2_workOut_56 Fu k1 k2 self s.1 s.2) N (v3, I)
theorem wo_X2_workOut_56 {X : mXT} {E : mEn} {Fu : Nat} {R : mRT} {L : mLT} {k1 : Nat} {k2 : Nat} (hC : mC X E mX2_workOut RX2 cX2_workOut) (hW : mWd R) (hk1 : mO5 R k1) (hk2 : mO9 R k2)  {out : mIT} (hE : mEd X E 0 0 (mSame none 106 1 (out) R L))  (N : Nat) (v3 : Int32) (I : mIT) (h : w_X2_workOut_56 Fu k1 k2  N v3 I = some out) : mG X E 56 [(0, .ref (mB E + 66)), (1, .ref (mB E + k1)), (2, .ref (mB E + k2)), (3, .int v3)] [] 106 1 I R L 0 0 :=
  loopF_ok (Gd := fun s : Int32 × mIT => mG X E 56 [(0, .ref (mB E + 66)), (1, .ref (mB E + k1)), (2, .ref (mB E + k2)), (3, .int s.1)] [] 106 1 s.2 R L 0 0) (fun self hs s h => bo_X2_workOut_56 hC hW hk1 hk2 hE self (fun v3 I h => hs (v3, I) h) s.1 s.2 h) N (v3, I) h
noncomputable def b_X2_workOut_31 (Fu : Nat) (k1 : Nat) (k2 : Nat) (k31_ : Int32 × mIT → Option (mIT)) (v3 : Int32) (I : mIT) : Option (mIT) :=
  if (nI 80) ≤ v3 then (w_X2_workOut_56 Fu k1 k2 Fu (0 : Int32) I) else (oG (inB v3 80) (k31_ ((v3 + (1 : Int32)), (mU I 67 (v3).toNatClampNeg (1000000 : Int32)))))
set_option maxRecDepth 20000 in
theorem bo_X2_workOut_31 {X : mXT} {E : mEn} {Fu : Nat} {R : mRT} {L : mLT} {k1 : Nat} {k2 : Nat} (hC : mC X E mX2_workOut RX2 cX2_workOut) (hW : mWd R) (hk1 : mO5 R k1) (hk2 : mO9 R k2)  {out : mIT} (hE : mEd X E 0 0 (mSame none 106 1 (out) R L)) (k31_ : Int32 × mIT → Option (mIT)) (hk31_ : ∀ (v3 : Int32) (I : mIT),  k31_ (v3, I) = some out → mG X E 31 [(0, .ref (mB E + 66)), (1, .ref (mB E + k1)), (2, .ref (mB E + k2)), (3, .int v3)] [] 106 1 I R L 0 0) (v3 : Int32) (I : mIT) (h : b_X2_workOut_31 Fu k1 k2 k31_ v3 I = some out) : mG X E 31 [(0, .ref (mB E + 66)), (1, .ref (mB E + k1)), (2, .ref (mB E + k2)), (3, .int v3)] [] 106 1 I R L 0 0 := by
  unfold b_X2_workOut_31 at h
  refine g_iload_n hC dX2_workOut_31 rfl (q := 3) rfl ?_
  refine g_aload_n hC dX2_workOut_32 rfl (q := 0) rfl ?_
  refine g_getr hC fd_RX2_9 rfl (by decide) (C0 := "") (t0 := _) (Or.inr rfl) (rr_66_0 hW.1) dX2_workOut_33 ?_
  refine g_alenI hC rfl (by decide) dX2_workOut_36 ?_
  refine g_ic_ge hC dX2_workOut_37 (tgt := 54) (by decide) (fun c37 => ?_) (fun c37 => ?_)
  · replace h := (if_pos c37).symm.trans h
    refine g_iconst hC dX2_workOut_54 (v := (0 : Int32)) (by decide) ?_
    refine g_istore_n hC dX2_workOut_55 rfl rfl (by decide) (lv' := [(3, .int (0 : Int32)), (0, .ref (mB E + 66)), (1, .ref (mB E + k1)), (2, .ref (mB E + k2))]) rfl ?_
    refine g_lv [1, 2, 3, 0] rfl ?_
    exact wo_X2_workOut_56 hC hW hk1 hk2 hE Fu ((0 : Int32)) (I) h
  · replace h := (if_neg c37).symm.trans h
    refine g_aload_n hC dX2_workOut_40 rfl (q := 0) rfl ?_
    refine g_getr hC fd_RX2_9 rfl (by decide) (C0 := "") (t0 := _) (Or.inr rfl) (rr_66_0 hW.1) dX2_workOut_41 ?_
    refine g_iload_n hC dX2_workOut_44 rfl (q := 3) rfl ?_
    refine g_ldc hC dX2_workOut_45 wd_1371 ?_
    obtain ⟨g47, h⟩ := oG_some h
    refine g_iast hC rfl (by decide) (inB_in g47) dX2_workOut_47 (nm_e ?_)
    refine g_iinc hC dX2_workOut_48 rfl (q := 3) rfl (w := (v3 + (1 : Int32))) rfl (by decide) (lv' := [(3, .int (v3 + (1 : Int32))), (0, .ref (mB E + 66)), (1, .ref (mB E + k1)), (2, .ref (mB E + k2))]) rfl ?_
    refine g_goto hC dX2_workOut_51 (tgt := 31) (by decide) ?_
    refine g_lv [1, 2, 3, 0] rfl ?_
    exact hk31_ (v3 + (1 : Int32)) (mU I 67 (v3).toNatClampNeg (1000000 : Int32)) h
noncomputable def w_X2_workOut_31 (Fu : Nat) (k1 : Nat) (k2 : Nat)  (N : Nat) (v3 : Int32) (I : mIT) : Option (mIT) :=
  loopF (fun self (s : Int32 × mIT) => b_X2_workOut_31 Fu k1 k2 self s.1 s.2) N (v3, I)
theorem wo_X2_workOut_31 {X : mXT} {E : mEn} {Fu : Nat} {R : mRT} {L : mLT} {k1 : Nat} {k2 : Nat} (hC : mC X E mX2_workOut RX2 cX2_workOut) (hW : mWd R) (hk1 : mO5 R k1) (hk2 : mO9 R k2)  {out : mIT} (hE : mEd X E 0 0 (mSame none 106 1 (out) R L))  (N : Nat) (v3 : Int32) (I : mIT) (h : w_X2_workOut_31 Fu k1 k2  N v3 I = some out) : mG X E 31 [(0, .ref (mB E + 66)), (1, .ref (mB E + k1)), (2, .ref (mB E + k2)), (3, .int v3)] [] 106 1 I R L 0 0 :=
  loopF_ok (Gd := fun s : Int32 × mIT => mG X E 31 [(0, .ref (mB E + 66)), (1, .ref (mB E + k1)), (2, .ref (mB E + k2)), (3, .int s.1)] [] 106 1 s.2 R L 0 0) (fun self hs s h => bo_X2_workOut_31 hC hW hk1 hk2 hE self (fun v3 I h => hs (v3, I) h) s.1 s.2 h) N (v3, I) h
noncomputable def f_X2_workOut (Fu : Nat) (I : mIT) (k1 : Nat) (k2 : Nat) : Option (mIT) :=
  if (I 66 4) = 0 then (w_X2_workOut_31 Fu k1 k2 Fu (0 : Int32) (mU (mU (mU I 66 4 (1 : Int32)) 66 2 ((mU I 66 4 (1 : Int32)) k1 6)) 66 3 ((mU (mU I 66 4 (1 : Int32)) 66 2 ((mU I 66 4 (1 : Int32)) k1 6)) k1 3))) else (some (I))
set_option maxRecDepth 20000 in
theorem ok_X2_workOut {l : Launch} {E : mEn} {Fu : Nat} {I : mIT} {R : mRT} {L : mLT} {k1 : Nat} {k2 : Nat} (hst : l.stackTraces = false) (hW : mWd R) (hk1 : mO5 R k1) (hk2 : mO9 R k2) {out : mIT} (h : f_X2_workOut Fu I k1 k2 = some out) : mOk l E mX2_workOut [.ref (mB E + 66), .ref (mB E + k1), .ref (mB E + k2)] 106 1 I R L 0 0 (mSame none 106 1 (out) R L) := by
  refine mOk_of hst (by decide) (Nat.le_of_ble_eq_true rfl) (fun X hC hE _ => ?_)
  have hC : mC X E mX2_workOut RX2 cX2_workOut := hC
  show mG X E 0 [(0, .ref (mB E + 66)), (1, .ref (mB E + k1)), (2, .ref (mB E + k2))] [] 106 1 I R L 0 0
  unfold f_X2_workOut at h
  refine g_aload_n hC dX2_workOut_0 rfl (q := 0) rfl ?_
  refine g_geti hC fd_RX2_25 rfl (by decide) (Or.inr rfl) dX2_workOut_1 ?_
  refine g_if_eq hC dX2_workOut_4 (tgt := 8) (by decide) (fun c4 => ?_) (fun c4 => ?_)
  · replace h := (if_pos c4).symm.trans h
    refine g_aload_n hC dX2_workOut_8 rfl (q := 0) rfl ?_
    refine g_iconst hC dX2_workOut_9 (v := (1 : Int32)) (by decide) ?_
    refine g_putz hC (by decide) fd_RX2_25 rfl (by decide) rfl dX2_workOut_10 (nm_e ?_)
    refine g_aload_n hC dX2_workOut_13 rfl (q := 0) rfl ?_
    refine g_aload_n hC dX2_workOut_14 rfl (q := 1) rfl ?_
    refine g_geti hC fd_RX2_29 hk1.2.1 hk1.1 (Or.inl rfl) dX2_workOut_15 ?_
    refine g_puti hC fd_RX2_18 rfl (by decide) rfl dX2_workOut_18 (nm_e ?_)
    refine g_aload_n hC dX2_workOut_21 rfl (q := 0) rfl ?_
    refine g_aload_n hC dX2_workOut_22 rfl (q := 1) rfl ?_
    refine g_geti hC fd_RX2_34 hk1.2.1 hk1.1 (Or.inl rfl) dX2_workOut_23 ?_
    refine g_puti hC fd_RX2_22 rfl (by decide) rfl dX2_workOut_26 (nm_e ?_)
    refine g_iconst hC dX2_workOut_29 (v := (0 : Int32)) (by decide) ?_
    refine g_istore_n hC dX2_workOut_30 rfl rfl (by decide) (lv' := [(3, .int (0 : Int32)), (0, .ref (mB E + 66)), (1, .ref (mB E + k1)), (2, .ref (mB E + k2))]) rfl ?_
    refine g_lv [1, 2, 3, 0] rfl ?_
    exact wo_X2_workOut_31 hC hW hk1 hk2 hE Fu ((0 : Int32)) ((mU (mU (mU I 66 4 (1 : Int32)) 66 2 ((mU I 66 4 (1 : Int32)) k1 6)) 66 3 ((mU (mU I 66 4 (1 : Int32)) 66 2 ((mU I 66 4 (1 : Int32)) k1 6)) k1 3))) h
  · replace h := (if_neg c4).symm.trans h
    cases h
    exact g_vret hC hE rfl dX2_workOut_7 (Nat.zero_le _) (Nat.zero_le _) ⟨rfl, rfl, rfl, rfl, rfl, rfl⟩
noncomputable def f_X2_total (Fu : Nat) (I : mIT)  : Option (Int32) :=
  oG (inB (0 : Int32) 1024) (if (I 68 ((0 : Int32)).toNatClampNeg) < (1000000 : Int32) then (oG (inB (0 : Int32) 1024) (some (I 68 ((0 : Int32)).toNatClampNeg))) else (some (-2 : Int32)))
set_option maxRecDepth 20000 in
theorem ok_X2_total {l : Launch} {E : mEn} {Fu : Nat} {I : mIT} {R : mRT} {L : mLT}  (hst : l.stackTraces = false) (hW : mWd R)  {out : Int32} (h : f_X2_total Fu I  = some out) : mOk l E mX2_total [.ref (mB E + 66)] 106 1 I R L 0 0 (mSame (some (.int (out))) 106 1 I R L) := by
  refine mOk_of hst (by decide) (Nat.le_of_ble_eq_true rfl) (fun X hC hE _ => ?_)
  have hC : mC X E mX2_total RX2 cX2_total := hC
  show mG X E 0 [(0, .ref (mB E + 66))] [] 106 1 I R L 0 0
  unfold f_X2_total at h
  refine g_aload_n hC dX2_total_0 rfl (q := 0) rfl ?_
  refine g_getr hC fd_RX2_15 rfl (by decide) (C0 := "") (t0 := _) (Or.inr rfl) (rr_66_1 hW.1) dX2_total_1 ?_
  refine g_iconst hC dX2_total_4 (v := (0 : Int32)) (by decide) ?_
  obtain ⟨g5, h⟩ := oG_some h
  refine g_iald hC rfl (by decide) (inB_in g5) dX2_total_5 ?_
  refine g_ldc hC dX2_total_6 wd_1371 ?_
  refine g_ic_lt hC dX2_total_8 (tgt := 16) (by decide) (fun c8 => ?_) (fun c8 => ?_)
  · replace h := (if_pos c8).symm.trans h
    refine g_aload_n hC dX2_total_16 rfl (q := 0) rfl ?_
    refine g_getr hC fd_RX2_15 rfl (by decide) (C0 := "") (t0 := _) (Or.inr rfl) (rr_66_1 hW.1) dX2_total_17 ?_
    refine g_iconst hC dX2_total_20 (v := (0 : Int32)) (by decide) ?_
    obtain ⟨g21, h⟩ := oG_some h
    refine g_iald hC rfl (by decide) (inB_in g21) dX2_total_21 ?_
    cases h
    exact g_iret hC hE rfl dX2_total_22 (Nat.zero_le _) (Nat.zero_le _) ⟨rfl, rfl, rfl, rfl, rfl, rfl⟩
  · replace h := (if_neg c8).symm.trans h
    refine g_bipush hC dX2_total_11 (v := (-2 : Int32)) (by decide) ?_
    refine g_goto hC dX2_total_13 (tgt := 22) (by decide) ?_
    cases h
    exact g_iret hC hE rfl dX2_total_22 (Nat.zero_le _) (Nat.zero_le _) ⟨rfl, rfl, rfl, rfl, rfl, rfl⟩
noncomputable def b_X2_firstBest_28 (Fu : Nat) (I : mIT) (k28_ : Int32 × Int32 × Int32 × Int32 → Option (Int32)) (v1 : Int32) (v2 : Int32) (v3 : Int32) (v4 : Int32) : Option (Int32) :=
  if (I 66 3) ≤ v4 then (some (-2 : Int32)) else (if (1000000 : Int32) ≤ v3 then (k28_ (v1, v2, v3, (v4 + (1 : Int32)))) else (oB (f_X2_leastBy Fu I v1 v4 v2) (fun r48 => if r48 = v3 then (some (v4)) else (k28_ (v1, v2, v3, (v4 + (1 : Int32)))))))
set_option maxRecDepth 20000 in
theorem bo_X2_firstBest_28 {X : mXT} {E : mEn} {Fu : Nat} {I : mIT} {R : mRT} {L : mLT}  (hC : mC X E mX2_firstBest RX2 cX2_firstBest) (hW : mWd R)   {out : Int32} (hE : mEd X E 0 0 (mSame (some (.int (out))) 106 1 I R L)) (k28_ : Int32 × Int32 × Int32 × Int32 → Option (Int32)) (hk28_ : ∀ (v1 : Int32) (v2 : Int32) (v3 : Int32) (v4 : Int32),  k28_ (v1, v2, v3, v4) = some out → mG X E 28 [(0, .ref (mB E + 66)), (1, .int v1), (2, .int v2), (3, .int v3), (4, .int v4)] [] 106 1 I R L 0 0) (v1 : Int32) (v2 : Int32) (v3 : Int32) (v4 : Int32) (h : b_X2_firstBest_28 Fu I k28_ v1 v2 v3 v4 = some out) : mG X E 28 [(0, .ref (mB E + 66)), (1, .int v1), (2, .int v2), (3, .int v3), (4, .int v4)] [] 106 1 I R L 0 0 := by
  unfold b_X2_firstBest_28 at h
  refine g_iload hC dX2_firstBest_28 (q := 4) rfl ?_
  refine g_aload_n hC dX2_firstBest_30 rfl (q := 0) rfl ?_
  refine g_geti hC fd_RX2_22 rfl (by decide) (Or.inl rfl) dX2_firstBest_31 ?_
  refine g_ic_ge hC dX2_firstBest_34 (tgt := 64) (by decide) (fun c34 => ?_) (fun c34 => ?_)
  · replace h := (if_pos c34).symm.trans h
    refine g_bipush hC dX2_firstBest_64 (v := (-2 : Int32)) (by decide) ?_
    cases h
    exact g_iret hC hE rfl dX2_firstBest_66 (Nat.zero_le _) (Nat.zero_le _) ⟨rfl, rfl, rfl, rfl, rfl, rfl⟩
  · replace h := (if_neg c34).symm.trans h
    refine g_iload_n hC dX2_firstBest_37 rfl (q := 3) rfl ?_
    refine g_ldc hC dX2_firstBest_38 wd_1371 ?_
    refine g_ic_ge hC dX2_firstBest_40 (tgt := 58) (by decide) (fun c40 => ?_) (fun c40 => ?_)
    · replace h := (if_pos c40).symm.trans h
      refine g_iinc hC dX2_firstBest_58 rfl (q := 4) rfl (w := (v4 + (1 : Int32))) rfl (by decide) (lv' := [(4, .int (v4 + (1 : Int32))), (0, .ref (mB E + 66)), (1, .int v1), (2, .int v2), (3, .int v3)]) rfl ?_
      refine g_goto hC dX2_firstBest_61 (tgt := 28) (by decide) ?_
      refine g_lv [1, 2, 3, 4, 0] rfl ?_
      exact hk28_ v1 v2 v3 (v4 + (1 : Int32)) h
    · replace h := (if_neg c40).symm.trans h
      refine g_aload_n hC dX2_firstBest_43 rfl (q := 0) rfl ?_
      refine g_iload_n hC dX2_firstBest_44 rfl (q := 1) rfl ?_
      refine g_iload hC dX2_firstBest_45 (q := 4) rfl ?_
      refine g_iload_n hC dX2_firstBest_47 rfl (q := 2) rfl ?_
      obtain ⟨r48, h48, h⟩ := oB_some h
      refine g_cV1 hC cv_X2_leastBy wd_1385 ⟨Nat.le_of_ble_eq_true rfl, Nat.le_of_ble_eq_true rfl⟩ rfl (by decide) dX2_firstBest_48 (As := [.int v1, .int v4, .int v2]) (st := []) (ok_X2_leastBy hC.2.2.2.2.2.2.2.1 hW h48) rfl rfl (Nat.le_of_ble_eq_true rfl) ⟨Nat.zero_le _, Nat.zero_le _⟩ ?_
      refine g_iload_n hC dX2_firstBest_51 rfl (q := 3) rfl ?_
      refine g_ic_ne hC dX2_firstBest_52 (tgt := 58) (by decide) (fun c52 => ?_) (fun c52 => ?_)
      · replace h := (if_neg c52).symm.trans h
        refine g_iinc hC dX2_firstBest_58 rfl (q := 4) rfl (w := (v4 + (1 : Int32))) rfl (by decide) (lv' := [(4, .int (v4 + (1 : Int32))), (0, .ref (mB E + 66)), (1, .int v1), (2, .int v2), (3, .int v3)]) rfl ?_
        refine g_goto hC dX2_firstBest_61 (tgt := 28) (by decide) ?_
        refine g_lv [1, 2, 3, 4, 0] rfl ?_
        exact hk28_ v1 v2 v3 (v4 + (1 : Int32)) h
      · replace h := (if_pos c52).symm.trans h
        refine g_iload hC dX2_firstBest_55 (q := 4) rfl ?_
        cases h
        exact g_iret hC hE rfl dX2_firstBest_57 (Nat.zero_le _) (Nat.zero_le _) ⟨rfl, rfl, rfl, rfl, rfl, rfl⟩
noncomputable def w_X2_firstBest_28 (Fu : Nat) (I : mIT)  (N : Nat) (v1 : Int32) (v2 : Int32) (v3 : Int32) (v4 : Int32) : Option (Int32) :=
  loopF (fun self (s : Int32 × Int32 × Int32 × Int32) => b_X2_firstBest_28 Fu I self s.1 s.2.1 s.2.2.1 s.2.2.2) N (v1, v2, v3, v4)
theorem wo_X2_firstBest_28 {X : mXT} {E : mEn} {Fu : Nat} {I : mIT} {R : mRT} {L : mLT}  (hC : mC X E mX2_firstBest RX2 cX2_firstBest) (hW : mWd R)   {out : Int32} (hE : mEd X E 0 0 (mSame (some (.int (out))) 106 1 I R L))  (N : Nat) (v1 : Int32) (v2 : Int32) (v3 : Int32) (v4 : Int32) (h : w_X2_firstBest_28 Fu I  N v1 v2 v3 v4 = some out) : mG X E 28 [(0, .ref (mB E + 66)), (1, .int v1), (2, .int v2), (3, .int v3), (4, .int v4)] [] 106 1 I R L 0 0 :=
  loopF_ok (Gd := fun s : Int32 × Int32 × Int32 × Int32 => mG X E 28 [(0, .ref (mB E + 66)), (1, .int s.1), (2, .int s.2.1), (3, .int s.2.2.1), (4, .int s.2.2.2)] [] 106 1 I R L 0 0) (fun self hs s h => bo_X2_firstBest_28 hC hW hE self (fun v1 v2 v3 v4 h => hs (v1, v2, v3, v4) h) s.1 s.2.1 s.2.2.1 s.2.2.2 h) N (v1, v2, v3, v4) h
noncomputable def f_X2_firstBest (Fu : Nat) (I : mIT) (v1 : Int32) (v2 : Int32) : Option (Int32) :=
  if v2 < 0 then (w_X2_firstBest_28 Fu I Fu v1 v2 (1000000 : Int32) (0 : Int32)) else (if (nI 1024) ≤ v2 then (w_X2_firstBest_28 Fu I Fu v1 v2 (1000000 : Int32) (0 : Int32)) else (oG (inB v2 1024) (w_X2_firstBest_28 Fu I Fu v1 v2 (I 68 (v2).toNatClampNeg) (0 : Int32))))
set_option maxRecDepth 20000 in
theorem ok_X2_firstBest {l : Launch} {E : mEn} {Fu : Nat} {I : mIT} {R : mRT} {L : mLT} {v1 : Int32} {v2 : Int32} (hst : l.stackTraces = false) (hW : mWd R)  {out : Int32} (h : f_X2_firstBest Fu I v1 v2 = some out) : mOk l E mX2_firstBest [.ref (mB E + 66), .int v1, .int v2] 106 1 I R L 0 0 (mSame (some (.int (out))) 106 1 I R L) := by
  refine mOk_of hst (by decide) (Nat.le_of_ble_eq_true rfl) (fun X hC hE _ => ?_)
  have hC : mC X E mX2_firstBest RX2 cX2_firstBest := hC
  show mG X E 0 [(0, .ref (mB E + 66)), (1, .int v1), (2, .int v2)] [] 106 1 I R L 0 0
  unfold f_X2_firstBest at h
  refine g_iload_n hC dX2_firstBest_0 rfl (q := 2) rfl ?_
  refine g_if_lt hC dX2_firstBest_1 (tgt := 22) (by decide) (fun c1 => ?_) (fun c1 => ?_)
  · replace h := (if_pos c1).symm.trans h
    refine g_ldc hC dX2_firstBest_22 wd_1371 ?_
    refine g_istore_n hC dX2_firstBest_24 rfl rfl (by decide) (lv' := [(3, .int (1000000 : Int32)), (0, .ref (mB E + 66)), (1, .int v1), (2, .int v2)]) rfl ?_
    refine g_iconst hC dX2_firstBest_25 (v := (0 : Int32)) (by decide) ?_
    refine g_istore hC dX2_firstBest_26 rfl (by decide) (lv' := [(4, .int (0 : Int32)), (3, .int (1000000 : Int32)), (0, .ref (mB E + 66)), (1, .int v1), (2, .int v2)]) rfl ?_
    refine g_lv [2, 3, 4, 1, 0] rfl ?_
    exact wo_X2_firstBest_28 hC hW hE Fu (v1) (v2) ((1000000 : Int32)) ((0 : Int32)) h
  · replace h := (if_neg c1).symm.trans h
    refine g_iload_n hC dX2_firstBest_4 rfl (q := 2) rfl ?_
    refine g_aload_n hC dX2_firstBest_5 rfl (q := 0) rfl ?_
    refine g_getr hC fd_RX2_15 rfl (by decide) (C0 := "") (t0 := _) (Or.inr rfl) (rr_66_1 hW.1) dX2_firstBest_6 ?_
    refine g_alenI hC rfl (by decide) dX2_firstBest_9 ?_
    refine g_ic_ge hC dX2_firstBest_10 (tgt := 22) (by decide) (fun c10 => ?_) (fun c10 => ?_)
    · replace h := (if_pos c10).symm.trans h
      refine g_ldc hC dX2_firstBest_22 wd_1371 ?_
      refine g_istore_n hC dX2_firstBest_24 rfl rfl (by decide) (lv' := [(3, .int (1000000 : Int32)), (0, .ref (mB E + 66)), (1, .int v1), (2, .int v2)]) rfl ?_
      refine g_iconst hC dX2_firstBest_25 (v := (0 : Int32)) (by decide) ?_
      refine g_istore hC dX2_firstBest_26 rfl (by decide) (lv' := [(4, .int (0 : Int32)), (3, .int (1000000 : Int32)), (0, .ref (mB E + 66)), (1, .int v1), (2, .int v2)]) rfl ?_
      refine g_lv [2, 3, 4, 1, 0] rfl ?_
      exact wo_X2_firstBest_28 hC hW hE Fu (v1) (v2) ((1000000 : Int32)) ((0 : Int32)) h
    · replace h := (if_neg c10).symm.trans h
      refine g_aload_n hC dX2_firstBest_13 rfl (q := 0) rfl ?_
      refine g_getr hC fd_RX2_15 rfl (by decide) (C0 := "") (t0 := _) (Or.inr rfl) (rr_66_1 hW.1) dX2_firstBest_14 ?_
      refine g_iload_n hC dX2_firstBest_17 rfl (q := 2) rfl ?_
      obtain ⟨g18, h⟩ := oG_some h
      refine g_iald hC rfl (by decide) (inB_in g18) dX2_firstBest_18 ?_
      refine g_goto hC dX2_firstBest_19 (tgt := 24) (by decide) ?_
      refine g_istore_n hC dX2_firstBest_24 rfl rfl (by decide) (lv' := [(3, .int (I 68 (v2).toNatClampNeg)), (0, .ref (mB E + 66)), (1, .int v1), (2, .int v2)]) rfl ?_
      refine g_iconst hC dX2_firstBest_25 (v := (0 : Int32)) (by decide) ?_
      refine g_istore hC dX2_firstBest_26 rfl (by decide) (lv' := [(4, .int (0 : Int32)), (3, .int (I 68 (v2).toNatClampNeg)), (0, .ref (mB E + 66)), (1, .int v1), (2, .int v2)]) rfl ?_
      refine g_lv [2, 3, 4, 1, 0] rfl ?_
      exact wo_X2_firstBest_28 hC hW hE Fu (v1) (v2) ((I 68 (v2).toNatClampNeg)) ((0 : Int32)) h
noncomputable def b_X2_rootFor_22 (Fu : Nat) (I : mIT) (k22_ : Int32 × Int32 × Int32 × Int32 → Option (Int32)) (v1 : Int32) (v2 : Int32) (v3 : Int32) (v4 : Int32) : Option (Int32) :=
  if v1 < v4 then (some (v3)) else (oB (f_X2_firstBest Fu I v4 v2) (fun r32 => if r32 < 0 then (k22_ (v1, (v2 ||| (0 : Int32)), r32, (v4 + (1 : Int32)))) else (k22_ (v1, (v2 ||| ((1 : Int32) <<< (r32 &&& 31))), r32, (v4 + (1 : Int32))))))
set_option maxRecDepth 20000 in
theorem bo_X2_rootFor_22 {X : mXT} {E : mEn} {Fu : Nat} {I : mIT} {R : mRT} {L : mLT}  (hC : mC X E mX2_rootFor RX2 cX2_rootFor) (hW : mWd R)   {out : Int32} (hE : mEd X E 0 0 (mSame (some (.int (out))) 106 1 I R L)) (k22_ : Int32 × Int32 × Int32 × Int32 → Option (Int32)) (hk22_ : ∀ (v1 : Int32) (v2 : Int32) (v3 : Int32) (v4 : Int32),  k22_ (v1, v2, v3, v4) = some out → mG X E 22 [(0, .ref (mB E + 66)), (1, .int v1), (2, .int v2), (3, .int v3), (4, .int v4)] [] 106 1 I R L 0 0) (v1 : Int32) (v2 : Int32) (v3 : Int32) (v4 : Int32) (h : b_X2_rootFor_22 Fu I k22_ v1 v2 v3 v4 = some out) : mG X E 22 [(0, .ref (mB E + 66)), (1, .int v1), (2, .int v2), (3, .int v3), (4, .int v4)] [] 106 1 I R L 0 0 := by
  unfold b_X2_rootFor_22 at h
  refine g_iload hC dX2_rootFor_22 (q := 4) rfl ?_
  refine g_iload_n hC dX2_rootFor_24 rfl (q := 1) rfl ?_
  refine g_ic_gt hC dX2_rootFor_25 (tgt := 56) (by decide) (fun c25 => ?_) (fun c25 => ?_)
  · replace h := (if_pos c25).symm.trans h
    refine g_iload_n hC dX2_rootFor_56 rfl (q := 3) rfl ?_
    cases h
    exact g_iret hC hE rfl dX2_rootFor_57 (Nat.zero_le _) (Nat.zero_le _) ⟨rfl, rfl, rfl, rfl, rfl, rfl⟩
  · replace h := (if_neg c25).symm.trans h
    refine g_aload_n hC dX2_rootFor_28 rfl (q := 0) rfl ?_
    refine g_iload hC dX2_rootFor_29 (q := 4) rfl ?_
    refine g_iload_n hC dX2_rootFor_31 rfl (q := 2) rfl ?_
    obtain ⟨r32, h32, h⟩ := oB_some h
    refine g_cV1 hC cv_X2_firstBest wd_1398 ⟨Nat.le_of_ble_eq_true rfl, Nat.le_of_ble_eq_true rfl⟩ rfl (by decide) dX2_rootFor_32 (As := [.int v4, .int v2]) (st := []) (ok_X2_firstBest hC.2.2.2.2.2.2.2.1 hW h32) rfl rfl (Nat.le_of_ble_eq_true rfl) ⟨Nat.zero_le _, Nat.zero_le _⟩ ?_
    refine g_istore_n hC dX2_rootFor_35 rfl rfl (by decide) (lv' := [(3, .int r32), (0, .ref (mB E + 66)), (1, .int v1), (2, .int v2), (4, .int v4)]) rfl ?_
    refine g_iload_n hC dX2_rootFor_36 rfl (q := 3) rfl ?_
    refine g_iload_n hC dX2_rootFor_37 rfl (q := 0) rfl ?_
    refine g_if_lt hC dX2_rootFor_38 (tgt := 47) (by decide) (fun c38 => ?_) (fun c38 => ?_)
    · replace h := (if_pos c38).symm.trans h
      refine g_iconst hC dX2_rootFor_47 (v := (0 : Int32)) (by decide) ?_
      refine g_ior hC dX2_rootFor_48 ?_
      refine g_istore_n hC dX2_rootFor_49 rfl rfl (by decide) (lv' := [(2, .int (v2 ||| (0 : Int32))), (3, .int r32), (0, .ref (mB E + 66)), (1, .int v1), (4, .int v4)]) rfl ?_
      refine g_iinc hC dX2_rootFor_50 rfl (q := 4) rfl (w := (v4 + (1 : Int32))) rfl (by decide) (lv' := [(4, .int (v4 + (1 : Int32))), (2, .int (v2 ||| (0 : Int32))), (3, .int r32), (0, .ref (mB E + 66)), (1, .int v1)]) rfl ?_
      refine g_goto hC dX2_rootFor_53 (tgt := 22) (by decide) ?_
      refine g_lv [3, 4, 1, 2, 0] rfl ?_
      exact hk22_ v1 (v2 ||| (0 : Int32)) r32 (v4 + (1 : Int32)) h
    · replace h := (if_neg c38).symm.trans h
      refine g_iconst hC dX2_rootFor_41 (v := (1 : Int32)) (by decide) ?_
      refine g_iload_n hC dX2_rootFor_42 rfl (q := 0) rfl ?_
      refine g_ishl hC dX2_rootFor_43 ?_
      refine g_goto hC dX2_rootFor_44 (tgt := 48) (by decide) ?_
      refine g_ior hC dX2_rootFor_48 ?_
      refine g_istore_n hC dX2_rootFor_49 rfl rfl (by decide) (lv' := [(2, .int (v2 ||| ((1 : Int32) <<< (r32 &&& 31)))), (3, .int r32), (0, .ref (mB E + 66)), (1, .int v1), (4, .int v4)]) rfl ?_
      refine g_iinc hC dX2_rootFor_50 rfl (q := 4) rfl (w := (v4 + (1 : Int32))) rfl (by decide) (lv' := [(4, .int (v4 + (1 : Int32))), (2, .int (v2 ||| ((1 : Int32) <<< (r32 &&& 31)))), (3, .int r32), (0, .ref (mB E + 66)), (1, .int v1)]) rfl ?_
      refine g_goto hC dX2_rootFor_53 (tgt := 22) (by decide) ?_
      refine g_lv [3, 4, 1, 2, 0] rfl ?_
      exact hk22_ v1 (v2 ||| ((1 : Int32) <<< (r32 &&& 31))) r32 (v4 + (1 : Int32)) h
noncomputable def w_X2_rootFor_22 (Fu : Nat) (I : mIT)  (N : Nat) (v1 : Int32) (v2 : Int32) (v3 : Int32) (v4 : Int32) : Option (Int32) :=
  loopF (fun self (s : Int32 × Int32 × Int32 × Int32) => b_X2_rootFor_22 Fu I self s.1 s.2.1 s.2.2.1 s.2.2.2) N (v1, v2, v3, v4)
theorem wo_X2_rootFor_22 {X : mXT} {E : mEn} {Fu : Nat} {I : mIT} {R : mRT} {L : mLT}  (hC : mC X E mX2_rootFor RX2 cX2_rootFor) (hW : mWd R)   {out : Int32} (hE : mEd X E 0 0 (mSame (some (.int (out))) 106 1 I R L))  (N : Nat) (v1 : Int32) (v2 : Int32) (v3 : Int32) (v4 : Int32) (h : w_X2_rootFor_22 Fu I  N v1 v2 v3 v4 = some out) : mG X E 22 [(0, .ref (mB E + 66)), (1, .int v1), (2, .int v2), (3, .int v3), (4, .int v4)] [] 106 1 I R L 0 0 :=
  loopF_ok (Gd := fun s : Int32 × Int32 × Int32 × Int32 => mG X E 22 [(0, .ref (mB E + 66)), (1, .int s.1), (2, .int s.2.1), (3, .int s.2.2.1), (4, .int s.2.2.2)] [] 106 1 I R L 0 0) (fun self hs s h => bo_X2_rootFor_22 hC hW hE self (fun v1 v2 v3 v4 h => hs (v1, v2, v3, v4) h) s.1 s.2.1 s.2.2.1 s.2.2.2 h) N (v1, v2, v3, v4) h
noncomputable def f_X2_rootFor (Fu : Nat) (I : mIT) (v1 : Int32) : Option (Int32) :=
  oG (inB (0 : Int32) 1024) (if (I 68 ((0 : Int32)).toNatClampNeg) < (1000000 : Int32) then (w_X2_rootFor_22 Fu I Fu v1 (0 : Int32) (-2 : Int32) (0 : Int32)) else (some (-2 : Int32)))
set_option maxRecDepth 20000 in
theorem ok_X2_rootFor {l : Launch} {E : mEn} {Fu : Nat} {I : mIT} {R : mRT} {L : mLT} {v1 : Int32} (hst : l.stackTraces = false) (hW : mWd R)  {out : Int32} (h : f_X2_rootFor Fu I v1 = some out) : mOk l E mX2_rootFor [.ref (mB E + 66), .int v1] 106 1 I R L 0 0 (mSame (some (.int (out))) 106 1 I R L) := by
  refine mOk_of hst (by decide) (Nat.le_of_ble_eq_true rfl) (fun X hC hE _ => ?_)
  have hC : mC X E mX2_rootFor RX2 cX2_rootFor := hC
  show mG X E 0 [(0, .ref (mB E + 66)), (1, .int v1)] [] 106 1 I R L 0 0
  unfold f_X2_rootFor at h
  refine g_aload_n hC dX2_rootFor_0 rfl (q := 0) rfl ?_
  refine g_getr hC fd_RX2_15 rfl (by decide) (C0 := "") (t0 := _) (Or.inr rfl) (rr_66_1 hW.1) dX2_rootFor_1 ?_
  refine g_iconst hC dX2_rootFor_4 (v := (0 : Int32)) (by decide) ?_
  obtain ⟨g5, h⟩ := oG_some h
  refine g_iald hC rfl (by decide) (inB_in g5) dX2_rootFor_5 ?_
  refine g_ldc hC dX2_rootFor_6 wd_1371 ?_
  refine g_ic_lt hC dX2_rootFor_8 (tgt := 14) (by decide) (fun c8 => ?_) (fun c8 => ?_)
  · replace h := (if_pos c8).symm.trans h
    refine g_iconst hC dX2_rootFor_14 (v := (0 : Int32)) (by decide) ?_
    refine g_istore_n hC dX2_rootFor_15 rfl rfl (by decide) (lv' := [(2, .int (0 : Int32)), (0, .ref (mB E + 66)), (1, .int v1)]) rfl ?_
    refine g_bipush hC dX2_rootFor_16 (v := (-2 : Int32)) (by decide) ?_
    refine g_istore_n hC dX2_rootFor_18 rfl rfl (by decide) (lv' := [(3, .int (-2 : Int32)), (2, .int (0 : Int32)), (0, .ref (mB E + 66)), (1, .int v1)]) rfl ?_
    refine g_iconst hC dX2_rootFor_19 (v := (0 : Int32)) (by decide) ?_
    refine g_istore hC dX2_rootFor_20 rfl (by decide) (lv' := [(4, .int (0 : Int32)), (3, .int (-2 : Int32)), (2, .int (0 : Int32)), (0, .ref (mB E + 66)), (1, .int v1)]) rfl ?_
    refine g_lv [3, 4, 2, 1, 0] rfl ?_
    exact wo_X2_rootFor_22 hC hW hE Fu (v1) ((0 : Int32)) ((-2 : Int32)) ((0 : Int32)) h
  · replace h := (if_neg c8).symm.trans h
    refine g_bipush hC dX2_rootFor_11 (v := (-2 : Int32)) (by decide) ?_
    cases h
    exact g_iret hC hE rfl dX2_rootFor_13 (Nat.zero_le _) (Nat.zero_le _) ⟨rfl, rfl, rfl, rfl, rfl, rfl⟩
noncomputable def f_X11_fit (Fu : Nat) (R : mRT) (I : mIT) (v1 : Int32) : Option ((Int32 × mIT) ⊕ (Nat × mIT)) :=
  if v1 < (-1 : Int32) then (some (.inr (1, I))) else (oB (R 0 3) (fun p7 => if v1 < (I p7 6) then (oB (R 0 3) (fun p31 => oB (f_X2_workOut Fu I p31 40) (fun r38 => if v1 = (-1 : Int32) then (oB (f_X2_total Fu r38) (fun r50 => some (.inl (r50, r38)))) else (oB (f_X2_rootFor Fu r38 v1) (fun r61 => some (.inl (r61, r38))))))) else (some (.inr (1, I)))))
set_option maxRecDepth 20000 in
theorem oy_X11_fit {l : Launch} {E : mEn} {Fu : Nat} {I : mIT} {R : mRT} {L : mLT} {v1 : Int32} (hst : l.stackTraces = false) (hW : mWd R)  {out : (Int32 × mIT) ⊕ (Nat × mIT)} (h : f_X11_fit Fu R I v1 = some out) {mc ms : Nat} {post : Option Value → Nat → Nat → mIT → mRT → mLT → Prop} {px : String → Nat → Nat → mIT → mRT → mLT → Prop} (ho : Sum.elim (fun o : Int32 × mIT => post (some (.int (o.1))) 106 1 (o.2) R L) (fun q : Nat × mIT => 1 ≤ mc ∧ 6 ≤ ms ∧ px (xNm q.1) 106 1 q.2 R L) out) : mOx l E mX11_fit [.ref (mB E + 0), .int v1] 106 1 I R L mc ms post px := by
  refine mOx_of hst (by decide) (Nat.le_of_ble_eq_true rfl) (fun X hC hE0 _ => ?_)
  have hE : mEx X E mc ms post px ∧ Sum.elim (fun o : Int32 × mIT => post (some (.int (o.1))) 106 1 (o.2) R L) (fun q : Nat × mIT => 1 ≤ mc ∧ 6 ≤ ms ∧ px (xNm q.1) 106 1 q.2 R L) out := ⟨hE0, ho⟩
  have hC : mC X E mX11_fit RX11 cX11_fit := hC
  show mG X E 0 [(0, .ref (mB E + 0)), (1, .int v1)] [] 106 1 I R L 0 0
  unfold f_X11_fit at h
  refine g_iload_n hC dX11_fit_0 rfl (q := 1) rfl ?_
  refine g_iconst hC dX11_fit_1 (v := (-1 : Int32)) (by decide) ?_
  refine g_ic_lt hC dX11_fit_2 (tgt := 16) (by decide) (fun c2 => ?_) (fun c2 => ?_)
  · replace h := (if_pos c2).symm.trans h
    cases h
    have hq : 1 ≤ mc ∧ 6 ≤ ms ∧ px (xNm 1) 106 1 I R L := hE.2
    exact g_thr hC hE.1 tw_RX11_180 (j := 24) rfl dX11_fit_16 dX11_fit_19 dX11_fit_20 dX11_fit_22 dX11_fit_25 (Nat.le_of_ble_eq_true rfl) (Nat.le_of_ble_eq_true rfl) (by decide) hq.1 hq.2.1 hq.2.2
  · replace h := (if_neg c2).symm.trans h
    refine g_iload_n hC dX11_fit_5 rfl (q := 1) rfl ?_
    refine g_aload_n hC dX11_fit_6 rfl (q := 0) rfl ?_
    obtain ⟨p7, e7, h⟩ := oB_some h
    have hp7 : mO5 R p7 := ob5 hW.1 (hW.2.1 p7 e7)
    refine g_getr hC fd_RX11_27 rfl (by decide) (C0 := _) (t0 := .int) (Or.inl rfl) e7 dX11_fit_7 ?_
    refine g_geti hC fd_RX11_160 hp7.2.1 hp7.1 (Or.inl rfl) dX11_fit_10 ?_
    refine g_ic_lt hC dX11_fit_13 (tgt := 26) (by decide) (fun c13 => ?_) (fun c13 => ?_)
    · replace h := (if_pos c13).symm.trans h
      refine g_aload_n hC dX11_fit_26 rfl (q := 0) rfl ?_
      refine g_getr hC fd_RX11_82 rfl (by decide) (C0 := _) (t0 := .int) (Or.inl rfl) (rr_0_13 hW.1) dX11_fit_27 ?_
      refine g_aload_n hC dX11_fit_30 rfl (q := 0) rfl ?_
      obtain ⟨p31, e31, h⟩ := oB_some h
      have hp31 : mO5 R p31 := ob5 hW.1 (hW.2.1 p31 e31)
      refine g_getr hC fd_RX11_27 rfl (by decide) (C0 := _) (t0 := .int) (Or.inl rfl) e31 dX11_fit_31 ?_
      refine g_aload_n hC dX11_fit_34 rfl (q := 0) rfl ?_
      refine g_getr hC fd_RX11_34 rfl (by decide) (C0 := _) (t0 := .int) (Or.inl rfl) (rr_0_4 hW.1) dX11_fit_35 ?_
      obtain ⟨r38, h38, h⟩ := oB_some h
      refine g_cV0 hC cv_X2_workOut wd_1367 ⟨Nat.le_of_ble_eq_true rfl, Nat.le_of_ble_eq_true rfl⟩ rfl (by decide) dX11_fit_38 (As := [.ref (mB E + p31), .ref (mB E + 40)]) (st := []) (ok_X2_workOut hC.2.2.2.2.2.2.2.1 hW hp31 (ob_40 hW.1) h38) rfl rfl (Nat.le_of_ble_eq_true rfl) ⟨Nat.zero_le _, Nat.zero_le _⟩ ?_
      refine g_iload_n hC dX11_fit_41 rfl (q := 1) rfl ?_
      refine g_iconst hC dX11_fit_42 (v := (-1 : Int32)) (by decide) ?_
      refine g_ic_ne hC dX11_fit_43 (tgt := 56) (by decide) (fun c43 => ?_) (fun c43 => ?_)
      · replace h := (if_neg c43).symm.trans h
        refine g_aload_n hC dX11_fit_56 rfl (q := 0) rfl ?_
        refine g_getr hC fd_RX11_82 rfl (by decide) (C0 := _) (t0 := .int) (Or.inl rfl) (rr_0_13 hW.1) dX11_fit_57 ?_
        refine g_iload_n hC dX11_fit_60 rfl (q := 1) rfl ?_
        obtain ⟨r61, h61, h⟩ := oB_some h
        refine g_cV1 hC cv_X2_rootFor wd_1394 ⟨Nat.le_of_ble_eq_true rfl, Nat.le_of_ble_eq_true rfl⟩ rfl (by decide) dX11_fit_61 (As := [.int v1]) (st := []) (ok_X2_rootFor hC.2.2.2.2.2.2.2.1 hW h61) rfl rfl (Nat.le_of_ble_eq_true rfl) ⟨Nat.zero_le _, Nat.zero_le _⟩ ?_
        cases h
        exact g_xiret hC hE.1 rfl dX11_fit_64 (Nat.zero_le _) (Nat.zero_le _) hE.2
      · replace h := (if_pos c43).symm.trans h
        refine g_aload_n hC dX11_fit_46 rfl (q := 0) rfl ?_
        refine g_getr hC fd_RX11_82 rfl (by decide) (C0 := _) (t0 := .int) (Or.inl rfl) (rr_0_13 hW.1) dX11_fit_47 ?_
        obtain ⟨r50, h50, h⟩ := oB_some h
        refine g_cV1 hC cv_X2_total wd_1390 ⟨Nat.le_of_ble_eq_true rfl, Nat.le_of_ble_eq_true rfl⟩ rfl (by decide) dX11_fit_50 (As := []) (st := []) (ok_X2_total hC.2.2.2.2.2.2.2.1 hW h50) rfl rfl (Nat.le_of_ble_eq_true rfl) ⟨Nat.zero_le _, Nat.zero_le _⟩ ?_
        refine g_goto hC dX11_fit_53 (tgt := 64) (by decide) ?_
        cases h
        exact g_xiret hC hE.1 rfl dX11_fit_64 (Nat.zero_le _) (Nat.zero_le _) hE.2
    · replace h := (if_neg c13).symm.trans h
      cases h
      have hq : 1 ≤ mc ∧ 6 ≤ ms ∧ px (xNm 1) 106 1 I R L := hE.2
      exact g_thr hC hE.1 tw_RX11_180 (j := 24) rfl dX11_fit_16 dX11_fit_19 dX11_fit_20 dX11_fit_22 dX11_fit_25 (Nat.le_of_ble_eq_true rfl) (Nat.le_of_ble_eq_true rfl) (by decide) hq.1 hq.2.1 hq.2.2
theorem oi_X11_fit {l : Launch} {E : mEn} {Fu : Nat} {I : mIT} {R : mRT} {L : mLT} {v1 : Int32} (hst : l.stackTraces = false) (hW : mWd R)  {out : Int32 × mIT} (h : f_X11_fit Fu R I v1 = some (.inl out)) : mOx l E mX11_fit [.ref (mB E + 0), .int v1] 106 1 I R L 0 0 (mSame (some (.int (out.1))) 106 1 (out.2) R L) (fun _ _ _ _ _ _ => False) := oy_X11_fit hst hW h ⟨rfl, rfl, rfl, rfl, rfl, rfl⟩
theorem ox_X11_fit {l : Launch} {E : mEn} {Fu : Nat} {I : mIT} {R : mRT} {L : mLT} {v1 : Int32} (hst : l.stackTraces = false) (hW : mWd R)  {q : Nat × mIT} (h : f_X11_fit Fu R I v1 = some (.inr q)) : mOx l E mX11_fit [.ref (mB E + 0), .int v1] 106 1 I R L 1 6 (fun _ _ _ _ _ _ => False) (mXp q.1 106 1 q.2 R L) := oy_X11_fit hst hW h ⟨Nat.le_refl _, Nat.le_refl _, rfl, rfl, rfl, rfl, rfl, rfl⟩
noncomputable def f_X4_clear (Fu : Nat) (I : mIT) (k0 : Nat) : Option (mIT) :=
  some (mU I k0 3 (0 : Int32))
set_option maxRecDepth 20000 in
theorem ok_X4_clear {l : Launch} {E : mEn} {Fu : Nat} {I : mIT} {R : mRT} {L : mLT} {k0 : Nat} (hst : l.stackTraces = false) (hk0 : mO4 R k0) {out : mIT} (h : f_X4_clear Fu I k0 = some out) : mOk l E mX4_clear [.ref (mB E + k0)] 106 1 I R L 0 0 (mSame none 106 1 (out) R L) := by
  refine mOk_of hst (by decide) (Nat.le_of_ble_eq_true rfl) (fun X hC hE _ => ?_)
  have hC : mC X E mX4_clear RX4 cX4_clear := hC
  show mG X E 0 [(0, .ref (mB E + k0))] [] 106 1 I R L 0 0
  unfold f_X4_clear at h
  refine g_aload_n hC dX4_clear_0 rfl (q := 0) rfl ?_
  refine g_iconst hC dX4_clear_1 (v := (0 : Int32)) (by decide) ?_
  refine g_puti hC fd_RX4_21 hk0.2.1 hk0.1 rfl dX4_clear_2 (nm_e ?_)
  cases h
  exact g_vret hC hE rfl dX4_clear_5 (Nat.zero_le _) (Nat.zero_le _) ⟨rfl, rfl, rfl, rfl, rfl, rfl⟩
noncomputable def f_X11_forget (Fu : Nat) (I : mIT)  : Option (mIT) :=
  oB (f_X4_clear Fu I 44) (fun r4 => some (r4))
set_option maxRecDepth 20000 in
theorem ok_X11_forget {l : Launch} {E : mEn} {Fu : Nat} {I : mIT} {R : mRT} {L : mLT}  (hst : l.stackTraces = false) (hW : mWd R)  {out : mIT} (h : f_X11_forget Fu I  = some out) : mOk l E mX11_forget [.ref (mB E + 0)] 106 1 I R L 0 0 (mSame none 106 1 (out) R L) := by
  refine mOk_of hst (by decide) (Nat.le_of_ble_eq_true rfl) (fun X hC hE _ => ?_)
  have hC : mC X E mX11_forget RX11 cX11_forget := hC
  show mG X E 0 [(0, .ref (mB E + 0))] [] 106 1 I R L 0 0
  unfold f_X11_forget at h
  refine g_aload_n hC dX11_forget_0 rfl (q := 0) rfl ?_
  refine g_getr hC fd_RX11_48 rfl (by decide) (C0 := _) (t0 := .int) (Or.inl rfl) (rr_0_6 hW.1) dX11_forget_1 ?_
  obtain ⟨r4, h4, h⟩ := oB_some h
  refine g_cV0 hC cv_X4_clear wd_807 ⟨Nat.le_of_ble_eq_true rfl, Nat.le_of_ble_eq_true rfl⟩ rfl (by decide) dX11_forget_4 (As := []) (st := []) (ok_X4_clear hC.2.2.2.2.2.2.2.1 (ob_44 hW.1) h4) rfl rfl (Nat.le_of_ble_eq_true rfl) ⟨Nat.zero_le _, Nat.zero_le _⟩ ?_
  cases h
  exact g_vret hC hE rfl dX11_forget_7 (Nat.zero_le _) (Nat.zero_le _) ⟨rfl, rfl, rfl, rfl, rfl, rfl⟩
noncomputable def b_X5_nearnessOf_4 (Fu : Nat) (I : mIT) (k0 : Nat) (k4_ : Int32 × Int32 × Int32 → Option (Int32)) (v1 : Int32) (v2 : Int32) (v3 : Int32) : Option (Int32) :=
  if (I k0 6) ≤ v3 then (some (v2)) else (oB (f_X5_tuneNote Fu I k0 v3) (fun r17 => k4_ (v1, (if v2 < ((4 : Int32) - (if 0 ≤ (v1 - r17) then (v1 - r17) else 0 - (v1 - r17))) then ((4 : Int32) - (if 0 ≤ (v1 - r17) then (v1 - r17) else 0 - (v1 - r17))) else v2), (v3 + (1 : Int32)))))
set_option maxRecDepth 20000 in
theorem bo_X5_nearnessOf_4 {X : mXT} {E : mEn} {Fu : Nat} {I : mIT} {R : mRT} {L : mLT} {k0 : Nat} (hC : mC X E mX5_nearnessOf RX5 cX5_nearnessOf) (hk0 : mO5 R k0)  {out : Int32} (hE : mEd X E 0 0 (mSame (some (.int (out))) 106 1 I R L)) (k4_ : Int32 × Int32 × Int32 → Option (Int32)) (hk4_ : ∀ (v1 : Int32) (v2 : Int32) (v3 : Int32),  k4_ (v1, v2, v3) = some out → mG X E 4 [(0, .ref (mB E + k0)), (1, .int v1), (2, .int v2), (3, .int v3)] [] 106 1 I R L 0 0) (v1 : Int32) (v2 : Int32) (v3 : Int32) (h : b_X5_nearnessOf_4 Fu I k0 k4_ v1 v2 v3 = some out) : mG X E 4 [(0, .ref (mB E + k0)), (1, .int v1), (2, .int v2), (3, .int v3)] [] 106 1 I R L 0 0 := by
  unfold b_X5_nearnessOf_4 at h
  refine g_iload_n hC dX5_nearnessOf_4 rfl (q := 3) rfl ?_
  refine g_aload_n hC dX5_nearnessOf_5 rfl (q := 0) rfl ?_
  refine g_geti hC fd_RX5_31 hk0.2.1 hk0.1 (Or.inl rfl) dX5_nearnessOf_6 ?_
  refine g_ic_ge hC dX5_nearnessOf_9 (tgt := 35) (by decide) (fun c9 => ?_) (fun c9 => ?_)
  · replace h := (if_pos c9).symm.trans h
    refine g_iload_n hC dX5_nearnessOf_35 rfl (q := 2) rfl ?_
    cases h
    exact g_iret hC hE rfl dX5_nearnessOf_36 (Nat.zero_le _) (Nat.zero_le _) ⟨rfl, rfl, rfl, rfl, rfl, rfl⟩
  · replace h := (if_neg c9).symm.trans h
    refine g_iload_n hC dX5_nearnessOf_12 rfl (q := 2) rfl ?_
    refine g_iconst hC dX5_nearnessOf_13 (v := (4 : Int32)) (by decide) ?_
    refine g_iload_n hC dX5_nearnessOf_14 rfl (q := 1) rfl ?_
    refine g_aload_n hC dX5_nearnessOf_15 rfl (q := 0) rfl ?_
    refine g_iload_n hC dX5_nearnessOf_16 rfl (q := 3) rfl ?_
    obtain ⟨r17, h17, h⟩ := oB_some h
    refine g_cV1 hC cv_X5_tuneNote wd_1495 ⟨Nat.le_of_ble_eq_true rfl, Nat.le_of_ble_eq_true rfl⟩ hk0.2.1 hk0.1 dX5_nearnessOf_17 (As := [.int v3]) (st := [.int v1, .int (4 : Int32), .int v2]) (ok_X5_tuneNote hC.2.2.2.2.2.2.2.1 hk0 h17) rfl rfl (Nat.le_of_ble_eq_true rfl) ⟨Nat.zero_le _, Nat.zero_le _⟩ ?_
    refine g_isub hC dX5_nearnessOf_20 ?_
    refine g_mabs hC wd_1496 wd_st_abs wd_in_math wd_cd_abs (Nat.le_of_ble_eq_true rfl) (Nat.le_of_ble_eq_true rfl) ⟨Nat.zero_le _, Nat.zero_le _⟩ dX5_nearnessOf_21 ?_
    refine g_isub hC dX5_nearnessOf_24 ?_
    refine g_mmax hC wd_1499 wd_st_max wd_in_math wd_cd_max (Nat.le_of_ble_eq_true rfl) (Nat.le_of_ble_eq_true rfl) ⟨Nat.zero_le _, Nat.zero_le _⟩ dX5_nearnessOf_25 ?_
    refine g_istore_n hC dX5_nearnessOf_28 rfl rfl (by decide) (lv' := [(2, .int (if v2 < ((4 : Int32) - (if 0 ≤ (v1 - r17) then (v1 - r17) else 0 - (v1 - r17))) then ((4 : Int32) - (if 0 ≤ (v1 - r17) then (v1 - r17) else 0 - (v1 - r17))) else v2)), (0, .ref (mB E + k0)), (1, .int v1), (3, .int v3)]) rfl ?_
    refine g_iinc hC dX5_nearnessOf_29 rfl (q := 3) rfl (w := (v3 + (1 : Int32))) rfl (by decide) (lv' := [(3, .int (v3 + (1 : Int32))), (2, .int (if v2 < ((4 : Int32) - (if 0 ≤ (v1 - r17) then (v1 - r17) else 0 - (v1 - r17))) then ((4 : Int32) - (if 0 ≤ (v1 - r17) then (v1 - r17) else 0 - (v1 - r17))) else v2)), (0, .ref (mB E + k0)), (1, .int v1)]) rfl ?_
    refine g_goto hC dX5_nearnessOf_32 (tgt := 4) (by decide) ?_
    refine g_lv [2, 3, 1, 0] rfl ?_
    exact hk4_ v1 (if v2 < ((4 : Int32) - (if 0 ≤ (v1 - r17) then (v1 - r17) else 0 - (v1 - r17))) then ((4 : Int32) - (if 0 ≤ (v1 - r17) then (v1 - r17) else 0 - (v1 - r17))) else v2) (v3 + (1 : Int32)) h
noncomputable def w_X5_nearnessOf_4 (Fu : Nat) (I : mIT) (k0 : Nat)  (N : Nat) (v1 : Int32) (v2 : Int32) (v3 : Int32) : Option (Int32) :=
  loopF (fun self (s : Int32 × Int32 × Int32) => b_X5_nearnessOf_4 Fu I k0 self s.1 s.2.1 s.2.2) N (v1, v2, v3)
theorem wo_X5_nearnessOf_4 {X : mXT} {E : mEn} {Fu : Nat} {I : mIT} {R : mRT} {L : mLT} {k0 : Nat} (hC : mC X E mX5_nearnessOf RX5 cX5_nearnessOf) (hk0 : mO5 R k0)  {out : Int32} (hE : mEd X E 0 0 (mSame (some (.int (out))) 106 1 I R L))  (N : Nat) (v1 : Int32) (v2 : Int32) (v3 : Int32) (h : w_X5_nearnessOf_4 Fu I k0  N v1 v2 v3 = some out) : mG X E 4 [(0, .ref (mB E + k0)), (1, .int v1), (2, .int v2), (3, .int v3)] [] 106 1 I R L 0 0 :=
  loopF_ok (Gd := fun s : Int32 × Int32 × Int32 => mG X E 4 [(0, .ref (mB E + k0)), (1, .int s.1), (2, .int s.2.1), (3, .int s.2.2)] [] 106 1 I R L 0 0) (fun self hs s h => bo_X5_nearnessOf_4 hC hk0 hE self (fun v1 v2 v3 h => hs (v1, v2, v3) h) s.1 s.2.1 s.2.2 h) N (v1, v2, v3) h
noncomputable def f_X5_nearnessOf (Fu : Nat) (I : mIT) (k0 : Nat) (v1 : Int32) : Option (Int32) :=
  w_X5_nearnessOf_4 Fu I k0 Fu v1 (0 : Int32) (0 : Int32)
set_option maxRecDepth 20000 in
theorem ok_X5_nearnessOf {l : Launch} {E : mEn} {Fu : Nat} {I : mIT} {R : mRT} {L : mLT} {k0 : Nat} {v1 : Int32} (hst : l.stackTraces = false) (hk0 : mO5 R k0) {out : Int32} (h : f_X5_nearnessOf Fu I k0 v1 = some out) : mOk l E mX5_nearnessOf [.ref (mB E + k0), .int v1] 106 1 I R L 0 0 (mSame (some (.int (out))) 106 1 I R L) := by
  refine mOk_of hst (by decide) (Nat.le_of_ble_eq_true rfl) (fun X hC hE _ => ?_)
  have hC : mC X E mX5_nearnessOf RX5 cX5_nearnessOf := hC
  show mG X E 0 [(0, .ref (mB E + k0)), (1, .int v1)] [] 106 1 I R L 0 0
  unfold f_X5_nearnessOf at h
  refine g_iconst hC dX5_nearnessOf_0 (v := (0 : Int32)) (by decide) ?_
  refine g_istore_n hC dX5_nearnessOf_1 rfl rfl (by decide) (lv' := [(2, .int (0 : Int32)), (0, .ref (mB E + k0)), (1, .int v1)]) rfl ?_
  refine g_iconst hC dX5_nearnessOf_2 (v := (0 : Int32)) (by decide) ?_
  refine g_istore_n hC dX5_nearnessOf_3 rfl rfl (by decide) (lv' := [(3, .int (0 : Int32)), (2, .int (0 : Int32)), (0, .ref (mB E + k0)), (1, .int v1)]) rfl ?_
  refine g_lv [2, 3, 1, 0] rfl ?_
  exact wo_X5_nearnessOf_4 hC hk0 hE Fu (v1) ((0 : Int32)) ((0 : Int32)) h
noncomputable def f_X11_gainOf (Fu : Nat) (R : mRT) (I : mIT) (v1 : Int32) (v2 : Int32) (v3 : Int32) (v4 : Int32) : Option (Int32 × mIT) :=
  oB (R 0 3) (fun p5 => oB (f_X9_noteOf Fu I 40 p5 v1 v2) (fun r10 => oB (R 0 3) (fun p22 => oB (f_X9_noteOf Fu r10.2 40 p22 v3 v4) (fun r28 => if r10.1 = r28.1 then (oB (R 0 3) (fun p42 => oB (f_X5_nearnessOf Fu r28.2 p42 r10.1) (fun r47 => some (((r47 - (2 : Int32)) - v2), r28.2)))) else (oB (R 0 3) (fun p42 => oB (f_X5_nearnessOf Fu r28.2 p42 r10.1) (fun r47 => some (((r47 - (0 : Int32)) - v2), r28.2))))))))
set_option maxRecDepth 20000 in
theorem ok_X11_gainOf {l : Launch} {E : mEn} {Fu : Nat} {I : mIT} {R : mRT} {L : mLT} {v1 : Int32} {v2 : Int32} {v3 : Int32} {v4 : Int32} (hst : l.stackTraces = false) (hW : mWd R)  {out : Int32 × mIT} (h : f_X11_gainOf Fu R I v1 v2 v3 v4 = some out) : mOk l E mX11_gainOf [.ref (mB E + 0), .int v1, .int v2, .int v3, .int v4] 106 1 I R L 0 0 (mSame (some (.int (out.1))) 106 1 (out.2) R L) := by
  refine mOk_of hst (by decide) (Nat.le_of_ble_eq_true rfl) (fun X hC hE _ => ?_)
  have hC : mC X E mX11_gainOf RX11 cX11_gainOf := hC
  show mG X E 0 [(0, .ref (mB E + 0)), (1, .int v1), (2, .int v2), (3, .int v3), (4, .int v4)] [] 106 1 I R L 0 0
  unfold f_X11_gainOf at h
  refine g_aload_n hC dX11_gainOf_0 rfl (q := 0) rfl ?_
  refine g_getr hC fd_RX11_34 rfl (by decide) (C0 := _) (t0 := .int) (Or.inl rfl) (rr_0_4 hW.1) dX11_gainOf_1 ?_
  refine g_aload_n hC dX11_gainOf_4 rfl (q := 0) rfl ?_
  obtain ⟨p5, e5, h⟩ := oB_some h
  have hp5 : mO5 R p5 := ob5 hW.1 (hW.2.1 p5 e5)
  refine g_getr hC fd_RX11_27 rfl (by decide) (C0 := _) (t0 := .int) (Or.inl rfl) e5 dX11_gainOf_5 ?_
  refine g_iload_n hC dX11_gainOf_8 rfl (q := 1) rfl ?_
  refine g_iload_n hC dX11_gainOf_9 rfl (q := 2) rfl ?_
  obtain ⟨r10, h10, h⟩ := oB_some h
  refine g_cV1 hC cv_X9_noteOf wd_1192 ⟨Nat.le_of_ble_eq_true rfl, Nat.le_of_ble_eq_true rfl⟩ rfl (by decide) dX11_gainOf_10 (As := [.ref (mB E + p5), .int v1, .int v2]) (st := []) (ok_X9_noteOf hC.2.2.2.2.2.2.2.1 (ob_40 hW.1) hp5 h10) rfl rfl (Nat.le_of_ble_eq_true rfl) ⟨Nat.zero_le _, Nat.zero_le _⟩ ?_
  refine g_istore hC dX11_gainOf_13 rfl (by decide) (lv' := [(5, .int r10.1), (0, .ref (mB E + 0)), (1, .int v1), (2, .int v2), (3, .int v3), (4, .int v4)]) rfl ?_
  refine g_iload hC dX11_gainOf_15 (q := 0) rfl ?_
  refine g_aload_n hC dX11_gainOf_17 rfl (q := 1) rfl ?_
  refine g_getr hC fd_RX11_34 rfl (by decide) (C0 := _) (t0 := .int) (Or.inl rfl) (rr_0_4 hW.1) dX11_gainOf_18 ?_
  refine g_aload_n hC dX11_gainOf_21 rfl (q := 1) rfl ?_
  obtain ⟨p22, e22, h⟩ := oB_some h
  have hp22 : mO5 R p22 := ob5 hW.1 (hW.2.1 p22 e22)
  refine g_getr hC fd_RX11_27 rfl (by decide) (C0 := _) (t0 := .int) (Or.inl rfl) e22 dX11_gainOf_22 ?_
  refine g_iload_n hC dX11_gainOf_25 rfl (q := 4) rfl ?_
  refine g_iload hC dX11_gainOf_26 (q := 5) rfl ?_
  obtain ⟨r28, h28, h⟩ := oB_some h
  refine g_cV1 hC cv_X9_noteOf wd_1192 ⟨Nat.le_of_ble_eq_true rfl, Nat.le_of_ble_eq_true rfl⟩ rfl (by decide) dX11_gainOf_28 (As := [.ref (mB E + p22), .int v3, .int v4]) (st := [.int r10.1]) (ok_X9_noteOf hC.2.2.2.2.2.2.2.1 (ob_40 hW.1) hp22 h28) rfl rfl (Nat.le_of_ble_eq_true rfl) ⟨Nat.zero_le _, Nat.zero_le _⟩ ?_
  refine g_ic_ne hC dX11_gainOf_31 (tgt := 38) (by decide) (fun c31 => ?_) (fun c31 => ?_)
  · replace h := (if_neg c31).symm.trans h
    refine g_iconst hC dX11_gainOf_38 (v := (0 : Int32)) (by decide) ?_
    refine g_istore hC dX11_gainOf_39 rfl (by decide) (lv' := [(6, .int (0 : Int32)), (5, .int r10.1), (0, .ref (mB E + 0)), (1, .int v1), (2, .int v2), (3, .int v3), (4, .int v4)]) rfl ?_
    refine g_aload_n hC dX11_gainOf_41 rfl (q := 2) rfl ?_
    obtain ⟨p42, e42, h⟩ := oB_some h
    have hp42 : mO5 R p42 := ob5 hW.1 (hW.2.1 p42 e42)
    refine g_getr hC fd_RX11_27 rfl (by decide) (C0 := _) (t0 := .int) (Or.inl rfl) e42 dX11_gainOf_42 ?_
    refine g_iload hC dX11_gainOf_45 (q := 1) rfl ?_
    obtain ⟨r47, h47, h⟩ := oB_some h
    refine g_cV1 hC cv_X5_nearnessOf wd_1491 ⟨Nat.le_of_ble_eq_true rfl, Nat.le_of_ble_eq_true rfl⟩ hp42.2.1 hp42.1 dX11_gainOf_47 (As := [.int r10.1]) (st := []) (ok_X5_nearnessOf hC.2.2.2.2.2.2.2.1 hp42 h47) rfl rfl (Nat.le_of_ble_eq_true rfl) ⟨Nat.zero_le _, Nat.zero_le _⟩ ?_
    refine g_iload hC dX11_gainOf_50 (q := 0) rfl ?_
    refine g_isub hC dX11_gainOf_52 ?_
    refine g_iload_n hC dX11_gainOf_53 rfl (q := 4) rfl ?_
    refine g_isub hC dX11_gainOf_54 ?_
    cases h
    exact g_iret hC hE rfl dX11_gainOf_55 (Nat.zero_le _) (Nat.zero_le _) ⟨rfl, rfl, rfl, rfl, rfl, rfl⟩
  · replace h := (if_pos c31).symm.trans h
    refine g_iconst hC dX11_gainOf_34 (v := (2 : Int32)) (by decide) ?_
    refine g_goto hC dX11_gainOf_35 (tgt := 39) (by decide) ?_
    refine g_istore hC dX11_gainOf_39 rfl (by decide) (lv' := [(6, .int (2 : Int32)), (5, .int r10.1), (0, .ref (mB E + 0)), (1, .int v1), (2, .int v2), (3, .int v3), (4, .int v4)]) rfl ?_
    refine g_aload_n hC dX11_gainOf_41 rfl (q := 2) rfl ?_
    obtain ⟨p42, e42, h⟩ := oB_some h
    have hp42 : mO5 R p42 := ob5 hW.1 (hW.2.1 p42 e42)
    refine g_getr hC fd_RX11_27 rfl (by decide) (C0 := _) (t0 := .int) (Or.inl rfl) e42 dX11_gainOf_42 ?_
    refine g_iload hC dX11_gainOf_45 (q := 1) rfl ?_
    obtain ⟨r47, h47, h⟩ := oB_some h
    refine g_cV1 hC cv_X5_nearnessOf wd_1491 ⟨Nat.le_of_ble_eq_true rfl, Nat.le_of_ble_eq_true rfl⟩ hp42.2.1 hp42.1 dX11_gainOf_47 (As := [.int r10.1]) (st := []) (ok_X5_nearnessOf hC.2.2.2.2.2.2.2.1 hp42 h47) rfl rfl (Nat.le_of_ble_eq_true rfl) ⟨Nat.zero_le _, Nat.zero_le _⟩ ?_
    refine g_iload hC dX11_gainOf_50 (q := 0) rfl ?_
    refine g_isub hC dX11_gainOf_52 ?_
    refine g_iload_n hC dX11_gainOf_53 rfl (q := 4) rfl ?_
    refine g_isub hC dX11_gainOf_54 ?_
    cases h
    exact g_iret hC hE rfl dX11_gainOf_55 (Nat.zero_le _) (Nat.zero_le _) ⟨rfl, rfl, rfl, rfl, rfl, rfl⟩
noncomputable def f_X11_mostChoice (Fu : Nat) (I : mIT) (v1 : Int32) : Option (Int32) :=
  oB (f_X9_roomToHollow Fu I 40 v1) (fun r5 => if r5 ≤ 0 then (some (0 : Int32)) else (some (1 : Int32)))
set_option maxRecDepth 20000 in
theorem ok_X11_mostChoice {l : Launch} {E : mEn} {Fu : Nat} {I : mIT} {R : mRT} {L : mLT} {v1 : Int32} (hst : l.stackTraces = false) (hW : mWd R)  {out : Int32} (h : f_X11_mostChoice Fu I v1 = some out) : mOk l E mX11_mostChoice [.ref (mB E + 0), .int v1] 106 1 I R L 0 0 (mSame (some (.int (out))) 106 1 I R L) := by
  refine mOk_of hst (by decide) (Nat.le_of_ble_eq_true rfl) (fun X hC hE _ => ?_)
  have hC : mC X E mX11_mostChoice RX11 cX11_mostChoice := hC
  show mG X E 0 [(0, .ref (mB E + 0)), (1, .int v1)] [] 106 1 I R L 0 0
  unfold f_X11_mostChoice at h
  refine g_aload_n hC dX11_mostChoice_0 rfl (q := 0) rfl ?_
  refine g_getr hC fd_RX11_34 rfl (by decide) (C0 := _) (t0 := .int) (Or.inl rfl) (rr_0_4 hW.1) dX11_mostChoice_1 ?_
  refine g_iload_n hC dX11_mostChoice_4 rfl (q := 1) rfl ?_
  obtain ⟨r5, h5, h⟩ := oB_some h
  refine g_cV1 hC cv_X9_roomToHollow wd_1193 ⟨Nat.le_of_ble_eq_true rfl, Nat.le_of_ble_eq_true rfl⟩ rfl (by decide) dX11_mostChoice_5 (As := [.int v1]) (st := []) (ok_X9_roomToHollow hC.2.2.2.2.2.2.2.1 (ob_40 hW.1) h5) rfl rfl (Nat.le_of_ble_eq_true rfl) ⟨Nat.zero_le _, Nat.zero_le _⟩ ?_
  refine g_if_le hC dX11_mostChoice_8 (tgt := 15) (by decide) (fun c8 => ?_) (fun c8 => ?_)
  · replace h := (if_pos c8).symm.trans h
    refine g_iconst hC dX11_mostChoice_15 (v := (0 : Int32)) (by decide) ?_
    cases h
    exact g_iret hC hE rfl dX11_mostChoice_16 (Nat.zero_le _) (Nat.zero_le _) ⟨rfl, rfl, rfl, rfl, rfl, rfl⟩
  · replace h := (if_neg c8).symm.trans h
    refine g_iconst hC dX11_mostChoice_11 (v := (1 : Int32)) (by decide) ?_
    refine g_goto hC dX11_mostChoice_12 (tgt := 16) (by decide) ?_
    cases h
    exact g_iret hC hE rfl dX11_mostChoice_16 (Nat.zero_le _) (Nat.zero_le _) ⟨rfl, rfl, rfl, rfl, rfl, rfl⟩
noncomputable def f_X11_isContent (Fu : Nat) (R : mRT) (I : mIT) (v1 : Int32) (v2 : Int32) (v3 : Int32) (v4 : Int32) : Option (Int32 × mIT) :=
  oB (f_X11_mostChoice Fu I v1) (fun r2 => if r2 = 0 then (some ((1 : Int32), I)) else (oB (f_X11_gainOf Fu R I v1 ((1 : Int32) - v2) v3 v4) (fun r16 => oB (f_X11_gainOf Fu R r16.2 v1 v2 v3 v4) (fun r25 => if r25.1 < r16.1 then (some ((0 : Int32), r25.2)) else (some ((1 : Int32), r25.2))))))
set_option maxRecDepth 20000 in
theorem ok_X11_isContent {l : Launch} {E : mEn} {Fu : Nat} {I : mIT} {R : mRT} {L : mLT} {v1 : Int32} {v2 : Int32} {v3 : Int32} {v4 : Int32} (hst : l.stackTraces = false) (hW : mWd R)  {out : Int32 × mIT} (h : f_X11_isContent Fu R I v1 v2 v3 v4 = some out) : mOk l E mX11_isContent [.ref (mB E + 0), .int v1, .int v2, .int v3, .int v4] 106 1 I R L 0 0 (mSame (some (.int (out.1))) 106 1 (out.2) R L) := by
  refine mOk_of hst (by decide) (Nat.le_of_ble_eq_true rfl) (fun X hC hE _ => ?_)
  have hC : mC X E mX11_isContent RX11 cX11_isContent := hC
  show mG X E 0 [(0, .ref (mB E + 0)), (1, .int v1), (2, .int v2), (3, .int v3), (4, .int v4)] [] 106 1 I R L 0 0
  unfold f_X11_isContent at h
  refine g_aload_n hC dX11_isContent_0 rfl (q := 0) rfl ?_
  refine g_iload_n hC dX11_isContent_1 rfl (q := 1) rfl ?_
  obtain ⟨r2, h2, h⟩ := oB_some h
  refine g_cV1 hC cv_X11_mostChoice wd_1479 ⟨Nat.le_of_ble_eq_true rfl, Nat.le_of_ble_eq_true rfl⟩ rfl (by decide) dX11_isContent_2 (As := [.int v1]) (st := []) (ok_X11_mostChoice hC.2.2.2.2.2.2.2.1 hW h2) rfl rfl (Nat.le_of_ble_eq_true rfl) ⟨Nat.zero_le _, Nat.zero_le _⟩ ?_
  refine g_if_eq hC dX11_isContent_5 (tgt := 31) (by decide) (fun c5 => ?_) (fun c5 => ?_)
  · replace h := (if_pos c5).symm.trans h
    refine g_iconst hC dX11_isContent_31 (v := (1 : Int32)) (by decide) ?_
    refine g_goto hC dX11_isContent_32 (tgt := 36) (by decide) ?_
    cases h
    exact g_zret hC (by decide) hE rfl dX11_isContent_36 (Nat.zero_le _) (Nat.zero_le _) ⟨rfl, rfl, rfl, rfl, rfl, rfl⟩
  · replace h := (if_neg c5).symm.trans h
    refine g_aload_n hC dX11_isContent_8 rfl (q := 0) rfl ?_
    refine g_iload_n hC dX11_isContent_9 rfl (q := 1) rfl ?_
    refine g_iconst hC dX11_isContent_10 (v := (1 : Int32)) (by decide) ?_
    refine g_iload_n hC dX11_isContent_11 rfl (q := 2) rfl ?_
    refine g_isub hC dX11_isContent_12 ?_
    refine g_iload_n hC dX11_isContent_13 rfl (q := 3) rfl ?_
    refine g_iload hC dX11_isContent_14 (q := 4) rfl ?_
    obtain ⟨r16, h16, h⟩ := oB_some h
    refine g_cV1 hC cv_X11_gainOf wd_1487 ⟨Nat.le_of_ble_eq_true rfl, Nat.le_of_ble_eq_true rfl⟩ rfl (by decide) dX11_isContent_16 (As := [.int v1, .int ((1 : Int32) - v2), .int v3, .int v4]) (st := []) (ok_X11_gainOf hC.2.2.2.2.2.2.2.1 hW h16) rfl rfl (Nat.le_of_ble_eq_true rfl) ⟨Nat.zero_le _, Nat.zero_le _⟩ ?_
    refine g_aload_n hC dX11_isContent_19 rfl (q := 0) rfl ?_
    refine g_iload_n hC dX11_isContent_20 rfl (q := 1) rfl ?_
    refine g_iload_n hC dX11_isContent_21 rfl (q := 2) rfl ?_
    refine g_iload_n hC dX11_isContent_22 rfl (q := 3) rfl ?_
    refine g_iload hC dX11_isContent_23 (q := 4) rfl ?_
    obtain ⟨r25, h25, h⟩ := oB_some h
    refine g_cV1 hC cv_X11_gainOf wd_1487 ⟨Nat.le_of_ble_eq_true rfl, Nat.le_of_ble_eq_true rfl⟩ rfl (by decide) dX11_isContent_25 (As := [.int v1, .int v2, .int v3, .int v4]) (st := [.int r16.1]) (ok_X11_gainOf hC.2.2.2.2.2.2.2.1 hW h25) rfl rfl (Nat.le_of_ble_eq_true rfl) ⟨Nat.zero_le _, Nat.zero_le _⟩ ?_
    refine g_ic_gt hC dX11_isContent_28 (tgt := 35) (by decide) (fun c28 => ?_) (fun c28 => ?_)
    · replace h := (if_pos c28).symm.trans h
      refine g_iconst hC dX11_isContent_35 (v := (0 : Int32)) (by decide) ?_
      cases h
      exact g_zret hC (by decide) hE rfl dX11_isContent_36 (Nat.zero_le _) (Nat.zero_le _) ⟨rfl, rfl, rfl, rfl, rfl, rfl⟩
    · replace h := (if_neg c28).symm.trans h
      refine g_iconst hC dX11_isContent_31 (v := (1 : Int32)) (by decide) ?_
      refine g_goto hC dX11_isContent_32 (tgt := 36) (by decide) ?_
      cases h
      exact g_zret hC (by decide) hE rfl dX11_isContent_36 (Nat.zero_le _) (Nat.zero_le _) ⟨rfl, rfl, rfl, rfl, rfl, rfl⟩
noncomputable def b_X11_game_86 (Fu : Nat) (R : mRT) (k76_ : Int32 × Int32 × Int32 × Int32 × Int32 × Int32 × Int32 × Int32 × mIT → Option ((Int32 × mIT) ⊕ (Nat × mIT))) (k86_ : Int32 × Int32 × Int32 × Int32 × Int32 × Int32 × Int32 × Int32 × Int32 × mIT → Option ((Int32 × mIT) ⊕ (Nat × mIT))) (v1 : Int32) (v2 : Int32) (v3 : Int32) (v4 : Int32) (v5 : Int32) (v6 : Int32) (v7 : Int32) (v8 : Int32) (v9 : Int32) (I : mIT) : Option ((Int32 × mIT) ⊕ (Nat × mIT)) :=
  if v7 < v9 then (k76_ (v1, v2, v3, v4, v5, v6, v7, (v8 + (1 : Int32)), I)) else (oB (f_X11_isContent Fu R I v1 v8 v2 v9) (fun r100 => if r100.1 = 0 then (k86_ (v1, v2, v3, v4, v5, v6, v7, v8, (v9 + (1 : Int32)), r100.2)) else (oB (f_X11_isContent Fu R r100.2 v2 v9 v1 v8) (fun r113 => if r113.1 = 0 then (k86_ (v1, v2, v3, v4, v5, v6, v7, v8, (v9 + (1 : Int32)), r113.2)) else (if v4 = 0 then (k86_ (v1, v2, v3, (v4 + (1 : Int32)), (((10 : Int32) * v8) + v9), v6, v7, v8, (v9 + (1 : Int32)), r113.2)) else (k86_ (v1, v2, v3, (v4 + (1 : Int32)), v5, v6, v7, v8, (v9 + (1 : Int32)), r113.2)))))))
set_option maxRecDepth 20000 in
theorem bo_X11_game_86 {X : mXT} {E : mEn} {Fu : Nat} {R : mRT} {L : mLT}  (hC : mC X E mX11_game RX11 cX11_game) (hW : mWd R)   {out : (Int32 × mIT) ⊕ (Nat × mIT)} {mc ms : Nat} {post : Option Value → Nat → Nat → mIT → mRT → mLT → Prop} {px : String → Nat → Nat → mIT → mRT → mLT → Prop} (hE : mEx X E mc ms post px ∧ Sum.elim (fun o : Int32 × mIT => post (some (.int (o.1))) 106 1 (o.2) R L) (fun q : Nat × mIT => 1 ≤ mc ∧ 6 ≤ ms ∧ px (xNm q.1) 106 1 q.2 R L) out) (k76_ : Int32 × Int32 × Int32 × Int32 × Int32 × Int32 × Int32 × Int32 × mIT → Option ((Int32 × mIT) ⊕ (Nat × mIT))) (hk76_ : ∀ (v1 : Int32) (v2 : Int32) (v3 : Int32) (v4 : Int32) (v5 : Int32) (v6 : Int32) (v7 : Int32) (v8 : Int32) (I : mIT),  k76_ (v1, v2, v3, v4, v5, v6, v7, v8, I) = some out → mG X E 76 [(0, .ref (mB E + 0)), (1, .int v1), (2, .int v2), (3, .int v3), (4, .int v4), (5, .int v5), (6, .int v6), (7, .int v7), (8, .int v8)] [] 106 1 I R L 0 0) (k86_ : Int32 × Int32 × Int32 × Int32 × Int32 × Int32 × Int32 × Int32 × Int32 × mIT → Option ((Int32 × mIT) ⊕ (Nat × mIT))) (hk86_ : ∀ (v1 : Int32) (v2 : Int32) (v3 : Int32) (v4 : Int32) (v5 : Int32) (v6 : Int32) (v7 : Int32) (v8 : Int32) (v9 : Int32) (I : mIT),  k86_ (v1, v2, v3, v4, v5, v6, v7, v8, v9, I) = some out → mG X E 86 [(0, .ref (mB E + 0)), (1, .int v1), (2, .int v2), (3, .int v3), (4, .int v4), (5, .int v5), (6, .int v6), (7, .int v7), (8, .int v8), (9, .int v9)] [] 106 1 I R L 0 0) (v1 : Int32) (v2 : Int32) (v3 : Int32) (v4 : Int32) (v5 : Int32) (v6 : Int32) (v7 : Int32) (v8 : Int32) (v9 : Int32) (I : mIT) (h : b_X11_game_86 Fu R k76_ k86_ v1 v2 v3 v4 v5 v6 v7 v8 v9 I = some out) : mG X E 86 [(0, .ref (mB E + 0)), (1, .int v1), (2, .int v2), (3, .int v3), (4, .int v4), (5, .int v5), (6, .int v6), (7, .int v7), (8, .int v8), (9, .int v9)] [] 106 1 I R L 0 0 := by
  unfold b_X11_game_86 at h
  refine g_iload hC dX11_game_86 (q := 9) rfl ?_
  refine g_iload hC dX11_game_88 (q := 7) rfl ?_
  refine g_ic_gt hC dX11_game_90 (tgt := 148) (by decide) (fun c90 => ?_) (fun c90 => ?_)
  · replace h := (if_pos c90).symm.trans h
    refine g_iinc hC dX11_game_148 rfl (q := 8) rfl (w := (v8 + (1 : Int32))) rfl (by decide) (lv' := [(8, .int (v8 + (1 : Int32))), (0, .ref (mB E + 0)), (1, .int v1), (2, .int v2), (3, .int v3), (4, .int v4), (5, .int v5), (6, .int v6), (7, .int v7), (9, .int v9)]) rfl ?_
    refine g_goto hC dX11_game_151 (tgt := 76) (by decide) ?_
    refine g_lv [1, 2, 3, 4, 5, 6, 7, 8, 0] rfl ?_
    exact hk76_ v1 v2 v3 v4 v5 v6 v7 (v8 + (1 : Int32)) I h
  · replace h := (if_neg c90).symm.trans h
    refine g_aload_n hC dX11_game_93 rfl (q := 0) rfl ?_
    refine g_iload_n hC dX11_game_94 rfl (q := 1) rfl ?_
    refine g_iload hC dX11_game_95 (q := 8) rfl ?_
    refine g_iload_n hC dX11_game_97 rfl (q := 2) rfl ?_
    refine g_iload hC dX11_game_98 (q := 9) rfl ?_
    obtain ⟨r100, h100, h⟩ := oB_some h
    refine g_cV1 hC cv_X11_isContent wd_1483 ⟨Nat.le_of_ble_eq_true rfl, Nat.le_of_ble_eq_true rfl⟩ rfl (by decide) dX11_game_100 (As := [.int v1, .int v8, .int v2, .int v9]) (st := []) (ok_X11_isContent hC.2.2.2.2.2.2.2.1 hW h100) rfl rfl (Nat.le_of_ble_eq_true rfl) ⟨Nat.zero_le _, Nat.zero_le _⟩ ?_
    refine g_if_eq hC dX11_game_103 (tgt := 142) (by decide) (fun c103 => ?_) (fun c103 => ?_)
    · replace h := (if_pos c103).symm.trans h
      refine g_iinc hC dX11_game_142 rfl (q := 9) rfl (w := (v9 + (1 : Int32))) rfl (by decide) (lv' := [(9, .int (v9 + (1 : Int32))), (0, .ref (mB E + 0)), (1, .int v1), (2, .int v2), (3, .int v3), (4, .int v4), (5, .int v5), (6, .int v6), (7, .int v7), (8, .int v8)]) rfl ?_
      refine g_goto hC dX11_game_145 (tgt := 86) (by decide) ?_
      refine g_lv [1, 2, 3, 4, 5, 6, 7, 8, 9, 0] rfl ?_
      exact hk86_ v1 v2 v3 v4 v5 v6 v7 v8 (v9 + (1 : Int32)) r100.2 h
    · replace h := (if_neg c103).symm.trans h
      refine g_aload_n hC dX11_game_106 rfl (q := 0) rfl ?_
      refine g_iload_n hC dX11_game_107 rfl (q := 2) rfl ?_
      refine g_iload hC dX11_game_108 (q := 9) rfl ?_
      refine g_iload_n hC dX11_game_110 rfl (q := 1) rfl ?_
      refine g_iload hC dX11_game_111 (q := 8) rfl ?_
      obtain ⟨r113, h113, h⟩ := oB_some h
      refine g_cV1 hC cv_X11_isContent wd_1483 ⟨Nat.le_of_ble_eq_true rfl, Nat.le_of_ble_eq_true rfl⟩ rfl (by decide) dX11_game_113 (As := [.int v2, .int v9, .int v1, .int v8]) (st := []) (ok_X11_isContent hC.2.2.2.2.2.2.2.1 hW h113) rfl rfl (Nat.le_of_ble_eq_true rfl) ⟨Nat.zero_le _, Nat.zero_le _⟩ ?_
      refine g_if_eq hC dX11_game_116 (tgt := 142) (by decide) (fun c116 => ?_) (fun c116 => ?_)
      · replace h := (if_pos c116).symm.trans h
        refine g_iinc hC dX11_game_142 rfl (q := 9) rfl (w := (v9 + (1 : Int32))) rfl (by decide) (lv' := [(9, .int (v9 + (1 : Int32))), (0, .ref (mB E + 0)), (1, .int v1), (2, .int v2), (3, .int v3), (4, .int v4), (5, .int v5), (6, .int v6), (7, .int v7), (8, .int v8)]) rfl ?_
        refine g_goto hC dX11_game_145 (tgt := 86) (by decide) ?_
        refine g_lv [1, 2, 3, 4, 5, 6, 7, 8, 9, 0] rfl ?_
        exact hk86_ v1 v2 v3 v4 v5 v6 v7 v8 (v9 + (1 : Int32)) r113.2 h
      · replace h := (if_neg c116).symm.trans h
        refine g_iload hC dX11_game_119 (q := 4) rfl ?_
        refine g_if_ne hC dX11_game_121 (tgt := 135) (by decide) (fun c121 => ?_) (fun c121 => ?_)
        · replace h := (if_neg c121).symm.trans h
          refine g_iload hC dX11_game_135 (q := 5) rfl ?_
          refine g_istore hC dX11_game_137 rfl (by decide) (lv' := [(5, .int v5), (0, .ref (mB E + 0)), (1, .int v1), (2, .int v2), (3, .int v3), (4, .int v4), (6, .int v6), (7, .int v7), (8, .int v8), (9, .int v9)]) rfl ?_
          refine g_iinc hC dX11_game_139 rfl (q := 5) rfl (w := (v4 + (1 : Int32))) rfl (by decide) (lv' := [(4, .int (v4 + (1 : Int32))), (5, .int v5), (0, .ref (mB E + 0)), (1, .int v1), (2, .int v2), (3, .int v3), (6, .int v6), (7, .int v7), (8, .int v8), (9, .int v9)]) rfl ?_
          refine g_iinc hC dX11_game_142 rfl (q := 9) rfl (w := (v9 + (1 : Int32))) rfl (by decide) (lv' := [(9, .int (v9 + (1 : Int32))), (4, .int (v4 + (1 : Int32))), (5, .int v5), (0, .ref (mB E + 0)), (1, .int v1), (2, .int v2), (3, .int v3), (6, .int v6), (7, .int v7), (8, .int v8)]) rfl ?_
          refine g_goto hC dX11_game_145 (tgt := 86) (by decide) ?_
          refine g_lv [3, 4, 5, 6, 1, 2, 7, 8, 9, 0] rfl ?_
          exact hk86_ v1 v2 v3 (v4 + (1 : Int32)) v5 v6 v7 v8 (v9 + (1 : Int32)) r113.2 h
        · replace h := (if_pos c121).symm.trans h
          refine g_bipush hC dX11_game_124 (v := (10 : Int32)) (by decide) ?_
          refine g_iload hC dX11_game_126 (q := 8) rfl ?_
          refine g_imul hC dX11_game_128 ?_
          refine g_iload hC dX11_game_129 (q := 9) rfl ?_
          refine g_iadd hC dX11_game_131 ?_
          refine g_goto hC dX11_game_132 (tgt := 137) (by decide) ?_
          refine g_istore hC dX11_game_137 rfl (by decide) (lv' := [(5, .int (((10 : Int32) * v8) + v9)), (0, .ref (mB E + 0)), (1, .int v1), (2, .int v2), (3, .int v3), (4, .int v4), (6, .int v6), (7, .int v7), (8, .int v8), (9, .int v9)]) rfl ?_
          refine g_iinc hC dX11_game_139 rfl (q := 5) rfl (w := (v4 + (1 : Int32))) rfl (by decide) (lv' := [(4, .int (v4 + (1 : Int32))), (5, .int (((10 : Int32) * v8) + v9)), (0, .ref (mB E + 0)), (1, .int v1), (2, .int v2), (3, .int v3), (6, .int v6), (7, .int v7), (8, .int v8), (9, .int v9)]) rfl ?_
          refine g_iinc hC dX11_game_142 rfl (q := 9) rfl (w := (v9 + (1 : Int32))) rfl (by decide) (lv' := [(9, .int (v9 + (1 : Int32))), (4, .int (v4 + (1 : Int32))), (5, .int (((10 : Int32) * v8) + v9)), (0, .ref (mB E + 0)), (1, .int v1), (2, .int v2), (3, .int v3), (6, .int v6), (7, .int v7), (8, .int v8)]) rfl ?_
          refine g_goto hC dX11_game_145 (tgt := 86) (by decide) ?_
          refine g_lv [3, 4, 5, 6, 1, 2, 7, 8, 9, 0] rfl ?_
          exact hk86_ v1 v2 v3 (v4 + (1 : Int32)) (((10 : Int32) * v8) + v9) v6 v7 v8 (v9 + (1 : Int32)) r113.2 h
noncomputable def w_X11_game_86 (Fu : Nat) (R : mRT) (k76_ : Int32 × Int32 × Int32 × Int32 × Int32 × Int32 × Int32 × Int32 × mIT → Option ((Int32 × mIT) ⊕ (Nat × mIT))) (N : Nat) (v1 : Int32) (v2 : Int32) (v3 : Int32) (v4 : Int32) (v5 : Int32) (v6 : Int32) (v7 : Int32) (v8 : Int32) (v9 : Int32) (I : mIT) : Option ((Int32 × mIT) ⊕ (Nat × mIT)) :=
  loopF (fun self (s : Int32 × Int32 × Int32 × Int32 × Int32 × Int32 × Int32 × Int32 × Int32 × mIT) => b_X11_game_86 Fu R k76_ self s.1 s.2.1 s.2.2.1 s.2.2.2.1 s.2.2.2.2.1 s.2.2.2.2.2.1 s.2.2.2.2.2.2.1 s.2.2.2.2.2.2.2.1 s.2.2.2.2.2.2.2.2.1 s.2.2.2.2.2.2.2.2.2) N (v1, v2, v3, v4, v5, v6, v7, v8, v9, I)
theorem wo_X11_game_86 {X : mXT} {E : mEn} {Fu : Nat} {R : mRT} {L : mLT}  (hC : mC X E mX11_game RX11 cX11_game) (hW : mWd R)   {out : (Int32 × mIT) ⊕ (Nat × mIT)} {mc ms : Nat} {post : Option Value → Nat → Nat → mIT → mRT → mLT → Prop} {px : String → Nat → Nat → mIT → mRT → mLT → Prop} (hE : mEx X E mc ms post px ∧ Sum.elim (fun o : Int32 × mIT => post (some (.int (o.1))) 106 1 (o.2) R L) (fun q : Nat × mIT => 1 ≤ mc ∧ 6 ≤ ms ∧ px (xNm q.1) 106 1 q.2 R L) out) (k76_ : Int32 × Int32 × Int32 × Int32 × Int32 × Int32 × Int32 × Int32 × mIT → Option ((Int32 × mIT) ⊕ (Nat × mIT))) (hk76_ : ∀ (v1 : Int32) (v2 : Int32) (v3 : Int32) (v4 : Int32) (v5 : Int32) (v6 : Int32) (v7 : Int32) (v8 : Int32) (I : mIT),  k76_ (v1, v2, v3, v4, v5, v6, v7, v8, I) = some out → mG X E 76 [(0, .ref (mB E + 0)), (1, .int v1), (2, .int v2), (3, .int v3), (4, .int v4), (5, .int v5), (6, .int v6), (7, .int v7), (8, .int v8)] [] 106 1 I R L 0 0) (N : Nat) (v1 : Int32) (v2 : Int32) (v3 : Int32) (v4 : Int32) (v5 : Int32) (v6 : Int32) (v7 : Int32) (v8 : Int32) (v9 : Int32) (I : mIT) (h : w_X11_game_86 Fu R k76_ N v1 v2 v3 v4 v5 v6 v7 v8 v9 I = some out) : mG X E 86 [(0, .ref (mB E + 0)), (1, .int v1), (2, .int v2), (3, .int v3), (4, .int v4), (5, .int v5), (6, .int v6), (7, .int v7), (8, .int v8), (9, .int v9)] [] 106 1 I R L 0 0 :=
  loopF_ok (Gd := fun s : Int32 × Int32 × Int32 × Int32 × Int32 × Int32 × Int32 × Int32 × Int32 × mIT => mG X E 86 [(0, .ref (mB E + 0)), (1, .int s.1), (2, .int s.2.1), (3, .int s.2.2.1), (4, .int s.2.2.2.1), (5, .int s.2.2.2.2.1), (6, .int s.2.2.2.2.2.1), (7, .int s.2.2.2.2.2.2.1), (8, .int s.2.2.2.2.2.2.2.1), (9, .int s.2.2.2.2.2.2.2.2.1)] [] 106 1 s.2.2.2.2.2.2.2.2.2 R L 0 0) (fun self hs s h => bo_X11_game_86 hC hW hE k76_ hk76_ self (fun v1 v2 v3 v4 v5 v6 v7 v8 v9 I h => hs (v1, v2, v3, v4, v5, v6, v7, v8, v9, I) h) s.1 s.2.1 s.2.2.1 s.2.2.2.1 s.2.2.2.2.1 s.2.2.2.2.2.1 s.2.2.2.2.2.2.1 s.2.2.2.2.2.2.2.1 s.2.2.2.2.2.2.2.2.1 s.2.2.2.2.2.2.2.2.2 h) N (v1, v2, v3, v4, v5, v6, v7, v8, v9, I) h
noncomputable def b_X11_game_76 (Fu : Nat) (R : mRT) (k76_ : Int32 × Int32 × Int32 × Int32 × Int32 × Int32 × Int32 × Int32 × mIT → Option ((Int32 × mIT) ⊕ (Nat × mIT))) (v1 : Int32) (v2 : Int32) (v3 : Int32) (v4 : Int32) (v5 : Int32) (v6 : Int32) (v7 : Int32) (v8 : Int32) (I : mIT) : Option ((Int32 × mIT) ⊕ (Nat × mIT)) :=
  if v6 < v8 then (if v3 = 0 then (some (.inl (v4, I))) else (some (.inl (v5, I)))) else (w_X11_game_86 Fu R k76_ Fu v1 v2 v3 v4 v5 v6 v7 v8 (0 : Int32) I)
set_option maxRecDepth 20000 in
theorem bo_X11_game_76 {X : mXT} {E : mEn} {Fu : Nat} {R : mRT} {L : mLT}  (hC : mC X E mX11_game RX11 cX11_game) (hW : mWd R)   {out : (Int32 × mIT) ⊕ (Nat × mIT)} {mc ms : Nat} {post : Option Value → Nat → Nat → mIT → mRT → mLT → Prop} {px : String → Nat → Nat → mIT → mRT → mLT → Prop} (hE : mEx X E mc ms post px ∧ Sum.elim (fun o : Int32 × mIT => post (some (.int (o.1))) 106 1 (o.2) R L) (fun q : Nat × mIT => 1 ≤ mc ∧ 6 ≤ ms ∧ px (xNm q.1) 106 1 q.2 R L) out) (k76_ : Int32 × Int32 × Int32 × Int32 × Int32 × Int32 × Int32 × Int32 × mIT → Option ((Int32 × mIT) ⊕ (Nat × mIT))) (hk76_ : ∀ (v1 : Int32) (v2 : Int32) (v3 : Int32) (v4 : Int32) (v5 : Int32) (v6 : Int32) (v7 : Int32) (v8 : Int32) (I : mIT),  k76_ (v1, v2, v3, v4, v5, v6, v7, v8, I) = some out → mG X E 76 [(0, .ref (mB E + 0)), (1, .int v1), (2, .int v2), (3, .int v3), (4, .int v4), (5, .int v5), (6, .int v6), (7, .int v7), (8, .int v8)] [] 106 1 I R L 0 0) (v1 : Int32) (v2 : Int32) (v3 : Int32) (v4 : Int32) (v5 : Int32) (v6 : Int32) (v7 : Int32) (v8 : Int32) (I : mIT) (h : b_X11_game_76 Fu R k76_ v1 v2 v3 v4 v5 v6 v7 v8 I = some out) : mG X E 76 [(0, .ref (mB E + 0)), (1, .int v1), (2, .int v2), (3, .int v3), (4, .int v4), (5, .int v5), (6, .int v6), (7, .int v7), (8, .int v8)] [] 106 1 I R L 0 0 := by
  unfold b_X11_game_76 at h
  refine g_iload hC dX11_game_76 (q := 8) rfl ?_
  refine g_iload hC dX11_game_78 (q := 6) rfl ?_
  refine g_ic_gt hC dX11_game_80 (tgt := 154) (by decide) (fun c80 => ?_) (fun c80 => ?_)
  · replace h := (if_pos c80).symm.trans h
    refine g_iload_n hC dX11_game_154 rfl (q := 3) rfl ?_
    refine g_if_ne hC dX11_game_155 (tgt := 163) (by decide) (fun c155 => ?_) (fun c155 => ?_)
    · replace h := (if_neg c155).symm.trans h
      refine g_iload hC dX11_game_163 (q := 5) rfl ?_
      cases h
      exact g_xiret hC hE.1 rfl dX11_game_165 (Nat.zero_le _) (Nat.zero_le _) hE.2
    · replace h := (if_pos c155).symm.trans h
      refine g_iload hC dX11_game_158 (q := 4) rfl ?_
      refine g_goto hC dX11_game_160 (tgt := 165) (by decide) ?_
      cases h
      exact g_xiret hC hE.1 rfl dX11_game_165 (Nat.zero_le _) (Nat.zero_le _) hE.2
  · replace h := (if_neg c80).symm.trans h
    refine g_iconst hC dX11_game_83 (v := (0 : Int32)) (by decide) ?_
    refine g_istore hC dX11_game_84 rfl (by decide) (lv' := [(9, .int (0 : Int32)), (0, .ref (mB E + 0)), (1, .int v1), (2, .int v2), (3, .int v3), (4, .int v4), (5, .int v5), (6, .int v6), (7, .int v7), (8, .int v8)]) rfl ?_
    refine g_lv [1, 2, 3, 4, 5, 6, 7, 8, 9, 0] rfl ?_
    exact wo_X11_game_86 hC hW hE k76_ hk76_ Fu (v1) (v2) (v3) (v4) (v5) (v6) (v7) (v8) ((0 : Int32)) (I) h
noncomputable def w_X11_game_76 (Fu : Nat) (R : mRT)  (N : Nat) (v1 : Int32) (v2 : Int32) (v3 : Int32) (v4 : Int32) (v5 : Int32) (v6 : Int32) (v7 : Int32) (v8 : Int32) (I : mIT) : Option ((Int32 × mIT) ⊕ (Nat × mIT)) :=
  loopF (fun self (s : Int32 × Int32 × Int32 × Int32 × Int32 × Int32 × Int32 × Int32 × mIT) => b_X11_game_76 Fu R self s.1 s.2.1 s.2.2.1 s.2.2.2.1 s.2.2.2.2.1 s.2.2.2.2.2.1 s.2.2.2.2.2.2.1 s.2.2.2.2.2.2.2.1 s.2.2.2.2.2.2.2.2) N (v1, v2, v3, v4, v5, v6, v7, v8, I)
theorem wo_X11_game_76 {X : mXT} {E : mEn} {Fu : Nat} {R : mRT} {L : mLT}  (hC : mC X E mX11_game RX11 cX11_game) (hW : mWd R)   {out : (Int32 × mIT) ⊕ (Nat × mIT)} {mc ms : Nat} {post : Option Value → Nat → Nat → mIT → mRT → mLT → Prop} {px : String → Nat → Nat → mIT → mRT → mLT → Prop} (hE : mEx X E mc ms post px ∧ Sum.elim (fun o : Int32 × mIT => post (some (.int (o.1))) 106 1 (o.2) R L) (fun q : Nat × mIT => 1 ≤ mc ∧ 6 ≤ ms ∧ px (xNm q.1) 106 1 q.2 R L) out)  (N : Nat) (v1 : Int32) (v2 : Int32) (v3 : Int32) (v4 : Int32) (v5 : Int32) (v6 : Int32) (v7 : Int32) (v8 : Int32) (I : mIT) (h : w_X11_game_76 Fu R  N v1 v2 v3 v4 v5 v6 v7 v8 I = some out) : mG X E 76 [(0, .ref (mB E + 0)), (1, .int v1), (2, .int v2), (3, .int v3), (4, .int v4), (5, .int v5), (6, .int v6), (7, .int v7), (8, .int v8)] [] 106 1 I R L 0 0 :=
  loopF_ok (Gd := fun s : Int32 × Int32 × Int32 × Int32 × Int32 × Int32 × Int32 × Int32 × mIT => mG X E 76 [(0, .ref (mB E + 0)), (1, .int s.1), (2, .int s.2.1), (3, .int s.2.2.1), (4, .int s.2.2.2.1), (5, .int s.2.2.2.2.1), (6, .int s.2.2.2.2.2.1), (7, .int s.2.2.2.2.2.2.1), (8, .int s.2.2.2.2.2.2.2.1)] [] 106 1 s.2.2.2.2.2.2.2.2 R L 0 0) (fun self hs s h => bo_X11_game_76 hC hW hE self (fun v1 v2 v3 v4 v5 v6 v7 v8 I h => hs (v1, v2, v3, v4, v5, v6, v7, v8, I) h) s.1 s.2.1 s.2.2.1 s.2.2.2.1 s.2.2.2.2.1 s.2.2.2.2.2.1 s.2.2.2.2.2.2.1 s.2.2.2.2.2.2.2.1 s.2.2.2.2.2.2.2.2 h) N (v1, v2, v3, v4, v5, v6, v7, v8, I) h
noncomputable def f_X11_game (Fu : Nat) (R : mRT) (I : mIT) (v1 : Int32) (v2 : Int32) (v3 : Int32) : Option ((Int32 × mIT) ⊕ (Nat × mIT)) :=
  oX (f_X11_checkRoot Fu R I v1) (fun r2 => oX (f_X11_checkRoot Fu R I v2) (fun r7 => oX (f_X11_checkTwo Fu I v3) (fun r12 => if v1 = v2 then (some (.inr (2, I))) else (oB (f_X9_placeOf Fu I 40 v1) (fun r25 => if r25 < 0 then (some (.inr (2, I))) else (oB (f_X9_placeOf Fu I 40 v2) (fun r36 => if 0 ≤ r36 then (oB (f_X11_mostChoice Fu I v1) (fun r61 => oB (f_X11_mostChoice Fu I v2) (fun r68 => w_X11_game_76 Fu R Fu v1 v2 v3 (0 : Int32) (-1 : Int32) r61 r68 (0 : Int32) I))) else (some (.inr (2, I))))))))))
set_option maxRecDepth 20000 in
theorem oy_X11_game {l : Launch} {E : mEn} {Fu : Nat} {I : mIT} {R : mRT} {L : mLT} {v1 : Int32} {v2 : Int32} {v3 : Int32} (hst : l.stackTraces = false) (hW : mWd R)  {out : (Int32 × mIT) ⊕ (Nat × mIT)} (h : f_X11_game Fu R I v1 v2 v3 = some out) {mc ms : Nat} {post : Option Value → Nat → Nat → mIT → mRT → mLT → Prop} {px : String → Nat → Nat → mIT → mRT → mLT → Prop} (ho : Sum.elim (fun o : Int32 × mIT => post (some (.int (o.1))) 106 1 (o.2) R L) (fun q : Nat × mIT => 1 ≤ mc ∧ 6 ≤ ms ∧ px (xNm q.1) 106 1 q.2 R L) out) : mOx l E mX11_game [.ref (mB E + 0), .int v1, .int v2, .int v3] 106 1 I R L mc ms post px := by
  refine mOx_of hst (by decide) (Nat.le_of_ble_eq_true rfl) (fun X hC hE0 _ => ?_)
  have hE : mEx X E mc ms post px ∧ Sum.elim (fun o : Int32 × mIT => post (some (.int (o.1))) 106 1 (o.2) R L) (fun q : Nat × mIT => 1 ≤ mc ∧ 6 ≤ ms ∧ px (xNm q.1) 106 1 q.2 R L) out := ⟨hE0, ho⟩
  have hC : mC X E mX11_game RX11 cX11_game := hC
  show mG X E 0 [(0, .ref (mB E + 0)), (1, .int v1), (2, .int v2), (3, .int v3)] [] 106 1 I R L 0 0
  unfold f_X11_game at h
  refine g_aload_n hC dX11_game_0 rfl (q := 0) rfl ?_
  refine g_iload_n hC dX11_game_1 rfl (q := 1) rfl ?_
  rcases oX_some h with ⟨r2, h2, h⟩ | ⟨q2, h2, h⟩
  case inr =>
    subst h
    have hq : 1 ≤ mc ∧ 6 ≤ ms ∧ px (xNm q2.1) 106 1 q2.2 R L := hE.2
    exact g_cVz hC hE.1 cv_X11_checkRoot wd_1183 ⟨Nat.le_of_ble_eq_true rfl, Nat.le_of_ble_eq_true rfl⟩ rfl (by decide) dX11_game_2 (As := [.int v1]) (st := []) (ox_X11_checkRoot hC.2.2.2.2.2.2.2.1 hW h2) rfl rfl (Nat.le_of_ble_eq_true rfl) ⟨by omega, by omega⟩ hq.2.2
  refine g_cVy0 hC hE.1 cv_X11_checkRoot wd_1183 ⟨Nat.le_of_ble_eq_true rfl, Nat.le_of_ble_eq_true rfl⟩ rfl (by decide) dX11_game_2 (As := [.int v1]) (st := []) (oi_X11_checkRoot hC.2.2.2.2.2.2.2.1 hW h2) rfl rfl (Nat.le_of_ble_eq_true rfl) ⟨Nat.zero_le _, Nat.zero_le _⟩ ?_
  refine g_aload_n hC dX11_game_5 rfl (q := 0) rfl ?_
  refine g_iload_n hC dX11_game_6 rfl (q := 2) rfl ?_
  rcases oX_some h with ⟨r7, h7, h⟩ | ⟨q7, h7, h⟩
  case inr =>
    subst h
    have hq : 1 ≤ mc ∧ 6 ≤ ms ∧ px (xNm q7.1) 106 1 q7.2 R L := hE.2
    exact g_cVz hC hE.1 cv_X11_checkRoot wd_1183 ⟨Nat.le_of_ble_eq_true rfl, Nat.le_of_ble_eq_true rfl⟩ rfl (by decide) dX11_game_7 (As := [.int v2]) (st := []) (ox_X11_checkRoot hC.2.2.2.2.2.2.2.1 hW h7) rfl rfl (Nat.le_of_ble_eq_true rfl) ⟨by omega, by omega⟩ hq.2.2
  refine g_cVy0 hC hE.1 cv_X11_checkRoot wd_1183 ⟨Nat.le_of_ble_eq_true rfl, Nat.le_of_ble_eq_true rfl⟩ rfl (by decide) dX11_game_7 (As := [.int v2]) (st := []) (oi_X11_checkRoot hC.2.2.2.2.2.2.2.1 hW h7) rfl rfl (Nat.le_of_ble_eq_true rfl) ⟨Nat.zero_le _, Nat.zero_le _⟩ ?_
  refine g_aload_n hC dX11_game_10 rfl (q := 0) rfl ?_
  refine g_iload_n hC dX11_game_11 rfl (q := 3) rfl ?_
  rcases oX_some h with ⟨r12, h12, h⟩ | ⟨q12, h12, h⟩
  case inr =>
    subst h
    have hq : 1 ≤ mc ∧ 6 ≤ ms ∧ px (xNm q12.1) 106 1 q12.2 R L := hE.2
    exact g_cVz hC hE.1 cv_X11_checkTwo wd_1445 ⟨Nat.le_of_ble_eq_true rfl, Nat.le_of_ble_eq_true rfl⟩ rfl (by decide) dX11_game_12 (As := [.int v3]) (st := []) (ox_X11_checkTwo hC.2.2.2.2.2.2.2.1 hW h12) rfl rfl (Nat.le_of_ble_eq_true rfl) ⟨by omega, by omega⟩ hq.2.2
  refine g_cVy0 hC hE.1 cv_X11_checkTwo wd_1445 ⟨Nat.le_of_ble_eq_true rfl, Nat.le_of_ble_eq_true rfl⟩ rfl (by decide) dX11_game_12 (As := [.int v3]) (st := []) (oi_X11_checkTwo hC.2.2.2.2.2.2.2.1 hW h12) rfl rfl (Nat.le_of_ble_eq_true rfl) ⟨Nat.zero_le _, Nat.zero_le _⟩ ?_
  refine g_iload_n hC dX11_game_15 rfl (q := 1) rfl ?_
  refine g_iload_n hC dX11_game_16 rfl (q := 2) rfl ?_
  refine g_ic_eq hC dX11_game_17 (tgt := 42) (by decide) (fun c17 => ?_) (fun c17 => ?_)
  · replace h := (if_pos c17).symm.trans h
    cases h
    have hq : 1 ≤ mc ∧ 6 ≤ ms ∧ px (xNm 2) 106 1 I R L := hE.2
    exact g_thrw hC hE.1 tw_RX11_108 (j := 32) rfl dX11_game_42 dX11_game_45 dX11_game_46 dX11_game_49 dX11_game_52 (Nat.le_of_ble_eq_true rfl) (Nat.le_of_ble_eq_true rfl) (by decide) hq.1 hq.2.1 hq.2.2
  · replace h := (if_neg c17).symm.trans h
    refine g_aload_n hC dX11_game_20 rfl (q := 0) rfl ?_
    refine g_getr hC fd_RX11_34 rfl (by decide) (C0 := _) (t0 := .int) (Or.inl rfl) (rr_0_4 hW.1) dX11_game_21 ?_
    refine g_iload_n hC dX11_game_24 rfl (q := 1) rfl ?_
    obtain ⟨r25, h25, h⟩ := oB_some h
    refine g_cV1 hC cv_X9_placeOf wd_719 ⟨Nat.le_of_ble_eq_true rfl, Nat.le_of_ble_eq_true rfl⟩ rfl (by decide) dX11_game_25 (As := [.int v1]) (st := []) (ok_X9_placeOf hC.2.2.2.2.2.2.2.1 (ob_40 hW.1) h25) rfl rfl (Nat.le_of_ble_eq_true rfl) ⟨Nat.zero_le _, Nat.zero_le _⟩ ?_
    refine g_if_lt hC dX11_game_28 (tgt := 42) (by decide) (fun c28 => ?_) (fun c28 => ?_)
    · replace h := (if_pos c28).symm.trans h
      cases h
      have hq : 1 ≤ mc ∧ 6 ≤ ms ∧ px (xNm 2) 106 1 I R L := hE.2
      exact g_thrw hC hE.1 tw_RX11_108 (j := 32) rfl dX11_game_42 dX11_game_45 dX11_game_46 dX11_game_49 dX11_game_52 (Nat.le_of_ble_eq_true rfl) (Nat.le_of_ble_eq_true rfl) (by decide) hq.1 hq.2.1 hq.2.2
    · replace h := (if_neg c28).symm.trans h
      refine g_aload_n hC dX11_game_31 rfl (q := 0) rfl ?_
      refine g_getr hC fd_RX11_34 rfl (by decide) (C0 := _) (t0 := .int) (Or.inl rfl) (rr_0_4 hW.1) dX11_game_32 ?_
      refine g_iload_n hC dX11_game_35 rfl (q := 2) rfl ?_
      obtain ⟨r36, h36, h⟩ := oB_some h
      refine g_cV1 hC cv_X9_placeOf wd_719 ⟨Nat.le_of_ble_eq_true rfl, Nat.le_of_ble_eq_true rfl⟩ rfl (by decide) dX11_game_36 (As := [.int v2]) (st := []) (ok_X9_placeOf hC.2.2.2.2.2.2.2.1 (ob_40 hW.1) h36) rfl rfl (Nat.le_of_ble_eq_true rfl) ⟨Nat.zero_le _, Nat.zero_le _⟩ ?_
      refine g_if_ge hC dX11_game_39 (tgt := 53) (by decide) (fun c39 => ?_) (fun c39 => ?_)
      · replace h := (if_pos c39).symm.trans h
        refine g_iconst hC dX11_game_53 (v := (0 : Int32)) (by decide) ?_
        refine g_istore hC dX11_game_54 rfl (by decide) (lv' := [(4, .int (0 : Int32)), (0, .ref (mB E + 0)), (1, .int v1), (2, .int v2), (3, .int v3)]) rfl ?_
        refine g_iconst hC dX11_game_56 (v := (-1 : Int32)) (by decide) ?_
        refine g_istore hC dX11_game_57 rfl (by decide) (lv' := [(5, .int (-1 : Int32)), (4, .int (0 : Int32)), (0, .ref (mB E + 0)), (1, .int v1), (2, .int v2), (3, .int v3)]) rfl ?_
        refine g_aload_n hC dX11_game_59 rfl (q := 2) rfl ?_
        refine g_iload_n hC dX11_game_60 rfl (q := 3) rfl ?_
        obtain ⟨r61, h61, h⟩ := oB_some h
        refine g_cV1 hC cv_X11_mostChoice wd_1479 ⟨Nat.le_of_ble_eq_true rfl, Nat.le_of_ble_eq_true rfl⟩ rfl (by decide) dX11_game_61 (As := [.int v1]) (st := []) (ok_X11_mostChoice hC.2.2.2.2.2.2.2.1 hW h61) rfl rfl (Nat.le_of_ble_eq_true rfl) ⟨Nat.zero_le _, Nat.zero_le _⟩ ?_
        refine g_istore hC dX11_game_64 rfl (by decide) (lv' := [(6, .int r61), (5, .int (-1 : Int32)), (4, .int (0 : Int32)), (0, .ref (mB E + 0)), (1, .int v1), (2, .int v2), (3, .int v3)]) rfl ?_
        refine g_aload_n hC dX11_game_66 rfl (q := 3) rfl ?_
        refine g_iload_n hC dX11_game_67 rfl (q := 5) rfl ?_
        obtain ⟨r68, h68, h⟩ := oB_some h
        refine g_cV1 hC cv_X11_mostChoice wd_1479 ⟨Nat.le_of_ble_eq_true rfl, Nat.le_of_ble_eq_true rfl⟩ rfl (by decide) dX11_game_68 (As := [.int v2]) (st := []) (ok_X11_mostChoice hC.2.2.2.2.2.2.2.1 hW h68) rfl rfl (Nat.le_of_ble_eq_true rfl) ⟨Nat.zero_le _, Nat.zero_le _⟩ ?_
        refine g_istore hC dX11_game_71 rfl (by decide) (lv' := [(7, .int r68), (6, .int r61), (5, .int (-1 : Int32)), (4, .int (0 : Int32)), (0, .ref (mB E + 0)), (1, .int v1), (2, .int v2), (3, .int v3)]) rfl ?_
        refine g_iconst hC dX11_game_73 (v := (0 : Int32)) (by decide) ?_
        refine g_istore hC dX11_game_74 rfl (by decide) (lv' := [(8, .int (0 : Int32)), (7, .int r68), (6, .int r61), (5, .int (-1 : Int32)), (4, .int (0 : Int32)), (0, .ref (mB E + 0)), (1, .int v1), (2, .int v2), (3, .int v3)]) rfl ?_
        refine g_lv [5, 6, 7, 8, 4, 3, 2, 1, 0] rfl ?_
        exact wo_X11_game_76 hC hW hE Fu (v1) (v2) (v3) ((0 : Int32)) ((-1 : Int32)) (r61) (r68) ((0 : Int32)) (I) h
      · replace h := (if_neg c39).symm.trans h
        cases h
        have hq : 1 ≤ mc ∧ 6 ≤ ms ∧ px (xNm 2) 106 1 I R L := hE.2
        exact g_thrw hC hE.1 tw_RX11_108 (j := 32) rfl dX11_game_42 dX11_game_45 dX11_game_46 dX11_game_49 dX11_game_52 (Nat.le_of_ble_eq_true rfl) (Nat.le_of_ble_eq_true rfl) (by decide) hq.1 hq.2.1 hq.2.2
theorem oi_X11_game {l : Launch} {E : mEn} {Fu : Nat} {I : mIT} {R : mRT} {L : mLT} {v1 : Int32} {v2 : Int32} {v3 : Int32} (hst : l.stackTraces = false) (hW : mWd R)  {out : Int32 × mIT} (h : f_X11_game Fu R I v1 v2 v3 = some (.inl out)) : mOx l E mX11_game [.ref (mB E + 0), .int v1, .int v2, .int v3] 106 1 I R L 0 0 (mSame (some (.int (out.1))) 106 1 (out.2) R L) (fun _ _ _ _ _ _ => False) := oy_X11_game hst hW h ⟨rfl, rfl, rfl, rfl, rfl, rfl⟩
theorem ox_X11_game {l : Launch} {E : mEn} {Fu : Nat} {I : mIT} {R : mRT} {L : mLT} {v1 : Int32} {v2 : Int32} {v3 : Int32} (hst : l.stackTraces = false) (hW : mWd R)  {q : Nat × mIT} (h : f_X11_game Fu R I v1 v2 v3 = some (.inr q)) : mOx l E mX11_game [.ref (mB E + 0), .int v1, .int v2, .int v3] 106 1 I R L 1 6 (fun _ _ _ _ _ _ => False) (mXp q.1 106 1 q.2 R L) := oy_X11_game hst hW h ⟨Nat.le_refl _, Nat.le_refl _, rfl, rfl, rfl, rfl, rfl, rfl⟩
noncomputable def b_X11_goingOf_15 (Fu : Nat) (I : mIT) (k15_ : Int32 × Int32 → Option (Int32)) (v1 : Int32) (v2 : Int32) : Option (Int32) :=
  if (60 : Int32) < v2 then (some (-1 : Int32)) else (oB (f_X1_soundingOn Fu I v2) (fun r26 => if ((r26 >>> (v1 &&& 31)) &&& (1 : Int32)) = 0 then (some (v2)) else (k15_ (v1, (v2 + (1 : Int32))))))
set_option maxRecDepth 20000 in
theorem bo_X11_goingOf_15 {X : mXT} {E : mEn} {Fu : Nat} {I : mIT} {R : mRT} {L : mLT}  (hC : mC X E mX11_goingOf RX11 cX11_goingOf) (hW : mWd R)   {out : Int32} (hE : mEd X E 0 0 (mSame (some (.int (out))) 106 1 I R L)) (k15_ : Int32 × Int32 → Option (Int32)) (hk15_ : ∀ (v1 : Int32) (v2 : Int32),  k15_ (v1, v2) = some out → mG X E 15 [(0, .ref (mB E + 0)), (1, .int v1), (2, .int v2)] [] 106 1 I R L 0 0) (v1 : Int32) (v2 : Int32) (h : b_X11_goingOf_15 Fu I k15_ v1 v2 = some out) : mG X E 15 [(0, .ref (mB E + 0)), (1, .int v1), (2, .int v2)] [] 106 1 I R L 0 0 := by
  unfold b_X11_goingOf_15 at h
  refine g_iload_n hC dX11_goingOf_15 rfl (q := 2) rfl ?_
  refine g_bipush hC dX11_goingOf_16 (v := (60 : Int32)) (by decide) ?_
  refine g_ic_gt hC dX11_goingOf_18 (tgt := 44) (by decide) (fun c18 => ?_) (fun c18 => ?_)
  · replace h := (if_pos c18).symm.trans h
    refine g_iconst hC dX11_goingOf_44 (v := (-1 : Int32)) (by decide) ?_
    cases h
    exact g_iret hC hE rfl dX11_goingOf_45 (Nat.zero_le _) (Nat.zero_le _) ⟨rfl, rfl, rfl, rfl, rfl, rfl⟩
  · replace h := (if_neg c18).symm.trans h
    refine g_aload_n hC dX11_goingOf_21 rfl (q := 0) rfl ?_
    refine g_getr hC fd_RX11_68 rfl (by decide) (C0 := _) (t0 := .int) (Or.inl rfl) (rr_0_11 hW.1) dX11_goingOf_22 ?_
    refine g_iload_n hC dX11_goingOf_25 rfl (q := 2) rfl ?_
    obtain ⟨r26, h26, h⟩ := oB_some h
    refine g_cV1 hC cv_X1_soundingOn wd_695 ⟨Nat.le_of_ble_eq_true rfl, Nat.le_of_ble_eq_true rfl⟩ rfl (by decide) dX11_goingOf_26 (As := [.int v2]) (st := []) (ok_X1_soundingOn hC.2.2.2.2.2.2.2.1 hW h26) rfl rfl (Nat.le_of_ble_eq_true rfl) ⟨Nat.zero_le _, Nat.zero_le _⟩ ?_
    refine g_iload_n hC dX11_goingOf_29 rfl (q := 1) rfl ?_
    refine g_ishr hC dX11_goingOf_30 ?_
    refine g_iconst hC dX11_goingOf_31 (v := (1 : Int32)) (by decide) ?_
    refine g_iand hC dX11_goingOf_32 ?_
    refine g_if_ne hC dX11_goingOf_33 (tgt := 38) (by decide) (fun c33 => ?_) (fun c33 => ?_)
    · replace h := (if_neg c33).symm.trans h
      refine g_iinc hC dX11_goingOf_38 rfl (q := 2) rfl (w := (v2 + (1 : Int32))) rfl (by decide) (lv' := [(2, .int (v2 + (1 : Int32))), (0, .ref (mB E + 0)), (1, .int v1)]) rfl ?_
      refine g_goto hC dX11_goingOf_41 (tgt := 15) (by decide) ?_
      refine g_lv [1, 2, 0] rfl ?_
      exact hk15_ v1 (v2 + (1 : Int32)) h
    · replace h := (if_pos c33).symm.trans h
      refine g_iload_n hC dX11_goingOf_36 rfl (q := 2) rfl ?_
      cases h
      exact g_iret hC hE rfl dX11_goingOf_37 (Nat.zero_le _) (Nat.zero_le _) ⟨rfl, rfl, rfl, rfl, rfl, rfl⟩
noncomputable def w_X11_goingOf_15 (Fu : Nat) (I : mIT)  (N : Nat) (v1 : Int32) (v2 : Int32) : Option (Int32) :=
  loopF (fun self (s : Int32 × Int32) => b_X11_goingOf_15 Fu I self s.1 s.2) N (v1, v2)
theorem wo_X11_goingOf_15 {X : mXT} {E : mEn} {Fu : Nat} {I : mIT} {R : mRT} {L : mLT}  (hC : mC X E mX11_goingOf RX11 cX11_goingOf) (hW : mWd R)   {out : Int32} (hE : mEd X E 0 0 (mSame (some (.int (out))) 106 1 I R L))  (N : Nat) (v1 : Int32) (v2 : Int32) (h : w_X11_goingOf_15 Fu I  N v1 v2 = some out) : mG X E 15 [(0, .ref (mB E + 0)), (1, .int v1), (2, .int v2)] [] 106 1 I R L 0 0 :=
  loopF_ok (Gd := fun s : Int32 × Int32 => mG X E 15 [(0, .ref (mB E + 0)), (1, .int s.1), (2, .int s.2)] [] 106 1 I R L 0 0) (fun self hs s h => bo_X11_goingOf_15 hC hW hE self (fun v1 v2 h => hs (v1, v2) h) s.1 s.2 h) N (v1, v2) h
noncomputable def f_X11_goingOf (Fu : Nat) (I : mIT) (v1 : Int32) : Option (Int32) :=
  oB (f_X9_placeOf Fu I 40 v1) (fun r5 => if 0 ≤ r5 then (w_X11_goingOf_15 Fu I Fu v1 (0 : Int32)) else (some (-1 : Int32)))
set_option maxRecDepth 20000 in
theorem ok_X11_goingOf {l : Launch} {E : mEn} {Fu : Nat} {I : mIT} {R : mRT} {L : mLT} {v1 : Int32} (hst : l.stackTraces = false) (hW : mWd R)  {out : Int32} (h : f_X11_goingOf Fu I v1 = some out) : mOk l E mX11_goingOf [.ref (mB E + 0), .int v1] 106 1 I R L 0 0 (mSame (some (.int (out))) 106 1 I R L) := by
  refine mOk_of hst (by decide) (Nat.le_of_ble_eq_true rfl) (fun X hC hE _ => ?_)
  have hC : mC X E mX11_goingOf RX11 cX11_goingOf := hC
  show mG X E 0 [(0, .ref (mB E + 0)), (1, .int v1)] [] 106 1 I R L 0 0
  unfold f_X11_goingOf at h
  refine g_aload_n hC dX11_goingOf_0 rfl (q := 0) rfl ?_
  refine g_getr hC fd_RX11_34 rfl (by decide) (C0 := _) (t0 := .int) (Or.inl rfl) (rr_0_4 hW.1) dX11_goingOf_1 ?_
  refine g_iload_n hC dX11_goingOf_4 rfl (q := 1) rfl ?_
  obtain ⟨r5, h5, h⟩ := oB_some h
  refine g_cV1 hC cv_X9_placeOf wd_719 ⟨Nat.le_of_ble_eq_true rfl, Nat.le_of_ble_eq_true rfl⟩ rfl (by decide) dX11_goingOf_5 (As := [.int v1]) (st := []) (ok_X9_placeOf hC.2.2.2.2.2.2.2.1 (ob_40 hW.1) h5) rfl rfl (Nat.le_of_ble_eq_true rfl) ⟨Nat.zero_le _, Nat.zero_le _⟩ ?_
  refine g_if_ge hC dX11_goingOf_8 (tgt := 13) (by decide) (fun c8 => ?_) (fun c8 => ?_)
  · replace h := (if_pos c8).symm.trans h
    refine g_iconst hC dX11_goingOf_13 (v := (0 : Int32)) (by decide) ?_
    refine g_istore_n hC dX11_goingOf_14 rfl rfl (by decide) (lv' := [(2, .int (0 : Int32)), (0, .ref (mB E + 0)), (1, .int v1)]) rfl ?_
    refine g_lv [1, 2, 0] rfl ?_
    exact wo_X11_goingOf_15 hC hW hE Fu (v1) ((0 : Int32)) h
  · replace h := (if_neg c8).symm.trans h
    refine g_iconst hC dX11_goingOf_11 (v := (-1 : Int32)) (by decide) ?_
    cases h
    exact g_iret hC hE rfl dX11_goingOf_12 (Nat.zero_le _) (Nat.zero_le _) ⟨rfl, rfl, rfl, rfl, rfl, rfl⟩
noncomputable def f_X11_goes (Fu : Nat) (R : mRT) (I : mIT) (v1 : Int32) : Option ((Int32 × mIT) ⊕ (Nat × mIT)) :=
  oX (f_X11_checkRoot Fu R I v1) (fun r2 => oB (R 0 3) (fun p10 => oB (f_X1_layTo Fu I p10 40 (60 : Int32)) (fun r19 => oB (f_X11_goingOf Fu r19 v1) (fun r24 => some (.inl (r24, r19))))))
set_option maxRecDepth 20000 in
theorem oy_X11_goes {l : Launch} {E : mEn} {Fu : Nat} {I : mIT} {R : mRT} {L : mLT} {v1 : Int32} (hst : l.stackTraces = false) (hW : mWd R)  {out : (Int32 × mIT) ⊕ (Nat × mIT)} (h : f_X11_goes Fu R I v1 = some out) {mc ms : Nat} {post : Option Value → Nat → Nat → mIT → mRT → mLT → Prop} {px : String → Nat → Nat → mIT → mRT → mLT → Prop} (ho : Sum.elim (fun o : Int32 × mIT => post (some (.int (o.1))) 106 1 (o.2) R L) (fun q : Nat × mIT => 1 ≤ mc ∧ 6 ≤ ms ∧ px (xNm q.1) 106 1 q.2 R L) out) : mOx l E mX11_goes [.ref (mB E + 0), .int v1] 106 1 I R L mc ms post px := by
  refine mOx_of hst (by decide) (Nat.le_of_ble_eq_true rfl) (fun X hC hE0 _ => ?_)
  have hE : mEx X E mc ms post px ∧ Sum.elim (fun o : Int32 × mIT => post (some (.int (o.1))) 106 1 (o.2) R L) (fun q : Nat × mIT => 1 ≤ mc ∧ 6 ≤ ms ∧ px (xNm q.1) 106 1 q.2 R L) out := ⟨hE0, ho⟩
  have hC : mC X E mX11_goes RX11 cX11_goes := hC
  show mG X E 0 [(0, .ref (mB E + 0)), (1, .int v1)] [] 106 1 I R L 0 0
  unfold f_X11_goes at h
  refine g_aload_n hC dX11_goes_0 rfl (q := 0) rfl ?_
  refine g_iload_n hC dX11_goes_1 rfl (q := 1) rfl ?_
  rcases oX_some h with ⟨r2, h2, h⟩ | ⟨q2, h2, h⟩
  case inr =>
    subst h
    have hq : 1 ≤ mc ∧ 6 ≤ ms ∧ px (xNm q2.1) 106 1 q2.2 R L := hE.2
    exact g_cVz hC hE.1 cv_X11_checkRoot wd_1183 ⟨Nat.le_of_ble_eq_true rfl, Nat.le_of_ble_eq_true rfl⟩ rfl (by decide) dX11_goes_2 (As := [.int v1]) (st := []) (ox_X11_checkRoot hC.2.2.2.2.2.2.2.1 hW h2) rfl rfl (Nat.le_of_ble_eq_true rfl) ⟨by omega, by omega⟩ hq.2.2
  refine g_cVy0 hC hE.1 cv_X11_checkRoot wd_1183 ⟨Nat.le_of_ble_eq_true rfl, Nat.le_of_ble_eq_true rfl⟩ rfl (by decide) dX11_goes_2 (As := [.int v1]) (st := []) (oi_X11_checkRoot hC.2.2.2.2.2.2.2.1 hW h2) rfl rfl (Nat.le_of_ble_eq_true rfl) ⟨Nat.zero_le _, Nat.zero_le _⟩ ?_
  refine g_aload_n hC dX11_goes_5 rfl (q := 0) rfl ?_
  refine g_getr hC fd_RX11_68 rfl (by decide) (C0 := _) (t0 := .int) (Or.inl rfl) (rr_0_11 hW.1) dX11_goes_6 ?_
  refine g_aload_n hC dX11_goes_9 rfl (q := 0) rfl ?_
  obtain ⟨p10, e10, h⟩ := oB_some h
  have hp10 : mO5 R p10 := ob5 hW.1 (hW.2.1 p10 e10)
  refine g_getr hC fd_RX11_27 rfl (by decide) (C0 := _) (t0 := .int) (Or.inl rfl) e10 dX11_goes_10 ?_
  refine g_aload_n hC dX11_goes_13 rfl (q := 0) rfl ?_
  refine g_getr hC fd_RX11_34 rfl (by decide) (C0 := _) (t0 := .int) (Or.inl rfl) (rr_0_4 hW.1) dX11_goes_14 ?_
  refine g_bipush hC dX11_goes_17 (v := (60 : Int32)) (by decide) ?_
  obtain ⟨r19, h19, h⟩ := oB_some h
  refine g_cV0 hC cv_X1_layTo wd_664 ⟨Nat.le_of_ble_eq_true rfl, Nat.le_of_ble_eq_true rfl⟩ rfl (by decide) dX11_goes_19 (As := [.ref (mB E + p10), .ref (mB E + 40), .int (60 : Int32)]) (st := []) (ok_X1_layTo hC.2.2.2.2.2.2.2.1 hW hp10 (ob_40 hW.1) h19) rfl rfl (Nat.le_of_ble_eq_true rfl) ⟨Nat.zero_le _, Nat.zero_le _⟩ ?_
  refine g_aload_n hC dX11_goes_22 rfl (q := 0) rfl ?_
  refine g_iload_n hC dX11_goes_23 rfl (q := 1) rfl ?_
  obtain ⟨r24, h24, h⟩ := oB_some h
  refine g_cV1 hC cv_X11_goingOf wd_715 ⟨Nat.le_of_ble_eq_true rfl, Nat.le_of_ble_eq_true rfl⟩ rfl (by decide) dX11_goes_24 (As := [.int v1]) (st := []) (ok_X11_goingOf hC.2.2.2.2.2.2.2.1 hW h24) rfl rfl (Nat.le_of_ble_eq_true rfl) ⟨Nat.zero_le _, Nat.zero_le _⟩ ?_
  cases h
  exact g_xiret hC hE.1 rfl dX11_goes_27 (Nat.zero_le _) (Nat.zero_le _) hE.2
theorem oi_X11_goes {l : Launch} {E : mEn} {Fu : Nat} {I : mIT} {R : mRT} {L : mLT} {v1 : Int32} (hst : l.stackTraces = false) (hW : mWd R)  {out : Int32 × mIT} (h : f_X11_goes Fu R I v1 = some (.inl out)) : mOx l E mX11_goes [.ref (mB E + 0), .int v1] 106 1 I R L 0 0 (mSame (some (.int (out.1))) 106 1 (out.2) R L) (fun _ _ _ _ _ _ => False) := oy_X11_goes hst hW h ⟨rfl, rfl, rfl, rfl, rfl, rfl⟩
theorem ox_X11_goes {l : Launch} {E : mEn} {Fu : Nat} {I : mIT} {R : mRT} {L : mLT} {v1 : Int32} (hst : l.stackTraces = false) (hW : mWd R)  {q : Nat × mIT} (h : f_X11_goes Fu R I v1 = some (.inr q)) : mOx l E mX11_goes [.ref (mB E + 0), .int v1] 106 1 I R L 1 6 (fun _ _ _ _ _ _ => False) (mXp q.1 106 1 q.2 R L) := oy_X11_goes hst hW h ⟨Nat.le_refl _, Nat.le_refl _, rfl, rfl, rfl, rfl, rfl, rfl⟩
noncomputable def f_X11_goingRank (Fu : Nat) (I : mIT) (v1 : Int32) : Option (Int32) :=
  oB (f_X11_goingOf Fu I v1) (fun r2 => if r2 = (-1 : Int32) then (some (((61 : Int32) * (10 : Int32)) + v1)) else (some ((r2 * (10 : Int32)) + v1)))
set_option maxRecDepth 20000 in
theorem ok_X11_goingRank {l : Launch} {E : mEn} {Fu : Nat} {I : mIT} {R : mRT} {L : mLT} {v1 : Int32} (hst : l.stackTraces = false) (hW : mWd R)  {out : Int32} (h : f_X11_goingRank Fu I v1 = some out) : mOk l E mX11_goingRank [.ref (mB E + 0), .int v1] 106 1 I R L 0 0 (mSame (some (.int (out))) 106 1 I R L) := by
  refine mOk_of hst (by decide) (Nat.le_of_ble_eq_true rfl) (fun X hC hE _ => ?_)
  have hC : mC X E mX11_goingRank RX11 cX11_goingRank := hC
  show mG X E 0 [(0, .ref (mB E + 0)), (1, .int v1)] [] 106 1 I R L 0 0
  unfold f_X11_goingRank at h
  refine g_aload_n hC dX11_goingRank_0 rfl (q := 0) rfl ?_
  refine g_iload_n hC dX11_goingRank_1 rfl (q := 1) rfl ?_
  obtain ⟨r2, h2, h⟩ := oB_some h
  refine g_cV1 hC cv_X11_goingOf wd_715 ⟨Nat.le_of_ble_eq_true rfl, Nat.le_of_ble_eq_true rfl⟩ rfl (by decide) dX11_goingRank_2 (As := [.int v1]) (st := []) (ok_X11_goingOf hC.2.2.2.2.2.2.2.1 hW h2) rfl rfl (Nat.le_of_ble_eq_true rfl) ⟨Nat.zero_le _, Nat.zero_le _⟩ ?_
  refine g_istore_n hC dX11_goingRank_5 rfl rfl (by decide) (lv' := [(2, .int r2), (0, .ref (mB E + 0)), (1, .int v1)]) rfl ?_
  refine g_iload_n hC dX11_goingRank_6 rfl (q := 0) rfl ?_
  refine g_iconst hC dX11_goingRank_7 (v := (-1 : Int32)) (by decide) ?_
  refine g_ic_ne hC dX11_goingRank_8 (tgt := 16) (by decide) (fun c8 => ?_) (fun c8 => ?_)
  · replace h := (if_neg c8).symm.trans h
    refine g_iload_n hC dX11_goingRank_16 rfl (q := 0) rfl ?_
    refine g_bipush hC dX11_goingRank_17 (v := (10 : Int32)) (by decide) ?_
    refine g_imul hC dX11_goingRank_19 ?_
    refine g_iload_n hC dX11_goingRank_20 rfl (q := 2) rfl ?_
    refine g_iadd hC dX11_goingRank_21 ?_
    cases h
    exact g_iret hC hE rfl dX11_goingRank_22 (Nat.zero_le _) (Nat.zero_le _) ⟨rfl, rfl, rfl, rfl, rfl, rfl⟩
  · replace h := (if_pos c8).symm.trans h
    refine g_bipush hC dX11_goingRank_11 (v := (61 : Int32)) (by decide) ?_
    refine g_goto hC dX11_goingRank_13 (tgt := 17) (by decide) ?_
    refine g_bipush hC dX11_goingRank_17 (v := (10 : Int32)) (by decide) ?_
    refine g_imul hC dX11_goingRank_19 ?_
    refine g_iload_n hC dX11_goingRank_20 rfl (q := 2) rfl ?_
    refine g_iadd hC dX11_goingRank_21 ?_
    cases h
    exact g_iret hC hE rfl dX11_goingRank_22 (Nat.zero_le _) (Nat.zero_le _) ⟨rfl, rfl, rfl, rfl, rfl, rfl⟩
noncomputable def b_X11_goingBefore_12 (Fu : Nat) (R : mRT) (I : mIT) (k12_ : Int32 × Int32 × Int32 × Int32 → Option (Int32)) (v2 : Int32) (v3 : Int32) (v4 : Int32) (v5 : Int32) : Option (Int32) :=
  oB (R 0 3) (fun p15 => if (I p15 3) ≤ v5 then (some (v4)) else (if ((v2 >>> (v5 &&& 31)) &&& (1 : Int32)) = (1 : Int32) then (oB (f_X11_goingRank Fu I v5) (fun r37 => if v3 ≤ r37 then (k12_ (v2, v3, v4, (v5 + (1 : Int32)))) else (k12_ (v2, v3, (v4 + (1 : Int32)), (v5 + (1 : Int32)))))) else (k12_ (v2, v3, v4, (v5 + (1 : Int32))))))
set_option maxRecDepth 20000 in
theorem bo_X11_goingBefore_12 {X : mXT} {E : mEn} {Fu : Nat} {I : mIT} {R : mRT} {L : mLT}  (hC : mC X E mX11_goingBefore RX11 cX11_goingBefore) (hW : mWd R)   {out : Int32} (hE : mEd X E 0 0 (mSame (some (.int (out))) 106 1 I R L)) (k12_ : Int32 × Int32 × Int32 × Int32 → Option (Int32)) (hk12_ : ∀ (v2 : Int32) (v3 : Int32) (v4 : Int32) (v5 : Int32),  k12_ (v2, v3, v4, v5) = some out → mG X E 12 [(0, .ref (mB E + 0)), (2, .int v2), (3, .int v3), (4, .int v4), (5, .int v5)] [] 106 1 I R L 0 0) (v2 : Int32) (v3 : Int32) (v4 : Int32) (v5 : Int32) (h : b_X11_goingBefore_12 Fu R I k12_ v2 v3 v4 v5 = some out) : mG X E 12 [(0, .ref (mB E + 0)), (2, .int v2), (3, .int v3), (4, .int v4), (5, .int v5)] [] 106 1 I R L 0 0 := by
  unfold b_X11_goingBefore_12 at h
  refine g_iload hC dX11_goingBefore_12 (q := 4) rfl ?_
  refine g_aload_n hC dX11_goingBefore_14 rfl (q := 0) rfl ?_
  obtain ⟨p15, e15, h⟩ := oB_some h
  have hp15 : mO5 R p15 := ob5 hW.1 (hW.2.1 p15 e15)
  refine g_getr hC fd_RX11_27 rfl (by decide) (C0 := _) (t0 := .int) (Or.inl rfl) e15 dX11_goingBefore_15 ?_
  refine g_geti hC fd_RX11_140 hp15.2.1 hp15.1 (Or.inl rfl) dX11_goingBefore_18 ?_
  refine g_ic_ge hC dX11_goingBefore_21 (tgt := 53) (by decide) (fun c21 => ?_) (fun c21 => ?_)
  · replace h := (if_pos c21).symm.trans h
    refine g_iload hC dX11_goingBefore_53 (q := 3) rfl ?_
    cases h
    exact g_iret hC hE rfl dX11_goingBefore_55 (Nat.zero_le _) (Nat.zero_le _) ⟨rfl, rfl, rfl, rfl, rfl, rfl⟩
  · replace h := (if_neg c21).symm.trans h
    refine g_iload_n hC dX11_goingBefore_24 rfl (q := 1) rfl ?_
    refine g_iload hC dX11_goingBefore_25 (q := 4) rfl ?_
    refine g_ishr hC dX11_goingBefore_27 ?_
    refine g_iconst hC dX11_goingBefore_28 (v := (1 : Int32)) (by decide) ?_
    refine g_iand hC dX11_goingBefore_29 ?_
    refine g_iconst hC dX11_goingBefore_30 (v := (1 : Int32)) (by decide) ?_
    refine g_ic_ne hC dX11_goingBefore_31 (tgt := 47) (by decide) (fun c31 => ?_) (fun c31 => ?_)
    · replace h := (if_neg c31).symm.trans h
      refine g_iinc hC dX11_goingBefore_47 rfl (q := 4) rfl (w := (v5 + (1 : Int32))) rfl (by decide) (lv' := [(5, .int (v5 + (1 : Int32))), (0, .ref (mB E + 0)), (2, .int v2), (3, .int v3), (4, .int v4)]) rfl ?_
      refine g_goto hC dX11_goingBefore_50 (tgt := 12) (by decide) ?_
      refine g_lv [1, 2, 3, 4, 0] rfl ?_
      exact hk12_ v2 v3 v4 (v5 + (1 : Int32)) h
    · replace h := (if_pos c31).symm.trans h
      refine g_aload_n hC dX11_goingBefore_34 rfl (q := 0) rfl ?_
      refine g_iload hC dX11_goingBefore_35 (q := 4) rfl ?_
      obtain ⟨r37, h37, h⟩ := oB_some h
      refine g_cV1 hC cv_X11_goingRank wd_1319 ⟨Nat.le_of_ble_eq_true rfl, Nat.le_of_ble_eq_true rfl⟩ rfl (by decide) dX11_goingBefore_37 (As := [.int v5]) (st := []) (ok_X11_goingRank hC.2.2.2.2.2.2.2.1 hW h37) rfl rfl (Nat.le_of_ble_eq_true rfl) ⟨Nat.zero_le _, Nat.zero_le _⟩ ?_
      refine g_iload_n hC dX11_goingBefore_40 rfl (q := 2) rfl ?_
      refine g_ic_ge hC dX11_goingBefore_41 (tgt := 47) (by decide) (fun c41 => ?_) (fun c41 => ?_)
      · replace h := (if_pos c41).symm.trans h
        refine g_iinc hC dX11_goingBefore_47 rfl (q := 4) rfl (w := (v5 + (1 : Int32))) rfl (by decide) (lv' := [(5, .int (v5 + (1 : Int32))), (0, .ref (mB E + 0)), (2, .int v2), (3, .int v3), (4, .int v4)]) rfl ?_
        refine g_goto hC dX11_goingBefore_50 (tgt := 12) (by decide) ?_
        refine g_lv [1, 2, 3, 4, 0] rfl ?_
        exact hk12_ v2 v3 v4 (v5 + (1 : Int32)) h
      · replace h := (if_neg c41).symm.trans h
        refine g_iinc hC dX11_goingBefore_44 rfl (q := 3) rfl (w := (v4 + (1 : Int32))) rfl (by decide) (lv' := [(4, .int (v4 + (1 : Int32))), (0, .ref (mB E + 0)), (2, .int v2), (3, .int v3), (5, .int v5)]) rfl ?_
        refine g_iinc hC dX11_goingBefore_47 rfl (q := 4) rfl (w := (v5 + (1 : Int32))) rfl (by decide) (lv' := [(5, .int (v5 + (1 : Int32))), (4, .int (v4 + (1 : Int32))), (0, .ref (mB E + 0)), (2, .int v2), (3, .int v3)]) rfl ?_
        refine g_goto hC dX11_goingBefore_50 (tgt := 12) (by decide) ?_
        refine g_lv [2, 3, 4, 1, 0] rfl ?_
        exact hk12_ v2 v3 (v4 + (1 : Int32)) (v5 + (1 : Int32)) h
noncomputable def w_X11_goingBefore_12 (Fu : Nat) (R : mRT) (I : mIT)  (N : Nat) (v2 : Int32) (v3 : Int32) (v4 : Int32) (v5 : Int32) : Option (Int32) :=
  loopF (fun self (s : Int32 × Int32 × Int32 × Int32) => b_X11_goingBefore_12 Fu R I self s.1 s.2.1 s.2.2.1 s.2.2.2) N (v2, v3, v4, v5)
theorem wo_X11_goingBefore_12 {X : mXT} {E : mEn} {Fu : Nat} {I : mIT} {R : mRT} {L : mLT}  (hC : mC X E mX11_goingBefore RX11 cX11_goingBefore) (hW : mWd R)   {out : Int32} (hE : mEd X E 0 0 (mSame (some (.int (out))) 106 1 I R L))  (N : Nat) (v2 : Int32) (v3 : Int32) (v4 : Int32) (v5 : Int32) (h : w_X11_goingBefore_12 Fu R I  N v2 v3 v4 v5 = some out) : mG X E 12 [(0, .ref (mB E + 0)), (2, .int v2), (3, .int v3), (4, .int v4), (5, .int v5)] [] 106 1 I R L 0 0 :=
  loopF_ok (Gd := fun s : Int32 × Int32 × Int32 × Int32 => mG X E 12 [(0, .ref (mB E + 0)), (2, .int s.1), (3, .int s.2.1), (4, .int s.2.2.1), (5, .int s.2.2.2)] [] 106 1 I R L 0 0) (fun self hs s h => bo_X11_goingBefore_12 hC hW hE self (fun v2 v3 v4 v5 h => hs (v2, v3, v4, v5) h) s.1 s.2.1 s.2.2.1 s.2.2.2 h) N (v2, v3, v4, v5) h
noncomputable def f_X11_goingBefore (Fu : Nat) (R : mRT) (I : mIT) (v1 : Int32) (v2 : Int32) : Option (Int32) :=
  oB (f_X11_goingRank Fu I v1) (fun r2 => w_X11_goingBefore_12 Fu R I Fu v2 r2 (0 : Int32) (0 : Int32))
set_option maxRecDepth 20000 in
theorem ok_X11_goingBefore {l : Launch} {E : mEn} {Fu : Nat} {I : mIT} {R : mRT} {L : mLT} {v1 : Int32} {v2 : Int32} (hst : l.stackTraces = false) (hW : mWd R)  {out : Int32} (h : f_X11_goingBefore Fu R I v1 v2 = some out) : mOk l E mX11_goingBefore [.ref (mB E + 0), .int v1, .int v2] 106 1 I R L 0 0 (mSame (some (.int (out))) 106 1 I R L) := by
  refine mOk_of hst (by decide) (Nat.le_of_ble_eq_true rfl) (fun X hC hE _ => ?_)
  have hC : mC X E mX11_goingBefore RX11 cX11_goingBefore := hC
  show mG X E 0 [(0, .ref (mB E + 0)), (1, .int v1), (2, .int v2)] [] 106 1 I R L 0 0
  unfold f_X11_goingBefore at h
  refine g_aload_n hC dX11_goingBefore_0 rfl (q := 0) rfl ?_
  refine g_iload_n hC dX11_goingBefore_1 rfl (q := 1) rfl ?_
  obtain ⟨r2, h2, h⟩ := oB_some h
  refine g_cV1 hC cv_X11_goingRank wd_1319 ⟨Nat.le_of_ble_eq_true rfl, Nat.le_of_ble_eq_true rfl⟩ rfl (by decide) dX11_goingBefore_2 (As := [.int v1]) (st := []) (ok_X11_goingRank hC.2.2.2.2.2.2.2.1 hW h2) rfl rfl (Nat.le_of_ble_eq_true rfl) ⟨Nat.zero_le _, Nat.zero_le _⟩ ?_
  refine g_istore_n hC dX11_goingBefore_5 rfl rfl (by decide) (lv' := [(3, .int r2), (0, .ref (mB E + 0)), (1, .int v1), (2, .int v2)]) rfl ?_
  refine g_iconst hC dX11_goingBefore_6 (v := (0 : Int32)) (by decide) ?_
  refine g_istore hC dX11_goingBefore_7 rfl (by decide) (lv' := [(4, .int (0 : Int32)), (3, .int r2), (0, .ref (mB E + 0)), (1, .int v1), (2, .int v2)]) rfl ?_
  refine g_iconst hC dX11_goingBefore_9 (v := (0 : Int32)) (by decide) ?_
  refine g_istore hC dX11_goingBefore_10 rfl (by decide) (lv' := [(5, .int (0 : Int32)), (4, .int (0 : Int32)), (3, .int r2), (0, .ref (mB E + 0)), (1, .int v1), (2, .int v2)]) rfl ?_
  refine g_lv [3, 5, 2, 1, 0] rfl ?_
  exact wo_X11_goingBefore_12 hC hW hE Fu (v2) (r2) ((0 : Int32)) ((0 : Int32)) h
noncomputable def b_X11_grown_26 (Fu : Nat) (R : mRT) (k26_ : Int32 × Int32 × Int32 × mIT → Option ((Int32 × mIT) ⊕ (Nat × mIT))) (v1 : Int32) (v2 : Int32) (v3 : Int32) (I : mIT) : Option ((Int32 × mIT) ⊕ (Nat × mIT)) :=
  if (60 : Int32) < v3 then (some (.inl ((-1 : Int32), I))) else (oB (R 0 3) (fun p37 => oB (f_X1_layTo Fu I p37 40 v3) (fun r45 => oB (f_X1_noteOn Fu r45 v3 v1) (fun r54 => if r54 = v2 then (some (.inl (v3, r45))) else (k26_ (v1, v2, (v3 + (1 : Int32)), r45))))))
set_option maxRecDepth 20000 in
theorem bo_X11_grown_26 {X : mXT} {E : mEn} {Fu : Nat} {R : mRT} {L : mLT}  (hC : mC X E mX11_grown RX11 cX11_grown) (hW : mWd R)   {out : (Int32 × mIT) ⊕ (Nat × mIT)} {mc ms : Nat} {post : Option Value → Nat → Nat → mIT → mRT → mLT → Prop} {px : String → Nat → Nat → mIT → mRT → mLT → Prop} (hE : mEx X E mc ms post px ∧ Sum.elim (fun o : Int32 × mIT => post (some (.int (o.1))) 106 1 (o.2) R L) (fun q : Nat × mIT => 1 ≤ mc ∧ 6 ≤ ms ∧ px (xNm q.1) 106 1 q.2 R L) out) (k26_ : Int32 × Int32 × Int32 × mIT → Option ((Int32 × mIT) ⊕ (Nat × mIT))) (hk26_ : ∀ (v1 : Int32) (v2 : Int32) (v3 : Int32) (I : mIT),  k26_ (v1, v2, v3, I) = some out → mG X E 26 [(0, .ref (mB E + 0)), (1, .int v1), (2, .int v2), (3, .int v3)] [] 106 1 I R L 0 0) (v1 : Int32) (v2 : Int32) (v3 : Int32) (I : mIT) (h : b_X11_grown_26 Fu R k26_ v1 v2 v3 I = some out) : mG X E 26 [(0, .ref (mB E + 0)), (1, .int v1), (2, .int v2), (3, .int v3)] [] 106 1 I R L 0 0 := by
  unfold b_X11_grown_26 at h
  refine g_iload_n hC dX11_grown_26 rfl (q := 3) rfl ?_
  refine g_bipush hC dX11_grown_27 (v := (60 : Int32)) (by decide) ?_
  refine g_ic_gt hC dX11_grown_29 (tgt := 69) (by decide) (fun c29 => ?_) (fun c29 => ?_)
  · replace h := (if_pos c29).symm.trans h
    refine g_iconst hC dX11_grown_69 (v := (-1 : Int32)) (by decide) ?_
    cases h
    exact g_xiret hC hE.1 rfl dX11_grown_70 (Nat.zero_le _) (Nat.zero_le _) hE.2
  · replace h := (if_neg c29).symm.trans h
    refine g_aload_n hC dX11_grown_32 rfl (q := 0) rfl ?_
    refine g_getr hC fd_RX11_68 rfl (by decide) (C0 := _) (t0 := .int) (Or.inl rfl) (rr_0_11 hW.1) dX11_grown_33 ?_
    refine g_aload_n hC dX11_grown_36 rfl (q := 0) rfl ?_
    obtain ⟨p37, e37, h⟩ := oB_some h
    have hp37 : mO5 R p37 := ob5 hW.1 (hW.2.1 p37 e37)
    refine g_getr hC fd_RX11_27 rfl (by decide) (C0 := _) (t0 := .int) (Or.inl rfl) e37 dX11_grown_37 ?_
    refine g_aload_n hC dX11_grown_40 rfl (q := 0) rfl ?_
    refine g_getr hC fd_RX11_34 rfl (by decide) (C0 := _) (t0 := .int) (Or.inl rfl) (rr_0_4 hW.1) dX11_grown_41 ?_
    refine g_iload_n hC dX11_grown_44 rfl (q := 3) rfl ?_
    obtain ⟨r45, h45, h⟩ := oB_some h
    refine g_cV0 hC cv_X1_layTo wd_664 ⟨Nat.le_of_ble_eq_true rfl, Nat.le_of_ble_eq_true rfl⟩ rfl (by decide) dX11_grown_45 (As := [.ref (mB E + p37), .ref (mB E + 40), .int v3]) (st := []) (ok_X1_layTo hC.2.2.2.2.2.2.2.1 hW hp37 (ob_40 hW.1) h45) rfl rfl (Nat.le_of_ble_eq_true rfl) ⟨Nat.zero_le _, Nat.zero_le _⟩ ?_
    refine g_aload_n hC dX11_grown_48 rfl (q := 0) rfl ?_
    refine g_getr hC fd_RX11_68 rfl (by decide) (C0 := _) (t0 := .int) (Or.inl rfl) (rr_0_11 hW.1) dX11_grown_49 ?_
    refine g_iload_n hC dX11_grown_52 rfl (q := 3) rfl ?_
    refine g_iload_n hC dX11_grown_53 rfl (q := 1) rfl ?_
    obtain ⟨r54, h54, h⟩ := oB_some h
    refine g_cV1 hC cv_X1_noteOn wd_1293 ⟨Nat.le_of_ble_eq_true rfl, Nat.le_of_ble_eq_true rfl⟩ rfl (by decide) dX11_grown_54 (As := [.int v3, .int v1]) (st := []) (ok_X1_noteOn hC.2.2.2.2.2.2.2.1 hW h54) rfl rfl (Nat.le_of_ble_eq_true rfl) ⟨Nat.zero_le _, Nat.zero_le _⟩ ?_
    refine g_iload_n hC dX11_grown_57 rfl (q := 2) rfl ?_
    refine g_ic_ne hC dX11_grown_58 (tgt := 63) (by decide) (fun c58 => ?_) (fun c58 => ?_)
    · replace h := (if_neg c58).symm.trans h
      refine g_iinc hC dX11_grown_63 rfl (q := 3) rfl (w := (v3 + (1 : Int32))) rfl (by decide) (lv' := [(3, .int (v3 + (1 : Int32))), (0, .ref (mB E + 0)), (1, .int v1), (2, .int v2)]) rfl ?_
      refine g_goto hC dX11_grown_66 (tgt := 26) (by decide) ?_
      refine g_lv [1, 2, 3, 0] rfl ?_
      exact hk26_ v1 v2 (v3 + (1 : Int32)) r45 h
    · replace h := (if_pos c58).symm.trans h
      refine g_iload_n hC dX11_grown_61 rfl (q := 3) rfl ?_
      cases h
      exact g_xiret hC hE.1 rfl dX11_grown_62 (Nat.zero_le _) (Nat.zero_le _) hE.2
noncomputable def w_X11_grown_26 (Fu : Nat) (R : mRT)  (N : Nat) (v1 : Int32) (v2 : Int32) (v3 : Int32) (I : mIT) : Option ((Int32 × mIT) ⊕ (Nat × mIT)) :=
  loopF (fun self (s : Int32 × Int32 × Int32 × mIT) => b_X11_grown_26 Fu R self s.1 s.2.1 s.2.2.1 s.2.2.2) N (v1, v2, v3, I)
theorem wo_X11_grown_26 {X : mXT} {E : mEn} {Fu : Nat} {R : mRT} {L : mLT}  (hC : mC X E mX11_grown RX11 cX11_grown) (hW : mWd R)   {out : (Int32 × mIT) ⊕ (Nat × mIT)} {mc ms : Nat} {post : Option Value → Nat → Nat → mIT → mRT → mLT → Prop} {px : String → Nat → Nat → mIT → mRT → mLT → Prop} (hE : mEx X E mc ms post px ∧ Sum.elim (fun o : Int32 × mIT => post (some (.int (o.1))) 106 1 (o.2) R L) (fun q : Nat × mIT => 1 ≤ mc ∧ 6 ≤ ms ∧ px (xNm q.1) 106 1 q.2 R L) out)  (N : Nat) (v1 : Int32) (v2 : Int32) (v3 : Int32) (I : mIT) (h : w_X11_grown_26 Fu R  N v1 v2 v3 I = some out) : mG X E 26 [(0, .ref (mB E + 0)), (1, .int v1), (2, .int v2), (3, .int v3)] [] 106 1 I R L 0 0 :=
  loopF_ok (Gd := fun s : Int32 × Int32 × Int32 × mIT => mG X E 26 [(0, .ref (mB E + 0)), (1, .int s.1), (2, .int s.2.1), (3, .int s.2.2.1)] [] 106 1 s.2.2.2 R L 0 0) (fun self hs s h => bo_X11_grown_26 hC hW hE self (fun v1 v2 v3 I h => hs (v1, v2, v3, I) h) s.1 s.2.1 s.2.2.1 s.2.2.2 h) N (v1, v2, v3, I) h
noncomputable def f_X11_grown (Fu : Nat) (R : mRT) (I : mIT) (v1 : Int32) (v2 : Int32) : Option ((Int32 × mIT) ⊕ (Nat × mIT)) :=
  oX (f_X11_checkRoot Fu R I v1) (fun r2 => oX (f_X11_checkNote Fu I v2) (fun r7 => oB (f_X9_placeOf Fu I 40 v1) (fun r15 => if r15 = (-1 : Int32) then (w_X11_grown_26 Fu R Fu v1 v2 (0 : Int32) I) else (some (.inl ((-1 : Int32), I))))))
set_option maxRecDepth 20000 in
theorem oy_X11_grown {l : Launch} {E : mEn} {Fu : Nat} {I : mIT} {R : mRT} {L : mLT} {v1 : Int32} {v2 : Int32} (hst : l.stackTraces = false) (hW : mWd R)  {out : (Int32 × mIT) ⊕ (Nat × mIT)} (h : f_X11_grown Fu R I v1 v2 = some out) {mc ms : Nat} {post : Option Value → Nat → Nat → mIT → mRT → mLT → Prop} {px : String → Nat → Nat → mIT → mRT → mLT → Prop} (ho : Sum.elim (fun o : Int32 × mIT => post (some (.int (o.1))) 106 1 (o.2) R L) (fun q : Nat × mIT => 1 ≤ mc ∧ 6 ≤ ms ∧ px (xNm q.1) 106 1 q.2 R L) out) : mOx l E mX11_grown [.ref (mB E + 0), .int v1, .int v2] 106 1 I R L mc ms post px := by
  refine mOx_of hst (by decide) (Nat.le_of_ble_eq_true rfl) (fun X hC hE0 _ => ?_)
  have hE : mEx X E mc ms post px ∧ Sum.elim (fun o : Int32 × mIT => post (some (.int (o.1))) 106 1 (o.2) R L) (fun q : Nat × mIT => 1 ≤ mc ∧ 6 ≤ ms ∧ px (xNm q.1) 106 1 q.2 R L) out := ⟨hE0, ho⟩
  have hC : mC X E mX11_grown RX11 cX11_grown := hC
  show mG X E 0 [(0, .ref (mB E + 0)), (1, .int v1), (2, .int v2)] [] 106 1 I R L 0 0
  unfold f_X11_grown at h
  refine g_aload_n hC dX11_grown_0 rfl (q := 0) rfl ?_
  refine g_iload_n hC dX11_grown_1 rfl (q := 1) rfl ?_
  rcases oX_some h with ⟨r2, h2, h⟩ | ⟨q2, h2, h⟩
  case inr =>
    subst h
    have hq : 1 ≤ mc ∧ 6 ≤ ms ∧ px (xNm q2.1) 106 1 q2.2 R L := hE.2
    exact g_cVz hC hE.1 cv_X11_checkRoot wd_1183 ⟨Nat.le_of_ble_eq_true rfl, Nat.le_of_ble_eq_true rfl⟩ rfl (by decide) dX11_grown_2 (As := [.int v1]) (st := []) (ox_X11_checkRoot hC.2.2.2.2.2.2.2.1 hW h2) rfl rfl (Nat.le_of_ble_eq_true rfl) ⟨by omega, by omega⟩ hq.2.2
  refine g_cVy0 hC hE.1 cv_X11_checkRoot wd_1183 ⟨Nat.le_of_ble_eq_true rfl, Nat.le_of_ble_eq_true rfl⟩ rfl (by decide) dX11_grown_2 (As := [.int v1]) (st := []) (oi_X11_checkRoot hC.2.2.2.2.2.2.2.1 hW h2) rfl rfl (Nat.le_of_ble_eq_true rfl) ⟨Nat.zero_le _, Nat.zero_le _⟩ ?_
  refine g_aload_n hC dX11_grown_5 rfl (q := 0) rfl ?_
  refine g_iload_n hC dX11_grown_6 rfl (q := 2) rfl ?_
  rcases oX_some h with ⟨r7, h7, h⟩ | ⟨q7, h7, h⟩
  case inr =>
    subst h
    have hq : 1 ≤ mc ∧ 6 ≤ ms ∧ px (xNm q7.1) 106 1 q7.2 R L := hE.2
    exact g_cVz hC hE.1 cv_X11_checkNote wd_1547 ⟨Nat.le_of_ble_eq_true rfl, Nat.le_of_ble_eq_true rfl⟩ rfl (by decide) dX11_grown_7 (As := [.int v2]) (st := []) (ox_X11_checkNote hC.2.2.2.2.2.2.2.1 hW h7) rfl rfl (Nat.le_of_ble_eq_true rfl) ⟨by omega, by omega⟩ hq.2.2
  refine g_cVy0 hC hE.1 cv_X11_checkNote wd_1547 ⟨Nat.le_of_ble_eq_true rfl, Nat.le_of_ble_eq_true rfl⟩ rfl (by decide) dX11_grown_7 (As := [.int v2]) (st := []) (oi_X11_checkNote hC.2.2.2.2.2.2.2.1 hW h7) rfl rfl (Nat.le_of_ble_eq_true rfl) ⟨Nat.zero_le _, Nat.zero_le _⟩ ?_
  refine g_aload_n hC dX11_grown_10 rfl (q := 0) rfl ?_
  refine g_getr hC fd_RX11_34 rfl (by decide) (C0 := _) (t0 := .int) (Or.inl rfl) (rr_0_4 hW.1) dX11_grown_11 ?_
  refine g_iload_n hC dX11_grown_14 rfl (q := 1) rfl ?_
  obtain ⟨r15, h15, h⟩ := oB_some h
  refine g_cV1 hC cv_X9_placeOf wd_719 ⟨Nat.le_of_ble_eq_true rfl, Nat.le_of_ble_eq_true rfl⟩ rfl (by decide) dX11_grown_15 (As := [.int v1]) (st := []) (ok_X9_placeOf hC.2.2.2.2.2.2.2.1 (ob_40 hW.1) h15) rfl rfl (Nat.le_of_ble_eq_true rfl) ⟨Nat.zero_le _, Nat.zero_le _⟩ ?_
  refine g_iconst hC dX11_grown_18 (v := (-1 : Int32)) (by decide) ?_
  refine g_ic_eq hC dX11_grown_19 (tgt := 24) (by decide) (fun c19 => ?_) (fun c19 => ?_)
  · replace h := (if_pos c19).symm.trans h
    refine g_iconst hC dX11_grown_24 (v := (0 : Int32)) (by decide) ?_
    refine g_istore_n hC dX11_grown_25 rfl rfl (by decide) (lv' := [(3, .int (0 : Int32)), (0, .ref (mB E + 0)), (1, .int v1), (2, .int v2)]) rfl ?_
    refine g_lv [1, 2, 3, 0] rfl ?_
    exact wo_X11_grown_26 hC hW hE Fu (v1) (v2) ((0 : Int32)) (I) h
  · replace h := (if_neg c19).symm.trans h
    refine g_iconst hC dX11_grown_22 (v := (-1 : Int32)) (by decide) ?_
    cases h
    exact g_xiret hC hE.1 rfl dX11_grown_23 (Nat.zero_le _) (Nat.zero_le _) hE.2
theorem oi_X11_grown {l : Launch} {E : mEn} {Fu : Nat} {I : mIT} {R : mRT} {L : mLT} {v1 : Int32} {v2 : Int32} (hst : l.stackTraces = false) (hW : mWd R)  {out : Int32 × mIT} (h : f_X11_grown Fu R I v1 v2 = some (.inl out)) : mOx l E mX11_grown [.ref (mB E + 0), .int v1, .int v2] 106 1 I R L 0 0 (mSame (some (.int (out.1))) 106 1 (out.2) R L) (fun _ _ _ _ _ _ => False) := oy_X11_grown hst hW h ⟨rfl, rfl, rfl, rfl, rfl, rfl⟩
theorem ox_X11_grown {l : Launch} {E : mEn} {Fu : Nat} {I : mIT} {R : mRT} {L : mLT} {v1 : Int32} {v2 : Int32} (hst : l.stackTraces = false) (hW : mWd R)  {q : Nat × mIT} (h : f_X11_grown Fu R I v1 v2 = some (.inr q)) : mOx l E mX11_grown [.ref (mB E + 0), .int v1, .int v2] 106 1 I R L 1 6 (fun _ _ _ _ _ _ => False) (mXp q.1 106 1 q.2 R L) := oy_X11_grown hst hW h ⟨Nat.le_refl _, Nat.le_refl _, rfl, rfl, rfl, rfl, rfl, rfl⟩
noncomputable def f_X11_hang (Fu : Nat) (R : mRT) (I : mIT) (v1 : Int32) (v2 : Int32) : Option ((Int32 × mIT) ⊕ (Nat × mIT)) :=
  oX (f_X11_checkRoot Fu R I v1) (fun r2 => oX (f_X11_checkHook Fu I v2) (fun r7 => oB (f_X9_placeOf Fu I 40 v1) (fun r15 => if r15 = (-2 : Int32) then (oB (f_X11_refuseAct Fu I (-2 : Int32)) (fun r47 => some (.inl (r47.1, r47.2)))) else (oB (R 0 3) (fun p31 => oB (f_X9_rootOn Fu I 40 v2 (I p31 3)) (fun r37 => if r37 = (-1 : Int32) then (oB (f_X11_beginAct Fu I) (fun r52 => oB (f_X9_setPlace Fu r52 40 v1 v2) (fun r61 => some (.inl (r15, r61))))) else (oB (f_X11_refuseAct Fu I (-2 : Int32)) (fun r47 => some (.inl (r47.1, r47.2))))))))))
set_option maxRecDepth 20000 in
theorem oy_X11_hang {l : Launch} {E : mEn} {Fu : Nat} {I : mIT} {R : mRT} {L : mLT} {v1 : Int32} {v2 : Int32} (hst : l.stackTraces = false) (hW : mWd R)  {out : (Int32 × mIT) ⊕ (Nat × mIT)} (h : f_X11_hang Fu R I v1 v2 = some out) {mc ms : Nat} {post : Option Value → Nat → Nat → mIT → mRT → mLT → Prop} {px : String → Nat → Nat → mIT → mRT → mLT → Prop} (ho : Sum.elim (fun o : Int32 × mIT => post (some (.int (o.1))) 106 1 (o.2) R L) (fun q : Nat × mIT => 1 ≤ mc ∧ 6 ≤ ms ∧ px (xNm q.1) 106 1 q.2 R L) out) : mOx l E mX11_hang [.ref (mB E + 0), .int v1, .int v2] 106 1 I R L mc ms post px := by
  refine mOx_of hst (by decide) (Nat.le_of_ble_eq_true rfl) (fun X hC hE0 _ => ?_)
  have hE : mEx X E mc ms post px ∧ Sum.elim (fun o : Int32 × mIT => post (some (.int (o.1))) 106 1 (o.2) R L) (fun q : Nat × mIT => 1 ≤ mc ∧ 6 ≤ ms ∧ px (xNm q.1) 106 1 q.2 R L) out := ⟨hE0, ho⟩
  have hC : mC X E mX11_hang RX11 cX11_hang := hC
  show mG X E 0 [(0, .ref (mB E + 0)), (1, .int v1), (2, .int v2)] [] 106 1 I R L 0 0
  unfold f_X11_hang at h
  refine g_aload_n hC dX11_hang_0 rfl (q := 0) rfl ?_
  refine g_iload_n hC dX11_hang_1 rfl (q := 1) rfl ?_
  rcases oX_some h with ⟨r2, h2, h⟩ | ⟨q2, h2, h⟩
  case inr =>
    subst h
    have hq : 1 ≤ mc ∧ 6 ≤ ms ∧ px (xNm q2.1) 106 1 q2.2 R L := hE.2
    exact g_cVz hC hE.1 cv_X11_checkRoot wd_1183 ⟨Nat.le_of_ble_eq_true rfl, Nat.le_of_ble_eq_true rfl⟩ rfl (by decide) dX11_hang_2 (As := [.int v1]) (st := []) (ox_X11_checkRoot hC.2.2.2.2.2.2.2.1 hW h2) rfl rfl (Nat.le_of_ble_eq_true rfl) ⟨by omega, by omega⟩ hq.2.2
  refine g_cVy0 hC hE.1 cv_X11_checkRoot wd_1183 ⟨Nat.le_of_ble_eq_true rfl, Nat.le_of_ble_eq_true rfl⟩ rfl (by decide) dX11_hang_2 (As := [.int v1]) (st := []) (oi_X11_checkRoot hC.2.2.2.2.2.2.2.1 hW h2) rfl rfl (Nat.le_of_ble_eq_true rfl) ⟨Nat.zero_le _, Nat.zero_le _⟩ ?_
  refine g_aload_n hC dX11_hang_5 rfl (q := 0) rfl ?_
  refine g_iload_n hC dX11_hang_6 rfl (q := 2) rfl ?_
  rcases oX_some h with ⟨r7, h7, h⟩ | ⟨q7, h7, h⟩
  case inr =>
    subst h
    have hq : 1 ≤ mc ∧ 6 ≤ ms ∧ px (xNm q7.1) 106 1 q7.2 R L := hE.2
    exact g_cVz hC hE.1 cv_X11_checkHook wd_1205 ⟨Nat.le_of_ble_eq_true rfl, Nat.le_of_ble_eq_true rfl⟩ rfl (by decide) dX11_hang_7 (As := [.int v2]) (st := []) (ox_X11_checkHook hC.2.2.2.2.2.2.2.1 hW h7) rfl rfl (Nat.le_of_ble_eq_true rfl) ⟨by omega, by omega⟩ hq.2.2
  refine g_cVy0 hC hE.1 cv_X11_checkHook wd_1205 ⟨Nat.le_of_ble_eq_true rfl, Nat.le_of_ble_eq_true rfl⟩ rfl (by decide) dX11_hang_7 (As := [.int v2]) (st := []) (oi_X11_checkHook hC.2.2.2.2.2.2.2.1 hW h7) rfl rfl (Nat.le_of_ble_eq_true rfl) ⟨Nat.zero_le _, Nat.zero_le _⟩ ?_
  refine g_aload_n hC dX11_hang_10 rfl (q := 0) rfl ?_
  refine g_getr hC fd_RX11_34 rfl (by decide) (C0 := _) (t0 := .int) (Or.inl rfl) (rr_0_4 hW.1) dX11_hang_11 ?_
  refine g_iload_n hC dX11_hang_14 rfl (q := 1) rfl ?_
  obtain ⟨r15, h15, h⟩ := oB_some h
  refine g_cV1 hC cv_X9_placeOf wd_719 ⟨Nat.le_of_ble_eq_true rfl, Nat.le_of_ble_eq_true rfl⟩ rfl (by decide) dX11_hang_15 (As := [.int v1]) (st := []) (ok_X9_placeOf hC.2.2.2.2.2.2.2.1 (ob_40 hW.1) h15) rfl rfl (Nat.le_of_ble_eq_true rfl) ⟨Nat.zero_le _, Nat.zero_le _⟩ ?_
  refine g_istore_n hC dX11_hang_18 rfl rfl (by decide) (lv' := [(3, .int r15), (0, .ref (mB E + 0)), (1, .int v1), (2, .int v2)]) rfl ?_
  refine g_iload_n hC dX11_hang_19 rfl (q := 0) rfl ?_
  refine g_bipush hC dX11_hang_20 (v := (-2 : Int32)) (by decide) ?_
  refine g_ic_eq hC dX11_hang_22 (tgt := 44) (by decide) (fun c22 => ?_) (fun c22 => ?_)
  · replace h := (if_pos c22).symm.trans h
    refine g_aload_n hC dX11_hang_44 rfl (q := 1) rfl ?_
    refine g_bipush hC dX11_hang_45 (v := (-2 : Int32)) (by decide) ?_
    obtain ⟨r47, h47, h⟩ := oB_some h
    refine g_cV1 hC cv_X11_refuseAct wd_547 ⟨Nat.le_of_ble_eq_true rfl, Nat.le_of_ble_eq_true rfl⟩ rfl (by decide) dX11_hang_47 (As := [.int (-2 : Int32)]) (st := []) (ok_X11_refuseAct hC.2.2.2.2.2.2.2.1 hW h47) rfl rfl (Nat.le_of_ble_eq_true rfl) ⟨Nat.zero_le _, Nat.zero_le _⟩ ?_
    cases h
    exact g_xiret hC hE.1 rfl dX11_hang_50 (Nat.zero_le _) (Nat.zero_le _) hE.2
  · replace h := (if_neg c22).symm.trans h
    refine g_aload_n hC dX11_hang_25 rfl (q := 1) rfl ?_
    refine g_getr hC fd_RX11_34 rfl (by decide) (C0 := _) (t0 := .int) (Or.inl rfl) (rr_0_4 hW.1) dX11_hang_26 ?_
    refine g_iload_n hC dX11_hang_29 rfl (q := 3) rfl ?_
    refine g_aload_n hC dX11_hang_30 rfl (q := 1) rfl ?_
    obtain ⟨p31, e31, h⟩ := oB_some h
    have hp31 : mO5 R p31 := ob5 hW.1 (hW.2.1 p31 e31)
    refine g_getr hC fd_RX11_27 rfl (by decide) (C0 := _) (t0 := .int) (Or.inl rfl) e31 dX11_hang_31 ?_
    refine g_geti hC fd_RX11_140 hp31.2.1 hp31.1 (Or.inl rfl) dX11_hang_34 ?_
    obtain ⟨r37, h37, h⟩ := oB_some h
    refine g_cV1 hC cv_X9_rootOn wd_1210 ⟨Nat.le_of_ble_eq_true rfl, Nat.le_of_ble_eq_true rfl⟩ rfl (by decide) dX11_hang_37 (As := [.int v2, .int (I p31 3)]) (st := []) (ok_X9_rootOn hC.2.2.2.2.2.2.2.1 (ob_40 hW.1) h37) rfl rfl (Nat.le_of_ble_eq_true rfl) ⟨Nat.zero_le _, Nat.zero_le _⟩ ?_
    refine g_iconst hC dX11_hang_40 (v := (-1 : Int32)) (by decide) ?_
    refine g_ic_eq hC dX11_hang_41 (tgt := 51) (by decide) (fun c41 => ?_) (fun c41 => ?_)
    · replace h := (if_pos c41).symm.trans h
      refine g_aload_n hC dX11_hang_51 rfl (q := 1) rfl ?_
      obtain ⟨r52, h52, h⟩ := oB_some h
      refine g_cV0 hC cv_X11_beginAct wd_551 ⟨Nat.le_of_ble_eq_true rfl, Nat.le_of_ble_eq_true rfl⟩ rfl (by decide) dX11_hang_52 (As := []) (st := []) (ok_X11_beginAct hC.2.2.2.2.2.2.2.1 hW h52) rfl rfl (Nat.le_of_ble_eq_true rfl) ⟨Nat.zero_le _, Nat.zero_le _⟩ ?_
      refine g_aload_n hC dX11_hang_55 rfl (q := 1) rfl ?_
      refine g_getr hC fd_RX11_34 rfl (by decide) (C0 := _) (t0 := .int) (Or.inl rfl) (rr_0_4 hW.1) dX11_hang_56 ?_
      refine g_iload_n hC dX11_hang_59 rfl (q := 2) rfl ?_
      refine g_iload_n hC dX11_hang_60 rfl (q := 3) rfl ?_
      obtain ⟨r61, h61, h⟩ := oB_some h
      refine g_cV0 hC cv_X9_setPlace wd_1243 ⟨Nat.le_of_ble_eq_true rfl, Nat.le_of_ble_eq_true rfl⟩ rfl (by decide) dX11_hang_61 (As := [.int v1, .int v2]) (st := []) (ok_X9_setPlace hC.2.2.2.2.2.2.2.1 (ob_40 hW.1) h61) rfl rfl (Nat.le_of_ble_eq_true rfl) ⟨Nat.zero_le _, Nat.zero_le _⟩ ?_
      refine g_iload_n hC dX11_hang_64 rfl (q := 0) rfl ?_
      cases h
      exact g_xiret hC hE.1 rfl dX11_hang_65 (Nat.zero_le _) (Nat.zero_le _) hE.2
    · replace h := (if_neg c41).symm.trans h
      refine g_aload_n hC dX11_hang_44 rfl (q := 1) rfl ?_
      refine g_bipush hC dX11_hang_45 (v := (-2 : Int32)) (by decide) ?_
      obtain ⟨r47, h47, h⟩ := oB_some h
      refine g_cV1 hC cv_X11_refuseAct wd_547 ⟨Nat.le_of_ble_eq_true rfl, Nat.le_of_ble_eq_true rfl⟩ rfl (by decide) dX11_hang_47 (As := [.int (-2 : Int32)]) (st := []) (ok_X11_refuseAct hC.2.2.2.2.2.2.2.1 hW h47) rfl rfl (Nat.le_of_ble_eq_true rfl) ⟨Nat.zero_le _, Nat.zero_le _⟩ ?_
      cases h
      exact g_xiret hC hE.1 rfl dX11_hang_50 (Nat.zero_le _) (Nat.zero_le _) hE.2
theorem oi_X11_hang {l : Launch} {E : mEn} {Fu : Nat} {I : mIT} {R : mRT} {L : mLT} {v1 : Int32} {v2 : Int32} (hst : l.stackTraces = false) (hW : mWd R)  {out : Int32 × mIT} (h : f_X11_hang Fu R I v1 v2 = some (.inl out)) : mOx l E mX11_hang [.ref (mB E + 0), .int v1, .int v2] 106 1 I R L 0 0 (mSame (some (.int (out.1))) 106 1 (out.2) R L) (fun _ _ _ _ _ _ => False) := oy_X11_hang hst hW h ⟨rfl, rfl, rfl, rfl, rfl, rfl⟩
theorem ox_X11_hang {l : Launch} {E : mEn} {Fu : Nat} {I : mIT} {R : mRT} {L : mLT} {v1 : Int32} {v2 : Int32} (hst : l.stackTraces = false) (hW : mWd R)  {q : Nat × mIT} (h : f_X11_hang Fu R I v1 v2 = some (.inr q)) : mOx l E mX11_hang [.ref (mB E + 0), .int v1, .int v2] 106 1 I R L 1 6 (fun _ _ _ _ _ _ => False) (mXp q.1 106 1 q.2 R L) := oy_X11_hang hst hW h ⟨Nat.le_refl _, Nat.le_refl _, rfl, rfl, rfl, rfl, rfl, rfl⟩
noncomputable def f_X4_add (Fu : Nat) (I : mIT) (k0 : Nat) (v1 : Int32) (v2 : Int32) (v3 : Int32) : Option (Int32 × mIT) :=
  if (I k0 3) < 0 then (some ((0 : Int32), I)) else (if (I k0 3) < (8 : Int32) then (oG (inB (I k0 3) 8) (oG (inB ((mU I (k0 + 1) ((I k0 3)).toNatClampNeg v1) k0 3) 8) (if v3 = 0 then (oG (inB ((mU (mU I (k0 + 1) ((I k0 3)).toNatClampNeg v1) (k0 + 2) (((mU I (k0 + 1) ((I k0 3)).toNatClampNeg v1) k0 3)).toNatClampNeg v2) k0 3) 8) (some ((1 : Int32), (mU (mU (mU (mU I (k0 + 1) ((I k0 3)).toNatClampNeg v1) (k0 + 2) (((mU I (k0 + 1) ((I k0 3)).toNatClampNeg v1) k0 3)).toNatClampNeg v2) (k0 + 3) (((mU (mU I (k0 + 1) ((I k0 3)).toNatClampNeg v1) (k0 + 2) (((mU I (k0 + 1) ((I k0 3)).toNatClampNeg v1) k0 3)).toNatClampNeg v2) k0 3)).toNatClampNeg (0 : Int32)) k0 3 (((mU (mU (mU I (k0 + 1) ((I k0 3)).toNatClampNeg v1) (k0 + 2) (((mU I (k0 + 1) ((I k0 3)).toNatClampNeg v1) k0 3)).toNatClampNeg v2) (k0 + 3) (((mU (mU I (k0 + 1) ((I k0 3)).toNatClampNeg v1) (k0 + 2) (((mU I (k0 + 1) ((I k0 3)).toNatClampNeg v1) k0 3)).toNatClampNeg v2) k0 3)).toNatClampNeg (0 : Int32)) k0 3) + (1 : Int32)))))) else (oG (inB ((mU (mU I (k0 + 1) ((I k0 3)).toNatClampNeg v1) (k0 + 2) (((mU I (k0 + 1) ((I k0 3)).toNatClampNeg v1) k0 3)).toNatClampNeg v2) k0 3) 8) (some ((1 : Int32), (mU (mU (mU (mU I (k0 + 1) ((I k0 3)).toNatClampNeg v1) (k0 + 2) (((mU I (k0 + 1) ((I k0 3)).toNatClampNeg v1) k0 3)).toNatClampNeg v2) (k0 + 3) (((mU (mU I (k0 + 1) ((I k0 3)).toNatClampNeg v1) (k0 + 2) (((mU I (k0 + 1) ((I k0 3)).toNatClampNeg v1) k0 3)).toNatClampNeg v2) k0 3)).toNatClampNeg (1 : Int32)) k0 3 (((mU (mU (mU I (k0 + 1) ((I k0 3)).toNatClampNeg v1) (k0 + 2) (((mU I (k0 + 1) ((I k0 3)).toNatClampNeg v1) k0 3)).toNatClampNeg v2) (k0 + 3) (((mU (mU I (k0 + 1) ((I k0 3)).toNatClampNeg v1) (k0 + 2) (((mU I (k0 + 1) ((I k0 3)).toNatClampNeg v1) k0 3)).toNatClampNeg v2) k0 3)).toNatClampNeg (1 : Int32)) k0 3) + (1 : Int32))))))))) else (some ((0 : Int32), I)))
set_option maxRecDepth 20000 in
theorem ok_X4_add {l : Launch} {E : mEn} {Fu : Nat} {I : mIT} {R : mRT} {L : mLT} {k0 : Nat} {v1 : Int32} {v2 : Int32} {v3 : Int32} (hst : l.stackTraces = false) (hk0 : mO4 R k0) {out : Int32 × mIT} (h : f_X4_add Fu I k0 v1 v2 v3 = some out) : mOk l E mX4_add [.ref (mB E + k0), .int v1, .int v2, .int v3] 106 1 I R L 0 0 (mSame (some (.int (out.1))) 106 1 (out.2) R L) := by
  refine mOk_of hst (by decide) (Nat.le_of_ble_eq_true rfl) (fun X hC hE _ => ?_)
  have hC : mC X E mX4_add RX4 cX4_add := hC
  show mG X E 0 [(0, .ref (mB E + k0)), (1, .int v1), (2, .int v2), (3, .int v3)] [] 106 1 I R L 0 0
  unfold f_X4_add at h
  refine g_aload_n hC dX4_add_0 rfl (q := 0) rfl ?_
  refine g_geti hC fd_RX4_21 hk0.2.1 hk0.1 (Or.inl rfl) dX4_add_1 ?_
  refine g_if_lt hC dX4_add_4 (tgt := 16) (by decide) (fun c4 => ?_) (fun c4 => ?_)
  · replace h := (if_pos c4).symm.trans h
    refine g_iconst hC dX4_add_16 (v := (0 : Int32)) (by decide) ?_
    cases h
    exact g_zret hC (by decide) hE rfl dX4_add_17 (Nat.zero_le _) (Nat.zero_le _) ⟨rfl, rfl, rfl, rfl, rfl, rfl⟩
  · replace h := (if_neg c4).symm.trans h
    refine g_aload_n hC dX4_add_7 rfl (q := 0) rfl ?_
    refine g_geti hC fd_RX4_21 hk0.2.1 hk0.1 (Or.inl rfl) dX4_add_8 ?_
    refine g_bipush hC dX4_add_11 (v := (8 : Int32)) (by decide) ?_
    refine g_ic_lt hC dX4_add_13 (tgt := 18) (by decide) (fun c13 => ?_) (fun c13 => ?_)
    · replace h := (if_pos c13).symm.trans h
      refine g_aload_n hC dX4_add_18 rfl (q := 0) rfl ?_
      refine g_getr hC fd_RX4_9 hk0.2.1 hk0.1 (C0 := "") (t0 := _) (Or.inr rfl) hk0.2.2.1.1 dX4_add_19 ?_
      refine g_aload_n hC dX4_add_22 rfl (q := 0) rfl ?_
      refine g_geti hC fd_RX4_21 hk0.2.1 hk0.1 (Or.inl rfl) dX4_add_23 ?_
      refine g_iload_n hC dX4_add_26 rfl (q := 1) rfl ?_
      obtain ⟨g27, h⟩ := oG_some h
      refine g_iast hC hk0.2.2.1.2.2 hk0.2.2.1.2.1 (inB_in g27) dX4_add_27 (nm_e ?_)
      refine g_aload_n hC dX4_add_28 rfl (q := 0) rfl ?_
      refine g_getr hC fd_RX4_15 hk0.2.1 hk0.1 (C0 := "") (t0 := _) (Or.inr rfl) hk0.2.2.2.1.1 dX4_add_29 ?_
      refine g_aload_n hC dX4_add_32 rfl (q := 0) rfl ?_
      refine g_geti hC fd_RX4_21 hk0.2.1 hk0.1 (Or.inl rfl) dX4_add_33 ?_
      refine g_iload_n hC dX4_add_36 rfl (q := 2) rfl ?_
      obtain ⟨g37, h⟩ := oG_some h
      refine g_iast hC hk0.2.2.2.1.2.2 hk0.2.2.2.1.2.1 (inB_in g37) dX4_add_37 (nm_e ?_)
      refine g_aload_n hC dX4_add_38 rfl (q := 0) rfl ?_
      refine g_getr hC fd_RX4_18 hk0.2.1 hk0.1 (C0 := "") (t0 := _) (Or.inr rfl) hk0.2.2.2.2.1 dX4_add_39 ?_
      refine g_aload_n hC dX4_add_42 rfl (q := 0) rfl ?_
      refine g_geti hC fd_RX4_21 hk0.2.1 hk0.1 (Or.inl rfl) dX4_add_43 ?_
      refine g_iload_n hC dX4_add_46 rfl (q := 3) rfl ?_
      refine g_if_eq hC dX4_add_47 (tgt := 54) (by decide) (fun c47 => ?_) (fun c47 => ?_)
      · replace h := (if_pos c47).symm.trans h
        refine g_iconst hC dX4_add_54 (v := (0 : Int32)) (by decide) ?_
        obtain ⟨g55, h⟩ := oG_some h
        refine g_iast hC hk0.2.2.2.2.2.2 hk0.2.2.2.2.2.1 (inB_in g55) dX4_add_55 (nm_e ?_)
        refine g_aload_n hC dX4_add_56 rfl (q := 0) rfl ?_
        refine g_dup hC dX4_add_57 rfl ?_
        refine g_geti hC fd_RX4_21 hk0.2.1 hk0.1 (Or.inl rfl) dX4_add_58 ?_
        refine g_iconst hC dX4_add_61 (v := (1 : Int32)) (by decide) ?_
        refine g_iadd hC dX4_add_62 ?_
        refine g_puti hC fd_RX4_21 hk0.2.1 hk0.1 rfl dX4_add_63 (nm_e ?_)
        refine g_iconst hC dX4_add_66 (v := (1 : Int32)) (by decide) ?_
        cases h
        exact g_zret hC (by decide) hE rfl dX4_add_67 (Nat.zero_le _) (Nat.zero_le _) ⟨rfl, rfl, rfl, rfl, rfl, rfl⟩
      · replace h := (if_neg c47).symm.trans h
        refine g_iconst hC dX4_add_50 (v := (1 : Int32)) (by decide) ?_
        refine g_goto hC dX4_add_51 (tgt := 55) (by decide) ?_
        obtain ⟨g55, h⟩ := oG_some h
        refine g_iast hC hk0.2.2.2.2.2.2 hk0.2.2.2.2.2.1 (inB_in g55) dX4_add_55 (nm_e ?_)
        refine g_aload_n hC dX4_add_56 rfl (q := 0) rfl ?_
        refine g_dup hC dX4_add_57 rfl ?_
        refine g_geti hC fd_RX4_21 hk0.2.1 hk0.1 (Or.inl rfl) dX4_add_58 ?_
        refine g_iconst hC dX4_add_61 (v := (1 : Int32)) (by decide) ?_
        refine g_iadd hC dX4_add_62 ?_
        refine g_puti hC fd_RX4_21 hk0.2.1 hk0.1 rfl dX4_add_63 (nm_e ?_)
        refine g_iconst hC dX4_add_66 (v := (1 : Int32)) (by decide) ?_
        cases h
        exact g_zret hC (by decide) hE rfl dX4_add_67 (Nat.zero_le _) (Nat.zero_le _) ⟨rfl, rfl, rfl, rfl, rfl, rfl⟩
    · replace h := (if_neg c13).symm.trans h
      refine g_iconst hC dX4_add_16 (v := (0 : Int32)) (by decide) ?_
      cases h
      exact g_zret hC (by decide) hE rfl dX4_add_17 (Nat.zero_le _) (Nat.zero_le _) ⟨rfl, rfl, rfl, rfl, rfl, rfl⟩
noncomputable def f_X11_hear (Fu : Nat) (I : mIT) (v1 : Int32) (v2 : Int32) (v3 : Int32) : Option (Int32 × mIT) :=
  if v1 < 0 then (oG (inB (2 : Int32) 3) (oG (inB (2 : Int32) 3) (some ((-1 : Int32), (mU I 21 ((2 : Int32)).toNatClampNeg ((I 21 ((2 : Int32)).toNatClampNeg) + (1 : Int32))))))) else (if (30 : Int32) < v1 then (oG (inB (2 : Int32) 3) (oG (inB (2 : Int32) 3) (some ((-1 : Int32), (mU I 21 ((2 : Int32)).toNatClampNeg ((I 21 ((2 : Int32)).toNatClampNeg) + (1 : Int32))))))) else (oB (f_X11_isNote Fu v2) (fun r11 => if r11 = 0 then (oG (inB (2 : Int32) 3) (oG (inB (2 : Int32) 3) (some ((-1 : Int32), (mU I 21 ((2 : Int32)).toNatClampNeg ((I 21 ((2 : Int32)).toNatClampNeg) + (1 : Int32))))))) else (oB (f_X4_add Fu I 44 v1 v2 v3) (fun r24 => if r24.1 = 0 then (oG (inB (2 : Int32) 3) (oG (inB (2 : Int32) 3) (some ((-1 : Int32), (mU r24.2 21 ((2 : Int32)).toNatClampNeg ((r24.2 21 ((2 : Int32)).toNatClampNeg) + (1 : Int32))))))) else (oB (f_X4_many Fu r24.2 44) (fun r46 => some (r46, r24.2))))))))
set_option maxRecDepth 20000 in
theorem ok_X11_hear {l : Launch} {E : mEn} {Fu : Nat} {I : mIT} {R : mRT} {L : mLT} {v1 : Int32} {v2 : Int32} {v3 : Int32} (hst : l.stackTraces = false) (hW : mWd R)  {out : Int32 × mIT} (h : f_X11_hear Fu I v1 v2 v3 = some out) : mOk l E mX11_hear [.ref (mB E + 0), .int v1, .int v2, .int v3] 106 1 I R L 0 0 (mSame (some (.int (out.1))) 106 1 (out.2) R L) := by
  refine mOk_of hst (by decide) (Nat.le_of_ble_eq_true rfl) (fun X hC hE _ => ?_)
  have hC : mC X E mX11_hear RX11 cX11_hear := hC
  show mG X E 0 [(0, .ref (mB E + 0)), (1, .int v1), (2, .int v2), (3, .int v3)] [] 106 1 I R L 0 0
  unfold f_X11_hear at h
  refine g_iload_n hC dX11_hear_0 rfl (q := 1) rfl ?_
  refine g_if_lt hC dX11_hear_1 (tgt := 30) (by decide) (fun c1 => ?_) (fun c1 => ?_)
  · replace h := (if_pos c1).symm.trans h
    refine g_aload_n hC dX11_hear_30 rfl (q := 0) rfl ?_
    refine g_getr hC fd_RX11_20 rfl (by decide) (C0 := "") (t0 := _) (Or.inr rfl) (rr_0_2 hW.1) dX11_hear_31 ?_
    refine g_iconst hC dX11_hear_34 (v := (2 : Int32)) (by decide) ?_
    refine g_dup2 hC dX11_hear_35 rfl rfl ?_
    obtain ⟨g36, h⟩ := oG_some h
    refine g_iald hC rfl (by decide) (inB_in g36) dX11_hear_36 ?_
    refine g_iconst hC dX11_hear_37 (v := (1 : Int32)) (by decide) ?_
    refine g_iadd hC dX11_hear_38 ?_
    obtain ⟨g39, h⟩ := oG_some h
    refine g_iast hC rfl (by decide) (inB_in g39) dX11_hear_39 (nm_e ?_)
    refine g_iconst hC dX11_hear_40 (v := (-1 : Int32)) (by decide) ?_
    cases h
    exact g_iret hC hE rfl dX11_hear_41 (Nat.zero_le _) (Nat.zero_le _) ⟨rfl, rfl, rfl, rfl, rfl, rfl⟩
  · replace h := (if_neg c1).symm.trans h
    refine g_iload_n hC dX11_hear_4 rfl (q := 1) rfl ?_
    refine g_bipush hC dX11_hear_5 (v := (30 : Int32)) (by decide) ?_
    refine g_ic_gt hC dX11_hear_7 (tgt := 30) (by decide) (fun c7 => ?_) (fun c7 => ?_)
    · replace h := (if_pos c7).symm.trans h
      refine g_aload_n hC dX11_hear_30 rfl (q := 0) rfl ?_
      refine g_getr hC fd_RX11_20 rfl (by decide) (C0 := "") (t0 := _) (Or.inr rfl) (rr_0_2 hW.1) dX11_hear_31 ?_
      refine g_iconst hC dX11_hear_34 (v := (2 : Int32)) (by decide) ?_
      refine g_dup2 hC dX11_hear_35 rfl rfl ?_
      obtain ⟨g36, h⟩ := oG_some h
      refine g_iald hC rfl (by decide) (inB_in g36) dX11_hear_36 ?_
      refine g_iconst hC dX11_hear_37 (v := (1 : Int32)) (by decide) ?_
      refine g_iadd hC dX11_hear_38 ?_
      obtain ⟨g39, h⟩ := oG_some h
      refine g_iast hC rfl (by decide) (inB_in g39) dX11_hear_39 (nm_e ?_)
      refine g_iconst hC dX11_hear_40 (v := (-1 : Int32)) (by decide) ?_
      cases h
      exact g_iret hC hE rfl dX11_hear_41 (Nat.zero_le _) (Nat.zero_le _) ⟨rfl, rfl, rfl, rfl, rfl, rfl⟩
    · replace h := (if_neg c7).symm.trans h
      refine g_iload_n hC dX11_hear_10 rfl (q := 2) rfl ?_
      obtain ⟨r11, h11, h⟩ := oB_some h
      refine g_cS1 hC cs_X11_isNote wd_792 ⟨Nat.le_of_ble_eq_true rfl, Nat.le_of_ble_eq_true rfl⟩ dX11_hear_11 (As := [.int v2]) (st := []) (ok_X11_isNote hC.2.2.2.2.2.2.2.1  h11) rfl rfl (Nat.le_of_ble_eq_true rfl) ⟨Nat.zero_le _, Nat.zero_le _⟩ ?_
      refine g_if_eq hC dX11_hear_14 (tgt := 30) (by decide) (fun c14 => ?_) (fun c14 => ?_)
      · replace h := (if_pos c14).symm.trans h
        refine g_aload_n hC dX11_hear_30 rfl (q := 0) rfl ?_
        refine g_getr hC fd_RX11_20 rfl (by decide) (C0 := "") (t0 := _) (Or.inr rfl) (rr_0_2 hW.1) dX11_hear_31 ?_
        refine g_iconst hC dX11_hear_34 (v := (2 : Int32)) (by decide) ?_
        refine g_dup2 hC dX11_hear_35 rfl rfl ?_
        obtain ⟨g36, h⟩ := oG_some h
        refine g_iald hC rfl (by decide) (inB_in g36) dX11_hear_36 ?_
        refine g_iconst hC dX11_hear_37 (v := (1 : Int32)) (by decide) ?_
        refine g_iadd hC dX11_hear_38 ?_
        obtain ⟨g39, h⟩ := oG_some h
        refine g_iast hC rfl (by decide) (inB_in g39) dX11_hear_39 (nm_e ?_)
        refine g_iconst hC dX11_hear_40 (v := (-1 : Int32)) (by decide) ?_
        cases h
        exact g_iret hC hE rfl dX11_hear_41 (Nat.zero_le _) (Nat.zero_le _) ⟨rfl, rfl, rfl, rfl, rfl, rfl⟩
      · replace h := (if_neg c14).symm.trans h
        refine g_aload_n hC dX11_hear_17 rfl (q := 0) rfl ?_
        refine g_getr hC fd_RX11_48 rfl (by decide) (C0 := _) (t0 := .int) (Or.inl rfl) (rr_0_6 hW.1) dX11_hear_18 ?_
        refine g_iload_n hC dX11_hear_21 rfl (q := 1) rfl ?_
        refine g_iload_n hC dX11_hear_22 rfl (q := 2) rfl ?_
        refine g_iload_n hC dX11_hear_23 rfl (q := 3) rfl ?_
        obtain ⟨r24, h24, h⟩ := oB_some h
        refine g_cV1 hC cv_X4_add wd_795 ⟨Nat.le_of_ble_eq_true rfl, Nat.le_of_ble_eq_true rfl⟩ rfl (by decide) dX11_hear_24 (As := [.int v1, .int v2, .int v3]) (st := []) (ok_X4_add hC.2.2.2.2.2.2.2.1 (ob_44 hW.1) h24) rfl rfl (Nat.le_of_ble_eq_true rfl) ⟨Nat.zero_le _, Nat.zero_le _⟩ ?_
        refine g_if_ne hC dX11_hear_27 (tgt := 42) (by decide) (fun c27 => ?_) (fun c27 => ?_)
        · replace h := (if_neg c27).symm.trans h
          refine g_aload_n hC dX11_hear_42 rfl (q := 0) rfl ?_
          refine g_getr hC fd_RX11_48 rfl (by decide) (C0 := _) (t0 := .int) (Or.inl rfl) (rr_0_6 hW.1) dX11_hear_43 ?_
          obtain ⟨r46, h46, h⟩ := oB_some h
          refine g_cV1 hC cv_X4_many wd_799 ⟨Nat.le_of_ble_eq_true rfl, Nat.le_of_ble_eq_true rfl⟩ rfl (by decide) dX11_hear_46 (As := []) (st := []) (ok_X4_many hC.2.2.2.2.2.2.2.1 (ob_44 hW.1) h46) rfl rfl (Nat.le_of_ble_eq_true rfl) ⟨Nat.zero_le _, Nat.zero_le _⟩ ?_
          cases h
          exact g_iret hC hE rfl dX11_hear_49 (Nat.zero_le _) (Nat.zero_le _) ⟨rfl, rfl, rfl, rfl, rfl, rfl⟩
        · replace h := (if_pos c27).symm.trans h
          refine g_aload_n hC dX11_hear_30 rfl (q := 0) rfl ?_
          refine g_getr hC fd_RX11_20 rfl (by decide) (C0 := "") (t0 := _) (Or.inr rfl) (rr_0_2 hW.1) dX11_hear_31 ?_
          refine g_iconst hC dX11_hear_34 (v := (2 : Int32)) (by decide) ?_
          refine g_dup2 hC dX11_hear_35 rfl rfl ?_
          obtain ⟨g36, h⟩ := oG_some h
          refine g_iald hC rfl (by decide) (inB_in g36) dX11_hear_36 ?_
          refine g_iconst hC dX11_hear_37 (v := (1 : Int32)) (by decide) ?_
          refine g_iadd hC dX11_hear_38 ?_
          obtain ⟨g39, h⟩ := oG_some h
          refine g_iast hC rfl (by decide) (inB_in g39) dX11_hear_39 (nm_e ?_)
          refine g_iconst hC dX11_hear_40 (v := (-1 : Int32)) (by decide) ?_
          cases h
          exact g_iret hC hE rfl dX11_hear_41 (Nat.zero_le _) (Nat.zero_le _) ⟨rfl, rfl, rfl, rfl, rfl, rfl⟩
noncomputable def f_X9_setHollow (Fu : Nat) (I : mIT) (k0 : Nat) (v1 : Int32) (v2 : Int32) : Option (mIT) :=
  oB (f_X9_setCell Fu I k0 (11 : Int32) v1 v2) (fun r5 => some (r5))
set_option maxRecDepth 20000 in
theorem ok_X9_setHollow {l : Launch} {E : mEn} {Fu : Nat} {I : mIT} {R : mRT} {L : mLT} {k0 : Nat} {v1 : Int32} {v2 : Int32} (hst : l.stackTraces = false) (hk0 : mO9 R k0) {out : mIT} (h : f_X9_setHollow Fu I k0 v1 v2 = some out) : mOk l E mX9_setHollow [.ref (mB E + k0), .int v1, .int v2] 106 1 I R L 0 0 (mSame none 106 1 (out) R L) := by
  refine mOk_of hst (by decide) (Nat.le_of_ble_eq_true rfl) (fun X hC hE _ => ?_)
  have hC : mC X E mX9_setHollow RX9 cX9_setHollow := hC
  show mG X E 0 [(0, .ref (mB E + k0)), (1, .int v1), (2, .int v2)] [] 106 1 I R L 0 0
  unfold f_X9_setHollow at h
  refine g_aload_n hC dX9_setHollow_0 rfl (q := 0) rfl ?_
  refine g_bipush hC dX9_setHollow_1 (v := (11 : Int32)) (by decide) ?_
  refine g_iload_n hC dX9_setHollow_3 rfl (q := 1) rfl ?_
  refine g_iload_n hC dX9_setHollow_4 rfl (q := 2) rfl ?_
  obtain ⟨r5, h5, h⟩ := oB_some h
  refine g_cV0 hC cv_X9_setCell wd_636 ⟨Nat.le_of_ble_eq_true rfl, Nat.le_of_ble_eq_true rfl⟩ hk0.2.1 hk0.1 dX9_setHollow_5 (As := [.int (11 : Int32), .int v1, .int v2]) (st := []) (ok_X9_setCell hC.2.2.2.2.2.2.2.1 hk0 h5) rfl rfl (Nat.le_of_ble_eq_true rfl) ⟨Nat.zero_le _, Nat.zero_le _⟩ ?_
  cases h
  exact g_vret hC hE rfl dX9_setHollow_8 (Nat.zero_le _) (Nat.zero_le _) ⟨rfl, rfl, rfl, rfl, rfl, rfl⟩
noncomputable def f_X11_hollow (Fu : Nat) (R : mRT) (I : mIT) (v1 : Int32) (v2 : Int32) : Option ((Int32 × mIT) ⊕ (Nat × mIT)) :=
  oX (f_X11_checkRoot Fu R I v1) (fun r2 => if v2 < (1 : Int32) then (oB (f_X11_refuseAct Fu I (-1 : Int32)) (fun r24 => some (.inl (r24.1, r24.2)))) else (oB (f_X9_roomToHollow Fu I 40 v1) (fun r16 => if v2 ≤ r16 then (oB (f_X11_beginAct Fu I) (fun r29 => oB (f_X9_hollowOf Fu r29 40 v1) (fun r42 => oB (f_X9_setHollow Fu r29 40 v1 (r42 + v2)) (fun r47 => oB (R 0 3) (fun p55 => oB (f_X9_noteOf Fu r47 40 p55 v1 (0 : Int32)) (fun r60 => some (.inl (r60.1, r60.2)))))))) else (oB (f_X11_refuseAct Fu I (-1 : Int32)) (fun r24 => some (.inl (r24.1, r24.2)))))))
set_option maxRecDepth 20000 in
theorem oy_X11_hollow {l : Launch} {E : mEn} {Fu : Nat} {I : mIT} {R : mRT} {L : mLT} {v1 : Int32} {v2 : Int32} (hst : l.stackTraces = false) (hW : mWd R)  {out : (Int32 × mIT) ⊕ (Nat × mIT)} (h : f_X11_hollow Fu R I v1 v2 = some out) {mc ms : Nat} {post : Option Value → Nat → Nat → mIT → mRT → mLT → Prop} {px : String → Nat → Nat → mIT → mRT → mLT → Prop} (ho : Sum.elim (fun o : Int32 × mIT => post (some (.int (o.1))) 106 1 (o.2) R L) (fun q : Nat × mIT => 1 ≤ mc ∧ 6 ≤ ms ∧ px (xNm q.1) 106 1 q.2 R L) out) : mOx l E mX11_hollow [.ref (mB E + 0), .int v1, .int v2] 106 1 I R L mc ms post px := by
  refine mOx_of hst (by decide) (Nat.le_of_ble_eq_true rfl) (fun X hC hE0 _ => ?_)
  have hE : mEx X E mc ms post px ∧ Sum.elim (fun o : Int32 × mIT => post (some (.int (o.1))) 106 1 (o.2) R L) (fun q : Nat × mIT => 1 ≤ mc ∧ 6 ≤ ms ∧ px (xNm q.1) 106 1 q.2 R L) out := ⟨hE0, ho⟩
  have hC : mC X E mX11_hollow RX11 cX11_hollow := hC
  show mG X E 0 [(0, .ref (mB E + 0)), (1, .int v1), (2, .int v2)] [] 106 1 I R L 0 0
  unfold f_X11_hollow at h
  refine g_aload_n hC dX11_hollow_0 rfl (q := 0) rfl ?_
  refine g_iload_n hC dX11_hollow_1 rfl (q := 1) rfl ?_
  rcases oX_some h with ⟨r2, h2, h⟩ | ⟨q2, h2, h⟩
  case inr =>
    subst h
    have hq : 1 ≤ mc ∧ 6 ≤ ms ∧ px (xNm q2.1) 106 1 q2.2 R L := hE.2
    exact g_cVz hC hE.1 cv_X11_checkRoot wd_1183 ⟨Nat.le_of_ble_eq_true rfl, Nat.le_of_ble_eq_true rfl⟩ rfl (by decide) dX11_hollow_2 (As := [.int v1]) (st := []) (ox_X11_checkRoot hC.2.2.2.2.2.2.2.1 hW h2) rfl rfl (Nat.le_of_ble_eq_true rfl) ⟨by omega, by omega⟩ hq.2.2
  refine g_cVy0 hC hE.1 cv_X11_checkRoot wd_1183 ⟨Nat.le_of_ble_eq_true rfl, Nat.le_of_ble_eq_true rfl⟩ rfl (by decide) dX11_hollow_2 (As := [.int v1]) (st := []) (oi_X11_checkRoot hC.2.2.2.2.2.2.2.1 hW h2) rfl rfl (Nat.le_of_ble_eq_true rfl) ⟨Nat.zero_le _, Nat.zero_le _⟩ ?_
  refine g_iload_n hC dX11_hollow_5 rfl (q := 2) rfl ?_
  refine g_iconst hC dX11_hollow_6 (v := (1 : Int32)) (by decide) ?_
  refine g_ic_lt hC dX11_hollow_7 (tgt := 22) (by decide) (fun c7 => ?_) (fun c7 => ?_)
  · replace h := (if_pos c7).symm.trans h
    refine g_aload_n hC dX11_hollow_22 rfl (q := 0) rfl ?_
    refine g_iconst hC dX11_hollow_23 (v := (-1 : Int32)) (by decide) ?_
    obtain ⟨r24, h24, h⟩ := oB_some h
    refine g_cV1 hC cv_X11_refuseAct wd_547 ⟨Nat.le_of_ble_eq_true rfl, Nat.le_of_ble_eq_true rfl⟩ rfl (by decide) dX11_hollow_24 (As := [.int (-1 : Int32)]) (st := []) (ok_X11_refuseAct hC.2.2.2.2.2.2.2.1 hW h24) rfl rfl (Nat.le_of_ble_eq_true rfl) ⟨Nat.zero_le _, Nat.zero_le _⟩ ?_
    cases h
    exact g_xiret hC hE.1 rfl dX11_hollow_27 (Nat.zero_le _) (Nat.zero_le _) hE.2
  · replace h := (if_neg c7).symm.trans h
    refine g_iload_n hC dX11_hollow_10 rfl (q := 2) rfl ?_
    refine g_aload_n hC dX11_hollow_11 rfl (q := 0) rfl ?_
    refine g_getr hC fd_RX11_34 rfl (by decide) (C0 := _) (t0 := .int) (Or.inl rfl) (rr_0_4 hW.1) dX11_hollow_12 ?_
    refine g_iload_n hC dX11_hollow_15 rfl (q := 1) rfl ?_
    obtain ⟨r16, h16, h⟩ := oB_some h
    refine g_cV1 hC cv_X9_roomToHollow wd_1193 ⟨Nat.le_of_ble_eq_true rfl, Nat.le_of_ble_eq_true rfl⟩ rfl (by decide) dX11_hollow_16 (As := [.int v1]) (st := [.int v2]) (ok_X9_roomToHollow hC.2.2.2.2.2.2.2.1 (ob_40 hW.1) h16) rfl rfl (Nat.le_of_ble_eq_true rfl) ⟨Nat.zero_le _, Nat.zero_le _⟩ ?_
    refine g_ic_le hC dX11_hollow_19 (tgt := 28) (by decide) (fun c19 => ?_) (fun c19 => ?_)
    · replace h := (if_pos c19).symm.trans h
      refine g_aload_n hC dX11_hollow_28 rfl (q := 0) rfl ?_
      obtain ⟨r29, h29, h⟩ := oB_some h
      refine g_cV0 hC cv_X11_beginAct wd_551 ⟨Nat.le_of_ble_eq_true rfl, Nat.le_of_ble_eq_true rfl⟩ rfl (by decide) dX11_hollow_29 (As := []) (st := []) (ok_X11_beginAct hC.2.2.2.2.2.2.2.1 hW h29) rfl rfl (Nat.le_of_ble_eq_true rfl) ⟨Nat.zero_le _, Nat.zero_le _⟩ ?_
      refine g_aload_n hC dX11_hollow_32 rfl (q := 0) rfl ?_
      refine g_getr hC fd_RX11_34 rfl (by decide) (C0 := _) (t0 := .int) (Or.inl rfl) (rr_0_4 hW.1) dX11_hollow_33 ?_
      refine g_iload_n hC dX11_hollow_36 rfl (q := 1) rfl ?_
      refine g_aload_n hC dX11_hollow_37 rfl (q := 0) rfl ?_
      refine g_getr hC fd_RX11_34 rfl (by decide) (C0 := _) (t0 := .int) (Or.inl rfl) (rr_0_4 hW.1) dX11_hollow_38 ?_
      refine g_iload_n hC dX11_hollow_41 rfl (q := 1) rfl ?_
      obtain ⟨r42, h42, h⟩ := oB_some h
      refine g_cV1 hC cv_X9_hollowOf wd_1190 ⟨Nat.le_of_ble_eq_true rfl, Nat.le_of_ble_eq_true rfl⟩ rfl (by decide) dX11_hollow_42 (As := [.int v1]) (st := [.int v1, .ref (mB E + 40)]) (ok_X9_hollowOf hC.2.2.2.2.2.2.2.1 (ob_40 hW.1) h42) rfl rfl (Nat.le_of_ble_eq_true rfl) ⟨Nat.zero_le _, Nat.zero_le _⟩ ?_
      refine g_iload_n hC dX11_hollow_45 rfl (q := 2) rfl ?_
      refine g_iadd hC dX11_hollow_46 ?_
      obtain ⟨r47, h47, h⟩ := oB_some h
      refine g_cV0 hC cv_X9_setHollow wd_1261 ⟨Nat.le_of_ble_eq_true rfl, Nat.le_of_ble_eq_true rfl⟩ rfl (by decide) dX11_hollow_47 (As := [.int v1, .int (r42 + v2)]) (st := []) (ok_X9_setHollow hC.2.2.2.2.2.2.2.1 (ob_40 hW.1) h47) rfl rfl (Nat.le_of_ble_eq_true rfl) ⟨Nat.zero_le _, Nat.zero_le _⟩ ?_
      refine g_aload_n hC dX11_hollow_50 rfl (q := 0) rfl ?_
      refine g_getr hC fd_RX11_34 rfl (by decide) (C0 := _) (t0 := .int) (Or.inl rfl) (rr_0_4 hW.1) dX11_hollow_51 ?_
      refine g_aload_n hC dX11_hollow_54 rfl (q := 0) rfl ?_
      obtain ⟨p55, e55, h⟩ := oB_some h
      have hp55 : mO5 R p55 := ob5 hW.1 (hW.2.1 p55 e55)
      refine g_getr hC fd_RX11_27 rfl (by decide) (C0 := _) (t0 := .int) (Or.inl rfl) e55 dX11_hollow_55 ?_
      refine g_iload_n hC dX11_hollow_58 rfl (q := 1) rfl ?_
      refine g_iconst hC dX11_hollow_59 (v := (0 : Int32)) (by decide) ?_
      obtain ⟨r60, h60, h⟩ := oB_some h
      refine g_cV1 hC cv_X9_noteOf wd_1192 ⟨Nat.le_of_ble_eq_true rfl, Nat.le_of_ble_eq_true rfl⟩ rfl (by decide) dX11_hollow_60 (As := [.ref (mB E + p55), .int v1, .int (0 : Int32)]) (st := []) (ok_X9_noteOf hC.2.2.2.2.2.2.2.1 (ob_40 hW.1) hp55 h60) rfl rfl (Nat.le_of_ble_eq_true rfl) ⟨Nat.zero_le _, Nat.zero_le _⟩ ?_
      cases h
      exact g_xiret hC hE.1 rfl dX11_hollow_63 (Nat.zero_le _) (Nat.zero_le _) hE.2
    · replace h := (if_neg c19).symm.trans h
      refine g_aload_n hC dX11_hollow_22 rfl (q := 0) rfl ?_
      refine g_iconst hC dX11_hollow_23 (v := (-1 : Int32)) (by decide) ?_
      obtain ⟨r24, h24, h⟩ := oB_some h
      refine g_cV1 hC cv_X11_refuseAct wd_547 ⟨Nat.le_of_ble_eq_true rfl, Nat.le_of_ble_eq_true rfl⟩ rfl (by decide) dX11_hollow_24 (As := [.int (-1 : Int32)]) (st := []) (ok_X11_refuseAct hC.2.2.2.2.2.2.2.1 hW h24) rfl rfl (Nat.le_of_ble_eq_true rfl) ⟨Nat.zero_le _, Nat.zero_le _⟩ ?_
      cases h
      exact g_xiret hC hE.1 rfl dX11_hollow_27 (Nat.zero_le _) (Nat.zero_le _) hE.2
theorem oi_X11_hollow {l : Launch} {E : mEn} {Fu : Nat} {I : mIT} {R : mRT} {L : mLT} {v1 : Int32} {v2 : Int32} (hst : l.stackTraces = false) (hW : mWd R)  {out : Int32 × mIT} (h : f_X11_hollow Fu R I v1 v2 = some (.inl out)) : mOx l E mX11_hollow [.ref (mB E + 0), .int v1, .int v2] 106 1 I R L 0 0 (mSame (some (.int (out.1))) 106 1 (out.2) R L) (fun _ _ _ _ _ _ => False) := oy_X11_hollow hst hW h ⟨rfl, rfl, rfl, rfl, rfl, rfl⟩
theorem ox_X11_hollow {l : Launch} {E : mEn} {Fu : Nat} {I : mIT} {R : mRT} {L : mLT} {v1 : Int32} {v2 : Int32} (hst : l.stackTraces = false) (hW : mWd R)  {q : Nat × mIT} (h : f_X11_hollow Fu R I v1 v2 = some (.inr q)) : mOx l E mX11_hollow [.ref (mB E + 0), .int v1, .int v2] 106 1 I R L 1 6 (fun _ _ _ _ _ _ => False) (mXp q.1 106 1 q.2 R L) := oy_X11_hollow hst hW h ⟨Nat.le_refl _, Nat.le_refl _, rfl, rfl, rfl, rfl, rfl, rfl⟩
noncomputable def f_X11_hook (Fu : Nat) (R : mRT) (I : mIT) (v1 : Int32) : Option ((Int32) ⊕ (Nat × mIT)) :=
  oX (f_X11_checkHook Fu I v1) (fun r2 => oB (R 0 3) (fun p11 => oB (f_X9_rootOn Fu I 40 v1 (I p11 3)) (fun r17 => some (.inl r17))))
set_option maxRecDepth 20000 in
theorem oy_X11_hook {l : Launch} {E : mEn} {Fu : Nat} {I : mIT} {R : mRT} {L : mLT} {v1 : Int32} (hst : l.stackTraces = false) (hW : mWd R)  {out : (Int32) ⊕ (Nat × mIT)} (h : f_X11_hook Fu R I v1 = some out) {mc ms : Nat} {post : Option Value → Nat → Nat → mIT → mRT → mLT → Prop} {px : String → Nat → Nat → mIT → mRT → mLT → Prop} (ho : Sum.elim (fun o : Int32 => post (some (.int (o))) 106 1 I R L) (fun q : Nat × mIT => 1 ≤ mc ∧ 6 ≤ ms ∧ px (xNm q.1) 106 1 q.2 R L) out) : mOx l E mX11_hook [.ref (mB E + 0), .int v1] 106 1 I R L mc ms post px := by
  refine mOx_of hst (by decide) (Nat.le_of_ble_eq_true rfl) (fun X hC hE0 _ => ?_)
  have hE : mEx X E mc ms post px ∧ Sum.elim (fun o : Int32 => post (some (.int (o))) 106 1 I R L) (fun q : Nat × mIT => 1 ≤ mc ∧ 6 ≤ ms ∧ px (xNm q.1) 106 1 q.2 R L) out := ⟨hE0, ho⟩
  have hC : mC X E mX11_hook RX11 cX11_hook := hC
  show mG X E 0 [(0, .ref (mB E + 0)), (1, .int v1)] [] 106 1 I R L 0 0
  unfold f_X11_hook at h
  refine g_aload_n hC dX11_hook_0 rfl (q := 0) rfl ?_
  refine g_iload_n hC dX11_hook_1 rfl (q := 1) rfl ?_
  rcases oX_some h with ⟨r2, h2, h⟩ | ⟨q2, h2, h⟩
  case inr =>
    subst h
    have hq : 1 ≤ mc ∧ 6 ≤ ms ∧ px (xNm q2.1) 106 1 q2.2 R L := hE.2
    exact g_cVz hC hE.1 cv_X11_checkHook wd_1205 ⟨Nat.le_of_ble_eq_true rfl, Nat.le_of_ble_eq_true rfl⟩ rfl (by decide) dX11_hook_2 (As := [.int v1]) (st := []) (ox_X11_checkHook hC.2.2.2.2.2.2.2.1 hW h2) rfl rfl (Nat.le_of_ble_eq_true rfl) ⟨by omega, by omega⟩ hq.2.2
  refine g_cVy0 hC hE.1 cv_X11_checkHook wd_1205 ⟨Nat.le_of_ble_eq_true rfl, Nat.le_of_ble_eq_true rfl⟩ rfl (by decide) dX11_hook_2 (As := [.int v1]) (st := []) (oi_X11_checkHook hC.2.2.2.2.2.2.2.1 hW h2) rfl rfl (Nat.le_of_ble_eq_true rfl) ⟨Nat.zero_le _, Nat.zero_le _⟩ ?_
  refine g_aload_n hC dX11_hook_5 rfl (q := 0) rfl ?_
  refine g_getr hC fd_RX11_34 rfl (by decide) (C0 := _) (t0 := .int) (Or.inl rfl) (rr_0_4 hW.1) dX11_hook_6 ?_
  refine g_iload_n hC dX11_hook_9 rfl (q := 1) rfl ?_
  refine g_aload_n hC dX11_hook_10 rfl (q := 0) rfl ?_
  obtain ⟨p11, e11, h⟩ := oB_some h
  have hp11 : mO5 R p11 := ob5 hW.1 (hW.2.1 p11 e11)
  refine g_getr hC fd_RX11_27 rfl (by decide) (C0 := _) (t0 := .int) (Or.inl rfl) e11 dX11_hook_11 ?_
  refine g_geti hC fd_RX11_140 hp11.2.1 hp11.1 (Or.inl rfl) dX11_hook_14 ?_
  obtain ⟨r17, h17, h⟩ := oB_some h
  refine g_cV1 hC cv_X9_rootOn wd_1210 ⟨Nat.le_of_ble_eq_true rfl, Nat.le_of_ble_eq_true rfl⟩ rfl (by decide) dX11_hook_17 (As := [.int v1, .int (I p11 3)]) (st := []) (ok_X9_rootOn hC.2.2.2.2.2.2.2.1 (ob_40 hW.1) h17) rfl rfl (Nat.le_of_ble_eq_true rfl) ⟨Nat.zero_le _, Nat.zero_le _⟩ ?_
  cases h
  exact g_xiret hC hE.1 rfl dX11_hook_20 (Nat.zero_le _) (Nat.zero_le _) hE.2
theorem oi_X11_hook {l : Launch} {E : mEn} {Fu : Nat} {I : mIT} {R : mRT} {L : mLT} {v1 : Int32} (hst : l.stackTraces = false) (hW : mWd R)  {out : Int32} (h : f_X11_hook Fu R I v1 = some (.inl out)) : mOx l E mX11_hook [.ref (mB E + 0), .int v1] 106 1 I R L 0 0 (mSame (some (.int (out))) 106 1 I R L) (fun _ _ _ _ _ _ => False) := oy_X11_hook hst hW h ⟨rfl, rfl, rfl, rfl, rfl, rfl⟩
theorem ox_X11_hook {l : Launch} {E : mEn} {Fu : Nat} {I : mIT} {R : mRT} {L : mLT} {v1 : Int32} (hst : l.stackTraces = false) (hW : mWd R)  {q : Nat × mIT} (h : f_X11_hook Fu R I v1 = some (.inr q)) : mOx l E mX11_hook [.ref (mB E + 0), .int v1] 106 1 I R L 1 6 (fun _ _ _ _ _ _ => False) (mXp q.1 106 1 q.2 R L) := oy_X11_hook hst hW h ⟨Nat.le_refl _, Nat.le_refl _, rfl, rfl, rfl, rfl, rfl, rfl⟩
noncomputable def f_X4_copyFrom (Fu : Nat) (I : mIT) (k0 : Nat) (k1 : Nat) : Option (mIT) :=
  oG (cpB (0 : Int32) (0 : Int32) (8 : Int32) 8 8) (oG (cpB (0 : Int32) (0 : Int32) (8 : Int32) 8 8) (oG (cpB (0 : Int32) (0 : Int32) (8 : Int32) 8 8) (some (mU (mCp (mCp (mCp I (k1 + 1) (k0 + 1) ((0 : Int32)).toNatClampNeg ((0 : Int32)).toNatClampNeg ((8 : Int32)).toNatClampNeg) (k1 + 2) (k0 + 2) ((0 : Int32)).toNatClampNeg ((0 : Int32)).toNatClampNeg ((8 : Int32)).toNatClampNeg) (k1 + 3) (k0 + 3) ((0 : Int32)).toNatClampNeg ((0 : Int32)).toNatClampNeg ((8 : Int32)).toNatClampNeg) k0 3 ((mCp (mCp (mCp I (k1 + 1) (k0 + 1) ((0 : Int32)).toNatClampNeg ((0 : Int32)).toNatClampNeg ((8 : Int32)).toNatClampNeg) (k1 + 2) (k0 + 2) ((0 : Int32)).toNatClampNeg ((0 : Int32)).toNatClampNeg ((8 : Int32)).toNatClampNeg) (k1 + 3) (k0 + 3) ((0 : Int32)).toNatClampNeg ((0 : Int32)).toNatClampNeg ((8 : Int32)).toNatClampNeg) k1 3)))))
set_option maxRecDepth 20000 in
theorem ok_X4_copyFrom {l : Launch} {E : mEn} {Fu : Nat} {I : mIT} {R : mRT} {L : mLT} {k0 : Nat} {k1 : Nat} (hst : l.stackTraces = false) (hk0 : mO4 R k0) (hk1 : mO4 R k1) {out : mIT} (h : f_X4_copyFrom Fu I k0 k1 = some out) : mOk l E mX4_copyFrom [.ref (mB E + k0), .ref (mB E + k1)] 106 1 I R L 0 0 (mSame none 106 1 (out) R L) := by
  refine mOk_of hst (by decide) (Nat.le_of_ble_eq_true rfl) (fun X hC hE _ => ?_)
  have hC : mC X E mX4_copyFrom RX4 cX4_copyFrom := hC
  show mG X E 0 [(0, .ref (mB E + k0)), (1, .ref (mB E + k1))] [] 106 1 I R L 0 0
  unfold f_X4_copyFrom at h
  refine g_aload_n hC dX4_copyFrom_0 rfl (q := 1) rfl ?_
  refine g_getr hC fd_RX4_9 hk1.2.1 hk1.1 (C0 := "") (t0 := _) (Or.inr rfl) hk1.2.2.1.1 dX4_copyFrom_1 ?_
  refine g_iconst hC dX4_copyFrom_4 (v := (0 : Int32)) (by decide) ?_
  refine g_aload_n hC dX4_copyFrom_5 rfl (q := 0) rfl ?_
  refine g_getr hC fd_RX4_9 hk0.2.1 hk0.1 (C0 := "") (t0 := _) (Or.inr rfl) hk0.2.2.1.1 dX4_copyFrom_6 ?_
  refine g_iconst hC dX4_copyFrom_9 (v := (0 : Int32)) (by decide) ?_
  refine g_bipush hC dX4_copyFrom_10 (v := (8 : Int32)) (by decide) ?_
  obtain ⟨g12, h⟩ := oG_some h
  refine g_copy hC wd_829 wd_na_copy wd_st_copy wd_in_sys hk1.2.2.1.2.2 hk0.2.2.1.2.2 hk1.2.2.1.2.1 hk0.2.2.1.2.1 (cpB_ok g12).1 (cpB_ok g12).2.1 (cpB_ok g12).2.2.1 (cpB_ok g12).2.2.2.1 (cpB_ok g12).2.2.2.2 (Nat.le_of_ble_eq_true rfl) (Nat.le_of_ble_eq_true rfl) (by decide) dX4_copyFrom_12 (nm_e ?_)
  refine g_aload_n hC dX4_copyFrom_15 rfl (q := 1) rfl ?_
  refine g_getr hC fd_RX4_15 hk1.2.1 hk1.1 (C0 := "") (t0 := _) (Or.inr rfl) hk1.2.2.2.1.1 dX4_copyFrom_16 ?_
  refine g_iconst hC dX4_copyFrom_19 (v := (0 : Int32)) (by decide) ?_
  refine g_aload_n hC dX4_copyFrom_20 rfl (q := 0) rfl ?_
  refine g_getr hC fd_RX4_15 hk0.2.1 hk0.1 (C0 := "") (t0 := _) (Or.inr rfl) hk0.2.2.2.1.1 dX4_copyFrom_21 ?_
  refine g_iconst hC dX4_copyFrom_24 (v := (0 : Int32)) (by decide) ?_
  refine g_bipush hC dX4_copyFrom_25 (v := (8 : Int32)) (by decide) ?_
  obtain ⟨g27, h⟩ := oG_some h
  refine g_copy hC wd_829 wd_na_copy wd_st_copy wd_in_sys hk1.2.2.2.1.2.2 hk0.2.2.2.1.2.2 hk1.2.2.2.1.2.1 hk0.2.2.2.1.2.1 (cpB_ok g27).1 (cpB_ok g27).2.1 (cpB_ok g27).2.2.1 (cpB_ok g27).2.2.2.1 (cpB_ok g27).2.2.2.2 (Nat.le_of_ble_eq_true rfl) (Nat.le_of_ble_eq_true rfl) (by decide) dX4_copyFrom_27 (nm_e ?_)
  refine g_aload_n hC dX4_copyFrom_30 rfl (q := 1) rfl ?_
  refine g_getr hC fd_RX4_18 hk1.2.1 hk1.1 (C0 := "") (t0 := _) (Or.inr rfl) hk1.2.2.2.2.1 dX4_copyFrom_31 ?_
  refine g_iconst hC dX4_copyFrom_34 (v := (0 : Int32)) (by decide) ?_
  refine g_aload_n hC dX4_copyFrom_35 rfl (q := 0) rfl ?_
  refine g_getr hC fd_RX4_18 hk0.2.1 hk0.1 (C0 := "") (t0 := _) (Or.inr rfl) hk0.2.2.2.2.1 dX4_copyFrom_36 ?_
  refine g_iconst hC dX4_copyFrom_39 (v := (0 : Int32)) (by decide) ?_
  refine g_bipush hC dX4_copyFrom_40 (v := (8 : Int32)) (by decide) ?_
  obtain ⟨g42, h⟩ := oG_some h
  refine g_copy hC wd_829 wd_na_copy wd_st_copy wd_in_sys hk1.2.2.2.2.2.2 hk0.2.2.2.2.2.2 hk1.2.2.2.2.2.1 hk0.2.2.2.2.2.1 (cpB_ok g42).1 (cpB_ok g42).2.1 (cpB_ok g42).2.2.1 (cpB_ok g42).2.2.2.1 (cpB_ok g42).2.2.2.2 (Nat.le_of_ble_eq_true rfl) (Nat.le_of_ble_eq_true rfl) (by decide) dX4_copyFrom_42 (nm_e ?_)
  refine g_aload_n hC dX4_copyFrom_45 rfl (q := 0) rfl ?_
  refine g_aload_n hC dX4_copyFrom_46 rfl (q := 1) rfl ?_
  refine g_geti hC fd_RX4_21 hk1.2.1 hk1.1 (Or.inl rfl) dX4_copyFrom_47 ?_
  refine g_puti hC fd_RX4_21 hk0.2.1 hk0.1 rfl dX4_copyFrom_50 (nm_e ?_)
  cases h
  exact g_vret hC hE rfl dX4_copyFrom_53 (Nat.zero_le _) (Nat.zero_le _) ⟨rfl, rfl, rfl, rfl, rfl, rfl⟩
noncomputable def f_X11_image (Fu : Nat) (I : mIT)  : Option (mIT) :=
  oB (f_X9_copyFrom Fu I 48 40) (fun r8 => oB (f_X0_copyFrom Fu r8 50 42) (fun r19 => oB (f_X4_copyFrom Fu r19 52 44) (fun r30 => some (mU r30 0 10 (1 : Int32)))))
set_option maxRecDepth 20000 in
theorem ok_X11_image {l : Launch} {E : mEn} {Fu : Nat} {I : mIT} {R : mRT} {L : mLT}  (hst : l.stackTraces = false) (hW : mWd R)  {out : mIT} (h : f_X11_image Fu I  = some out) : mOk l E mX11_image [.ref (mB E + 0)] 106 1 I R L 0 0 (mSame none 106 1 (out) R L) := by
  refine mOk_of hst (by decide) (Nat.le_of_ble_eq_true rfl) (fun X hC hE _ => ?_)
  have hC : mC X E mX11_image RX11 cX11_image := hC
  show mG X E 0 [(0, .ref (mB E + 0))] [] 106 1 I R L 0 0
  unfold f_X11_image at h
  refine g_aload_n hC dX11_image_0 rfl (q := 0) rfl ?_
  refine g_getr hC fd_RX11_52 rfl (by decide) (C0 := _) (t0 := .int) (Or.inl rfl) (rr_0_7 hW.1) dX11_image_1 ?_
  refine g_aload_n hC dX11_image_4 rfl (q := 0) rfl ?_
  refine g_getr hC fd_RX11_34 rfl (by decide) (C0 := _) (t0 := .int) (Or.inl rfl) (rr_0_4 hW.1) dX11_image_5 ?_
  obtain ⟨r8, h8, h⟩ := oB_some h
  refine g_cV0 hC cv_X9_copyFrom wd_819 ⟨Nat.le_of_ble_eq_true rfl, Nat.le_of_ble_eq_true rfl⟩ rfl (by decide) dX11_image_8 (As := [.ref (mB E + 40)]) (st := []) (ok_X9_copyFrom hC.2.2.2.2.2.2.2.1 (ob_48 hW.1) (ob_40 hW.1) h8) rfl rfl (Nat.le_of_ble_eq_true rfl) ⟨Nat.zero_le _, Nat.zero_le _⟩ ?_
  refine g_aload_n hC dX11_image_11 rfl (q := 0) rfl ?_
  refine g_getr hC fd_RX11_55 rfl (by decide) (C0 := _) (t0 := .int) (Or.inl rfl) (rr_0_8 hW.1) dX11_image_12 ?_
  refine g_aload_n hC dX11_image_15 rfl (q := 0) rfl ?_
  refine g_getr hC fd_RX11_41 rfl (by decide) (C0 := _) (t0 := .int) (Or.inl rfl) (rr_0_5 hW.1) dX11_image_16 ?_
  obtain ⟨r19, h19, h⟩ := oB_some h
  refine g_cV0 hC cv_X0_copyFrom wd_820 ⟨Nat.le_of_ble_eq_true rfl, Nat.le_of_ble_eq_true rfl⟩ rfl (by decide) dX11_image_19 (As := [.ref (mB E + 42)]) (st := []) (ok_X0_copyFrom hC.2.2.2.2.2.2.2.1 (ob_50 hW.1) (ob_42 hW.1) h19) rfl rfl (Nat.le_of_ble_eq_true rfl) ⟨Nat.zero_le _, Nat.zero_le _⟩ ?_
  refine g_aload_n hC dX11_image_22 rfl (q := 0) rfl ?_
  refine g_getr hC fd_RX11_58 rfl (by decide) (C0 := _) (t0 := .int) (Or.inl rfl) (rr_0_9 hW.1) dX11_image_23 ?_
  refine g_aload_n hC dX11_image_26 rfl (q := 0) rfl ?_
  refine g_getr hC fd_RX11_48 rfl (by decide) (C0 := _) (t0 := .int) (Or.inl rfl) (rr_0_6 hW.1) dX11_image_27 ?_
  obtain ⟨r30, h30, h⟩ := oB_some h
  refine g_cV0 hC cv_X4_copyFrom wd_825 ⟨Nat.le_of_ble_eq_true rfl, Nat.le_of_ble_eq_true rfl⟩ rfl (by decide) dX11_image_30 (As := [.ref (mB E + 44)]) (st := []) (ok_X4_copyFrom hC.2.2.2.2.2.2.2.1 (ob_52 hW.1) (ob_44 hW.1) h30) rfl rfl (Nat.le_of_ble_eq_true rfl) ⟨Nat.zero_le _, Nat.zero_le _⟩ ?_
  refine g_aload_n hC dX11_image_33 rfl (q := 0) rfl ?_
  refine g_iconst hC dX11_image_34 (v := (1 : Int32)) (by decide) ?_
  refine g_putz hC (by decide) fd_RX11_61 rfl (by decide) rfl dX11_image_35 (nm_e ?_)
  cases h
  exact g_vret hC hE rfl dX11_image_38 (Nat.zero_le _) (Nat.zero_le _) ⟨rfl, rfl, rfl, rfl, rfl, rfl⟩
noncomputable def f_X11_isBeyond (Fu : Nat) (I : mIT) (v1 : Int32) (v2 : Int32) (v3 : Int32) : Option (Int32) :=
  oB (f_X1_noteOn Fu I (0 : Int32) v1) (fun r6 => oB (f_X1_noteOn Fu I (0 : Int32) v2) (fun r15 => if v3 = 0 then (if 0 ≤ (r6 - r15) then (some (0 : Int32)) else (some (1 : Int32))) else (if (r6 - r15) ≤ 0 then (some (0 : Int32)) else (some (1 : Int32)))))
set_option maxRecDepth 20000 in
theorem ok_X11_isBeyond {l : Launch} {E : mEn} {Fu : Nat} {I : mIT} {R : mRT} {L : mLT} {v1 : Int32} {v2 : Int32} {v3 : Int32} (hst : l.stackTraces = false) (hW : mWd R)  {out : Int32} (h : f_X11_isBeyond Fu I v1 v2 v3 = some out) : mOk l E mX11_isBeyond [.ref (mB E + 0), .int v1, .int v2, .int v3] 106 1 I R L 0 0 (mSame (some (.int (out))) 106 1 I R L) := by
  refine mOk_of hst (by decide) (Nat.le_of_ble_eq_true rfl) (fun X hC hE _ => ?_)
  have hC : mC X E mX11_isBeyond RX11 cX11_isBeyond := hC
  show mG X E 0 [(0, .ref (mB E + 0)), (1, .int v1), (2, .int v2), (3, .int v3)] [] 106 1 I R L 0 0
  unfold f_X11_isBeyond at h
  refine g_aload_n hC dX11_isBeyond_0 rfl (q := 0) rfl ?_
  refine g_getr hC fd_RX11_68 rfl (by decide) (C0 := _) (t0 := .int) (Or.inl rfl) (rr_0_11 hW.1) dX11_isBeyond_1 ?_
  refine g_iconst hC dX11_isBeyond_4 (v := (0 : Int32)) (by decide) ?_
  refine g_iload_n hC dX11_isBeyond_5 rfl (q := 1) rfl ?_
  obtain ⟨r6, h6, h⟩ := oB_some h
  refine g_cV1 hC cv_X1_noteOn wd_1293 ⟨Nat.le_of_ble_eq_true rfl, Nat.le_of_ble_eq_true rfl⟩ rfl (by decide) dX11_isBeyond_6 (As := [.int (0 : Int32), .int v1]) (st := []) (ok_X1_noteOn hC.2.2.2.2.2.2.2.1 hW h6) rfl rfl (Nat.le_of_ble_eq_true rfl) ⟨Nat.zero_le _, Nat.zero_le _⟩ ?_
  refine g_aload_n hC dX11_isBeyond_9 rfl (q := 0) rfl ?_
  refine g_getr hC fd_RX11_68 rfl (by decide) (C0 := _) (t0 := .int) (Or.inl rfl) (rr_0_11 hW.1) dX11_isBeyond_10 ?_
  refine g_iconst hC dX11_isBeyond_13 (v := (0 : Int32)) (by decide) ?_
  refine g_iload_n hC dX11_isBeyond_14 rfl (q := 2) rfl ?_
  obtain ⟨r15, h15, h⟩ := oB_some h
  refine g_cV1 hC cv_X1_noteOn wd_1293 ⟨Nat.le_of_ble_eq_true rfl, Nat.le_of_ble_eq_true rfl⟩ rfl (by decide) dX11_isBeyond_15 (As := [.int (0 : Int32), .int v2]) (st := [.int r6]) (ok_X1_noteOn hC.2.2.2.2.2.2.2.1 hW h15) rfl rfl (Nat.le_of_ble_eq_true rfl) ⟨Nat.zero_le _, Nat.zero_le _⟩ ?_
  refine g_isub hC dX11_isBeyond_18 ?_
  refine g_istore hC dX11_isBeyond_19 rfl (by decide) (lv' := [(4, .int (r6 - r15)), (0, .ref (mB E + 0)), (1, .int v1), (2, .int v2), (3, .int v3)]) rfl ?_
  refine g_iload_n hC dX11_isBeyond_21 rfl (q := 4) rfl ?_
  refine g_if_ne hC dX11_isBeyond_22 (tgt := 38) (by decide) (fun c22 => ?_) (fun c22 => ?_)
  · replace h := (if_neg c22).symm.trans h
    refine g_iload hC dX11_isBeyond_38 (q := 0) rfl ?_
    refine g_if_le hC dX11_isBeyond_40 (tgt := 47) (by decide) (fun c40 => ?_) (fun c40 => ?_)
    · replace h := (if_pos c40).symm.trans h
      refine g_iconst hC dX11_isBeyond_47 (v := (0 : Int32)) (by decide) ?_
      cases h
      exact g_zret hC (by decide) hE rfl dX11_isBeyond_48 (Nat.zero_le _) (Nat.zero_le _) ⟨rfl, rfl, rfl, rfl, rfl, rfl⟩
    · replace h := (if_neg c40).symm.trans h
      refine g_iconst hC dX11_isBeyond_43 (v := (1 : Int32)) (by decide) ?_
      refine g_goto hC dX11_isBeyond_44 (tgt := 48) (by decide) ?_
      cases h
      exact g_zret hC (by decide) hE rfl dX11_isBeyond_48 (Nat.zero_le _) (Nat.zero_le _) ⟨rfl, rfl, rfl, rfl, rfl, rfl⟩
  · replace h := (if_pos c22).symm.trans h
    refine g_iload hC dX11_isBeyond_25 (q := 0) rfl ?_
    refine g_if_ge hC dX11_isBeyond_27 (tgt := 34) (by decide) (fun c27 => ?_) (fun c27 => ?_)
    · replace h := (if_pos c27).symm.trans h
      refine g_iconst hC dX11_isBeyond_34 (v := (0 : Int32)) (by decide) ?_
      refine g_goto hC dX11_isBeyond_35 (tgt := 48) (by decide) ?_
      cases h
      exact g_zret hC (by decide) hE rfl dX11_isBeyond_48 (Nat.zero_le _) (Nat.zero_le _) ⟨rfl, rfl, rfl, rfl, rfl, rfl⟩
    · replace h := (if_neg c27).symm.trans h
      refine g_iconst hC dX11_isBeyond_30 (v := (1 : Int32)) (by decide) ?_
      refine g_goto hC dX11_isBeyond_31 (tgt := 48) (by decide) ?_
      cases h
      exact g_zret hC (by decide) hE rfl dX11_isBeyond_48 (Nat.zero_le _) (Nat.zero_le _) ⟨rfl, rfl, rfl, rfl, rfl, rfl⟩
