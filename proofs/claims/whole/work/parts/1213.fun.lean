noncomputable def b_X12_meets_70 (Fu : Nat) (k70_ : Int32 × Int32 × Int32 × Int32 × Int32 × mIT → Option (Int32 × mIT)) (v1 : Int32) (v2 : Int32) (v3 : Int32) (v4 : Int32) (v5 : Int32) (I : mIT) : Option (Int32 × mIT) :=
  if v3 ≤ v5 then (some (v4, I)) else (oB (f_X12_ringsMany Fu I v5) (fun r79 => oB (f_X12_placeOf Fu r79.2 v1 r79.1) (fun r88 => oB (f_X12_placeOf Fu r79.2 v2 r79.1) (fun r95 => if (r88 - r95) = (1 : Int32) then (k70_ (v1, v2, v3, (v4 + (1 : Int32)), (v5 + (1 : Int32)), r79.2)) else (if (r88 - r95) = (-1 : Int32) then (k70_ (v1, v2, v3, (v4 + (1 : Int32)), (v5 + (1 : Int32)), r79.2)) else (k70_ (v1, v2, v3, (v4 + (0 : Int32)), (v5 + (1 : Int32)), r79.2)))))))
set_option maxRecDepth 20000 in
theorem bo_X12_meets_70 {X : mXT} {E : mEn} {Fu : Nat} {R : mRT} {L : mLT}  (hC : mC X E mX12_meets RX12 cX12_meets) (hW : mWd R)   {out : Int32 × mIT} (hE : mEd X E 0 0 (mSame (some (.int (out.1))) 106 1 (out.2) R L)) (k70_ : Int32 × Int32 × Int32 × Int32 × Int32 × mIT → Option (Int32 × mIT)) (hk70_ : ∀ (v1 : Int32) (v2 : Int32) (v3 : Int32) (v4 : Int32) (v5 : Int32) (I : mIT),  k70_ (v1, v2, v3, v4, v5, I) = some out → mG X E 70 [(0, .ref (mB E + 75)), (1, .int v1), (2, .int v2), (3, .int v3), (4, .int v4), (5, .int v5)] [] 106 1 I R L 0 0) (v1 : Int32) (v2 : Int32) (v3 : Int32) (v4 : Int32) (v5 : Int32) (I : mIT) (h : b_X12_meets_70 Fu k70_ v1 v2 v3 v4 v5 I = some out) : mG X E 70 [(0, .ref (mB E + 75)), (1, .int v1), (2, .int v2), (3, .int v3), (4, .int v4), (5, .int v5)] [] 106 1 I R L 0 0 := by
  unfold b_X12_meets_70 at h
  refine g_iload hC dX12_meets_70 (q := 5) rfl ?_
  refine g_iload_n hC dX12_meets_72 rfl (q := 3) rfl ?_
  refine g_ic_ge hC dX12_meets_73 (tgt := 129) (by decide) (fun c73 => ?_) (fun c73 => ?_)
  · replace h := (if_pos c73).symm.trans h
    refine g_iload hC dX12_meets_129 (q := 4) rfl ?_
    cases h
    exact g_iret hC hE rfl dX12_meets_131 (Nat.zero_le _) (Nat.zero_le _) ⟨rfl, rfl, rfl, rfl, rfl, rfl⟩
  · replace h := (if_neg c73).symm.trans h
    refine g_aload_n hC dX12_meets_76 rfl (q := 0) rfl ?_
    refine g_iload hC dX12_meets_77 (q := 5) rfl ?_
    obtain ⟨r79, h79, h⟩ := oB_some h
    refine g_cV1 hC cv_X12_ringsMany wd_2154 ⟨Nat.le_of_ble_eq_true rfl, Nat.le_of_ble_eq_true rfl⟩ rfl (by decide) dX12_meets_79 (As := [.int v5]) (st := []) (ok_X12_ringsMany hC.2.2.2.2.2.2.2.1 hW h79) rfl rfl (Nat.le_of_ble_eq_true rfl) ⟨Nat.zero_le _, Nat.zero_le _⟩ ?_
    refine g_istore hC dX12_meets_82 rfl (by decide) (lv' := [(6, .int r79.1), (0, .ref (mB E + 75)), (1, .int v1), (2, .int v2), (3, .int v3), (4, .int v4), (5, .int v5)]) rfl ?_
    refine g_aload_n hC dX12_meets_84 rfl (q := 1) rfl ?_
    refine g_iload_n hC dX12_meets_85 rfl (q := 2) rfl ?_
    refine g_iload hC dX12_meets_86 (q := 0) rfl ?_
    obtain ⟨r88, h88, h⟩ := oB_some h
    refine g_cV1 hC cv_X12_placeOf wd_2294 ⟨Nat.le_of_ble_eq_true rfl, Nat.le_of_ble_eq_true rfl⟩ rfl (by decide) dX12_meets_88 (As := [.int v1, .int r79.1]) (st := []) (ok_X12_placeOf hC.2.2.2.2.2.2.2.1 hW h88) rfl rfl (Nat.le_of_ble_eq_true rfl) ⟨Nat.zero_le _, Nat.zero_le _⟩ ?_
    refine g_aload_n hC dX12_meets_91 rfl (q := 1) rfl ?_
    refine g_iload_n hC dX12_meets_92 rfl (q := 3) rfl ?_
    refine g_iload hC dX12_meets_93 (q := 0) rfl ?_
    obtain ⟨r95, h95, h⟩ := oB_some h
    refine g_cV1 hC cv_X12_placeOf wd_2294 ⟨Nat.le_of_ble_eq_true rfl, Nat.le_of_ble_eq_true rfl⟩ rfl (by decide) dX12_meets_95 (As := [.int v2, .int r79.1]) (st := [.int r88]) (ok_X12_placeOf hC.2.2.2.2.2.2.2.1 hW h95) rfl rfl (Nat.le_of_ble_eq_true rfl) ⟨Nat.zero_le _, Nat.zero_le _⟩ ?_
    refine g_isub hC dX12_meets_98 ?_
    refine g_istore hC dX12_meets_99 rfl (by decide) (lv' := [(7, .int (r88 - r95)), (6, .int r79.1), (0, .ref (mB E + 75)), (1, .int v1), (2, .int v2), (3, .int v3), (4, .int v4), (5, .int v5)]) rfl ?_
    refine g_iload hC dX12_meets_101 (q := 6) rfl ?_
    refine g_iload hC dX12_meets_103 (q := 0) rfl ?_
    refine g_iconst hC dX12_meets_105 (v := (1 : Int32)) (by decide) ?_
    refine g_ic_eq hC dX12_meets_106 (tgt := 115) (by decide) (fun c106 => ?_) (fun c106 => ?_)
    · replace h := (if_pos c106).symm.trans h
      refine g_iconst hC dX12_meets_115 (v := (1 : Int32)) (by decide) ?_
      refine g_goto hC dX12_meets_116 (tgt := 120) (by decide) ?_
      refine g_iadd hC dX12_meets_120 ?_
      refine g_istore hC dX12_meets_121 rfl (by decide) (lv' := [(4, .int (v4 + (1 : Int32))), (7, .int (r88 - r95)), (6, .int r79.1), (0, .ref (mB E + 75)), (1, .int v1), (2, .int v2), (3, .int v3), (5, .int v5)]) rfl ?_
      refine g_iinc hC dX12_meets_123 rfl (q := 7) rfl (w := (v5 + (1 : Int32))) rfl (by decide) (lv' := [(5, .int (v5 + (1 : Int32))), (4, .int (v4 + (1 : Int32))), (7, .int (r88 - r95)), (6, .int r79.1), (0, .ref (mB E + 75)), (1, .int v1), (2, .int v2), (3, .int v3)]) rfl ?_
      refine g_goto hC dX12_meets_126 (tgt := 70) (by decide) ?_
      refine g_lv [4, 5, 6, 7, 1, 0] rfl ?_
      exact hk70_ v1 v2 v3 (v4 + (1 : Int32)) (v5 + (1 : Int32)) r79.2 h
    · replace h := (if_neg c106).symm.trans h
      refine g_iload hC dX12_meets_109 (q := 0) rfl ?_
      refine g_iconst hC dX12_meets_111 (v := (-1 : Int32)) (by decide) ?_
      refine g_ic_ne hC dX12_meets_112 (tgt := 119) (by decide) (fun c112 => ?_) (fun c112 => ?_)
      · replace h := (if_neg c112).symm.trans h
        refine g_iconst hC dX12_meets_119 (v := (0 : Int32)) (by decide) ?_
        refine g_iadd hC dX12_meets_120 ?_
        refine g_istore hC dX12_meets_121 rfl (by decide) (lv' := [(4, .int (v4 + (0 : Int32))), (7, .int (r88 - r95)), (6, .int r79.1), (0, .ref (mB E + 75)), (1, .int v1), (2, .int v2), (3, .int v3), (5, .int v5)]) rfl ?_
        refine g_iinc hC dX12_meets_123 rfl (q := 7) rfl (w := (v5 + (1 : Int32))) rfl (by decide) (lv' := [(5, .int (v5 + (1 : Int32))), (4, .int (v4 + (0 : Int32))), (7, .int (r88 - r95)), (6, .int r79.1), (0, .ref (mB E + 75)), (1, .int v1), (2, .int v2), (3, .int v3)]) rfl ?_
        refine g_goto hC dX12_meets_126 (tgt := 70) (by decide) ?_
        refine g_lv [4, 5, 6, 7, 1, 0] rfl ?_
        exact hk70_ v1 v2 v3 (v4 + (0 : Int32)) (v5 + (1 : Int32)) r79.2 h
      · replace h := (if_pos c112).symm.trans h
        refine g_iconst hC dX12_meets_115 (v := (1 : Int32)) (by decide) ?_
        refine g_goto hC dX12_meets_116 (tgt := 120) (by decide) ?_
        refine g_iadd hC dX12_meets_120 ?_
        refine g_istore hC dX12_meets_121 rfl (by decide) (lv' := [(4, .int (v4 + (1 : Int32))), (7, .int (r88 - r95)), (6, .int r79.1), (0, .ref (mB E + 75)), (1, .int v1), (2, .int v2), (3, .int v3), (5, .int v5)]) rfl ?_
        refine g_iinc hC dX12_meets_123 rfl (q := 7) rfl (w := (v5 + (1 : Int32))) rfl (by decide) (lv' := [(5, .int (v5 + (1 : Int32))), (4, .int (v4 + (1 : Int32))), (7, .int (r88 - r95)), (6, .int r79.1), (0, .ref (mB E + 75)), (1, .int v1), (2, .int v2), (3, .int v3)]) rfl ?_
        refine g_goto hC dX12_meets_126 (tgt := 70) (by decide) ?_
        refine g_lv [4, 5, 6, 7, 1, 0] rfl ?_
        exact hk70_ v1 v2 v3 (v4 + (1 : Int32)) (v5 + (1 : Int32)) r79.2 h
noncomputable def w_X12_meets_70 (Fu : Nat)  (N : Nat) (v1 : Int32) (v2 : Int32) (v3 : Int32) (v4 : Int32) (v5 : Int32) (I : mIT) : Option (Int32 × mIT) :=
  loopF (fun self (s : Int32 × Int32 × Int32 × Int32 × Int32 × mIT) => b_X12_meets_70 Fu self s.1 s.2.1 s.2.2.1 s.2.2.2.1 s.2.2.2.2.1 s.2.2.2.2.2) N (v1, v2, v3, v4, v5, I)
theorem wo_X12_meets_70 {X : mXT} {E : mEn} {Fu : Nat} {R : mRT} {L : mLT}  (hC : mC X E mX12_meets RX12 cX12_meets) (hW : mWd R)   {out : Int32 × mIT} (hE : mEd X E 0 0 (mSame (some (.int (out.1))) 106 1 (out.2) R L))  (N : Nat) (v1 : Int32) (v2 : Int32) (v3 : Int32) (v4 : Int32) (v5 : Int32) (I : mIT) (h : w_X12_meets_70 Fu  N v1 v2 v3 v4 v5 I = some out) : mG X E 70 [(0, .ref (mB E + 75)), (1, .int v1), (2, .int v2), (3, .int v3), (4, .int v4), (5, .int v5)] [] 106 1 I R L 0 0 :=
  loopF_ok (Gd := fun s : Int32 × Int32 × Int32 × Int32 × Int32 × mIT => mG X E 70 [(0, .ref (mB E + 75)), (1, .int s.1), (2, .int s.2.1), (3, .int s.2.2.1), (4, .int s.2.2.2.1), (5, .int s.2.2.2.2.1)] [] 106 1 s.2.2.2.2.2 R L 0 0) (fun self hs s h => bo_X12_meets_70 hC hW hE self (fun v1 v2 v3 v4 v5 I h => hs (v1, v2, v3, v4, v5, I) h) s.1 s.2.1 s.2.2.1 s.2.2.2.1 s.2.2.2.2.1 s.2.2.2.2.2 h) N (v1, v2, v3, v4, v5, I) h
noncomputable def f_X12_meets (Fu : Nat) (I : mIT) (v1 : Int32) (v2 : Int32) : Option (Int32 × mIT) :=
  oB (f_X12_isRoot Fu (mU I 75 0 (0 : Int32)) v1) (fun r7 => if r7.1 = 0 then (some ((0 : Int32), r7.2)) else (oB (f_X12_isRoot Fu r7.2 v2) (fun r15 => if r15.1 = 0 then (some ((0 : Int32), r15.2)) else (if (r15.2 75 5) = 0 then (some ((0 : Int32), r15.2)) else (if v1 = v2 then (some ((0 : Int32), r15.2)) else (oB (f_X12_hangs Fu r15.2 (0 : Int32) v1) (fun r38 => if r38 = 0 then (some ((0 : Int32), r15.2)) else (oB (f_X12_hangs Fu r15.2 (0 : Int32) v2) (fun r47 => if r47 = 0 then (some ((0 : Int32), r15.2)) else (oB (f_X12_bells Fu r15.2) (fun r57 => oB (f_X12_lengthNow Fu r57.2 r57.1) (fun r60 => w_X12_meets_70 Fu Fu v1 v2 r60.1 (0 : Int32) (0 : Int32) r60.2))))))))))))
set_option maxRecDepth 20000 in
theorem ok_X12_meets {l : Launch} {E : mEn} {Fu : Nat} {I : mIT} {R : mRT} {L : mLT} {v1 : Int32} {v2 : Int32} (hst : l.stackTraces = false) (hW : mWd R)  {out : Int32 × mIT} (h : f_X12_meets Fu I v1 v2 = some out) : mOk l E mX12_meets [.ref (mB E + 75), .int v1, .int v2] 106 1 I R L 0 0 (mSame (some (.int (out.1))) 106 1 (out.2) R L) := by
  refine mOk_of hst (by decide) (Nat.le_of_ble_eq_true rfl) (fun X hC hE _ => ?_)
  have hC : mC X E mX12_meets RX12 cX12_meets := hC
  show mG X E 0 [(0, .ref (mB E + 75)), (1, .int v1), (2, .int v2)] [] 106 1 I R L 0 0
  unfold f_X12_meets at h
  refine g_aload_n hC dX12_meets_0 rfl (q := 0) rfl ?_
  refine g_iconst hC dX12_meets_1 (v := (0 : Int32)) (by decide) ?_
  refine g_puti hC fd_RX12_114 rfl (by decide) rfl dX12_meets_2 (nm_e ?_)
  refine g_aload_n hC dX12_meets_5 rfl (q := 0) rfl ?_
  refine g_iload_n hC dX12_meets_6 rfl (q := 1) rfl ?_
  obtain ⟨r7, h7, h⟩ := oB_some h
  refine g_cV1 hC cv_X12_isRoot wd_2034 ⟨Nat.le_of_ble_eq_true rfl, Nat.le_of_ble_eq_true rfl⟩ rfl (by decide) dX12_meets_7 (As := [.int v1]) (st := []) (ok_X12_isRoot hC.2.2.2.2.2.2.2.1 hW h7) rfl rfl (Nat.le_of_ble_eq_true rfl) ⟨Nat.zero_le _, Nat.zero_le _⟩ ?_
  refine g_if_eq hC dX12_meets_10 (tgt := 33) (by decide) (fun c10 => ?_) (fun c10 => ?_)
  · replace h := (if_pos c10).symm.trans h
    refine g_iconst hC dX12_meets_33 (v := (0 : Int32)) (by decide) ?_
    cases h
    exact g_iret hC hE rfl dX12_meets_34 (Nat.zero_le _) (Nat.zero_le _) ⟨rfl, rfl, rfl, rfl, rfl, rfl⟩
  · replace h := (if_neg c10).symm.trans h
    refine g_aload_n hC dX12_meets_13 rfl (q := 0) rfl ?_
    refine g_iload_n hC dX12_meets_14 rfl (q := 2) rfl ?_
    obtain ⟨r15, h15, h⟩ := oB_some h
    refine g_cV1 hC cv_X12_isRoot wd_2034 ⟨Nat.le_of_ble_eq_true rfl, Nat.le_of_ble_eq_true rfl⟩ rfl (by decide) dX12_meets_15 (As := [.int v2]) (st := []) (ok_X12_isRoot hC.2.2.2.2.2.2.2.1 hW h15) rfl rfl (Nat.le_of_ble_eq_true rfl) ⟨Nat.zero_le _, Nat.zero_le _⟩ ?_
    refine g_if_eq hC dX12_meets_18 (tgt := 33) (by decide) (fun c18 => ?_) (fun c18 => ?_)
    · replace h := (if_pos c18).symm.trans h
      refine g_iconst hC dX12_meets_33 (v := (0 : Int32)) (by decide) ?_
      cases h
      exact g_iret hC hE rfl dX12_meets_34 (Nat.zero_le _) (Nat.zero_le _) ⟨rfl, rfl, rfl, rfl, rfl, rfl⟩
    · replace h := (if_neg c18).symm.trans h
      refine g_aload_n hC dX12_meets_21 rfl (q := 0) rfl ?_
      refine g_geti hC fd_RX12_298 rfl (by decide) (Or.inl rfl) dX12_meets_22 ?_
      refine g_if_eq hC dX12_meets_25 (tgt := 33) (by decide) (fun c25 => ?_) (fun c25 => ?_)
      · replace h := (if_pos c25).symm.trans h
        refine g_iconst hC dX12_meets_33 (v := (0 : Int32)) (by decide) ?_
        cases h
        exact g_iret hC hE rfl dX12_meets_34 (Nat.zero_le _) (Nat.zero_le _) ⟨rfl, rfl, rfl, rfl, rfl, rfl⟩
      · replace h := (if_neg c25).symm.trans h
        refine g_iload_n hC dX12_meets_28 rfl (q := 1) rfl ?_
        refine g_iload_n hC dX12_meets_29 rfl (q := 2) rfl ?_
        refine g_ic_ne hC dX12_meets_30 (tgt := 35) (by decide) (fun c30 => ?_) (fun c30 => ?_)
        · replace h := (if_neg c30).symm.trans h
          refine g_aload_n hC dX12_meets_35 rfl (q := 0) rfl ?_
          refine g_iconst hC dX12_meets_36 (v := (0 : Int32)) (by decide) ?_
          refine g_iload_n hC dX12_meets_37 rfl (q := 1) rfl ?_
          obtain ⟨r38, h38, h⟩ := oB_some h
          refine g_cV1 hC cv_X12_hangs wd_2004 ⟨Nat.le_of_ble_eq_true rfl, Nat.le_of_ble_eq_true rfl⟩ rfl (by decide) dX12_meets_38 (As := [.int (0 : Int32), .int v1]) (st := []) (ok_X12_hangs hC.2.2.2.2.2.2.2.1 hW h38) rfl rfl (Nat.le_of_ble_eq_true rfl) ⟨Nat.zero_le _, Nat.zero_le _⟩ ?_
          refine g_if_eq hC dX12_meets_41 (tgt := 53) (by decide) (fun c41 => ?_) (fun c41 => ?_)
          · replace h := (if_pos c41).symm.trans h
            refine g_iconst hC dX12_meets_53 (v := (0 : Int32)) (by decide) ?_
            cases h
            exact g_iret hC hE rfl dX12_meets_54 (Nat.zero_le _) (Nat.zero_le _) ⟨rfl, rfl, rfl, rfl, rfl, rfl⟩
          · replace h := (if_neg c41).symm.trans h
            refine g_aload_n hC dX12_meets_44 rfl (q := 0) rfl ?_
            refine g_iconst hC dX12_meets_45 (v := (0 : Int32)) (by decide) ?_
            refine g_iload_n hC dX12_meets_46 rfl (q := 2) rfl ?_
            obtain ⟨r47, h47, h⟩ := oB_some h
            refine g_cV1 hC cv_X12_hangs wd_2004 ⟨Nat.le_of_ble_eq_true rfl, Nat.le_of_ble_eq_true rfl⟩ rfl (by decide) dX12_meets_47 (As := [.int (0 : Int32), .int v2]) (st := []) (ok_X12_hangs hC.2.2.2.2.2.2.2.1 hW h47) rfl rfl (Nat.le_of_ble_eq_true rfl) ⟨Nat.zero_le _, Nat.zero_le _⟩ ?_
            refine g_if_ne hC dX12_meets_50 (tgt := 55) (by decide) (fun c50 => ?_) (fun c50 => ?_)
            · replace h := (if_neg c50).symm.trans h
              refine g_aload_n hC dX12_meets_55 rfl (q := 0) rfl ?_
              refine g_aload_n hC dX12_meets_56 rfl (q := 0) rfl ?_
              obtain ⟨r57, h57, h⟩ := oB_some h
              refine g_cV1 hC cv_X12_bells wd_1984 ⟨Nat.le_of_ble_eq_true rfl, Nat.le_of_ble_eq_true rfl⟩ rfl (by decide) dX12_meets_57 (As := []) (st := [.ref (mB E + 75)]) (ok_X12_bells hC.2.2.2.2.2.2.2.1 hW h57) rfl rfl (Nat.le_of_ble_eq_true rfl) ⟨Nat.zero_le _, Nat.zero_le _⟩ ?_
              obtain ⟨r60, h60, h⟩ := oB_some h
              refine g_cV1 hC cv_X12_lengthNow wd_2178 ⟨Nat.le_of_ble_eq_true rfl, Nat.le_of_ble_eq_true rfl⟩ rfl (by decide) dX12_meets_60 (As := [.int r57.1]) (st := []) (ok_X12_lengthNow hC.2.2.2.2.2.2.2.1 hW h60) rfl rfl (Nat.le_of_ble_eq_true rfl) ⟨Nat.zero_le _, Nat.zero_le _⟩ ?_
              refine g_istore_n hC dX12_meets_63 rfl rfl (by decide) (lv' := [(3, .int r60.1), (0, .ref (mB E + 75)), (1, .int v1), (2, .int v2)]) rfl ?_
              refine g_iconst hC dX12_meets_64 (v := (0 : Int32)) (by decide) ?_
              refine g_istore hC dX12_meets_65 rfl (by decide) (lv' := [(4, .int (0 : Int32)), (3, .int r60.1), (0, .ref (mB E + 75)), (1, .int v1), (2, .int v2)]) rfl ?_
              refine g_iconst hC dX12_meets_67 (v := (0 : Int32)) (by decide) ?_
              refine g_istore hC dX12_meets_68 rfl (by decide) (lv' := [(5, .int (0 : Int32)), (4, .int (0 : Int32)), (3, .int r60.1), (0, .ref (mB E + 75)), (1, .int v1), (2, .int v2)]) rfl ?_
              refine g_lv [3, 4, 5, 2, 1, 0] rfl ?_
              exact wo_X12_meets_70 hC hW hE Fu (v1) (v2) (r60.1) ((0 : Int32)) ((0 : Int32)) (r60.2) h
            · replace h := (if_pos c50).symm.trans h
              refine g_iconst hC dX12_meets_53 (v := (0 : Int32)) (by decide) ?_
              cases h
              exact g_iret hC hE rfl dX12_meets_54 (Nat.zero_le _) (Nat.zero_le _) ⟨rfl, rfl, rfl, rfl, rfl, rfl⟩
        · replace h := (if_pos c30).symm.trans h
          refine g_iconst hC dX12_meets_33 (v := (0 : Int32)) (by decide) ?_
          cases h
          exact g_iret hC hE rfl dX12_meets_34 (Nat.zero_le _) (Nat.zero_le _) ⟨rfl, rfl, rfl, rfl, rfl, rfl⟩
noncomputable def b_X12_mouth_69 (Fu : Nat) (k23_ : Int32 × Int32 × Int32 × Int32 × mIT → Option (Int32 × mIT)) (v1 : Int32) (v2 : Int32) (v3 : Int32) (v4 : Int32) (s0 : Int32) (I : mIT) : Option (Int32 × mIT) :=
  if v2 = (-1 : Int32) then (k23_ (v1, v4, s0, (v4 + (1 : Int32)), I)) else (if v3 < s0 then (k23_ (v1, v4, s0, (v4 + (1 : Int32)), I)) else (k23_ (v1, v2, v3, (v4 + (1 : Int32)), I)))
set_option maxRecDepth 20000 in
theorem bo_X12_mouth_69 {X : mXT} {E : mEn} {Fu : Nat} {R : mRT} {L : mLT}  (hC : mC X E mX12_mouth RX12 cX12_mouth) (hW : mWd R)   {out : Int32 × mIT} (hE : mEd X E 0 0 (mSame (some (.int (out.1))) 106 1 (out.2) R L)) (k23_ : Int32 × Int32 × Int32 × Int32 × mIT → Option (Int32 × mIT)) (hk23_ : ∀ (v1 : Int32) (v2 : Int32) (v3 : Int32) (v4 : Int32) (I : mIT),  k23_ (v1, v2, v3, v4, I) = some out → mG X E 23 [(0, .ref (mB E + 75)), (1, .int v1), (2, .int v2), (3, .int v3), (4, .int v4)] [] 106 1 I R L 0 0) (v1 : Int32) (v2 : Int32) (v3 : Int32) (v4 : Int32) (s0 : Int32) (I : mIT) (h : b_X12_mouth_69 Fu k23_ v1 v2 v3 v4 s0 I = some out) : mG X E 69 [(0, .ref (mB E + 75)), (1, .int v1), (2, .int v2), (3, .int v3), (4, .int v4)] [.int s0] 106 1 I R L 0 0 := by
  unfold b_X12_mouth_69 at h
  refine g_istore hC dX12_mouth_69 rfl (by decide) (lv' := [(5, .int s0), (0, .ref (mB E + 75)), (1, .int v1), (2, .int v2), (3, .int v3), (4, .int v4)]) rfl ?_
  refine g_iload_n hC dX12_mouth_71 rfl (q := 3) rfl ?_
  refine g_iconst hC dX12_mouth_72 (v := (-1 : Int32)) (by decide) ?_
  refine g_ic_eq hC dX12_mouth_73 (tgt := 85) (by decide) (fun c73 => ?_) (fun c73 => ?_)
  · replace h := (if_pos c73).symm.trans h
    refine g_iload hC dX12_mouth_85 (q := 5) rfl ?_
    refine g_istore_n hC dX12_mouth_87 rfl rfl (by decide) (lv' := [(2, .int v4), (5, .int s0), (0, .ref (mB E + 75)), (1, .int v1), (3, .int v3), (4, .int v4)]) rfl ?_
    refine g_iload hC dX12_mouth_88 (q := 1) rfl ?_
    refine g_istore_n hC dX12_mouth_90 rfl rfl (by decide) (lv' := [(3, .int s0), (2, .int v4), (5, .int s0), (0, .ref (mB E + 75)), (1, .int v1), (4, .int v4)]) rfl ?_
    refine g_iinc hC dX12_mouth_91 rfl (q := 5) rfl (w := (v4 + (1 : Int32))) rfl (by decide) (lv' := [(4, .int (v4 + (1 : Int32))), (3, .int s0), (2, .int v4), (5, .int s0), (0, .ref (mB E + 75)), (1, .int v1)]) rfl ?_
    refine g_goto hC dX12_mouth_94 (tgt := 23) (by decide) ?_
    refine g_lv [4, 5, 2, 1, 0] rfl ?_
    exact hk23_ v1 v4 s0 (v4 + (1 : Int32)) I h
  · replace h := (if_neg c73).symm.trans h
    refine g_iload hC dX12_mouth_76 (q := 0) rfl ?_
    refine g_iload_n hC dX12_mouth_78 rfl (q := 4) rfl ?_
    refine g_ic_gt hC dX12_mouth_79 (tgt := 85) (by decide) (fun c79 => ?_) (fun c79 => ?_)
    · replace h := (if_pos c79).symm.trans h
      refine g_iload hC dX12_mouth_85 (q := 5) rfl ?_
      refine g_istore_n hC dX12_mouth_87 rfl rfl (by decide) (lv' := [(2, .int v4), (5, .int s0), (0, .ref (mB E + 75)), (1, .int v1), (3, .int v3), (4, .int v4)]) rfl ?_
      refine g_iload hC dX12_mouth_88 (q := 1) rfl ?_
      refine g_istore_n hC dX12_mouth_90 rfl rfl (by decide) (lv' := [(3, .int s0), (2, .int v4), (5, .int s0), (0, .ref (mB E + 75)), (1, .int v1), (4, .int v4)]) rfl ?_
      refine g_iinc hC dX12_mouth_91 rfl (q := 5) rfl (w := (v4 + (1 : Int32))) rfl (by decide) (lv' := [(4, .int (v4 + (1 : Int32))), (3, .int s0), (2, .int v4), (5, .int s0), (0, .ref (mB E + 75)), (1, .int v1)]) rfl ?_
      refine g_goto hC dX12_mouth_94 (tgt := 23) (by decide) ?_
      refine g_lv [4, 5, 2, 1, 0] rfl ?_
      exact hk23_ v1 v4 s0 (v4 + (1 : Int32)) I h
    · replace h := (if_neg c79).symm.trans h
      refine g_goto hC dX12_mouth_82 (tgt := 91) (by decide) ?_
      refine g_iinc hC dX12_mouth_91 rfl (q := 5) rfl (w := (v4 + (1 : Int32))) rfl (by decide) (lv' := [(4, .int (v4 + (1 : Int32))), (5, .int s0), (0, .ref (mB E + 75)), (1, .int v1), (2, .int v2), (3, .int v3)]) rfl ?_
      refine g_goto hC dX12_mouth_94 (tgt := 23) (by decide) ?_
      refine g_lv [2, 3, 4, 5, 0] rfl ?_
      exact hk23_ v1 v2 v3 (v4 + (1 : Int32)) I h
noncomputable def b_X12_mouth_23 (Fu : Nat) (k23_ : Int32 × Int32 × Int32 × Int32 × mIT → Option (Int32 × mIT)) (v1 : Int32) (v2 : Int32) (v3 : Int32) (v4 : Int32) (I : mIT) : Option (Int32 × mIT) :=
  if (I 75 1) ≤ v4 then (some (v2, I)) else (oB (f_X12_sounds Fu I (0 : Int32) v4) (fun r36 => if r36 = 0 then (k23_ (v1, v2, v3, (v4 + (1 : Int32)), I)) else (if v1 = 0 then (oB (f_X12_noteOf Fu I (0 : Int32) v4) (fun r55 => b_X12_mouth_69 Fu k23_ v1 v2 v3 v4 ((15 : Int32) - r55.1) r55.2)) else (oB (f_X12_noteOf Fu I (0 : Int32) v4) (fun r66 => b_X12_mouth_69 Fu k23_ v1 v2 v3 v4 r66.1 r66.2)))))
set_option maxRecDepth 20000 in
theorem bo_X12_mouth_23 {X : mXT} {E : mEn} {Fu : Nat} {R : mRT} {L : mLT}  (hC : mC X E mX12_mouth RX12 cX12_mouth) (hW : mWd R)   {out : Int32 × mIT} (hE : mEd X E 0 0 (mSame (some (.int (out.1))) 106 1 (out.2) R L)) (k23_ : Int32 × Int32 × Int32 × Int32 × mIT → Option (Int32 × mIT)) (hk23_ : ∀ (v1 : Int32) (v2 : Int32) (v3 : Int32) (v4 : Int32) (I : mIT),  k23_ (v1, v2, v3, v4, I) = some out → mG X E 23 [(0, .ref (mB E + 75)), (1, .int v1), (2, .int v2), (3, .int v3), (4, .int v4)] [] 106 1 I R L 0 0) (v1 : Int32) (v2 : Int32) (v3 : Int32) (v4 : Int32) (I : mIT) (h : b_X12_mouth_23 Fu k23_ v1 v2 v3 v4 I = some out) : mG X E 23 [(0, .ref (mB E + 75)), (1, .int v1), (2, .int v2), (3, .int v3), (4, .int v4)] [] 106 1 I R L 0 0 := by
  unfold b_X12_mouth_23 at h
  refine g_iload hC dX12_mouth_23 (q := 4) rfl ?_
  refine g_aload_n hC dX12_mouth_25 rfl (q := 0) rfl ?_
  refine g_geti hC fd_RX12_289 rfl (by decide) (Or.inl rfl) dX12_mouth_26 ?_
  refine g_ic_ge hC dX12_mouth_29 (tgt := 97) (by decide) (fun c29 => ?_) (fun c29 => ?_)
  · replace h := (if_pos c29).symm.trans h
    refine g_iload_n hC dX12_mouth_97 rfl (q := 2) rfl ?_
    cases h
    exact g_iret hC hE rfl dX12_mouth_98 (Nat.zero_le _) (Nat.zero_le _) ⟨rfl, rfl, rfl, rfl, rfl, rfl⟩
  · replace h := (if_neg c29).symm.trans h
    refine g_aload_n hC dX12_mouth_32 rfl (q := 0) rfl ?_
    refine g_iconst hC dX12_mouth_33 (v := (0 : Int32)) (by decide) ?_
    refine g_iload hC dX12_mouth_34 (q := 4) rfl ?_
    obtain ⟨r36, h36, h⟩ := oB_some h
    refine g_cV1 hC cv_X12_sounds wd_2000 ⟨Nat.le_of_ble_eq_true rfl, Nat.le_of_ble_eq_true rfl⟩ rfl (by decide) dX12_mouth_36 (As := [.int (0 : Int32), .int v4]) (st := []) (ok_X12_sounds hC.2.2.2.2.2.2.2.1 hW h36) rfl rfl (Nat.le_of_ble_eq_true rfl) ⟨Nat.zero_le _, Nat.zero_le _⟩ ?_
    refine g_if_ne hC dX12_mouth_39 (tgt := 45) (by decide) (fun c39 => ?_) (fun c39 => ?_)
    · replace h := (if_neg c39).symm.trans h
      refine g_iload_n hC dX12_mouth_45 rfl (q := 1) rfl ?_
      refine g_if_ne hC dX12_mouth_46 (tgt := 62) (by decide) (fun c46 => ?_) (fun c46 => ?_)
      · replace h := (if_neg c46).symm.trans h
        refine g_aload_n hC dX12_mouth_62 rfl (q := 0) rfl ?_
        refine g_iconst hC dX12_mouth_63 (v := (0 : Int32)) (by decide) ?_
        refine g_iload hC dX12_mouth_64 (q := 4) rfl ?_
        obtain ⟨r66, h66, h⟩ := oB_some h
        refine g_cV1 hC cv_X12_noteOf wd_2012 ⟨Nat.le_of_ble_eq_true rfl, Nat.le_of_ble_eq_true rfl⟩ rfl (by decide) dX12_mouth_66 (As := [.int (0 : Int32), .int v4]) (st := []) (ok_X12_noteOf hC.2.2.2.2.2.2.2.1 hW h66) rfl rfl (Nat.le_of_ble_eq_true rfl) ⟨Nat.zero_le _, Nat.zero_le _⟩ ?_
        exact bo_X12_mouth_69 hC hW hE k23_ hk23_ (v1) (v2) (v3) (v4) (r66.1) (r66.2) h
      · replace h := (if_pos c46).symm.trans h
        refine g_bipush hC dX12_mouth_49 (v := (15 : Int32)) (by decide) ?_
        refine g_aload_n hC dX12_mouth_51 rfl (q := 0) rfl ?_
        refine g_iconst hC dX12_mouth_52 (v := (0 : Int32)) (by decide) ?_
        refine g_iload hC dX12_mouth_53 (q := 4) rfl ?_
        obtain ⟨r55, h55, h⟩ := oB_some h
        refine g_cV1 hC cv_X12_noteOf wd_2012 ⟨Nat.le_of_ble_eq_true rfl, Nat.le_of_ble_eq_true rfl⟩ rfl (by decide) dX12_mouth_55 (As := [.int (0 : Int32), .int v4]) (st := [.int (15 : Int32)]) (ok_X12_noteOf hC.2.2.2.2.2.2.2.1 hW h55) rfl rfl (Nat.le_of_ble_eq_true rfl) ⟨Nat.zero_le _, Nat.zero_le _⟩ ?_
        refine g_isub hC dX12_mouth_58 ?_
        refine g_goto hC dX12_mouth_59 (tgt := 69) (by decide) ?_
        exact bo_X12_mouth_69 hC hW hE k23_ hk23_ (v1) (v2) (v3) (v4) (((15 : Int32) - r55.1)) (r55.2) h
    · replace h := (if_pos c39).symm.trans h
      refine g_goto hC dX12_mouth_42 (tgt := 91) (by decide) ?_
      refine g_iinc hC dX12_mouth_91 rfl (q := 4) rfl (w := (v4 + (1 : Int32))) rfl (by decide) (lv' := [(4, .int (v4 + (1 : Int32))), (0, .ref (mB E + 75)), (1, .int v1), (2, .int v2), (3, .int v3)]) rfl ?_
      refine g_goto hC dX12_mouth_94 (tgt := 23) (by decide) ?_
      refine g_lv [1, 2, 3, 4, 0] rfl ?_
      exact hk23_ v1 v2 v3 (v4 + (1 : Int32)) I h
noncomputable def w_X12_mouth_23 (Fu : Nat)  (N : Nat) (v1 : Int32) (v2 : Int32) (v3 : Int32) (v4 : Int32) (I : mIT) : Option (Int32 × mIT) :=
  loopF (fun self (s : Int32 × Int32 × Int32 × Int32 × mIT) => b_X12_mouth_23 Fu self s.1 s.2.1 s.2.2.1 s.2.2.2.1 s.2.2.2.2) N (v1, v2, v3, v4, I)
theorem wo_X12_mouth_23 {X : mXT} {E : mEn} {Fu : Nat} {R : mRT} {L : mLT}  (hC : mC X E mX12_mouth RX12 cX12_mouth) (hW : mWd R)   {out : Int32 × mIT} (hE : mEd X E 0 0 (mSame (some (.int (out.1))) 106 1 (out.2) R L))  (N : Nat) (v1 : Int32) (v2 : Int32) (v3 : Int32) (v4 : Int32) (I : mIT) (h : w_X12_mouth_23 Fu  N v1 v2 v3 v4 I = some out) : mG X E 23 [(0, .ref (mB E + 75)), (1, .int v1), (2, .int v2), (3, .int v3), (4, .int v4)] [] 106 1 I R L 0 0 :=
  loopF_ok (Gd := fun s : Int32 × Int32 × Int32 × Int32 × mIT => mG X E 23 [(0, .ref (mB E + 75)), (1, .int s.1), (2, .int s.2.1), (3, .int s.2.2.1), (4, .int s.2.2.2.1)] [] 106 1 s.2.2.2.2 R L 0 0) (fun self hs s h => bo_X12_mouth_23 hC hW hE self (fun v1 v2 v3 v4 I h => hs (v1, v2, v3, v4, I) h) s.1 s.2.1 s.2.2.1 s.2.2.2.1 s.2.2.2.2 h) N (v1, v2, v3, v4, I) h
noncomputable def f_X12_mouth (Fu : Nat) (I : mIT) (v1 : Int32) : Option (Int32 × mIT) :=
  oB (f_X12_isWhat Fu (mU I 75 0 (0 : Int32)) v1 (1 : Int32)) (fun r8 => if r8.1 = 0 then (some ((0 : Int32), r8.2)) else (w_X12_mouth_23 Fu Fu v1 (-1 : Int32) (0 : Int32) (0 : Int32) r8.2))
set_option maxRecDepth 20000 in
theorem ok_X12_mouth {l : Launch} {E : mEn} {Fu : Nat} {I : mIT} {R : mRT} {L : mLT} {v1 : Int32} (hst : l.stackTraces = false) (hW : mWd R)  {out : Int32 × mIT} (h : f_X12_mouth Fu I v1 = some out) : mOk l E mX12_mouth [.ref (mB E + 75), .int v1] 106 1 I R L 0 0 (mSame (some (.int (out.1))) 106 1 (out.2) R L) := by
  refine mOk_of hst (by decide) (Nat.le_of_ble_eq_true rfl) (fun X hC hE _ => ?_)
  have hC : mC X E mX12_mouth RX12 cX12_mouth := hC
  show mG X E 0 [(0, .ref (mB E + 75)), (1, .int v1)] [] 106 1 I R L 0 0
  unfold f_X12_mouth at h
  refine g_aload_n hC dX12_mouth_0 rfl (q := 0) rfl ?_
  refine g_iconst hC dX12_mouth_1 (v := (0 : Int32)) (by decide) ?_
  refine g_puti hC fd_RX12_114 rfl (by decide) rfl dX12_mouth_2 (nm_e ?_)
  refine g_aload_n hC dX12_mouth_5 rfl (q := 0) rfl ?_
  refine g_iload_n hC dX12_mouth_6 rfl (q := 1) rfl ?_
  refine g_iconst hC dX12_mouth_7 (v := (1 : Int32)) (by decide) ?_
  obtain ⟨r8, h8, h⟩ := oB_some h
  refine g_cV1 hC cv_X12_isWhat wd_2038 ⟨Nat.le_of_ble_eq_true rfl, Nat.le_of_ble_eq_true rfl⟩ rfl (by decide) dX12_mouth_8 (As := [.int v1, .int (1 : Int32)]) (st := []) (ok_X12_isWhat hC.2.2.2.2.2.2.2.1 hW h8) rfl rfl (Nat.le_of_ble_eq_true rfl) ⟨Nat.zero_le _, Nat.zero_le _⟩ ?_
  refine g_if_ne hC dX12_mouth_11 (tgt := 16) (by decide) (fun c11 => ?_) (fun c11 => ?_)
  · replace h := (if_neg c11).symm.trans h
    refine g_iconst hC dX12_mouth_16 (v := (-1 : Int32)) (by decide) ?_
    refine g_istore_n hC dX12_mouth_17 rfl rfl (by decide) (lv' := [(2, .int (-1 : Int32)), (0, .ref (mB E + 75)), (1, .int v1)]) rfl ?_
    refine g_iconst hC dX12_mouth_18 (v := (0 : Int32)) (by decide) ?_
    refine g_istore_n hC dX12_mouth_19 rfl rfl (by decide) (lv' := [(3, .int (0 : Int32)), (2, .int (-1 : Int32)), (0, .ref (mB E + 75)), (1, .int v1)]) rfl ?_
    refine g_iconst hC dX12_mouth_20 (v := (0 : Int32)) (by decide) ?_
    refine g_istore hC dX12_mouth_21 rfl (by decide) (lv' := [(4, .int (0 : Int32)), (3, .int (0 : Int32)), (2, .int (-1 : Int32)), (0, .ref (mB E + 75)), (1, .int v1)]) rfl ?_
    refine g_lv [3, 4, 2, 1, 0] rfl ?_
    exact wo_X12_mouth_23 hC hW hE Fu (v1) ((-1 : Int32)) ((0 : Int32)) ((0 : Int32)) (r8.2) h
  · replace h := (if_pos c11).symm.trans h
    refine g_iconst hC dX12_mouth_14 (v := (0 : Int32)) (by decide) ?_
    cases h
    exact g_iret hC hE rfl dX12_mouth_15 (Nat.zero_le _) (Nat.zero_le _) ⟨rfl, rfl, rfl, rfl, rfl, rfl⟩
noncomputable def f_X12_needed (Fu : Nat) (I : mIT) (v1 : Int32) (v2 : Int32) : Option (Int32 × mIT) :=
  oB (f_X12_isRoot Fu (mU I 75 0 (0 : Int32)) v1) (fun r7 => if r7.1 = 0 then (some ((0 : Int32), r7.2)) else (oB (f_X12_isNote Fu r7.2 v2) (fun r15 => if r15.1 = 0 then (some ((0 : Int32), r15.2)) else (oB (f_X12_costOf Fu r15.2 v1 v2) (fun r26 => if r26.1 = (9999 : Int32) then (some ((-1 : Int32), r26.2)) else (some (r26.1, r26.2)))))))
set_option maxRecDepth 20000 in
theorem ok_X12_needed {l : Launch} {E : mEn} {Fu : Nat} {I : mIT} {R : mRT} {L : mLT} {v1 : Int32} {v2 : Int32} (hst : l.stackTraces = false) (hW : mWd R)  {out : Int32 × mIT} (h : f_X12_needed Fu I v1 v2 = some out) : mOk l E mX12_needed [.ref (mB E + 75), .int v1, .int v2] 106 1 I R L 0 0 (mSame (some (.int (out.1))) 106 1 (out.2) R L) := by
  refine mOk_of hst (by decide) (Nat.le_of_ble_eq_true rfl) (fun X hC hE _ => ?_)
  have hC : mC X E mX12_needed RX12 cX12_needed := hC
  show mG X E 0 [(0, .ref (mB E + 75)), (1, .int v1), (2, .int v2)] [] 106 1 I R L 0 0
  unfold f_X12_needed at h
  refine g_aload_n hC dX12_needed_0 rfl (q := 0) rfl ?_
  refine g_iconst hC dX12_needed_1 (v := (0 : Int32)) (by decide) ?_
  refine g_puti hC fd_RX12_114 rfl (by decide) rfl dX12_needed_2 (nm_e ?_)
  refine g_aload_n hC dX12_needed_5 rfl (q := 0) rfl ?_
  refine g_iload_n hC dX12_needed_6 rfl (q := 1) rfl ?_
  obtain ⟨r7, h7, h⟩ := oB_some h
  refine g_cV1 hC cv_X12_isRoot wd_2034 ⟨Nat.le_of_ble_eq_true rfl, Nat.le_of_ble_eq_true rfl⟩ rfl (by decide) dX12_needed_7 (As := [.int v1]) (st := []) (ok_X12_isRoot hC.2.2.2.2.2.2.2.1 hW h7) rfl rfl (Nat.le_of_ble_eq_true rfl) ⟨Nat.zero_le _, Nat.zero_le _⟩ ?_
  refine g_if_eq hC dX12_needed_10 (tgt := 21) (by decide) (fun c10 => ?_) (fun c10 => ?_)
  · replace h := (if_pos c10).symm.trans h
    refine g_iconst hC dX12_needed_21 (v := (0 : Int32)) (by decide) ?_
    cases h
    exact g_iret hC hE rfl dX12_needed_22 (Nat.zero_le _) (Nat.zero_le _) ⟨rfl, rfl, rfl, rfl, rfl, rfl⟩
  · replace h := (if_neg c10).symm.trans h
    refine g_aload_n hC dX12_needed_13 rfl (q := 0) rfl ?_
    refine g_iload_n hC dX12_needed_14 rfl (q := 2) rfl ?_
    obtain ⟨r15, h15, h⟩ := oB_some h
    refine g_cV1 hC cv_X12_isNote wd_2274 ⟨Nat.le_of_ble_eq_true rfl, Nat.le_of_ble_eq_true rfl⟩ rfl (by decide) dX12_needed_15 (As := [.int v2]) (st := []) (ok_X12_isNote hC.2.2.2.2.2.2.2.1 hW h15) rfl rfl (Nat.le_of_ble_eq_true rfl) ⟨Nat.zero_le _, Nat.zero_le _⟩ ?_
    refine g_if_ne hC dX12_needed_18 (tgt := 23) (by decide) (fun c18 => ?_) (fun c18 => ?_)
    · replace h := (if_neg c18).symm.trans h
      refine g_aload_n hC dX12_needed_23 rfl (q := 0) rfl ?_
      refine g_iload_n hC dX12_needed_24 rfl (q := 1) rfl ?_
      refine g_iload_n hC dX12_needed_25 rfl (q := 2) rfl ?_
      obtain ⟨r26, h26, h⟩ := oB_some h
      refine g_cV1 hC cv_X12_costOf wd_2198 ⟨Nat.le_of_ble_eq_true rfl, Nat.le_of_ble_eq_true rfl⟩ rfl (by decide) dX12_needed_26 (As := [.int v1, .int v2]) (st := []) (ok_X12_costOf hC.2.2.2.2.2.2.2.1 hW h26) rfl rfl (Nat.le_of_ble_eq_true rfl) ⟨Nat.zero_le _, Nat.zero_le _⟩ ?_
      refine g_istore_n hC dX12_needed_29 rfl rfl (by decide) (lv' := [(3, .int r26.1), (0, .ref (mB E + 75)), (1, .int v1), (2, .int v2)]) rfl ?_
      refine g_iload_n hC dX12_needed_30 rfl (q := 0) rfl ?_
      refine g_sipush hC dX12_needed_31 (v := (9999 : Int32)) (by decide) ?_
      refine g_ic_ne hC dX12_needed_34 (tgt := 41) (by decide) (fun c34 => ?_) (fun c34 => ?_)
      · replace h := (if_neg c34).symm.trans h
        refine g_iload_n hC dX12_needed_41 rfl (q := 0) rfl ?_
        cases h
        exact g_iret hC hE rfl dX12_needed_42 (Nat.zero_le _) (Nat.zero_le _) ⟨rfl, rfl, rfl, rfl, rfl, rfl⟩
      · replace h := (if_pos c34).symm.trans h
        refine g_iconst hC dX12_needed_37 (v := (-1 : Int32)) (by decide) ?_
        refine g_goto hC dX12_needed_38 (tgt := 42) (by decide) ?_
        cases h
        exact g_iret hC hE rfl dX12_needed_42 (Nat.zero_le _) (Nat.zero_le _) ⟨rfl, rfl, rfl, rfl, rfl, rfl⟩
    · replace h := (if_pos c18).symm.trans h
      refine g_iconst hC dX12_needed_21 (v := (0 : Int32)) (by decide) ?_
      cases h
      exact g_iret hC hE rfl dX12_needed_22 (Nat.zero_le _) (Nat.zero_le _) ⟨rfl, rfl, rfl, rfl, rfl, rfl⟩
noncomputable def b_X12_next_119 (Fu : Nat) (k94_ : Int32 × Int32 × Int32 × Int32 × Int32 × mIT → Option (Int32 × mIT)) (k107_ : Int32 × Int32 × Int32 × Int32 × Int32 × Int32 × Int32 × mIT → Option (Int32 × mIT)) (k119_ : Int32 × Int32 × Int32 × Int32 × Int32 × Int32 × Int32 × Int32 × Int32 × mIT → Option (Int32 × mIT)) (v1 : Int32) (v2 : Int32) (v3 : Int32) (v4 : Int32) (v5 : Int32) (v6 : Int32) (v7 : Int32) (v8 : Int32) (v9 : Int32) (I : mIT) : Option (Int32 × mIT) :=
  if v7 ≤ v9 then (if v8 = 0 then (k107_ (v1, v2, v3, v4, v5, (v6 + (0 : Int32)), (v7 + (1 : Int32)), I)) else (k107_ (v1, v2, v3, v4, v5, (v6 + (1 : Int32)), (v7 + (1 : Int32)), I))) else (if v8 = 0 then (if v8 = 0 then (k107_ (v1, v2, v3, v4, v5, (v6 + (0 : Int32)), (v7 + (1 : Int32)), I)) else (k107_ (v1, v2, v3, v4, v5, (v6 + (1 : Int32)), (v7 + (1 : Int32)), I))) else (oG (inB (((31 : Int32) * v7) + v5) 3100) (oG (inB (((31 : Int32) * v9) + v5) 3100) (if (I 101 ((((31 : Int32) * v7) + v5)).toNatClampNeg) = (I 101 ((((31 : Int32) * v9) + v5)).toNatClampNeg) then (k119_ (v1, v2, v3, v4, v5, v6, v7, (0 : Int32), (v9 + (1 : Int32)), I)) else (k119_ (v1, v2, v3, v4, v5, v6, v7, (1 : Int32), (v9 + (1 : Int32)), I))))))
set_option maxRecDepth 20000 in
theorem bo_X12_next_119 {X : mXT} {E : mEn} {Fu : Nat} {R : mRT} {L : mLT}  (hC : mC X E mX12_next RX12 cX12_next) (hW : mWd R)   {out : Int32 × mIT} (hE : mEd X E 0 0 (mSame (some (.int (out.1))) 106 1 (out.2) R L)) (k94_ : Int32 × Int32 × Int32 × Int32 × Int32 × mIT → Option (Int32 × mIT)) (hk94_ : ∀ (v1 : Int32) (v2 : Int32) (v3 : Int32) (v4 : Int32) (v5 : Int32) (I : mIT),  k94_ (v1, v2, v3, v4, v5, I) = some out → mG X E 94 [(0, .ref (mB E + 75)), (1, .int v1), (2, .int v2), (3, .int v3), (4, .int v4), (5, .int v5)] [] 106 1 I R L 0 0) (k107_ : Int32 × Int32 × Int32 × Int32 × Int32 × Int32 × Int32 × mIT → Option (Int32 × mIT)) (hk107_ : ∀ (v1 : Int32) (v2 : Int32) (v3 : Int32) (v4 : Int32) (v5 : Int32) (v6 : Int32) (v7 : Int32) (I : mIT),  k107_ (v1, v2, v3, v4, v5, v6, v7, I) = some out → mG X E 107 [(0, .ref (mB E + 75)), (1, .int v1), (2, .int v2), (3, .int v3), (4, .int v4), (5, .int v5), (6, .int v6), (7, .int v7)] [] 106 1 I R L 0 0) (k119_ : Int32 × Int32 × Int32 × Int32 × Int32 × Int32 × Int32 × Int32 × Int32 × mIT → Option (Int32 × mIT)) (hk119_ : ∀ (v1 : Int32) (v2 : Int32) (v3 : Int32) (v4 : Int32) (v5 : Int32) (v6 : Int32) (v7 : Int32) (v8 : Int32) (v9 : Int32) (I : mIT),  k119_ (v1, v2, v3, v4, v5, v6, v7, v8, v9, I) = some out → mG X E 119 [(0, .ref (mB E + 75)), (1, .int v1), (2, .int v2), (3, .int v3), (4, .int v4), (5, .int v5), (6, .int v6), (7, .int v7), (8, .int v8), (9, .int v9)] [] 106 1 I R L 0 0) (v1 : Int32) (v2 : Int32) (v3 : Int32) (v4 : Int32) (v5 : Int32) (v6 : Int32) (v7 : Int32) (v8 : Int32) (v9 : Int32) (I : mIT) (h : b_X12_next_119 Fu k94_ k107_ k119_ v1 v2 v3 v4 v5 v6 v7 v8 v9 I = some out) : mG X E 119 [(0, .ref (mB E + 75)), (1, .int v1), (2, .int v2), (3, .int v3), (4, .int v4), (5, .int v5), (6, .int v6), (7, .int v7), (8, .int v8), (9, .int v9)] [] 106 1 I R L 0 0 := by
  unfold b_X12_next_119 at h
  refine g_iload hC dX12_next_119 (q := 9) rfl ?_
  refine g_iload hC dX12_next_121 (q := 7) rfl ?_
  refine g_ic_ge hC dX12_next_123 (tgt := 173) (by decide) (fun c123 => ?_) (fun c123 => ?_)
  · replace h := (if_pos c123).symm.trans h
    refine g_iload hC dX12_next_173 (q := 6) rfl ?_
    refine g_iload hC dX12_next_175 (q := 8) rfl ?_
    refine g_if_eq hC dX12_next_177 (tgt := 184) (by decide) (fun c177 => ?_) (fun c177 => ?_)
    · replace h := (if_pos c177).symm.trans h
      refine g_iconst hC dX12_next_184 (v := (0 : Int32)) (by decide) ?_
      refine g_iadd hC dX12_next_185 ?_
      refine g_istore hC dX12_next_186 rfl (by decide) (lv' := [(6, .int (v6 + (0 : Int32))), (0, .ref (mB E + 75)), (1, .int v1), (2, .int v2), (3, .int v3), (4, .int v4), (5, .int v5), (7, .int v7), (8, .int v8), (9, .int v9)]) rfl ?_
      refine g_iinc hC dX12_next_188 rfl (q := 7) rfl (w := (v7 + (1 : Int32))) rfl (by decide) (lv' := [(7, .int (v7 + (1 : Int32))), (6, .int (v6 + (0 : Int32))), (0, .ref (mB E + 75)), (1, .int v1), (2, .int v2), (3, .int v3), (4, .int v4), (5, .int v5), (8, .int v8), (9, .int v9)]) rfl ?_
      refine g_goto hC dX12_next_191 (tgt := 107) (by decide) ?_
      refine g_lv [2, 3, 4, 5, 6, 7, 1, 0] rfl ?_
      exact hk107_ v1 v2 v3 v4 v5 (v6 + (0 : Int32)) (v7 + (1 : Int32)) I h
    · replace h := (if_neg c177).symm.trans h
      refine g_iconst hC dX12_next_180 (v := (1 : Int32)) (by decide) ?_
      refine g_goto hC dX12_next_181 (tgt := 185) (by decide) ?_
      refine g_iadd hC dX12_next_185 ?_
      refine g_istore hC dX12_next_186 rfl (by decide) (lv' := [(6, .int (v6 + (1 : Int32))), (0, .ref (mB E + 75)), (1, .int v1), (2, .int v2), (3, .int v3), (4, .int v4), (5, .int v5), (7, .int v7), (8, .int v8), (9, .int v9)]) rfl ?_
      refine g_iinc hC dX12_next_188 rfl (q := 7) rfl (w := (v7 + (1 : Int32))) rfl (by decide) (lv' := [(7, .int (v7 + (1 : Int32))), (6, .int (v6 + (1 : Int32))), (0, .ref (mB E + 75)), (1, .int v1), (2, .int v2), (3, .int v3), (4, .int v4), (5, .int v5), (8, .int v8), (9, .int v9)]) rfl ?_
      refine g_goto hC dX12_next_191 (tgt := 107) (by decide) ?_
      refine g_lv [2, 3, 4, 5, 6, 7, 1, 0] rfl ?_
      exact hk107_ v1 v2 v3 v4 v5 (v6 + (1 : Int32)) (v7 + (1 : Int32)) I h
  · replace h := (if_neg c123).symm.trans h
    refine g_iload hC dX12_next_126 (q := 8) rfl ?_
    refine g_if_eq hC dX12_next_128 (tgt := 173) (by decide) (fun c128 => ?_) (fun c128 => ?_)
    · replace h := (if_pos c128).symm.trans h
      refine g_iload hC dX12_next_173 (q := 6) rfl ?_
      refine g_iload hC dX12_next_175 (q := 8) rfl ?_
      refine g_if_eq hC dX12_next_177 (tgt := 184) (by decide) (fun c177 => ?_) (fun c177 => ?_)
      · replace h := (if_pos c177).symm.trans h
        refine g_iconst hC dX12_next_184 (v := (0 : Int32)) (by decide) ?_
        refine g_iadd hC dX12_next_185 ?_
        refine g_istore hC dX12_next_186 rfl (by decide) (lv' := [(6, .int (v6 + (0 : Int32))), (0, .ref (mB E + 75)), (1, .int v1), (2, .int v2), (3, .int v3), (4, .int v4), (5, .int v5), (7, .int v7), (8, .int v8), (9, .int v9)]) rfl ?_
        refine g_iinc hC dX12_next_188 rfl (q := 7) rfl (w := (v7 + (1 : Int32))) rfl (by decide) (lv' := [(7, .int (v7 + (1 : Int32))), (6, .int (v6 + (0 : Int32))), (0, .ref (mB E + 75)), (1, .int v1), (2, .int v2), (3, .int v3), (4, .int v4), (5, .int v5), (8, .int v8), (9, .int v9)]) rfl ?_
        refine g_goto hC dX12_next_191 (tgt := 107) (by decide) ?_
        refine g_lv [2, 3, 4, 5, 6, 7, 1, 0] rfl ?_
        exact hk107_ v1 v2 v3 v4 v5 (v6 + (0 : Int32)) (v7 + (1 : Int32)) I h
      · replace h := (if_neg c177).symm.trans h
        refine g_iconst hC dX12_next_180 (v := (1 : Int32)) (by decide) ?_
        refine g_goto hC dX12_next_181 (tgt := 185) (by decide) ?_
        refine g_iadd hC dX12_next_185 ?_
        refine g_istore hC dX12_next_186 rfl (by decide) (lv' := [(6, .int (v6 + (1 : Int32))), (0, .ref (mB E + 75)), (1, .int v1), (2, .int v2), (3, .int v3), (4, .int v4), (5, .int v5), (7, .int v7), (8, .int v8), (9, .int v9)]) rfl ?_
        refine g_iinc hC dX12_next_188 rfl (q := 7) rfl (w := (v7 + (1 : Int32))) rfl (by decide) (lv' := [(7, .int (v7 + (1 : Int32))), (6, .int (v6 + (1 : Int32))), (0, .ref (mB E + 75)), (1, .int v1), (2, .int v2), (3, .int v3), (4, .int v4), (5, .int v5), (8, .int v8), (9, .int v9)]) rfl ?_
        refine g_goto hC dX12_next_191 (tgt := 107) (by decide) ?_
        refine g_lv [2, 3, 4, 5, 6, 7, 1, 0] rfl ?_
        exact hk107_ v1 v2 v3 v4 v5 (v6 + (1 : Int32)) (v7 + (1 : Int32)) I h
    · replace h := (if_neg c128).symm.trans h
      refine g_aload_n hC dX12_next_131 rfl (q := 0) rfl ?_
      refine g_getr hC fd_RX12_102 rfl (by decide) (C0 := "") (t0 := _) (Or.inr rfl) (rr_75_58 hW.1) dX12_next_132 ?_
      refine g_bipush hC dX12_next_135 (v := (31 : Int32)) (by decide) ?_
      refine g_iload hC dX12_next_137 (q := 7) rfl ?_
      refine g_imul hC dX12_next_139 ?_
      refine g_iload hC dX12_next_140 (q := 5) rfl ?_
      refine g_iadd hC dX12_next_142 ?_
      obtain ⟨g143, h⟩ := oG_some h
      refine g_iald hC rfl (by decide) (inB_in g143) dX12_next_143 ?_
      refine g_aload_n hC dX12_next_144 rfl (q := 0) rfl ?_
      refine g_getr hC fd_RX12_102 rfl (by decide) (C0 := "") (t0 := _) (Or.inr rfl) (rr_75_58 hW.1) dX12_next_145 ?_
      refine g_bipush hC dX12_next_148 (v := (31 : Int32)) (by decide) ?_
      refine g_iload hC dX12_next_150 (q := 9) rfl ?_
      refine g_imul hC dX12_next_152 ?_
      refine g_iload hC dX12_next_153 (q := 5) rfl ?_
      refine g_iadd hC dX12_next_155 ?_
      obtain ⟨g156, h⟩ := oG_some h
      refine g_iald hC rfl (by decide) (inB_in g156) dX12_next_156 ?_
      refine g_ic_eq hC dX12_next_157 (tgt := 164) (by decide) (fun c157 => ?_) (fun c157 => ?_)
      · replace h := (if_pos c157).symm.trans h
        refine g_iconst hC dX12_next_164 (v := (0 : Int32)) (by decide) ?_
        refine g_istore hC dX12_next_165 rfl (by decide) (lv' := [(8, .int (0 : Int32)), (0, .ref (mB E + 75)), (1, .int v1), (2, .int v2), (3, .int v3), (4, .int v4), (5, .int v5), (6, .int v6), (7, .int v7), (9, .int v9)]) rfl ?_
        refine g_iinc hC dX12_next_167 rfl (q := 9) rfl (w := (v9 + (1 : Int32))) rfl (by decide) (lv' := [(9, .int (v9 + (1 : Int32))), (8, .int (0 : Int32)), (0, .ref (mB E + 75)), (1, .int v1), (2, .int v2), (3, .int v3), (4, .int v4), (5, .int v5), (6, .int v6), (7, .int v7)]) rfl ?_
        refine g_goto hC dX12_next_170 (tgt := 119) (by decide) ?_
        refine g_lv [2, 3, 4, 5, 6, 7, 8, 9, 1, 0] rfl ?_
        exact hk119_ v1 v2 v3 v4 v5 v6 v7 (0 : Int32) (v9 + (1 : Int32)) I h
      · replace h := (if_neg c157).symm.trans h
        refine g_iconst hC dX12_next_160 (v := (1 : Int32)) (by decide) ?_
        refine g_goto hC dX12_next_161 (tgt := 165) (by decide) ?_
        refine g_istore hC dX12_next_165 rfl (by decide) (lv' := [(8, .int (1 : Int32)), (0, .ref (mB E + 75)), (1, .int v1), (2, .int v2), (3, .int v3), (4, .int v4), (5, .int v5), (6, .int v6), (7, .int v7), (9, .int v9)]) rfl ?_
        refine g_iinc hC dX12_next_167 rfl (q := 9) rfl (w := (v9 + (1 : Int32))) rfl (by decide) (lv' := [(9, .int (v9 + (1 : Int32))), (8, .int (1 : Int32)), (0, .ref (mB E + 75)), (1, .int v1), (2, .int v2), (3, .int v3), (4, .int v4), (5, .int v5), (6, .int v6), (7, .int v7)]) rfl ?_
        refine g_goto hC dX12_next_170 (tgt := 119) (by decide) ?_
        refine g_lv [2, 3, 4, 5, 6, 7, 8, 9, 1, 0] rfl ?_
        exact hk119_ v1 v2 v3 v4 v5 v6 v7 (1 : Int32) (v9 + (1 : Int32)) I h
noncomputable def w_X12_next_119 (Fu : Nat) (k94_ : Int32 × Int32 × Int32 × Int32 × Int32 × mIT → Option (Int32 × mIT)) (k107_ : Int32 × Int32 × Int32 × Int32 × Int32 × Int32 × Int32 × mIT → Option (Int32 × mIT)) (N : Nat) (v1 : Int32) (v2 : Int32) (v3 : Int32) (v4 : Int32) (v5 : Int32) (v6 : Int32) (v7 : Int32) (v8 : Int32) (v9 : Int32) (I : mIT) : Option (Int32 × mIT) :=
  loopF (fun self (s : Int32 × Int32 × Int32 × Int32 × Int32 × Int32 × Int32 × Int32 × Int32 × mIT) => b_X12_next_119 Fu k94_ k107_ self s.1 s.2.1 s.2.2.1 s.2.2.2.1 s.2.2.2.2.1 s.2.2.2.2.2.1 s.2.2.2.2.2.2.1 s.2.2.2.2.2.2.2.1 s.2.2.2.2.2.2.2.2.1 s.2.2.2.2.2.2.2.2.2) N (v1, v2, v3, v4, v5, v6, v7, v8, v9, I)
theorem wo_X12_next_119 {X : mXT} {E : mEn} {Fu : Nat} {R : mRT} {L : mLT}  (hC : mC X E mX12_next RX12 cX12_next) (hW : mWd R)   {out : Int32 × mIT} (hE : mEd X E 0 0 (mSame (some (.int (out.1))) 106 1 (out.2) R L)) (k94_ : Int32 × Int32 × Int32 × Int32 × Int32 × mIT → Option (Int32 × mIT)) (hk94_ : ∀ (v1 : Int32) (v2 : Int32) (v3 : Int32) (v4 : Int32) (v5 : Int32) (I : mIT),  k94_ (v1, v2, v3, v4, v5, I) = some out → mG X E 94 [(0, .ref (mB E + 75)), (1, .int v1), (2, .int v2), (3, .int v3), (4, .int v4), (5, .int v5)] [] 106 1 I R L 0 0) (k107_ : Int32 × Int32 × Int32 × Int32 × Int32 × Int32 × Int32 × mIT → Option (Int32 × mIT)) (hk107_ : ∀ (v1 : Int32) (v2 : Int32) (v3 : Int32) (v4 : Int32) (v5 : Int32) (v6 : Int32) (v7 : Int32) (I : mIT),  k107_ (v1, v2, v3, v4, v5, v6, v7, I) = some out → mG X E 107 [(0, .ref (mB E + 75)), (1, .int v1), (2, .int v2), (3, .int v3), (4, .int v4), (5, .int v5), (6, .int v6), (7, .int v7)] [] 106 1 I R L 0 0) (N : Nat) (v1 : Int32) (v2 : Int32) (v3 : Int32) (v4 : Int32) (v5 : Int32) (v6 : Int32) (v7 : Int32) (v8 : Int32) (v9 : Int32) (I : mIT) (h : w_X12_next_119 Fu k94_ k107_ N v1 v2 v3 v4 v5 v6 v7 v8 v9 I = some out) : mG X E 119 [(0, .ref (mB E + 75)), (1, .int v1), (2, .int v2), (3, .int v3), (4, .int v4), (5, .int v5), (6, .int v6), (7, .int v7), (8, .int v8), (9, .int v9)] [] 106 1 I R L 0 0 :=
  loopF_ok (Gd := fun s : Int32 × Int32 × Int32 × Int32 × Int32 × Int32 × Int32 × Int32 × Int32 × mIT => mG X E 119 [(0, .ref (mB E + 75)), (1, .int s.1), (2, .int s.2.1), (3, .int s.2.2.1), (4, .int s.2.2.2.1), (5, .int s.2.2.2.2.1), (6, .int s.2.2.2.2.2.1), (7, .int s.2.2.2.2.2.2.1), (8, .int s.2.2.2.2.2.2.2.1), (9, .int s.2.2.2.2.2.2.2.2.1)] [] 106 1 s.2.2.2.2.2.2.2.2.2 R L 0 0) (fun self hs s h => bo_X12_next_119 hC hW hE k94_ hk94_ k107_ hk107_ self (fun v1 v2 v3 v4 v5 v6 v7 v8 v9 I h => hs (v1, v2, v3, v4, v5, v6, v7, v8, v9, I) h) s.1 s.2.1 s.2.2.1 s.2.2.2.1 s.2.2.2.2.1 s.2.2.2.2.2.1 s.2.2.2.2.2.2.1 s.2.2.2.2.2.2.2.1 s.2.2.2.2.2.2.2.2.1 s.2.2.2.2.2.2.2.2.2 h) N (v1, v2, v3, v4, v5, v6, v7, v8, v9, I) h
noncomputable def b_X12_next_107 (Fu : Nat) (k94_ : Int32 × Int32 × Int32 × Int32 × Int32 × mIT → Option (Int32 × mIT)) (k107_ : Int32 × Int32 × Int32 × Int32 × Int32 × Int32 × Int32 × mIT → Option (Int32 × mIT)) (v1 : Int32) (v2 : Int32) (v3 : Int32) (v4 : Int32) (v5 : Int32) (v6 : Int32) (v7 : Int32) (I : mIT) : Option (Int32 × mIT) :=
  if v2 ≤ v7 then (if v4 < v6 then (k94_ (v1, v2, v5, v6, (v5 + (1 : Int32)), I)) else (k94_ (v1, v2, v3, v4, (v5 + (1 : Int32)), I))) else (w_X12_next_119 Fu k94_ k107_ Fu v1 v2 v3 v4 v5 v6 v7 (1 : Int32) (0 : Int32) I)
set_option maxRecDepth 20000 in
theorem bo_X12_next_107 {X : mXT} {E : mEn} {Fu : Nat} {R : mRT} {L : mLT}  (hC : mC X E mX12_next RX12 cX12_next) (hW : mWd R)   {out : Int32 × mIT} (hE : mEd X E 0 0 (mSame (some (.int (out.1))) 106 1 (out.2) R L)) (k94_ : Int32 × Int32 × Int32 × Int32 × Int32 × mIT → Option (Int32 × mIT)) (hk94_ : ∀ (v1 : Int32) (v2 : Int32) (v3 : Int32) (v4 : Int32) (v5 : Int32) (I : mIT),  k94_ (v1, v2, v3, v4, v5, I) = some out → mG X E 94 [(0, .ref (mB E + 75)), (1, .int v1), (2, .int v2), (3, .int v3), (4, .int v4), (5, .int v5)] [] 106 1 I R L 0 0) (k107_ : Int32 × Int32 × Int32 × Int32 × Int32 × Int32 × Int32 × mIT → Option (Int32 × mIT)) (hk107_ : ∀ (v1 : Int32) (v2 : Int32) (v3 : Int32) (v4 : Int32) (v5 : Int32) (v6 : Int32) (v7 : Int32) (I : mIT),  k107_ (v1, v2, v3, v4, v5, v6, v7, I) = some out → mG X E 107 [(0, .ref (mB E + 75)), (1, .int v1), (2, .int v2), (3, .int v3), (4, .int v4), (5, .int v5), (6, .int v6), (7, .int v7)] [] 106 1 I R L 0 0) (v1 : Int32) (v2 : Int32) (v3 : Int32) (v4 : Int32) (v5 : Int32) (v6 : Int32) (v7 : Int32) (I : mIT) (h : b_X12_next_107 Fu k94_ k107_ v1 v2 v3 v4 v5 v6 v7 I = some out) : mG X E 107 [(0, .ref (mB E + 75)), (1, .int v1), (2, .int v2), (3, .int v3), (4, .int v4), (5, .int v5), (6, .int v6), (7, .int v7)] [] 106 1 I R L 0 0 := by
  unfold b_X12_next_107 at h
  refine g_iload hC dX12_next_107 (q := 7) rfl ?_
  refine g_iload_n hC dX12_next_109 rfl (q := 2) rfl ?_
  refine g_ic_ge hC dX12_next_110 (tgt := 194) (by decide) (fun c110 => ?_) (fun c110 => ?_)
  · replace h := (if_pos c110).symm.trans h
    refine g_iload hC dX12_next_194 (q := 6) rfl ?_
    refine g_iload hC dX12_next_196 (q := 4) rfl ?_
    refine g_ic_gt hC dX12_next_198 (tgt := 204) (by decide) (fun c198 => ?_) (fun c198 => ?_)
    · replace h := (if_pos c198).symm.trans h
      refine g_iload hC dX12_next_204 (q := 5) rfl ?_
      refine g_istore_n hC dX12_next_206 rfl rfl (by decide) (lv' := [(3, .int v5), (0, .ref (mB E + 75)), (1, .int v1), (2, .int v2), (4, .int v4), (5, .int v5), (6, .int v6), (7, .int v7)]) rfl ?_
      refine g_iload hC dX12_next_207 (q := 6) rfl ?_
      refine g_istore hC dX12_next_209 rfl (by decide) (lv' := [(4, .int v6), (3, .int v5), (0, .ref (mB E + 75)), (1, .int v1), (2, .int v2), (5, .int v5), (6, .int v6), (7, .int v7)]) rfl ?_
      refine g_iinc hC dX12_next_211 rfl (q := 5) rfl (w := (v5 + (1 : Int32))) rfl (by decide) (lv' := [(5, .int (v5 + (1 : Int32))), (4, .int v6), (3, .int v5), (0, .ref (mB E + 75)), (1, .int v1), (2, .int v2), (6, .int v6), (7, .int v7)]) rfl ?_
      refine g_goto hC dX12_next_214 (tgt := 94) (by decide) ?_
      refine g_lv [3, 4, 5, 2, 1, 0] rfl ?_
      exact hk94_ v1 v2 v5 v6 (v5 + (1 : Int32)) I h
    · replace h := (if_neg c198).symm.trans h
      refine g_goto hC dX12_next_201 (tgt := 211) (by decide) ?_
      refine g_iinc hC dX12_next_211 rfl (q := 5) rfl (w := (v5 + (1 : Int32))) rfl (by decide) (lv' := [(5, .int (v5 + (1 : Int32))), (0, .ref (mB E + 75)), (1, .int v1), (2, .int v2), (3, .int v3), (4, .int v4), (6, .int v6), (7, .int v7)]) rfl ?_
      refine g_goto hC dX12_next_214 (tgt := 94) (by decide) ?_
      refine g_lv [1, 2, 3, 4, 5, 0] rfl ?_
      exact hk94_ v1 v2 v3 v4 (v5 + (1 : Int32)) I h
  · replace h := (if_neg c110).symm.trans h
    refine g_iconst hC dX12_next_113 (v := (1 : Int32)) (by decide) ?_
    refine g_istore hC dX12_next_114 rfl (by decide) (lv' := [(8, .int (1 : Int32)), (0, .ref (mB E + 75)), (1, .int v1), (2, .int v2), (3, .int v3), (4, .int v4), (5, .int v5), (6, .int v6), (7, .int v7)]) rfl ?_
    refine g_iconst hC dX12_next_116 (v := (0 : Int32)) (by decide) ?_
    refine g_istore hC dX12_next_117 rfl (by decide) (lv' := [(9, .int (0 : Int32)), (8, .int (1 : Int32)), (0, .ref (mB E + 75)), (1, .int v1), (2, .int v2), (3, .int v3), (4, .int v4), (5, .int v5), (6, .int v6), (7, .int v7)]) rfl ?_
    refine g_lv [2, 3, 4, 5, 6, 7, 8, 9, 1, 0] rfl ?_
    exact wo_X12_next_119 hC hW hE k94_ hk94_ k107_ hk107_ Fu (v1) (v2) (v3) (v4) (v5) (v6) (v7) ((1 : Int32)) ((0 : Int32)) (I) h
noncomputable def w_X12_next_107 (Fu : Nat) (k94_ : Int32 × Int32 × Int32 × Int32 × Int32 × mIT → Option (Int32 × mIT)) (N : Nat) (v1 : Int32) (v2 : Int32) (v3 : Int32) (v4 : Int32) (v5 : Int32) (v6 : Int32) (v7 : Int32) (I : mIT) : Option (Int32 × mIT) :=
  loopF (fun self (s : Int32 × Int32 × Int32 × Int32 × Int32 × Int32 × Int32 × mIT) => b_X12_next_107 Fu k94_ self s.1 s.2.1 s.2.2.1 s.2.2.2.1 s.2.2.2.2.1 s.2.2.2.2.2.1 s.2.2.2.2.2.2.1 s.2.2.2.2.2.2.2) N (v1, v2, v3, v4, v5, v6, v7, I)
theorem wo_X12_next_107 {X : mXT} {E : mEn} {Fu : Nat} {R : mRT} {L : mLT}  (hC : mC X E mX12_next RX12 cX12_next) (hW : mWd R)   {out : Int32 × mIT} (hE : mEd X E 0 0 (mSame (some (.int (out.1))) 106 1 (out.2) R L)) (k94_ : Int32 × Int32 × Int32 × Int32 × Int32 × mIT → Option (Int32 × mIT)) (hk94_ : ∀ (v1 : Int32) (v2 : Int32) (v3 : Int32) (v4 : Int32) (v5 : Int32) (I : mIT),  k94_ (v1, v2, v3, v4, v5, I) = some out → mG X E 94 [(0, .ref (mB E + 75)), (1, .int v1), (2, .int v2), (3, .int v3), (4, .int v4), (5, .int v5)] [] 106 1 I R L 0 0) (N : Nat) (v1 : Int32) (v2 : Int32) (v3 : Int32) (v4 : Int32) (v5 : Int32) (v6 : Int32) (v7 : Int32) (I : mIT) (h : w_X12_next_107 Fu k94_ N v1 v2 v3 v4 v5 v6 v7 I = some out) : mG X E 107 [(0, .ref (mB E + 75)), (1, .int v1), (2, .int v2), (3, .int v3), (4, .int v4), (5, .int v5), (6, .int v6), (7, .int v7)] [] 106 1 I R L 0 0 :=
  loopF_ok (Gd := fun s : Int32 × Int32 × Int32 × Int32 × Int32 × Int32 × Int32 × mIT => mG X E 107 [(0, .ref (mB E + 75)), (1, .int s.1), (2, .int s.2.1), (3, .int s.2.2.1), (4, .int s.2.2.2.1), (5, .int s.2.2.2.2.1), (6, .int s.2.2.2.2.2.1), (7, .int s.2.2.2.2.2.2.1)] [] 106 1 s.2.2.2.2.2.2.2 R L 0 0) (fun self hs s h => bo_X12_next_107 hC hW hE k94_ hk94_ self (fun v1 v2 v3 v4 v5 v6 v7 I h => hs (v1, v2, v3, v4, v5, v6, v7, I) h) s.1 s.2.1 s.2.2.1 s.2.2.2.1 s.2.2.2.2.1 s.2.2.2.2.2.1 s.2.2.2.2.2.2.1 s.2.2.2.2.2.2.2 h) N (v1, v2, v3, v4, v5, v6, v7, I) h
noncomputable def b_X12_next_94 (Fu : Nat) (k94_ : Int32 × Int32 × Int32 × Int32 × Int32 × mIT → Option (Int32 × mIT)) (v1 : Int32) (v2 : Int32) (v3 : Int32) (v4 : Int32) (v5 : Int32) (I : mIT) : Option (Int32 × mIT) :=
  if (30 : Int32) < v5 then (if v1 = 0 then (some (v3, I)) else (some (v4, I))) else (w_X12_next_107 Fu k94_ Fu v1 v2 v3 v4 v5 (0 : Int32) (0 : Int32) I)
set_option maxRecDepth 20000 in
theorem bo_X12_next_94 {X : mXT} {E : mEn} {Fu : Nat} {R : mRT} {L : mLT}  (hC : mC X E mX12_next RX12 cX12_next) (hW : mWd R)   {out : Int32 × mIT} (hE : mEd X E 0 0 (mSame (some (.int (out.1))) 106 1 (out.2) R L)) (k94_ : Int32 × Int32 × Int32 × Int32 × Int32 × mIT → Option (Int32 × mIT)) (hk94_ : ∀ (v1 : Int32) (v2 : Int32) (v3 : Int32) (v4 : Int32) (v5 : Int32) (I : mIT),  k94_ (v1, v2, v3, v4, v5, I) = some out → mG X E 94 [(0, .ref (mB E + 75)), (1, .int v1), (2, .int v2), (3, .int v3), (4, .int v4), (5, .int v5)] [] 106 1 I R L 0 0) (v1 : Int32) (v2 : Int32) (v3 : Int32) (v4 : Int32) (v5 : Int32) (I : mIT) (h : b_X12_next_94 Fu k94_ v1 v2 v3 v4 v5 I = some out) : mG X E 94 [(0, .ref (mB E + 75)), (1, .int v1), (2, .int v2), (3, .int v3), (4, .int v4), (5, .int v5)] [] 106 1 I R L 0 0 := by
  unfold b_X12_next_94 at h
  refine g_iload hC dX12_next_94 (q := 5) rfl ?_
  refine g_bipush hC dX12_next_96 (v := (30 : Int32)) (by decide) ?_
  refine g_ic_gt hC dX12_next_98 (tgt := 217) (by decide) (fun c98 => ?_) (fun c98 => ?_)
  · replace h := (if_pos c98).symm.trans h
    refine g_iload_n hC dX12_next_217 rfl (q := 1) rfl ?_
    refine g_if_ne hC dX12_next_218 (tgt := 225) (by decide) (fun c218 => ?_) (fun c218 => ?_)
    · replace h := (if_neg c218).symm.trans h
      refine g_iload hC dX12_next_225 (q := 4) rfl ?_
      cases h
      exact g_iret hC hE rfl dX12_next_227 (Nat.zero_le _) (Nat.zero_le _) ⟨rfl, rfl, rfl, rfl, rfl, rfl⟩
    · replace h := (if_pos c218).symm.trans h
      refine g_iload_n hC dX12_next_221 rfl (q := 3) rfl ?_
      refine g_goto hC dX12_next_222 (tgt := 227) (by decide) ?_
      cases h
      exact g_iret hC hE rfl dX12_next_227 (Nat.zero_le _) (Nat.zero_le _) ⟨rfl, rfl, rfl, rfl, rfl, rfl⟩
  · replace h := (if_neg c98).symm.trans h
    refine g_iconst hC dX12_next_101 (v := (0 : Int32)) (by decide) ?_
    refine g_istore hC dX12_next_102 rfl (by decide) (lv' := [(6, .int (0 : Int32)), (0, .ref (mB E + 75)), (1, .int v1), (2, .int v2), (3, .int v3), (4, .int v4), (5, .int v5)]) rfl ?_
    refine g_iconst hC dX12_next_104 (v := (0 : Int32)) (by decide) ?_
    refine g_istore hC dX12_next_105 rfl (by decide) (lv' := [(7, .int (0 : Int32)), (6, .int (0 : Int32)), (0, .ref (mB E + 75)), (1, .int v1), (2, .int v2), (3, .int v3), (4, .int v4), (5, .int v5)]) rfl ?_
    refine g_lv [2, 3, 4, 5, 6, 7, 1, 0] rfl ?_
    exact wo_X12_next_107 hC hW hE k94_ hk94_ Fu (v1) (v2) (v3) (v4) (v5) ((0 : Int32)) ((0 : Int32)) (I) h
noncomputable def w_X12_next_94 (Fu : Nat)  (N : Nat) (v1 : Int32) (v2 : Int32) (v3 : Int32) (v4 : Int32) (v5 : Int32) (I : mIT) : Option (Int32 × mIT) :=
  loopF (fun self (s : Int32 × Int32 × Int32 × Int32 × Int32 × mIT) => b_X12_next_94 Fu self s.1 s.2.1 s.2.2.1 s.2.2.2.1 s.2.2.2.2.1 s.2.2.2.2.2) N (v1, v2, v3, v4, v5, I)
theorem wo_X12_next_94 {X : mXT} {E : mEn} {Fu : Nat} {R : mRT} {L : mLT}  (hC : mC X E mX12_next RX12 cX12_next) (hW : mWd R)   {out : Int32 × mIT} (hE : mEd X E 0 0 (mSame (some (.int (out.1))) 106 1 (out.2) R L))  (N : Nat) (v1 : Int32) (v2 : Int32) (v3 : Int32) (v4 : Int32) (v5 : Int32) (I : mIT) (h : w_X12_next_94 Fu  N v1 v2 v3 v4 v5 I = some out) : mG X E 94 [(0, .ref (mB E + 75)), (1, .int v1), (2, .int v2), (3, .int v3), (4, .int v4), (5, .int v5)] [] 106 1 I R L 0 0 :=
  loopF_ok (Gd := fun s : Int32 × Int32 × Int32 × Int32 × Int32 × mIT => mG X E 94 [(0, .ref (mB E + 75)), (1, .int s.1), (2, .int s.2.1), (3, .int s.2.2.1), (4, .int s.2.2.2.1), (5, .int s.2.2.2.2.1)] [] 106 1 s.2.2.2.2.2 R L 0 0) (fun self hs s h => bo_X12_next_94 hC hW hE self (fun v1 v2 v3 v4 v5 I h => hs (v1, v2, v3, v4, v5, I) h) s.1 s.2.1 s.2.2.1 s.2.2.2.1 s.2.2.2.2.1 s.2.2.2.2.2 h) N (v1, v2, v3, v4, v5, I) h
noncomputable def b_X12_next_45 (Fu : Nat) (k20_ : Int32 × Int32 × Int32 × mIT → Option (Int32 × mIT)) (k45_ : Int32 × Int32 × Int32 × Int32 × mIT → Option (Int32 × mIT)) (v1 : Int32) (v2 : Int32) (v3 : Int32) (v4 : Int32) (I : mIT) : Option (Int32 × mIT) :=
  if (30 : Int32) < v4 then (k20_ (v1, (v2 + (1 : Int32)), (v3 + (1 : Int32)), I)) else (oG (inB v4 31) (oG (inB (((31 : Int32) * v2) + v4) 3100) (k45_ (v1, v2, v3, (v4 + (1 : Int32)), (mU I 101 ((((31 : Int32) * v2) + v4)).toNatClampNeg (I 100 (v4).toNatClampNeg))))))
set_option maxRecDepth 20000 in
theorem bo_X12_next_45 {X : mXT} {E : mEn} {Fu : Nat} {R : mRT} {L : mLT}  (hC : mC X E mX12_next RX12 cX12_next) (hW : mWd R)   {out : Int32 × mIT} (hE : mEd X E 0 0 (mSame (some (.int (out.1))) 106 1 (out.2) R L)) (k20_ : Int32 × Int32 × Int32 × mIT → Option (Int32 × mIT)) (hk20_ : ∀ (v1 : Int32) (v2 : Int32) (v3 : Int32) (I : mIT),  k20_ (v1, v2, v3, I) = some out → mG X E 20 [(0, .ref (mB E + 75)), (1, .int v1), (2, .int v2), (3, .int v3)] [] 106 1 I R L 0 0) (k45_ : Int32 × Int32 × Int32 × Int32 × mIT → Option (Int32 × mIT)) (hk45_ : ∀ (v1 : Int32) (v2 : Int32) (v3 : Int32) (v4 : Int32) (I : mIT),  k45_ (v1, v2, v3, v4, I) = some out → mG X E 45 [(0, .ref (mB E + 75)), (1, .int v1), (2, .int v2), (3, .int v3), (4, .int v4)] [] 106 1 I R L 0 0) (v1 : Int32) (v2 : Int32) (v3 : Int32) (v4 : Int32) (I : mIT) (h : b_X12_next_45 Fu k20_ k45_ v1 v2 v3 v4 I = some out) : mG X E 45 [(0, .ref (mB E + 75)), (1, .int v1), (2, .int v2), (3, .int v3), (4, .int v4)] [] 106 1 I R L 0 0 := by
  unfold b_X12_next_45 at h
  refine g_iload hC dX12_next_45 (q := 4) rfl ?_
  refine g_bipush hC dX12_next_47 (v := (30 : Int32)) (by decide) ?_
  refine g_ic_gt hC dX12_next_49 (tgt := 77) (by decide) (fun c49 => ?_) (fun c49 => ?_)
  · replace h := (if_pos c49).symm.trans h
    refine g_iinc hC dX12_next_77 rfl (q := 2) rfl (w := (v2 + (1 : Int32))) rfl (by decide) (lv' := [(2, .int (v2 + (1 : Int32))), (0, .ref (mB E + 75)), (1, .int v1), (3, .int v3), (4, .int v4)]) rfl ?_
    refine g_iinc hC dX12_next_80 rfl (q := 3) rfl (w := (v3 + (1 : Int32))) rfl (by decide) (lv' := [(3, .int (v3 + (1 : Int32))), (2, .int (v2 + (1 : Int32))), (0, .ref (mB E + 75)), (1, .int v1), (4, .int v4)]) rfl ?_
    refine g_goto hC dX12_next_83 (tgt := 20) (by decide) ?_
    refine g_lv [2, 3, 1, 0] rfl ?_
    exact hk20_ v1 (v2 + (1 : Int32)) (v3 + (1 : Int32)) I h
  · replace h := (if_neg c49).symm.trans h
    refine g_aload_n hC dX12_next_52 rfl (q := 0) rfl ?_
    refine g_getr hC fd_RX12_102 rfl (by decide) (C0 := "") (t0 := _) (Or.inr rfl) (rr_75_58 hW.1) dX12_next_53 ?_
    refine g_bipush hC dX12_next_56 (v := (31 : Int32)) (by decide) ?_
    refine g_iload_n hC dX12_next_58 rfl (q := 2) rfl ?_
    refine g_imul hC dX12_next_59 ?_
    refine g_iload hC dX12_next_60 (q := 4) rfl ?_
    refine g_iadd hC dX12_next_62 ?_
    refine g_aload_n hC dX12_next_63 rfl (q := 0) rfl ?_
    refine g_getr hC fd_RX12_99 rfl (by decide) (C0 := "") (t0 := _) (Or.inr rfl) (rr_75_57 hW.1) dX12_next_64 ?_
    refine g_iload hC dX12_next_67 (q := 4) rfl ?_
    obtain ⟨g69, h⟩ := oG_some h
    refine g_iald hC rfl (by decide) (inB_in g69) dX12_next_69 ?_
    obtain ⟨g70, h⟩ := oG_some h
    refine g_iast hC rfl (by decide) (inB_in g70) dX12_next_70 (nm_e ?_)
    refine g_iinc hC dX12_next_71 rfl (q := 4) rfl (w := (v4 + (1 : Int32))) rfl (by decide) (lv' := [(4, .int (v4 + (1 : Int32))), (0, .ref (mB E + 75)), (1, .int v1), (2, .int v2), (3, .int v3)]) rfl ?_
    refine g_goto hC dX12_next_74 (tgt := 45) (by decide) ?_
    refine g_lv [1, 2, 3, 4, 0] rfl ?_
    exact hk45_ v1 v2 v3 (v4 + (1 : Int32)) (mU I 101 ((((31 : Int32) * v2) + v4)).toNatClampNeg (I 100 (v4).toNatClampNeg)) h
noncomputable def w_X12_next_45 (Fu : Nat) (k20_ : Int32 × Int32 × Int32 × mIT → Option (Int32 × mIT)) (N : Nat) (v1 : Int32) (v2 : Int32) (v3 : Int32) (v4 : Int32) (I : mIT) : Option (Int32 × mIT) :=
  loopF (fun self (s : Int32 × Int32 × Int32 × Int32 × mIT) => b_X12_next_45 Fu k20_ self s.1 s.2.1 s.2.2.1 s.2.2.2.1 s.2.2.2.2) N (v1, v2, v3, v4, I)
theorem wo_X12_next_45 {X : mXT} {E : mEn} {Fu : Nat} {R : mRT} {L : mLT}  (hC : mC X E mX12_next RX12 cX12_next) (hW : mWd R)   {out : Int32 × mIT} (hE : mEd X E 0 0 (mSame (some (.int (out.1))) 106 1 (out.2) R L)) (k20_ : Int32 × Int32 × Int32 × mIT → Option (Int32 × mIT)) (hk20_ : ∀ (v1 : Int32) (v2 : Int32) (v3 : Int32) (I : mIT),  k20_ (v1, v2, v3, I) = some out → mG X E 20 [(0, .ref (mB E + 75)), (1, .int v1), (2, .int v2), (3, .int v3)] [] 106 1 I R L 0 0) (N : Nat) (v1 : Int32) (v2 : Int32) (v3 : Int32) (v4 : Int32) (I : mIT) (h : w_X12_next_45 Fu k20_ N v1 v2 v3 v4 I = some out) : mG X E 45 [(0, .ref (mB E + 75)), (1, .int v1), (2, .int v2), (3, .int v3), (4, .int v4)] [] 106 1 I R L 0 0 :=
  loopF_ok (Gd := fun s : Int32 × Int32 × Int32 × Int32 × mIT => mG X E 45 [(0, .ref (mB E + 75)), (1, .int s.1), (2, .int s.2.1), (3, .int s.2.2.1), (4, .int s.2.2.2.1)] [] 106 1 s.2.2.2.2 R L 0 0) (fun self hs s h => bo_X12_next_45 hC hW hE k20_ hk20_ self (fun v1 v2 v3 v4 I h => hs (v1, v2, v3, v4, I) h) s.1 s.2.1 s.2.2.1 s.2.2.2.1 s.2.2.2.2 h) N (v1, v2, v3, v4, I) h
noncomputable def b_X12_next_20 (Fu : Nat) (k20_ : Int32 × Int32 × Int32 × mIT → Option (Int32 × mIT)) (v1 : Int32) (v2 : Int32) (v3 : Int32) (I : mIT) : Option (Int32 × mIT) :=
  if ((10 : Int32) * (I 75 1)) ≤ v3 then (w_X12_next_94 Fu Fu v1 v2 (-1 : Int32) (0 : Int32) (0 : Int32) I) else (oB (f_X12_isGuess Fu I v3) (fun r33 => if r33.1 = 0 then (k20_ (v1, v2, (v3 + (1 : Int32)), r33.2)) else (w_X12_next_45 Fu k20_ Fu v1 v2 v3 (0 : Int32) r33.2)))
set_option maxRecDepth 20000 in
theorem bo_X12_next_20 {X : mXT} {E : mEn} {Fu : Nat} {R : mRT} {L : mLT}  (hC : mC X E mX12_next RX12 cX12_next) (hW : mWd R)   {out : Int32 × mIT} (hE : mEd X E 0 0 (mSame (some (.int (out.1))) 106 1 (out.2) R L)) (k20_ : Int32 × Int32 × Int32 × mIT → Option (Int32 × mIT)) (hk20_ : ∀ (v1 : Int32) (v2 : Int32) (v3 : Int32) (I : mIT),  k20_ (v1, v2, v3, I) = some out → mG X E 20 [(0, .ref (mB E + 75)), (1, .int v1), (2, .int v2), (3, .int v3)] [] 106 1 I R L 0 0) (v1 : Int32) (v2 : Int32) (v3 : Int32) (I : mIT) (h : b_X12_next_20 Fu k20_ v1 v2 v3 I = some out) : mG X E 20 [(0, .ref (mB E + 75)), (1, .int v1), (2, .int v2), (3, .int v3)] [] 106 1 I R L 0 0 := by
  unfold b_X12_next_20 at h
  refine g_iload_n hC dX12_next_20 rfl (q := 3) rfl ?_
  refine g_bipush hC dX12_next_21 (v := (10 : Int32)) (by decide) ?_
  refine g_aload_n hC dX12_next_23 rfl (q := 0) rfl ?_
  refine g_geti hC fd_RX12_289 rfl (by decide) (Or.inl rfl) dX12_next_24 ?_
  refine g_imul hC dX12_next_27 ?_
  refine g_ic_ge hC dX12_next_28 (tgt := 86) (by decide) (fun c28 => ?_) (fun c28 => ?_)
  · replace h := (if_pos c28).symm.trans h
    refine g_iconst hC dX12_next_86 (v := (-1 : Int32)) (by decide) ?_
    refine g_istore_n hC dX12_next_87 rfl rfl (by decide) (lv' := [(3, .int (-1 : Int32)), (0, .ref (mB E + 75)), (1, .int v1), (2, .int v2)]) rfl ?_
    refine g_iconst hC dX12_next_88 (v := (0 : Int32)) (by decide) ?_
    refine g_istore hC dX12_next_89 rfl (by decide) (lv' := [(4, .int (0 : Int32)), (3, .int (-1 : Int32)), (0, .ref (mB E + 75)), (1, .int v1), (2, .int v2)]) rfl ?_
    refine g_iconst hC dX12_next_91 (v := (0 : Int32)) (by decide) ?_
    refine g_istore hC dX12_next_92 rfl (by decide) (lv' := [(5, .int (0 : Int32)), (4, .int (0 : Int32)), (3, .int (-1 : Int32)), (0, .ref (mB E + 75)), (1, .int v1), (2, .int v2)]) rfl ?_
    refine g_lv [3, 4, 5, 2, 1, 0] rfl ?_
    exact wo_X12_next_94 hC hW hE Fu (v1) (v2) ((-1 : Int32)) ((0 : Int32)) ((0 : Int32)) (I) h
  · replace h := (if_neg c28).symm.trans h
    refine g_aload_n hC dX12_next_31 rfl (q := 0) rfl ?_
    refine g_iload_n hC dX12_next_32 rfl (q := 3) rfl ?_
    obtain ⟨r33, h33, h⟩ := oB_some h
    refine g_cV1 hC cv_X12_isGuess wd_2237 ⟨Nat.le_of_ble_eq_true rfl, Nat.le_of_ble_eq_true rfl⟩ rfl (by decide) dX12_next_33 (As := [.int v3]) (st := []) (ok_X12_isGuess hC.2.2.2.2.2.2.2.1 hW h33) rfl rfl (Nat.le_of_ble_eq_true rfl) ⟨Nat.zero_le _, Nat.zero_le _⟩ ?_
    refine g_if_ne hC dX12_next_36 (tgt := 42) (by decide) (fun c36 => ?_) (fun c36 => ?_)
    · replace h := (if_neg c36).symm.trans h
      refine g_iconst hC dX12_next_42 (v := (0 : Int32)) (by decide) ?_
      refine g_istore hC dX12_next_43 rfl (by decide) (lv' := [(4, .int (0 : Int32)), (0, .ref (mB E + 75)), (1, .int v1), (2, .int v2), (3, .int v3)]) rfl ?_
      refine g_lv [1, 2, 3, 4, 0] rfl ?_
      exact wo_X12_next_45 hC hW hE k20_ hk20_ Fu (v1) (v2) (v3) ((0 : Int32)) (r33.2) h
    · replace h := (if_pos c36).symm.trans h
      refine g_goto hC dX12_next_39 (tgt := 80) (by decide) ?_
      refine g_iinc hC dX12_next_80 rfl (q := 3) rfl (w := (v3 + (1 : Int32))) rfl (by decide) (lv' := [(3, .int (v3 + (1 : Int32))), (0, .ref (mB E + 75)), (1, .int v1), (2, .int v2)]) rfl ?_
      refine g_goto hC dX12_next_83 (tgt := 20) (by decide) ?_
      refine g_lv [1, 2, 3, 0] rfl ?_
      exact hk20_ v1 v2 (v3 + (1 : Int32)) r33.2 h
noncomputable def w_X12_next_20 (Fu : Nat)  (N : Nat) (v1 : Int32) (v2 : Int32) (v3 : Int32) (I : mIT) : Option (Int32 × mIT) :=
  loopF (fun self (s : Int32 × Int32 × Int32 × mIT) => b_X12_next_20 Fu self s.1 s.2.1 s.2.2.1 s.2.2.2) N (v1, v2, v3, I)
theorem wo_X12_next_20 {X : mXT} {E : mEn} {Fu : Nat} {R : mRT} {L : mLT}  (hC : mC X E mX12_next RX12 cX12_next) (hW : mWd R)   {out : Int32 × mIT} (hE : mEd X E 0 0 (mSame (some (.int (out.1))) 106 1 (out.2) R L))  (N : Nat) (v1 : Int32) (v2 : Int32) (v3 : Int32) (I : mIT) (h : w_X12_next_20 Fu  N v1 v2 v3 I = some out) : mG X E 20 [(0, .ref (mB E + 75)), (1, .int v1), (2, .int v2), (3, .int v3)] [] 106 1 I R L 0 0 :=
  loopF_ok (Gd := fun s : Int32 × Int32 × Int32 × mIT => mG X E 20 [(0, .ref (mB E + 75)), (1, .int s.1), (2, .int s.2.1), (3, .int s.2.2.1)] [] 106 1 s.2.2.2 R L 0 0) (fun self hs s h => bo_X12_next_20 hC hW hE self (fun v1 v2 v3 I h => hs (v1, v2, v3, I) h) s.1 s.2.1 s.2.2.1 s.2.2.2 h) N (v1, v2, v3, I) h
noncomputable def f_X12_next (Fu : Nat) (I : mIT) (v1 : Int32) : Option (Int32 × mIT) :=
  oB (f_X12_isWhat Fu (mU I 75 0 (0 : Int32)) v1 (1 : Int32)) (fun r8 => if r8.1 = 0 then (some ((0 : Int32), r8.2)) else (w_X12_next_20 Fu Fu v1 (0 : Int32) (0 : Int32) r8.2))
set_option maxRecDepth 20000 in
theorem ok_X12_next {l : Launch} {E : mEn} {Fu : Nat} {I : mIT} {R : mRT} {L : mLT} {v1 : Int32} (hst : l.stackTraces = false) (hW : mWd R)  {out : Int32 × mIT} (h : f_X12_next Fu I v1 = some out) : mOk l E mX12_next [.ref (mB E + 75), .int v1] 106 1 I R L 0 0 (mSame (some (.int (out.1))) 106 1 (out.2) R L) := by
  refine mOk_of hst (by decide) (Nat.le_of_ble_eq_true rfl) (fun X hC hE _ => ?_)
  have hC : mC X E mX12_next RX12 cX12_next := hC
  show mG X E 0 [(0, .ref (mB E + 75)), (1, .int v1)] [] 106 1 I R L 0 0
  unfold f_X12_next at h
  refine g_aload_n hC dX12_next_0 rfl (q := 0) rfl ?_
  refine g_iconst hC dX12_next_1 (v := (0 : Int32)) (by decide) ?_
  refine g_puti hC fd_RX12_114 rfl (by decide) rfl dX12_next_2 (nm_e ?_)
  refine g_aload_n hC dX12_next_5 rfl (q := 0) rfl ?_
  refine g_iload_n hC dX12_next_6 rfl (q := 1) rfl ?_
  refine g_iconst hC dX12_next_7 (v := (1 : Int32)) (by decide) ?_
  obtain ⟨r8, h8, h⟩ := oB_some h
  refine g_cV1 hC cv_X12_isWhat wd_2038 ⟨Nat.le_of_ble_eq_true rfl, Nat.le_of_ble_eq_true rfl⟩ rfl (by decide) dX12_next_8 (As := [.int v1, .int (1 : Int32)]) (st := []) (ok_X12_isWhat hC.2.2.2.2.2.2.2.1 hW h8) rfl rfl (Nat.le_of_ble_eq_true rfl) ⟨Nat.zero_le _, Nat.zero_le _⟩ ?_
  refine g_if_ne hC dX12_next_11 (tgt := 16) (by decide) (fun c11 => ?_) (fun c11 => ?_)
  · replace h := (if_neg c11).symm.trans h
    refine g_iconst hC dX12_next_16 (v := (0 : Int32)) (by decide) ?_
    refine g_istore_n hC dX12_next_17 rfl rfl (by decide) (lv' := [(2, .int (0 : Int32)), (0, .ref (mB E + 75)), (1, .int v1)]) rfl ?_
    refine g_iconst hC dX12_next_18 (v := (0 : Int32)) (by decide) ?_
    refine g_istore_n hC dX12_next_19 rfl rfl (by decide) (lv' := [(3, .int (0 : Int32)), (2, .int (0 : Int32)), (0, .ref (mB E + 75)), (1, .int v1)]) rfl ?_
    refine g_lv [2, 3, 1, 0] rfl ?_
    exact wo_X12_next_20 hC hW hE Fu (v1) ((0 : Int32)) ((0 : Int32)) (r8.2) h
  · replace h := (if_pos c11).symm.trans h
    refine g_iconst hC dX12_next_14 (v := (0 : Int32)) (by decide) ?_
    cases h
    exact g_iret hC hE rfl dX12_next_15 (Nat.zero_le _) (Nat.zero_le _) ⟨rfl, rfl, rfl, rfl, rfl, rfl⟩
noncomputable def b_X12_often_23 (Fu : Nat) (k23_ : Int32 × Int32 × Int32 × mIT → Option (Int32 × mIT)) (v1 : Int32) (v2 : Int32) (v3 : Int32) (I : mIT) : Option (Int32 × mIT) :=
  if (60 : Int32) < v3 then (some (v2, I)) else (oB (f_X12_dayGoes Fu I (53 : Int32)) (fun r32 => oB (f_X12_notesIn Fu r32 (53 : Int32)) (fun r39 => k23_ (v1, (v2 + ((r39.1 >>> (v1 &&& 31)) &&& (1 : Int32))), (v3 + (1 : Int32)), r39.2))))
set_option maxRecDepth 20000 in
theorem bo_X12_often_23 {X : mXT} {E : mEn} {Fu : Nat} {R : mRT} {L : mLT}  (hC : mC X E mX12_often RX12 cX12_often) (hW : mWd R)   {out : Int32 × mIT} (hE : mEd X E 0 0 (mSame (some (.int (out.1))) 106 1 (out.2) R L)) (k23_ : Int32 × Int32 × Int32 × mIT → Option (Int32 × mIT)) (hk23_ : ∀ (v1 : Int32) (v2 : Int32) (v3 : Int32) (I : mIT),  k23_ (v1, v2, v3, I) = some out → mG X E 23 [(0, .ref (mB E + 75)), (1, .int v1), (2, .int v2), (3, .int v3)] [] 106 1 I R L 0 0) (v1 : Int32) (v2 : Int32) (v3 : Int32) (I : mIT) (h : b_X12_often_23 Fu k23_ v1 v2 v3 I = some out) : mG X E 23 [(0, .ref (mB E + 75)), (1, .int v1), (2, .int v2), (3, .int v3)] [] 106 1 I R L 0 0 := by
  unfold b_X12_often_23 at h
  refine g_iload_n hC dX12_often_23 rfl (q := 3) rfl ?_
  refine g_bipush hC dX12_often_24 (v := (60 : Int32)) (by decide) ?_
  refine g_ic_gt hC dX12_often_26 (tgt := 54) (by decide) (fun c26 => ?_) (fun c26 => ?_)
  · replace h := (if_pos c26).symm.trans h
    refine g_iload_n hC dX12_often_54 rfl (q := 2) rfl ?_
    cases h
    exact g_iret hC hE rfl dX12_often_55 (Nat.zero_le _) (Nat.zero_le _) ⟨rfl, rfl, rfl, rfl, rfl, rfl⟩
  · replace h := (if_neg c26).symm.trans h
    refine g_aload_n hC dX12_often_29 rfl (q := 0) rfl ?_
    refine g_bipush hC dX12_often_30 (v := (53 : Int32)) (by decide) ?_
    obtain ⟨r32, h32, h⟩ := oB_some h
    refine g_cV0 hC cv_X12_dayGoes wd_2070 ⟨Nat.le_of_ble_eq_true rfl, Nat.le_of_ble_eq_true rfl⟩ rfl (by decide) dX12_often_32 (As := [.int (53 : Int32)]) (st := []) (ok_X12_dayGoes hC.2.2.2.2.2.2.2.1 hW h32) rfl rfl (Nat.le_of_ble_eq_true rfl) ⟨Nat.zero_le _, Nat.zero_le _⟩ ?_
    refine g_iload_n hC dX12_often_35 rfl (q := 2) rfl ?_
    refine g_aload_n hC dX12_often_36 rfl (q := 0) rfl ?_
    refine g_bipush hC dX12_often_37 (v := (53 : Int32)) (by decide) ?_
    obtain ⟨r39, h39, h⟩ := oB_some h
    refine g_cV1 hC cv_X12_notesIn wd_2008 ⟨Nat.le_of_ble_eq_true rfl, Nat.le_of_ble_eq_true rfl⟩ rfl (by decide) dX12_often_39 (As := [.int (53 : Int32)]) (st := [.int v2]) (ok_X12_notesIn hC.2.2.2.2.2.2.2.1 hW h39) rfl rfl (Nat.le_of_ble_eq_true rfl) ⟨Nat.zero_le _, Nat.zero_le _⟩ ?_
    refine g_iload_n hC dX12_often_42 rfl (q := 1) rfl ?_
    refine g_ishr hC dX12_often_43 ?_
    refine g_iconst hC dX12_often_44 (v := (1 : Int32)) (by decide) ?_
    refine g_iand hC dX12_often_45 ?_
    refine g_iadd hC dX12_often_46 ?_
    refine g_istore_n hC dX12_often_47 rfl rfl (by decide) (lv' := [(2, .int (v2 + ((r39.1 >>> (v1 &&& 31)) &&& (1 : Int32)))), (0, .ref (mB E + 75)), (1, .int v1), (3, .int v3)]) rfl ?_
    refine g_iinc hC dX12_often_48 rfl (q := 3) rfl (w := (v3 + (1 : Int32))) rfl (by decide) (lv' := [(3, .int (v3 + (1 : Int32))), (2, .int (v2 + ((r39.1 >>> (v1 &&& 31)) &&& (1 : Int32)))), (0, .ref (mB E + 75)), (1, .int v1)]) rfl ?_
    refine g_goto hC dX12_often_51 (tgt := 23) (by decide) ?_
    refine g_lv [2, 3, 1, 0] rfl ?_
    exact hk23_ v1 (v2 + ((r39.1 >>> (v1 &&& 31)) &&& (1 : Int32))) (v3 + (1 : Int32)) r39.2 h
noncomputable def w_X12_often_23 (Fu : Nat)  (N : Nat) (v1 : Int32) (v2 : Int32) (v3 : Int32) (I : mIT) : Option (Int32 × mIT) :=
  loopF (fun self (s : Int32 × Int32 × Int32 × mIT) => b_X12_often_23 Fu self s.1 s.2.1 s.2.2.1 s.2.2.2) N (v1, v2, v3, I)
theorem wo_X12_often_23 {X : mXT} {E : mEn} {Fu : Nat} {R : mRT} {L : mLT}  (hC : mC X E mX12_often RX12 cX12_often) (hW : mWd R)   {out : Int32 × mIT} (hE : mEd X E 0 0 (mSame (some (.int (out.1))) 106 1 (out.2) R L))  (N : Nat) (v1 : Int32) (v2 : Int32) (v3 : Int32) (I : mIT) (h : w_X12_often_23 Fu  N v1 v2 v3 I = some out) : mG X E 23 [(0, .ref (mB E + 75)), (1, .int v1), (2, .int v2), (3, .int v3)] [] 106 1 I R L 0 0 :=
  loopF_ok (Gd := fun s : Int32 × Int32 × Int32 × mIT => mG X E 23 [(0, .ref (mB E + 75)), (1, .int s.1), (2, .int s.2.1), (3, .int s.2.2.1)] [] 106 1 s.2.2.2 R L 0 0) (fun self hs s h => bo_X12_often_23 hC hW hE self (fun v1 v2 v3 I h => hs (v1, v2, v3, I) h) s.1 s.2.1 s.2.2.1 s.2.2.2 h) N (v1, v2, v3, I) h
noncomputable def f_X12_often (Fu : Nat) (I : mIT) (v1 : Int32) : Option (Int32 × mIT) :=
  oB (f_X12_isNote Fu (mU I 75 0 (0 : Int32)) v1) (fun r7 => if r7.1 = 0 then (some ((0 : Int32), r7.2)) else (oB (f_X12_tries Fu r7.2) (fun r18 => w_X12_often_23 Fu Fu v1 (0 : Int32) (1 : Int32) r18)))
set_option maxRecDepth 20000 in
theorem ok_X12_often {l : Launch} {E : mEn} {Fu : Nat} {I : mIT} {R : mRT} {L : mLT} {v1 : Int32} (hst : l.stackTraces = false) (hW : mWd R)  {out : Int32 × mIT} (h : f_X12_often Fu I v1 = some out) : mOk l E mX12_often [.ref (mB E + 75), .int v1] 106 1 I R L 0 0 (mSame (some (.int (out.1))) 106 1 (out.2) R L) := by
  refine mOk_of hst (by decide) (Nat.le_of_ble_eq_true rfl) (fun X hC hE _ => ?_)
  have hC : mC X E mX12_often RX12 cX12_often := hC
  show mG X E 0 [(0, .ref (mB E + 75)), (1, .int v1)] [] 106 1 I R L 0 0
  unfold f_X12_often at h
  refine g_aload_n hC dX12_often_0 rfl (q := 0) rfl ?_
  refine g_iconst hC dX12_often_1 (v := (0 : Int32)) (by decide) ?_
  refine g_puti hC fd_RX12_114 rfl (by decide) rfl dX12_often_2 (nm_e ?_)
  refine g_aload_n hC dX12_often_5 rfl (q := 0) rfl ?_
  refine g_iload_n hC dX12_often_6 rfl (q := 1) rfl ?_
  obtain ⟨r7, h7, h⟩ := oB_some h
  refine g_cV1 hC cv_X12_isNote wd_2274 ⟨Nat.le_of_ble_eq_true rfl, Nat.le_of_ble_eq_true rfl⟩ rfl (by decide) dX12_often_7 (As := [.int v1]) (st := []) (ok_X12_isNote hC.2.2.2.2.2.2.2.1 hW h7) rfl rfl (Nat.le_of_ble_eq_true rfl) ⟨Nat.zero_le _, Nat.zero_le _⟩ ?_
  refine g_if_ne hC dX12_often_10 (tgt := 15) (by decide) (fun c10 => ?_) (fun c10 => ?_)
  · replace h := (if_neg c10).symm.trans h
    refine g_iconst hC dX12_often_15 (v := (0 : Int32)) (by decide) ?_
    refine g_istore_n hC dX12_often_16 rfl rfl (by decide) (lv' := [(2, .int (0 : Int32)), (0, .ref (mB E + 75)), (1, .int v1)]) rfl ?_
    refine g_aload_n hC dX12_often_17 rfl (q := 1) rfl ?_
    obtain ⟨r18, h18, h⟩ := oB_some h
    refine g_cV0 hC cv_X12_tries wd_2110 ⟨Nat.le_of_ble_eq_true rfl, Nat.le_of_ble_eq_true rfl⟩ rfl (by decide) dX12_often_18 (As := []) (st := []) (ok_X12_tries hC.2.2.2.2.2.2.2.1 hW h18) rfl rfl (Nat.le_of_ble_eq_true rfl) ⟨Nat.zero_le _, Nat.zero_le _⟩ ?_
    refine g_iconst hC dX12_often_21 (v := (1 : Int32)) (by decide) ?_
    refine g_istore_n hC dX12_often_22 rfl rfl (by decide) (lv' := [(3, .int (1 : Int32)), (2, .int (0 : Int32)), (0, .ref (mB E + 75)), (1, .int v1)]) rfl ?_
    refine g_lv [2, 3, 1, 0] rfl ?_
    exact wo_X12_often_23 hC hW hE Fu (v1) ((0 : Int32)) ((1 : Int32)) (r18) h
  · replace h := (if_pos c10).symm.trans h
    refine g_iconst hC dX12_often_13 (v := (0 : Int32)) (by decide) ?_
    cases h
    exact g_iret hC hE rfl dX12_often_14 (Nat.zero_le _) (Nat.zero_le _) ⟨rfl, rfl, rfl, rfl, rfl, rfl⟩
noncomputable def b_X12_order_67 (Fu : Nat) (k40_ : Int32 × Int32 × mIT → Option (Int32 × mIT)) (k67_ : Int32 × Int32 × Int32 × Int32 × mIT → Option (Int32 × mIT)) (v1 : Int32) (v3 : Int32) (v4 : Int32) (v5 : Int32) (I : mIT) : Option (Int32 × mIT) :=
  if (I 75 1) ≤ v5 then (if v4 = v1 then (some (v3, I)) else (k40_ (v1, (v3 + (1 : Int32)), I))) else (oG (inB v5 10) (if (I 94 (v5).toNatClampNeg) = (-1 : Int32) then (k67_ (v1, v3, (v4 + (0 : Int32)), (v5 + (1 : Int32)), I)) else (oG (inB v5 10) (oG (inB v3 10) (if (I 94 (v5).toNatClampNeg) < (I 94 (v3).toNatClampNeg) then (k67_ (v1, v3, (v4 + (1 : Int32)), (v5 + (1 : Int32)), I)) else (oG (inB v5 10) (oG (inB v3 10) (if (I 94 (v5).toNatClampNeg) = (I 94 (v3).toNatClampNeg) then (if v3 ≤ v5 then (k67_ (v1, v3, (v4 + (0 : Int32)), (v5 + (1 : Int32)), I)) else (k67_ (v1, v3, (v4 + (1 : Int32)), (v5 + (1 : Int32)), I))) else (k67_ (v1, v3, (v4 + (0 : Int32)), (v5 + (1 : Int32)), I))))))))))
set_option maxRecDepth 20000 in
theorem bo_X12_order_67 {X : mXT} {E : mEn} {Fu : Nat} {R : mRT} {L : mLT}  (hC : mC X E mX12_order RX12 cX12_order) (hW : mWd R)   {out : Int32 × mIT} (hE : mEd X E 0 0 (mSame (some (.int (out.1))) 106 1 (out.2) R L)) (k40_ : Int32 × Int32 × mIT → Option (Int32 × mIT)) (hk40_ : ∀ (v1 : Int32) (v3 : Int32) (I : mIT),  k40_ (v1, v3, I) = some out → mG X E 40 [(0, .ref (mB E + 75)), (1, .int v1), (3, .int v3)] [] 106 1 I R L 0 0) (k67_ : Int32 × Int32 × Int32 × Int32 × mIT → Option (Int32 × mIT)) (hk67_ : ∀ (v1 : Int32) (v3 : Int32) (v4 : Int32) (v5 : Int32) (I : mIT),  k67_ (v1, v3, v4, v5, I) = some out → mG X E 67 [(0, .ref (mB E + 75)), (1, .int v1), (3, .int v3), (4, .int v4), (5, .int v5)] [] 106 1 I R L 0 0) (v1 : Int32) (v3 : Int32) (v4 : Int32) (v5 : Int32) (I : mIT) (h : b_X12_order_67 Fu k40_ k67_ v1 v3 v4 v5 I = some out) : mG X E 67 [(0, .ref (mB E + 75)), (1, .int v1), (3, .int v3), (4, .int v4), (5, .int v5)] [] 106 1 I R L 0 0 := by
  unfold b_X12_order_67 at h
  refine g_iload hC dX12_order_67 (q := 4) rfl ?_
  refine g_aload_n hC dX12_order_69 rfl (q := 0) rfl ?_
  refine g_geti hC fd_RX12_289 rfl (by decide) (Or.inl rfl) dX12_order_70 ?_
  refine g_ic_ge hC dX12_order_73 (tgt := 141) (by decide) (fun c73 => ?_) (fun c73 => ?_)
  · replace h := (if_pos c73).symm.trans h
    refine g_iload hC dX12_order_141 (q := 3) rfl ?_
    refine g_iload_n hC dX12_order_143 rfl (q := 1) rfl ?_
    refine g_ic_ne hC dX12_order_144 (tgt := 149) (by decide) (fun c144 => ?_) (fun c144 => ?_)
    · replace h := (if_neg c144).symm.trans h
      refine g_iinc hC dX12_order_149 rfl (q := 2) rfl (w := (v3 + (1 : Int32))) rfl (by decide) (lv' := [(3, .int (v3 + (1 : Int32))), (0, .ref (mB E + 75)), (1, .int v1), (4, .int v4), (5, .int v5)]) rfl ?_
      refine g_goto hC dX12_order_152 (tgt := 40) (by decide) ?_
      refine g_lv [1, 2, 0] rfl ?_
      exact hk40_ v1 (v3 + (1 : Int32)) I h
    · replace h := (if_pos c144).symm.trans h
      refine g_iload_n hC dX12_order_147 rfl (q := 2) rfl ?_
      cases h
      exact g_iret hC hE rfl dX12_order_148 (Nat.zero_le _) (Nat.zero_le _) ⟨rfl, rfl, rfl, rfl, rfl, rfl⟩
  · replace h := (if_neg c73).symm.trans h
    refine g_iload hC dX12_order_76 (q := 3) rfl ?_
    refine g_aload_n hC dX12_order_78 rfl (q := 0) rfl ?_
    refine g_getr hC fd_RX12_81 rfl (by decide) (C0 := "") (t0 := _) (Or.inr rfl) (rr_75_49 hW.1) dX12_order_79 ?_
    refine g_iload hC dX12_order_82 (q := 4) rfl ?_
    obtain ⟨g84, h⟩ := oG_some h
    refine g_iald hC rfl (by decide) (inB_in g84) dX12_order_84 ?_
    refine g_iconst hC dX12_order_85 (v := (-1 : Int32)) (by decide) ?_
    refine g_ic_eq hC dX12_order_86 (tgt := 131) (by decide) (fun c86 => ?_) (fun c86 => ?_)
    · replace h := (if_pos c86).symm.trans h
      refine g_iconst hC dX12_order_131 (v := (0 : Int32)) (by decide) ?_
      refine g_iadd hC dX12_order_132 ?_
      refine g_istore hC dX12_order_133 rfl (by decide) (lv' := [(4, .int (v4 + (0 : Int32))), (0, .ref (mB E + 75)), (1, .int v1), (3, .int v3), (5, .int v5)]) rfl ?_
      refine g_iinc hC dX12_order_135 rfl (q := 4) rfl (w := (v5 + (1 : Int32))) rfl (by decide) (lv' := [(5, .int (v5 + (1 : Int32))), (4, .int (v4 + (0 : Int32))), (0, .ref (mB E + 75)), (1, .int v1), (3, .int v3)]) rfl ?_
      refine g_goto hC dX12_order_138 (tgt := 67) (by decide) ?_
      refine g_lv [2, 3, 4, 1, 0] rfl ?_
      exact hk67_ v1 v3 (v4 + (0 : Int32)) (v5 + (1 : Int32)) I h
    · replace h := (if_neg c86).symm.trans h
      refine g_aload_n hC dX12_order_89 rfl (q := 0) rfl ?_
      refine g_getr hC fd_RX12_81 rfl (by decide) (C0 := "") (t0 := _) (Or.inr rfl) (rr_75_49 hW.1) dX12_order_90 ?_
      refine g_iload hC dX12_order_93 (q := 4) rfl ?_
      obtain ⟨g95, h⟩ := oG_some h
      refine g_iald hC rfl (by decide) (inB_in g95) dX12_order_95 ?_
      refine g_aload_n hC dX12_order_96 rfl (q := 0) rfl ?_
      refine g_getr hC fd_RX12_81 rfl (by decide) (C0 := "") (t0 := _) (Or.inr rfl) (rr_75_49 hW.1) dX12_order_97 ?_
      refine g_iload_n hC dX12_order_100 rfl (q := 2) rfl ?_
      obtain ⟨g101, h⟩ := oG_some h
      refine g_iald hC rfl (by decide) (inB_in g101) dX12_order_101 ?_
      refine g_ic_lt hC dX12_order_102 (tgt := 127) (by decide) (fun c102 => ?_) (fun c102 => ?_)
      · replace h := (if_pos c102).symm.trans h
        refine g_iconst hC dX12_order_127 (v := (1 : Int32)) (by decide) ?_
        refine g_goto hC dX12_order_128 (tgt := 132) (by decide) ?_
        refine g_iadd hC dX12_order_132 ?_
        refine g_istore hC dX12_order_133 rfl (by decide) (lv' := [(4, .int (v4 + (1 : Int32))), (0, .ref (mB E + 75)), (1, .int v1), (3, .int v3), (5, .int v5)]) rfl ?_
        refine g_iinc hC dX12_order_135 rfl (q := 4) rfl (w := (v5 + (1 : Int32))) rfl (by decide) (lv' := [(5, .int (v5 + (1 : Int32))), (4, .int (v4 + (1 : Int32))), (0, .ref (mB E + 75)), (1, .int v1), (3, .int v3)]) rfl ?_
        refine g_goto hC dX12_order_138 (tgt := 67) (by decide) ?_
        refine g_lv [2, 3, 4, 1, 0] rfl ?_
        exact hk67_ v1 v3 (v4 + (1 : Int32)) (v5 + (1 : Int32)) I h
      · replace h := (if_neg c102).symm.trans h
        refine g_aload_n hC dX12_order_105 rfl (q := 0) rfl ?_
        refine g_getr hC fd_RX12_81 rfl (by decide) (C0 := "") (t0 := _) (Or.inr rfl) (rr_75_49 hW.1) dX12_order_106 ?_
        refine g_iload hC dX12_order_109 (q := 4) rfl ?_
        obtain ⟨g111, h⟩ := oG_some h
        refine g_iald hC rfl (by decide) (inB_in g111) dX12_order_111 ?_
        refine g_aload_n hC dX12_order_112 rfl (q := 0) rfl ?_
        refine g_getr hC fd_RX12_81 rfl (by decide) (C0 := "") (t0 := _) (Or.inr rfl) (rr_75_49 hW.1) dX12_order_113 ?_
        refine g_iload_n hC dX12_order_116 rfl (q := 2) rfl ?_
        obtain ⟨g117, h⟩ := oG_some h
        refine g_iald hC rfl (by decide) (inB_in g117) dX12_order_117 ?_
        refine g_ic_ne hC dX12_order_118 (tgt := 131) (by decide) (fun c118 => ?_) (fun c118 => ?_)
        · replace h := (if_neg c118).symm.trans h
          refine g_iconst hC dX12_order_131 (v := (0 : Int32)) (by decide) ?_
          refine g_iadd hC dX12_order_132 ?_
          refine g_istore hC dX12_order_133 rfl (by decide) (lv' := [(4, .int (v4 + (0 : Int32))), (0, .ref (mB E + 75)), (1, .int v1), (3, .int v3), (5, .int v5)]) rfl ?_
          refine g_iinc hC dX12_order_135 rfl (q := 4) rfl (w := (v5 + (1 : Int32))) rfl (by decide) (lv' := [(5, .int (v5 + (1 : Int32))), (4, .int (v4 + (0 : Int32))), (0, .ref (mB E + 75)), (1, .int v1), (3, .int v3)]) rfl ?_
          refine g_goto hC dX12_order_138 (tgt := 67) (by decide) ?_
          refine g_lv [2, 3, 4, 1, 0] rfl ?_
          exact hk67_ v1 v3 (v4 + (0 : Int32)) (v5 + (1 : Int32)) I h
        · replace h := (if_pos c118).symm.trans h
          refine g_iload hC dX12_order_121 (q := 4) rfl ?_
          refine g_iload_n hC dX12_order_123 rfl (q := 2) rfl ?_
          refine g_ic_ge hC dX12_order_124 (tgt := 131) (by decide) (fun c124 => ?_) (fun c124 => ?_)
          · replace h := (if_pos c124).symm.trans h
            refine g_iconst hC dX12_order_131 (v := (0 : Int32)) (by decide) ?_
            refine g_iadd hC dX12_order_132 ?_
            refine g_istore hC dX12_order_133 rfl (by decide) (lv' := [(4, .int (v4 + (0 : Int32))), (0, .ref (mB E + 75)), (1, .int v1), (3, .int v3), (5, .int v5)]) rfl ?_
            refine g_iinc hC dX12_order_135 rfl (q := 4) rfl (w := (v5 + (1 : Int32))) rfl (by decide) (lv' := [(5, .int (v5 + (1 : Int32))), (4, .int (v4 + (0 : Int32))), (0, .ref (mB E + 75)), (1, .int v1), (3, .int v3)]) rfl ?_
            refine g_goto hC dX12_order_138 (tgt := 67) (by decide) ?_
            refine g_lv [2, 3, 4, 1, 0] rfl ?_
            exact hk67_ v1 v3 (v4 + (0 : Int32)) (v5 + (1 : Int32)) I h
          · replace h := (if_neg c124).symm.trans h
            refine g_iconst hC dX12_order_127 (v := (1 : Int32)) (by decide) ?_
            refine g_goto hC dX12_order_128 (tgt := 132) (by decide) ?_
            refine g_iadd hC dX12_order_132 ?_
            refine g_istore hC dX12_order_133 rfl (by decide) (lv' := [(4, .int (v4 + (1 : Int32))), (0, .ref (mB E + 75)), (1, .int v1), (3, .int v3), (5, .int v5)]) rfl ?_
            refine g_iinc hC dX12_order_135 rfl (q := 4) rfl (w := (v5 + (1 : Int32))) rfl (by decide) (lv' := [(5, .int (v5 + (1 : Int32))), (4, .int (v4 + (1 : Int32))), (0, .ref (mB E + 75)), (1, .int v1), (3, .int v3)]) rfl ?_
            refine g_goto hC dX12_order_138 (tgt := 67) (by decide) ?_
            refine g_lv [2, 3, 4, 1, 0] rfl ?_
            exact hk67_ v1 v3 (v4 + (1 : Int32)) (v5 + (1 : Int32)) I h
noncomputable def w_X12_order_67 (Fu : Nat) (k40_ : Int32 × Int32 × mIT → Option (Int32 × mIT)) (N : Nat) (v1 : Int32) (v3 : Int32) (v4 : Int32) (v5 : Int32) (I : mIT) : Option (Int32 × mIT) :=
  loopF (fun self (s : Int32 × Int32 × Int32 × Int32 × mIT) => b_X12_order_67 Fu k40_ self s.1 s.2.1 s.2.2.1 s.2.2.2.1 s.2.2.2.2) N (v1, v3, v4, v5, I)
theorem wo_X12_order_67 {X : mXT} {E : mEn} {Fu : Nat} {R : mRT} {L : mLT}  (hC : mC X E mX12_order RX12 cX12_order) (hW : mWd R)   {out : Int32 × mIT} (hE : mEd X E 0 0 (mSame (some (.int (out.1))) 106 1 (out.2) R L)) (k40_ : Int32 × Int32 × mIT → Option (Int32 × mIT)) (hk40_ : ∀ (v1 : Int32) (v3 : Int32) (I : mIT),  k40_ (v1, v3, I) = some out → mG X E 40 [(0, .ref (mB E + 75)), (1, .int v1), (3, .int v3)] [] 106 1 I R L 0 0) (N : Nat) (v1 : Int32) (v3 : Int32) (v4 : Int32) (v5 : Int32) (I : mIT) (h : w_X12_order_67 Fu k40_ N v1 v3 v4 v5 I = some out) : mG X E 67 [(0, .ref (mB E + 75)), (1, .int v1), (3, .int v3), (4, .int v4), (5, .int v5)] [] 106 1 I R L 0 0 :=
  loopF_ok (Gd := fun s : Int32 × Int32 × Int32 × Int32 × mIT => mG X E 67 [(0, .ref (mB E + 75)), (1, .int s.1), (3, .int s.2.1), (4, .int s.2.2.1), (5, .int s.2.2.2.1)] [] 106 1 s.2.2.2.2 R L 0 0) (fun self hs s h => bo_X12_order_67 hC hW hE k40_ hk40_ self (fun v1 v3 v4 v5 I h => hs (v1, v3, v4, v5, I) h) s.1 s.2.1 s.2.2.1 s.2.2.2.1 s.2.2.2.2 h) N (v1, v3, v4, v5, I) h
noncomputable def b_X12_order_40 (Fu : Nat) (k40_ : Int32 × Int32 × mIT → Option (Int32 × mIT)) (v1 : Int32) (v3 : Int32) (I : mIT) : Option (Int32 × mIT) :=
  if (I 75 1) ≤ v3 then (some ((0 : Int32), I)) else (oG (inB v3 10) (if (I 94 (v3).toNatClampNeg) = (-1 : Int32) then (k40_ (v1, (v3 + (1 : Int32)), I)) else (w_X12_order_67 Fu k40_ Fu v1 v3 (0 : Int32) (0 : Int32) I)))
set_option maxRecDepth 20000 in
theorem bo_X12_order_40 {X : mXT} {E : mEn} {Fu : Nat} {R : mRT} {L : mLT}  (hC : mC X E mX12_order RX12 cX12_order) (hW : mWd R)   {out : Int32 × mIT} (hE : mEd X E 0 0 (mSame (some (.int (out.1))) 106 1 (out.2) R L)) (k40_ : Int32 × Int32 × mIT → Option (Int32 × mIT)) (hk40_ : ∀ (v1 : Int32) (v3 : Int32) (I : mIT),  k40_ (v1, v3, I) = some out → mG X E 40 [(0, .ref (mB E + 75)), (1, .int v1), (3, .int v3)] [] 106 1 I R L 0 0) (v1 : Int32) (v3 : Int32) (I : mIT) (h : b_X12_order_40 Fu k40_ v1 v3 I = some out) : mG X E 40 [(0, .ref (mB E + 75)), (1, .int v1), (3, .int v3)] [] 106 1 I R L 0 0 := by
  unfold b_X12_order_40 at h
  refine g_iload_n hC dX12_order_40 rfl (q := 2) rfl ?_
  refine g_aload_n hC dX12_order_41 rfl (q := 0) rfl ?_
  refine g_geti hC fd_RX12_289 rfl (by decide) (Or.inl rfl) dX12_order_42 ?_
  refine g_ic_ge hC dX12_order_45 (tgt := 155) (by decide) (fun c45 => ?_) (fun c45 => ?_)
  · replace h := (if_pos c45).symm.trans h
    refine g_iconst hC dX12_order_155 (v := (0 : Int32)) (by decide) ?_
    cases h
    exact g_iret hC hE rfl dX12_order_156 (Nat.zero_le _) (Nat.zero_le _) ⟨rfl, rfl, rfl, rfl, rfl, rfl⟩
  · replace h := (if_neg c45).symm.trans h
    refine g_aload_n hC dX12_order_48 rfl (q := 0) rfl ?_
    refine g_getr hC fd_RX12_81 rfl (by decide) (C0 := "") (t0 := _) (Or.inr rfl) (rr_75_49 hW.1) dX12_order_49 ?_
    refine g_iload_n hC dX12_order_52 rfl (q := 2) rfl ?_
    obtain ⟨g53, h⟩ := oG_some h
    refine g_iald hC rfl (by decide) (inB_in g53) dX12_order_53 ?_
    refine g_iconst hC dX12_order_54 (v := (-1 : Int32)) (by decide) ?_
    refine g_ic_ne hC dX12_order_55 (tgt := 61) (by decide) (fun c55 => ?_) (fun c55 => ?_)
    · replace h := (if_neg c55).symm.trans h
      refine g_iconst hC dX12_order_61 (v := (0 : Int32)) (by decide) ?_
      refine g_istore hC dX12_order_62 rfl (by decide) (lv' := [(4, .int (0 : Int32)), (0, .ref (mB E + 75)), (1, .int v1), (3, .int v3)]) rfl ?_
      refine g_iconst hC dX12_order_64 (v := (0 : Int32)) (by decide) ?_
      refine g_istore hC dX12_order_65 rfl (by decide) (lv' := [(5, .int (0 : Int32)), (4, .int (0 : Int32)), (0, .ref (mB E + 75)), (1, .int v1), (3, .int v3)]) rfl ?_
      refine g_lv [2, 3, 4, 1, 0] rfl ?_
      exact wo_X12_order_67 hC hW hE k40_ hk40_ Fu (v1) (v3) ((0 : Int32)) ((0 : Int32)) (I) h
    · replace h := (if_pos c55).symm.trans h
      refine g_goto hC dX12_order_58 (tgt := 149) (by decide) ?_
      refine g_iinc hC dX12_order_149 rfl (q := 2) rfl (w := (v3 + (1 : Int32))) rfl (by decide) (lv' := [(3, .int (v3 + (1 : Int32))), (0, .ref (mB E + 75)), (1, .int v1)]) rfl ?_
      refine g_goto hC dX12_order_152 (tgt := 40) (by decide) ?_
      refine g_lv [1, 2, 0] rfl ?_
      exact hk40_ v1 (v3 + (1 : Int32)) I h
noncomputable def w_X12_order_40 (Fu : Nat)  (N : Nat) (v1 : Int32) (v3 : Int32) (I : mIT) : Option (Int32 × mIT) :=
  loopF (fun self (s : Int32 × Int32 × mIT) => b_X12_order_40 Fu self s.1 s.2.1 s.2.2) N (v1, v3, I)
theorem wo_X12_order_40 {X : mXT} {E : mEn} {Fu : Nat} {R : mRT} {L : mLT}  (hC : mC X E mX12_order RX12 cX12_order) (hW : mWd R)   {out : Int32 × mIT} (hE : mEd X E 0 0 (mSame (some (.int (out.1))) 106 1 (out.2) R L))  (N : Nat) (v1 : Int32) (v3 : Int32) (I : mIT) (h : w_X12_order_40 Fu  N v1 v3 I = some out) : mG X E 40 [(0, .ref (mB E + 75)), (1, .int v1), (3, .int v3)] [] 106 1 I R L 0 0 :=
  loopF_ok (Gd := fun s : Int32 × Int32 × mIT => mG X E 40 [(0, .ref (mB E + 75)), (1, .int s.1), (3, .int s.2.1)] [] 106 1 s.2.2 R L 0 0) (fun self hs s h => bo_X12_order_40 hC hW hE self (fun v1 v3 I h => hs (v1, v3, I) h) s.1 s.2.1 s.2.2 h) N (v1, v3, I) h
noncomputable def f_X12_order (Fu : Nat) (I : mIT) (v1 : Int32) : Option (Int32 × mIT) :=
  oB (f_X12_bells Fu (mU I 75 0 (0 : Int32))) (fun r6 => if v1 < 0 then (oB (f_X12_right Fu r6.2 (0 : Int32) (1 : Int32)) (fun r26 => if r26.1 = 0 then (some ((0 : Int32), r26.2)) else (oB (f_X12_laysSoft Fu r26.2) (fun r35 => w_X12_order_40 Fu Fu v1 (0 : Int32) r35)))) else (if r6.1 ≤ v1 then (oB (f_X12_right Fu r6.2 (0 : Int32) (1 : Int32)) (fun r26 => if r26.1 = 0 then (some ((0 : Int32), r26.2)) else (oB (f_X12_laysSoft Fu r26.2) (fun r35 => w_X12_order_40 Fu Fu v1 (0 : Int32) r35)))) else (oB (f_X12_right Fu r6.2 (1 : Int32) (1 : Int32)) (fun r26 => if r26.1 = 0 then (some ((0 : Int32), r26.2)) else (oB (f_X12_laysSoft Fu r26.2) (fun r35 => w_X12_order_40 Fu Fu v1 (0 : Int32) r35))))))
set_option maxRecDepth 20000 in
theorem ok_X12_order {l : Launch} {E : mEn} {Fu : Nat} {I : mIT} {R : mRT} {L : mLT} {v1 : Int32} (hst : l.stackTraces = false) (hW : mWd R)  {out : Int32 × mIT} (h : f_X12_order Fu I v1 = some out) : mOk l E mX12_order [.ref (mB E + 75), .int v1] 106 1 I R L 0 0 (mSame (some (.int (out.1))) 106 1 (out.2) R L) := by
  refine mOk_of hst (by decide) (Nat.le_of_ble_eq_true rfl) (fun X hC hE _ => ?_)
  have hC : mC X E mX12_order RX12 cX12_order := hC
  show mG X E 0 [(0, .ref (mB E + 75)), (1, .int v1)] [] 106 1 I R L 0 0
  unfold f_X12_order at h
  refine g_aload_n hC dX12_order_0 rfl (q := 0) rfl ?_
  refine g_iconst hC dX12_order_1 (v := (0 : Int32)) (by decide) ?_
  refine g_puti hC fd_RX12_114 rfl (by decide) rfl dX12_order_2 (nm_e ?_)
  refine g_aload_n hC dX12_order_5 rfl (q := 0) rfl ?_
  obtain ⟨r6, h6, h⟩ := oB_some h
  refine g_cV1 hC cv_X12_bells wd_1984 ⟨Nat.le_of_ble_eq_true rfl, Nat.le_of_ble_eq_true rfl⟩ rfl (by decide) dX12_order_6 (As := []) (st := []) (ok_X12_bells hC.2.2.2.2.2.2.2.1 hW h6) rfl rfl (Nat.le_of_ble_eq_true rfl) ⟨Nat.zero_le _, Nat.zero_le _⟩ ?_
  refine g_istore_n hC dX12_order_9 rfl rfl (by decide) (lv' := [(2, .int r6.1), (0, .ref (mB E + 75)), (1, .int v1)]) rfl ?_
  refine g_aload_n hC dX12_order_10 rfl (q := 1) rfl ?_
  refine g_iload_n hC dX12_order_11 rfl (q := 2) rfl ?_
  refine g_if_lt hC dX12_order_12 (tgt := 24) (by decide) (fun c12 => ?_) (fun c12 => ?_)
  · replace h := (if_pos c12).symm.trans h
    refine g_iconst hC dX12_order_24 (v := (0 : Int32)) (by decide) ?_
    refine g_iconst hC dX12_order_25 (v := (1 : Int32)) (by decide) ?_
    obtain ⟨r26, h26, h⟩ := oB_some h
    refine g_cV1 hC cv_X12_right wd_1851 ⟨Nat.le_of_ble_eq_true rfl, Nat.le_of_ble_eq_true rfl⟩ rfl (by decide) dX12_order_26 (As := [.int (0 : Int32), .int (1 : Int32)]) (st := []) (ok_X12_right hC.2.2.2.2.2.2.2.1 hW h26) rfl rfl (Nat.le_of_ble_eq_true rfl) ⟨Nat.zero_le _, Nat.zero_le _⟩ ?_
    refine g_if_ne hC dX12_order_29 (tgt := 34) (by decide) (fun c29 => ?_) (fun c29 => ?_)
    · replace h := (if_neg c29).symm.trans h
      refine g_aload_n hC dX12_order_34 rfl (q := 1) rfl ?_
      obtain ⟨r35, h35, h⟩ := oB_some h
      refine g_cV0 hC cv_X12_laysSoft wd_2138 ⟨Nat.le_of_ble_eq_true rfl, Nat.le_of_ble_eq_true rfl⟩ rfl (by decide) dX12_order_35 (As := []) (st := []) (ok_X12_laysSoft hC.2.2.2.2.2.2.2.1 hW h35) rfl rfl (Nat.le_of_ble_eq_true rfl) ⟨Nat.zero_le _, Nat.zero_le _⟩ ?_
      refine g_iconst hC dX12_order_38 (v := (0 : Int32)) (by decide) ?_
      refine g_istore_n hC dX12_order_39 rfl rfl (by decide) (lv' := [(3, .int (0 : Int32)), (2, .int r6.1), (0, .ref (mB E + 75)), (1, .int v1)]) rfl ?_
      refine g_lv [2, 3, 0] rfl ?_
      exact wo_X12_order_40 hC hW hE Fu (v1) ((0 : Int32)) (r35) h
    · replace h := (if_pos c29).symm.trans h
      refine g_iconst hC dX12_order_32 (v := (0 : Int32)) (by decide) ?_
      cases h
      exact g_iret hC hE rfl dX12_order_33 (Nat.zero_le _) (Nat.zero_le _) ⟨rfl, rfl, rfl, rfl, rfl, rfl⟩
  · replace h := (if_neg c12).symm.trans h
    refine g_iload_n hC dX12_order_15 rfl (q := 2) rfl ?_
    refine g_iload_n hC dX12_order_16 rfl (q := 0) rfl ?_
    refine g_ic_ge hC dX12_order_17 (tgt := 24) (by decide) (fun c17 => ?_) (fun c17 => ?_)
    · replace h := (if_pos c17).symm.trans h
      refine g_iconst hC dX12_order_24 (v := (0 : Int32)) (by decide) ?_
      refine g_iconst hC dX12_order_25 (v := (1 : Int32)) (by decide) ?_
      obtain ⟨r26, h26, h⟩ := oB_some h
      refine g_cV1 hC cv_X12_right wd_1851 ⟨Nat.le_of_ble_eq_true rfl, Nat.le_of_ble_eq_true rfl⟩ rfl (by decide) dX12_order_26 (As := [.int (0 : Int32), .int (1 : Int32)]) (st := []) (ok_X12_right hC.2.2.2.2.2.2.2.1 hW h26) rfl rfl (Nat.le_of_ble_eq_true rfl) ⟨Nat.zero_le _, Nat.zero_le _⟩ ?_
      refine g_if_ne hC dX12_order_29 (tgt := 34) (by decide) (fun c29 => ?_) (fun c29 => ?_)
      · replace h := (if_neg c29).symm.trans h
        refine g_aload_n hC dX12_order_34 rfl (q := 1) rfl ?_
        obtain ⟨r35, h35, h⟩ := oB_some h
        refine g_cV0 hC cv_X12_laysSoft wd_2138 ⟨Nat.le_of_ble_eq_true rfl, Nat.le_of_ble_eq_true rfl⟩ rfl (by decide) dX12_order_35 (As := []) (st := []) (ok_X12_laysSoft hC.2.2.2.2.2.2.2.1 hW h35) rfl rfl (Nat.le_of_ble_eq_true rfl) ⟨Nat.zero_le _, Nat.zero_le _⟩ ?_
        refine g_iconst hC dX12_order_38 (v := (0 : Int32)) (by decide) ?_
        refine g_istore_n hC dX12_order_39 rfl rfl (by decide) (lv' := [(3, .int (0 : Int32)), (2, .int r6.1), (0, .ref (mB E + 75)), (1, .int v1)]) rfl ?_
        refine g_lv [2, 3, 0] rfl ?_
        exact wo_X12_order_40 hC hW hE Fu (v1) ((0 : Int32)) (r35) h
      · replace h := (if_pos c29).symm.trans h
        refine g_iconst hC dX12_order_32 (v := (0 : Int32)) (by decide) ?_
        cases h
        exact g_iret hC hE rfl dX12_order_33 (Nat.zero_le _) (Nat.zero_le _) ⟨rfl, rfl, rfl, rfl, rfl, rfl⟩
    · replace h := (if_neg c17).symm.trans h
      refine g_iconst hC dX12_order_20 (v := (1 : Int32)) (by decide) ?_
      refine g_goto hC dX12_order_21 (tgt := 25) (by decide) ?_
      refine g_iconst hC dX12_order_25 (v := (1 : Int32)) (by decide) ?_
      obtain ⟨r26, h26, h⟩ := oB_some h
      refine g_cV1 hC cv_X12_right wd_1851 ⟨Nat.le_of_ble_eq_true rfl, Nat.le_of_ble_eq_true rfl⟩ rfl (by decide) dX12_order_26 (As := [.int (1 : Int32), .int (1 : Int32)]) (st := []) (ok_X12_right hC.2.2.2.2.2.2.2.1 hW h26) rfl rfl (Nat.le_of_ble_eq_true rfl) ⟨Nat.zero_le _, Nat.zero_le _⟩ ?_
      refine g_if_ne hC dX12_order_29 (tgt := 34) (by decide) (fun c29 => ?_) (fun c29 => ?_)
      · replace h := (if_neg c29).symm.trans h
        refine g_aload_n hC dX12_order_34 rfl (q := 1) rfl ?_
        obtain ⟨r35, h35, h⟩ := oB_some h
        refine g_cV0 hC cv_X12_laysSoft wd_2138 ⟨Nat.le_of_ble_eq_true rfl, Nat.le_of_ble_eq_true rfl⟩ rfl (by decide) dX12_order_35 (As := []) (st := []) (ok_X12_laysSoft hC.2.2.2.2.2.2.2.1 hW h35) rfl rfl (Nat.le_of_ble_eq_true rfl) ⟨Nat.zero_le _, Nat.zero_le _⟩ ?_
        refine g_iconst hC dX12_order_38 (v := (0 : Int32)) (by decide) ?_
        refine g_istore_n hC dX12_order_39 rfl rfl (by decide) (lv' := [(3, .int (0 : Int32)), (2, .int r6.1), (0, .ref (mB E + 75)), (1, .int v1)]) rfl ?_
        refine g_lv [2, 3, 0] rfl ?_
        exact wo_X12_order_40 hC hW hE Fu (v1) ((0 : Int32)) (r35) h
      · replace h := (if_pos c29).symm.trans h
        refine g_iconst hC dX12_order_32 (v := (0 : Int32)) (by decide) ?_
        cases h
        exact g_iret hC hE rfl dX12_order_33 (Nat.zero_le _) (Nat.zero_le _) ⟨rfl, rfl, rfl, rfl, rfl, rfl⟩
noncomputable def b_X12_restore_32 (Fu : Nat) (k32_ : Int32 × mIT → Option (Int32 × mIT)) (v1 : Int32) (I : mIT) : Option (Int32 × mIT) :=
  if (53 : Int32) ≤ v1 then (oB (f_X12_copies Fu I 103 90) (fun r65 => oB (f_X12_copies Fu r65 104 99) (fun r77 => some ((1 : Int32), r77)))) else (oG (inB v1 53) (oG (inB v1 106) (k32_ ((v1 + (1 : Int32)), (mU I 89 (v1).toNatClampNeg (I 102 (v1).toNatClampNeg))))))
set_option maxRecDepth 20000 in
theorem bo_X12_restore_32 {X : mXT} {E : mEn} {Fu : Nat} {R : mRT} {L : mLT}  (hC : mC X E mX12_restore RX12 cX12_restore) (hW : mWd R)   {out : Int32 × mIT} (hE : mEd X E 0 0 (mSame (some (.int (out.1))) 106 1 (out.2) R L)) (k32_ : Int32 × mIT → Option (Int32 × mIT)) (hk32_ : ∀ (v1 : Int32) (I : mIT),  k32_ (v1, I) = some out → mG X E 32 [(0, .ref (mB E + 75)), (1, .int v1)] [] 106 1 I R L 0 0) (v1 : Int32) (I : mIT) (h : b_X12_restore_32 Fu k32_ v1 I = some out) : mG X E 32 [(0, .ref (mB E + 75)), (1, .int v1)] [] 106 1 I R L 0 0 := by
  unfold b_X12_restore_32 at h
  refine g_iload_n hC dX12_restore_32 rfl (q := 1) rfl ?_
  refine g_bipush hC dX12_restore_33 (v := (53 : Int32)) (by decide) ?_
  refine g_ic_ge hC dX12_restore_35 (tgt := 56) (by decide) (fun c35 => ?_) (fun c35 => ?_)
  · replace h := (if_pos c35).symm.trans h
    refine g_aload_n hC dX12_restore_56 rfl (q := 0) rfl ?_
    refine g_aload_n hC dX12_restore_57 rfl (q := 0) rfl ?_
    refine g_getr hC fd_RX12_108 rfl (by decide) (C0 := "") (t0 := _) (Or.inr rfl) (rr_75_64 hW.1) dX12_restore_58 ?_
    refine g_aload_n hC dX12_restore_61 rfl (q := 0) rfl ?_
    refine g_getr hC fd_RX12_66 rfl (by decide) (C0 := "") (t0 := _) (Or.inr rfl) (rr_75_43 hW.1) dX12_restore_62 ?_
    obtain ⟨r65, h65, h⟩ := oB_some h
    refine g_cV0 hC cv_X12_copies wd_1968 ⟨Nat.le_of_ble_eq_true rfl, Nat.le_of_ble_eq_true rfl⟩ rfl (by decide) dX12_restore_65 (As := [.ref (mB E + 103), .ref (mB E + 90)]) (st := []) (ok_X12_copies hC.2.2.2.2.2.2.2.1 hW ⟨rfl, (by decide)⟩ ⟨rfl, (by decide)⟩ h65) rfl rfl (Nat.le_of_ble_eq_true rfl) ⟨Nat.zero_le _, Nat.zero_le _⟩ ?_
    refine g_aload_n hC dX12_restore_68 rfl (q := 0) rfl ?_
    refine g_aload_n hC dX12_restore_69 rfl (q := 0) rfl ?_
    refine g_getr hC fd_RX12_111 rfl (by decide) (C0 := "") (t0 := _) (Or.inr rfl) (rr_75_65 hW.1) dX12_restore_70 ?_
    refine g_aload_n hC dX12_restore_73 rfl (q := 0) rfl ?_
    refine g_getr hC fd_RX12_96 rfl (by decide) (C0 := "") (t0 := _) (Or.inr rfl) (rr_75_56 hW.1) dX12_restore_74 ?_
    obtain ⟨r77, h77, h⟩ := oB_some h
    refine g_cV0 hC cv_X12_copies wd_1968 ⟨Nat.le_of_ble_eq_true rfl, Nat.le_of_ble_eq_true rfl⟩ rfl (by decide) dX12_restore_77 (As := [.ref (mB E + 104), .ref (mB E + 99)]) (st := []) (ok_X12_copies hC.2.2.2.2.2.2.2.1 hW ⟨rfl, (by decide)⟩ ⟨rfl, (by decide)⟩ h77) rfl rfl (Nat.le_of_ble_eq_true rfl) ⟨Nat.zero_le _, Nat.zero_le _⟩ ?_
    refine g_iconst hC dX12_restore_80 (v := (1 : Int32)) (by decide) ?_
    cases h
    exact g_zret hC (by decide) hE rfl dX12_restore_81 (Nat.zero_le _) (Nat.zero_le _) ⟨rfl, rfl, rfl, rfl, rfl, rfl⟩
  · replace h := (if_neg c35).symm.trans h
    refine g_aload_n hC dX12_restore_38 rfl (q := 0) rfl ?_
    refine g_getr hC fd_RX12_63 rfl (by decide) (C0 := "") (t0 := _) (Or.inr rfl) (rr_75_42 hW.1) dX12_restore_39 ?_
    refine g_iload_n hC dX12_restore_42 rfl (q := 1) rfl ?_
    refine g_aload_n hC dX12_restore_43 rfl (q := 0) rfl ?_
    refine g_getr hC fd_RX12_105 rfl (by decide) (C0 := "") (t0 := _) (Or.inr rfl) (rr_75_63 hW.1) dX12_restore_44 ?_
    refine g_iload_n hC dX12_restore_47 rfl (q := 1) rfl ?_
    obtain ⟨g48, h⟩ := oG_some h
    refine g_iald hC rfl (by decide) (inB_in g48) dX12_restore_48 ?_
    obtain ⟨g49, h⟩ := oG_some h
    refine g_iast hC rfl (by decide) (inB_in g49) dX12_restore_49 (nm_e ?_)
    refine g_iinc hC dX12_restore_50 rfl (q := 1) rfl (w := (v1 + (1 : Int32))) rfl (by decide) (lv' := [(1, .int (v1 + (1 : Int32))), (0, .ref (mB E + 75))]) rfl ?_
    refine g_goto hC dX12_restore_53 (tgt := 32) (by decide) ?_
    refine g_lv [1, 0] rfl ?_
    exact hk32_ (v1 + (1 : Int32)) (mU I 89 (v1).toNatClampNeg (I 102 (v1).toNatClampNeg)) h
noncomputable def w_X12_restore_32 (Fu : Nat)  (N : Nat) (v1 : Int32) (I : mIT) : Option (Int32 × mIT) :=
  loopF (fun self (s : Int32 × mIT) => b_X12_restore_32 Fu self s.1 s.2) N (v1, I)
theorem wo_X12_restore_32 {X : mXT} {E : mEn} {Fu : Nat} {R : mRT} {L : mLT}  (hC : mC X E mX12_restore RX12 cX12_restore) (hW : mWd R)   {out : Int32 × mIT} (hE : mEd X E 0 0 (mSame (some (.int (out.1))) 106 1 (out.2) R L))  (N : Nat) (v1 : Int32) (I : mIT) (h : w_X12_restore_32 Fu  N v1 I = some out) : mG X E 32 [(0, .ref (mB E + 75)), (1, .int v1)] [] 106 1 I R L 0 0 :=
  loopF_ok (Gd := fun s : Int32 × mIT => mG X E 32 [(0, .ref (mB E + 75)), (1, .int s.1)] [] 106 1 s.2 R L 0 0) (fun self hs s h => bo_X12_restore_32 hC hW hE self (fun v1 I h => hs (v1, I) h) s.1 s.2 h) N (v1, I) h
noncomputable def f_X12_restore (Fu : Nat) (I : mIT)  : Option (Int32 × mIT) :=
  if ((mU I 75 0 (0 : Int32)) 75 60) = 0 then (some ((0 : Int32), (mU I 75 0 (0 : Int32)))) else (w_X12_restore_32 Fu Fu (0 : Int32) (mU (mU (mU I 75 0 (0 : Int32)) 75 44 ((mU I 75 0 (0 : Int32)) 75 61)) 75 55 ((mU (mU I 75 0 (0 : Int32)) 75 44 ((mU I 75 0 (0 : Int32)) 75 61)) 75 62)))
set_option maxRecDepth 20000 in
theorem ok_X12_restore {l : Launch} {E : mEn} {Fu : Nat} {I : mIT} {R : mRT} {L : mLT}  (hst : l.stackTraces = false) (hW : mWd R)  {out : Int32 × mIT} (h : f_X12_restore Fu I  = some out) : mOk l E mX12_restore [.ref (mB E + 75)] 106 1 I R L 0 0 (mSame (some (.int (out.1))) 106 1 (out.2) R L) := by
  refine mOk_of hst (by decide) (Nat.le_of_ble_eq_true rfl) (fun X hC hE _ => ?_)
  have hC : mC X E mX12_restore RX12 cX12_restore := hC
  show mG X E 0 [(0, .ref (mB E + 75))] [] 106 1 I R L 0 0
  unfold f_X12_restore at h
  refine g_aload_n hC dX12_restore_0 rfl (q := 0) rfl ?_
  refine g_iconst hC dX12_restore_1 (v := (0 : Int32)) (by decide) ?_
  refine g_puti hC fd_RX12_114 rfl (by decide) rfl dX12_restore_2 (nm_e ?_)
  refine g_aload_n hC dX12_restore_5 rfl (q := 0) rfl ?_
  refine g_geti hC fd_RX12_311 rfl (by decide) (Or.inr rfl) dX12_restore_6 ?_
  refine g_if_ne hC dX12_restore_9 (tgt := 14) (by decide) (fun c9 => ?_) (fun c9 => ?_)
  · replace h := (if_neg c9).symm.trans h
    refine g_aload_n hC dX12_restore_14 rfl (q := 0) rfl ?_
    refine g_aload_n hC dX12_restore_15 rfl (q := 0) rfl ?_
    refine g_geti hC fd_RX12_458 rfl (by decide) (Or.inl rfl) dX12_restore_16 ?_
    refine g_puti hC fd_RX12_305 rfl (by decide) rfl dX12_restore_19 (nm_e ?_)
    refine g_aload_n hC dX12_restore_22 rfl (q := 0) rfl ?_
    refine g_aload_n hC dX12_restore_23 rfl (q := 0) rfl ?_
    refine g_geti hC fd_RX12_461 rfl (by decide) (Or.inl rfl) dX12_restore_24 ?_
    refine g_puti hC fd_RX12_308 rfl (by decide) rfl dX12_restore_27 (nm_e ?_)
    refine g_iconst hC dX12_restore_30 (v := (0 : Int32)) (by decide) ?_
    refine g_istore_n hC dX12_restore_31 rfl rfl (by decide) (lv' := [(1, .int (0 : Int32)), (0, .ref (mB E + 75))]) rfl ?_
    refine g_lv [1, 0] rfl ?_
    exact wo_X12_restore_32 hC hW hE Fu ((0 : Int32)) ((mU (mU (mU I 75 0 (0 : Int32)) 75 44 ((mU I 75 0 (0 : Int32)) 75 61)) 75 55 ((mU (mU I 75 0 (0 : Int32)) 75 44 ((mU I 75 0 (0 : Int32)) 75 61)) 75 62))) h
  · replace h := (if_pos c9).symm.trans h
    refine g_iconst hC dX12_restore_12 (v := (0 : Int32)) (by decide) ?_
    cases h
    exact g_zret hC (by decide) hE rfl dX12_restore_13 (Nat.zero_le _) (Nat.zero_le _) ⟨rfl, rfl, rfl, rfl, rfl, rfl⟩
noncomputable def f_X12_rings (Fu : Nat) (I : mIT) (v1 : Int32) : Option (Int32 × mIT) :=
  oB (f_X12_isDays Fu (mU I 75 0 (0 : Int32)) v1 (1 : Int32)) (fun r8 => if r8.1 = 0 then (some ((0 : Int32), r8.2)) else (oB (f_X12_daysGo Fu r8.2 v1) (fun r18 => oB (f_X12_notesIn Fu r18 (53 : Int32)) (fun r25 => oB (f_X12_hasTune Fu r25.2 r25.1) (fun r28 => oG (isB r28) (some (r28, r25.2)))))))
set_option maxRecDepth 20000 in
theorem ok_X12_rings {l : Launch} {E : mEn} {Fu : Nat} {I : mIT} {R : mRT} {L : mLT} {v1 : Int32} (hst : l.stackTraces = false) (hW : mWd R)  {out : Int32 × mIT} (h : f_X12_rings Fu I v1 = some out) : mOk l E mX12_rings [.ref (mB E + 75), .int v1] 106 1 I R L 0 0 (mSame (some (.int (out.1))) 106 1 (out.2) R L) := by
  refine mOk_of hst (by decide) (Nat.le_of_ble_eq_true rfl) (fun X hC hE _ => ?_)
  have hC : mC X E mX12_rings RX12 cX12_rings := hC
  show mG X E 0 [(0, .ref (mB E + 75)), (1, .int v1)] [] 106 1 I R L 0 0
  unfold f_X12_rings at h
  refine g_aload_n hC dX12_rings_0 rfl (q := 0) rfl ?_
  refine g_iconst hC dX12_rings_1 (v := (0 : Int32)) (by decide) ?_
  refine g_puti hC fd_RX12_114 rfl (by decide) rfl dX12_rings_2 (nm_e ?_)
  refine g_aload_n hC dX12_rings_5 rfl (q := 0) rfl ?_
  refine g_iload_n hC dX12_rings_6 rfl (q := 1) rfl ?_
  refine g_iconst hC dX12_rings_7 (v := (1 : Int32)) (by decide) ?_
  obtain ⟨r8, h8, h⟩ := oB_some h
  refine g_cV1 hC cv_X12_isDays wd_2102 ⟨Nat.le_of_ble_eq_true rfl, Nat.le_of_ble_eq_true rfl⟩ rfl (by decide) dX12_rings_8 (As := [.int v1, .int (1 : Int32)]) (st := []) (ok_X12_isDays hC.2.2.2.2.2.2.2.1 hW h8) rfl rfl (Nat.le_of_ble_eq_true rfl) ⟨Nat.zero_le _, Nat.zero_le _⟩ ?_
  refine g_if_ne hC dX12_rings_11 (tgt := 16) (by decide) (fun c11 => ?_) (fun c11 => ?_)
  · replace h := (if_neg c11).symm.trans h
    refine g_aload_n hC dX12_rings_16 rfl (q := 0) rfl ?_
    refine g_iload_n hC dX12_rings_17 rfl (q := 1) rfl ?_
    obtain ⟨r18, h18, h⟩ := oB_some h
    refine g_cV0 hC cv_X12_daysGo wd_2106 ⟨Nat.le_of_ble_eq_true rfl, Nat.le_of_ble_eq_true rfl⟩ rfl (by decide) dX12_rings_18 (As := [.int v1]) (st := []) (ok_X12_daysGo hC.2.2.2.2.2.2.2.1 hW h18) rfl rfl (Nat.le_of_ble_eq_true rfl) ⟨Nat.zero_le _, Nat.zero_le _⟩ ?_
    refine g_aload_n hC dX12_rings_21 rfl (q := 0) rfl ?_
    refine g_aload_n hC dX12_rings_22 rfl (q := 0) rfl ?_
    refine g_bipush hC dX12_rings_23 (v := (53 : Int32)) (by decide) ?_
    obtain ⟨r25, h25, h⟩ := oB_some h
    refine g_cV1 hC cv_X12_notesIn wd_2008 ⟨Nat.le_of_ble_eq_true rfl, Nat.le_of_ble_eq_true rfl⟩ rfl (by decide) dX12_rings_25 (As := [.int (53 : Int32)]) (st := [.ref (mB E + 75)]) (ok_X12_notesIn hC.2.2.2.2.2.2.2.1 hW h25) rfl rfl (Nat.le_of_ble_eq_true rfl) ⟨Nat.zero_le _, Nat.zero_le _⟩ ?_
    obtain ⟨r28, h28, h⟩ := oB_some h
    refine g_cV1 hC cv_X12_hasTune wd_2126 ⟨Nat.le_of_ble_eq_true rfl, Nat.le_of_ble_eq_true rfl⟩ rfl (by decide) dX12_rings_28 (As := [.int r25.1]) (st := []) (ok_X12_hasTune hC.2.2.2.2.2.2.2.1 hW h28) rfl rfl (Nat.le_of_ble_eq_true rfl) ⟨Nat.zero_le _, Nat.zero_le _⟩ ?_
    obtain ⟨g31, h⟩ := oG_some h
    cases h
    exact g_zret hC (isB_or g31) hE rfl dX12_rings_31 (Nat.zero_le _) (Nat.zero_le _) ⟨rfl, rfl, rfl, rfl, rfl, rfl⟩
  · replace h := (if_pos c11).symm.trans h
    refine g_iconst hC dX12_rings_14 (v := (0 : Int32)) (by decide) ?_
    cases h
    exact g_zret hC (by decide) hE rfl dX12_rings_15 (Nat.zero_le _) (Nat.zero_le _) ⟨rfl, rfl, rfl, rfl, rfl, rfl⟩
noncomputable def f_X12_root (Fu : Nat) (I : mIT) (v1 : Int32) (v2 : Int32) : Option (Int32 × mIT) :=
  oB (f_X12_isRoot Fu (mU I 75 0 (0 : Int32)) v1) (fun r7 => if r7.1 = 0 then (some ((0 : Int32), r7.2)) else (oB (f_X12_isWhat Fu r7.2 v2 (7 : Int32)) (fun r17 => if r17.1 = 0 then (some ((0 : Int32), r17.2)) else (if v2 = (0 : Int32) then (oG (inB v1 10) (some ((r17.2 76 (v1).toNatClampNeg), r17.2))) else if v2 = (1 : Int32) then (oG (inB ((1 : Int32) + v1) 106) (some ((r17.2 89 (((1 : Int32) + v1)).toNatClampNeg), r17.2))) else if v2 = (2 : Int32) then (oG (inB ((11 : Int32) + v1) 106) (some ((r17.2 89 (((11 : Int32) + v1)).toNatClampNeg), r17.2))) else if v2 = (3 : Int32) then (oG (inB ((21 : Int32) + v1) 106) (some ((r17.2 89 (((21 : Int32) + v1)).toNatClampNeg), r17.2))) else if v2 = (4 : Int32) then (oB (f_X12_noteOf Fu r17.2 (0 : Int32) v1) (fun r107 => some (r107.1, r107.2))) else if v2 = (5 : Int32) then (oG (inB ((31 : Int32) + v1) 106) (some ((r17.2 89 (((31 : Int32) + v1)).toNatClampNeg), r17.2))) else if v2 = (6 : Int32) then (oB (f_X12_sounds Fu r17.2 (0 : Int32) v1) (fun r124 => if r124 = 0 then (some ((0 : Int32), r17.2)) else (some ((1 : Int32), r17.2)))) else (oB (f_X12_mayBe Fu r17.2 v1) (fun r138 => some (r138, r17.2)))))))
set_option maxRecDepth 20000 in
theorem ok_X12_root {l : Launch} {E : mEn} {Fu : Nat} {I : mIT} {R : mRT} {L : mLT} {v1 : Int32} {v2 : Int32} (hst : l.stackTraces = false) (hW : mWd R)  {out : Int32 × mIT} (h : f_X12_root Fu I v1 v2 = some out) : mOk l E mX12_root [.ref (mB E + 75), .int v1, .int v2] 106 1 I R L 0 0 (mSame (some (.int (out.1))) 106 1 (out.2) R L) := by
  refine mOk_of hst (by decide) (Nat.le_of_ble_eq_true rfl) (fun X hC hE _ => ?_)
  have hC : mC X E mX12_root RX12 cX12_root := hC
  show mG X E 0 [(0, .ref (mB E + 75)), (1, .int v1), (2, .int v2)] [] 106 1 I R L 0 0
  unfold f_X12_root at h
  refine g_aload_n hC dX12_root_0 rfl (q := 0) rfl ?_
  refine g_iconst hC dX12_root_1 (v := (0 : Int32)) (by decide) ?_
  refine g_puti hC fd_RX12_114 rfl (by decide) rfl dX12_root_2 (nm_e ?_)
  refine g_aload_n hC dX12_root_5 rfl (q := 0) rfl ?_
  refine g_iload_n hC dX12_root_6 rfl (q := 1) rfl ?_
  obtain ⟨r7, h7, h⟩ := oB_some h
  refine g_cV1 hC cv_X12_isRoot wd_2034 ⟨Nat.le_of_ble_eq_true rfl, Nat.le_of_ble_eq_true rfl⟩ rfl (by decide) dX12_root_7 (As := [.int v1]) (st := []) (ok_X12_isRoot hC.2.2.2.2.2.2.2.1 hW h7) rfl rfl (Nat.le_of_ble_eq_true rfl) ⟨Nat.zero_le _, Nat.zero_le _⟩ ?_
  refine g_if_eq hC dX12_root_10 (tgt := 23) (by decide) (fun c10 => ?_) (fun c10 => ?_)
  · replace h := (if_pos c10).symm.trans h
    refine g_iconst hC dX12_root_23 (v := (0 : Int32)) (by decide) ?_
    cases h
    exact g_iret hC hE rfl dX12_root_24 (Nat.zero_le _) (Nat.zero_le _) ⟨rfl, rfl, rfl, rfl, rfl, rfl⟩
  · replace h := (if_neg c10).symm.trans h
    refine g_aload_n hC dX12_root_13 rfl (q := 0) rfl ?_
    refine g_iload_n hC dX12_root_14 rfl (q := 2) rfl ?_
    refine g_bipush hC dX12_root_15 (v := (7 : Int32)) (by decide) ?_
    obtain ⟨r17, h17, h⟩ := oB_some h
    refine g_cV1 hC cv_X12_isWhat wd_2038 ⟨Nat.le_of_ble_eq_true rfl, Nat.le_of_ble_eq_true rfl⟩ rfl (by decide) dX12_root_17 (As := [.int v2, .int (7 : Int32)]) (st := []) (ok_X12_isWhat hC.2.2.2.2.2.2.2.1 hW h17) rfl rfl (Nat.le_of_ble_eq_true rfl) ⟨Nat.zero_le _, Nat.zero_le _⟩ ?_
    refine g_if_ne hC dX12_root_20 (tgt := 25) (by decide) (fun c20 => ?_) (fun c20 => ?_)
    · replace h := (if_neg c20).symm.trans h
      refine g_iload_n hC dX12_root_25 rfl (q := 2) rfl ?_
      by_cases c26_0 : v2 = (0 : Int32)
      · replace h := (if_pos c26_0).symm.trans h
        refine g_tabI hC dX12_root_26 (off := 42) (tgt := 68) (by rw [c26_0]; decide) (by rw [c26_0]; decide) (by rw [c26_0]; rfl) (by decide) ?_
        refine g_aload_n hC dX12_root_68 rfl (q := 0) rfl ?_
        refine g_getr hC fd_RX12_19 rfl (by decide) (C0 := "") (t0 := _) (Or.inr rfl) (rr_75_8 hW.1) dX12_root_69 ?_
        refine g_iload_n hC dX12_root_72 rfl (q := 1) rfl ?_
        obtain ⟨g73, h⟩ := oG_some h
        refine g_iald hC rfl (by decide) (inB_in g73) dX12_root_73 ?_
        cases h
        exact g_iret hC hE rfl dX12_root_74 (Nat.zero_le _) (Nat.zero_le _) ⟨rfl, rfl, rfl, rfl, rfl, rfl⟩
      replace h := (if_neg c26_0).symm.trans h
      by_cases c26_1 : v2 = (1 : Int32)
      · replace h := (if_pos c26_1).symm.trans h
        refine g_tabI hC dX12_root_26 (off := 49) (tgt := 75) (by rw [c26_1]; decide) (by rw [c26_1]; decide) (by rw [c26_1]; rfl) (by decide) ?_
        refine g_aload_n hC dX12_root_75 rfl (q := 0) rfl ?_
        refine g_getr hC fd_RX12_63 rfl (by decide) (C0 := "") (t0 := _) (Or.inr rfl) (rr_75_42 hW.1) dX12_root_76 ?_
        refine g_iconst hC dX12_root_79 (v := (1 : Int32)) (by decide) ?_
        refine g_iload_n hC dX12_root_80 rfl (q := 1) rfl ?_
        refine g_iadd hC dX12_root_81 ?_
        obtain ⟨g82, h⟩ := oG_some h
        refine g_iald hC rfl (by decide) (inB_in g82) dX12_root_82 ?_
        cases h
        exact g_iret hC hE rfl dX12_root_83 (Nat.zero_le _) (Nat.zero_le _) ⟨rfl, rfl, rfl, rfl, rfl, rfl⟩
      replace h := (if_neg c26_1).symm.trans h
      by_cases c26_2 : v2 = (2 : Int32)
      · replace h := (if_pos c26_2).symm.trans h
        refine g_tabI hC dX12_root_26 (off := 58) (tgt := 84) (by rw [c26_2]; decide) (by rw [c26_2]; decide) (by rw [c26_2]; rfl) (by decide) ?_
        refine g_aload_n hC dX12_root_84 rfl (q := 0) rfl ?_
        refine g_getr hC fd_RX12_63 rfl (by decide) (C0 := "") (t0 := _) (Or.inr rfl) (rr_75_42 hW.1) dX12_root_85 ?_
        refine g_bipush hC dX12_root_88 (v := (11 : Int32)) (by decide) ?_
        refine g_iload_n hC dX12_root_90 rfl (q := 1) rfl ?_
        refine g_iadd hC dX12_root_91 ?_
        obtain ⟨g92, h⟩ := oG_some h
        refine g_iald hC rfl (by decide) (inB_in g92) dX12_root_92 ?_
        cases h
        exact g_iret hC hE rfl dX12_root_93 (Nat.zero_le _) (Nat.zero_le _) ⟨rfl, rfl, rfl, rfl, rfl, rfl⟩
      replace h := (if_neg c26_2).symm.trans h
      by_cases c26_3 : v2 = (3 : Int32)
      · replace h := (if_pos c26_3).symm.trans h
        refine g_tabI hC dX12_root_26 (off := 68) (tgt := 94) (by rw [c26_3]; decide) (by rw [c26_3]; decide) (by rw [c26_3]; rfl) (by decide) ?_
        refine g_aload_n hC dX12_root_94 rfl (q := 0) rfl ?_
        refine g_getr hC fd_RX12_63 rfl (by decide) (C0 := "") (t0 := _) (Or.inr rfl) (rr_75_42 hW.1) dX12_root_95 ?_
        refine g_bipush hC dX12_root_98 (v := (21 : Int32)) (by decide) ?_
        refine g_iload_n hC dX12_root_100 rfl (q := 1) rfl ?_
        refine g_iadd hC dX12_root_101 ?_
        obtain ⟨g102, h⟩ := oG_some h
        refine g_iald hC rfl (by decide) (inB_in g102) dX12_root_102 ?_
        cases h
        exact g_iret hC hE rfl dX12_root_103 (Nat.zero_le _) (Nat.zero_le _) ⟨rfl, rfl, rfl, rfl, rfl, rfl⟩
      replace h := (if_neg c26_3).symm.trans h
      by_cases c26_4 : v2 = (4 : Int32)
      · replace h := (if_pos c26_4).symm.trans h
        refine g_tabI hC dX12_root_26 (off := 78) (tgt := 104) (by rw [c26_4]; decide) (by rw [c26_4]; decide) (by rw [c26_4]; rfl) (by decide) ?_
        refine g_aload_n hC dX12_root_104 rfl (q := 0) rfl ?_
        refine g_iconst hC dX12_root_105 (v := (0 : Int32)) (by decide) ?_
        refine g_iload_n hC dX12_root_106 rfl (q := 1) rfl ?_
        obtain ⟨r107, h107, h⟩ := oB_some h
        refine g_cV1 hC cv_X12_noteOf wd_2012 ⟨Nat.le_of_ble_eq_true rfl, Nat.le_of_ble_eq_true rfl⟩ rfl (by decide) dX12_root_107 (As := [.int (0 : Int32), .int v1]) (st := []) (ok_X12_noteOf hC.2.2.2.2.2.2.2.1 hW h107) rfl rfl (Nat.le_of_ble_eq_true rfl) ⟨Nat.zero_le _, Nat.zero_le _⟩ ?_
        cases h
        exact g_iret hC hE rfl dX12_root_110 (Nat.zero_le _) (Nat.zero_le _) ⟨rfl, rfl, rfl, rfl, rfl, rfl⟩
      replace h := (if_neg c26_4).symm.trans h
      by_cases c26_5 : v2 = (5 : Int32)
      · replace h := (if_pos c26_5).symm.trans h
        refine g_tabI hC dX12_root_26 (off := 85) (tgt := 111) (by rw [c26_5]; decide) (by rw [c26_5]; decide) (by rw [c26_5]; rfl) (by decide) ?_
        refine g_aload_n hC dX12_root_111 rfl (q := 0) rfl ?_
        refine g_getr hC fd_RX12_63 rfl (by decide) (C0 := "") (t0 := _) (Or.inr rfl) (rr_75_42 hW.1) dX12_root_112 ?_
        refine g_bipush hC dX12_root_115 (v := (31 : Int32)) (by decide) ?_
        refine g_iload_n hC dX12_root_117 rfl (q := 1) rfl ?_
        refine g_iadd hC dX12_root_118 ?_
        obtain ⟨g119, h⟩ := oG_some h
        refine g_iald hC rfl (by decide) (inB_in g119) dX12_root_119 ?_
        cases h
        exact g_iret hC hE rfl dX12_root_120 (Nat.zero_le _) (Nat.zero_le _) ⟨rfl, rfl, rfl, rfl, rfl, rfl⟩
      replace h := (if_neg c26_5).symm.trans h
      by_cases c26_6 : v2 = (6 : Int32)
      · replace h := (if_pos c26_6).symm.trans h
        refine g_tabI hC dX12_root_26 (off := 95) (tgt := 121) (by rw [c26_6]; decide) (by rw [c26_6]; decide) (by rw [c26_6]; rfl) (by decide) ?_
        refine g_aload_n hC dX12_root_121 rfl (q := 0) rfl ?_
        refine g_iconst hC dX12_root_122 (v := (0 : Int32)) (by decide) ?_
        refine g_iload_n hC dX12_root_123 rfl (q := 1) rfl ?_
        obtain ⟨r124, h124, h⟩ := oB_some h
        refine g_cV1 hC cv_X12_sounds wd_2000 ⟨Nat.le_of_ble_eq_true rfl, Nat.le_of_ble_eq_true rfl⟩ rfl (by decide) dX12_root_124 (As := [.int (0 : Int32), .int v1]) (st := []) (ok_X12_sounds hC.2.2.2.2.2.2.2.1 hW h124) rfl rfl (Nat.le_of_ble_eq_true rfl) ⟨Nat.zero_le _, Nat.zero_le _⟩ ?_
        refine g_if_eq hC dX12_root_127 (tgt := 134) (by decide) (fun c127 => ?_) (fun c127 => ?_)
        · replace h := (if_pos c127).symm.trans h
          refine g_iconst hC dX12_root_134 (v := (0 : Int32)) (by decide) ?_
          cases h
          exact g_iret hC hE rfl dX12_root_135 (Nat.zero_le _) (Nat.zero_le _) ⟨rfl, rfl, rfl, rfl, rfl, rfl⟩
        · replace h := (if_neg c127).symm.trans h
          refine g_iconst hC dX12_root_130 (v := (1 : Int32)) (by decide) ?_
          refine g_goto hC dX12_root_131 (tgt := 135) (by decide) ?_
          cases h
          exact g_iret hC hE rfl dX12_root_135 (Nat.zero_le _) (Nat.zero_le _) ⟨rfl, rfl, rfl, rfl, rfl, rfl⟩
      replace h := (if_neg c26_6).symm.trans h
      refine g_tabO hC dX12_root_26 (sw_out (fun j hj1 hj2 => ?_)) (tgt := 136) (by decide) ?_
      · rcases (show j = 0 ∨ j = 1 ∨ j = 2 ∨ j = 3 ∨ j = 4 ∨ j = 5 ∨ j = 6 by omega) with rfl | rfl | rfl | rfl | rfl | rfl | rfl <;> assumption
      refine g_aload_n hC dX12_root_136 rfl (q := 0) rfl ?_
      refine g_iload_n hC dX12_root_137 rfl (q := 1) rfl ?_
      obtain ⟨r138, h138, h⟩ := oB_some h
      refine g_cV1 hC cv_X12_mayBe wd_2042 ⟨Nat.le_of_ble_eq_true rfl, Nat.le_of_ble_eq_true rfl⟩ rfl (by decide) dX12_root_138 (As := [.int v1]) (st := []) (ok_X12_mayBe hC.2.2.2.2.2.2.2.1 hW h138) rfl rfl (Nat.le_of_ble_eq_true rfl) ⟨Nat.zero_le _, Nat.zero_le _⟩ ?_
      cases h
      exact g_iret hC hE rfl dX12_root_141 (Nat.zero_le _) (Nat.zero_le _) ⟨rfl, rfl, rfl, rfl, rfl, rfl⟩
    · replace h := (if_pos c20).symm.trans h
      refine g_iconst hC dX12_root_23 (v := (0 : Int32)) (by decide) ?_
      cases h
      exact g_iret hC hE rfl dX12_root_24 (Nat.zero_le _) (Nat.zero_le _) ⟨rfl, rfl, rfl, rfl, rfl, rfl⟩
noncomputable def f_X12_row (Fu : Nat) (I : mIT) (v1 : Int32) : Option (Int32 × mIT) :=
  oB (f_X12_isRow Fu (mU I 75 0 (0 : Int32)) v1 (1 : Int32)) (fun r8 => if r8.1 = 0 then (some ((0 : Int32), r8.2)) else (oB (f_X12_ringsMany Fu r8.2 v1) (fun r17 => oB (f_X12_rowNumber Fu r17.2 r17.1) (fun r20 => some (r20, r17.2)))))
set_option maxRecDepth 20000 in
theorem ok_X12_row {l : Launch} {E : mEn} {Fu : Nat} {I : mIT} {R : mRT} {L : mLT} {v1 : Int32} (hst : l.stackTraces = false) (hW : mWd R)  {out : Int32 × mIT} (h : f_X12_row Fu I v1 = some out) : mOk l E mX12_row [.ref (mB E + 75), .int v1] 106 1 I R L 0 0 (mSame (some (.int (out.1))) 106 1 (out.2) R L) := by
  refine mOk_of hst (by decide) (Nat.le_of_ble_eq_true rfl) (fun X hC hE _ => ?_)
  have hC : mC X E mX12_row RX12 cX12_row := hC
  show mG X E 0 [(0, .ref (mB E + 75)), (1, .int v1)] [] 106 1 I R L 0 0
  unfold f_X12_row at h
  refine g_aload_n hC dX12_row_0 rfl (q := 0) rfl ?_
  refine g_iconst hC dX12_row_1 (v := (0 : Int32)) (by decide) ?_
  refine g_puti hC fd_RX12_114 rfl (by decide) rfl dX12_row_2 (nm_e ?_)
  refine g_aload_n hC dX12_row_5 rfl (q := 0) rfl ?_
  refine g_iload_n hC dX12_row_6 rfl (q := 1) rfl ?_
  refine g_iconst hC dX12_row_7 (v := (1 : Int32)) (by decide) ?_
  obtain ⟨r8, h8, h⟩ := oB_some h
  refine g_cV1 hC cv_X12_isRow wd_2150 ⟨Nat.le_of_ble_eq_true rfl, Nat.le_of_ble_eq_true rfl⟩ rfl (by decide) dX12_row_8 (As := [.int v1, .int (1 : Int32)]) (st := []) (ok_X12_isRow hC.2.2.2.2.2.2.2.1 hW h8) rfl rfl (Nat.le_of_ble_eq_true rfl) ⟨Nat.zero_le _, Nat.zero_le _⟩ ?_
  refine g_if_eq hC dX12_row_11 (tgt := 26) (by decide) (fun c11 => ?_) (fun c11 => ?_)
  · replace h := (if_pos c11).symm.trans h
    refine g_iconst hC dX12_row_26 (v := (0 : Int32)) (by decide) ?_
    cases h
    exact g_iret hC hE rfl dX12_row_27 (Nat.zero_le _) (Nat.zero_le _) ⟨rfl, rfl, rfl, rfl, rfl, rfl⟩
  · replace h := (if_neg c11).symm.trans h
    refine g_aload_n hC dX12_row_14 rfl (q := 0) rfl ?_
    refine g_aload_n hC dX12_row_15 rfl (q := 0) rfl ?_
    refine g_iload_n hC dX12_row_16 rfl (q := 1) rfl ?_
    obtain ⟨r17, h17, h⟩ := oB_some h
    refine g_cV1 hC cv_X12_ringsMany wd_2154 ⟨Nat.le_of_ble_eq_true rfl, Nat.le_of_ble_eq_true rfl⟩ rfl (by decide) dX12_row_17 (As := [.int v1]) (st := [.ref (mB E + 75)]) (ok_X12_ringsMany hC.2.2.2.2.2.2.2.1 hW h17) rfl rfl (Nat.le_of_ble_eq_true rfl) ⟨Nat.zero_le _, Nat.zero_le _⟩ ?_
    obtain ⟨r20, h20, h⟩ := oB_some h
    refine g_cV1 hC cv_X12_rowNumber wd_2166 ⟨Nat.le_of_ble_eq_true rfl, Nat.le_of_ble_eq_true rfl⟩ rfl (by decide) dX12_row_20 (As := [.int r17.1]) (st := []) (ok_X12_rowNumber hC.2.2.2.2.2.2.2.1 hW h20) rfl rfl (Nat.le_of_ble_eq_true rfl) ⟨Nat.zero_le _, Nat.zero_le _⟩ ?_
    refine g_goto hC dX12_row_23 (tgt := 27) (by decide) ?_
    cases h
    exact g_iret hC hE rfl dX12_row_27 (Nat.zero_le _) (Nat.zero_le _) ⟨rfl, rfl, rfl, rfl, rfl, rfl⟩
noncomputable def b_X12_scale_58 (Fu : Nat) (k33_ : Int32 × Int32 × Int32 × Int32 × Int32 × Int32 × mIT → Option (Int32 × mIT)) (v1 : Int32) (v2 : Int32) (v3 : Int32) (v4 : Int32) (v6 : Int32) (s0 : Int32) (I : mIT) : Option (Int32 × mIT) :=
  if v4 < s0 then (k33_ (v1, v2, ((v6 - s0) + (1 : Int32)), s0, s0, (v6 + (1 : Int32)), I)) else (k33_ (v1, v2, v3, v4, s0, (v6 + (1 : Int32)), I))
set_option maxRecDepth 20000 in
theorem bo_X12_scale_58 {X : mXT} {E : mEn} {Fu : Nat} {R : mRT} {L : mLT}  (hC : mC X E mX12_scale RX12 cX12_scale) (hW : mWd R)   {out : Int32 × mIT} (hE : mEd X E 0 0 (mSame (some (.int (out.1))) 106 1 (out.2) R L)) (k33_ : Int32 × Int32 × Int32 × Int32 × Int32 × Int32 × mIT → Option (Int32 × mIT)) (hk33_ : ∀ (v1 : Int32) (v2 : Int32) (v3 : Int32) (v4 : Int32) (v5 : Int32) (v6 : Int32) (I : mIT),  k33_ (v1, v2, v3, v4, v5, v6, I) = some out → mG X E 33 [(1, .int v1), (2, .int v2), (3, .int v3), (4, .int v4), (5, .int v5), (6, .int v6)] [] 106 1 I R L 0 0) (v1 : Int32) (v2 : Int32) (v3 : Int32) (v4 : Int32) (v6 : Int32) (s0 : Int32) (I : mIT) (h : b_X12_scale_58 Fu k33_ v1 v2 v3 v4 v6 s0 I = some out) : mG X E 58 [(1, .int v1), (2, .int v2), (3, .int v3), (4, .int v4), (6, .int v6)] [.int s0] 106 1 I R L 0 0 := by
  unfold b_X12_scale_58 at h
  refine g_istore hC dX12_scale_58 rfl (by decide) (lv' := [(5, .int s0), (1, .int v1), (2, .int v2), (3, .int v3), (4, .int v4), (6, .int v6)]) rfl ?_
  refine g_iload hC dX12_scale_60 (q := 0) rfl ?_
  refine g_iload hC dX12_scale_62 (q := 4) rfl ?_
  refine g_ic_gt hC dX12_scale_64 (tgt := 70) (by decide) (fun c64 => ?_) (fun c64 => ?_)
  · replace h := (if_pos c64).symm.trans h
    refine g_iload hC dX12_scale_70 (q := 0) rfl ?_
    refine g_istore hC dX12_scale_72 rfl (by decide) (lv' := [(4, .int s0), (5, .int s0), (1, .int v1), (2, .int v2), (3, .int v3), (6, .int v6)]) rfl ?_
    refine g_iload hC dX12_scale_74 (q := 5) rfl ?_
    refine g_iload hC dX12_scale_76 (q := 1) rfl ?_
    refine g_isub hC dX12_scale_78 ?_
    refine g_iconst hC dX12_scale_79 (v := (1 : Int32)) (by decide) ?_
    refine g_iadd hC dX12_scale_80 ?_
    refine g_istore_n hC dX12_scale_81 rfl rfl (by decide) (lv' := [(3, .int ((v6 - s0) + (1 : Int32))), (4, .int s0), (5, .int s0), (1, .int v1), (2, .int v2), (6, .int v6)]) rfl ?_
    refine g_iinc hC dX12_scale_82 rfl (q := 5) rfl (w := (v6 + (1 : Int32))) rfl (by decide) (lv' := [(6, .int (v6 + (1 : Int32))), (3, .int ((v6 - s0) + (1 : Int32))), (4, .int s0), (5, .int s0), (1, .int v1), (2, .int v2)]) rfl ?_
    refine g_goto hC dX12_scale_85 (tgt := 33) (by decide) ?_
    refine g_lv [4, 5, 1, 2, 3, 0] rfl ?_
    exact hk33_ v1 v2 ((v6 - s0) + (1 : Int32)) s0 s0 (v6 + (1 : Int32)) I h
  · replace h := (if_neg c64).symm.trans h
    refine g_goto hC dX12_scale_67 (tgt := 82) (by decide) ?_
    refine g_iinc hC dX12_scale_82 rfl (q := 5) rfl (w := (v6 + (1 : Int32))) rfl (by decide) (lv' := [(6, .int (v6 + (1 : Int32))), (5, .int s0), (1, .int v1), (2, .int v2), (3, .int v3), (4, .int v4)]) rfl ?_
    refine g_goto hC dX12_scale_85 (tgt := 33) (by decide) ?_
    refine g_lv [2, 3, 4, 5, 1, 0] rfl ?_
    exact hk33_ v1 v2 v3 v4 s0 (v6 + (1 : Int32)) I h
noncomputable def b_X12_scale_33 (Fu : Nat) (k33_ : Int32 × Int32 × Int32 × Int32 × Int32 × Int32 × mIT → Option (Int32 × mIT)) (v1 : Int32) (v2 : Int32) (v3 : Int32) (v4 : Int32) (v5 : Int32) (v6 : Int32) (I : mIT) : Option (Int32 × mIT) :=
  if (16 : Int32) ≤ v6 then (if v1 = 0 then (some (v4, I)) else (some (v3, I))) else (if ((v2 >>> (v6 &&& 31)) &&& (1 : Int32)) = (1 : Int32) then (b_X12_scale_58 Fu k33_ v1 v2 v3 v4 v6 (v5 + (1 : Int32)) I) else (b_X12_scale_58 Fu k33_ v1 v2 v3 v4 v6 (0 : Int32) I))
set_option maxRecDepth 20000 in
theorem bo_X12_scale_33 {X : mXT} {E : mEn} {Fu : Nat} {R : mRT} {L : mLT}  (hC : mC X E mX12_scale RX12 cX12_scale) (hW : mWd R)   {out : Int32 × mIT} (hE : mEd X E 0 0 (mSame (some (.int (out.1))) 106 1 (out.2) R L)) (k33_ : Int32 × Int32 × Int32 × Int32 × Int32 × Int32 × mIT → Option (Int32 × mIT)) (hk33_ : ∀ (v1 : Int32) (v2 : Int32) (v3 : Int32) (v4 : Int32) (v5 : Int32) (v6 : Int32) (I : mIT),  k33_ (v1, v2, v3, v4, v5, v6, I) = some out → mG X E 33 [(1, .int v1), (2, .int v2), (3, .int v3), (4, .int v4), (5, .int v5), (6, .int v6)] [] 106 1 I R L 0 0) (v1 : Int32) (v2 : Int32) (v3 : Int32) (v4 : Int32) (v5 : Int32) (v6 : Int32) (I : mIT) (h : b_X12_scale_33 Fu k33_ v1 v2 v3 v4 v5 v6 I = some out) : mG X E 33 [(1, .int v1), (2, .int v2), (3, .int v3), (4, .int v4), (5, .int v5), (6, .int v6)] [] 106 1 I R L 0 0 := by
  unfold b_X12_scale_33 at h
  refine g_iload hC dX12_scale_33 (q := 5) rfl ?_
  refine g_bipush hC dX12_scale_35 (v := (16 : Int32)) (by decide) ?_
  refine g_ic_ge hC dX12_scale_37 (tgt := 88) (by decide) (fun c37 => ?_) (fun c37 => ?_)
  · replace h := (if_pos c37).symm.trans h
    refine g_iload_n hC dX12_scale_88 rfl (q := 0) rfl ?_
    refine g_if_ne hC dX12_scale_89 (tgt := 97) (by decide) (fun c89 => ?_) (fun c89 => ?_)
    · replace h := (if_neg c89).symm.trans h
      refine g_iload_n hC dX12_scale_97 rfl (q := 2) rfl ?_
      cases h
      exact g_iret hC hE rfl dX12_scale_98 (Nat.zero_le _) (Nat.zero_le _) ⟨rfl, rfl, rfl, rfl, rfl, rfl⟩
    · replace h := (if_pos c89).symm.trans h
      refine g_iload hC dX12_scale_92 (q := 3) rfl ?_
      refine g_goto hC dX12_scale_94 (tgt := 98) (by decide) ?_
      cases h
      exact g_iret hC hE rfl dX12_scale_98 (Nat.zero_le _) (Nat.zero_le _) ⟨rfl, rfl, rfl, rfl, rfl, rfl⟩
  · replace h := (if_neg c37).symm.trans h
    refine g_iload_n hC dX12_scale_40 rfl (q := 1) rfl ?_
    refine g_iload hC dX12_scale_41 (q := 5) rfl ?_
    refine g_ishr hC dX12_scale_43 ?_
    refine g_iconst hC dX12_scale_44 (v := (1 : Int32)) (by decide) ?_
    refine g_iand hC dX12_scale_45 ?_
    refine g_iconst hC dX12_scale_46 (v := (1 : Int32)) (by decide) ?_
    refine g_ic_ne hC dX12_scale_47 (tgt := 57) (by decide) (fun c47 => ?_) (fun c47 => ?_)
    · replace h := (if_neg c47).symm.trans h
      refine g_iconst hC dX12_scale_57 (v := (0 : Int32)) (by decide) ?_
      refine g_lv [0, 1, 2, 3, 5] rfl ?_
      exact bo_X12_scale_58 hC hW hE k33_ hk33_ (v1) (v2) (v3) (v4) (v6) ((0 : Int32)) (I) h
    · replace h := (if_pos c47).symm.trans h
      refine g_iload hC dX12_scale_50 (q := 4) rfl ?_
      refine g_iconst hC dX12_scale_52 (v := (1 : Int32)) (by decide) ?_
      refine g_iadd hC dX12_scale_53 ?_
      refine g_goto hC dX12_scale_54 (tgt := 58) (by decide) ?_
      refine g_lv [0, 1, 2, 3, 5] rfl ?_
      exact bo_X12_scale_58 hC hW hE k33_ hk33_ (v1) (v2) (v3) (v4) (v6) ((v5 + (1 : Int32))) (I) h
noncomputable def w_X12_scale_33 (Fu : Nat)  (N : Nat) (v1 : Int32) (v2 : Int32) (v3 : Int32) (v4 : Int32) (v5 : Int32) (v6 : Int32) (I : mIT) : Option (Int32 × mIT) :=
  loopF (fun self (s : Int32 × Int32 × Int32 × Int32 × Int32 × Int32 × mIT) => b_X12_scale_33 Fu self s.1 s.2.1 s.2.2.1 s.2.2.2.1 s.2.2.2.2.1 s.2.2.2.2.2.1 s.2.2.2.2.2.2) N (v1, v2, v3, v4, v5, v6, I)
theorem wo_X12_scale_33 {X : mXT} {E : mEn} {Fu : Nat} {R : mRT} {L : mLT}  (hC : mC X E mX12_scale RX12 cX12_scale) (hW : mWd R)   {out : Int32 × mIT} (hE : mEd X E 0 0 (mSame (some (.int (out.1))) 106 1 (out.2) R L))  (N : Nat) (v1 : Int32) (v2 : Int32) (v3 : Int32) (v4 : Int32) (v5 : Int32) (v6 : Int32) (I : mIT) (h : w_X12_scale_33 Fu  N v1 v2 v3 v4 v5 v6 I = some out) : mG X E 33 [(1, .int v1), (2, .int v2), (3, .int v3), (4, .int v4), (5, .int v5), (6, .int v6)] [] 106 1 I R L 0 0 :=
  loopF_ok (Gd := fun s : Int32 × Int32 × Int32 × Int32 × Int32 × Int32 × mIT => mG X E 33 [(1, .int s.1), (2, .int s.2.1), (3, .int s.2.2.1), (4, .int s.2.2.2.1), (5, .int s.2.2.2.2.1), (6, .int s.2.2.2.2.2.1)] [] 106 1 s.2.2.2.2.2.2 R L 0 0) (fun self hs s h => bo_X12_scale_33 hC hW hE self (fun v1 v2 v3 v4 v5 v6 I h => hs (v1, v2, v3, v4, v5, v6, I) h) s.1 s.2.1 s.2.2.1 s.2.2.2.1 s.2.2.2.2.1 s.2.2.2.2.2.1 s.2.2.2.2.2.2 h) N (v1, v2, v3, v4, v5, v6, I) h
noncomputable def f_X12_scale (Fu : Nat) (I : mIT) (v1 : Int32) : Option (Int32 × mIT) :=
  oB (f_X12_isWhat Fu (mU I 75 0 (0 : Int32)) v1 (1 : Int32)) (fun r8 => if r8.1 = 0 then (some ((0 : Int32), r8.2)) else (oB (f_X12_notesIn Fu r8.2 (0 : Int32)) (fun r18 => w_X12_scale_33 Fu Fu v1 r18.1 (-1 : Int32) (0 : Int32) (0 : Int32) (0 : Int32) r18.2)))
set_option maxRecDepth 20000 in
theorem ok_X12_scale {l : Launch} {E : mEn} {Fu : Nat} {I : mIT} {R : mRT} {L : mLT} {v1 : Int32} (hst : l.stackTraces = false) (hW : mWd R)  {out : Int32 × mIT} (h : f_X12_scale Fu I v1 = some out) : mOk l E mX12_scale [.ref (mB E + 75), .int v1] 106 1 I R L 0 0 (mSame (some (.int (out.1))) 106 1 (out.2) R L) := by
  refine mOk_of hst (by decide) (Nat.le_of_ble_eq_true rfl) (fun X hC hE _ => ?_)
  have hC : mC X E mX12_scale RX12 cX12_scale := hC
  show mG X E 0 [(0, .ref (mB E + 75)), (1, .int v1)] [] 106 1 I R L 0 0
  unfold f_X12_scale at h
  refine g_aload_n hC dX12_scale_0 rfl (q := 0) rfl ?_
  refine g_iconst hC dX12_scale_1 (v := (0 : Int32)) (by decide) ?_
  refine g_puti hC fd_RX12_114 rfl (by decide) rfl dX12_scale_2 (nm_e ?_)
  refine g_aload_n hC dX12_scale_5 rfl (q := 0) rfl ?_
  refine g_iload_n hC dX12_scale_6 rfl (q := 1) rfl ?_
  refine g_iconst hC dX12_scale_7 (v := (1 : Int32)) (by decide) ?_
  obtain ⟨r8, h8, h⟩ := oB_some h
  refine g_cV1 hC cv_X12_isWhat wd_2038 ⟨Nat.le_of_ble_eq_true rfl, Nat.le_of_ble_eq_true rfl⟩ rfl (by decide) dX12_scale_8 (As := [.int v1, .int (1 : Int32)]) (st := []) (ok_X12_isWhat hC.2.2.2.2.2.2.2.1 hW h8) rfl rfl (Nat.le_of_ble_eq_true rfl) ⟨Nat.zero_le _, Nat.zero_le _⟩ ?_
  refine g_if_ne hC dX12_scale_11 (tgt := 16) (by decide) (fun c11 => ?_) (fun c11 => ?_)
  · replace h := (if_neg c11).symm.trans h
    refine g_aload_n hC dX12_scale_16 rfl (q := 0) rfl ?_
    refine g_iconst hC dX12_scale_17 (v := (0 : Int32)) (by decide) ?_
    obtain ⟨r18, h18, h⟩ := oB_some h
    refine g_cV1 hC cv_X12_notesIn wd_2008 ⟨Nat.le_of_ble_eq_true rfl, Nat.le_of_ble_eq_true rfl⟩ rfl (by decide) dX12_scale_18 (As := [.int (0 : Int32)]) (st := []) (ok_X12_notesIn hC.2.2.2.2.2.2.2.1 hW h18) rfl rfl (Nat.le_of_ble_eq_true rfl) ⟨Nat.zero_le _, Nat.zero_le _⟩ ?_
    refine g_istore_n hC dX12_scale_21 rfl rfl (by decide) (lv' := [(2, .int r18.1), (0, .ref (mB E + 75)), (1, .int v1)]) rfl ?_
    refine g_iconst hC dX12_scale_22 (v := (-1 : Int32)) (by decide) ?_
    refine g_istore_n hC dX12_scale_23 rfl rfl (by decide) (lv' := [(3, .int (-1 : Int32)), (2, .int r18.1), (0, .ref (mB E + 75)), (1, .int v1)]) rfl ?_
    refine g_iconst hC dX12_scale_24 (v := (0 : Int32)) (by decide) ?_
    refine g_istore hC dX12_scale_25 rfl (by decide) (lv' := [(4, .int (0 : Int32)), (3, .int (-1 : Int32)), (2, .int r18.1), (0, .ref (mB E + 75)), (1, .int v1)]) rfl ?_
    refine g_iconst hC dX12_scale_27 (v := (0 : Int32)) (by decide) ?_
    refine g_istore hC dX12_scale_28 rfl (by decide) (lv' := [(5, .int (0 : Int32)), (4, .int (0 : Int32)), (3, .int (-1 : Int32)), (2, .int r18.1), (0, .ref (mB E + 75)), (1, .int v1)]) rfl ?_
    refine g_iconst hC dX12_scale_30 (v := (0 : Int32)) (by decide) ?_
    refine g_istore hC dX12_scale_31 rfl (by decide) (lv' := [(6, .int (0 : Int32)), (5, .int (0 : Int32)), (4, .int (0 : Int32)), (3, .int (-1 : Int32)), (2, .int r18.1), (0, .ref (mB E + 75)), (1, .int v1)]) rfl ?_
    refine g_lv [6, 4, 3, 2, 1, 0] rfl ?_
    exact wo_X12_scale_33 hC hW hE Fu (v1) (r18.1) ((-1 : Int32)) ((0 : Int32)) ((0 : Int32)) ((0 : Int32)) (r18.2) h
  · replace h := (if_pos c11).symm.trans h
    refine g_iconst hC dX12_scale_14 (v := (0 : Int32)) (by decide) ?_
    cases h
    exact g_iret hC hE rfl dX12_scale_15 (Nat.zero_le _) (Nat.zero_le _) ⟨rfl, rfl, rfl, rfl, rfl, rfl⟩
noncomputable def b_X12_soft_13 (Fu : Nat) (k13_ : Int32 × Int32 × mIT → Option (Int32 × mIT)) (v1 : Int32) (v2 : Int32) (I : mIT) : Option (Int32 × mIT) :=
  if (I 75 1) ≤ v2 then (some (v1, I)) else (oG (inB v2 10) (if (I 94 (v2).toNatClampNeg) = (-1 : Int32) then (k13_ (v1, (v2 + (1 : Int32)), I)) else (oG (inB v2 10) (if (I 94 (v2).toNatClampNeg) = (9999 : Int32) then (k13_ (v1, (v2 + (1 : Int32)), I)) else (if v1 = (-1 : Int32) then (k13_ (v2, (v2 + (1 : Int32)), I)) else (oG (inB v2 10) (oG (inB v1 10) (if (I 94 (v1).toNatClampNeg) ≤ (I 94 (v2).toNatClampNeg) then (k13_ (v1, (v2 + (1 : Int32)), I)) else (k13_ (v2, (v2 + (1 : Int32)), I))))))))))
set_option maxRecDepth 20000 in
theorem bo_X12_soft_13 {X : mXT} {E : mEn} {Fu : Nat} {R : mRT} {L : mLT}  (hC : mC X E mX12_soft RX12 cX12_soft) (hW : mWd R)   {out : Int32 × mIT} (hE : mEd X E 0 0 (mSame (some (.int (out.1))) 106 1 (out.2) R L)) (k13_ : Int32 × Int32 × mIT → Option (Int32 × mIT)) (hk13_ : ∀ (v1 : Int32) (v2 : Int32) (I : mIT),  k13_ (v1, v2, I) = some out → mG X E 13 [(0, .ref (mB E + 75)), (1, .int v1), (2, .int v2)] [] 106 1 I R L 0 0) (v1 : Int32) (v2 : Int32) (I : mIT) (h : b_X12_soft_13 Fu k13_ v1 v2 I = some out) : mG X E 13 [(0, .ref (mB E + 75)), (1, .int v1), (2, .int v2)] [] 106 1 I R L 0 0 := by
  unfold b_X12_soft_13 at h
  refine g_iload_n hC dX12_soft_13 rfl (q := 2) rfl ?_
  refine g_aload_n hC dX12_soft_14 rfl (q := 0) rfl ?_
  refine g_geti hC fd_RX12_289 rfl (by decide) (Or.inl rfl) dX12_soft_15 ?_
  refine g_ic_ge hC dX12_soft_18 (tgt := 71) (by decide) (fun c18 => ?_) (fun c18 => ?_)
  · replace h := (if_pos c18).symm.trans h
    refine g_iload_n hC dX12_soft_71 rfl (q := 1) rfl ?_
    cases h
    exact g_iret hC hE rfl dX12_soft_72 (Nat.zero_le _) (Nat.zero_le _) ⟨rfl, rfl, rfl, rfl, rfl, rfl⟩
  · replace h := (if_neg c18).symm.trans h
    refine g_aload_n hC dX12_soft_21 rfl (q := 0) rfl ?_
    refine g_getr hC fd_RX12_81 rfl (by decide) (C0 := "") (t0 := _) (Or.inr rfl) (rr_75_49 hW.1) dX12_soft_22 ?_
    refine g_iload_n hC dX12_soft_25 rfl (q := 2) rfl ?_
    obtain ⟨g26, h⟩ := oG_some h
    refine g_iald hC rfl (by decide) (inB_in g26) dX12_soft_26 ?_
    refine g_iconst hC dX12_soft_27 (v := (-1 : Int32)) (by decide) ?_
    refine g_ic_eq hC dX12_soft_28 (tgt := 65) (by decide) (fun c28 => ?_) (fun c28 => ?_)
    · replace h := (if_pos c28).symm.trans h
      refine g_iinc hC dX12_soft_65 rfl (q := 2) rfl (w := (v2 + (1 : Int32))) rfl (by decide) (lv' := [(2, .int (v2 + (1 : Int32))), (0, .ref (mB E + 75)), (1, .int v1)]) rfl ?_
      refine g_goto hC dX12_soft_68 (tgt := 13) (by decide) ?_
      refine g_lv [1, 2, 0] rfl ?_
      exact hk13_ v1 (v2 + (1 : Int32)) I h
    · replace h := (if_neg c28).symm.trans h
      refine g_aload_n hC dX12_soft_31 rfl (q := 0) rfl ?_
      refine g_getr hC fd_RX12_81 rfl (by decide) (C0 := "") (t0 := _) (Or.inr rfl) (rr_75_49 hW.1) dX12_soft_32 ?_
      refine g_iload_n hC dX12_soft_35 rfl (q := 2) rfl ?_
      obtain ⟨g36, h⟩ := oG_some h
      refine g_iald hC rfl (by decide) (inB_in g36) dX12_soft_36 ?_
      refine g_sipush hC dX12_soft_37 (v := (9999 : Int32)) (by decide) ?_
      refine g_ic_eq hC dX12_soft_40 (tgt := 65) (by decide) (fun c40 => ?_) (fun c40 => ?_)
      · replace h := (if_pos c40).symm.trans h
        refine g_iinc hC dX12_soft_65 rfl (q := 2) rfl (w := (v2 + (1 : Int32))) rfl (by decide) (lv' := [(2, .int (v2 + (1 : Int32))), (0, .ref (mB E + 75)), (1, .int v1)]) rfl ?_
        refine g_goto hC dX12_soft_68 (tgt := 13) (by decide) ?_
        refine g_lv [1, 2, 0] rfl ?_
        exact hk13_ v1 (v2 + (1 : Int32)) I h
      · replace h := (if_neg c40).symm.trans h
        refine g_iload_n hC dX12_soft_43 rfl (q := 1) rfl ?_
        refine g_iconst hC dX12_soft_44 (v := (-1 : Int32)) (by decide) ?_
        refine g_ic_eq hC dX12_soft_45 (tgt := 63) (by decide) (fun c45 => ?_) (fun c45 => ?_)
        · replace h := (if_pos c45).symm.trans h
          refine g_iload_n hC dX12_soft_63 rfl (q := 2) rfl ?_
          refine g_istore_n hC dX12_soft_64 rfl rfl (by decide) (lv' := [(1, .int v2), (0, .ref (mB E + 75)), (2, .int v2)]) rfl ?_
          refine g_iinc hC dX12_soft_65 rfl (q := 2) rfl (w := (v2 + (1 : Int32))) rfl (by decide) (lv' := [(2, .int (v2 + (1 : Int32))), (1, .int v2), (0, .ref (mB E + 75))]) rfl ?_
          refine g_goto hC dX12_soft_68 (tgt := 13) (by decide) ?_
          refine g_lv [2, 1, 0] rfl ?_
          exact hk13_ v2 (v2 + (1 : Int32)) I h
        · replace h := (if_neg c45).symm.trans h
          refine g_aload_n hC dX12_soft_48 rfl (q := 0) rfl ?_
          refine g_getr hC fd_RX12_81 rfl (by decide) (C0 := "") (t0 := _) (Or.inr rfl) (rr_75_49 hW.1) dX12_soft_49 ?_
          refine g_iload_n hC dX12_soft_52 rfl (q := 2) rfl ?_
          obtain ⟨g53, h⟩ := oG_some h
          refine g_iald hC rfl (by decide) (inB_in g53) dX12_soft_53 ?_
          refine g_aload_n hC dX12_soft_54 rfl (q := 0) rfl ?_
          refine g_getr hC fd_RX12_81 rfl (by decide) (C0 := "") (t0 := _) (Or.inr rfl) (rr_75_49 hW.1) dX12_soft_55 ?_
          refine g_iload_n hC dX12_soft_58 rfl (q := 1) rfl ?_
          obtain ⟨g59, h⟩ := oG_some h
          refine g_iald hC rfl (by decide) (inB_in g59) dX12_soft_59 ?_
          refine g_ic_ge hC dX12_soft_60 (tgt := 65) (by decide) (fun c60 => ?_) (fun c60 => ?_)
          · replace h := (if_pos c60).symm.trans h
            refine g_iinc hC dX12_soft_65 rfl (q := 2) rfl (w := (v2 + (1 : Int32))) rfl (by decide) (lv' := [(2, .int (v2 + (1 : Int32))), (0, .ref (mB E + 75)), (1, .int v1)]) rfl ?_
            refine g_goto hC dX12_soft_68 (tgt := 13) (by decide) ?_
            refine g_lv [1, 2, 0] rfl ?_
            exact hk13_ v1 (v2 + (1 : Int32)) I h
          · replace h := (if_neg c60).symm.trans h
            refine g_iload_n hC dX12_soft_63 rfl (q := 2) rfl ?_
            refine g_istore_n hC dX12_soft_64 rfl rfl (by decide) (lv' := [(1, .int v2), (0, .ref (mB E + 75)), (2, .int v2)]) rfl ?_
            refine g_iinc hC dX12_soft_65 rfl (q := 2) rfl (w := (v2 + (1 : Int32))) rfl (by decide) (lv' := [(2, .int (v2 + (1 : Int32))), (1, .int v2), (0, .ref (mB E + 75))]) rfl ?_
            refine g_goto hC dX12_soft_68 (tgt := 13) (by decide) ?_
            refine g_lv [2, 1, 0] rfl ?_
            exact hk13_ v2 (v2 + (1 : Int32)) I h
noncomputable def w_X12_soft_13 (Fu : Nat)  (N : Nat) (v1 : Int32) (v2 : Int32) (I : mIT) : Option (Int32 × mIT) :=
  loopF (fun self (s : Int32 × Int32 × mIT) => b_X12_soft_13 Fu self s.1 s.2.1 s.2.2) N (v1, v2, I)
theorem wo_X12_soft_13 {X : mXT} {E : mEn} {Fu : Nat} {R : mRT} {L : mLT}  (hC : mC X E mX12_soft RX12 cX12_soft) (hW : mWd R)   {out : Int32 × mIT} (hE : mEd X E 0 0 (mSame (some (.int (out.1))) 106 1 (out.2) R L))  (N : Nat) (v1 : Int32) (v2 : Int32) (I : mIT) (h : w_X12_soft_13 Fu  N v1 v2 I = some out) : mG X E 13 [(0, .ref (mB E + 75)), (1, .int v1), (2, .int v2)] [] 106 1 I R L 0 0 :=
  loopF_ok (Gd := fun s : Int32 × Int32 × mIT => mG X E 13 [(0, .ref (mB E + 75)), (1, .int s.1), (2, .int s.2.1)] [] 106 1 s.2.2 R L 0 0) (fun self hs s h => bo_X12_soft_13 hC hW hE self (fun v1 v2 I h => hs (v1, v2, I) h) s.1 s.2.1 s.2.2 h) N (v1, v2, I) h
noncomputable def f_X12_soft (Fu : Nat) (I : mIT)  : Option (Int32 × mIT) :=
  oB (f_X12_laysSoft Fu (mU I 75 0 (0 : Int32))) (fun r6 => w_X12_soft_13 Fu Fu (-1 : Int32) (0 : Int32) r6)
set_option maxRecDepth 20000 in
theorem ok_X12_soft {l : Launch} {E : mEn} {Fu : Nat} {I : mIT} {R : mRT} {L : mLT}  (hst : l.stackTraces = false) (hW : mWd R)  {out : Int32 × mIT} (h : f_X12_soft Fu I  = some out) : mOk l E mX12_soft [.ref (mB E + 75)] 106 1 I R L 0 0 (mSame (some (.int (out.1))) 106 1 (out.2) R L) := by
  refine mOk_of hst (by decide) (Nat.le_of_ble_eq_true rfl) (fun X hC hE _ => ?_)
  have hC : mC X E mX12_soft RX12 cX12_soft := hC
  show mG X E 0 [(0, .ref (mB E + 75))] [] 106 1 I R L 0 0
  unfold f_X12_soft at h
  refine g_aload_n hC dX12_soft_0 rfl (q := 0) rfl ?_
  refine g_iconst hC dX12_soft_1 (v := (0 : Int32)) (by decide) ?_
  refine g_puti hC fd_RX12_114 rfl (by decide) rfl dX12_soft_2 (nm_e ?_)
  refine g_aload_n hC dX12_soft_5 rfl (q := 0) rfl ?_
  obtain ⟨r6, h6, h⟩ := oB_some h
  refine g_cV0 hC cv_X12_laysSoft wd_2138 ⟨Nat.le_of_ble_eq_true rfl, Nat.le_of_ble_eq_true rfl⟩ rfl (by decide) dX12_soft_6 (As := []) (st := []) (ok_X12_laysSoft hC.2.2.2.2.2.2.2.1 hW h6) rfl rfl (Nat.le_of_ble_eq_true rfl) ⟨Nat.zero_le _, Nat.zero_le _⟩ ?_
  refine g_iconst hC dX12_soft_9 (v := (-1 : Int32)) (by decide) ?_
  refine g_istore_n hC dX12_soft_10 rfl rfl (by decide) (lv' := [(1, .int (-1 : Int32)), (0, .ref (mB E + 75))]) rfl ?_
  refine g_iconst hC dX12_soft_11 (v := (0 : Int32)) (by decide) ?_
  refine g_istore_n hC dX12_soft_12 rfl rfl (by decide) (lv' := [(2, .int (0 : Int32)), (1, .int (-1 : Int32)), (0, .ref (mB E + 75))]) rfl ?_
  refine g_lv [2, 1, 0] rfl ?_
  exact wo_X12_soft_13 hC hW hE Fu ((-1 : Int32)) ((0 : Int32)) (r6) h
noncomputable def b_X12_spare_15 (Fu : Nat) (k15_ : Int32 × Int32 × Int32 × mIT → Option (Int32 × mIT)) (v1 : Int32) (v2 : Int32) (v3 : Int32) (I : mIT) : Option (Int32 × mIT) :=
  if (I 75 1) ≤ v3 then (some (v2, I)) else (if ((v1 >>> (v3 &&& 31)) &&& (1 : Int32)) = (1 : Int32) then (oB (f_X12_notesOf Fu I (v1 &&& (((1 : Int32) <<< (v3 &&& 31)) ^^^ (-1 : Int32)))) (fun r42 => oB (f_X12_hasTune Fu r42.2 r42.1) (fun r45 => if r45 = 0 then (k15_ (v1, (v2 ||| (0 : Int32)), (v3 + (1 : Int32)), r42.2)) else (k15_ (v1, (v2 ||| ((1 : Int32) <<< (v3 &&& 31))), (v3 + (1 : Int32)), r42.2))))) else (k15_ (v1, (v2 ||| (0 : Int32)), (v3 + (1 : Int32)), I)))
set_option maxRecDepth 20000 in
theorem bo_X12_spare_15 {X : mXT} {E : mEn} {Fu : Nat} {R : mRT} {L : mLT}  (hC : mC X E mX12_spare RX12 cX12_spare) (hW : mWd R)   {out : Int32 × mIT} (hE : mEd X E 0 0 (mSame (some (.int (out.1))) 106 1 (out.2) R L)) (k15_ : Int32 × Int32 × Int32 × mIT → Option (Int32 × mIT)) (hk15_ : ∀ (v1 : Int32) (v2 : Int32) (v3 : Int32) (I : mIT),  k15_ (v1, v2, v3, I) = some out → mG X E 15 [(0, .ref (mB E + 75)), (1, .int v1), (2, .int v2), (3, .int v3)] [] 106 1 I R L 0 0) (v1 : Int32) (v2 : Int32) (v3 : Int32) (I : mIT) (h : b_X12_spare_15 Fu k15_ v1 v2 v3 I = some out) : mG X E 15 [(0, .ref (mB E + 75)), (1, .int v1), (2, .int v2), (3, .int v3)] [] 106 1 I R L 0 0 := by
  unfold b_X12_spare_15 at h
  refine g_iload_n hC dX12_spare_15 rfl (q := 3) rfl ?_
  refine g_aload_n hC dX12_spare_16 rfl (q := 0) rfl ?_
  refine g_geti hC fd_RX12_289 rfl (by decide) (Or.inl rfl) dX12_spare_17 ?_
  refine g_ic_ge hC dX12_spare_20 (tgt := 66) (by decide) (fun c20 => ?_) (fun c20 => ?_)
  · replace h := (if_pos c20).symm.trans h
    refine g_iload_n hC dX12_spare_66 rfl (q := 2) rfl ?_
    cases h
    exact g_iret hC hE rfl dX12_spare_67 (Nat.zero_le _) (Nat.zero_le _) ⟨rfl, rfl, rfl, rfl, rfl, rfl⟩
  · replace h := (if_neg c20).symm.trans h
    refine g_iload_n hC dX12_spare_23 rfl (q := 2) rfl ?_
    refine g_iload_n hC dX12_spare_24 rfl (q := 1) rfl ?_
    refine g_iload_n hC dX12_spare_25 rfl (q := 3) rfl ?_
    refine g_ishr hC dX12_spare_26 ?_
    refine g_iconst hC dX12_spare_27 (v := (1 : Int32)) (by decide) ?_
    refine g_iand hC dX12_spare_28 ?_
    refine g_iconst hC dX12_spare_29 (v := (1 : Int32)) (by decide) ?_
    refine g_ic_ne hC dX12_spare_30 (tgt := 57) (by decide) (fun c30 => ?_) (fun c30 => ?_)
    · replace h := (if_neg c30).symm.trans h
      refine g_iconst hC dX12_spare_57 (v := (0 : Int32)) (by decide) ?_
      refine g_ior hC dX12_spare_58 ?_
      refine g_istore_n hC dX12_spare_59 rfl rfl (by decide) (lv' := [(2, .int (v2 ||| (0 : Int32))), (0, .ref (mB E + 75)), (1, .int v1), (3, .int v3)]) rfl ?_
      refine g_iinc hC dX12_spare_60 rfl (q := 3) rfl (w := (v3 + (1 : Int32))) rfl (by decide) (lv' := [(3, .int (v3 + (1 : Int32))), (2, .int (v2 ||| (0 : Int32))), (0, .ref (mB E + 75)), (1, .int v1)]) rfl ?_
      refine g_goto hC dX12_spare_63 (tgt := 15) (by decide) ?_
      refine g_lv [2, 3, 1, 0] rfl ?_
      exact hk15_ v1 (v2 ||| (0 : Int32)) (v3 + (1 : Int32)) I h
    · replace h := (if_pos c30).symm.trans h
      refine g_aload_n hC dX12_spare_33 rfl (q := 0) rfl ?_
      refine g_aload_n hC dX12_spare_34 rfl (q := 0) rfl ?_
      refine g_iload_n hC dX12_spare_35 rfl (q := 1) rfl ?_
      refine g_iconst hC dX12_spare_36 (v := (1 : Int32)) (by decide) ?_
      refine g_iload_n hC dX12_spare_37 rfl (q := 3) rfl ?_
      refine g_ishl hC dX12_spare_38 ?_
      refine g_iconst hC dX12_spare_39 (v := (-1 : Int32)) (by decide) ?_
      refine g_ixor hC dX12_spare_40 ?_
      refine g_iand hC dX12_spare_41 ?_
      obtain ⟨r42, h42, h⟩ := oB_some h
      refine g_cV1 hC cv_X12_notesOf wd_2213 ⟨Nat.le_of_ble_eq_true rfl, Nat.le_of_ble_eq_true rfl⟩ rfl (by decide) dX12_spare_42 (As := [.int (v1 &&& (((1 : Int32) <<< (v3 &&& 31)) ^^^ (-1 : Int32)))]) (st := [.ref (mB E + 75), .int v2]) (ok_X12_notesOf hC.2.2.2.2.2.2.2.1 hW h42) rfl rfl (Nat.le_of_ble_eq_true rfl) ⟨Nat.zero_le _, Nat.zero_le _⟩ ?_
      obtain ⟨r45, h45, h⟩ := oB_some h
      refine g_cV1 hC cv_X12_hasTune wd_2126 ⟨Nat.le_of_ble_eq_true rfl, Nat.le_of_ble_eq_true rfl⟩ rfl (by decide) dX12_spare_45 (As := [.int r42.1]) (st := [.int v2]) (ok_X12_hasTune hC.2.2.2.2.2.2.2.1 hW h45) rfl rfl (Nat.le_of_ble_eq_true rfl) ⟨Nat.zero_le _, Nat.zero_le _⟩ ?_
      refine g_if_eq hC dX12_spare_48 (tgt := 57) (by decide) (fun c48 => ?_) (fun c48 => ?_)
      · replace h := (if_pos c48).symm.trans h
        refine g_iconst hC dX12_spare_57 (v := (0 : Int32)) (by decide) ?_
        refine g_ior hC dX12_spare_58 ?_
        refine g_istore_n hC dX12_spare_59 rfl rfl (by decide) (lv' := [(2, .int (v2 ||| (0 : Int32))), (0, .ref (mB E + 75)), (1, .int v1), (3, .int v3)]) rfl ?_
        refine g_iinc hC dX12_spare_60 rfl (q := 3) rfl (w := (v3 + (1 : Int32))) rfl (by decide) (lv' := [(3, .int (v3 + (1 : Int32))), (2, .int (v2 ||| (0 : Int32))), (0, .ref (mB E + 75)), (1, .int v1)]) rfl ?_
        refine g_goto hC dX12_spare_63 (tgt := 15) (by decide) ?_
        refine g_lv [2, 3, 1, 0] rfl ?_
        exact hk15_ v1 (v2 ||| (0 : Int32)) (v3 + (1 : Int32)) r42.2 h
      · replace h := (if_neg c48).symm.trans h
        refine g_iconst hC dX12_spare_51 (v := (1 : Int32)) (by decide) ?_
        refine g_iload_n hC dX12_spare_52 rfl (q := 3) rfl ?_
        refine g_ishl hC dX12_spare_53 ?_
        refine g_goto hC dX12_spare_54 (tgt := 58) (by decide) ?_
        refine g_ior hC dX12_spare_58 ?_
        refine g_istore_n hC dX12_spare_59 rfl rfl (by decide) (lv' := [(2, .int (v2 ||| ((1 : Int32) <<< (v3 &&& 31)))), (0, .ref (mB E + 75)), (1, .int v1), (3, .int v3)]) rfl ?_
        refine g_iinc hC dX12_spare_60 rfl (q := 3) rfl (w := (v3 + (1 : Int32))) rfl (by decide) (lv' := [(3, .int (v3 + (1 : Int32))), (2, .int (v2 ||| ((1 : Int32) <<< (v3 &&& 31)))), (0, .ref (mB E + 75)), (1, .int v1)]) rfl ?_
        refine g_goto hC dX12_spare_63 (tgt := 15) (by decide) ?_
        refine g_lv [2, 3, 1, 0] rfl ?_
        exact hk15_ v1 (v2 ||| ((1 : Int32) <<< (v3 &&& 31))) (v3 + (1 : Int32)) r42.2 h
noncomputable def w_X12_spare_15 (Fu : Nat)  (N : Nat) (v1 : Int32) (v2 : Int32) (v3 : Int32) (I : mIT) : Option (Int32 × mIT) :=
  loopF (fun self (s : Int32 × Int32 × Int32 × mIT) => b_X12_spare_15 Fu self s.1 s.2.1 s.2.2.1 s.2.2.2) N (v1, v2, v3, I)
theorem wo_X12_spare_15 {X : mXT} {E : mEn} {Fu : Nat} {R : mRT} {L : mLT}  (hC : mC X E mX12_spare RX12 cX12_spare) (hW : mWd R)   {out : Int32 × mIT} (hE : mEd X E 0 0 (mSame (some (.int (out.1))) 106 1 (out.2) R L))  (N : Nat) (v1 : Int32) (v2 : Int32) (v3 : Int32) (I : mIT) (h : w_X12_spare_15 Fu  N v1 v2 v3 I = some out) : mG X E 15 [(0, .ref (mB E + 75)), (1, .int v1), (2, .int v2), (3, .int v3)] [] 106 1 I R L 0 0 :=
  loopF_ok (Gd := fun s : Int32 × Int32 × Int32 × mIT => mG X E 15 [(0, .ref (mB E + 75)), (1, .int s.1), (2, .int s.2.1), (3, .int s.2.2.1)] [] 106 1 s.2.2.2 R L 0 0) (fun self hs s h => bo_X12_spare_15 hC hW hE self (fun v1 v2 v3 I h => hs (v1, v2, v3, I) h) s.1 s.2.1 s.2.2.1 s.2.2.2 h) N (v1, v2, v3, I) h
noncomputable def f_X12_spare (Fu : Nat) (I : mIT)  : Option (Int32 × mIT) :=
  oB (f_X12_soundingIn Fu (mU I 75 0 (0 : Int32)) (0 : Int32)) (fun r7 => w_X12_spare_15 Fu Fu r7 (0 : Int32) (0 : Int32) (mU I 75 0 (0 : Int32)))
set_option maxRecDepth 20000 in
theorem ok_X12_spare {l : Launch} {E : mEn} {Fu : Nat} {I : mIT} {R : mRT} {L : mLT}  (hst : l.stackTraces = false) (hW : mWd R)  {out : Int32 × mIT} (h : f_X12_spare Fu I  = some out) : mOk l E mX12_spare [.ref (mB E + 75)] 106 1 I R L 0 0 (mSame (some (.int (out.1))) 106 1 (out.2) R L) := by
  refine mOk_of hst (by decide) (Nat.le_of_ble_eq_true rfl) (fun X hC hE _ => ?_)
  have hC : mC X E mX12_spare RX12 cX12_spare := hC
  show mG X E 0 [(0, .ref (mB E + 75))] [] 106 1 I R L 0 0
  unfold f_X12_spare at h
  refine g_aload_n hC dX12_spare_0 rfl (q := 0) rfl ?_
  refine g_iconst hC dX12_spare_1 (v := (0 : Int32)) (by decide) ?_
  refine g_puti hC fd_RX12_114 rfl (by decide) rfl dX12_spare_2 (nm_e ?_)
  refine g_aload_n hC dX12_spare_5 rfl (q := 0) rfl ?_
  refine g_iconst hC dX12_spare_6 (v := (0 : Int32)) (by decide) ?_
  obtain ⟨r7, h7, h⟩ := oB_some h
  refine g_cV1 hC cv_X12_soundingIn wd_1996 ⟨Nat.le_of_ble_eq_true rfl, Nat.le_of_ble_eq_true rfl⟩ rfl (by decide) dX12_spare_7 (As := [.int (0 : Int32)]) (st := []) (ok_X12_soundingIn hC.2.2.2.2.2.2.2.1 hW h7) rfl rfl (Nat.le_of_ble_eq_true rfl) ⟨Nat.zero_le _, Nat.zero_le _⟩ ?_
  refine g_istore_n hC dX12_spare_10 rfl rfl (by decide) (lv' := [(1, .int r7), (0, .ref (mB E + 75))]) rfl ?_
  refine g_iconst hC dX12_spare_11 (v := (0 : Int32)) (by decide) ?_
  refine g_istore_n hC dX12_spare_12 rfl rfl (by decide) (lv' := [(2, .int (0 : Int32)), (1, .int r7), (0, .ref (mB E + 75))]) rfl ?_
  refine g_iconst hC dX12_spare_13 (v := (0 : Int32)) (by decide) ?_
  refine g_istore_n hC dX12_spare_14 rfl rfl (by decide) (lv' := [(3, .int (0 : Int32)), (2, .int (0 : Int32)), (1, .int r7), (0, .ref (mB E + 75))]) rfl ?_
  refine g_lv [3, 2, 1, 0] rfl ?_
  exact wo_X12_spare_15 hC hW hE Fu (r7) ((0 : Int32)) ((0 : Int32)) ((mU I 75 0 (0 : Int32))) h
noncomputable def f_X12_take (Fu : Nat) (I : mIT) (v1 : Int32) : Option (Int32 × mIT) :=
  oB (f_X12_isRoot Fu (mU I 75 0 (0 : Int32)) v1) (fun r7 => if r7.1 = 0 then (some ((0 : Int32), r7.2)) else (oG (inB ((31 : Int32) + v1) 106) (if 0 ≤ (r7.2 89 (((31 : Int32) + v1)).toNatClampNeg) then (oB (f_X12_keeps Fu r7.2) (fun r36 => oG (inB ((31 : Int32) + v1) 106) (some ((r7.2 89 (((31 : Int32) + v1)).toNatClampNeg), (mU r36 89 (((31 : Int32) + v1)).toNatClampNeg (-1 : Int32)))))) else (oB (f_X12_refuses Fu r7.2 (1 : Int32)) (fun r31 => some (r31.1, r31.2))))))
set_option maxRecDepth 20000 in
theorem ok_X12_take {l : Launch} {E : mEn} {Fu : Nat} {I : mIT} {R : mRT} {L : mLT} {v1 : Int32} (hst : l.stackTraces = false) (hW : mWd R)  {out : Int32 × mIT} (h : f_X12_take Fu I v1 = some out) : mOk l E mX12_take [.ref (mB E + 75), .int v1] 106 1 I R L 0 0 (mSame (some (.int (out.1))) 106 1 (out.2) R L) := by
  refine mOk_of hst (by decide) (Nat.le_of_ble_eq_true rfl) (fun X hC hE _ => ?_)
  have hC : mC X E mX12_take RX12 cX12_take := hC
  show mG X E 0 [(0, .ref (mB E + 75)), (1, .int v1)] [] 106 1 I R L 0 0
  unfold f_X12_take at h
  refine g_aload_n hC dX12_take_0 rfl (q := 0) rfl ?_
  refine g_iconst hC dX12_take_1 (v := (0 : Int32)) (by decide) ?_
  refine g_puti hC fd_RX12_114 rfl (by decide) rfl dX12_take_2 (nm_e ?_)
  refine g_aload_n hC dX12_take_5 rfl (q := 0) rfl ?_
  refine g_iload_n hC dX12_take_6 rfl (q := 1) rfl ?_
  obtain ⟨r7, h7, h⟩ := oB_some h
  refine g_cV1 hC cv_X12_isRoot wd_2034 ⟨Nat.le_of_ble_eq_true rfl, Nat.le_of_ble_eq_true rfl⟩ rfl (by decide) dX12_take_7 (As := [.int v1]) (st := []) (ok_X12_isRoot hC.2.2.2.2.2.2.2.1 hW h7) rfl rfl (Nat.le_of_ble_eq_true rfl) ⟨Nat.zero_le _, Nat.zero_le _⟩ ?_
  refine g_if_ne hC dX12_take_10 (tgt := 15) (by decide) (fun c10 => ?_) (fun c10 => ?_)
  · replace h := (if_neg c10).symm.trans h
    refine g_aload_n hC dX12_take_15 rfl (q := 0) rfl ?_
    refine g_getr hC fd_RX12_63 rfl (by decide) (C0 := "") (t0 := _) (Or.inr rfl) (rr_75_42 hW.1) dX12_take_16 ?_
    refine g_bipush hC dX12_take_19 (v := (31 : Int32)) (by decide) ?_
    refine g_iload_n hC dX12_take_21 rfl (q := 1) rfl ?_
    refine g_iadd hC dX12_take_22 ?_
    obtain ⟨g23, h⟩ := oG_some h
    refine g_iald hC rfl (by decide) (inB_in g23) dX12_take_23 ?_
    refine g_istore_n hC dX12_take_24 rfl rfl (by decide) (lv' := [(2, .int (r7.2 89 (((31 : Int32) + v1)).toNatClampNeg)), (0, .ref (mB E + 75)), (1, .int v1)]) rfl ?_
    refine g_iload_n hC dX12_take_25 rfl (q := 0) rfl ?_
    refine g_if_ge hC dX12_take_26 (tgt := 35) (by decide) (fun c26 => ?_) (fun c26 => ?_)
    · replace h := (if_pos c26).symm.trans h
      refine g_aload_n hC dX12_take_35 rfl (q := 1) rfl ?_
      obtain ⟨r36, h36, h⟩ := oB_some h
      refine g_cV0 hC cv_X12_keeps wd_2066 ⟨Nat.le_of_ble_eq_true rfl, Nat.le_of_ble_eq_true rfl⟩ rfl (by decide) dX12_take_36 (As := []) (st := []) (ok_X12_keeps hC.2.2.2.2.2.2.2.1 hW h36) rfl rfl (Nat.le_of_ble_eq_true rfl) ⟨Nat.zero_le _, Nat.zero_le _⟩ ?_
      refine g_aload_n hC dX12_take_39 rfl (q := 1) rfl ?_
      refine g_getr hC fd_RX12_63 rfl (by decide) (C0 := "") (t0 := _) (Or.inr rfl) (rr_75_42 hW.1) dX12_take_40 ?_
      refine g_bipush hC dX12_take_43 (v := (31 : Int32)) (by decide) ?_
      refine g_iload_n hC dX12_take_45 rfl (q := 2) rfl ?_
      refine g_iadd hC dX12_take_46 ?_
      refine g_iconst hC dX12_take_47 (v := (-1 : Int32)) (by decide) ?_
      obtain ⟨g48, h⟩ := oG_some h
      refine g_iast hC rfl (by decide) (inB_in g48) dX12_take_48 (nm_e ?_)
      refine g_iload_n hC dX12_take_49 rfl (q := 0) rfl ?_
      cases h
      exact g_iret hC hE rfl dX12_take_50 (Nat.zero_le _) (Nat.zero_le _) ⟨rfl, rfl, rfl, rfl, rfl, rfl⟩
    · replace h := (if_neg c26).symm.trans h
      refine g_aload_n hC dX12_take_29 rfl (q := 1) rfl ?_
      refine g_iconst hC dX12_take_30 (v := (1 : Int32)) (by decide) ?_
      obtain ⟨r31, h31, h⟩ := oB_some h
      refine g_cV1 hC cv_X12_refuses wd_2062 ⟨Nat.le_of_ble_eq_true rfl, Nat.le_of_ble_eq_true rfl⟩ rfl (by decide) dX12_take_31 (As := [.int (1 : Int32)]) (st := []) (ok_X12_refuses hC.2.2.2.2.2.2.2.1 hW h31) rfl rfl (Nat.le_of_ble_eq_true rfl) ⟨Nat.zero_le _, Nat.zero_le _⟩ ?_
      cases h
      exact g_iret hC hE rfl dX12_take_34 (Nat.zero_le _) (Nat.zero_le _) ⟨rfl, rfl, rfl, rfl, rfl, rfl⟩
  · replace h := (if_pos c10).symm.trans h
    refine g_iconst hC dX12_take_13 (v := (0 : Int32)) (by decide) ?_
    cases h
    exact g_iret hC hE rfl dX12_take_14 (Nat.zero_le _) (Nat.zero_le _) ⟨rfl, rfl, rfl, rfl, rfl, rfl⟩
noncomputable def f_X12_then (Fu : Nat) (I : mIT) (v1 : Int32) (v2 : Int32) : Option (Int32 × mIT) :=
  oB (f_X12_isRoot Fu (mU I 75 0 (0 : Int32)) v1) (fun r7 => if r7.1 = 0 then (some ((0 : Int32), r7.2)) else (oB (f_X12_isDays Fu r7.2 v2 (2 : Int32)) (fun r16 => if r16.1 = 0 then (some ((0 : Int32), r16.2)) else (oB (f_X12_daysGo Fu r16.2 v2) (fun r26 => oB (f_X12_noteOf Fu r26 (53 : Int32) v1) (fun r33 => some (r33.1, r33.2)))))))
set_option maxRecDepth 20000 in
theorem ok_X12_then {l : Launch} {E : mEn} {Fu : Nat} {I : mIT} {R : mRT} {L : mLT} {v1 : Int32} {v2 : Int32} (hst : l.stackTraces = false) (hW : mWd R)  {out : Int32 × mIT} (h : f_X12_then Fu I v1 v2 = some out) : mOk l E mX12_then [.ref (mB E + 75), .int v1, .int v2] 106 1 I R L 0 0 (mSame (some (.int (out.1))) 106 1 (out.2) R L) := by
  refine mOk_of hst (by decide) (Nat.le_of_ble_eq_true rfl) (fun X hC hE _ => ?_)
  have hC : mC X E mX12_then RX12 cX12_then := hC
  show mG X E 0 [(0, .ref (mB E + 75)), (1, .int v1), (2, .int v2)] [] 106 1 I R L 0 0
  unfold f_X12_then at h
  refine g_aload_n hC dX12_then_0 rfl (q := 0) rfl ?_
  refine g_iconst hC dX12_then_1 (v := (0 : Int32)) (by decide) ?_
  refine g_puti hC fd_RX12_114 rfl (by decide) rfl dX12_then_2 (nm_e ?_)
  refine g_aload_n hC dX12_then_5 rfl (q := 0) rfl ?_
  refine g_iload_n hC dX12_then_6 rfl (q := 1) rfl ?_
  obtain ⟨r7, h7, h⟩ := oB_some h
  refine g_cV1 hC cv_X12_isRoot wd_2034 ⟨Nat.le_of_ble_eq_true rfl, Nat.le_of_ble_eq_true rfl⟩ rfl (by decide) dX12_then_7 (As := [.int v1]) (st := []) (ok_X12_isRoot hC.2.2.2.2.2.2.2.1 hW h7) rfl rfl (Nat.le_of_ble_eq_true rfl) ⟨Nat.zero_le _, Nat.zero_le _⟩ ?_
  refine g_if_eq hC dX12_then_10 (tgt := 22) (by decide) (fun c10 => ?_) (fun c10 => ?_)
  · replace h := (if_pos c10).symm.trans h
    refine g_iconst hC dX12_then_22 (v := (0 : Int32)) (by decide) ?_
    cases h
    exact g_iret hC hE rfl dX12_then_23 (Nat.zero_le _) (Nat.zero_le _) ⟨rfl, rfl, rfl, rfl, rfl, rfl⟩
  · replace h := (if_neg c10).symm.trans h
    refine g_aload_n hC dX12_then_13 rfl (q := 0) rfl ?_
    refine g_iload_n hC dX12_then_14 rfl (q := 2) rfl ?_
    refine g_iconst hC dX12_then_15 (v := (2 : Int32)) (by decide) ?_
    obtain ⟨r16, h16, h⟩ := oB_some h
    refine g_cV1 hC cv_X12_isDays wd_2102 ⟨Nat.le_of_ble_eq_true rfl, Nat.le_of_ble_eq_true rfl⟩ rfl (by decide) dX12_then_16 (As := [.int v2, .int (2 : Int32)]) (st := []) (ok_X12_isDays hC.2.2.2.2.2.2.2.1 hW h16) rfl rfl (Nat.le_of_ble_eq_true rfl) ⟨Nat.zero_le _, Nat.zero_le _⟩ ?_
    refine g_if_ne hC dX12_then_19 (tgt := 24) (by decide) (fun c19 => ?_) (fun c19 => ?_)
    · replace h := (if_neg c19).symm.trans h
      refine g_aload_n hC dX12_then_24 rfl (q := 0) rfl ?_
      refine g_iload_n hC dX12_then_25 rfl (q := 2) rfl ?_
      obtain ⟨r26, h26, h⟩ := oB_some h
      refine g_cV0 hC cv_X12_daysGo wd_2106 ⟨Nat.le_of_ble_eq_true rfl, Nat.le_of_ble_eq_true rfl⟩ rfl (by decide) dX12_then_26 (As := [.int v2]) (st := []) (ok_X12_daysGo hC.2.2.2.2.2.2.2.1 hW h26) rfl rfl (Nat.le_of_ble_eq_true rfl) ⟨Nat.zero_le _, Nat.zero_le _⟩ ?_
      refine g_aload_n hC dX12_then_29 rfl (q := 0) rfl ?_
      refine g_bipush hC dX12_then_30 (v := (53 : Int32)) (by decide) ?_
      refine g_iload_n hC dX12_then_32 rfl (q := 1) rfl ?_
      obtain ⟨r33, h33, h⟩ := oB_some h
      refine g_cV1 hC cv_X12_noteOf wd_2012 ⟨Nat.le_of_ble_eq_true rfl, Nat.le_of_ble_eq_true rfl⟩ rfl (by decide) dX12_then_33 (As := [.int (53 : Int32), .int v1]) (st := []) (ok_X12_noteOf hC.2.2.2.2.2.2.2.1 hW h33) rfl rfl (Nat.le_of_ble_eq_true rfl) ⟨Nat.zero_le _, Nat.zero_le _⟩ ?_
      cases h
      exact g_iret hC hE rfl dX12_then_36 (Nat.zero_le _) (Nat.zero_le _) ⟨rfl, rfl, rfl, rfl, rfl, rfl⟩
    · replace h := (if_pos c19).symm.trans h
      refine g_iconst hC dX12_then_22 (v := (0 : Int32)) (by decide) ?_
      cases h
      exact g_iret hC hE rfl dX12_then_23 (Nat.zero_le _) (Nat.zero_le _) ⟨rfl, rfl, rfl, rfl, rfl, rfl⟩
