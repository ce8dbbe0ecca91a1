noncomputable def f_X6_lineWord (Fu : Nat) (I : mIT)  : Option (Int32) :=
  oB (f_X6_isAtWord Fu I 1) (fun r3 => if r3 = 0 then (oB (f_X6_isAtWord Fu I 2) (fun r16 => if r16 = 0 then (oB (f_X6_isAtWord Fu I 3) (fun r29 => if r29 = 0 then (oB (f_X6_isAtWord Fu I 4) (fun r42 => if r42 = 0 then (oB (f_X6_isAtWord Fu I 5) (fun r55 => if r55 = 0 then (oB (f_X6_isAtWord Fu I 6) (fun r68 => if r68 = 0 then (oB (f_X6_isAtWord Fu I 7) (fun r81 => if r81 = 0 then (oB (f_X6_isAtWord Fu I 8) (fun r95 => if r95 = 0 then (oB (f_X6_isAtWord Fu I 9) (fun r109 => if r109 = 0 then (oB (f_X6_isAtWord Fu I 10) (fun r123 => if r123 = 0 then (some (-1 : Int32)) else (some (9 : Int32)))) else (some (8 : Int32)))) else (some (7 : Int32)))) else (some (6 : Int32)))) else (some (5 : Int32)))) else (some (4 : Int32)))) else (some (3 : Int32)))) else (some (2 : Int32)))) else (some (1 : Int32)))) else (some (0 : Int32)))
set_option maxRecDepth 20000 in
theorem ok_X6_lineWord {l : Launch} {E : mEn} {Fu : Nat} {I : mIT} {R : mRT} {L : mLT}  (hst : l.stackTraces = false) (hW : mWd R)  {out : Int32} (h : f_X6_lineWord Fu I  = some out) : mOk l E mX6_lineWord [.ref (mB E + 1)] 106 1 I R L 0 0 (mSame (some (.int (out))) 106 1 I R L) := by
  refine mOk_of hst (by decide) (Nat.le_of_ble_eq_true rfl) (fun X hC hE _ => ?_)
  have hC : mC X E mX6_lineWord RX6 cX6_lineWord := hC
  show mG X E 0 [(0, .ref (mB E + 1))] [] 106 1 I R L 0 0
  unfold f_X6_lineWord at h
  refine g_aload_n hC dX6_lineWord_0 rfl (q := 0) rfl ?_
  refine g_lds hC dX6_lineWord_1 (j := 1) rfl ?_
  obtain ⟨r3, h3, h⟩ := oB_some h
  refine g_cV1 hC cv_X6_isAtWord wd_957 ⟨Nat.le_of_ble_eq_true rfl, Nat.le_of_ble_eq_true rfl⟩ rfl (by decide) dX6_lineWord_3 (As := [.ref (E.2.2.2 1)]) (st := []) (ok_X6_isAtWord hC.2.2.2.2.2.2.2.1 hW (by decide) h3) rfl rfl (Nat.le_of_ble_eq_true rfl) ⟨Nat.zero_le _, Nat.zero_le _⟩ ?_
  refine g_if_eq hC dX6_lineWord_6 (tgt := 13) (by decide) (fun c6 => ?_) (fun c6 => ?_)
  · replace h := (if_pos c6).symm.trans h
    refine g_aload_n hC dX6_lineWord_13 rfl (q := 0) rfl ?_
    refine g_lds hC dX6_lineWord_14 (j := 2) rfl ?_
    obtain ⟨r16, h16, h⟩ := oB_some h
    refine g_cV1 hC cv_X6_isAtWord wd_957 ⟨Nat.le_of_ble_eq_true rfl, Nat.le_of_ble_eq_true rfl⟩ rfl (by decide) dX6_lineWord_16 (As := [.ref (E.2.2.2 2)]) (st := []) (ok_X6_isAtWord hC.2.2.2.2.2.2.2.1 hW (by decide) h16) rfl rfl (Nat.le_of_ble_eq_true rfl) ⟨Nat.zero_le _, Nat.zero_le _⟩ ?_
    refine g_if_eq hC dX6_lineWord_19 (tgt := 26) (by decide) (fun c19 => ?_) (fun c19 => ?_)
    · replace h := (if_pos c19).symm.trans h
      refine g_aload_n hC dX6_lineWord_26 rfl (q := 0) rfl ?_
      refine g_lds hC dX6_lineWord_27 (j := 3) rfl ?_
      obtain ⟨r29, h29, h⟩ := oB_some h
      refine g_cV1 hC cv_X6_isAtWord wd_957 ⟨Nat.le_of_ble_eq_true rfl, Nat.le_of_ble_eq_true rfl⟩ rfl (by decide) dX6_lineWord_29 (As := [.ref (E.2.2.2 3)]) (st := []) (ok_X6_isAtWord hC.2.2.2.2.2.2.2.1 hW (by decide) h29) rfl rfl (Nat.le_of_ble_eq_true rfl) ⟨Nat.zero_le _, Nat.zero_le _⟩ ?_
      refine g_if_eq hC dX6_lineWord_32 (tgt := 39) (by decide) (fun c32 => ?_) (fun c32 => ?_)
      · replace h := (if_pos c32).symm.trans h
        refine g_aload_n hC dX6_lineWord_39 rfl (q := 0) rfl ?_
        refine g_lds hC dX6_lineWord_40 (j := 4) rfl ?_
        obtain ⟨r42, h42, h⟩ := oB_some h
        refine g_cV1 hC cv_X6_isAtWord wd_957 ⟨Nat.le_of_ble_eq_true rfl, Nat.le_of_ble_eq_true rfl⟩ rfl (by decide) dX6_lineWord_42 (As := [.ref (E.2.2.2 4)]) (st := []) (ok_X6_isAtWord hC.2.2.2.2.2.2.2.1 hW (by decide) h42) rfl rfl (Nat.le_of_ble_eq_true rfl) ⟨Nat.zero_le _, Nat.zero_le _⟩ ?_
        refine g_if_eq hC dX6_lineWord_45 (tgt := 52) (by decide) (fun c45 => ?_) (fun c45 => ?_)
        · replace h := (if_pos c45).symm.trans h
          refine g_aload_n hC dX6_lineWord_52 rfl (q := 0) rfl ?_
          refine g_lds hC dX6_lineWord_53 (j := 5) rfl ?_
          obtain ⟨r55, h55, h⟩ := oB_some h
          refine g_cV1 hC cv_X6_isAtWord wd_957 ⟨Nat.le_of_ble_eq_true rfl, Nat.le_of_ble_eq_true rfl⟩ rfl (by decide) dX6_lineWord_55 (As := [.ref (E.2.2.2 5)]) (st := []) (ok_X6_isAtWord hC.2.2.2.2.2.2.2.1 hW (by decide) h55) rfl rfl (Nat.le_of_ble_eq_true rfl) ⟨Nat.zero_le _, Nat.zero_le _⟩ ?_
          refine g_if_eq hC dX6_lineWord_58 (tgt := 65) (by decide) (fun c58 => ?_) (fun c58 => ?_)
          · replace h := (if_pos c58).symm.trans h
            refine g_aload_n hC dX6_lineWord_65 rfl (q := 0) rfl ?_
            refine g_lds hC dX6_lineWord_66 (j := 6) rfl ?_
            obtain ⟨r68, h68, h⟩ := oB_some h
            refine g_cV1 hC cv_X6_isAtWord wd_957 ⟨Nat.le_of_ble_eq_true rfl, Nat.le_of_ble_eq_true rfl⟩ rfl (by decide) dX6_lineWord_68 (As := [.ref (E.2.2.2 6)]) (st := []) (ok_X6_isAtWord hC.2.2.2.2.2.2.2.1 hW (by decide) h68) rfl rfl (Nat.le_of_ble_eq_true rfl) ⟨Nat.zero_le _, Nat.zero_le _⟩ ?_
            refine g_if_eq hC dX6_lineWord_71 (tgt := 78) (by decide) (fun c71 => ?_) (fun c71 => ?_)
            · replace h := (if_pos c71).symm.trans h
              refine g_aload_n hC dX6_lineWord_78 rfl (q := 0) rfl ?_
              refine g_lds hC dX6_lineWord_79 (j := 7) rfl ?_
              obtain ⟨r81, h81, h⟩ := oB_some h
              refine g_cV1 hC cv_X6_isAtWord wd_957 ⟨Nat.le_of_ble_eq_true rfl, Nat.le_of_ble_eq_true rfl⟩ rfl (by decide) dX6_lineWord_81 (As := [.ref (E.2.2.2 7)]) (st := []) (ok_X6_isAtWord hC.2.2.2.2.2.2.2.1 hW (by decide) h81) rfl rfl (Nat.le_of_ble_eq_true rfl) ⟨Nat.zero_le _, Nat.zero_le _⟩ ?_
              refine g_if_eq hC dX6_lineWord_84 (tgt := 92) (by decide) (fun c84 => ?_) (fun c84 => ?_)
              · replace h := (if_pos c84).symm.trans h
                refine g_aload_n hC dX6_lineWord_92 rfl (q := 0) rfl ?_
                refine g_lds hC dX6_lineWord_93 (j := 8) rfl ?_
                obtain ⟨r95, h95, h⟩ := oB_some h
                refine g_cV1 hC cv_X6_isAtWord wd_957 ⟨Nat.le_of_ble_eq_true rfl, Nat.le_of_ble_eq_true rfl⟩ rfl (by decide) dX6_lineWord_95 (As := [.ref (E.2.2.2 8)]) (st := []) (ok_X6_isAtWord hC.2.2.2.2.2.2.2.1 hW (by decide) h95) rfl rfl (Nat.le_of_ble_eq_true rfl) ⟨Nat.zero_le _, Nat.zero_le _⟩ ?_
                refine g_if_eq hC dX6_lineWord_98 (tgt := 106) (by decide) (fun c98 => ?_) (fun c98 => ?_)
                · replace h := (if_pos c98).symm.trans h
                  refine g_aload_n hC dX6_lineWord_106 rfl (q := 0) rfl ?_
                  refine g_lds hC dX6_lineWord_107 (j := 9) rfl ?_
                  obtain ⟨r109, h109, h⟩ := oB_some h
                  refine g_cV1 hC cv_X6_isAtWord wd_957 ⟨Nat.le_of_ble_eq_true rfl, Nat.le_of_ble_eq_true rfl⟩ rfl (by decide) dX6_lineWord_109 (As := [.ref (E.2.2.2 9)]) (st := []) (ok_X6_isAtWord hC.2.2.2.2.2.2.2.1 hW (by decide) h109) rfl rfl (Nat.le_of_ble_eq_true rfl) ⟨Nat.zero_le _, Nat.zero_le _⟩ ?_
                  refine g_if_eq hC dX6_lineWord_112 (tgt := 120) (by decide) (fun c112 => ?_) (fun c112 => ?_)
                  · replace h := (if_pos c112).symm.trans h
                    refine g_aload_n hC dX6_lineWord_120 rfl (q := 0) rfl ?_
                    refine g_lds hC dX6_lineWord_121 (j := 10) rfl ?_
                    obtain ⟨r123, h123, h⟩ := oB_some h
                    refine g_cV1 hC cv_X6_isAtWord wd_957 ⟨Nat.le_of_ble_eq_true rfl, Nat.le_of_ble_eq_true rfl⟩ rfl (by decide) dX6_lineWord_123 (As := [.ref (E.2.2.2 10)]) (st := []) (ok_X6_isAtWord hC.2.2.2.2.2.2.2.1 hW (by decide) h123) rfl rfl (Nat.le_of_ble_eq_true rfl) ⟨Nat.zero_le _, Nat.zero_le _⟩ ?_
                    refine g_if_eq hC dX6_lineWord_126 (tgt := 134) (by decide) (fun c126 => ?_) (fun c126 => ?_)
                    · replace h := (if_pos c126).symm.trans h
                      refine g_iconst hC dX6_lineWord_134 (v := (-1 : Int32)) (by decide) ?_
                      cases h
                      exact g_iret hC hE rfl dX6_lineWord_135 (Nat.zero_le _) (Nat.zero_le _) ⟨rfl, rfl, rfl, rfl, rfl, rfl⟩
                    · replace h := (if_neg c126).symm.trans h
                      refine g_bipush hC dX6_lineWord_129 (v := (9 : Int32)) (by decide) ?_
                      refine g_goto hC dX6_lineWord_131 (tgt := 135) (by decide) ?_
                      cases h
                      exact g_iret hC hE rfl dX6_lineWord_135 (Nat.zero_le _) (Nat.zero_le _) ⟨rfl, rfl, rfl, rfl, rfl, rfl⟩
                  · replace h := (if_neg c112).symm.trans h
                    refine g_bipush hC dX6_lineWord_115 (v := (8 : Int32)) (by decide) ?_
                    refine g_goto hC dX6_lineWord_117 (tgt := 135) (by decide) ?_
                    cases h
                    exact g_iret hC hE rfl dX6_lineWord_135 (Nat.zero_le _) (Nat.zero_le _) ⟨rfl, rfl, rfl, rfl, rfl, rfl⟩
                · replace h := (if_neg c98).symm.trans h
                  refine g_bipush hC dX6_lineWord_101 (v := (7 : Int32)) (by decide) ?_
                  refine g_goto hC dX6_lineWord_103 (tgt := 135) (by decide) ?_
                  cases h
                  exact g_iret hC hE rfl dX6_lineWord_135 (Nat.zero_le _) (Nat.zero_le _) ⟨rfl, rfl, rfl, rfl, rfl, rfl⟩
              · replace h := (if_neg c84).symm.trans h
                refine g_bipush hC dX6_lineWord_87 (v := (6 : Int32)) (by decide) ?_
                refine g_goto hC dX6_lineWord_89 (tgt := 135) (by decide) ?_
                cases h
                exact g_iret hC hE rfl dX6_lineWord_135 (Nat.zero_le _) (Nat.zero_le _) ⟨rfl, rfl, rfl, rfl, rfl, rfl⟩
            · replace h := (if_neg c71).symm.trans h
              refine g_iconst hC dX6_lineWord_74 (v := (5 : Int32)) (by decide) ?_
              refine g_goto hC dX6_lineWord_75 (tgt := 135) (by decide) ?_
              cases h
              exact g_iret hC hE rfl dX6_lineWord_135 (Nat.zero_le _) (Nat.zero_le _) ⟨rfl, rfl, rfl, rfl, rfl, rfl⟩
          · replace h := (if_neg c58).symm.trans h
            refine g_iconst hC dX6_lineWord_61 (v := (4 : Int32)) (by decide) ?_
            refine g_goto hC dX6_lineWord_62 (tgt := 135) (by decide) ?_
            cases h
            exact g_iret hC hE rfl dX6_lineWord_135 (Nat.zero_le _) (Nat.zero_le _) ⟨rfl, rfl, rfl, rfl, rfl, rfl⟩
        · replace h := (if_neg c45).symm.trans h
          refine g_iconst hC dX6_lineWord_48 (v := (3 : Int32)) (by decide) ?_
          refine g_goto hC dX6_lineWord_49 (tgt := 135) (by decide) ?_
          cases h
          exact g_iret hC hE rfl dX6_lineWord_135 (Nat.zero_le _) (Nat.zero_le _) ⟨rfl, rfl, rfl, rfl, rfl, rfl⟩
      · replace h := (if_neg c32).symm.trans h
        refine g_iconst hC dX6_lineWord_35 (v := (2 : Int32)) (by decide) ?_
        refine g_goto hC dX6_lineWord_36 (tgt := 135) (by decide) ?_
        cases h
        exact g_iret hC hE rfl dX6_lineWord_135 (Nat.zero_le _) (Nat.zero_le _) ⟨rfl, rfl, rfl, rfl, rfl, rfl⟩
    · replace h := (if_neg c19).symm.trans h
      refine g_iconst hC dX6_lineWord_22 (v := (1 : Int32)) (by decide) ?_
      refine g_goto hC dX6_lineWord_23 (tgt := 135) (by decide) ?_
      cases h
      exact g_iret hC hE rfl dX6_lineWord_135 (Nat.zero_le _) (Nat.zero_le _) ⟨rfl, rfl, rfl, rfl, rfl, rfl⟩
  · replace h := (if_neg c6).symm.trans h
    refine g_iconst hC dX6_lineWord_9 (v := (0 : Int32)) (by decide) ?_
    refine g_goto hC dX6_lineWord_10 (tgt := 135) (by decide) ?_
    cases h
    exact g_iret hC hE rfl dX6_lineWord_135 (Nat.zero_le _) (Nat.zero_le _) ⟨rfl, rfl, rfl, rfl, rfl, rfl⟩
noncomputable def f_X6_refuse (Fu : Nat) (I : mIT) (v1 : Int32) : Option (Int32 × mIT) :=
  some ((0 : Int32), (mU I 1 9 v1))
set_option maxRecDepth 20000 in
theorem ok_X6_refuse {l : Launch} {E : mEn} {Fu : Nat} {I : mIT} {R : mRT} {L : mLT} {v1 : Int32} (hst : l.stackTraces = false) (hW : mWd R)  {out : Int32 × mIT} (h : f_X6_refuse Fu I v1 = some out) : mOk l E mX6_refuse [.ref (mB E + 1), .int v1] 106 1 I R L 0 0 (mSame (some (.int (out.1))) 106 1 (out.2) R L) := by
  refine mOk_of hst (by decide) (Nat.le_of_ble_eq_true rfl) (fun X hC hE _ => ?_)
  have hC : mC X E mX6_refuse RX6 cX6_refuse := hC
  show mG X E 0 [(0, .ref (mB E + 1)), (1, .int v1)] [] 106 1 I R L 0 0
  unfold f_X6_refuse at h
  refine g_aload_n hC dX6_refuse_0 rfl (q := 0) rfl ?_
  refine g_iload_n hC dX6_refuse_1 rfl (q := 1) rfl ?_
  refine g_puti hC fd_RX6_40 rfl (by decide) rfl dX6_refuse_2 (nm_e ?_)
  refine g_iconst hC dX6_refuse_5 (v := (0 : Int32)) (by decide) ?_
  cases h
  exact g_zret hC (by decide) hE rfl dX6_refuse_6 (Nat.zero_le _) (Nat.zero_le _) ⟨rfl, rfl, rfl, rfl, rfl, rfl⟩
noncomputable def f_X6_checkNumber (Fu : Nat) (I : mIT) (v1 : Int32) (v2 : Int32) : Option (Int32 × mIT) :=
  if (I 1 4) = (2 : Int32) then (if (4 : Int32) < (I 1 7) then (oB (f_X6_refuse Fu I (2 : Int32)) (fun r40 => if r40.1 = 0 then (some ((0 : Int32), r40.2)) else (some ((1 : Int32), r40.2)))) else (if (I 1 8) < v1 then (oB (f_X6_refuse Fu I (2 : Int32)) (fun r40 => if r40.1 = 0 then (some ((0 : Int32), r40.2)) else (some ((1 : Int32), r40.2)))) else (if (I 1 8) ≤ v2 then (some ((1 : Int32), I)) else (oB (f_X6_refuse Fu I (2 : Int32)) (fun r40 => if r40.1 = 0 then (some ((0 : Int32), r40.2)) else (some ((1 : Int32), r40.2))))))) else (oB (f_X6_refuse Fu I (1 : Int32)) (fun r10 => oG (isB r10.1) (some (r10.1, r10.2))))
set_option maxRecDepth 20000 in
theorem ok_X6_checkNumber {l : Launch} {E : mEn} {Fu : Nat} {I : mIT} {R : mRT} {L : mLT} {v1 : Int32} {v2 : Int32} (hst : l.stackTraces = false) (hW : mWd R)  {out : Int32 × mIT} (h : f_X6_checkNumber Fu I v1 v2 = some out) : mOk l E mX6_checkNumber [.ref (mB E + 1), .int v1, .int v2] 106 1 I R L 0 0 (mSame (some (.int (out.1))) 106 1 (out.2) R L) := by
  refine mOk_of hst (by decide) (Nat.le_of_ble_eq_true rfl) (fun X hC hE _ => ?_)
  have hC : mC X E mX6_checkNumber RX6 cX6_checkNumber := hC
  show mG X E 0 [(0, .ref (mB E + 1)), (1, .int v1), (2, .int v2)] [] 106 1 I R L 0 0
  unfold f_X6_checkNumber at h
  refine g_aload_n hC dX6_checkNumber_0 rfl (q := 0) rfl ?_
  refine g_geti hC fd_RX6_25 rfl (by decide) (Or.inl rfl) dX6_checkNumber_1 ?_
  refine g_iconst hC dX6_checkNumber_4 (v := (2 : Int32)) (by decide) ?_
  refine g_ic_eq hC dX6_checkNumber_5 (tgt := 14) (by decide) (fun c5 => ?_) (fun c5 => ?_)
  · replace h := (if_pos c5).symm.trans h
    refine g_aload_n hC dX6_checkNumber_14 rfl (q := 0) rfl ?_
    refine g_geti hC fd_RX6_34 rfl (by decide) (Or.inl rfl) dX6_checkNumber_15 ?_
    refine g_iconst hC dX6_checkNumber_18 (v := (4 : Int32)) (by decide) ?_
    refine g_ic_gt hC dX6_checkNumber_19 (tgt := 38) (by decide) (fun c19 => ?_) (fun c19 => ?_)
    · replace h := (if_pos c19).symm.trans h
      refine g_aload_n hC dX6_checkNumber_38 rfl (q := 0) rfl ?_
      refine g_iconst hC dX6_checkNumber_39 (v := (2 : Int32)) (by decide) ?_
      obtain ⟨r40, h40, h⟩ := oB_some h
      refine g_cV1 hC cv_X6_refuse wd_1018 ⟨Nat.le_of_ble_eq_true rfl, Nat.le_of_ble_eq_true rfl⟩ rfl (by decide) dX6_checkNumber_40 (As := [.int (2 : Int32)]) (st := []) (ok_X6_refuse hC.2.2.2.2.2.2.2.1 hW h40) rfl rfl (Nat.le_of_ble_eq_true rfl) ⟨Nat.zero_le _, Nat.zero_le _⟩ ?_
      refine g_if_eq hC dX6_checkNumber_43 (tgt := 50) (by decide) (fun c43 => ?_) (fun c43 => ?_)
      · replace h := (if_pos c43).symm.trans h
        refine g_iconst hC dX6_checkNumber_50 (v := (0 : Int32)) (by decide) ?_
        cases h
        exact g_zret hC (by decide) hE rfl dX6_checkNumber_51 (Nat.zero_le _) (Nat.zero_le _) ⟨rfl, rfl, rfl, rfl, rfl, rfl⟩
      · replace h := (if_neg c43).symm.trans h
        refine g_iconst hC dX6_checkNumber_46 (v := (1 : Int32)) (by decide) ?_
        refine g_goto hC dX6_checkNumber_47 (tgt := 51) (by decide) ?_
        cases h
        exact g_zret hC (by decide) hE rfl dX6_checkNumber_51 (Nat.zero_le _) (Nat.zero_le _) ⟨rfl, rfl, rfl, rfl, rfl, rfl⟩
    · replace h := (if_neg c19).symm.trans h
      refine g_aload_n hC dX6_checkNumber_22 rfl (q := 0) rfl ?_
      refine g_geti hC fd_RX6_37 rfl (by decide) (Or.inl rfl) dX6_checkNumber_23 ?_
      refine g_iload_n hC dX6_checkNumber_26 rfl (q := 1) rfl ?_
      refine g_ic_lt hC dX6_checkNumber_27 (tgt := 38) (by decide) (fun c27 => ?_) (fun c27 => ?_)
      · replace h := (if_pos c27).symm.trans h
        refine g_aload_n hC dX6_checkNumber_38 rfl (q := 0) rfl ?_
        refine g_iconst hC dX6_checkNumber_39 (v := (2 : Int32)) (by decide) ?_
        obtain ⟨r40, h40, h⟩ := oB_some h
        refine g_cV1 hC cv_X6_refuse wd_1018 ⟨Nat.le_of_ble_eq_true rfl, Nat.le_of_ble_eq_true rfl⟩ rfl (by decide) dX6_checkNumber_40 (As := [.int (2 : Int32)]) (st := []) (ok_X6_refuse hC.2.2.2.2.2.2.2.1 hW h40) rfl rfl (Nat.le_of_ble_eq_true rfl) ⟨Nat.zero_le _, Nat.zero_le _⟩ ?_
        refine g_if_eq hC dX6_checkNumber_43 (tgt := 50) (by decide) (fun c43 => ?_) (fun c43 => ?_)
        · replace h := (if_pos c43).symm.trans h
          refine g_iconst hC dX6_checkNumber_50 (v := (0 : Int32)) (by decide) ?_
          cases h
          exact g_zret hC (by decide) hE rfl dX6_checkNumber_51 (Nat.zero_le _) (Nat.zero_le _) ⟨rfl, rfl, rfl, rfl, rfl, rfl⟩
        · replace h := (if_neg c43).symm.trans h
          refine g_iconst hC dX6_checkNumber_46 (v := (1 : Int32)) (by decide) ?_
          refine g_goto hC dX6_checkNumber_47 (tgt := 51) (by decide) ?_
          cases h
          exact g_zret hC (by decide) hE rfl dX6_checkNumber_51 (Nat.zero_le _) (Nat.zero_le _) ⟨rfl, rfl, rfl, rfl, rfl, rfl⟩
      · replace h := (if_neg c27).symm.trans h
        refine g_aload_n hC dX6_checkNumber_30 rfl (q := 0) rfl ?_
        refine g_geti hC fd_RX6_37 rfl (by decide) (Or.inl rfl) dX6_checkNumber_31 ?_
        refine g_iload_n hC dX6_checkNumber_34 rfl (q := 2) rfl ?_
        refine g_ic_le hC dX6_checkNumber_35 (tgt := 46) (by decide) (fun c35 => ?_) (fun c35 => ?_)
        · replace h := (if_pos c35).symm.trans h
          refine g_iconst hC dX6_checkNumber_46 (v := (1 : Int32)) (by decide) ?_
          refine g_goto hC dX6_checkNumber_47 (tgt := 51) (by decide) ?_
          cases h
          exact g_zret hC (by decide) hE rfl dX6_checkNumber_51 (Nat.zero_le _) (Nat.zero_le _) ⟨rfl, rfl, rfl, rfl, rfl, rfl⟩
        · replace h := (if_neg c35).symm.trans h
          refine g_aload_n hC dX6_checkNumber_38 rfl (q := 0) rfl ?_
          refine g_iconst hC dX6_checkNumber_39 (v := (2 : Int32)) (by decide) ?_
          obtain ⟨r40, h40, h⟩ := oB_some h
          refine g_cV1 hC cv_X6_refuse wd_1018 ⟨Nat.le_of_ble_eq_true rfl, Nat.le_of_ble_eq_true rfl⟩ rfl (by decide) dX6_checkNumber_40 (As := [.int (2 : Int32)]) (st := []) (ok_X6_refuse hC.2.2.2.2.2.2.2.1 hW h40) rfl rfl (Nat.le_of_ble_eq_true rfl) ⟨Nat.zero_le _, Nat.zero_le _⟩ ?_
          refine g_if_eq hC dX6_checkNumber_43 (tgt := 50) (by decide) (fun c43 => ?_) (fun c43 => ?_)
          · replace h := (if_pos c43).symm.trans h
            refine g_iconst hC dX6_checkNumber_50 (v := (0 : Int32)) (by decide) ?_
            cases h
            exact g_zret hC (by decide) hE rfl dX6_checkNumber_51 (Nat.zero_le _) (Nat.zero_le _) ⟨rfl, rfl, rfl, rfl, rfl, rfl⟩
          · replace h := (if_neg c43).symm.trans h
            refine g_iconst hC dX6_checkNumber_46 (v := (1 : Int32)) (by decide) ?_
            refine g_goto hC dX6_checkNumber_47 (tgt := 51) (by decide) ?_
            cases h
            exact g_zret hC (by decide) hE rfl dX6_checkNumber_51 (Nat.zero_le _) (Nat.zero_le _) ⟨rfl, rfl, rfl, rfl, rfl, rfl⟩
  · replace h := (if_neg c5).symm.trans h
    refine g_aload_n hC dX6_checkNumber_8 rfl (q := 0) rfl ?_
    refine g_iconst hC dX6_checkNumber_9 (v := (1 : Int32)) (by decide) ?_
    obtain ⟨r10, h10, h⟩ := oB_some h
    refine g_cV1 hC cv_X6_refuse wd_1018 ⟨Nat.le_of_ble_eq_true rfl, Nat.le_of_ble_eq_true rfl⟩ rfl (by decide) dX6_checkNumber_10 (As := [.int (1 : Int32)]) (st := []) (ok_X6_refuse hC.2.2.2.2.2.2.2.1 hW h10) rfl rfl (Nat.le_of_ble_eq_true rfl) ⟨Nat.zero_le _, Nat.zero_le _⟩ ?_
    obtain ⟨g13, h⟩ := oG_some h
    cases h
    exact g_zret hC (isB_or g13) hE rfl dX6_checkNumber_13 (Nat.zero_le _) (Nat.zero_le _) ⟨rfl, rfl, rfl, rfl, rfl, rfl⟩
noncomputable def f_X9_setRoot (Fu : Nat) (I : mIT) (k0 : Nat) (v1 : Int32) (v2 : Int32) (v3 : Int32) (v4 : Int32) : Option (mIT) :=
  oB (f_X9_setCell Fu I k0 (1 : Int32) v1 v2) (fun r4 => oB (f_X9_setCell Fu r4 k0 (11 : Int32) v1 v3) (fun r12 => oB (f_X9_setCell Fu r12 k0 (21 : Int32) v1 (0 : Int32)) (fun r20 => oB (f_X9_setCell Fu r20 k0 (31 : Int32) v1 v4) (fun r29 => some (r29)))))
set_option maxRecDepth 20000 in
theorem ok_X9_setRoot {l : Launch} {E : mEn} {Fu : Nat} {I : mIT} {R : mRT} {L : mLT} {k0 : Nat} {v1 : Int32} {v2 : Int32} {v3 : Int32} {v4 : Int32} (hst : l.stackTraces = false) (hk0 : mO9 R k0) {out : mIT} (h : f_X9_setRoot Fu I k0 v1 v2 v3 v4 = some out) : mOk l E mX9_setRoot [.ref (mB E + k0), .int v1, .int v2, .int v3, .int v4] 106 1 I R L 0 0 (mSame none 106 1 (out) R L) := by
  refine mOk_of hst (by decide) (Nat.le_of_ble_eq_true rfl) (fun X hC hE _ => ?_)
  have hC : mC X E mX9_setRoot RX9 cX9_setRoot := hC
  show mG X E 0 [(0, .ref (mB E + k0)), (1, .int v1), (2, .int v2), (3, .int v3), (4, .int v4)] [] 106 1 I R L 0 0
  unfold f_X9_setRoot at h
  refine g_aload_n hC dX9_setRoot_0 rfl (q := 0) rfl ?_
  refine g_iconst hC dX9_setRoot_1 (v := (1 : Int32)) (by decide) ?_
  refine g_iload_n hC dX9_setRoot_2 rfl (q := 1) rfl ?_
  refine g_iload_n hC dX9_setRoot_3 rfl (q := 2) rfl ?_
  obtain ⟨r4, h4, h⟩ := oB_some h
  refine g_cV0 hC cv_X9_setCell wd_636 ⟨Nat.le_of_ble_eq_true rfl, Nat.le_of_ble_eq_true rfl⟩ hk0.2.1 hk0.1 dX9_setRoot_4 (As := [.int (1 : Int32), .int v1, .int v2]) (st := []) (ok_X9_setCell hC.2.2.2.2.2.2.2.1 hk0 h4) rfl rfl (Nat.le_of_ble_eq_true rfl) ⟨Nat.zero_le _, Nat.zero_le _⟩ ?_
  refine g_aload_n hC dX9_setRoot_7 rfl (q := 0) rfl ?_
  refine g_bipush hC dX9_setRoot_8 (v := (11 : Int32)) (by decide) ?_
  refine g_iload_n hC dX9_setRoot_10 rfl (q := 1) rfl ?_
  refine g_iload_n hC dX9_setRoot_11 rfl (q := 3) rfl ?_
  obtain ⟨r12, h12, h⟩ := oB_some h
  refine g_cV0 hC cv_X9_setCell wd_636 ⟨Nat.le_of_ble_eq_true rfl, Nat.le_of_ble_eq_true rfl⟩ hk0.2.1 hk0.1 dX9_setRoot_12 (As := [.int (11 : Int32), .int v1, .int v3]) (st := []) (ok_X9_setCell hC.2.2.2.2.2.2.2.1 hk0 h12) rfl rfl (Nat.le_of_ble_eq_true rfl) ⟨Nat.zero_le _, Nat.zero_le _⟩ ?_
  refine g_aload_n hC dX9_setRoot_15 rfl (q := 0) rfl ?_
  refine g_bipush hC dX9_setRoot_16 (v := (21 : Int32)) (by decide) ?_
  refine g_iload_n hC dX9_setRoot_18 rfl (q := 1) rfl ?_
  refine g_iconst hC dX9_setRoot_19 (v := (0 : Int32)) (by decide) ?_
  obtain ⟨r20, h20, h⟩ := oB_some h
  refine g_cV0 hC cv_X9_setCell wd_636 ⟨Nat.le_of_ble_eq_true rfl, Nat.le_of_ble_eq_true rfl⟩ hk0.2.1 hk0.1 dX9_setRoot_20 (As := [.int (21 : Int32), .int v1, .int (0 : Int32)]) (st := []) (ok_X9_setCell hC.2.2.2.2.2.2.2.1 hk0 h20) rfl rfl (Nat.le_of_ble_eq_true rfl) ⟨Nat.zero_le _, Nat.zero_le _⟩ ?_
  refine g_aload_n hC dX9_setRoot_23 rfl (q := 0) rfl ?_
  refine g_bipush hC dX9_setRoot_24 (v := (31 : Int32)) (by decide) ?_
  refine g_iload_n hC dX9_setRoot_26 rfl (q := 1) rfl ?_
  refine g_iload hC dX9_setRoot_27 (q := 4) rfl ?_
  obtain ⟨r29, h29, h⟩ := oB_some h
  refine g_cV0 hC cv_X9_setCell wd_636 ⟨Nat.le_of_ble_eq_true rfl, Nat.le_of_ble_eq_true rfl⟩ hk0.2.1 hk0.1 dX9_setRoot_29 (As := [.int (31 : Int32), .int v1, .int v4]) (st := []) (ok_X9_setCell hC.2.2.2.2.2.2.2.1 hk0 h29) rfl rfl (Nat.le_of_ble_eq_true rfl) ⟨Nat.zero_le _, Nat.zero_le _⟩ ?_
  cases h
  exact g_vret hC hE rfl dX9_setRoot_32 (Nat.zero_le _) (Nat.zero_le _) ⟨rfl, rfl, rfl, rfl, rfl, rfl⟩
noncomputable def f_X5_addRoot (Fu : Nat) (I : mIT) (k0 : Nat) (v1 : Int32) (v2 : Int32) (v3 : Int32) (v4 : Int32) : Option (mIT) :=
  if (I k0 3) < 0 then (some (I)) else (if (nI 10) ≤ (I k0 3) then (some (I)) else (oG (inB (I k0 3) 10) (oB (f_X9_setRoot Fu (mU I (k0 + 1) ((I k0 3)).toNatClampNeg v1) (k0 + 16) ((mU I (k0 + 1) ((I k0 3)).toNatClampNeg v1) k0 3) v2 v3 v4) (fun r41 => some (mU r41 k0 3 ((r41 k0 3) + (1 : Int32)))))))
set_option maxRecDepth 20000 in
theorem ok_X5_addRoot {l : Launch} {E : mEn} {Fu : Nat} {I : mIT} {R : mRT} {L : mLT} {k0 : Nat} {v1 : Int32} {v2 : Int32} {v3 : Int32} {v4 : Int32} (hst : l.stackTraces = false) (hk0 : mO5 R k0) {out : mIT} (h : f_X5_addRoot Fu I k0 v1 v2 v3 v4 = some out) : mOk l E mX5_addRoot [.ref (mB E + k0), .int v1, .int v2, .int v3, .int v4] 106 1 I R L 0 0 (mSame none 106 1 (out) R L) := by
  refine mOk_of hst (by decide) (Nat.le_of_ble_eq_true rfl) (fun X hC hE _ => ?_)
  have hC : mC X E mX5_addRoot RX5 cX5_addRoot := hC
  show mG X E 0 [(0, .ref (mB E + k0)), (1, .int v1), (2, .int v2), (3, .int v3), (4, .int v4)] [] 106 1 I R L 0 0
  unfold f_X5_addRoot at h
  refine g_aload_n hC dX5_addRoot_0 rfl (q := 0) rfl ?_
  refine g_geti hC fd_RX5_21 hk0.2.1 hk0.1 (Or.inl rfl) dX5_addRoot_1 ?_
  refine g_if_lt hC dX5_addRoot_4 (tgt := 54) (by decide) (fun c4 => ?_) (fun c4 => ?_)
  · replace h := (if_pos c4).symm.trans h
    cases h
    exact g_vret hC hE rfl dX5_addRoot_54 (Nat.zero_le _) (Nat.zero_le _) ⟨rfl, rfl, rfl, rfl, rfl, rfl⟩
  · replace h := (if_neg c4).symm.trans h
    refine g_aload_n hC dX5_addRoot_7 rfl (q := 0) rfl ?_
    refine g_geti hC fd_RX5_21 hk0.2.1 hk0.1 (Or.inl rfl) dX5_addRoot_8 ?_
    refine g_aload_n hC dX5_addRoot_11 rfl (q := 0) rfl ?_
    refine g_getr hC fd_RX5_9 hk0.2.1 hk0.1 (C0 := "") (t0 := _) (Or.inr rfl) hk0.2.2.1.1 dX5_addRoot_12 ?_
    refine g_alenI hC hk0.2.2.1.2.2 hk0.2.2.1.2.1 dX5_addRoot_15 ?_
    refine g_ic_ge hC dX5_addRoot_16 (tgt := 54) (by decide) (fun c16 => ?_) (fun c16 => ?_)
    · replace h := (if_pos c16).symm.trans h
      cases h
      exact g_vret hC hE rfl dX5_addRoot_54 (Nat.zero_le _) (Nat.zero_le _) ⟨rfl, rfl, rfl, rfl, rfl, rfl⟩
    · replace h := (if_neg c16).symm.trans h
      refine g_aload_n hC dX5_addRoot_19 rfl (q := 0) rfl ?_
      refine g_getr hC fd_RX5_9 hk0.2.1 hk0.1 (C0 := "") (t0 := _) (Or.inr rfl) hk0.2.2.1.1 dX5_addRoot_20 ?_
      refine g_aload_n hC dX5_addRoot_23 rfl (q := 0) rfl ?_
      refine g_geti hC fd_RX5_21 hk0.2.1 hk0.1 (Or.inl rfl) dX5_addRoot_24 ?_
      refine g_iload_n hC dX5_addRoot_27 rfl (q := 1) rfl ?_
      obtain ⟨g28, h⟩ := oG_some h
      refine g_iast hC hk0.2.2.1.2.2 hk0.2.2.1.2.1 (inB_in g28) dX5_addRoot_28 (nm_e ?_)
      refine g_aload_n hC dX5_addRoot_29 rfl (q := 0) rfl ?_
      refine g_getr hC fd_RX5_53 hk0.2.1 hk0.1 (C0 := _) (t0 := .int) (Or.inl rfl) hk0.2.2.2.2.2.2.2.1 dX5_addRoot_30 ?_
      refine g_aload_n hC dX5_addRoot_33 rfl (q := 0) rfl ?_
      refine g_geti hC fd_RX5_21 hk0.2.1 hk0.1 (Or.inl rfl) dX5_addRoot_34 ?_
      refine g_iload_n hC dX5_addRoot_37 rfl (q := 2) rfl ?_
      refine g_iload_n hC dX5_addRoot_38 rfl (q := 3) rfl ?_
      refine g_iload hC dX5_addRoot_39 (q := 4) rfl ?_
      obtain ⟨r41, h41, h⟩ := oB_some h
      refine g_cV0 hC cv_X9_setRoot wd_1036 ⟨Nat.le_of_ble_eq_true rfl, Nat.le_of_ble_eq_true rfl⟩ hk0.2.2.2.2.2.2.2.2.2.1 hk0.2.2.2.2.2.2.2.2.1 dX5_addRoot_41 (As := [.int ((mU I (k0 + 1) ((I k0 3)).toNatClampNeg v1) k0 3), .int v2, .int v3, .int v4]) (st := []) (ok_X9_setRoot hC.2.2.2.2.2.2.2.1 hk0.2.2.2.2.2.2.2.2 h41) rfl rfl (Nat.le_of_ble_eq_true rfl) ⟨Nat.zero_le _, Nat.zero_le _⟩ ?_
      refine g_aload_n hC dX5_addRoot_44 rfl (q := 0) rfl ?_
      refine g_dup hC dX5_addRoot_45 rfl ?_
      refine g_geti hC fd_RX5_21 hk0.2.1 hk0.1 (Or.inl rfl) dX5_addRoot_46 ?_
      refine g_iconst hC dX5_addRoot_49 (v := (1 : Int32)) (by decide) ?_
      refine g_iadd hC dX5_addRoot_50 ?_
      refine g_puti hC fd_RX5_21 hk0.2.1 hk0.1 rfl dX5_addRoot_51 (nm_e ?_)
      cases h
      exact g_vret hC hE rfl dX5_addRoot_54 (Nat.zero_le _) (Nat.zero_le _) ⟨rfl, rfl, rfl, rfl, rfl, rfl⟩
noncomputable def f_X6_readRoot (Fu : Nat) (R : mRT) (I : mIT) (v1 : Int32) : Option (Int32 × mIT) :=
  oB (R 1 11) (fun p1 => if (I p1 3) < (10 : Int32) then (oB (f_X6_step Fu I) (fun r19 => oB (f_X6_checkNumber Fu r19 (1 : Int32) (60 : Int32)) (fun r26 => if r26.1 = 0 then (some ((0 : Int32), r26.2)) else (oB (f_X6_step Fu r26.2) (fun r40 => oB (f_X6_checkNumber Fu r40 (0 : Int32) (if ((r26.2 1 8) - (1 : Int32)) < (20 : Int32) then ((r26.2 1 8) - (1 : Int32)) else (20 : Int32))) (fun r53 => if r53.1 = 0 then (some ((0 : Int32), r53.2)) else (oB (f_X6_step Fu r53.2) (fun r67 => if (r67 1 4) = (2 : Int32) then (oB (f_X6_checkNumber Fu r67 (0 : Int32) (5 : Int32)) (fun r84 => if r84.1 = 0 then (some ((0 : Int32), r84.2)) else (oB (R 1 11) (fun p99 => oB (R 1 11) (fun p108 => oB (f_X9_rootOn Fu r84.2 (p99 + 16) (r84.2 1 8) (r84.2 p108 3)) (fun r114 => if r114 = (-1 : Int32) then (oB (f_X6_step Fu r84.2) (fun r128 => oB (R 1 11) (fun p132 => oB (f_X5_addRoot Fu r128 p132 v1 (r26.2 1 8) (r53.2 1 8) (r84.2 1 8)) (fun r140 => some ((1 : Int32), r140))))) else (oB (f_X6_refuse Fu r84.2 (4 : Int32)) (fun r123 => oG (isB r123.1) (some (r123.1, r123.2)))))))))) else (oB (R 1 11) (fun p132 => oB (f_X5_addRoot Fu r67 p132 v1 (r26.2 1 8) (r53.2 1 8) (-1 : Int32)) (fun r140 => some ((1 : Int32), r140)))))))))))) else (oB (f_X6_refuse Fu I (2 : Int32)) (fun r14 => oG (isB r14.1) (some (r14.1, r14.2)))))
set_option maxRecDepth 20000 in
theorem ok_X6_readRoot {l : Launch} {E : mEn} {Fu : Nat} {I : mIT} {R : mRT} {L : mLT} {v1 : Int32} (hst : l.stackTraces = false) (hW : mWd R)  {out : Int32 × mIT} (h : f_X6_readRoot Fu R I v1 = some out) : mOk l E mX6_readRoot [.ref (mB E + 1), .int v1] 106 1 I R L 0 0 (mSame (some (.int (out.1))) 106 1 (out.2) R L) := by
  refine mOk_of hst (by decide) (Nat.le_of_ble_eq_true rfl) (fun X hC hE _ => ?_)
  have hC : mC X E mX6_readRoot RX6 cX6_readRoot := hC
  show mG X E 0 [(0, .ref (mB E + 1)), (1, .int v1)] [] 106 1 I R L 0 0
  unfold f_X6_readRoot at h
  refine g_aload_n hC dX6_readRoot_0 rfl (q := 0) rfl ?_
  obtain ⟨p1, e1, h⟩ := oB_some h
  have hp1 : mO5 R p1 := ob5 hW.1 (hW.2.2.1 p1 e1)
  refine g_getr hC fd_RX6_49 rfl (by decide) (C0 := _) (t0 := .int) (Or.inl rfl) e1 dX6_readRoot_1 ?_
  refine g_geti hC fd_RX6_196 hp1.2.1 hp1.1 (Or.inl rfl) dX6_readRoot_4 ?_
  refine g_bipush hC dX6_readRoot_7 (v := (10 : Int32)) (by decide) ?_
  refine g_ic_lt hC dX6_readRoot_9 (tgt := 18) (by decide) (fun c9 => ?_) (fun c9 => ?_)
  · replace h := (if_pos c9).symm.trans h
    refine g_aload_n hC dX6_readRoot_18 rfl (q := 0) rfl ?_
    obtain ⟨r19, h19, h⟩ := oB_some h
    refine g_cV0 hC cv_X6_step wd_924 ⟨Nat.le_of_ble_eq_true rfl, Nat.le_of_ble_eq_true rfl⟩ rfl (by decide) dX6_readRoot_19 (As := []) (st := []) (ok_X6_step hC.2.2.2.2.2.2.2.1 hW h19) rfl rfl (Nat.le_of_ble_eq_true rfl) ⟨Nat.zero_le _, Nat.zero_le _⟩ ?_
    refine g_aload_n hC dX6_readRoot_22 rfl (q := 0) rfl ?_
    refine g_iconst hC dX6_readRoot_23 (v := (1 : Int32)) (by decide) ?_
    refine g_bipush hC dX6_readRoot_24 (v := (60 : Int32)) (by decide) ?_
    obtain ⟨r26, h26, h⟩ := oB_some h
    refine g_cV1 hC cv_X6_checkNumber wd_1026 ⟨Nat.le_of_ble_eq_true rfl, Nat.le_of_ble_eq_true rfl⟩ rfl (by decide) dX6_readRoot_26 (As := [.int (1 : Int32), .int (60 : Int32)]) (st := []) (ok_X6_checkNumber hC.2.2.2.2.2.2.2.1 hW h26) rfl rfl (Nat.le_of_ble_eq_true rfl) ⟨Nat.zero_le _, Nat.zero_le _⟩ ?_
    refine g_if_ne hC dX6_readRoot_29 (tgt := 34) (by decide) (fun c29 => ?_) (fun c29 => ?_)
    · replace h := (if_neg c29).symm.trans h
      refine g_aload_n hC dX6_readRoot_34 rfl (q := 0) rfl ?_
      refine g_geti hC fd_RX6_37 rfl (by decide) (Or.inl rfl) dX6_readRoot_35 ?_
      refine g_istore_n hC dX6_readRoot_38 rfl rfl (by decide) (lv' := [(2, .int (r26.2 1 8)), (0, .ref (mB E + 1)), (1, .int v1)]) rfl ?_
      refine g_aload_n hC dX6_readRoot_39 rfl (q := 1) rfl ?_
      obtain ⟨r40, h40, h⟩ := oB_some h
      refine g_cV0 hC cv_X6_step wd_924 ⟨Nat.le_of_ble_eq_true rfl, Nat.le_of_ble_eq_true rfl⟩ rfl (by decide) dX6_readRoot_40 (As := []) (st := []) (ok_X6_step hC.2.2.2.2.2.2.2.1 hW h40) rfl rfl (Nat.le_of_ble_eq_true rfl) ⟨Nat.zero_le _, Nat.zero_le _⟩ ?_
      refine g_aload_n hC dX6_readRoot_43 rfl (q := 1) rfl ?_
      refine g_iconst hC dX6_readRoot_44 (v := (0 : Int32)) (by decide) ?_
      refine g_bipush hC dX6_readRoot_45 (v := (20 : Int32)) (by decide) ?_
      refine g_iload_n hC dX6_readRoot_47 rfl (q := 0) rfl ?_
      refine g_iconst hC dX6_readRoot_48 (v := (1 : Int32)) (by decide) ?_
      refine g_isub hC dX6_readRoot_49 ?_
      refine g_mmin hC wd_1030 wd_st_min wd_in_math wd_cd_min (Nat.le_of_ble_eq_true rfl) (Nat.le_of_ble_eq_true rfl) ⟨Nat.zero_le _, Nat.zero_le _⟩ dX6_readRoot_50 ?_
      obtain ⟨r53, h53, h⟩ := oB_some h
      refine g_cV1 hC cv_X6_checkNumber wd_1026 ⟨Nat.le_of_ble_eq_true rfl, Nat.le_of_ble_eq_true rfl⟩ rfl (by decide) dX6_readRoot_53 (As := [.int (0 : Int32), .int (if ((r26.2 1 8) - (1 : Int32)) < (20 : Int32) then ((r26.2 1 8) - (1 : Int32)) else (20 : Int32))]) (st := []) (ok_X6_checkNumber hC.2.2.2.2.2.2.2.1 hW h53) rfl rfl (Nat.le_of_ble_eq_true rfl) ⟨Nat.zero_le _, Nat.zero_le _⟩ ?_
      refine g_if_ne hC dX6_readRoot_56 (tgt := 61) (by decide) (fun c56 => ?_) (fun c56 => ?_)
      · replace h := (if_neg c56).symm.trans h
        refine g_aload_n hC dX6_readRoot_61 rfl (q := 1) rfl ?_
        refine g_geti hC fd_RX6_37 rfl (by decide) (Or.inl rfl) dX6_readRoot_62 ?_
        refine g_istore_n hC dX6_readRoot_65 rfl rfl (by decide) (lv' := [(3, .int (r53.2 1 8)), (2, .int (r26.2 1 8)), (0, .ref (mB E + 1)), (1, .int v1)]) rfl ?_
        refine g_aload_n hC dX6_readRoot_66 rfl (q := 2) rfl ?_
        obtain ⟨r67, h67, h⟩ := oB_some h
        refine g_cV0 hC cv_X6_step wd_924 ⟨Nat.le_of_ble_eq_true rfl, Nat.le_of_ble_eq_true rfl⟩ rfl (by decide) dX6_readRoot_67 (As := []) (st := []) (ok_X6_step hC.2.2.2.2.2.2.2.1 hW h67) rfl rfl (Nat.le_of_ble_eq_true rfl) ⟨Nat.zero_le _, Nat.zero_le _⟩ ?_
        refine g_iconst hC dX6_readRoot_70 (v := (-1 : Int32)) (by decide) ?_
        refine g_istore hC dX6_readRoot_71 rfl (by decide) (lv' := [(4, .int (-1 : Int32)), (3, .int (r53.2 1 8)), (2, .int (r26.2 1 8)), (0, .ref (mB E + 1)), (1, .int v1)]) rfl ?_
        refine g_aload_n hC dX6_readRoot_73 rfl (q := 3) rfl ?_
        refine g_geti hC fd_RX6_25 rfl (by decide) (Or.inl rfl) dX6_readRoot_74 ?_
        refine g_iconst hC dX6_readRoot_77 (v := (2 : Int32)) (by decide) ?_
        refine g_ic_ne hC dX6_readRoot_78 (tgt := 131) (by decide) (fun c78 => ?_) (fun c78 => ?_)
        · replace h := (if_neg c78).symm.trans h
          refine g_aload_n hC dX6_readRoot_131 rfl (q := 3) rfl ?_
          obtain ⟨p132, e132, h⟩ := oB_some h
          have hp132 : mO5 R p132 := ob5 hW.1 (hW.2.2.1 p132 e132)
          refine g_getr hC fd_RX6_49 rfl (by decide) (C0 := _) (t0 := .int) (Or.inl rfl) e132 dX6_readRoot_132 ?_
          refine g_iload_n hC dX6_readRoot_135 rfl (q := 4) rfl ?_
          refine g_iload_n hC dX6_readRoot_136 rfl (q := 2) rfl ?_
          refine g_iload_n hC dX6_readRoot_137 rfl (q := 1) rfl ?_
          refine g_iload hC dX6_readRoot_138 (q := 0) rfl ?_
          obtain ⟨r140, h140, h⟩ := oB_some h
          refine g_cV0 hC cv_X5_addRoot wd_1032 ⟨Nat.le_of_ble_eq_true rfl, Nat.le_of_ble_eq_true rfl⟩ hp132.2.1 hp132.1 dX6_readRoot_140 (As := [.int v1, .int (r26.2 1 8), .int (r53.2 1 8), .int (-1 : Int32)]) (st := []) (ok_X5_addRoot hC.2.2.2.2.2.2.2.1 hp132 h140) rfl rfl (Nat.le_of_ble_eq_true rfl) ⟨Nat.zero_le _, Nat.zero_le _⟩ ?_
          refine g_iconst hC dX6_readRoot_143 (v := (1 : Int32)) (by decide) ?_
          cases h
          exact g_zret hC (by decide) hE rfl dX6_readRoot_144 (Nat.zero_le _) (Nat.zero_le _) ⟨rfl, rfl, rfl, rfl, rfl, rfl⟩
        · replace h := (if_pos c78).symm.trans h
          refine g_aload_n hC dX6_readRoot_81 rfl (q := 3) rfl ?_
          refine g_iconst hC dX6_readRoot_82 (v := (0 : Int32)) (by decide) ?_
          refine g_iconst hC dX6_readRoot_83 (v := (5 : Int32)) (by decide) ?_
          obtain ⟨r84, h84, h⟩ := oB_some h
          refine g_cV1 hC cv_X6_checkNumber wd_1026 ⟨Nat.le_of_ble_eq_true rfl, Nat.le_of_ble_eq_true rfl⟩ rfl (by decide) dX6_readRoot_84 (As := [.int (0 : Int32), .int (5 : Int32)]) (st := []) (ok_X6_checkNumber hC.2.2.2.2.2.2.2.1 hW h84) rfl rfl (Nat.le_of_ble_eq_true rfl) ⟨Nat.zero_le _, Nat.zero_le _⟩ ?_
          refine g_if_ne hC dX6_readRoot_87 (tgt := 92) (by decide) (fun c87 => ?_) (fun c87 => ?_)
          · replace h := (if_neg c87).symm.trans h
            refine g_aload_n hC dX6_readRoot_92 rfl (q := 3) rfl ?_
            refine g_geti hC fd_RX6_37 rfl (by decide) (Or.inl rfl) dX6_readRoot_93 ?_
            refine g_istore hC dX6_readRoot_96 rfl (by decide) (lv' := [(4, .int (r84.2 1 8)), (3, .int (r53.2 1 8)), (2, .int (r26.2 1 8)), (0, .ref (mB E + 1)), (1, .int v1)]) rfl ?_
            refine g_aload_n hC dX6_readRoot_98 rfl (q := 3) rfl ?_
            obtain ⟨p99, e99, h⟩ := oB_some h
            have hp99 : mO5 R p99 := ob5 hW.1 (hW.2.2.1 p99 e99)
            refine g_getr hC fd_RX6_49 rfl (by decide) (C0 := _) (t0 := .int) (Or.inl rfl) e99 dX6_readRoot_99 ?_
            refine g_getr hC fd_RX6_205 hp99.2.1 hp99.1 (C0 := _) (t0 := .int) (Or.inl rfl) hp99.2.2.2.2.2.2.2.1 dX6_readRoot_102 ?_
            refine g_iload hC dX6_readRoot_105 (q := 0) rfl ?_
            refine g_aload_n hC dX6_readRoot_107 rfl (q := 3) rfl ?_
            obtain ⟨p108, e108, h⟩ := oB_some h
            have hp108 : mO5 R p108 := ob5 hW.1 (hW.2.2.1 p108 e108)
            refine g_getr hC fd_RX6_49 rfl (by decide) (C0 := _) (t0 := .int) (Or.inl rfl) e108 dX6_readRoot_108 ?_
            refine g_geti hC fd_RX6_196 hp108.2.1 hp108.1 (Or.inl rfl) dX6_readRoot_111 ?_
            obtain ⟨r114, h114, h⟩ := oB_some h
            refine g_cV1 hC cv_X9_rootOn wd_1031 ⟨Nat.le_of_ble_eq_true rfl, Nat.le_of_ble_eq_true rfl⟩ hp99.2.2.2.2.2.2.2.2.2.1 hp99.2.2.2.2.2.2.2.2.1 dX6_readRoot_114 (As := [.int (r84.2 1 8), .int (r84.2 p108 3)]) (st := []) (ok_X9_rootOn hC.2.2.2.2.2.2.2.1 hp99.2.2.2.2.2.2.2.2 h114) rfl rfl (Nat.le_of_ble_eq_true rfl) ⟨Nat.zero_le _, Nat.zero_le _⟩ ?_
            refine g_iconst hC dX6_readRoot_117 (v := (-1 : Int32)) (by decide) ?_
            refine g_ic_eq hC dX6_readRoot_118 (tgt := 127) (by decide) (fun c118 => ?_) (fun c118 => ?_)
            · replace h := (if_pos c118).symm.trans h
              refine g_aload_n hC dX6_readRoot_127 rfl (q := 3) rfl ?_
              obtain ⟨r128, h128, h⟩ := oB_some h
              refine g_cV0 hC cv_X6_step wd_924 ⟨Nat.le_of_ble_eq_true rfl, Nat.le_of_ble_eq_true rfl⟩ rfl (by decide) dX6_readRoot_128 (As := []) (st := []) (ok_X6_step hC.2.2.2.2.2.2.2.1 hW h128) rfl rfl (Nat.le_of_ble_eq_true rfl) ⟨Nat.zero_le _, Nat.zero_le _⟩ ?_
              refine g_aload_n hC dX6_readRoot_131 rfl (q := 3) rfl ?_
              obtain ⟨p132, e132, h⟩ := oB_some h
              have hp132 : mO5 R p132 := ob5 hW.1 (hW.2.2.1 p132 e132)
              refine g_getr hC fd_RX6_49 rfl (by decide) (C0 := _) (t0 := .int) (Or.inl rfl) e132 dX6_readRoot_132 ?_
              refine g_iload_n hC dX6_readRoot_135 rfl (q := 4) rfl ?_
              refine g_iload_n hC dX6_readRoot_136 rfl (q := 2) rfl ?_
              refine g_iload_n hC dX6_readRoot_137 rfl (q := 1) rfl ?_
              refine g_iload hC dX6_readRoot_138 (q := 0) rfl ?_
              obtain ⟨r140, h140, h⟩ := oB_some h
              refine g_cV0 hC cv_X5_addRoot wd_1032 ⟨Nat.le_of_ble_eq_true rfl, Nat.le_of_ble_eq_true rfl⟩ hp132.2.1 hp132.1 dX6_readRoot_140 (As := [.int v1, .int (r26.2 1 8), .int (r53.2 1 8), .int (r84.2 1 8)]) (st := []) (ok_X5_addRoot hC.2.2.2.2.2.2.2.1 hp132 h140) rfl rfl (Nat.le_of_ble_eq_true rfl) ⟨Nat.zero_le _, Nat.zero_le _⟩ ?_
              refine g_iconst hC dX6_readRoot_143 (v := (1 : Int32)) (by decide) ?_
              cases h
              exact g_zret hC (by decide) hE rfl dX6_readRoot_144 (Nat.zero_le _) (Nat.zero_le _) ⟨rfl, rfl, rfl, rfl, rfl, rfl⟩
            · replace h := (if_neg c118).symm.trans h
              refine g_aload_n hC dX6_readRoot_121 rfl (q := 3) rfl ?_
              refine g_iconst hC dX6_readRoot_122 (v := (4 : Int32)) (by decide) ?_
              obtain ⟨r123, h123, h⟩ := oB_some h
              refine g_cV1 hC cv_X6_refuse wd_1018 ⟨Nat.le_of_ble_eq_true rfl, Nat.le_of_ble_eq_true rfl⟩ rfl (by decide) dX6_readRoot_123 (As := [.int (4 : Int32)]) (st := []) (ok_X6_refuse hC.2.2.2.2.2.2.2.1 hW h123) rfl rfl (Nat.le_of_ble_eq_true rfl) ⟨Nat.zero_le _, Nat.zero_le _⟩ ?_
              obtain ⟨g126, h⟩ := oG_some h
              cases h
              exact g_zret hC (isB_or g126) hE rfl dX6_readRoot_126 (Nat.zero_le _) (Nat.zero_le _) ⟨rfl, rfl, rfl, rfl, rfl, rfl⟩
          · replace h := (if_pos c87).symm.trans h
            refine g_iconst hC dX6_readRoot_90 (v := (0 : Int32)) (by decide) ?_
            cases h
            exact g_zret hC (by decide) hE rfl dX6_readRoot_91 (Nat.zero_le _) (Nat.zero_le _) ⟨rfl, rfl, rfl, rfl, rfl, rfl⟩
      · replace h := (if_pos c56).symm.trans h
        refine g_iconst hC dX6_readRoot_59 (v := (0 : Int32)) (by decide) ?_
        cases h
        exact g_zret hC (by decide) hE rfl dX6_readRoot_60 (Nat.zero_le _) (Nat.zero_le _) ⟨rfl, rfl, rfl, rfl, rfl, rfl⟩
    · replace h := (if_pos c29).symm.trans h
      refine g_iconst hC dX6_readRoot_32 (v := (0 : Int32)) (by decide) ?_
      cases h
      exact g_zret hC (by decide) hE rfl dX6_readRoot_33 (Nat.zero_le _) (Nat.zero_le _) ⟨rfl, rfl, rfl, rfl, rfl, rfl⟩
  · replace h := (if_neg c9).symm.trans h
    refine g_aload_n hC dX6_readRoot_12 rfl (q := 0) rfl ?_
    refine g_iconst hC dX6_readRoot_13 (v := (2 : Int32)) (by decide) ?_
    obtain ⟨r14, h14, h⟩ := oB_some h
    refine g_cV1 hC cv_X6_refuse wd_1018 ⟨Nat.le_of_ble_eq_true rfl, Nat.le_of_ble_eq_true rfl⟩ rfl (by decide) dX6_readRoot_14 (As := [.int (2 : Int32)]) (st := []) (ok_X6_refuse hC.2.2.2.2.2.2.2.1 hW h14) rfl rfl (Nat.le_of_ble_eq_true rfl) ⟨Nat.zero_le _, Nat.zero_le _⟩ ?_
    obtain ⟨g17, h⟩ := oG_some h
    cases h
    exact g_zret hC (isB_or g17) hE rfl dX6_readRoot_17 (Nat.zero_le _) (Nat.zero_le _) ⟨rfl, rfl, rfl, rfl, rfl, rfl⟩
noncomputable def f_X6_isAtSign (Fu : Nat) (I : mIT) (v1 : Int32) : Option (Int32) :=
  if (I 1 4) = (3 : Int32) then (if (I 1 6) = v1 then (some (1 : Int32)) else (some (0 : Int32))) else (some (0 : Int32))
set_option maxRecDepth 20000 in
theorem ok_X6_isAtSign {l : Launch} {E : mEn} {Fu : Nat} {I : mIT} {R : mRT} {L : mLT} {v1 : Int32} (hst : l.stackTraces = false) (hW : mWd R)  {out : Int32} (h : f_X6_isAtSign Fu I v1 = some out) : mOk l E mX6_isAtSign [.ref (mB E + 1), .int v1] 106 1 I R L 0 0 (mSame (some (.int (out))) 106 1 I R L) := by
  refine mOk_of hst (by decide) (Nat.le_of_ble_eq_true rfl) (fun X hC hE _ => ?_)
  have hC : mC X E mX6_isAtSign RX6 cX6_isAtSign := hC
  show mG X E 0 [(0, .ref (mB E + 1)), (1, .int v1)] [] 106 1 I R L 0 0
  unfold f_X6_isAtSign at h
  refine g_aload_n hC dX6_isAtSign_0 rfl (q := 0) rfl ?_
  refine g_geti hC fd_RX6_25 rfl (by decide) (Or.inl rfl) dX6_isAtSign_1 ?_
  refine g_iconst hC dX6_isAtSign_4 (v := (3 : Int32)) (by decide) ?_
  refine g_ic_ne hC dX6_isAtSign_5 (tgt := 20) (by decide) (fun c5 => ?_) (fun c5 => ?_)
  · replace h := (if_neg c5).symm.trans h
    refine g_iconst hC dX6_isAtSign_20 (v := (0 : Int32)) (by decide) ?_
    cases h
    exact g_zret hC (by decide) hE rfl dX6_isAtSign_21 (Nat.zero_le _) (Nat.zero_le _) ⟨rfl, rfl, rfl, rfl, rfl, rfl⟩
  · replace h := (if_pos c5).symm.trans h
    refine g_aload_n hC dX6_isAtSign_8 rfl (q := 0) rfl ?_
    refine g_geti hC fd_RX6_31 rfl (by decide) (Or.inl rfl) dX6_isAtSign_9 ?_
    refine g_iload_n hC dX6_isAtSign_12 rfl (q := 1) rfl ?_
    refine g_ic_ne hC dX6_isAtSign_13 (tgt := 20) (by decide) (fun c13 => ?_) (fun c13 => ?_)
    · replace h := (if_neg c13).symm.trans h
      refine g_iconst hC dX6_isAtSign_20 (v := (0 : Int32)) (by decide) ?_
      cases h
      exact g_zret hC (by decide) hE rfl dX6_isAtSign_21 (Nat.zero_le _) (Nat.zero_le _) ⟨rfl, rfl, rfl, rfl, rfl, rfl⟩
    · replace h := (if_pos c13).symm.trans h
      refine g_iconst hC dX6_isAtSign_16 (v := (1 : Int32)) (by decide) ?_
      refine g_goto hC dX6_isAtSign_17 (tgt := 21) (by decide) ?_
      cases h
      exact g_zret hC (by decide) hE rfl dX6_isAtSign_21 (Nat.zero_le _) (Nat.zero_le _) ⟨rfl, rfl, rfl, rfl, rfl, rfl⟩
noncomputable def f_X6_readLineEnd (Fu : Nat) (I : mIT)  : Option (Int32 × mIT) :=
  oB (f_X6_isAtSign Fu I (59 : Int32)) (fun r3 => if r3 = 0 then (oB (f_X6_refuse Fu I (1 : Int32)) (fun r11 => oG (isB r11.1) (some (r11.1, r11.2)))) else (oB (f_X6_step Fu I) (fun r16 => some ((1 : Int32), r16))))
set_option maxRecDepth 20000 in
theorem ok_X6_readLineEnd {l : Launch} {E : mEn} {Fu : Nat} {I : mIT} {R : mRT} {L : mLT}  (hst : l.stackTraces = false) (hW : mWd R)  {out : Int32 × mIT} (h : f_X6_readLineEnd Fu I  = some out) : mOk l E mX6_readLineEnd [.ref (mB E + 1)] 106 1 I R L 0 0 (mSame (some (.int (out.1))) 106 1 (out.2) R L) := by
  refine mOk_of hst (by decide) (Nat.le_of_ble_eq_true rfl) (fun X hC hE _ => ?_)
  have hC : mC X E mX6_readLineEnd RX6 cX6_readLineEnd := hC
  show mG X E 0 [(0, .ref (mB E + 1))] [] 106 1 I R L 0 0
  unfold f_X6_readLineEnd at h
  refine g_aload_n hC dX6_readLineEnd_0 rfl (q := 0) rfl ?_
  refine g_bipush hC dX6_readLineEnd_1 (v := (59 : Int32)) (by decide) ?_
  obtain ⟨r3, h3, h⟩ := oB_some h
  refine g_cV1 hC cv_X6_isAtSign wd_1044 ⟨Nat.le_of_ble_eq_true rfl, Nat.le_of_ble_eq_true rfl⟩ rfl (by decide) dX6_readLineEnd_3 (As := [.int (59 : Int32)]) (st := []) (ok_X6_isAtSign hC.2.2.2.2.2.2.2.1 hW h3) rfl rfl (Nat.le_of_ble_eq_true rfl) ⟨Nat.zero_le _, Nat.zero_le _⟩ ?_
  refine g_if_ne hC dX6_readLineEnd_6 (tgt := 15) (by decide) (fun c6 => ?_) (fun c6 => ?_)
  · replace h := (if_neg c6).symm.trans h
    refine g_aload_n hC dX6_readLineEnd_15 rfl (q := 0) rfl ?_
    obtain ⟨r16, h16, h⟩ := oB_some h
    refine g_cV0 hC cv_X6_step wd_924 ⟨Nat.le_of_ble_eq_true rfl, Nat.le_of_ble_eq_true rfl⟩ rfl (by decide) dX6_readLineEnd_16 (As := []) (st := []) (ok_X6_step hC.2.2.2.2.2.2.2.1 hW h16) rfl rfl (Nat.le_of_ble_eq_true rfl) ⟨Nat.zero_le _, Nat.zero_le _⟩ ?_
    refine g_iconst hC dX6_readLineEnd_19 (v := (1 : Int32)) (by decide) ?_
    cases h
    exact g_zret hC (by decide) hE rfl dX6_readLineEnd_20 (Nat.zero_le _) (Nat.zero_le _) ⟨rfl, rfl, rfl, rfl, rfl, rfl⟩
  · replace h := (if_pos c6).symm.trans h
    refine g_aload_n hC dX6_readLineEnd_9 rfl (q := 0) rfl ?_
    refine g_iconst hC dX6_readLineEnd_10 (v := (1 : Int32)) (by decide) ?_
    obtain ⟨r11, h11, h⟩ := oB_some h
    refine g_cV1 hC cv_X6_refuse wd_1018 ⟨Nat.le_of_ble_eq_true rfl, Nat.le_of_ble_eq_true rfl⟩ rfl (by decide) dX6_readLineEnd_11 (As := [.int (1 : Int32)]) (st := []) (ok_X6_refuse hC.2.2.2.2.2.2.2.1 hW h11) rfl rfl (Nat.le_of_ble_eq_true rfl) ⟨Nat.zero_le _, Nat.zero_le _⟩ ?_
    obtain ⟨g14, h⟩ := oG_some h
    cases h
    exact g_zret hC (isB_or g14) hE rfl dX6_readLineEnd_14 (Nat.zero_le _) (Nat.zero_le _) ⟨rfl, rfl, rfl, rfl, rfl, rfl⟩
noncomputable def f_X5_addWeather (Fu : Nat) (I : mIT) (k0 : Nat) (v1 : Int32) : Option (mIT) :=
  if (I k0 4) < 0 then (some (I)) else (if (nI 10) ≤ (I k0 4) then (some (I)) else (oG (inB (I k0 4) 10) (some (mU (mU I (k0 + 2) ((I k0 4)).toNatClampNeg v1) k0 4 (((mU I (k0 + 2) ((I k0 4)).toNatClampNeg v1) k0 4) + (1 : Int32))))))
set_option maxRecDepth 20000 in
theorem ok_X5_addWeather {l : Launch} {E : mEn} {Fu : Nat} {I : mIT} {R : mRT} {L : mLT} {k0 : Nat} {v1 : Int32} (hst : l.stackTraces = false) (hk0 : mO5 R k0) {out : mIT} (h : f_X5_addWeather Fu I k0 v1 = some out) : mOk l E mX5_addWeather [.ref (mB E + k0), .int v1] 106 1 I R L 0 0 (mSame none 106 1 (out) R L) := by
  refine mOk_of hst (by decide) (Nat.le_of_ble_eq_true rfl) (fun X hC hE _ => ?_)
  have hC : mC X E mX5_addWeather RX5 cX5_addWeather := hC
  show mG X E 0 [(0, .ref (mB E + k0)), (1, .int v1)] [] 106 1 I R L 0 0
  unfold f_X5_addWeather at h
  refine g_aload_n hC dX5_addWeather_0 rfl (q := 0) rfl ?_
  refine g_geti hC fd_RX5_25 hk0.2.1 hk0.1 (Or.inl rfl) dX5_addWeather_1 ?_
  refine g_if_lt hC dX5_addWeather_4 (tgt := 39) (by decide) (fun c4 => ?_) (fun c4 => ?_)
  · replace h := (if_pos c4).symm.trans h
    cases h
    exact g_vret hC hE rfl dX5_addWeather_39 (Nat.zero_le _) (Nat.zero_le _) ⟨rfl, rfl, rfl, rfl, rfl, rfl⟩
  · replace h := (if_neg c4).symm.trans h
    refine g_aload_n hC dX5_addWeather_7 rfl (q := 0) rfl ?_
    refine g_geti hC fd_RX5_25 hk0.2.1 hk0.1 (Or.inl rfl) dX5_addWeather_8 ?_
    refine g_aload_n hC dX5_addWeather_11 rfl (q := 0) rfl ?_
    refine g_getr hC fd_RX5_15 hk0.2.1 hk0.1 (C0 := "") (t0 := _) (Or.inr rfl) hk0.2.2.2.1.1 dX5_addWeather_12 ?_
    refine g_alenI hC hk0.2.2.2.1.2.2 hk0.2.2.2.1.2.1 dX5_addWeather_15 ?_
    refine g_ic_ge hC dX5_addWeather_16 (tgt := 39) (by decide) (fun c16 => ?_) (fun c16 => ?_)
    · replace h := (if_pos c16).symm.trans h
      cases h
      exact g_vret hC hE rfl dX5_addWeather_39 (Nat.zero_le _) (Nat.zero_le _) ⟨rfl, rfl, rfl, rfl, rfl, rfl⟩
    · replace h := (if_neg c16).symm.trans h
      refine g_aload_n hC dX5_addWeather_19 rfl (q := 0) rfl ?_
      refine g_getr hC fd_RX5_15 hk0.2.1 hk0.1 (C0 := "") (t0 := _) (Or.inr rfl) hk0.2.2.2.1.1 dX5_addWeather_20 ?_
      refine g_aload_n hC dX5_addWeather_23 rfl (q := 0) rfl ?_
      refine g_geti hC fd_RX5_25 hk0.2.1 hk0.1 (Or.inl rfl) dX5_addWeather_24 ?_
      refine g_iload_n hC dX5_addWeather_27 rfl (q := 1) rfl ?_
      obtain ⟨g28, h⟩ := oG_some h
      refine g_iast hC hk0.2.2.2.1.2.2 hk0.2.2.2.1.2.1 (inB_in g28) dX5_addWeather_28 (nm_e ?_)
      refine g_aload_n hC dX5_addWeather_29 rfl (q := 0) rfl ?_
      refine g_dup hC dX5_addWeather_30 rfl ?_
      refine g_geti hC fd_RX5_25 hk0.2.1 hk0.1 (Or.inl rfl) dX5_addWeather_31 ?_
      refine g_iconst hC dX5_addWeather_34 (v := (1 : Int32)) (by decide) ?_
      refine g_iadd hC dX5_addWeather_35 ?_
      refine g_puti hC fd_RX5_25 hk0.2.1 hk0.1 rfl dX5_addWeather_36 (nm_e ?_)
      cases h
      exact g_vret hC hE rfl dX5_addWeather_39 (Nat.zero_le _) (Nat.zero_le _) ⟨rfl, rfl, rfl, rfl, rfl, rfl⟩
noncomputable def f_X5_addTuneNote (Fu : Nat) (I : mIT) (k0 : Nat) (v1 : Int32) : Option (mIT) :=
  if (I k0 6) < 0 then (some (I)) else (if (nI 8) ≤ (I k0 6) then (some (I)) else (oG (inB (I k0 6) 8) (some (mU (mU (mU I (k0 + 3) ((I k0 6)).toNatClampNeg v1) k0 7 (((mU I (k0 + 3) ((I k0 6)).toNatClampNeg v1) k0 7) ||| ((1 : Int32) <<< (v1 &&& 31)))) k0 6 (((mU (mU I (k0 + 3) ((I k0 6)).toNatClampNeg v1) k0 7 (((mU I (k0 + 3) ((I k0 6)).toNatClampNeg v1) k0 7) ||| ((1 : Int32) <<< (v1 &&& 31)))) k0 6) + (1 : Int32))))))
set_option maxRecDepth 20000 in
theorem ok_X5_addTuneNote {l : Launch} {E : mEn} {Fu : Nat} {I : mIT} {R : mRT} {L : mLT} {k0 : Nat} {v1 : Int32} (hst : l.stackTraces = false) (hk0 : mO5 R k0) {out : mIT} (h : f_X5_addTuneNote Fu I k0 v1 = some out) : mOk l E mX5_addTuneNote [.ref (mB E + k0), .int v1] 106 1 I R L 0 0 (mSame none 106 1 (out) R L) := by
  refine mOk_of hst (by decide) (Nat.le_of_ble_eq_true rfl) (fun X hC hE _ => ?_)
  have hC : mC X E mX5_addTuneNote RX5 cX5_addTuneNote := hC
  show mG X E 0 [(0, .ref (mB E + k0)), (1, .int v1)] [] 106 1 I R L 0 0
  unfold f_X5_addTuneNote at h
  refine g_aload_n hC dX5_addTuneNote_0 rfl (q := 0) rfl ?_
  refine g_geti hC fd_RX5_31 hk0.2.1 hk0.1 (Or.inl rfl) dX5_addTuneNote_1 ?_
  refine g_if_lt hC dX5_addTuneNote_4 (tgt := 51) (by decide) (fun c4 => ?_) (fun c4 => ?_)
  · replace h := (if_pos c4).symm.trans h
    cases h
    exact g_vret hC hE rfl dX5_addTuneNote_51 (Nat.zero_le _) (Nat.zero_le _) ⟨rfl, rfl, rfl, rfl, rfl, rfl⟩
  · replace h := (if_neg c4).symm.trans h
    refine g_aload_n hC dX5_addTuneNote_7 rfl (q := 0) rfl ?_
    refine g_geti hC fd_RX5_31 hk0.2.1 hk0.1 (Or.inl rfl) dX5_addTuneNote_8 ?_
    refine g_aload_n hC dX5_addTuneNote_11 rfl (q := 0) rfl ?_
    refine g_getr hC fd_RX5_18 hk0.2.1 hk0.1 (C0 := "") (t0 := _) (Or.inr rfl) hk0.2.2.2.2.1.1 dX5_addTuneNote_12 ?_
    refine g_alenI hC hk0.2.2.2.2.1.2.2 hk0.2.2.2.2.1.2.1 dX5_addTuneNote_15 ?_
    refine g_ic_ge hC dX5_addTuneNote_16 (tgt := 51) (by decide) (fun c16 => ?_) (fun c16 => ?_)
    · replace h := (if_pos c16).symm.trans h
      cases h
      exact g_vret hC hE rfl dX5_addTuneNote_51 (Nat.zero_le _) (Nat.zero_le _) ⟨rfl, rfl, rfl, rfl, rfl, rfl⟩
    · replace h := (if_neg c16).symm.trans h
      refine g_aload_n hC dX5_addTuneNote_19 rfl (q := 0) rfl ?_
      refine g_getr hC fd_RX5_18 hk0.2.1 hk0.1 (C0 := "") (t0 := _) (Or.inr rfl) hk0.2.2.2.2.1.1 dX5_addTuneNote_20 ?_
      refine g_aload_n hC dX5_addTuneNote_23 rfl (q := 0) rfl ?_
      refine g_geti hC fd_RX5_31 hk0.2.1 hk0.1 (Or.inl rfl) dX5_addTuneNote_24 ?_
      refine g_iload_n hC dX5_addTuneNote_27 rfl (q := 1) rfl ?_
      obtain ⟨g28, h⟩ := oG_some h
      refine g_iast hC hk0.2.2.2.2.1.2.2 hk0.2.2.2.2.1.2.1 (inB_in g28) dX5_addTuneNote_28 (nm_e ?_)
      refine g_aload_n hC dX5_addTuneNote_29 rfl (q := 0) rfl ?_
      refine g_dup hC dX5_addTuneNote_30 rfl ?_
      refine g_geti hC fd_RX5_34 hk0.2.1 hk0.1 (Or.inl rfl) dX5_addTuneNote_31 ?_
      refine g_iconst hC dX5_addTuneNote_34 (v := (1 : Int32)) (by decide) ?_
      refine g_iload_n hC dX5_addTuneNote_35 rfl (q := 1) rfl ?_
      refine g_ishl hC dX5_addTuneNote_36 ?_
      refine g_ior hC dX5_addTuneNote_37 ?_
      refine g_puti hC fd_RX5_34 hk0.2.1 hk0.1 rfl dX5_addTuneNote_38 (nm_e ?_)
      refine g_aload_n hC dX5_addTuneNote_41 rfl (q := 0) rfl ?_
      refine g_dup hC dX5_addTuneNote_42 rfl ?_
      refine g_geti hC fd_RX5_31 hk0.2.1 hk0.1 (Or.inl rfl) dX5_addTuneNote_43 ?_
      refine g_iconst hC dX5_addTuneNote_46 (v := (1 : Int32)) (by decide) ?_
      refine g_iadd hC dX5_addTuneNote_47 ?_
      refine g_puti hC fd_RX5_31 hk0.2.1 hk0.1 rfl dX5_addTuneNote_48 (nm_e ?_)
      cases h
      exact g_vret hC hE rfl dX5_addTuneNote_51 (Nat.zero_le _) (Nat.zero_le _) ⟨rfl, rfl, rfl, rfl, rfl, rfl⟩
noncomputable def f_X5_addChange (Fu : Nat) (I : mIT) (k0 : Nat) (v1 : Int32) : Option (mIT) :=
  if (12 : Int32) ≤ (I k0 8) then (some (I)) else (oB (f_X9_setChange Fu I (k0 + 16) (I k0 8) v1) (fun r18 => some (mU r18 k0 8 ((r18 k0 8) + (1 : Int32)))))
set_option maxRecDepth 20000 in
theorem ok_X5_addChange {l : Launch} {E : mEn} {Fu : Nat} {I : mIT} {R : mRT} {L : mLT} {k0 : Nat} {v1 : Int32} (hst : l.stackTraces = false) (hk0 : mO5 R k0) {out : mIT} (h : f_X5_addChange Fu I k0 v1 = some out) : mOk l E mX5_addChange [.ref (mB E + k0), .int v1] 106 1 I R L 0 0 (mSame none 106 1 (out) R L) := by
  refine mOk_of hst (by decide) (Nat.le_of_ble_eq_true rfl) (fun X hC hE _ => ?_)
  have hC : mC X E mX5_addChange RX5 cX5_addChange := hC
  show mG X E 0 [(0, .ref (mB E + k0)), (1, .int v1)] [] 106 1 I R L 0 0
  unfold f_X5_addChange at h
  refine g_aload_n hC dX5_addChange_0 rfl (q := 0) rfl ?_
  refine g_geti hC fd_RX5_37 hk0.2.1 hk0.1 (Or.inl rfl) dX5_addChange_1 ?_
  refine g_bipush hC dX5_addChange_4 (v := (12 : Int32)) (by decide) ?_
  refine g_ic_ge hC dX5_addChange_6 (tgt := 31) (by decide) (fun c6 => ?_) (fun c6 => ?_)
  · replace h := (if_pos c6).symm.trans h
    cases h
    exact g_vret hC hE rfl dX5_addChange_31 (Nat.zero_le _) (Nat.zero_le _) ⟨rfl, rfl, rfl, rfl, rfl, rfl⟩
  · replace h := (if_neg c6).symm.trans h
    refine g_aload_n hC dX5_addChange_9 rfl (q := 0) rfl ?_
    refine g_getr hC fd_RX5_53 hk0.2.1 hk0.1 (C0 := _) (t0 := .int) (Or.inl rfl) hk0.2.2.2.2.2.2.2.1 dX5_addChange_10 ?_
    refine g_aload_n hC dX5_addChange_13 rfl (q := 0) rfl ?_
    refine g_geti hC fd_RX5_37 hk0.2.1 hk0.1 (Or.inl rfl) dX5_addChange_14 ?_
    refine g_iload_n hC dX5_addChange_17 rfl (q := 1) rfl ?_
    obtain ⟨r18, h18, h⟩ := oB_some h
    refine g_cV0 hC cv_X9_setChange wd_1065 ⟨Nat.le_of_ble_eq_true rfl, Nat.le_of_ble_eq_true rfl⟩ hk0.2.2.2.2.2.2.2.2.2.1 hk0.2.2.2.2.2.2.2.2.1 dX5_addChange_18 (As := [.int (I k0 8), .int v1]) (st := []) (ok_X9_setChange hC.2.2.2.2.2.2.2.1 hk0.2.2.2.2.2.2.2.2 h18) rfl rfl (Nat.le_of_ble_eq_true rfl) ⟨Nat.zero_le _, Nat.zero_le _⟩ ?_
    refine g_aload_n hC dX5_addChange_21 rfl (q := 0) rfl ?_
    refine g_dup hC dX5_addChange_22 rfl ?_
    refine g_geti hC fd_RX5_37 hk0.2.1 hk0.1 (Or.inl rfl) dX5_addChange_23 ?_
    refine g_iconst hC dX5_addChange_26 (v := (1 : Int32)) (by decide) ?_
    refine g_iadd hC dX5_addChange_27 ?_
    refine g_puti hC fd_RX5_37 hk0.2.1 hk0.1 rfl dX5_addChange_28 (nm_e ?_)
    cases h
    exact g_vret hC hE rfl dX5_addChange_31 (Nat.zero_le _) (Nat.zero_le _) ⟨rfl, rfl, rfl, rfl, rfl, rfl⟩
noncomputable def b_X6_readRow_76 (Fu : Nat) (R : mRT) (k17_ : Int32 × Int32 × Int32 × Int32 × mIT → Option (Int32 × mIT)) (v1 : Int32) (v2 : Int32) (v3 : Int32) (v4 : Int32) (I : mIT) : Option (Int32 × mIT) :=
  if v1 = (4 : Int32) then (oB (R 1 11) (fun p82 => oB (f_X5_addWeather Fu I p82 (I 1 8)) (fun r89 => oB (f_X6_step Fu r89) (fun r127 => k17_ (v1, v2, v3, (v4 + (1 : Int32)), r127))))) else (if v1 = (6 : Int32) then (oB (R 1 11) (fun p102 => oB (f_X5_addTuneNote Fu I p102 (I 1 8)) (fun r109 => oB (f_X6_step Fu r109) (fun r127 => k17_ (v1, v2, v3, (v4 + (1 : Int32)), r127))))) else (oB (R 1 11) (fun p116 => oB (f_X5_addChange Fu I p116 (I 1 8)) (fun r123 => oB (f_X6_step Fu r123) (fun r127 => k17_ (v1, v2, v3, (v4 + (1 : Int32)), r127))))))
set_option maxRecDepth 20000 in
theorem bo_X6_readRow_76 {X : mXT} {E : mEn} {Fu : Nat} {R : mRT} {L : mLT}  (hC : mC X E mX6_readRow RX6 cX6_readRow) (hW : mWd R)   {out : Int32 × mIT} (hE : mEd X E 0 0 (mSame (some (.int (out.1))) 106 1 (out.2) R L)) (k17_ : Int32 × Int32 × Int32 × Int32 × mIT → Option (Int32 × mIT)) (hk17_ : ∀ (v1 : Int32) (v2 : Int32) (v3 : Int32) (v4 : Int32) (I : mIT),  k17_ (v1, v2, v3, v4, I) = some out → mG X E 17 [(0, .ref (mB E + 1)), (1, .int v1), (2, .int v2), (3, .int v3), (4, .int v4)] [] 106 1 I R L 0 0) (v1 : Int32) (v2 : Int32) (v3 : Int32) (v4 : Int32) (I : mIT) (h : b_X6_readRow_76 Fu R k17_ v1 v2 v3 v4 I = some out) : mG X E 76 [(0, .ref (mB E + 1)), (1, .int v1), (2, .int v2), (3, .int v3), (4, .int v4)] [] 106 1 I R L 0 0 := by
  unfold b_X6_readRow_76 at h
  refine g_iload_n hC dX6_readRow_76 rfl (q := 1) rfl ?_
  refine g_iconst hC dX6_readRow_77 (v := (4 : Int32)) (by decide) ?_
  refine g_ic_ne hC dX6_readRow_78 (tgt := 95) (by decide) (fun c78 => ?_) (fun c78 => ?_)
  · replace h := (if_neg c78).symm.trans h
    refine g_iload_n hC dX6_readRow_95 rfl (q := 1) rfl ?_
    refine g_bipush hC dX6_readRow_96 (v := (6 : Int32)) (by decide) ?_
    refine g_ic_ne hC dX6_readRow_98 (tgt := 115) (by decide) (fun c98 => ?_) (fun c98 => ?_)
    · replace h := (if_neg c98).symm.trans h
      refine g_aload_n hC dX6_readRow_115 rfl (q := 0) rfl ?_
      obtain ⟨p116, e116, h⟩ := oB_some h
      have hp116 : mO5 R p116 := ob5 hW.1 (hW.2.2.1 p116 e116)
      refine g_getr hC fd_RX6_49 rfl (by decide) (C0 := _) (t0 := .int) (Or.inl rfl) e116 dX6_readRow_116 ?_
      refine g_aload_n hC dX6_readRow_119 rfl (q := 0) rfl ?_
      refine g_geti hC fd_RX6_37 rfl (by decide) (Or.inl rfl) dX6_readRow_120 ?_
      obtain ⟨r123, h123, h⟩ := oB_some h
      refine g_cV0 hC cv_X5_addChange wd_1061 ⟨Nat.le_of_ble_eq_true rfl, Nat.le_of_ble_eq_true rfl⟩ hp116.2.1 hp116.1 dX6_readRow_123 (As := [.int (I 1 8)]) (st := []) (ok_X5_addChange hC.2.2.2.2.2.2.2.1 hp116 h123) rfl rfl (Nat.le_of_ble_eq_true rfl) ⟨Nat.zero_le _, Nat.zero_le _⟩ ?_
      refine g_aload_n hC dX6_readRow_126 rfl (q := 0) rfl ?_
      obtain ⟨r127, h127, h⟩ := oB_some h
      refine g_cV0 hC cv_X6_step wd_924 ⟨Nat.le_of_ble_eq_true rfl, Nat.le_of_ble_eq_true rfl⟩ rfl (by decide) dX6_readRow_127 (As := []) (st := []) (ok_X6_step hC.2.2.2.2.2.2.2.1 hW h127) rfl rfl (Nat.le_of_ble_eq_true rfl) ⟨Nat.zero_le _, Nat.zero_le _⟩ ?_
      refine g_iinc hC dX6_readRow_130 rfl (q := 4) rfl (w := (v4 + (1 : Int32))) rfl (by decide) (lv' := [(4, .int (v4 + (1 : Int32))), (0, .ref (mB E + 1)), (1, .int v1), (2, .int v2), (3, .int v3)]) rfl ?_
      refine g_goto hC dX6_readRow_133 (tgt := 17) (by decide) ?_
      refine g_lv [1, 2, 3, 4, 0] rfl ?_
      exact hk17_ v1 v2 v3 (v4 + (1 : Int32)) r127 h
    · replace h := (if_pos c98).symm.trans h
      refine g_aload_n hC dX6_readRow_101 rfl (q := 0) rfl ?_
      obtain ⟨p102, e102, h⟩ := oB_some h
      have hp102 : mO5 R p102 := ob5 hW.1 (hW.2.2.1 p102 e102)
      refine g_getr hC fd_RX6_49 rfl (by decide) (C0 := _) (t0 := .int) (Or.inl rfl) e102 dX6_readRow_102 ?_
      refine g_aload_n hC dX6_readRow_105 rfl (q := 0) rfl ?_
      refine g_geti hC fd_RX6_37 rfl (by decide) (Or.inl rfl) dX6_readRow_106 ?_
      obtain ⟨r109, h109, h⟩ := oB_some h
      refine g_cV0 hC cv_X5_addTuneNote wd_1057 ⟨Nat.le_of_ble_eq_true rfl, Nat.le_of_ble_eq_true rfl⟩ hp102.2.1 hp102.1 dX6_readRow_109 (As := [.int (I 1 8)]) (st := []) (ok_X5_addTuneNote hC.2.2.2.2.2.2.2.1 hp102 h109) rfl rfl (Nat.le_of_ble_eq_true rfl) ⟨Nat.zero_le _, Nat.zero_le _⟩ ?_
      refine g_goto hC dX6_readRow_112 (tgt := 126) (by decide) ?_
      refine g_aload_n hC dX6_readRow_126 rfl (q := 0) rfl ?_
      obtain ⟨r127, h127, h⟩ := oB_some h
      refine g_cV0 hC cv_X6_step wd_924 ⟨Nat.le_of_ble_eq_true rfl, Nat.le_of_ble_eq_true rfl⟩ rfl (by decide) dX6_readRow_127 (As := []) (st := []) (ok_X6_step hC.2.2.2.2.2.2.2.1 hW h127) rfl rfl (Nat.le_of_ble_eq_true rfl) ⟨Nat.zero_le _, Nat.zero_le _⟩ ?_
      refine g_iinc hC dX6_readRow_130 rfl (q := 4) rfl (w := (v4 + (1 : Int32))) rfl (by decide) (lv' := [(4, .int (v4 + (1 : Int32))), (0, .ref (mB E + 1)), (1, .int v1), (2, .int v2), (3, .int v3)]) rfl ?_
      refine g_goto hC dX6_readRow_133 (tgt := 17) (by decide) ?_
      refine g_lv [1, 2, 3, 4, 0] rfl ?_
      exact hk17_ v1 v2 v3 (v4 + (1 : Int32)) r127 h
  · replace h := (if_pos c78).symm.trans h
    refine g_aload_n hC dX6_readRow_81 rfl (q := 0) rfl ?_
    obtain ⟨p82, e82, h⟩ := oB_some h
    have hp82 : mO5 R p82 := ob5 hW.1 (hW.2.2.1 p82 e82)
    refine g_getr hC fd_RX6_49 rfl (by decide) (C0 := _) (t0 := .int) (Or.inl rfl) e82 dX6_readRow_82 ?_
    refine g_aload_n hC dX6_readRow_85 rfl (q := 0) rfl ?_
    refine g_geti hC fd_RX6_37 rfl (by decide) (Or.inl rfl) dX6_readRow_86 ?_
    obtain ⟨r89, h89, h⟩ := oB_some h
    refine g_cV0 hC cv_X5_addWeather wd_1053 ⟨Nat.le_of_ble_eq_true rfl, Nat.le_of_ble_eq_true rfl⟩ hp82.2.1 hp82.1 dX6_readRow_89 (As := [.int (I 1 8)]) (st := []) (ok_X5_addWeather hC.2.2.2.2.2.2.2.1 hp82 h89) rfl rfl (Nat.le_of_ble_eq_true rfl) ⟨Nat.zero_le _, Nat.zero_le _⟩ ?_
    refine g_goto hC dX6_readRow_92 (tgt := 126) (by decide) ?_
    refine g_aload_n hC dX6_readRow_126 rfl (q := 0) rfl ?_
    obtain ⟨r127, h127, h⟩ := oB_some h
    refine g_cV0 hC cv_X6_step wd_924 ⟨Nat.le_of_ble_eq_true rfl, Nat.le_of_ble_eq_true rfl⟩ rfl (by decide) dX6_readRow_127 (As := []) (st := []) (ok_X6_step hC.2.2.2.2.2.2.2.1 hW h127) rfl rfl (Nat.le_of_ble_eq_true rfl) ⟨Nat.zero_le _, Nat.zero_le _⟩ ?_
    refine g_iinc hC dX6_readRow_130 rfl (q := 4) rfl (w := (v4 + (1 : Int32))) rfl (by decide) (lv' := [(4, .int (v4 + (1 : Int32))), (0, .ref (mB E + 1)), (1, .int v1), (2, .int v2), (3, .int v3)]) rfl ?_
    refine g_goto hC dX6_readRow_133 (tgt := 17) (by decide) ?_
    refine g_lv [1, 2, 3, 4, 0] rfl ?_
    exact hk17_ v1 v2 v3 (v4 + (1 : Int32)) r127 h
noncomputable def b_X6_readRow_17 (Fu : Nat) (R : mRT) (k17_ : Int32 × Int32 × Int32 × Int32 × mIT → Option (Int32 × mIT)) (v1 : Int32) (v2 : Int32) (v3 : Int32) (v4 : Int32) (I : mIT) : Option (Int32 × mIT) :=
  if v2 < v4 then (some ((1 : Int32), I)) else (if (I 1 4) = (2 : Int32) then (if v4 = v2 then (oB (f_X6_refuse Fu I (2 : Int32)) (fun r39 => oG (isB r39.1) (some (r39.1, r39.2)))) else (oB (f_X6_checkNumber Fu I (0 : Int32) v3) (fun r46 => if r46.1 = 0 then (some ((0 : Int32), r46.2)) else (if v1 = (7 : Int32) then (oB (f_X11_isChangeNumber Fu (r46.2 1 8)) (fun r64 => if r64 = 0 then (oB (f_X6_refuse Fu r46.2 (2 : Int32)) (fun r72 => oG (isB r72.1) (some (r72.1, r72.2)))) else (b_X6_readRow_76 Fu R k17_ v1 v2 v3 v4 r46.2))) else (b_X6_readRow_76 Fu R k17_ v1 v2 v3 v4 r46.2))))) else (some ((1 : Int32), I)))
set_option maxRecDepth 20000 in
theorem bo_X6_readRow_17 {X : mXT} {E : mEn} {Fu : Nat} {R : mRT} {L : mLT}  (hC : mC X E mX6_readRow RX6 cX6_readRow) (hW : mWd R)   {out : Int32 × mIT} (hE : mEd X E 0 0 (mSame (some (.int (out.1))) 106 1 (out.2) R L)) (k17_ : Int32 × Int32 × Int32 × Int32 × mIT → Option (Int32 × mIT)) (hk17_ : ∀ (v1 : Int32) (v2 : Int32) (v3 : Int32) (v4 : Int32) (I : mIT),  k17_ (v1, v2, v3, v4, I) = some out → mG X E 17 [(0, .ref (mB E + 1)), (1, .int v1), (2, .int v2), (3, .int v3), (4, .int v4)] [] 106 1 I R L 0 0) (v1 : Int32) (v2 : Int32) (v3 : Int32) (v4 : Int32) (I : mIT) (h : b_X6_readRow_17 Fu R k17_ v1 v2 v3 v4 I = some out) : mG X E 17 [(0, .ref (mB E + 1)), (1, .int v1), (2, .int v2), (3, .int v3), (4, .int v4)] [] 106 1 I R L 0 0 := by
  unfold b_X6_readRow_17 at h
  refine g_iload hC dX6_readRow_17 (q := 4) rfl ?_
  refine g_iload_n hC dX6_readRow_19 rfl (q := 2) rfl ?_
  refine g_ic_gt hC dX6_readRow_20 (tgt := 136) (by decide) (fun c20 => ?_) (fun c20 => ?_)
  · replace h := (if_pos c20).symm.trans h
    refine g_iconst hC dX6_readRow_136 (v := (1 : Int32)) (by decide) ?_
    cases h
    exact g_zret hC (by decide) hE rfl dX6_readRow_137 (Nat.zero_le _) (Nat.zero_le _) ⟨rfl, rfl, rfl, rfl, rfl, rfl⟩
  · replace h := (if_neg c20).symm.trans h
    refine g_aload_n hC dX6_readRow_23 rfl (q := 0) rfl ?_
    refine g_geti hC fd_RX6_25 rfl (by decide) (Or.inl rfl) dX6_readRow_24 ?_
    refine g_iconst hC dX6_readRow_27 (v := (2 : Int32)) (by decide) ?_
    refine g_ic_ne hC dX6_readRow_28 (tgt := 136) (by decide) (fun c28 => ?_) (fun c28 => ?_)
    · replace h := (if_neg c28).symm.trans h
      refine g_iconst hC dX6_readRow_136 (v := (1 : Int32)) (by decide) ?_
      cases h
      exact g_zret hC (by decide) hE rfl dX6_readRow_137 (Nat.zero_le _) (Nat.zero_le _) ⟨rfl, rfl, rfl, rfl, rfl, rfl⟩
    · replace h := (if_pos c28).symm.trans h
      refine g_iload hC dX6_readRow_31 (q := 4) rfl ?_
      refine g_iload_n hC dX6_readRow_33 rfl (q := 2) rfl ?_
      refine g_ic_ne hC dX6_readRow_34 (tgt := 43) (by decide) (fun c34 => ?_) (fun c34 => ?_)
      · replace h := (if_neg c34).symm.trans h
        refine g_aload_n hC dX6_readRow_43 rfl (q := 0) rfl ?_
        refine g_iconst hC dX6_readRow_44 (v := (0 : Int32)) (by decide) ?_
        refine g_iload_n hC dX6_readRow_45 rfl (q := 3) rfl ?_
        obtain ⟨r46, h46, h⟩ := oB_some h
        refine g_cV1 hC cv_X6_checkNumber wd_1026 ⟨Nat.le_of_ble_eq_true rfl, Nat.le_of_ble_eq_true rfl⟩ rfl (by decide) dX6_readRow_46 (As := [.int (0 : Int32), .int v3]) (st := []) (ok_X6_checkNumber hC.2.2.2.2.2.2.2.1 hW h46) rfl rfl (Nat.le_of_ble_eq_true rfl) ⟨Nat.zero_le _, Nat.zero_le _⟩ ?_
        refine g_if_ne hC dX6_readRow_49 (tgt := 54) (by decide) (fun c49 => ?_) (fun c49 => ?_)
        · replace h := (if_neg c49).symm.trans h
          refine g_iload_n hC dX6_readRow_54 rfl (q := 1) rfl ?_
          refine g_bipush hC dX6_readRow_55 (v := (7 : Int32)) (by decide) ?_
          refine g_ic_ne hC dX6_readRow_57 (tgt := 76) (by decide) (fun c57 => ?_) (fun c57 => ?_)
          · replace h := (if_neg c57).symm.trans h
            exact bo_X6_readRow_76 hC hW hE k17_ hk17_ (v1) (v2) (v3) (v4) (r46.2) h
          · replace h := (if_pos c57).symm.trans h
            refine g_aload_n hC dX6_readRow_60 rfl (q := 0) rfl ?_
            refine g_geti hC fd_RX6_37 rfl (by decide) (Or.inl rfl) dX6_readRow_61 ?_
            obtain ⟨r64, h64, h⟩ := oB_some h
            refine g_cN1 hC cs_X11_isChangeNumber (host := RX11) nl_RX6_183 ⟨Nat.le_of_ble_eq_true rfl, Nat.le_of_ble_eq_true rfl⟩ dX6_readRow_64 (As := [.int (r46.2 1 8)]) (st := []) (ok_X11_isChangeNumber hC.2.2.2.2.2.2.2.1  h64) rfl rfl (Nat.le_of_ble_eq_true rfl) ⟨Nat.zero_le _, Nat.zero_le _⟩ ?_
            refine g_if_ne hC dX6_readRow_67 (tgt := 76) (by decide) (fun c67 => ?_) (fun c67 => ?_)
            · replace h := (if_neg c67).symm.trans h
              exact bo_X6_readRow_76 hC hW hE k17_ hk17_ (v1) (v2) (v3) (v4) (r46.2) h
            · replace h := (if_pos c67).symm.trans h
              refine g_aload_n hC dX6_readRow_70 rfl (q := 0) rfl ?_
              refine g_iconst hC dX6_readRow_71 (v := (2 : Int32)) (by decide) ?_
              obtain ⟨r72, h72, h⟩ := oB_some h
              refine g_cV1 hC cv_X6_refuse wd_1018 ⟨Nat.le_of_ble_eq_true rfl, Nat.le_of_ble_eq_true rfl⟩ rfl (by decide) dX6_readRow_72 (As := [.int (2 : Int32)]) (st := []) (ok_X6_refuse hC.2.2.2.2.2.2.2.1 hW h72) rfl rfl (Nat.le_of_ble_eq_true rfl) ⟨Nat.zero_le _, Nat.zero_le _⟩ ?_
              obtain ⟨g75, h⟩ := oG_some h
              cases h
              exact g_zret hC (isB_or g75) hE rfl dX6_readRow_75 (Nat.zero_le _) (Nat.zero_le _) ⟨rfl, rfl, rfl, rfl, rfl, rfl⟩
        · replace h := (if_pos c49).symm.trans h
          refine g_iconst hC dX6_readRow_52 (v := (0 : Int32)) (by decide) ?_
          cases h
          exact g_zret hC (by decide) hE rfl dX6_readRow_53 (Nat.zero_le _) (Nat.zero_le _) ⟨rfl, rfl, rfl, rfl, rfl, rfl⟩
      · replace h := (if_pos c34).symm.trans h
        refine g_aload_n hC dX6_readRow_37 rfl (q := 0) rfl ?_
        refine g_iconst hC dX6_readRow_38 (v := (2 : Int32)) (by decide) ?_
        obtain ⟨r39, h39, h⟩ := oB_some h
        refine g_cV1 hC cv_X6_refuse wd_1018 ⟨Nat.le_of_ble_eq_true rfl, Nat.le_of_ble_eq_true rfl⟩ rfl (by decide) dX6_readRow_39 (As := [.int (2 : Int32)]) (st := []) (ok_X6_refuse hC.2.2.2.2.2.2.2.1 hW h39) rfl rfl (Nat.le_of_ble_eq_true rfl) ⟨Nat.zero_le _, Nat.zero_le _⟩ ?_
        obtain ⟨g42, h⟩ := oG_some h
        cases h
        exact g_zret hC (isB_or g42) hE rfl dX6_readRow_42 (Nat.zero_le _) (Nat.zero_le _) ⟨rfl, rfl, rfl, rfl, rfl, rfl⟩
noncomputable def w_X6_readRow_17 (Fu : Nat) (R : mRT)  (N : Nat) (v1 : Int32) (v2 : Int32) (v3 : Int32) (v4 : Int32) (I : mIT) : Option (Int32 × mIT) :=
  loopF (fun self (s : Int32 × Int32 × Int32 × Int32 × mIT) => b_X6_readRow_17 Fu R self s.1 s.2.1 s.2.2.1 s.2.2.2.1 s.2.2.2.2) N (v1, v2, v3, v4, I)
theorem wo_X6_readRow_17 {X : mXT} {E : mEn} {Fu : Nat} {R : mRT} {L : mLT}  (hC : mC X E mX6_readRow RX6 cX6_readRow) (hW : mWd R)   {out : Int32 × mIT} (hE : mEd X E 0 0 (mSame (some (.int (out.1))) 106 1 (out.2) R L))  (N : Nat) (v1 : Int32) (v2 : Int32) (v3 : Int32) (v4 : Int32) (I : mIT) (h : w_X6_readRow_17 Fu R  N v1 v2 v3 v4 I = some out) : mG X E 17 [(0, .ref (mB E + 1)), (1, .int v1), (2, .int v2), (3, .int v3), (4, .int v4)] [] 106 1 I R L 0 0 :=
  loopF_ok (Gd := fun s : Int32 × Int32 × Int32 × Int32 × mIT => mG X E 17 [(0, .ref (mB E + 1)), (1, .int s.1), (2, .int s.2.1), (3, .int s.2.2.1), (4, .int s.2.2.2.1)] [] 106 1 s.2.2.2.2 R L 0 0) (fun self hs s h => bo_X6_readRow_17 hC hW hE self (fun v1 v2 v3 v4 I h => hs (v1, v2, v3, v4, I) h) s.1 s.2.1 s.2.2.1 s.2.2.2.1 s.2.2.2.2 h) N (v1, v2, v3, v4, I) h
noncomputable def f_X6_readRow (Fu : Nat) (R : mRT) (I : mIT) (v1 : Int32) (v2 : Int32) (v3 : Int32) : Option (Int32 × mIT) :=
  if (I 1 4) = (2 : Int32) then (w_X6_readRow_17 Fu R Fu v1 v2 v3 (0 : Int32) I) else (oB (f_X6_refuse Fu I (1 : Int32)) (fun r10 => oG (isB r10.1) (some (r10.1, r10.2))))
set_option maxRecDepth 20000 in
theorem ok_X6_readRow {l : Launch} {E : mEn} {Fu : Nat} {I : mIT} {R : mRT} {L : mLT} {v1 : Int32} {v2 : Int32} {v3 : Int32} (hst : l.stackTraces = false) (hW : mWd R)  {out : Int32 × mIT} (h : f_X6_readRow Fu R I v1 v2 v3 = some out) : mOk l E mX6_readRow [.ref (mB E + 1), .int v1, .int v2, .int v3] 106 1 I R L 0 0 (mSame (some (.int (out.1))) 106 1 (out.2) R L) := by
  refine mOk_of hst (by decide) (Nat.le_of_ble_eq_true rfl) (fun X hC hE _ => ?_)
  have hC : mC X E mX6_readRow RX6 cX6_readRow := hC
  show mG X E 0 [(0, .ref (mB E + 1)), (1, .int v1), (2, .int v2), (3, .int v3)] [] 106 1 I R L 0 0
  unfold f_X6_readRow at h
  refine g_aload_n hC dX6_readRow_0 rfl (q := 0) rfl ?_
  refine g_geti hC fd_RX6_25 rfl (by decide) (Or.inl rfl) dX6_readRow_1 ?_
  refine g_iconst hC dX6_readRow_4 (v := (2 : Int32)) (by decide) ?_
  refine g_ic_eq hC dX6_readRow_5 (tgt := 14) (by decide) (fun c5 => ?_) (fun c5 => ?_)
  · replace h := (if_pos c5).symm.trans h
    refine g_iconst hC dX6_readRow_14 (v := (0 : Int32)) (by decide) ?_
    refine g_istore hC dX6_readRow_15 rfl (by decide) (lv' := [(4, .int (0 : Int32)), (0, .ref (mB E + 1)), (1, .int v1), (2, .int v2), (3, .int v3)]) rfl ?_
    refine g_lv [1, 2, 3, 4, 0] rfl ?_
    exact wo_X6_readRow_17 hC hW hE Fu (v1) (v2) (v3) ((0 : Int32)) (I) h
  · replace h := (if_neg c5).symm.trans h
    refine g_aload_n hC dX6_readRow_8 rfl (q := 0) rfl ?_
    refine g_iconst hC dX6_readRow_9 (v := (1 : Int32)) (by decide) ?_
    obtain ⟨r10, h10, h⟩ := oB_some h
    refine g_cV1 hC cv_X6_refuse wd_1018 ⟨Nat.le_of_ble_eq_true rfl, Nat.le_of_ble_eq_true rfl⟩ rfl (by decide) dX6_readRow_10 (As := [.int (1 : Int32)]) (st := []) (ok_X6_refuse hC.2.2.2.2.2.2.2.1 hW h10) rfl rfl (Nat.le_of_ble_eq_true rfl) ⟨Nat.zero_le _, Nat.zero_le _⟩ ?_
    obtain ⟨g13, h⟩ := oG_some h
    cases h
    exact g_zret hC (isB_or g13) hE rfl dX6_readRow_13 (Nat.zero_le _) (Nat.zero_le _) ⟨rfl, rfl, rfl, rfl, rfl, rfl⟩
noncomputable def f_X6_readLasts (Fu : Nat) (R : mRT) (I : mIT)  : Option (Int32 × mIT) :=
  oB (f_X6_checkNumber Fu I (1 : Int32) (99 : Int32)) (fun r4 => if r4.1 = 0 then (some ((0 : Int32), r4.2)) else (oB (R 1 11) (fun p13 => oB (f_X6_step Fu (mU r4.2 p13 5 (r4.2 1 8))) (fun r24 => some ((1 : Int32), r24)))))
set_option maxRecDepth 20000 in
theorem ok_X6_readLasts {l : Launch} {E : mEn} {Fu : Nat} {I : mIT} {R : mRT} {L : mLT}  (hst : l.stackTraces = false) (hW : mWd R)  {out : Int32 × mIT} (h : f_X6_readLasts Fu R I  = some out) : mOk l E mX6_readLasts [.ref (mB E + 1)] 106 1 I R L 0 0 (mSame (some (.int (out.1))) 106 1 (out.2) R L) := by
  refine mOk_of hst (by decide) (Nat.le_of_ble_eq_true rfl) (fun X hC hE _ => ?_)
  have hC : mC X E mX6_readLasts RX6 cX6_readLasts := hC
  show mG X E 0 [(0, .ref (mB E + 1))] [] 106 1 I R L 0 0
  unfold f_X6_readLasts at h
  refine g_aload_n hC dX6_readLasts_0 rfl (q := 0) rfl ?_
  refine g_iconst hC dX6_readLasts_1 (v := (1 : Int32)) (by decide) ?_
  refine g_bipush hC dX6_readLasts_2 (v := (99 : Int32)) (by decide) ?_
  obtain ⟨r4, h4, h⟩ := oB_some h
  refine g_cV1 hC cv_X6_checkNumber wd_1026 ⟨Nat.le_of_ble_eq_true rfl, Nat.le_of_ble_eq_true rfl⟩ rfl (by decide) dX6_readLasts_4 (As := [.int (1 : Int32), .int (99 : Int32)]) (st := []) (ok_X6_checkNumber hC.2.2.2.2.2.2.2.1 hW h4) rfl rfl (Nat.le_of_ble_eq_true rfl) ⟨Nat.zero_le _, Nat.zero_le _⟩ ?_
  refine g_if_ne hC dX6_readLasts_7 (tgt := 12) (by decide) (fun c7 => ?_) (fun c7 => ?_)
  · replace h := (if_neg c7).symm.trans h
    refine g_aload_n hC dX6_readLasts_12 rfl (q := 0) rfl ?_
    obtain ⟨p13, e13, h⟩ := oB_some h
    have hp13 : mO5 R p13 := ob5 hW.1 (hW.2.2.1 p13 e13)
    refine g_getr hC fd_RX6_49 rfl (by decide) (C0 := _) (t0 := .int) (Or.inl rfl) e13 dX6_readLasts_13 ?_
    refine g_aload_n hC dX6_readLasts_16 rfl (q := 0) rfl ?_
    refine g_geti hC fd_RX6_37 rfl (by decide) (Or.inl rfl) dX6_readLasts_17 ?_
    refine g_puti hC fd_RX6_180 hp13.2.1 hp13.1 rfl dX6_readLasts_20 (nm_e ?_)
    refine g_aload_n hC dX6_readLasts_23 rfl (q := 0) rfl ?_
    obtain ⟨r24, h24, h⟩ := oB_some h
    refine g_cV0 hC cv_X6_step wd_924 ⟨Nat.le_of_ble_eq_true rfl, Nat.le_of_ble_eq_true rfl⟩ rfl (by decide) dX6_readLasts_24 (As := []) (st := []) (ok_X6_step hC.2.2.2.2.2.2.2.1 hW h24) rfl rfl (Nat.le_of_ble_eq_true rfl) ⟨Nat.zero_le _, Nat.zero_le _⟩ ?_
    refine g_iconst hC dX6_readLasts_27 (v := (1 : Int32)) (by decide) ?_
    cases h
    exact g_zret hC (by decide) hE rfl dX6_readLasts_28 (Nat.zero_le _) (Nat.zero_le _) ⟨rfl, rfl, rfl, rfl, rfl, rfl⟩
  · replace h := (if_pos c7).symm.trans h
    refine g_iconst hC dX6_readLasts_10 (v := (0 : Int32)) (by decide) ?_
    cases h
    exact g_zret hC (by decide) hE rfl dX6_readLasts_11 (Nat.zero_le _) (Nat.zero_le _) ⟨rfl, rfl, rfl, rfl, rfl, rfl⟩
noncomputable def f_X6_isExprWhole (Fu : Nat) (I : mIT)  : Option (Int32) :=
  if (I 1 13) = 0 then (if (I 1 14) = 0 then (oB (f_X6_isAtSign Fu I (59 : Int32)) (fun r17 => if r17 = 0 then (some (0 : Int32)) else (some (1 : Int32)))) else (some (0 : Int32))) else (some (0 : Int32))
set_option maxRecDepth 20000 in
theorem ok_X6_isExprWhole {l : Launch} {E : mEn} {Fu : Nat} {I : mIT} {R : mRT} {L : mLT}  (hst : l.stackTraces = false) (hW : mWd R)  {out : Int32} (h : f_X6_isExprWhole Fu I  = some out) : mOk l E mX6_isExprWhole [.ref (mB E + 1)] 106 1 I R L 0 0 (mSame (some (.int (out))) 106 1 I R L) := by
  refine mOk_of hst (by decide) (Nat.le_of_ble_eq_true rfl) (fun X hC hE _ => ?_)
  have hC : mC X E mX6_isExprWhole RX6 cX6_isExprWhole := hC
  show mG X E 0 [(0, .ref (mB E + 1))] [] 106 1 I R L 0 0
  unfold f_X6_isExprWhole at h
  refine g_aload_n hC dX6_isExprWhole_0 rfl (q := 0) rfl ?_
  refine g_geti hC fd_RX6_60 rfl (by decide) (Or.inl rfl) dX6_isExprWhole_1 ?_
  refine g_if_ne hC dX6_isExprWhole_4 (tgt := 27) (by decide) (fun c4 => ?_) (fun c4 => ?_)
  · replace h := (if_neg c4).symm.trans h
    refine g_iconst hC dX6_isExprWhole_27 (v := (0 : Int32)) (by decide) ?_
    cases h
    exact g_zret hC (by decide) hE rfl dX6_isExprWhole_28 (Nat.zero_le _) (Nat.zero_le _) ⟨rfl, rfl, rfl, rfl, rfl, rfl⟩
  · replace h := (if_pos c4).symm.trans h
    refine g_aload_n hC dX6_isExprWhole_7 rfl (q := 0) rfl ?_
    refine g_geti hC fd_RX6_63 rfl (by decide) (Or.inl rfl) dX6_isExprWhole_8 ?_
    refine g_if_ne hC dX6_isExprWhole_11 (tgt := 27) (by decide) (fun c11 => ?_) (fun c11 => ?_)
    · replace h := (if_neg c11).symm.trans h
      refine g_iconst hC dX6_isExprWhole_27 (v := (0 : Int32)) (by decide) ?_
      cases h
      exact g_zret hC (by decide) hE rfl dX6_isExprWhole_28 (Nat.zero_le _) (Nat.zero_le _) ⟨rfl, rfl, rfl, rfl, rfl, rfl⟩
    · replace h := (if_pos c11).symm.trans h
      refine g_aload_n hC dX6_isExprWhole_14 rfl (q := 0) rfl ?_
      refine g_bipush hC dX6_isExprWhole_15 (v := (59 : Int32)) (by decide) ?_
      obtain ⟨r17, h17, h⟩ := oB_some h
      refine g_cV1 hC cv_X6_isAtSign wd_1044 ⟨Nat.le_of_ble_eq_true rfl, Nat.le_of_ble_eq_true rfl⟩ rfl (by decide) dX6_isExprWhole_17 (As := [.int (59 : Int32)]) (st := []) (ok_X6_isAtSign hC.2.2.2.2.2.2.2.1 hW h17) rfl rfl (Nat.le_of_ble_eq_true rfl) ⟨Nat.zero_le _, Nat.zero_le _⟩ ?_
      refine g_if_eq hC dX6_isExprWhole_20 (tgt := 27) (by decide) (fun c20 => ?_) (fun c20 => ?_)
      · replace h := (if_pos c20).symm.trans h
        refine g_iconst hC dX6_isExprWhole_27 (v := (0 : Int32)) (by decide) ?_
        cases h
        exact g_zret hC (by decide) hE rfl dX6_isExprWhole_28 (Nat.zero_le _) (Nat.zero_le _) ⟨rfl, rfl, rfl, rfl, rfl, rfl⟩
      · replace h := (if_neg c20).symm.trans h
        refine g_iconst hC dX6_isExprWhole_23 (v := (1 : Int32)) (by decide) ?_
        refine g_goto hC dX6_isExprWhole_24 (tgt := 28) (by decide) ?_
        cases h
        exact g_zret hC (by decide) hE rfl dX6_isExprWhole_28 (Nat.zero_le _) (Nat.zero_le _) ⟨rfl, rfl, rfl, rfl, rfl, rfl⟩
noncomputable def b_X8_putWaiting_0 (Fu : Nat) (k0 : Nat) (k0_ : Int32 × mIT → Option (mIT)) (v1 : Int32) (I : mIT) : Option (mIT) :=
  if (I k0 6) ≤ 0 then (some (I)) else (if (nI 80) < (I k0 6) then (some (I)) else (oG (inB ((I k0 6) - (1 : Int32)) 80) (if ((I (k0 + 3) (((I k0 6) - (1 : Int32))).toNatClampNeg) / (10 : Int32)) < v1 then (some (I)) else (if ((mU I k0 6 ((I k0 6) - (1 : Int32))) k0 5) < 0 then (k0_ (v1, (mU I k0 6 ((I k0 6) - (1 : Int32))))) else (if (nI 700) ≤ ((mU I k0 6 ((I k0 6) - (1 : Int32))) k0 5) then (k0_ (v1, (mU I k0 6 ((I k0 6) - (1 : Int32))))) else (oG (inB ((mU I k0 6 ((I k0 6) - (1 : Int32))) k0 6) 80) (oG (inB ((mU I k0 6 ((I k0 6) - (1 : Int32))) k0 5) 700) (k0_ (v1, (mU (mU (mU I k0 6 ((I k0 6) - (1 : Int32))) (k0 + 1) (((mU I k0 6 ((I k0 6) - (1 : Int32))) k0 5)).toNatClampNeg ((mU I k0 6 ((I k0 6) - (1 : Int32))) (k0 + 3) (((mU I k0 6 ((I k0 6) - (1 : Int32))) k0 6)).toNatClampNeg)) k0 5 (((mU (mU I k0 6 ((I k0 6) - (1 : Int32))) (k0 + 1) (((mU I k0 6 ((I k0 6) - (1 : Int32))) k0 5)).toNatClampNeg ((mU I k0 6 ((I k0 6) - (1 : Int32))) (k0 + 3) (((mU I k0 6 ((I k0 6) - (1 : Int32))) k0 6)).toNatClampNeg)) k0 5) + (1 : Int32))))))))))))
set_option maxRecDepth 20000 in
theorem bo_X8_putWaiting_0 {X : mXT} {E : mEn} {Fu : Nat} {R : mRT} {L : mLT} {k0 : Nat} (hC : mC X E mX8_putWaiting RX8 cX8_putWaiting) (hk0 : mO8 R k0)  {out : mIT} (hE : mEd X E 0 0 (mSame none 106 1 (out) R L)) (k0_ : Int32 × mIT → Option (mIT)) (hk0_ : ∀ (v1 : Int32) (I : mIT),  k0_ (v1, I) = some out → mG X E 0 [(0, .ref (mB E + k0)), (1, .int v1)] [] 106 1 I R L 0 0) (v1 : Int32) (I : mIT) (h : b_X8_putWaiting_0 Fu k0 k0_ v1 I = some out) : mG X E 0 [(0, .ref (mB E + k0)), (1, .int v1)] [] 106 1 I R L 0 0 := by
  unfold b_X8_putWaiting_0 at h
  refine g_aload_n hC dX8_putWaiting_0 rfl (q := 0) rfl ?_
  refine g_geti hC fd_RX8_31 hk0.2.1 hk0.1 (Or.inl rfl) dX8_putWaiting_1 ?_
  refine g_if_le hC dX8_putWaiting_4 (tgt := 97) (by decide) (fun c4 => ?_) (fun c4 => ?_)
  · replace h := (if_pos c4).symm.trans h
    cases h
    exact g_vret hC hE rfl dX8_putWaiting_97 (Nat.zero_le _) (Nat.zero_le _) ⟨rfl, rfl, rfl, rfl, rfl, rfl⟩
  · replace h := (if_neg c4).symm.trans h
    refine g_aload_n hC dX8_putWaiting_7 rfl (q := 0) rfl ?_
    refine g_geti hC fd_RX8_31 hk0.2.1 hk0.1 (Or.inl rfl) dX8_putWaiting_8 ?_
    refine g_aload_n hC dX8_putWaiting_11 rfl (q := 0) rfl ?_
    refine g_getr hC fd_RX8_18 hk0.2.1 hk0.1 (C0 := "") (t0 := _) (Or.inr rfl) hk0.2.2.2.2.1.1 dX8_putWaiting_12 ?_
    refine g_alenI hC hk0.2.2.2.2.1.2.2 hk0.2.2.2.2.1.2.1 dX8_putWaiting_15 ?_
    refine g_ic_gt hC dX8_putWaiting_16 (tgt := 97) (by decide) (fun c16 => ?_) (fun c16 => ?_)
    · replace h := (if_pos c16).symm.trans h
      cases h
      exact g_vret hC hE rfl dX8_putWaiting_97 (Nat.zero_le _) (Nat.zero_le _) ⟨rfl, rfl, rfl, rfl, rfl, rfl⟩
    · replace h := (if_neg c16).symm.trans h
      refine g_aload_n hC dX8_putWaiting_19 rfl (q := 0) rfl ?_
      refine g_getr hC fd_RX8_18 hk0.2.1 hk0.1 (C0 := "") (t0 := _) (Or.inr rfl) hk0.2.2.2.2.1.1 dX8_putWaiting_20 ?_
      refine g_aload_n hC dX8_putWaiting_23 rfl (q := 0) rfl ?_
      refine g_geti hC fd_RX8_31 hk0.2.1 hk0.1 (Or.inl rfl) dX8_putWaiting_24 ?_
      refine g_iconst hC dX8_putWaiting_27 (v := (1 : Int32)) (by decide) ?_
      refine g_isub hC dX8_putWaiting_28 ?_
      obtain ⟨g29, h⟩ := oG_some h
      refine g_iald hC hk0.2.2.2.2.1.2.2 hk0.2.2.2.2.1.2.1 (inB_in g29) dX8_putWaiting_29 ?_
      refine g_bipush hC dX8_putWaiting_30 (v := (10 : Int32)) (by decide) ?_
      refine g_idiv hC dX8_putWaiting_32 (by decide) ?_
      refine g_iload_n hC dX8_putWaiting_33 rfl (q := 1) rfl ?_
      refine g_ic_lt hC dX8_putWaiting_34 (tgt := 97) (by decide) (fun c34 => ?_) (fun c34 => ?_)
      · replace h := (if_pos c34).symm.trans h
        cases h
        exact g_vret hC hE rfl dX8_putWaiting_97 (Nat.zero_le _) (Nat.zero_le _) ⟨rfl, rfl, rfl, rfl, rfl, rfl⟩
      · replace h := (if_neg c34).symm.trans h
        refine g_aload_n hC dX8_putWaiting_37 rfl (q := 0) rfl ?_
        refine g_dup hC dX8_putWaiting_38 rfl ?_
        refine g_geti hC fd_RX8_31 hk0.2.1 hk0.1 (Or.inl rfl) dX8_putWaiting_39 ?_
        refine g_iconst hC dX8_putWaiting_42 (v := (1 : Int32)) (by decide) ?_
        refine g_isub hC dX8_putWaiting_43 ?_
        refine g_puti hC fd_RX8_31 hk0.2.1 hk0.1 rfl dX8_putWaiting_44 (nm_e ?_)
        refine g_aload_n hC dX8_putWaiting_47 rfl (q := 0) rfl ?_
        refine g_geti hC fd_RX8_27 hk0.2.1 hk0.1 (Or.inl rfl) dX8_putWaiting_48 ?_
        refine g_if_lt hC dX8_putWaiting_51 (tgt := 0) (by decide) (fun c51 => ?_) (fun c51 => ?_)
        · replace h := (if_pos c51).symm.trans h
          exact hk0_ v1 (mU I k0 6 ((I k0 6) - (1 : Int32))) h
        · replace h := (if_neg c51).symm.trans h
          refine g_aload_n hC dX8_putWaiting_54 rfl (q := 0) rfl ?_
          refine g_geti hC fd_RX8_27 hk0.2.1 hk0.1 (Or.inl rfl) dX8_putWaiting_55 ?_
          refine g_aload_n hC dX8_putWaiting_58 rfl (q := 0) rfl ?_
          refine g_getr hC fd_RX8_9 hk0.2.1 hk0.1 (C0 := "") (t0 := _) (Or.inr rfl) hk0.2.2.1.1 dX8_putWaiting_59 ?_
          refine g_alenI hC hk0.2.2.1.2.2 hk0.2.2.1.2.1 dX8_putWaiting_62 ?_
          refine g_ic_ge hC dX8_putWaiting_63 (tgt := 0) (by decide) (fun c63 => ?_) (fun c63 => ?_)
          · replace h := (if_pos c63).symm.trans h
            exact hk0_ v1 (mU I k0 6 ((I k0 6) - (1 : Int32))) h
          · replace h := (if_neg c63).symm.trans h
            refine g_aload_n hC dX8_putWaiting_66 rfl (q := 0) rfl ?_
            refine g_getr hC fd_RX8_9 hk0.2.1 hk0.1 (C0 := "") (t0 := _) (Or.inr rfl) hk0.2.2.1.1 dX8_putWaiting_67 ?_
            refine g_aload_n hC dX8_putWaiting_70 rfl (q := 0) rfl ?_
            refine g_geti hC fd_RX8_27 hk0.2.1 hk0.1 (Or.inl rfl) dX8_putWaiting_71 ?_
            refine g_aload_n hC dX8_putWaiting_74 rfl (q := 0) rfl ?_
            refine g_getr hC fd_RX8_18 hk0.2.1 hk0.1 (C0 := "") (t0 := _) (Or.inr rfl) hk0.2.2.2.2.1.1 dX8_putWaiting_75 ?_
            refine g_aload_n hC dX8_putWaiting_78 rfl (q := 0) rfl ?_
            refine g_geti hC fd_RX8_31 hk0.2.1 hk0.1 (Or.inl rfl) dX8_putWaiting_79 ?_
            obtain ⟨g82, h⟩ := oG_some h
            refine g_iald hC hk0.2.2.2.2.1.2.2 hk0.2.2.2.2.1.2.1 (inB_in g82) dX8_putWaiting_82 ?_
            obtain ⟨g83, h⟩ := oG_some h
            refine g_iast hC hk0.2.2.1.2.2 hk0.2.2.1.2.1 (inB_in g83) dX8_putWaiting_83 (nm_e ?_)
            refine g_aload_n hC dX8_putWaiting_84 rfl (q := 0) rfl ?_
            refine g_dup hC dX8_putWaiting_85 rfl ?_
            refine g_geti hC fd_RX8_27 hk0.2.1 hk0.1 (Or.inl rfl) dX8_putWaiting_86 ?_
            refine g_iconst hC dX8_putWaiting_89 (v := (1 : Int32)) (by decide) ?_
            refine g_iadd hC dX8_putWaiting_90 ?_
            refine g_puti hC fd_RX8_27 hk0.2.1 hk0.1 rfl dX8_putWaiting_91 (nm_e ?_)
            refine g_goto hC dX8_putWaiting_94 (tgt := 0) (by decide) ?_
            exact hk0_ v1 (mU (mU (mU I k0 6 ((I k0 6) - (1 : Int32))) (k0 + 1) (((mU I k0 6 ((I k0 6) - (1 : Int32))) k0 5)).toNatClampNeg ((mU I k0 6 ((I k0 6) - (1 : Int32))) (k0 + 3) (((mU I k0 6 ((I k0 6) - (1 : Int32))) k0 6)).toNatClampNeg)) k0 5 (((mU (mU I k0 6 ((I k0 6) - (1 : Int32))) (k0 + 1) (((mU I k0 6 ((I k0 6) - (1 : Int32))) k0 5)).toNatClampNeg ((mU I k0 6 ((I k0 6) - (1 : Int32))) (k0 + 3) (((mU I k0 6 ((I k0 6) - (1 : Int32))) k0 6)).toNatClampNeg)) k0 5) + (1 : Int32))) h
noncomputable def w_X8_putWaiting_0 (Fu : Nat) (k0 : Nat)  (N : Nat) (v1 : Int32) (I : mIT) : Option (mIT) :=
  loopF (fun self (s : Int32 × mIT) => b_X8_putWaiting_0 Fu k0 self s.1 s.2) N (v1, I)
theorem wo_X8_putWaiting_0 {X : mXT} {E : mEn} {Fu : Nat} {R : mRT} {L : mLT} {k0 : Nat} (hC : mC X E mX8_putWaiting RX8 cX8_putWaiting) (hk0 : mO8 R k0)  {out : mIT} (hE : mEd X E 0 0 (mSame none 106 1 (out) R L))  (N : Nat) (v1 : Int32) (I : mIT) (h : w_X8_putWaiting_0 Fu k0  N v1 I = some out) : mG X E 0 [(0, .ref (mB E + k0)), (1, .int v1)] [] 106 1 I R L 0 0 :=
  loopF_ok (Gd := fun s : Int32 × mIT => mG X E 0 [(0, .ref (mB E + k0)), (1, .int s.1)] [] 106 1 s.2 R L 0 0) (fun self hs s h => bo_X8_putWaiting_0 hC hk0 hE self (fun v1 I h => hs (v1, I) h) s.1 s.2 h) N (v1, I) h
noncomputable def f_X8_putWaiting (Fu : Nat) (I : mIT) (k0 : Nat) (v1 : Int32) : Option (mIT) :=
  w_X8_putWaiting_0 Fu k0 Fu v1 I
set_option maxRecDepth 20000 in
theorem ok_X8_putWaiting {l : Launch} {E : mEn} {Fu : Nat} {I : mIT} {R : mRT} {L : mLT} {k0 : Nat} {v1 : Int32} (hst : l.stackTraces = false) (hk0 : mO8 R k0) {out : mIT} (h : f_X8_putWaiting Fu I k0 v1 = some out) : mOk l E mX8_putWaiting [.ref (mB E + k0), .int v1] 106 1 I R L 0 0 (mSame none 106 1 (out) R L) := by
  refine mOk_of hst (by decide) (Nat.le_of_ble_eq_true rfl) (fun X hC hE _ => ?_)
  have hC : mC X E mX8_putWaiting RX8 cX8_putWaiting := hC
  show mG X E 0 [(0, .ref (mB E + k0)), (1, .int v1)] [] 106 1 I R L 0 0
  unfold f_X8_putWaiting at h
  exact wo_X8_putWaiting_0 hC hk0 hE Fu (v1) (I) h
noncomputable def f_X8_close (Fu : Nat) (I : mIT) (k0 : Nat) : Option (mIT) :=
  oB (f_X8_putWaiting Fu I k0 (1 : Int32)) (fun r2 => if (r2 k0 6) ≤ 0 then (some (r2)) else (some (mU r2 k0 6 ((r2 k0 6) - (1 : Int32)))))
set_option maxRecDepth 20000 in
theorem ok_X8_close {l : Launch} {E : mEn} {Fu : Nat} {I : mIT} {R : mRT} {L : mLT} {k0 : Nat} (hst : l.stackTraces = false) (hk0 : mO8 R k0) {out : mIT} (h : f_X8_close Fu I k0 = some out) : mOk l E mX8_close [.ref (mB E + k0)] 106 1 I R L 0 0 (mSame none 106 1 (out) R L) := by
  refine mOk_of hst (by decide) (Nat.le_of_ble_eq_true rfl) (fun X hC hE _ => ?_)
  have hC : mC X E mX8_close RX8 cX8_close := hC
  show mG X E 0 [(0, .ref (mB E + k0))] [] 106 1 I R L 0 0
  unfold f_X8_close at h
  refine g_aload_n hC dX8_close_0 rfl (q := 0) rfl ?_
  refine g_iconst hC dX8_close_1 (v := (1 : Int32)) (by decide) ?_
  obtain ⟨r2, h2, h⟩ := oB_some h
  refine g_cV0 hC cv_X8_putWaiting wd_1089 ⟨Nat.le_of_ble_eq_true rfl, Nat.le_of_ble_eq_true rfl⟩ hk0.2.1 hk0.1 dX8_close_2 (As := [.int (1 : Int32)]) (st := []) (ok_X8_putWaiting hC.2.2.2.2.2.2.2.1 hk0 h2) rfl rfl (Nat.le_of_ble_eq_true rfl) ⟨Nat.zero_le _, Nat.zero_le _⟩ ?_
  refine g_aload_n hC dX8_close_5 rfl (q := 0) rfl ?_
  refine g_geti hC fd_RX8_31 hk0.2.1 hk0.1 (Or.inl rfl) dX8_close_6 ?_
  refine g_if_le hC dX8_close_9 (tgt := 22) (by decide) (fun c9 => ?_) (fun c9 => ?_)
  · replace h := (if_pos c9).symm.trans h
    cases h
    exact g_vret hC hE rfl dX8_close_22 (Nat.zero_le _) (Nat.zero_le _) ⟨rfl, rfl, rfl, rfl, rfl, rfl⟩
  · replace h := (if_neg c9).symm.trans h
    refine g_aload_n hC dX8_close_12 rfl (q := 0) rfl ?_
    refine g_dup hC dX8_close_13 rfl ?_
    refine g_geti hC fd_RX8_31 hk0.2.1 hk0.1 (Or.inl rfl) dX8_close_14 ?_
    refine g_iconst hC dX8_close_17 (v := (1 : Int32)) (by decide) ?_
    refine g_isub hC dX8_close_18 ?_
    refine g_puti hC fd_RX8_31 hk0.2.1 hk0.1 rfl dX8_close_19 (nm_e ?_)
    cases h
    exact g_vret hC hE rfl dX8_close_22 (Nat.zero_le _) (Nat.zero_le _) ⟨rfl, rfl, rfl, rfl, rfl, rfl⟩
noncomputable def f_X6_operatorHere (Fu : Nat) (I : mIT)  : Option (Int32) :=
  oB (f_X6_isAtWord Fu I 11) (fun r3 => if r3 = 0 then (oB (f_X6_isAtWord Fu I 12) (fun r17 => if r17 = 0 then (oB (f_X6_isAtSign Fu I (60 : Int32)) (fun r31 => if r31 = 0 then (oB (f_X6_isAtSign Fu I (61 : Int32)) (fun r45 => if r45 = 0 then (oB (f_X6_isAtSign Fu I (43 : Int32)) (fun r59 => if r59 = 0 then (oB (f_X6_isAtSign Fu I (45 : Int32)) (fun r73 => if r73 = 0 then (oB (f_X6_isAtSign Fu I (42 : Int32)) (fun r87 => if r87 = 0 then (oB (f_X6_isAtSign Fu I (47 : Int32)) (fun r101 => if r101 = 0 then (some (-1 : Int32)) else (some (61 : Int32)))) else (some (60 : Int32)))) else (some (51 : Int32)))) else (some (50 : Int32)))) else (some (41 : Int32)))) else (some (40 : Int32)))) else (some (20 : Int32)))) else (some (10 : Int32)))
set_option maxRecDepth 20000 in
theorem ok_X6_operatorHere {l : Launch} {E : mEn} {Fu : Nat} {I : mIT} {R : mRT} {L : mLT}  (hst : l.stackTraces = false) (hW : mWd R)  {out : Int32} (h : f_X6_operatorHere Fu I  = some out) : mOk l E mX6_operatorHere [.ref (mB E + 1)] 106 1 I R L 0 0 (mSame (some (.int (out))) 106 1 I R L) := by
  refine mOk_of hst (by decide) (Nat.le_of_ble_eq_true rfl) (fun X hC hE _ => ?_)
  have hC : mC X E mX6_operatorHere RX6 cX6_operatorHere := hC
  show mG X E 0 [(0, .ref (mB E + 1))] [] 106 1 I R L 0 0
  unfold f_X6_operatorHere at h
  refine g_aload_n hC dX6_operatorHere_0 rfl (q := 0) rfl ?_
  refine g_lds hC dX6_operatorHere_1 (j := 11) rfl ?_
  obtain ⟨r3, h3, h⟩ := oB_some h
  refine g_cV1 hC cv_X6_isAtWord wd_957 ⟨Nat.le_of_ble_eq_true rfl, Nat.le_of_ble_eq_true rfl⟩ rfl (by decide) dX6_operatorHere_3 (As := [.ref (E.2.2.2 11)]) (st := []) (ok_X6_isAtWord hC.2.2.2.2.2.2.2.1 hW (by decide) h3) rfl rfl (Nat.le_of_ble_eq_true rfl) ⟨Nat.zero_le _, Nat.zero_le _⟩ ?_
  refine g_if_eq hC dX6_operatorHere_6 (tgt := 14) (by decide) (fun c6 => ?_) (fun c6 => ?_)
  · replace h := (if_pos c6).symm.trans h
    refine g_aload_n hC dX6_operatorHere_14 rfl (q := 0) rfl ?_
    refine g_lds hC dX6_operatorHere_15 (j := 12) rfl ?_
    obtain ⟨r17, h17, h⟩ := oB_some h
    refine g_cV1 hC cv_X6_isAtWord wd_957 ⟨Nat.le_of_ble_eq_true rfl, Nat.le_of_ble_eq_true rfl⟩ rfl (by decide) dX6_operatorHere_17 (As := [.ref (E.2.2.2 12)]) (st := []) (ok_X6_isAtWord hC.2.2.2.2.2.2.2.1 hW (by decide) h17) rfl rfl (Nat.le_of_ble_eq_true rfl) ⟨Nat.zero_le _, Nat.zero_le _⟩ ?_
    refine g_if_eq hC dX6_operatorHere_20 (tgt := 28) (by decide) (fun c20 => ?_) (fun c20 => ?_)
    · replace h := (if_pos c20).symm.trans h
      refine g_aload_n hC dX6_operatorHere_28 rfl (q := 0) rfl ?_
      refine g_bipush hC dX6_operatorHere_29 (v := (60 : Int32)) (by decide) ?_
      obtain ⟨r31, h31, h⟩ := oB_some h
      refine g_cV1 hC cv_X6_isAtSign wd_1044 ⟨Nat.le_of_ble_eq_true rfl, Nat.le_of_ble_eq_true rfl⟩ rfl (by decide) dX6_operatorHere_31 (As := [.int (60 : Int32)]) (st := []) (ok_X6_isAtSign hC.2.2.2.2.2.2.2.1 hW h31) rfl rfl (Nat.le_of_ble_eq_true rfl) ⟨Nat.zero_le _, Nat.zero_le _⟩ ?_
      refine g_if_eq hC dX6_operatorHere_34 (tgt := 42) (by decide) (fun c34 => ?_) (fun c34 => ?_)
      · replace h := (if_pos c34).symm.trans h
        refine g_aload_n hC dX6_operatorHere_42 rfl (q := 0) rfl ?_
        refine g_bipush hC dX6_operatorHere_43 (v := (61 : Int32)) (by decide) ?_
        obtain ⟨r45, h45, h⟩ := oB_some h
        refine g_cV1 hC cv_X6_isAtSign wd_1044 ⟨Nat.le_of_ble_eq_true rfl, Nat.le_of_ble_eq_true rfl⟩ rfl (by decide) dX6_operatorHere_45 (As := [.int (61 : Int32)]) (st := []) (ok_X6_isAtSign hC.2.2.2.2.2.2.2.1 hW h45) rfl rfl (Nat.le_of_ble_eq_true rfl) ⟨Nat.zero_le _, Nat.zero_le _⟩ ?_
        refine g_if_eq hC dX6_operatorHere_48 (tgt := 56) (by decide) (fun c48 => ?_) (fun c48 => ?_)
        · replace h := (if_pos c48).symm.trans h
          refine g_aload_n hC dX6_operatorHere_56 rfl (q := 0) rfl ?_
          refine g_bipush hC dX6_operatorHere_57 (v := (43 : Int32)) (by decide) ?_
          obtain ⟨r59, h59, h⟩ := oB_some h
          refine g_cV1 hC cv_X6_isAtSign wd_1044 ⟨Nat.le_of_ble_eq_true rfl, Nat.le_of_ble_eq_true rfl⟩ rfl (by decide) dX6_operatorHere_59 (As := [.int (43 : Int32)]) (st := []) (ok_X6_isAtSign hC.2.2.2.2.2.2.2.1 hW h59) rfl rfl (Nat.le_of_ble_eq_true rfl) ⟨Nat.zero_le _, Nat.zero_le _⟩ ?_
          refine g_if_eq hC dX6_operatorHere_62 (tgt := 70) (by decide) (fun c62 => ?_) (fun c62 => ?_)
          · replace h := (if_pos c62).symm.trans h
            refine g_aload_n hC dX6_operatorHere_70 rfl (q := 0) rfl ?_
            refine g_bipush hC dX6_operatorHere_71 (v := (45 : Int32)) (by decide) ?_
            obtain ⟨r73, h73, h⟩ := oB_some h
            refine g_cV1 hC cv_X6_isAtSign wd_1044 ⟨Nat.le_of_ble_eq_true rfl, Nat.le_of_ble_eq_true rfl⟩ rfl (by decide) dX6_operatorHere_73 (As := [.int (45 : Int32)]) (st := []) (ok_X6_isAtSign hC.2.2.2.2.2.2.2.1 hW h73) rfl rfl (Nat.le_of_ble_eq_true rfl) ⟨Nat.zero_le _, Nat.zero_le _⟩ ?_
            refine g_if_eq hC dX6_operatorHere_76 (tgt := 84) (by decide) (fun c76 => ?_) (fun c76 => ?_)
            · replace h := (if_pos c76).symm.trans h
              refine g_aload_n hC dX6_operatorHere_84 rfl (q := 0) rfl ?_
              refine g_bipush hC dX6_operatorHere_85 (v := (42 : Int32)) (by decide) ?_
              obtain ⟨r87, h87, h⟩ := oB_some h
              refine g_cV1 hC cv_X6_isAtSign wd_1044 ⟨Nat.le_of_ble_eq_true rfl, Nat.le_of_ble_eq_true rfl⟩ rfl (by decide) dX6_operatorHere_87 (As := [.int (42 : Int32)]) (st := []) (ok_X6_isAtSign hC.2.2.2.2.2.2.2.1 hW h87) rfl rfl (Nat.le_of_ble_eq_true rfl) ⟨Nat.zero_le _, Nat.zero_le _⟩ ?_
              refine g_if_eq hC dX6_operatorHere_90 (tgt := 98) (by decide) (fun c90 => ?_) (fun c90 => ?_)
              · replace h := (if_pos c90).symm.trans h
                refine g_aload_n hC dX6_operatorHere_98 rfl (q := 0) rfl ?_
                refine g_bipush hC dX6_operatorHere_99 (v := (47 : Int32)) (by decide) ?_
                obtain ⟨r101, h101, h⟩ := oB_some h
                refine g_cV1 hC cv_X6_isAtSign wd_1044 ⟨Nat.le_of_ble_eq_true rfl, Nat.le_of_ble_eq_true rfl⟩ rfl (by decide) dX6_operatorHere_101 (As := [.int (47 : Int32)]) (st := []) (ok_X6_isAtSign hC.2.2.2.2.2.2.2.1 hW h101) rfl rfl (Nat.le_of_ble_eq_true rfl) ⟨Nat.zero_le _, Nat.zero_le _⟩ ?_
                refine g_if_eq hC dX6_operatorHere_104 (tgt := 112) (by decide) (fun c104 => ?_) (fun c104 => ?_)
                · replace h := (if_pos c104).symm.trans h
                  refine g_iconst hC dX6_operatorHere_112 (v := (-1 : Int32)) (by decide) ?_
                  cases h
                  exact g_iret hC hE rfl dX6_operatorHere_113 (Nat.zero_le _) (Nat.zero_le _) ⟨rfl, rfl, rfl, rfl, rfl, rfl⟩
                · replace h := (if_neg c104).symm.trans h
                  refine g_bipush hC dX6_operatorHere_107 (v := (61 : Int32)) (by decide) ?_
                  refine g_goto hC dX6_operatorHere_109 (tgt := 113) (by decide) ?_
                  cases h
                  exact g_iret hC hE rfl dX6_operatorHere_113 (Nat.zero_le _) (Nat.zero_le _) ⟨rfl, rfl, rfl, rfl, rfl, rfl⟩
              · replace h := (if_neg c90).symm.trans h
                refine g_bipush hC dX6_operatorHere_93 (v := (60 : Int32)) (by decide) ?_
                refine g_goto hC dX6_operatorHere_95 (tgt := 113) (by decide) ?_
                cases h
                exact g_iret hC hE rfl dX6_operatorHere_113 (Nat.zero_le _) (Nat.zero_le _) ⟨rfl, rfl, rfl, rfl, rfl, rfl⟩
            · replace h := (if_neg c76).symm.trans h
              refine g_bipush hC dX6_operatorHere_79 (v := (51 : Int32)) (by decide) ?_
              refine g_goto hC dX6_operatorHere_81 (tgt := 113) (by decide) ?_
              cases h
              exact g_iret hC hE rfl dX6_operatorHere_113 (Nat.zero_le _) (Nat.zero_le _) ⟨rfl, rfl, rfl, rfl, rfl, rfl⟩
          · replace h := (if_neg c62).symm.trans h
            refine g_bipush hC dX6_operatorHere_65 (v := (50 : Int32)) (by decide) ?_
            refine g_goto hC dX6_operatorHere_67 (tgt := 113) (by decide) ?_
            cases h
            exact g_iret hC hE rfl dX6_operatorHere_113 (Nat.zero_le _) (Nat.zero_le _) ⟨rfl, rfl, rfl, rfl, rfl, rfl⟩
        · replace h := (if_neg c48).symm.trans h
          refine g_bipush hC dX6_operatorHere_51 (v := (41 : Int32)) (by decide) ?_
          refine g_goto hC dX6_operatorHere_53 (tgt := 113) (by decide) ?_
          cases h
          exact g_iret hC hE rfl dX6_operatorHere_113 (Nat.zero_le _) (Nat.zero_le _) ⟨rfl, rfl, rfl, rfl, rfl, rfl⟩
      · replace h := (if_neg c34).symm.trans h
        refine g_bipush hC dX6_operatorHere_37 (v := (40 : Int32)) (by decide) ?_
        refine g_goto hC dX6_operatorHere_39 (tgt := 113) (by decide) ?_
        cases h
        exact g_iret hC hE rfl dX6_operatorHere_113 (Nat.zero_le _) (Nat.zero_le _) ⟨rfl, rfl, rfl, rfl, rfl, rfl⟩
    · replace h := (if_neg c20).symm.trans h
      refine g_bipush hC dX6_operatorHere_23 (v := (20 : Int32)) (by decide) ?_
      refine g_goto hC dX6_operatorHere_25 (tgt := 113) (by decide) ?_
      cases h
      exact g_iret hC hE rfl dX6_operatorHere_113 (Nat.zero_le _) (Nat.zero_le _) ⟨rfl, rfl, rfl, rfl, rfl, rfl⟩
  · replace h := (if_neg c6).symm.trans h
    refine g_bipush hC dX6_operatorHere_9 (v := (10 : Int32)) (by decide) ?_
    refine g_goto hC dX6_operatorHere_11 (tgt := 113) (by decide) ?_
    cases h
    exact g_iret hC hE rfl dX6_operatorHere_113 (Nat.zero_le _) (Nat.zero_le _) ⟨rfl, rfl, rfl, rfl, rfl, rfl⟩
noncomputable def b_X8_join_18 (Fu : Nat) (k0 : Nat)  (v1 : Int32) (I : mIT) : Option (mIT) :=
  if (I k0 6) < 0 then (some (I)) else (if (nI 80) ≤ (I k0 6) then (some (I)) else (oG (inB (I k0 6) 80) (some (mU (mU I (k0 + 3) ((I k0 6)).toNatClampNeg v1) k0 6 (((mU I (k0 + 3) ((I k0 6)).toNatClampNeg v1) k0 6) + (1 : Int32))))))
set_option maxRecDepth 20000 in
theorem bo_X8_join_18 {X : mXT} {E : mEn} {Fu : Nat} {R : mRT} {L : mLT} {k0 : Nat} (hC : mC X E mX8_join RX8 cX8_join) (hk0 : mO8 R k0)  {out : mIT} (hE : mEd X E 0 0 (mSame none 106 1 (out) R L))  (v1 : Int32) (I : mIT) (h : b_X8_join_18 Fu k0  v1 I = some out) : mG X E 18 [(0, .ref (mB E + k0)), (1, .int v1)] [] 106 1 I R L 0 0 := by
  unfold b_X8_join_18 at h
  refine g_aload_n hC dX8_join_18 rfl (q := 0) rfl ?_
  refine g_geti hC fd_RX8_31 hk0.2.1 hk0.1 (Or.inl rfl) dX8_join_19 ?_
  refine g_if_lt hC dX8_join_22 (tgt := 57) (by decide) (fun c22 => ?_) (fun c22 => ?_)
  · replace h := (if_pos c22).symm.trans h
    cases h
    exact g_vret hC hE rfl dX8_join_57 (Nat.zero_le _) (Nat.zero_le _) ⟨rfl, rfl, rfl, rfl, rfl, rfl⟩
  · replace h := (if_neg c22).symm.trans h
    refine g_aload_n hC dX8_join_25 rfl (q := 0) rfl ?_
    refine g_geti hC fd_RX8_31 hk0.2.1 hk0.1 (Or.inl rfl) dX8_join_26 ?_
    refine g_aload_n hC dX8_join_29 rfl (q := 0) rfl ?_
    refine g_getr hC fd_RX8_18 hk0.2.1 hk0.1 (C0 := "") (t0 := _) (Or.inr rfl) hk0.2.2.2.2.1.1 dX8_join_30 ?_
    refine g_alenI hC hk0.2.2.2.2.1.2.2 hk0.2.2.2.2.1.2.1 dX8_join_33 ?_
    refine g_ic_ge hC dX8_join_34 (tgt := 57) (by decide) (fun c34 => ?_) (fun c34 => ?_)
    · replace h := (if_pos c34).symm.trans h
      cases h
      exact g_vret hC hE rfl dX8_join_57 (Nat.zero_le _) (Nat.zero_le _) ⟨rfl, rfl, rfl, rfl, rfl, rfl⟩
    · replace h := (if_neg c34).symm.trans h
      refine g_aload_n hC dX8_join_37 rfl (q := 0) rfl ?_
      refine g_getr hC fd_RX8_18 hk0.2.1 hk0.1 (C0 := "") (t0 := _) (Or.inr rfl) hk0.2.2.2.2.1.1 dX8_join_38 ?_
      refine g_aload_n hC dX8_join_41 rfl (q := 0) rfl ?_
      refine g_geti hC fd_RX8_31 hk0.2.1 hk0.1 (Or.inl rfl) dX8_join_42 ?_
      refine g_iload_n hC dX8_join_45 rfl (q := 1) rfl ?_
      obtain ⟨g46, h⟩ := oG_some h
      refine g_iast hC hk0.2.2.2.2.1.2.2 hk0.2.2.2.2.1.2.1 (inB_in g46) dX8_join_46 (nm_e ?_)
      refine g_aload_n hC dX8_join_47 rfl (q := 0) rfl ?_
      refine g_dup hC dX8_join_48 rfl ?_
      refine g_geti hC fd_RX8_31 hk0.2.1 hk0.1 (Or.inl rfl) dX8_join_49 ?_
      refine g_iconst hC dX8_join_52 (v := (1 : Int32)) (by decide) ?_
      refine g_iadd hC dX8_join_53 ?_
      refine g_puti hC fd_RX8_31 hk0.2.1 hk0.1 rfl dX8_join_54 (nm_e ?_)
      cases h
      exact g_vret hC hE rfl dX8_join_57 (Nat.zero_le _) (Nat.zero_le _) ⟨rfl, rfl, rfl, rfl, rfl, rfl⟩
noncomputable def f_X8_join (Fu : Nat) (I : mIT) (k0 : Nat) (v1 : Int32) : Option (mIT) :=
  if v1 = (30 : Int32) then (b_X8_join_18 Fu k0 v1 I) else (if v1 = 0 then (b_X8_join_18 Fu k0 v1 I) else (oB (f_X8_putWaiting Fu I k0 (v1 / (10 : Int32))) (fun r15 => b_X8_join_18 Fu k0 v1 r15)))
set_option maxRecDepth 20000 in
theorem ok_X8_join {l : Launch} {E : mEn} {Fu : Nat} {I : mIT} {R : mRT} {L : mLT} {k0 : Nat} {v1 : Int32} (hst : l.stackTraces = false) (hk0 : mO8 R k0) {out : mIT} (h : f_X8_join Fu I k0 v1 = some out) : mOk l E mX8_join [.ref (mB E + k0), .int v1] 106 1 I R L 0 0 (mSame none 106 1 (out) R L) := by
  refine mOk_of hst (by decide) (Nat.le_of_ble_eq_true rfl) (fun X hC hE _ => ?_)
  have hC : mC X E mX8_join RX8 cX8_join := hC
  show mG X E 0 [(0, .ref (mB E + k0)), (1, .int v1)] [] 106 1 I R L 0 0
  unfold f_X8_join at h
  refine g_iload_n hC dX8_join_0 rfl (q := 1) rfl ?_
  refine g_bipush hC dX8_join_1 (v := (30 : Int32)) (by decide) ?_
  refine g_ic_eq hC dX8_join_3 (tgt := 18) (by decide) (fun c3 => ?_) (fun c3 => ?_)
  · replace h := (if_pos c3).symm.trans h
    exact bo_X8_join_18 hC hk0 hE (v1) (I) h
  · replace h := (if_neg c3).symm.trans h
    refine g_iload_n hC dX8_join_6 rfl (q := 1) rfl ?_
    refine g_if_eq hC dX8_join_7 (tgt := 18) (by decide) (fun c7 => ?_) (fun c7 => ?_)
    · replace h := (if_pos c7).symm.trans h
      exact bo_X8_join_18 hC hk0 hE (v1) (I) h
    · replace h := (if_neg c7).symm.trans h
      refine g_aload_n hC dX8_join_10 rfl (q := 0) rfl ?_
      refine g_iload_n hC dX8_join_11 rfl (q := 1) rfl ?_
      refine g_bipush hC dX8_join_12 (v := (10 : Int32)) (by decide) ?_
      refine g_idiv hC dX8_join_14 (by decide) ?_
      obtain ⟨r15, h15, h⟩ := oB_some h
      refine g_cV0 hC cv_X8_putWaiting wd_1089 ⟨Nat.le_of_ble_eq_true rfl, Nat.le_of_ble_eq_true rfl⟩ hk0.2.1 hk0.1 dX8_join_15 (As := [.int (v1 / (10 : Int32))]) (st := []) (ok_X8_putWaiting hC.2.2.2.2.2.2.2.1 hk0 h15) rfl rfl (Nat.le_of_ble_eq_true rfl) ⟨Nat.zero_le _, Nat.zero_le _⟩ ?_
      exact bo_X8_join_18 hC hk0 hE (v1) (r15) h
noncomputable def b_X6_readOperator_149 (Fu : Nat) (R : mRT)  (v1 : Int32) (v3 : Int32) (I : mIT) : Option (Int32 × mIT) :=
  if v3 = 0 then (oB (R 1 12) (fun p163 => oB (f_X8_join Fu (mU I 1 13 (1 : Int32)) p163 v1) (fun r167 => some ((1 : Int32), r167)))) else (oB (R 1 12) (fun p163 => oB (f_X8_join Fu (mU I 1 13 (2 : Int32)) p163 v1) (fun r167 => some ((1 : Int32), r167))))
set_option maxRecDepth 20000 in
theorem bo_X6_readOperator_149 {X : mXT} {E : mEn} {Fu : Nat} {R : mRT} {L : mLT}  (hC : mC X E mX6_readOperator RX6 cX6_readOperator) (hW : mWd R)   {out : Int32 × mIT} (hE : mEd X E 0 0 (mSame (some (.int (out.1))) 106 1 (out.2) R L))  (v1 : Int32) (v3 : Int32) (I : mIT) (h : b_X6_readOperator_149 Fu R  v1 v3 I = some out) : mG X E 149 [(0, .ref (mB E + 1)), (1, .int v1), (3, .int v3)] [] 106 1 I R L 0 0 := by
  unfold b_X6_readOperator_149 at h
  refine g_aload_n hC dX6_readOperator_149 rfl (q := 0) rfl ?_
  refine g_iload_n hC dX6_readOperator_150 rfl (q := 2) rfl ?_
  refine g_if_eq hC dX6_readOperator_151 (tgt := 158) (by decide) (fun c151 => ?_) (fun c151 => ?_)
  · replace h := (if_pos c151).symm.trans h
    refine g_iconst hC dX6_readOperator_158 (v := (1 : Int32)) (by decide) ?_
    refine g_puti hC fd_RX6_60 rfl (by decide) rfl dX6_readOperator_159 (nm_e ?_)
    refine g_aload_n hC dX6_readOperator_162 rfl (q := 0) rfl ?_
    obtain ⟨p163, e163, h⟩ := oB_some h
    have hp163 : mO8 R p163 := ob8 hW.1 (hW.2.2.2 p163 e163)
    refine g_getr hC fd_RX6_57 rfl (by decide) (C0 := _) (t0 := .int) (Or.inl rfl) e163 dX6_readOperator_163 ?_
    refine g_iload_n hC dX6_readOperator_166 rfl (q := 1) rfl ?_
    obtain ⟨r167, h167, h⟩ := oB_some h
    refine g_cV0 hC cv_X8_join wd_1099 ⟨Nat.le_of_ble_eq_true rfl, Nat.le_of_ble_eq_true rfl⟩ hp163.2.1 hp163.1 dX6_readOperator_167 (As := [.int v1]) (st := []) (ok_X8_join hC.2.2.2.2.2.2.2.1 hp163 h167) rfl rfl (Nat.le_of_ble_eq_true rfl) ⟨Nat.zero_le _, Nat.zero_le _⟩ ?_
    refine g_iconst hC dX6_readOperator_170 (v := (1 : Int32)) (by decide) ?_
    cases h
    exact g_zret hC (by decide) hE rfl dX6_readOperator_171 (Nat.zero_le _) (Nat.zero_le _) ⟨rfl, rfl, rfl, rfl, rfl, rfl⟩
  · replace h := (if_neg c151).symm.trans h
    refine g_iconst hC dX6_readOperator_154 (v := (2 : Int32)) (by decide) ?_
    refine g_goto hC dX6_readOperator_155 (tgt := 159) (by decide) ?_
    refine g_puti hC fd_RX6_60 rfl (by decide) rfl dX6_readOperator_159 (nm_e ?_)
    refine g_aload_n hC dX6_readOperator_162 rfl (q := 0) rfl ?_
    obtain ⟨p163, e163, h⟩ := oB_some h
    have hp163 : mO8 R p163 := ob8 hW.1 (hW.2.2.2 p163 e163)
    refine g_getr hC fd_RX6_57 rfl (by decide) (C0 := _) (t0 := .int) (Or.inl rfl) e163 dX6_readOperator_163 ?_
    refine g_iload_n hC dX6_readOperator_166 rfl (q := 1) rfl ?_
    obtain ⟨r167, h167, h⟩ := oB_some h
    refine g_cV0 hC cv_X8_join wd_1099 ⟨Nat.le_of_ble_eq_true rfl, Nat.le_of_ble_eq_true rfl⟩ hp163.2.1 hp163.1 dX6_readOperator_167 (As := [.int v1]) (st := []) (ok_X8_join hC.2.2.2.2.2.2.2.1 hp163 h167) rfl rfl (Nat.le_of_ble_eq_true rfl) ⟨Nat.zero_le _, Nat.zero_le _⟩ ?_
    refine g_iconst hC dX6_readOperator_170 (v := (1 : Int32)) (by decide) ?_
    cases h
    exact g_zret hC (by decide) hE rfl dX6_readOperator_171 (Nat.zero_le _) (Nat.zero_le _) ⟨rfl, rfl, rfl, rfl, rfl, rfl⟩
noncomputable def b_X6_readOperator_105 (Fu : Nat) (R : mRT)  (v1 : Int32) (v2 : Int32) (s0 : Int32) (I : mIT) : Option (Int32 × mIT) :=
  if v2 = 0 then (if s0 = 0 then (b_X6_readOperator_149 Fu R v1 s0 I) else (b_X6_readOperator_149 Fu R v1 s0 (mU I 1 15 ((I 1 15) &&& (((1 : Int32) <<< ((I 1 14) &&& 31)) ^^^ (-1 : Int32)))))) else (b_X6_readOperator_149 Fu R v1 s0 (mU I 1 15 ((I 1 15) ||| ((1 : Int32) <<< ((I 1 14) &&& 31)))))
set_option maxRecDepth 20000 in
theorem bo_X6_readOperator_105 {X : mXT} {E : mEn} {Fu : Nat} {R : mRT} {L : mLT}  (hC : mC X E mX6_readOperator RX6 cX6_readOperator) (hW : mWd R)   {out : Int32 × mIT} (hE : mEd X E 0 0 (mSame (some (.int (out.1))) 106 1 (out.2) R L))  (v1 : Int32) (v2 : Int32) (s0 : Int32) (I : mIT) (h : b_X6_readOperator_105 Fu R  v1 v2 s0 I = some out) : mG X E 105 [(0, .ref (mB E + 1)), (1, .int v1), (2, .int v2)] [.int s0] 106 1 I R L 0 0 := by
  unfold b_X6_readOperator_105 at h
  refine g_istore_n hC dX6_readOperator_105 rfl rfl (by decide) (lv' := [(3, .int s0), (0, .ref (mB E + 1)), (1, .int v1), (2, .int v2)]) rfl ?_
  refine g_iload_n hC dX6_readOperator_106 rfl (q := 3) rfl ?_
  refine g_if_eq hC dX6_readOperator_107 (tgt := 128) (by decide) (fun c107 => ?_) (fun c107 => ?_)
  · replace h := (if_pos c107).symm.trans h
    refine g_iload_n hC dX6_readOperator_128 rfl (q := 0) rfl ?_
    refine g_if_eq hC dX6_readOperator_129 (tgt := 149) (by decide) (fun c129 => ?_) (fun c129 => ?_)
    · replace h := (if_pos c129).symm.trans h
      refine g_lv [1, 2, 0] rfl ?_
      exact bo_X6_readOperator_149 hC hW hE (v1) (s0) (I) h
    · replace h := (if_neg c129).symm.trans h
      refine g_aload_n hC dX6_readOperator_132 rfl (q := 1) rfl ?_
      refine g_dup hC dX6_readOperator_133 rfl ?_
      refine g_geti hC fd_RX6_66 rfl (by decide) (Or.inl rfl) dX6_readOperator_134 ?_
      refine g_iconst hC dX6_readOperator_137 (v := (1 : Int32)) (by decide) ?_
      refine g_aload_n hC dX6_readOperator_138 rfl (q := 1) rfl ?_
      refine g_geti hC fd_RX6_63 rfl (by decide) (Or.inl rfl) dX6_readOperator_139 ?_
      refine g_ishl hC dX6_readOperator_142 ?_
      refine g_iconst hC dX6_readOperator_143 (v := (-1 : Int32)) (by decide) ?_
      refine g_ixor hC dX6_readOperator_144 ?_
      refine g_iand hC dX6_readOperator_145 ?_
      refine g_puti hC fd_RX6_66 rfl (by decide) rfl dX6_readOperator_146 (nm_e ?_)
      refine g_lv [1, 2, 0] rfl ?_
      exact bo_X6_readOperator_149 hC hW hE (v1) (s0) ((mU I 1 15 ((I 1 15) &&& (((1 : Int32) <<< ((I 1 14) &&& 31)) ^^^ (-1 : Int32))))) h
  · replace h := (if_neg c107).symm.trans h
    refine g_aload_n hC dX6_readOperator_110 rfl (q := 1) rfl ?_
    refine g_dup hC dX6_readOperator_111 rfl ?_
    refine g_geti hC fd_RX6_66 rfl (by decide) (Or.inl rfl) dX6_readOperator_112 ?_
    refine g_iconst hC dX6_readOperator_115 (v := (1 : Int32)) (by decide) ?_
    refine g_aload_n hC dX6_readOperator_116 rfl (q := 1) rfl ?_
    refine g_geti hC fd_RX6_63 rfl (by decide) (Or.inl rfl) dX6_readOperator_117 ?_
    refine g_ishl hC dX6_readOperator_120 ?_
    refine g_ior hC dX6_readOperator_121 ?_
    refine g_puti hC fd_RX6_66 rfl (by decide) rfl dX6_readOperator_122 (nm_e ?_)
    refine g_goto hC dX6_readOperator_125 (tgt := 149) (by decide) ?_
    refine g_lv [1, 2, 0] rfl ?_
    exact bo_X6_readOperator_149 hC hW hE (v1) (s0) ((mU I 1 15 ((I 1 15) ||| ((1 : Int32) <<< ((I 1 14) &&& 31))))) h
noncomputable def b_X6_readOperator_100 (Fu : Nat) (R : mRT)  (v1 : Int32) (v2 : Int32) (I : mIT) : Option (Int32 × mIT) :=
  b_X6_readOperator_105 Fu R v1 v2 (1 : Int32) I
set_option maxRecDepth 20000 in
theorem bo_X6_readOperator_100 {X : mXT} {E : mEn} {Fu : Nat} {R : mRT} {L : mLT}  (hC : mC X E mX6_readOperator RX6 cX6_readOperator) (hW : mWd R)   {out : Int32 × mIT} (hE : mEd X E 0 0 (mSame (some (.int (out.1))) 106 1 (out.2) R L))  (v1 : Int32) (v2 : Int32) (I : mIT) (h : b_X6_readOperator_100 Fu R  v1 v2 I = some out) : mG X E 100 [(0, .ref (mB E + 1)), (1, .int v1), (2, .int v2)] [] 106 1 I R L 0 0 := by
  unfold b_X6_readOperator_100 at h
  refine g_iconst hC dX6_readOperator_100 (v := (1 : Int32)) (by decide) ?_
  refine g_goto hC dX6_readOperator_101 (tgt := 105) (by decide) ?_
  exact bo_X6_readOperator_105 hC hW hE (v1) (v2) ((1 : Int32)) (I) h
noncomputable def b_X6_readOperator_88 (Fu : Nat) (R : mRT)  (v1 : Int32) (v2 : Int32) (I : mIT) : Option (Int32 × mIT) :=
  if v1 = (10 : Int32) then (b_X6_readOperator_100 Fu R v1 v2 I) else (if v1 = (20 : Int32) then (b_X6_readOperator_100 Fu R v1 v2 I) else (b_X6_readOperator_105 Fu R v1 v2 (0 : Int32) I))
set_option maxRecDepth 20000 in
theorem bo_X6_readOperator_88 {X : mXT} {E : mEn} {Fu : Nat} {R : mRT} {L : mLT}  (hC : mC X E mX6_readOperator RX6 cX6_readOperator) (hW : mWd R)   {out : Int32 × mIT} (hE : mEd X E 0 0 (mSame (some (.int (out.1))) 106 1 (out.2) R L))  (v1 : Int32) (v2 : Int32) (I : mIT) (h : b_X6_readOperator_88 Fu R  v1 v2 I = some out) : mG X E 88 [(0, .ref (mB E + 1)), (1, .int v1), (2, .int v2)] [] 106 1 I R L 0 0 := by
  unfold b_X6_readOperator_88 at h
  refine g_iload_n hC dX6_readOperator_88 rfl (q := 1) rfl ?_
  refine g_bipush hC dX6_readOperator_89 (v := (10 : Int32)) (by decide) ?_
  refine g_ic_eq hC dX6_readOperator_91 (tgt := 100) (by decide) (fun c91 => ?_) (fun c91 => ?_)
  · replace h := (if_pos c91).symm.trans h
    exact bo_X6_readOperator_100 hC hW hE (v1) (v2) (I) h
  · replace h := (if_neg c91).symm.trans h
    refine g_iload_n hC dX6_readOperator_94 rfl (q := 1) rfl ?_
    refine g_bipush hC dX6_readOperator_95 (v := (20 : Int32)) (by decide) ?_
    refine g_ic_ne hC dX6_readOperator_97 (tgt := 104) (by decide) (fun c97 => ?_) (fun c97 => ?_)
    · replace h := (if_neg c97).symm.trans h
      refine g_iconst hC dX6_readOperator_104 (v := (0 : Int32)) (by decide) ?_
      exact bo_X6_readOperator_105 hC hW hE (v1) (v2) ((0 : Int32)) (I) h
    · replace h := (if_pos c97).symm.trans h
      exact bo_X6_readOperator_100 hC hW hE (v1) (v2) (I) h
noncomputable def b_X6_readOperator_57 (Fu : Nat) (R : mRT)  (v1 : Int32) (s0 : Int32) (I : mIT) : Option (Int32 × mIT) :=
  if v1 = (-1 : Int32) then (oB (f_X6_refuse Fu I (1 : Int32)) (fun r84 => oG (isB r84.1) (some (r84.1, r84.2)))) else (if s0 = 0 then (b_X6_readOperator_88 Fu R v1 s0 I) else (if (((I 1 15) >>> ((I 1 14) &&& 31)) &&& (1 : Int32)) = (1 : Int32) then (oB (f_X6_refuse Fu I (1 : Int32)) (fun r84 => oG (isB r84.1) (some (r84.1, r84.2)))) else (b_X6_readOperator_88 Fu R v1 s0 I)))
set_option maxRecDepth 20000 in
theorem bo_X6_readOperator_57 {X : mXT} {E : mEn} {Fu : Nat} {R : mRT} {L : mLT}  (hC : mC X E mX6_readOperator RX6 cX6_readOperator) (hW : mWd R)   {out : Int32 × mIT} (hE : mEd X E 0 0 (mSame (some (.int (out.1))) 106 1 (out.2) R L))  (v1 : Int32) (s0 : Int32) (I : mIT) (h : b_X6_readOperator_57 Fu R  v1 s0 I = some out) : mG X E 57 [(0, .ref (mB E + 1)), (1, .int v1)] [.int s0] 106 1 I R L 0 0 := by
  unfold b_X6_readOperator_57 at h
  refine g_istore_n hC dX6_readOperator_57 rfl rfl (by decide) (lv' := [(2, .int s0), (0, .ref (mB E + 1)), (1, .int v1)]) rfl ?_
  refine g_iload_n hC dX6_readOperator_58 rfl (q := 2) rfl ?_
  refine g_iconst hC dX6_readOperator_59 (v := (-1 : Int32)) (by decide) ?_
  refine g_ic_eq hC dX6_readOperator_60 (tgt := 82) (by decide) (fun c60 => ?_) (fun c60 => ?_)
  · replace h := (if_pos c60).symm.trans h
    refine g_aload_n hC dX6_readOperator_82 rfl (q := 1) rfl ?_
    refine g_iconst hC dX6_readOperator_83 (v := (1 : Int32)) (by decide) ?_
    obtain ⟨r84, h84, h⟩ := oB_some h
    refine g_cV1 hC cv_X6_refuse wd_1018 ⟨Nat.le_of_ble_eq_true rfl, Nat.le_of_ble_eq_true rfl⟩ rfl (by decide) dX6_readOperator_84 (As := [.int (1 : Int32)]) (st := []) (ok_X6_refuse hC.2.2.2.2.2.2.2.1 hW h84) rfl rfl (Nat.le_of_ble_eq_true rfl) ⟨Nat.zero_le _, Nat.zero_le _⟩ ?_
    obtain ⟨g87, h⟩ := oG_some h
    cases h
    exact g_zret hC (isB_or g87) hE rfl dX6_readOperator_87 (Nat.zero_le _) (Nat.zero_le _) ⟨rfl, rfl, rfl, rfl, rfl, rfl⟩
  · replace h := (if_neg c60).symm.trans h
    refine g_iload_n hC dX6_readOperator_63 rfl (q := 0) rfl ?_
    refine g_if_eq hC dX6_readOperator_64 (tgt := 88) (by decide) (fun c64 => ?_) (fun c64 => ?_)
    · replace h := (if_pos c64).symm.trans h
      refine g_lv [1, 2, 0] rfl ?_
      exact bo_X6_readOperator_88 hC hW hE (v1) (s0) (I) h
    · replace h := (if_neg c64).symm.trans h
      refine g_aload_n hC dX6_readOperator_67 rfl (q := 1) rfl ?_
      refine g_geti hC fd_RX6_66 rfl (by decide) (Or.inl rfl) dX6_readOperator_68 ?_
      refine g_aload_n hC dX6_readOperator_71 rfl (q := 1) rfl ?_
      refine g_geti hC fd_RX6_63 rfl (by decide) (Or.inl rfl) dX6_readOperator_72 ?_
      refine g_ishr hC dX6_readOperator_75 ?_
      refine g_iconst hC dX6_readOperator_76 (v := (1 : Int32)) (by decide) ?_
      refine g_iand hC dX6_readOperator_77 ?_
      refine g_iconst hC dX6_readOperator_78 (v := (1 : Int32)) (by decide) ?_
      refine g_ic_ne hC dX6_readOperator_79 (tgt := 88) (by decide) (fun c79 => ?_) (fun c79 => ?_)
      · replace h := (if_neg c79).symm.trans h
        refine g_lv [1, 2, 0] rfl ?_
        exact bo_X6_readOperator_88 hC hW hE (v1) (s0) (I) h
      · replace h := (if_pos c79).symm.trans h
        refine g_aload_n hC dX6_readOperator_82 rfl (q := 1) rfl ?_
        refine g_iconst hC dX6_readOperator_83 (v := (1 : Int32)) (by decide) ?_
        obtain ⟨r84, h84, h⟩ := oB_some h
        refine g_cV1 hC cv_X6_refuse wd_1018 ⟨Nat.le_of_ble_eq_true rfl, Nat.le_of_ble_eq_true rfl⟩ rfl (by decide) dX6_readOperator_84 (As := [.int (1 : Int32)]) (st := []) (ok_X6_refuse hC.2.2.2.2.2.2.2.1 hW h84) rfl rfl (Nat.le_of_ble_eq_true rfl) ⟨Nat.zero_le _, Nat.zero_le _⟩ ?_
        obtain ⟨g87, h⟩ := oG_some h
        cases h
        exact g_zret hC (isB_or g87) hE rfl dX6_readOperator_87 (Nat.zero_le _) (Nat.zero_le _) ⟨rfl, rfl, rfl, rfl, rfl, rfl⟩
noncomputable def b_X6_readOperator_52 (Fu : Nat) (R : mRT)  (v1 : Int32) (I : mIT) : Option (Int32 × mIT) :=
  b_X6_readOperator_57 Fu R v1 (1 : Int32) I
set_option maxRecDepth 20000 in
theorem bo_X6_readOperator_52 {X : mXT} {E : mEn} {Fu : Nat} {R : mRT} {L : mLT}  (hC : mC X E mX6_readOperator RX6 cX6_readOperator) (hW : mWd R)   {out : Int32 × mIT} (hE : mEd X E 0 0 (mSame (some (.int (out.1))) 106 1 (out.2) R L))  (v1 : Int32) (I : mIT) (h : b_X6_readOperator_52 Fu R  v1 I = some out) : mG X E 52 [(0, .ref (mB E + 1)), (1, .int v1)] [] 106 1 I R L 0 0 := by
  unfold b_X6_readOperator_52 at h
  refine g_iconst hC dX6_readOperator_52 (v := (1 : Int32)) (by decide) ?_
  refine g_goto hC dX6_readOperator_53 (tgt := 57) (by decide) ?_
  exact bo_X6_readOperator_57 hC hW hE (v1) ((1 : Int32)) (I) h
noncomputable def b_X6_readOperator_35 (Fu : Nat) (R : mRT)  (I : mIT) : Option (Int32 × mIT) :=
  oB (f_X6_operatorHere Fu I) (fun r36 => if r36 = (40 : Int32) then (b_X6_readOperator_52 Fu R r36 I) else (if r36 = (41 : Int32) then (b_X6_readOperator_52 Fu R r36 I) else (b_X6_readOperator_57 Fu R r36 (0 : Int32) I)))
set_option maxRecDepth 20000 in
theorem bo_X6_readOperator_35 {X : mXT} {E : mEn} {Fu : Nat} {R : mRT} {L : mLT}  (hC : mC X E mX6_readOperator RX6 cX6_readOperator) (hW : mWd R)   {out : Int32 × mIT} (hE : mEd X E 0 0 (mSame (some (.int (out.1))) 106 1 (out.2) R L))  (I : mIT) (h : b_X6_readOperator_35 Fu R  I = some out) : mG X E 35 [(0, .ref (mB E + 1))] [] 106 1 I R L 0 0 := by
  unfold b_X6_readOperator_35 at h
  refine g_aload_n hC dX6_readOperator_35 rfl (q := 0) rfl ?_
  obtain ⟨r36, h36, h⟩ := oB_some h
  refine g_cV1 hC cv_X6_operatorHere wd_1093 ⟨Nat.le_of_ble_eq_true rfl, Nat.le_of_ble_eq_true rfl⟩ rfl (by decide) dX6_readOperator_36 (As := []) (st := []) (ok_X6_operatorHere hC.2.2.2.2.2.2.2.1 hW h36) rfl rfl (Nat.le_of_ble_eq_true rfl) ⟨Nat.zero_le _, Nat.zero_le _⟩ ?_
  refine g_istore_n hC dX6_readOperator_39 rfl rfl (by decide) (lv' := [(1, .int r36), (0, .ref (mB E + 1))]) rfl ?_
  refine g_iload_n hC dX6_readOperator_40 rfl (q := 0) rfl ?_
  refine g_bipush hC dX6_readOperator_41 (v := (40 : Int32)) (by decide) ?_
  refine g_ic_eq hC dX6_readOperator_43 (tgt := 52) (by decide) (fun c43 => ?_) (fun c43 => ?_)
  · replace h := (if_pos c43).symm.trans h
    refine g_lv [1, 0] rfl ?_
    exact bo_X6_readOperator_52 hC hW hE (r36) (I) h
  · replace h := (if_neg c43).symm.trans h
    refine g_iload_n hC dX6_readOperator_46 rfl (q := 0) rfl ?_
    refine g_bipush hC dX6_readOperator_47 (v := (41 : Int32)) (by decide) ?_
    refine g_ic_ne hC dX6_readOperator_49 (tgt := 56) (by decide) (fun c49 => ?_) (fun c49 => ?_)
    · replace h := (if_neg c49).symm.trans h
      refine g_iconst hC dX6_readOperator_56 (v := (0 : Int32)) (by decide) ?_
      refine g_lv [1, 0] rfl ?_
      exact bo_X6_readOperator_57 hC hW hE (r36) ((0 : Int32)) (I) h
    · replace h := (if_pos c49).symm.trans h
      refine g_lv [1, 0] rfl ?_
      exact bo_X6_readOperator_52 hC hW hE (r36) (I) h
noncomputable def f_X6_readOperator (Fu : Nat) (R : mRT) (I : mIT)  : Option (Int32 × mIT) :=
  oB (f_X6_isAtSign Fu I (41 : Int32)) (fun r3 => if r3 = 0 then (b_X6_readOperator_35 Fu R I) else (if (I 1 14) ≤ 0 then (b_X6_readOperator_35 Fu R I) else (oB (R 1 12) (fun p17 => oB (f_X8_close Fu I p17) (fun r20 => some ((1 : Int32), (mU r20 1 14 ((r20 1 14) - (1 : Int32)))))))))
set_option maxRecDepth 20000 in
theorem ok_X6_readOperator {l : Launch} {E : mEn} {Fu : Nat} {I : mIT} {R : mRT} {L : mLT}  (hst : l.stackTraces = false) (hW : mWd R)  {out : Int32 × mIT} (h : f_X6_readOperator Fu R I  = some out) : mOk l E mX6_readOperator [.ref (mB E + 1)] 106 1 I R L 0 0 (mSame (some (.int (out.1))) 106 1 (out.2) R L) := by
  refine mOk_of hst (by decide) (Nat.le_of_ble_eq_true rfl) (fun X hC hE _ => ?_)
  have hC : mC X E mX6_readOperator RX6 cX6_readOperator := hC
  show mG X E 0 [(0, .ref (mB E + 1))] [] 106 1 I R L 0 0
  unfold f_X6_readOperator at h
  refine g_aload_n hC dX6_readOperator_0 rfl (q := 0) rfl ?_
  refine g_bipush hC dX6_readOperator_1 (v := (41 : Int32)) (by decide) ?_
  obtain ⟨r3, h3, h⟩ := oB_some h
  refine g_cV1 hC cv_X6_isAtSign wd_1044 ⟨Nat.le_of_ble_eq_true rfl, Nat.le_of_ble_eq_true rfl⟩ rfl (by decide) dX6_readOperator_3 (As := [.int (41 : Int32)]) (st := []) (ok_X6_isAtSign hC.2.2.2.2.2.2.2.1 hW h3) rfl rfl (Nat.le_of_ble_eq_true rfl) ⟨Nat.zero_le _, Nat.zero_le _⟩ ?_
  refine g_if_eq hC dX6_readOperator_6 (tgt := 35) (by decide) (fun c6 => ?_) (fun c6 => ?_)
  · replace h := (if_pos c6).symm.trans h
    exact bo_X6_readOperator_35 hC hW hE (I) h
  · replace h := (if_neg c6).symm.trans h
    refine g_aload_n hC dX6_readOperator_9 rfl (q := 0) rfl ?_
    refine g_geti hC fd_RX6_63 rfl (by decide) (Or.inl rfl) dX6_readOperator_10 ?_
    refine g_if_le hC dX6_readOperator_13 (tgt := 35) (by decide) (fun c13 => ?_) (fun c13 => ?_)
    · replace h := (if_pos c13).symm.trans h
      exact bo_X6_readOperator_35 hC hW hE (I) h
    · replace h := (if_neg c13).symm.trans h
      refine g_aload_n hC dX6_readOperator_16 rfl (q := 0) rfl ?_
      obtain ⟨p17, e17, h⟩ := oB_some h
      have hp17 : mO8 R p17 := ob8 hW.1 (hW.2.2.2 p17 e17)
      refine g_getr hC fd_RX6_57 rfl (by decide) (C0 := _) (t0 := .int) (Or.inl rfl) e17 dX6_readOperator_17 ?_
      obtain ⟨r20, h20, h⟩ := oB_some h
      refine g_cV0 hC cv_X8_close wd_1085 ⟨Nat.le_of_ble_eq_true rfl, Nat.le_of_ble_eq_true rfl⟩ hp17.2.1 hp17.1 dX6_readOperator_20 (As := []) (st := []) (ok_X8_close hC.2.2.2.2.2.2.2.1 hp17 h20) rfl rfl (Nat.le_of_ble_eq_true rfl) ⟨Nat.zero_le _, Nat.zero_le _⟩ ?_
      refine g_aload_n hC dX6_readOperator_23 rfl (q := 0) rfl ?_
      refine g_dup hC dX6_readOperator_24 rfl ?_
      refine g_geti hC fd_RX6_63 rfl (by decide) (Or.inl rfl) dX6_readOperator_25 ?_
      refine g_iconst hC dX6_readOperator_28 (v := (1 : Int32)) (by decide) ?_
      refine g_isub hC dX6_readOperator_29 ?_
      refine g_puti hC fd_RX6_63 rfl (by decide) rfl dX6_readOperator_30 (nm_e ?_)
      refine g_iconst hC dX6_readOperator_33 (v := (1 : Int32)) (by decide) ?_
      cases h
      exact g_zret hC (by decide) hE rfl dX6_readOperator_34 (Nat.zero_le _) (Nat.zero_le _) ⟨rfl, rfl, rfl, rfl, rfl, rfl⟩
noncomputable def f_X6_valueWord (Fu : Nat) (I : mIT)  : Option (Int32) :=
  oB (f_X6_isAtWord Fu I 14) (fun r3 => if r3 = 0 then (oB (f_X6_isAtWord Fu I 15) (fun r16 => if r16 = 0 then (oB (f_X6_isAtWord Fu I 16) (fun r29 => if r29 = 0 then (oB (f_X6_isAtWord Fu I 17) (fun r42 => if r42 = 0 then (oB (f_X6_isAtWord Fu I 5) (fun r55 => if r55 = 0 then (oB (f_X6_isAtWord Fu I 18) (fun r68 => if r68 = 0 then (oB (f_X6_isAtWord Fu I 19) (fun r81 => if r81 = 0 then (some (-1 : Int32)) else (some (6 : Int32)))) else (some (5 : Int32)))) else (some (4 : Int32)))) else (some (3 : Int32)))) else (some (2 : Int32)))) else (some (1 : Int32)))) else (some (0 : Int32)))
set_option maxRecDepth 20000 in
theorem ok_X6_valueWord {l : Launch} {E : mEn} {Fu : Nat} {I : mIT} {R : mRT} {L : mLT}  (hst : l.stackTraces = false) (hW : mWd R)  {out : Int32} (h : f_X6_valueWord Fu I  = some out) : mOk l E mX6_valueWord [.ref (mB E + 1)] 106 1 I R L 0 0 (mSame (some (.int (out))) 106 1 I R L) := by
  refine mOk_of hst (by decide) (Nat.le_of_ble_eq_true rfl) (fun X hC hE _ => ?_)
  have hC : mC X E mX6_valueWord RX6 cX6_valueWord := hC
  show mG X E 0 [(0, .ref (mB E + 1))] [] 106 1 I R L 0 0
  unfold f_X6_valueWord at h
  refine g_aload_n hC dX6_valueWord_0 rfl (q := 0) rfl ?_
  refine g_lds hC dX6_valueWord_1 (j := 14) rfl ?_
  obtain ⟨r3, h3, h⟩ := oB_some h
  refine g_cV1 hC cv_X6_isAtWord wd_957 ⟨Nat.le_of_ble_eq_true rfl, Nat.le_of_ble_eq_true rfl⟩ rfl (by decide) dX6_valueWord_3 (As := [.ref (E.2.2.2 14)]) (st := []) (ok_X6_isAtWord hC.2.2.2.2.2.2.2.1 hW (by decide) h3) rfl rfl (Nat.le_of_ble_eq_true rfl) ⟨Nat.zero_le _, Nat.zero_le _⟩ ?_
  refine g_if_eq hC dX6_valueWord_6 (tgt := 13) (by decide) (fun c6 => ?_) (fun c6 => ?_)
  · replace h := (if_pos c6).symm.trans h
    refine g_aload_n hC dX6_valueWord_13 rfl (q := 0) rfl ?_
    refine g_lds hC dX6_valueWord_14 (j := 15) rfl ?_
    obtain ⟨r16, h16, h⟩ := oB_some h
    refine g_cV1 hC cv_X6_isAtWord wd_957 ⟨Nat.le_of_ble_eq_true rfl, Nat.le_of_ble_eq_true rfl⟩ rfl (by decide) dX6_valueWord_16 (As := [.ref (E.2.2.2 15)]) (st := []) (ok_X6_isAtWord hC.2.2.2.2.2.2.2.1 hW (by decide) h16) rfl rfl (Nat.le_of_ble_eq_true rfl) ⟨Nat.zero_le _, Nat.zero_le _⟩ ?_
    refine g_if_eq hC dX6_valueWord_19 (tgt := 26) (by decide) (fun c19 => ?_) (fun c19 => ?_)
    · replace h := (if_pos c19).symm.trans h
      refine g_aload_n hC dX6_valueWord_26 rfl (q := 0) rfl ?_
      refine g_lds hC dX6_valueWord_27 (j := 16) rfl ?_
      obtain ⟨r29, h29, h⟩ := oB_some h
      refine g_cV1 hC cv_X6_isAtWord wd_957 ⟨Nat.le_of_ble_eq_true rfl, Nat.le_of_ble_eq_true rfl⟩ rfl (by decide) dX6_valueWord_29 (As := [.ref (E.2.2.2 16)]) (st := []) (ok_X6_isAtWord hC.2.2.2.2.2.2.2.1 hW (by decide) h29) rfl rfl (Nat.le_of_ble_eq_true rfl) ⟨Nat.zero_le _, Nat.zero_le _⟩ ?_
      refine g_if_eq hC dX6_valueWord_32 (tgt := 39) (by decide) (fun c32 => ?_) (fun c32 => ?_)
      · replace h := (if_pos c32).symm.trans h
        refine g_aload_n hC dX6_valueWord_39 rfl (q := 0) rfl ?_
        refine g_lds hC dX6_valueWord_40 (j := 17) rfl ?_
        obtain ⟨r42, h42, h⟩ := oB_some h
        refine g_cV1 hC cv_X6_isAtWord wd_957 ⟨Nat.le_of_ble_eq_true rfl, Nat.le_of_ble_eq_true rfl⟩ rfl (by decide) dX6_valueWord_42 (As := [.ref (E.2.2.2 17)]) (st := []) (ok_X6_isAtWord hC.2.2.2.2.2.2.2.1 hW (by decide) h42) rfl rfl (Nat.le_of_ble_eq_true rfl) ⟨Nat.zero_le _, Nat.zero_le _⟩ ?_
        refine g_if_eq hC dX6_valueWord_45 (tgt := 52) (by decide) (fun c45 => ?_) (fun c45 => ?_)
        · replace h := (if_pos c45).symm.trans h
          refine g_aload_n hC dX6_valueWord_52 rfl (q := 0) rfl ?_
          refine g_lds hC dX6_valueWord_53 (j := 5) rfl ?_
          obtain ⟨r55, h55, h⟩ := oB_some h
          refine g_cV1 hC cv_X6_isAtWord wd_957 ⟨Nat.le_of_ble_eq_true rfl, Nat.le_of_ble_eq_true rfl⟩ rfl (by decide) dX6_valueWord_55 (As := [.ref (E.2.2.2 5)]) (st := []) (ok_X6_isAtWord hC.2.2.2.2.2.2.2.1 hW (by decide) h55) rfl rfl (Nat.le_of_ble_eq_true rfl) ⟨Nat.zero_le _, Nat.zero_le _⟩ ?_
          refine g_if_eq hC dX6_valueWord_58 (tgt := 65) (by decide) (fun c58 => ?_) (fun c58 => ?_)
          · replace h := (if_pos c58).symm.trans h
            refine g_aload_n hC dX6_valueWord_65 rfl (q := 0) rfl ?_
            refine g_lds hC dX6_valueWord_66 (j := 18) rfl ?_
            obtain ⟨r68, h68, h⟩ := oB_some h
            refine g_cV1 hC cv_X6_isAtWord wd_957 ⟨Nat.le_of_ble_eq_true rfl, Nat.le_of_ble_eq_true rfl⟩ rfl (by decide) dX6_valueWord_68 (As := [.ref (E.2.2.2 18)]) (st := []) (ok_X6_isAtWord hC.2.2.2.2.2.2.2.1 hW (by decide) h68) rfl rfl (Nat.le_of_ble_eq_true rfl) ⟨Nat.zero_le _, Nat.zero_le _⟩ ?_
            refine g_if_eq hC dX6_valueWord_71 (tgt := 78) (by decide) (fun c71 => ?_) (fun c71 => ?_)
            · replace h := (if_pos c71).symm.trans h
              refine g_aload_n hC dX6_valueWord_78 rfl (q := 0) rfl ?_
              refine g_lds hC dX6_valueWord_79 (j := 19) rfl ?_
              obtain ⟨r81, h81, h⟩ := oB_some h
              refine g_cV1 hC cv_X6_isAtWord wd_957 ⟨Nat.le_of_ble_eq_true rfl, Nat.le_of_ble_eq_true rfl⟩ rfl (by decide) dX6_valueWord_81 (As := [.ref (E.2.2.2 19)]) (st := []) (ok_X6_isAtWord hC.2.2.2.2.2.2.2.1 hW (by decide) h81) rfl rfl (Nat.le_of_ble_eq_true rfl) ⟨Nat.zero_le _, Nat.zero_le _⟩ ?_
              refine g_if_eq hC dX6_valueWord_84 (tgt := 92) (by decide) (fun c84 => ?_) (fun c84 => ?_)
              · replace h := (if_pos c84).symm.trans h
                refine g_iconst hC dX6_valueWord_92 (v := (-1 : Int32)) (by decide) ?_
                cases h
                exact g_iret hC hE rfl dX6_valueWord_93 (Nat.zero_le _) (Nat.zero_le _) ⟨rfl, rfl, rfl, rfl, rfl, rfl⟩
              · replace h := (if_neg c84).symm.trans h
                refine g_bipush hC dX6_valueWord_87 (v := (6 : Int32)) (by decide) ?_
                refine g_goto hC dX6_valueWord_89 (tgt := 93) (by decide) ?_
                cases h
                exact g_iret hC hE rfl dX6_valueWord_93 (Nat.zero_le _) (Nat.zero_le _) ⟨rfl, rfl, rfl, rfl, rfl, rfl⟩
            · replace h := (if_neg c71).symm.trans h
              refine g_iconst hC dX6_valueWord_74 (v := (5 : Int32)) (by decide) ?_
              refine g_goto hC dX6_valueWord_75 (tgt := 93) (by decide) ?_
              cases h
              exact g_iret hC hE rfl dX6_valueWord_93 (Nat.zero_le _) (Nat.zero_le _) ⟨rfl, rfl, rfl, rfl, rfl, rfl⟩
          · replace h := (if_neg c58).symm.trans h
            refine g_iconst hC dX6_valueWord_61 (v := (4 : Int32)) (by decide) ?_
            refine g_goto hC dX6_valueWord_62 (tgt := 93) (by decide) ?_
            cases h
            exact g_iret hC hE rfl dX6_valueWord_93 (Nat.zero_le _) (Nat.zero_le _) ⟨rfl, rfl, rfl, rfl, rfl, rfl⟩
        · replace h := (if_neg c45).symm.trans h
          refine g_iconst hC dX6_valueWord_48 (v := (3 : Int32)) (by decide) ?_
          refine g_goto hC dX6_valueWord_49 (tgt := 93) (by decide) ?_
          cases h
          exact g_iret hC hE rfl dX6_valueWord_93 (Nat.zero_le _) (Nat.zero_le _) ⟨rfl, rfl, rfl, rfl, rfl, rfl⟩
      · replace h := (if_neg c32).symm.trans h
        refine g_iconst hC dX6_valueWord_35 (v := (2 : Int32)) (by decide) ?_
        refine g_goto hC dX6_valueWord_36 (tgt := 93) (by decide) ?_
        cases h
        exact g_iret hC hE rfl dX6_valueWord_93 (Nat.zero_le _) (Nat.zero_le _) ⟨rfl, rfl, rfl, rfl, rfl, rfl⟩
    · replace h := (if_neg c19).symm.trans h
      refine g_iconst hC dX6_valueWord_22 (v := (1 : Int32)) (by decide) ?_
      refine g_goto hC dX6_valueWord_23 (tgt := 93) (by decide) ?_
      cases h
      exact g_iret hC hE rfl dX6_valueWord_93 (Nat.zero_le _) (Nat.zero_le _) ⟨rfl, rfl, rfl, rfl, rfl, rfl⟩
  · replace h := (if_neg c6).symm.trans h
    refine g_iconst hC dX6_valueWord_9 (v := (0 : Int32)) (by decide) ?_
    refine g_goto hC dX6_valueWord_10 (tgt := 93) (by decide) ?_
    cases h
    exact g_iret hC hE rfl dX6_valueWord_93 (Nat.zero_le _) (Nat.zero_le _) ⟨rfl, rfl, rfl, rfl, rfl, rfl⟩
noncomputable def f_X8_putOperand (Fu : Nat) (I : mIT) (k0 : Nat) (v1 : Int32) (v2 : Int32) : Option (mIT) :=
  if (I k0 5) < 0 then (some (I)) else (if (nI 700) ≤ (I k0 5) then (some (I)) else (if (nI 700) ≤ (I k0 5) then (some (I)) else (oG (inB (I k0 5) 700) (oG (inB ((mU I (k0 + 1) ((I k0 5)).toNatClampNeg v1) k0 5) 700) (some (mU (mU (mU I (k0 + 1) ((I k0 5)).toNatClampNeg v1) (k0 + 2) (((mU I (k0 + 1) ((I k0 5)).toNatClampNeg v1) k0 5)).toNatClampNeg v2) k0 5 (((mU (mU I (k0 + 1) ((I k0 5)).toNatClampNeg v1) (k0 + 2) (((mU I (k0 + 1) ((I k0 5)).toNatClampNeg v1) k0 5)).toNatClampNeg v2) k0 5) + (1 : Int32))))))))
set_option maxRecDepth 20000 in
theorem ok_X8_putOperand {l : Launch} {E : mEn} {Fu : Nat} {I : mIT} {R : mRT} {L : mLT} {k0 : Nat} {v1 : Int32} {v2 : Int32} (hst : l.stackTraces = false) (hk0 : mO8 R k0) {out : mIT} (h : f_X8_putOperand Fu I k0 v1 v2 = some out) : mOk l E mX8_putOperand [.ref (mB E + k0), .int v1, .int v2] 106 1 I R L 0 0 (mSame none 106 1 (out) R L) := by
  refine mOk_of hst (by decide) (Nat.le_of_ble_eq_true rfl) (fun X hC hE _ => ?_)
  have hC : mC X E mX8_putOperand RX8 cX8_putOperand := hC
  show mG X E 0 [(0, .ref (mB E + k0)), (1, .int v1), (2, .int v2)] [] 106 1 I R L 0 0
  unfold f_X8_putOperand at h
  refine g_aload_n hC dX8_putOperand_0 rfl (q := 0) rfl ?_
  refine g_geti hC fd_RX8_27 hk0.2.1 hk0.1 (Or.inl rfl) dX8_putOperand_1 ?_
  refine g_if_lt hC dX8_putOperand_4 (tgt := 61) (by decide) (fun c4 => ?_) (fun c4 => ?_)
  · replace h := (if_pos c4).symm.trans h
    cases h
    exact g_vret hC hE rfl dX8_putOperand_61 (Nat.zero_le _) (Nat.zero_le _) ⟨rfl, rfl, rfl, rfl, rfl, rfl⟩
  · replace h := (if_neg c4).symm.trans h
    refine g_aload_n hC dX8_putOperand_7 rfl (q := 0) rfl ?_
    refine g_geti hC fd_RX8_27 hk0.2.1 hk0.1 (Or.inl rfl) dX8_putOperand_8 ?_
    refine g_aload_n hC dX8_putOperand_11 rfl (q := 0) rfl ?_
    refine g_getr hC fd_RX8_9 hk0.2.1 hk0.1 (C0 := "") (t0 := _) (Or.inr rfl) hk0.2.2.1.1 dX8_putOperand_12 ?_
    refine g_alenI hC hk0.2.2.1.2.2 hk0.2.2.1.2.1 dX8_putOperand_15 ?_
    refine g_ic_ge hC dX8_putOperand_16 (tgt := 61) (by decide) (fun c16 => ?_) (fun c16 => ?_)
    · replace h := (if_pos c16).symm.trans h
      cases h
      exact g_vret hC hE rfl dX8_putOperand_61 (Nat.zero_le _) (Nat.zero_le _) ⟨rfl, rfl, rfl, rfl, rfl, rfl⟩
    · replace h := (if_neg c16).symm.trans h
      refine g_aload_n hC dX8_putOperand_19 rfl (q := 0) rfl ?_
      refine g_geti hC fd_RX8_27 hk0.2.1 hk0.1 (Or.inl rfl) dX8_putOperand_20 ?_
      refine g_aload_n hC dX8_putOperand_23 rfl (q := 0) rfl ?_
      refine g_getr hC fd_RX8_15 hk0.2.1 hk0.1 (C0 := "") (t0 := _) (Or.inr rfl) hk0.2.2.2.1.1 dX8_putOperand_24 ?_
      refine g_alenI hC hk0.2.2.2.1.2.2 hk0.2.2.2.1.2.1 dX8_putOperand_27 ?_
      refine g_ic_ge hC dX8_putOperand_28 (tgt := 61) (by decide) (fun c28 => ?_) (fun c28 => ?_)
      · replace h := (if_pos c28).symm.trans h
        cases h
        exact g_vret hC hE rfl dX8_putOperand_61 (Nat.zero_le _) (Nat.zero_le _) ⟨rfl, rfl, rfl, rfl, rfl, rfl⟩
      · replace h := (if_neg c28).symm.trans h
        refine g_aload_n hC dX8_putOperand_31 rfl (q := 0) rfl ?_
        refine g_getr hC fd_RX8_9 hk0.2.1 hk0.1 (C0 := "") (t0 := _) (Or.inr rfl) hk0.2.2.1.1 dX8_putOperand_32 ?_
        refine g_aload_n hC dX8_putOperand_35 rfl (q := 0) rfl ?_
        refine g_geti hC fd_RX8_27 hk0.2.1 hk0.1 (Or.inl rfl) dX8_putOperand_36 ?_
        refine g_iload_n hC dX8_putOperand_39 rfl (q := 1) rfl ?_
        obtain ⟨g40, h⟩ := oG_some h
        refine g_iast hC hk0.2.2.1.2.2 hk0.2.2.1.2.1 (inB_in g40) dX8_putOperand_40 (nm_e ?_)
        refine g_aload_n hC dX8_putOperand_41 rfl (q := 0) rfl ?_
        refine g_getr hC fd_RX8_15 hk0.2.1 hk0.1 (C0 := "") (t0 := _) (Or.inr rfl) hk0.2.2.2.1.1 dX8_putOperand_42 ?_
        refine g_aload_n hC dX8_putOperand_45 rfl (q := 0) rfl ?_
        refine g_geti hC fd_RX8_27 hk0.2.1 hk0.1 (Or.inl rfl) dX8_putOperand_46 ?_
        refine g_iload_n hC dX8_putOperand_49 rfl (q := 2) rfl ?_
        obtain ⟨g50, h⟩ := oG_some h
        refine g_iast hC hk0.2.2.2.1.2.2 hk0.2.2.2.1.2.1 (inB_in g50) dX8_putOperand_50 (nm_e ?_)
        refine g_aload_n hC dX8_putOperand_51 rfl (q := 0) rfl ?_
        refine g_dup hC dX8_putOperand_52 rfl ?_
        refine g_geti hC fd_RX8_27 hk0.2.1 hk0.1 (Or.inl rfl) dX8_putOperand_53 ?_
        refine g_iconst hC dX8_putOperand_56 (v := (1 : Int32)) (by decide) ?_
        refine g_iadd hC dX8_putOperand_57 ?_
        refine g_puti hC fd_RX8_27 hk0.2.1 hk0.1 rfl dX8_putOperand_58 (nm_e ?_)
        cases h
        exact g_vret hC hE rfl dX8_putOperand_61 (Nat.zero_le _) (Nat.zero_le _) ⟨rfl, rfl, rfl, rfl, rfl, rfl⟩
noncomputable def b_X6_readOperand_221 (Fu : Nat) (R : mRT) (p205 : Nat)  (v1 : Int32) (s1 : Int32) (I : mIT) : Option (Int32 × mIT) :=
  if (I 1 4) = (1 : Int32) then (oB (f_X8_putOperand Fu I p205 s1 v1) (fun r237 => some ((1 : Int32), (mU r237 1 13 (0 : Int32))))) else (oB (f_X8_putOperand Fu I p205 s1 (I 1 8)) (fun r237 => some ((1 : Int32), (mU r237 1 13 (0 : Int32)))))
set_option maxRecDepth 20000 in
theorem bo_X6_readOperand_221 {X : mXT} {E : mEn} {Fu : Nat} {R : mRT} {L : mLT} {p205 : Nat} (hC : mC X E mX6_readOperand RX6 cX6_readOperand) (hW : mWd R)   (hp205 : mO8 R p205) {out : Int32 × mIT} (hE : mEd X E 0 0 (mSame (some (.int (out.1))) 106 1 (out.2) R L))  (v1 : Int32) (s1 : Int32) (I : mIT) (h : b_X6_readOperand_221 Fu R p205  v1 s1 I = some out) : mG X E 221 [(0, .ref (mB E + 1)), (1, .int v1)] [.int s1, .ref (mB E + p205)] 106 1 I R L 0 0 := by
  unfold b_X6_readOperand_221 at h
  refine g_aload_n hC dX6_readOperand_221 rfl (q := 0) rfl ?_
  refine g_geti hC fd_RX6_25 rfl (by decide) (Or.inl rfl) dX6_readOperand_222 ?_
  refine g_iconst hC dX6_readOperand_225 (v := (1 : Int32)) (by decide) ?_
  refine g_ic_ne hC dX6_readOperand_226 (tgt := 233) (by decide) (fun c226 => ?_) (fun c226 => ?_)
  · replace h := (if_neg c226).symm.trans h
    refine g_aload_n hC dX6_readOperand_233 rfl (q := 0) rfl ?_
    refine g_geti hC fd_RX6_37 rfl (by decide) (Or.inl rfl) dX6_readOperand_234 ?_
    obtain ⟨r237, h237, h⟩ := oB_some h
    refine g_cV0 hC cv_X8_putOperand wd_1118 ⟨Nat.le_of_ble_eq_true rfl, Nat.le_of_ble_eq_true rfl⟩ hp205.2.1 hp205.1 dX6_readOperand_237 (As := [.int s1, .int (I 1 8)]) (st := []) (ok_X8_putOperand hC.2.2.2.2.2.2.2.1 hp205 h237) rfl rfl (Nat.le_of_ble_eq_true rfl) ⟨Nat.zero_le _, Nat.zero_le _⟩ ?_
    refine g_aload_n hC dX6_readOperand_240 rfl (q := 0) rfl ?_
    refine g_iconst hC dX6_readOperand_241 (v := (0 : Int32)) (by decide) ?_
    refine g_puti hC fd_RX6_60 rfl (by decide) rfl dX6_readOperand_242 (nm_e ?_)
    refine g_iconst hC dX6_readOperand_245 (v := (1 : Int32)) (by decide) ?_
    cases h
    exact g_zret hC (by decide) hE rfl dX6_readOperand_246 (Nat.zero_le _) (Nat.zero_le _) ⟨rfl, rfl, rfl, rfl, rfl, rfl⟩
  · replace h := (if_pos c226).symm.trans h
    refine g_iload_n hC dX6_readOperand_229 rfl (q := 1) rfl ?_
    refine g_goto hC dX6_readOperand_230 (tgt := 237) (by decide) ?_
    obtain ⟨r237, h237, h⟩ := oB_some h
    refine g_cV0 hC cv_X8_putOperand wd_1118 ⟨Nat.le_of_ble_eq_true rfl, Nat.le_of_ble_eq_true rfl⟩ hp205.2.1 hp205.1 dX6_readOperand_237 (As := [.int s1, .int v1]) (st := []) (ok_X8_putOperand hC.2.2.2.2.2.2.2.1 hp205 h237) rfl rfl (Nat.le_of_ble_eq_true rfl) ⟨Nat.zero_le _, Nat.zero_le _⟩ ?_
    refine g_aload_n hC dX6_readOperand_240 rfl (q := 0) rfl ?_
    refine g_iconst hC dX6_readOperand_241 (v := (0 : Int32)) (by decide) ?_
    refine g_puti hC fd_RX6_60 rfl (by decide) rfl dX6_readOperand_242 (nm_e ?_)
    refine g_iconst hC dX6_readOperand_245 (v := (1 : Int32)) (by decide) ?_
    cases h
    exact g_zret hC (by decide) hE rfl dX6_readOperand_246 (Nat.zero_le _) (Nat.zero_le _) ⟨rfl, rfl, rfl, rfl, rfl, rfl⟩
noncomputable def b_X6_readOperand_204 (Fu : Nat) (R : mRT)  (v1 : Int32) (I : mIT) : Option (Int32 × mIT) :=
  oB (R 1 12) (fun p205 => if (I 1 4) = (1 : Int32) then (b_X6_readOperand_221 Fu R p205 v1 (2 : Int32) I) else (b_X6_readOperand_221 Fu R p205 v1 (1 : Int32) I))
set_option maxRecDepth 20000 in
theorem bo_X6_readOperand_204 {X : mXT} {E : mEn} {Fu : Nat} {R : mRT} {L : mLT}  (hC : mC X E mX6_readOperand RX6 cX6_readOperand) (hW : mWd R)   {out : Int32 × mIT} (hE : mEd X E 0 0 (mSame (some (.int (out.1))) 106 1 (out.2) R L))  (v1 : Int32) (I : mIT) (h : b_X6_readOperand_204 Fu R  v1 I = some out) : mG X E 204 [(0, .ref (mB E + 1)), (1, .int v1)] [] 106 1 I R L 0 0 := by
  unfold b_X6_readOperand_204 at h
  refine g_aload_n hC dX6_readOperand_204 rfl (q := 0) rfl ?_
  obtain ⟨p205, e205, h⟩ := oB_some h
  have hp205 : mO8 R p205 := ob8 hW.1 (hW.2.2.2 p205 e205)
  refine g_getr hC fd_RX6_57 rfl (by decide) (C0 := _) (t0 := .int) (Or.inl rfl) e205 dX6_readOperand_205 ?_
  refine g_aload_n hC dX6_readOperand_208 rfl (q := 0) rfl ?_
  refine g_geti hC fd_RX6_25 rfl (by decide) (Or.inl rfl) dX6_readOperand_209 ?_
  refine g_iconst hC dX6_readOperand_212 (v := (1 : Int32)) (by decide) ?_
  refine g_ic_ne hC dX6_readOperand_213 (tgt := 220) (by decide) (fun c213 => ?_) (fun c213 => ?_)
  · replace h := (if_neg c213).symm.trans h
    refine g_iconst hC dX6_readOperand_220 (v := (1 : Int32)) (by decide) ?_
    exact bo_X6_readOperand_221 hC hW hp205 hE (v1) ((1 : Int32)) (I) h
  · replace h := (if_pos c213).symm.trans h
    refine g_iconst hC dX6_readOperand_216 (v := (2 : Int32)) (by decide) ?_
    refine g_goto hC dX6_readOperand_217 (tgt := 221) (by decide) ?_
    exact bo_X6_readOperand_221 hC hW hp205 hE (v1) ((2 : Int32)) (I) h
noncomputable def b_X6_readOperand_183 (Fu : Nat) (R : mRT)  (v1 : Int32) (I : mIT) : Option (Int32 × mIT) :=
  if (I 1 4) = (1 : Int32) then (b_X6_readOperand_204 Fu R v1 I) else (oB (f_X6_checkNumber Fu I (0 : Int32) (9999 : Int32)) (fun r196 => if r196.1 = 0 then (some ((0 : Int32), r196.2)) else (b_X6_readOperand_204 Fu R v1 r196.2)))
set_option maxRecDepth 20000 in
theorem bo_X6_readOperand_183 {X : mXT} {E : mEn} {Fu : Nat} {R : mRT} {L : mLT}  (hC : mC X E mX6_readOperand RX6 cX6_readOperand) (hW : mWd R)   {out : Int32 × mIT} (hE : mEd X E 0 0 (mSame (some (.int (out.1))) 106 1 (out.2) R L))  (v1 : Int32) (I : mIT) (h : b_X6_readOperand_183 Fu R  v1 I = some out) : mG X E 183 [(0, .ref (mB E + 1)), (1, .int v1)] [] 106 1 I R L 0 0 := by
  unfold b_X6_readOperand_183 at h
  refine g_aload_n hC dX6_readOperand_183 rfl (q := 0) rfl ?_
  refine g_geti hC fd_RX6_25 rfl (by decide) (Or.inl rfl) dX6_readOperand_184 ?_
  refine g_iconst hC dX6_readOperand_187 (v := (1 : Int32)) (by decide) ?_
  refine g_ic_eq hC dX6_readOperand_188 (tgt := 204) (by decide) (fun c188 => ?_) (fun c188 => ?_)
  · replace h := (if_pos c188).symm.trans h
    exact bo_X6_readOperand_204 hC hW hE (v1) (I) h
  · replace h := (if_neg c188).symm.trans h
    refine g_aload_n hC dX6_readOperand_191 rfl (q := 0) rfl ?_
    refine g_iconst hC dX6_readOperand_192 (v := (0 : Int32)) (by decide) ?_
    refine g_sipush hC dX6_readOperand_193 (v := (9999 : Int32)) (by decide) ?_
    obtain ⟨r196, h196, h⟩ := oB_some h
    refine g_cV1 hC cv_X6_checkNumber wd_1026 ⟨Nat.le_of_ble_eq_true rfl, Nat.le_of_ble_eq_true rfl⟩ rfl (by decide) dX6_readOperand_196 (As := [.int (0 : Int32), .int (9999 : Int32)]) (st := []) (ok_X6_checkNumber hC.2.2.2.2.2.2.2.1 hW h196) rfl rfl (Nat.le_of_ble_eq_true rfl) ⟨Nat.zero_le _, Nat.zero_le _⟩ ?_
    refine g_if_ne hC dX6_readOperand_199 (tgt := 204) (by decide) (fun c199 => ?_) (fun c199 => ?_)
    · replace h := (if_neg c199).symm.trans h
      exact bo_X6_readOperand_204 hC hW hE (v1) (r196.2) h
    · replace h := (if_pos c199).symm.trans h
      refine g_iconst hC dX6_readOperand_202 (v := (0 : Int32)) (by decide) ?_
      cases h
      exact g_zret hC (by decide) hE rfl dX6_readOperand_203 (Nat.zero_le _) (Nat.zero_le _) ⟨rfl, rfl, rfl, rfl, rfl, rfl⟩
noncomputable def b_X6_readOperand_103 (Fu : Nat) (R : mRT)  (I : mIT) : Option (Int32 × mIT) :=
  oB (f_X6_isAtSign Fu (mU I 1 16 (0 : Int32)) (40 : Int32)) (fun r111 => if r111 = 0 then (oB (f_X6_valueWord Fu (mU I 1 16 (0 : Int32))) (fun r160 => if ((mU I 1 16 (0 : Int32)) 1 4) = (1 : Int32) then (if r160 = (-1 : Int32) then (oB (f_X6_refuse Fu (mU I 1 16 (0 : Int32)) (3 : Int32)) (fun r179 => oG (isB r179.1) (some (r179.1, r179.2)))) else (b_X6_readOperand_183 Fu R r160 (mU I 1 16 (0 : Int32)))) else (b_X6_readOperand_183 Fu R r160 (mU I 1 16 (0 : Int32))))) else (oB (R 1 12) (fun p118 => oB (f_X8_join Fu (mU I 1 16 (0 : Int32)) p118 (0 : Int32)) (fun r122 => some ((1 : Int32), (mU (mU (mU r122 1 14 ((r122 1 14) + (1 : Int32))) 1 15 (((mU r122 1 14 ((r122 1 14) + (1 : Int32))) 1 15) &&& (((1 : Int32) <<< (((mU r122 1 14 ((r122 1 14) + (1 : Int32))) 1 14) &&& 31)) ^^^ (-1 : Int32)))) 1 13 (2 : Int32)))))))
set_option maxRecDepth 20000 in
theorem bo_X6_readOperand_103 {X : mXT} {E : mEn} {Fu : Nat} {R : mRT} {L : mLT}  (hC : mC X E mX6_readOperand RX6 cX6_readOperand) (hW : mWd R)   {out : Int32 × mIT} (hE : mEd X E 0 0 (mSame (some (.int (out.1))) 106 1 (out.2) R L))  (I : mIT) (h : b_X6_readOperand_103 Fu R  I = some out) : mG X E 103 [(0, .ref (mB E + 1))] [] 106 1 I R L 0 0 := by
  unfold b_X6_readOperand_103 at h
  refine g_aload_n hC dX6_readOperand_103 rfl (q := 0) rfl ?_
  refine g_iconst hC dX6_readOperand_104 (v := (0 : Int32)) (by decide) ?_
  refine g_puti hC fd_RX6_69 rfl (by decide) rfl dX6_readOperand_105 (nm_e ?_)
  refine g_aload_n hC dX6_readOperand_108 rfl (q := 0) rfl ?_
  refine g_bipush hC dX6_readOperand_109 (v := (40 : Int32)) (by decide) ?_
  obtain ⟨r111, h111, h⟩ := oB_some h
  refine g_cV1 hC cv_X6_isAtSign wd_1044 ⟨Nat.le_of_ble_eq_true rfl, Nat.le_of_ble_eq_true rfl⟩ rfl (by decide) dX6_readOperand_111 (As := [.int (40 : Int32)]) (st := []) (ok_X6_isAtSign hC.2.2.2.2.2.2.2.1 hW h111) rfl rfl (Nat.le_of_ble_eq_true rfl) ⟨Nat.zero_le _, Nat.zero_le _⟩ ?_
  refine g_if_eq hC dX6_readOperand_114 (tgt := 159) (by decide) (fun c114 => ?_) (fun c114 => ?_)
  · replace h := (if_pos c114).symm.trans h
    refine g_aload_n hC dX6_readOperand_159 rfl (q := 0) rfl ?_
    obtain ⟨r160, h160, h⟩ := oB_some h
    refine g_cV1 hC cv_X6_valueWord wd_1108 ⟨Nat.le_of_ble_eq_true rfl, Nat.le_of_ble_eq_true rfl⟩ rfl (by decide) dX6_readOperand_160 (As := []) (st := []) (ok_X6_valueWord hC.2.2.2.2.2.2.2.1 hW h160) rfl rfl (Nat.le_of_ble_eq_true rfl) ⟨Nat.zero_le _, Nat.zero_le _⟩ ?_
    refine g_istore_n hC dX6_readOperand_163 rfl rfl (by decide) (lv' := [(1, .int r160), (0, .ref (mB E + 1))]) rfl ?_
    refine g_aload_n hC dX6_readOperand_164 rfl (q := 1) rfl ?_
    refine g_geti hC fd_RX6_25 rfl (by decide) (Or.inl rfl) dX6_readOperand_165 ?_
    refine g_iconst hC dX6_readOperand_168 (v := (1 : Int32)) (by decide) ?_
    refine g_ic_ne hC dX6_readOperand_169 (tgt := 183) (by decide) (fun c169 => ?_) (fun c169 => ?_)
    · replace h := (if_neg c169).symm.trans h
      refine g_lv [1, 0] rfl ?_
      exact bo_X6_readOperand_183 hC hW hE (r160) ((mU I 1 16 (0 : Int32))) h
    · replace h := (if_pos c169).symm.trans h
      refine g_iload_n hC dX6_readOperand_172 rfl (q := 0) rfl ?_
      refine g_iconst hC dX6_readOperand_173 (v := (-1 : Int32)) (by decide) ?_
      refine g_ic_ne hC dX6_readOperand_174 (tgt := 183) (by decide) (fun c174 => ?_) (fun c174 => ?_)
      · replace h := (if_neg c174).symm.trans h
        refine g_lv [1, 0] rfl ?_
        exact bo_X6_readOperand_183 hC hW hE (r160) ((mU I 1 16 (0 : Int32))) h
      · replace h := (if_pos c174).symm.trans h
        refine g_aload_n hC dX6_readOperand_177 rfl (q := 1) rfl ?_
        refine g_iconst hC dX6_readOperand_178 (v := (3 : Int32)) (by decide) ?_
        obtain ⟨r179, h179, h⟩ := oB_some h
        refine g_cV1 hC cv_X6_refuse wd_1018 ⟨Nat.le_of_ble_eq_true rfl, Nat.le_of_ble_eq_true rfl⟩ rfl (by decide) dX6_readOperand_179 (As := [.int (3 : Int32)]) (st := []) (ok_X6_refuse hC.2.2.2.2.2.2.2.1 hW h179) rfl rfl (Nat.le_of_ble_eq_true rfl) ⟨Nat.zero_le _, Nat.zero_le _⟩ ?_
        obtain ⟨g182, h⟩ := oG_some h
        cases h
        exact g_zret hC (isB_or g182) hE rfl dX6_readOperand_182 (Nat.zero_le _) (Nat.zero_le _) ⟨rfl, rfl, rfl, rfl, rfl, rfl⟩
  · replace h := (if_neg c114).symm.trans h
    refine g_aload_n hC dX6_readOperand_117 rfl (q := 0) rfl ?_
    obtain ⟨p118, e118, h⟩ := oB_some h
    have hp118 : mO8 R p118 := ob8 hW.1 (hW.2.2.2 p118 e118)
    refine g_getr hC fd_RX6_57 rfl (by decide) (C0 := _) (t0 := .int) (Or.inl rfl) e118 dX6_readOperand_118 ?_
    refine g_iconst hC dX6_readOperand_121 (v := (0 : Int32)) (by decide) ?_
    obtain ⟨r122, h122, h⟩ := oB_some h
    refine g_cV0 hC cv_X8_join wd_1099 ⟨Nat.le_of_ble_eq_true rfl, Nat.le_of_ble_eq_true rfl⟩ hp118.2.1 hp118.1 dX6_readOperand_122 (As := [.int (0 : Int32)]) (st := []) (ok_X8_join hC.2.2.2.2.2.2.2.1 hp118 h122) rfl rfl (Nat.le_of_ble_eq_true rfl) ⟨Nat.zero_le _, Nat.zero_le _⟩ ?_
    refine g_aload_n hC dX6_readOperand_125 rfl (q := 0) rfl ?_
    refine g_dup hC dX6_readOperand_126 rfl ?_
    refine g_geti hC fd_RX6_63 rfl (by decide) (Or.inl rfl) dX6_readOperand_127 ?_
    refine g_iconst hC dX6_readOperand_130 (v := (1 : Int32)) (by decide) ?_
    refine g_iadd hC dX6_readOperand_131 ?_
    refine g_puti hC fd_RX6_63 rfl (by decide) rfl dX6_readOperand_132 (nm_e ?_)
    refine g_aload_n hC dX6_readOperand_135 rfl (q := 0) rfl ?_
    refine g_dup hC dX6_readOperand_136 rfl ?_
    refine g_geti hC fd_RX6_66 rfl (by decide) (Or.inl rfl) dX6_readOperand_137 ?_
    refine g_iconst hC dX6_readOperand_140 (v := (1 : Int32)) (by decide) ?_
    refine g_aload_n hC dX6_readOperand_141 rfl (q := 0) rfl ?_
    refine g_geti hC fd_RX6_63 rfl (by decide) (Or.inl rfl) dX6_readOperand_142 ?_
    refine g_ishl hC dX6_readOperand_145 ?_
    refine g_iconst hC dX6_readOperand_146 (v := (-1 : Int32)) (by decide) ?_
    refine g_ixor hC dX6_readOperand_147 ?_
    refine g_iand hC dX6_readOperand_148 ?_
    refine g_puti hC fd_RX6_66 rfl (by decide) rfl dX6_readOperand_149 (nm_e ?_)
    refine g_aload_n hC dX6_readOperand_152 rfl (q := 0) rfl ?_
    refine g_iconst hC dX6_readOperand_153 (v := (2 : Int32)) (by decide) ?_
    refine g_puti hC fd_RX6_60 rfl (by decide) rfl dX6_readOperand_154 (nm_e ?_)
    refine g_iconst hC dX6_readOperand_157 (v := (1 : Int32)) (by decide) ?_
    cases h
    exact g_zret hC (by decide) hE rfl dX6_readOperand_158 (Nat.zero_le _) (Nat.zero_le _) ⟨rfl, rfl, rfl, rfl, rfl, rfl⟩
noncomputable def f_X6_readOperand (Fu : Nat) (R : mRT) (I : mIT)  : Option (Int32 × mIT) :=
  if (I 1 14) < (6 : Int32) then (if (I 1 13) = (2 : Int32) then (oB (f_X6_isAtWord Fu I 13) (fun r55 => if r55 = 0 then (b_X6_readOperand_103 Fu R I) else (oB (R 1 12) (fun p72 => oB (f_X8_join Fu (mU I 1 16 ((I 1 16) + (1 : Int32))) p72 (30 : Int32)) (fun r77 => if (r77 1 16) ≤ (6 : Int32) then (some ((1 : Int32), r77)) else (oB (f_X6_refuse Fu r77 (2 : Int32)) (fun r91 => if r91.1 = 0 then (some ((0 : Int32), r91.2)) else (some ((1 : Int32), r91.2))))))))) else (b_X6_readOperand_103 Fu R I)) else (if (I 1 4) = (2 : Int32) then (oB (f_X6_refuse Fu I (2 : Int32)) (fun r40 => oG (isB r40.1) (some (r40.1, r40.2)))) else (if (I 1 4) = (1 : Int32) then (oB (f_X6_refuse Fu I (2 : Int32)) (fun r40 => oG (isB r40.1) (some (r40.1, r40.2)))) else (oB (f_X6_isAtSign Fu I (40 : Int32)) (fun r29 => if r29 = 0 then (oB (f_X6_refuse Fu I (1 : Int32)) (fun r40 => oG (isB r40.1) (some (r40.1, r40.2)))) else (oB (f_X6_refuse Fu I (2 : Int32)) (fun r40 => oG (isB r40.1) (some (r40.1, r40.2))))))))
set_option maxRecDepth 20000 in
theorem ok_X6_readOperand {l : Launch} {E : mEn} {Fu : Nat} {I : mIT} {R : mRT} {L : mLT}  (hst : l.stackTraces = false) (hW : mWd R)  {out : Int32 × mIT} (h : f_X6_readOperand Fu R I  = some out) : mOk l E mX6_readOperand [.ref (mB E + 1)] 106 1 I R L 0 0 (mSame (some (.int (out.1))) 106 1 (out.2) R L) := by
  refine mOk_of hst (by decide) (Nat.le_of_ble_eq_true rfl) (fun X hC hE _ => ?_)
  have hC : mC X E mX6_readOperand RX6 cX6_readOperand := hC
  show mG X E 0 [(0, .ref (mB E + 1))] [] 106 1 I R L 0 0
  unfold f_X6_readOperand at h
  refine g_aload_n hC dX6_readOperand_0 rfl (q := 0) rfl ?_
  refine g_geti hC fd_RX6_63 rfl (by decide) (Or.inl rfl) dX6_readOperand_1 ?_
  refine g_bipush hC dX6_readOperand_4 (v := (6 : Int32)) (by decide) ?_
  refine g_ic_lt hC dX6_readOperand_6 (tgt := 44) (by decide) (fun c6 => ?_) (fun c6 => ?_)
  · replace h := (if_pos c6).symm.trans h
    refine g_aload_n hC dX6_readOperand_44 rfl (q := 0) rfl ?_
    refine g_geti hC fd_RX6_60 rfl (by decide) (Or.inl rfl) dX6_readOperand_45 ?_
    refine g_iconst hC dX6_readOperand_48 (v := (2 : Int32)) (by decide) ?_
    refine g_ic_ne hC dX6_readOperand_49 (tgt := 103) (by decide) (fun c49 => ?_) (fun c49 => ?_)
    · replace h := (if_neg c49).symm.trans h
      exact bo_X6_readOperand_103 hC hW hE (I) h
    · replace h := (if_pos c49).symm.trans h
      refine g_aload_n hC dX6_readOperand_52 rfl (q := 0) rfl ?_
      refine g_lds hC dX6_readOperand_53 (j := 13) rfl ?_
      obtain ⟨r55, h55, h⟩ := oB_some h
      refine g_cV1 hC cv_X6_isAtWord wd_957 ⟨Nat.le_of_ble_eq_true rfl, Nat.le_of_ble_eq_true rfl⟩ rfl (by decide) dX6_readOperand_55 (As := [.ref (E.2.2.2 13)]) (st := []) (ok_X6_isAtWord hC.2.2.2.2.2.2.2.1 hW (by decide) h55) rfl rfl (Nat.le_of_ble_eq_true rfl) ⟨Nat.zero_le _, Nat.zero_le _⟩ ?_
      refine g_if_eq hC dX6_readOperand_58 (tgt := 103) (by decide) (fun c58 => ?_) (fun c58 => ?_)
      · replace h := (if_pos c58).symm.trans h
        exact bo_X6_readOperand_103 hC hW hE (I) h
      · replace h := (if_neg c58).symm.trans h
        refine g_aload_n hC dX6_readOperand_61 rfl (q := 0) rfl ?_
        refine g_dup hC dX6_readOperand_62 rfl ?_
        refine g_geti hC fd_RX6_69 rfl (by decide) (Or.inl rfl) dX6_readOperand_63 ?_
        refine g_iconst hC dX6_readOperand_66 (v := (1 : Int32)) (by decide) ?_
        refine g_iadd hC dX6_readOperand_67 ?_
        refine g_puti hC fd_RX6_69 rfl (by decide) rfl dX6_readOperand_68 (nm_e ?_)
        refine g_aload_n hC dX6_readOperand_71 rfl (q := 0) rfl ?_
        obtain ⟨p72, e72, h⟩ := oB_some h
        have hp72 : mO8 R p72 := ob8 hW.1 (hW.2.2.2 p72 e72)
        refine g_getr hC fd_RX6_57 rfl (by decide) (C0 := _) (t0 := .int) (Or.inl rfl) e72 dX6_readOperand_72 ?_
        refine g_bipush hC dX6_readOperand_75 (v := (30 : Int32)) (by decide) ?_
        obtain ⟨r77, h77, h⟩ := oB_some h
        refine g_cV0 hC cv_X8_join wd_1099 ⟨Nat.le_of_ble_eq_true rfl, Nat.le_of_ble_eq_true rfl⟩ hp72.2.1 hp72.1 dX6_readOperand_77 (As := [.int (30 : Int32)]) (st := []) (ok_X8_join hC.2.2.2.2.2.2.2.1 hp72 h77) rfl rfl (Nat.le_of_ble_eq_true rfl) ⟨Nat.zero_le _, Nat.zero_le _⟩ ?_
        refine g_aload_n hC dX6_readOperand_80 rfl (q := 0) rfl ?_
        refine g_geti hC fd_RX6_69 rfl (by decide) (Or.inl rfl) dX6_readOperand_81 ?_
        refine g_bipush hC dX6_readOperand_84 (v := (6 : Int32)) (by decide) ?_
        refine g_ic_le hC dX6_readOperand_86 (tgt := 97) (by decide) (fun c86 => ?_) (fun c86 => ?_)
        · replace h := (if_pos c86).symm.trans h
          refine g_iconst hC dX6_readOperand_97 (v := (1 : Int32)) (by decide) ?_
          refine g_goto hC dX6_readOperand_98 (tgt := 102) (by decide) ?_
          cases h
          exact g_zret hC (by decide) hE rfl dX6_readOperand_102 (Nat.zero_le _) (Nat.zero_le _) ⟨rfl, rfl, rfl, rfl, rfl, rfl⟩
        · replace h := (if_neg c86).symm.trans h
          refine g_aload_n hC dX6_readOperand_89 rfl (q := 0) rfl ?_
          refine g_iconst hC dX6_readOperand_90 (v := (2 : Int32)) (by decide) ?_
          obtain ⟨r91, h91, h⟩ := oB_some h
          refine g_cV1 hC cv_X6_refuse wd_1018 ⟨Nat.le_of_ble_eq_true rfl, Nat.le_of_ble_eq_true rfl⟩ rfl (by decide) dX6_readOperand_91 (As := [.int (2 : Int32)]) (st := []) (ok_X6_refuse hC.2.2.2.2.2.2.2.1 hW h91) rfl rfl (Nat.le_of_ble_eq_true rfl) ⟨Nat.zero_le _, Nat.zero_le _⟩ ?_
          refine g_if_eq hC dX6_readOperand_94 (tgt := 101) (by decide) (fun c94 => ?_) (fun c94 => ?_)
          · replace h := (if_pos c94).symm.trans h
            refine g_iconst hC dX6_readOperand_101 (v := (0 : Int32)) (by decide) ?_
            cases h
            exact g_zret hC (by decide) hE rfl dX6_readOperand_102 (Nat.zero_le _) (Nat.zero_le _) ⟨rfl, rfl, rfl, rfl, rfl, rfl⟩
          · replace h := (if_neg c94).symm.trans h
            refine g_iconst hC dX6_readOperand_97 (v := (1 : Int32)) (by decide) ?_
            refine g_goto hC dX6_readOperand_98 (tgt := 102) (by decide) ?_
            cases h
            exact g_zret hC (by decide) hE rfl dX6_readOperand_102 (Nat.zero_le _) (Nat.zero_le _) ⟨rfl, rfl, rfl, rfl, rfl, rfl⟩
  · replace h := (if_neg c6).symm.trans h
    refine g_aload_n hC dX6_readOperand_9 rfl (q := 0) rfl ?_
    refine g_aload_n hC dX6_readOperand_10 rfl (q := 0) rfl ?_
    refine g_geti hC fd_RX6_25 rfl (by decide) (Or.inl rfl) dX6_readOperand_11 ?_
    refine g_iconst hC dX6_readOperand_14 (v := (2 : Int32)) (by decide) ?_
    refine g_ic_eq hC dX6_readOperand_15 (tgt := 35) (by decide) (fun c15 => ?_) (fun c15 => ?_)
    · replace h := (if_pos c15).symm.trans h
      refine g_iconst hC dX6_readOperand_35 (v := (2 : Int32)) (by decide) ?_
      refine g_goto hC dX6_readOperand_36 (tgt := 40) (by decide) ?_
      obtain ⟨r40, h40, h⟩ := oB_some h
      refine g_cV1 hC cv_X6_refuse wd_1018 ⟨Nat.le_of_ble_eq_true rfl, Nat.le_of_ble_eq_true rfl⟩ rfl (by decide) dX6_readOperand_40 (As := [.int (2 : Int32)]) (st := []) (ok_X6_refuse hC.2.2.2.2.2.2.2.1 hW h40) rfl rfl (Nat.le_of_ble_eq_true rfl) ⟨Nat.zero_le _, Nat.zero_le _⟩ ?_
      obtain ⟨g43, h⟩ := oG_some h
      cases h
      exact g_zret hC (isB_or g43) hE rfl dX6_readOperand_43 (Nat.zero_le _) (Nat.zero_le _) ⟨rfl, rfl, rfl, rfl, rfl, rfl⟩
    · replace h := (if_neg c15).symm.trans h
      refine g_aload_n hC dX6_readOperand_18 rfl (q := 0) rfl ?_
      refine g_geti hC fd_RX6_25 rfl (by decide) (Or.inl rfl) dX6_readOperand_19 ?_
      refine g_iconst hC dX6_readOperand_22 (v := (1 : Int32)) (by decide) ?_
      refine g_ic_eq hC dX6_readOperand_23 (tgt := 35) (by decide) (fun c23 => ?_) (fun c23 => ?_)
      · replace h := (if_pos c23).symm.trans h
        refine g_iconst hC dX6_readOperand_35 (v := (2 : Int32)) (by decide) ?_
        refine g_goto hC dX6_readOperand_36 (tgt := 40) (by decide) ?_
        obtain ⟨r40, h40, h⟩ := oB_some h
        refine g_cV1 hC cv_X6_refuse wd_1018 ⟨Nat.le_of_ble_eq_true rfl, Nat.le_of_ble_eq_true rfl⟩ rfl (by decide) dX6_readOperand_40 (As := [.int (2 : Int32)]) (st := []) (ok_X6_refuse hC.2.2.2.2.2.2.2.1 hW h40) rfl rfl (Nat.le_of_ble_eq_true rfl) ⟨Nat.zero_le _, Nat.zero_le _⟩ ?_
        obtain ⟨g43, h⟩ := oG_some h
        cases h
        exact g_zret hC (isB_or g43) hE rfl dX6_readOperand_43 (Nat.zero_le _) (Nat.zero_le _) ⟨rfl, rfl, rfl, rfl, rfl, rfl⟩
      · replace h := (if_neg c23).symm.trans h
        refine g_aload_n hC dX6_readOperand_26 rfl (q := 0) rfl ?_
        refine g_bipush hC dX6_readOperand_27 (v := (40 : Int32)) (by decide) ?_
        obtain ⟨r29, h29, h⟩ := oB_some h
        refine g_cV1 hC cv_X6_isAtSign wd_1044 ⟨Nat.le_of_ble_eq_true rfl, Nat.le_of_ble_eq_true rfl⟩ rfl (by decide) dX6_readOperand_29 (As := [.int (40 : Int32)]) (st := [.ref (mB E + 1)]) (ok_X6_isAtSign hC.2.2.2.2.2.2.2.1 hW h29) rfl rfl (Nat.le_of_ble_eq_true rfl) ⟨Nat.zero_le _, Nat.zero_le _⟩ ?_
        refine g_if_eq hC dX6_readOperand_32 (tgt := 39) (by decide) (fun c32 => ?_) (fun c32 => ?_)
        · replace h := (if_pos c32).symm.trans h
          refine g_iconst hC dX6_readOperand_39 (v := (1 : Int32)) (by decide) ?_
          obtain ⟨r40, h40, h⟩ := oB_some h
          refine g_cV1 hC cv_X6_refuse wd_1018 ⟨Nat.le_of_ble_eq_true rfl, Nat.le_of_ble_eq_true rfl⟩ rfl (by decide) dX6_readOperand_40 (As := [.int (1 : Int32)]) (st := []) (ok_X6_refuse hC.2.2.2.2.2.2.2.1 hW h40) rfl rfl (Nat.le_of_ble_eq_true rfl) ⟨Nat.zero_le _, Nat.zero_le _⟩ ?_
          obtain ⟨g43, h⟩ := oG_some h
          cases h
          exact g_zret hC (isB_or g43) hE rfl dX6_readOperand_43 (Nat.zero_le _) (Nat.zero_le _) ⟨rfl, rfl, rfl, rfl, rfl, rfl⟩
        · replace h := (if_neg c32).symm.trans h
          refine g_iconst hC dX6_readOperand_35 (v := (2 : Int32)) (by decide) ?_
          refine g_goto hC dX6_readOperand_36 (tgt := 40) (by decide) ?_
          obtain ⟨r40, h40, h⟩ := oB_some h
          refine g_cV1 hC cv_X6_refuse wd_1018 ⟨Nat.le_of_ble_eq_true rfl, Nat.le_of_ble_eq_true rfl⟩ rfl (by decide) dX6_readOperand_40 (As := [.int (2 : Int32)]) (st := []) (ok_X6_refuse hC.2.2.2.2.2.2.2.1 hW h40) rfl rfl (Nat.le_of_ble_eq_true rfl) ⟨Nat.zero_le _, Nat.zero_le _⟩ ?_
          obtain ⟨g43, h⟩ := oG_some h
          cases h
          exact g_zret hC (isB_or g43) hE rfl dX6_readOperand_43 (Nat.zero_le _) (Nat.zero_le _) ⟨rfl, rfl, rfl, rfl, rfl, rfl⟩
