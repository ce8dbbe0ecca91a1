noncomputable def f_X8_finish (Fu : Nat) (I : mIT) (k0 : Nat) : Option (mIT) :=
  oB (f_X8_putWaiting Fu I k0 (1 : Int32)) (fun r2 => some (r2))
set_option maxRecDepth 20000 in
theorem ok_X8_finish {l : Launch} {E : mEn} {Fu : Nat} {I : mIT} {R : mRT} {L : mLT} {k0 : Nat} (hst : l.stackTraces = false) (hk0 : mO8 R k0) {out : mIT} (h : f_X8_finish Fu I k0 = some out) : mOk l E mX8_finish [.ref (mB E + k0)] 106 1 I R L 0 0 (mSame none 106 1 (out) R L) := by
  refine mOk_of hst (by decide) (Nat.le_of_ble_eq_true rfl) (fun X hC hE _ => ?_)
  have hC : mC X E mX8_finish RX8 cX8_finish := hC
  show mG X E 0 [(0, .ref (mB E + k0))] [] 106 1 I R L 0 0
  unfold f_X8_finish at h
  refine g_aload_n hC dX8_finish_0 rfl (q := 0) rfl ?_
  refine g_iconst hC dX8_finish_1 (v := (1 : Int32)) (by decide) ?_
  obtain ⟨r2, h2, h⟩ := oB_some h
  refine g_cV0 hC cv_X8_putWaiting wd_1089 ⟨Nat.le_of_ble_eq_true rfl, Nat.le_of_ble_eq_true rfl⟩ hk0.2.1 hk0.1 dX8_finish_2 (As := [.int (1 : Int32)]) (st := []) (ok_X8_putWaiting hC.2.2.2.2.2.2.2.1 hk0 h2) rfl rfl (Nat.le_of_ble_eq_true rfl) ⟨Nat.zero_le _, Nat.zero_le _⟩ ?_
  cases h
  exact g_vret hC hE rfl dX8_finish_5 (Nat.zero_le _) (Nat.zero_le _) ⟨rfl, rfl, rfl, rfl, rfl, rfl⟩
noncomputable def b_X6_readExpr_29 (Fu : Nat) (k1 : Nat) (k29_ : Int32 × Int32 × mIT × mRT → Option (Int32 × mIT × mRT)) (v2 : Int32) (v3 : Int32) (I : mIT) (R : mRT) : Option (Int32 × mIT × mRT) :=
  oG (wB R) (if (700 : Int32) ≤ v3 then (oB (R 1 12) (fun p81 => oB (f_X8_finish Fu I p81) (fun r84 => oG (isB v2) (some (v2, r84, R))))) else (if v2 = 0 then (oB (R 1 12) (fun p81 => oB (f_X8_finish Fu I p81) (fun r84 => oG (isB v2) (some (v2, r84, R))))) else (oB (f_X6_isExprWhole Fu I) (fun r41 => if r41 = 0 then (if (I 1 13) = 0 then (oB (f_X6_readOperator Fu R I) (fun r55 => if r55.1 = 0 then (k29_ (r55.1, (v3 + (1 : Int32)), r55.2, R)) else (oB (f_X6_step Fu r55.2) (fun r71 => k29_ (r55.1, (v3 + (1 : Int32)), r71, R))))) else (oB (f_X6_readOperand Fu R I) (fun r62 => if r62.1 = 0 then (k29_ (r62.1, (v3 + (1 : Int32)), r62.2, R)) else (oB (f_X6_step Fu r62.2) (fun r71 => k29_ (r62.1, (v3 + (1 : Int32)), r71, R)))))) else (oB (R 1 12) (fun p81 => oB (f_X8_finish Fu I p81) (fun r84 => oG (isB v2) (some (v2, r84, R)))))))))
set_option maxRecDepth 20000 in
theorem bo_X6_readExpr_29 {X : mXT} {E : mEn} {Fu : Nat} {L : mLT} {k1 : Nat} (hC : mC X E mX6_readExpr RX6 cX6_readExpr)   {out : Int32 × mIT × mRT} (hE : mEd X E 0 0 (mSame (some (.int (out.1))) 106 1 (out.2.1) (out.2.2) L)) (k29_ : Int32 × Int32 × mIT × mRT → Option (Int32 × mIT × mRT)) (hk29_ : ∀ (v2 : Int32) (v3 : Int32) (I : mIT) (R : mRT),  k29_ (v2, v3, I, R) = some out → mG X E 29 [(0, .ref (mB E + 1)), (2, .int v2), (3, .int v3)] [] 106 1 I R L 0 0) (v2 : Int32) (v3 : Int32) (I : mIT) (R : mRT) (h : b_X6_readExpr_29 Fu k1 k29_ v2 v3 I R = some out) : mG X E 29 [(0, .ref (mB E + 1)), (2, .int v2), (3, .int v3)] [] 106 1 I R L 0 0 := by
  unfold b_X6_readExpr_29 at h
  obtain ⟨gW0, h⟩ := oG_some h
  have hW := wB_ok gW0
  refine g_iload_n hC dX6_readExpr_29 rfl (q := 2) rfl ?_
  refine g_sipush hC dX6_readExpr_30 (v := (700 : Int32)) (by decide) ?_
  refine g_ic_ge hC dX6_readExpr_33 (tgt := 80) (by decide) (fun c33 => ?_) (fun c33 => ?_)
  · replace h := (if_pos c33).symm.trans h
    refine g_aload_n hC dX6_readExpr_80 rfl (q := 0) rfl ?_
    obtain ⟨p81, e81, h⟩ := oB_some h
    have hp81 : mO8 R p81 := ob8 hW.1 (hW.2.2.2 p81 e81)
    refine g_getr hC fd_RX6_57 rfl (by decide) (C0 := _) (t0 := .int) (Or.inl rfl) e81 dX6_readExpr_81 ?_
    obtain ⟨r84, h84, h⟩ := oB_some h
    refine g_cV0 hC cv_X8_finish wd_1122 ⟨Nat.le_of_ble_eq_true rfl, Nat.le_of_ble_eq_true rfl⟩ hp81.2.1 hp81.1 dX6_readExpr_84 (As := []) (st := []) (ok_X8_finish hC.2.2.2.2.2.2.2.1 hp81 h84) rfl rfl (Nat.le_of_ble_eq_true rfl) ⟨Nat.zero_le _, Nat.zero_le _⟩ ?_
    refine g_iload_n hC dX6_readExpr_87 rfl (q := 1) rfl ?_
    obtain ⟨g88, h⟩ := oG_some h
    cases h
    exact g_zret hC (isB_or g88) hE rfl dX6_readExpr_88 (Nat.zero_le _) (Nat.zero_le _) ⟨rfl, rfl, rfl, rfl, rfl, rfl⟩
  · replace h := (if_neg c33).symm.trans h
    refine g_iload_n hC dX6_readExpr_36 rfl (q := 1) rfl ?_
    refine g_if_eq hC dX6_readExpr_37 (tgt := 80) (by decide) (fun c37 => ?_) (fun c37 => ?_)
    · replace h := (if_pos c37).symm.trans h
      refine g_aload_n hC dX6_readExpr_80 rfl (q := 0) rfl ?_
      obtain ⟨p81, e81, h⟩ := oB_some h
      have hp81 : mO8 R p81 := ob8 hW.1 (hW.2.2.2 p81 e81)
      refine g_getr hC fd_RX6_57 rfl (by decide) (C0 := _) (t0 := .int) (Or.inl rfl) e81 dX6_readExpr_81 ?_
      obtain ⟨r84, h84, h⟩ := oB_some h
      refine g_cV0 hC cv_X8_finish wd_1122 ⟨Nat.le_of_ble_eq_true rfl, Nat.le_of_ble_eq_true rfl⟩ hp81.2.1 hp81.1 dX6_readExpr_84 (As := []) (st := []) (ok_X8_finish hC.2.2.2.2.2.2.2.1 hp81 h84) rfl rfl (Nat.le_of_ble_eq_true rfl) ⟨Nat.zero_le _, Nat.zero_le _⟩ ?_
      refine g_iload_n hC dX6_readExpr_87 rfl (q := 1) rfl ?_
      obtain ⟨g88, h⟩ := oG_some h
      cases h
      exact g_zret hC (isB_or g88) hE rfl dX6_readExpr_88 (Nat.zero_le _) (Nat.zero_le _) ⟨rfl, rfl, rfl, rfl, rfl, rfl⟩
    · replace h := (if_neg c37).symm.trans h
      refine g_aload_n hC dX6_readExpr_40 rfl (q := 0) rfl ?_
      obtain ⟨r41, h41, h⟩ := oB_some h
      refine g_cV1 hC cv_X6_isExprWhole wd_1077 ⟨Nat.le_of_ble_eq_true rfl, Nat.le_of_ble_eq_true rfl⟩ rfl (by decide) dX6_readExpr_41 (As := []) (st := []) (ok_X6_isExprWhole hC.2.2.2.2.2.2.2.1 hW h41) rfl rfl (Nat.le_of_ble_eq_true rfl) ⟨Nat.zero_le _, Nat.zero_le _⟩ ?_
      refine g_if_ne hC dX6_readExpr_44 (tgt := 80) (by decide) (fun c44 => ?_) (fun c44 => ?_)
      · replace h := (if_neg c44).symm.trans h
        refine g_aload_n hC dX6_readExpr_80 rfl (q := 0) rfl ?_
        obtain ⟨p81, e81, h⟩ := oB_some h
        have hp81 : mO8 R p81 := ob8 hW.1 (hW.2.2.2 p81 e81)
        refine g_getr hC fd_RX6_57 rfl (by decide) (C0 := _) (t0 := .int) (Or.inl rfl) e81 dX6_readExpr_81 ?_
        obtain ⟨r84, h84, h⟩ := oB_some h
        refine g_cV0 hC cv_X8_finish wd_1122 ⟨Nat.le_of_ble_eq_true rfl, Nat.le_of_ble_eq_true rfl⟩ hp81.2.1 hp81.1 dX6_readExpr_84 (As := []) (st := []) (ok_X8_finish hC.2.2.2.2.2.2.2.1 hp81 h84) rfl rfl (Nat.le_of_ble_eq_true rfl) ⟨Nat.zero_le _, Nat.zero_le _⟩ ?_
        refine g_iload_n hC dX6_readExpr_87 rfl (q := 1) rfl ?_
        obtain ⟨g88, h⟩ := oG_some h
        cases h
        exact g_zret hC (isB_or g88) hE rfl dX6_readExpr_88 (Nat.zero_le _) (Nat.zero_le _) ⟨rfl, rfl, rfl, rfl, rfl, rfl⟩
      · replace h := (if_pos c44).symm.trans h
        refine g_aload_n hC dX6_readExpr_47 rfl (q := 0) rfl ?_
        refine g_geti hC fd_RX6_60 rfl (by decide) (Or.inl rfl) dX6_readExpr_48 ?_
        refine g_if_ne hC dX6_readExpr_51 (tgt := 61) (by decide) (fun c51 => ?_) (fun c51 => ?_)
        · replace h := (if_neg c51).symm.trans h
          refine g_aload_n hC dX6_readExpr_61 rfl (q := 0) rfl ?_
          obtain ⟨r62, h62, h⟩ := oB_some h
          refine g_cV1 hC cv_X6_readOperand wd_1103 ⟨Nat.le_of_ble_eq_true rfl, Nat.le_of_ble_eq_true rfl⟩ rfl (by decide) dX6_readExpr_62 (As := []) (st := []) (ok_X6_readOperand hC.2.2.2.2.2.2.2.1 hW h62) rfl rfl (Nat.le_of_ble_eq_true rfl) ⟨Nat.zero_le _, Nat.zero_le _⟩ ?_
          refine g_istore_n hC dX6_readExpr_65 rfl rfl (by decide) (lv' := [(2, .int r62.1), (0, .ref (mB E + 1)), (3, .int v3)]) rfl ?_
          refine g_iload_n hC dX6_readExpr_66 rfl (q := 0) rfl ?_
          refine g_if_eq hC dX6_readExpr_67 (tgt := 74) (by decide) (fun c67 => ?_) (fun c67 => ?_)
          · replace h := (if_pos c67).symm.trans h
            refine g_iinc hC dX6_readExpr_74 rfl (q := 2) rfl (w := (v3 + (1 : Int32))) rfl (by decide) (lv' := [(3, .int (v3 + (1 : Int32))), (2, .int r62.1), (0, .ref (mB E + 1))]) rfl ?_
            refine g_goto hC dX6_readExpr_77 (tgt := 29) (by decide) ?_
            refine g_lv [2, 1, 0] rfl ?_
            exact hk29_ r62.1 (v3 + (1 : Int32)) r62.2 R h
          · replace h := (if_neg c67).symm.trans h
            refine g_aload_n hC dX6_readExpr_70 rfl (q := 1) rfl ?_
            obtain ⟨r71, h71, h⟩ := oB_some h
            refine g_cV0 hC cv_X6_step wd_924 ⟨Nat.le_of_ble_eq_true rfl, Nat.le_of_ble_eq_true rfl⟩ rfl (by decide) dX6_readExpr_71 (As := []) (st := []) (ok_X6_step hC.2.2.2.2.2.2.2.1 hW h71) rfl rfl (Nat.le_of_ble_eq_true rfl) ⟨Nat.zero_le _, Nat.zero_le _⟩ ?_
            refine g_iinc hC dX6_readExpr_74 rfl (q := 2) rfl (w := (v3 + (1 : Int32))) rfl (by decide) (lv' := [(3, .int (v3 + (1 : Int32))), (2, .int r62.1), (0, .ref (mB E + 1))]) rfl ?_
            refine g_goto hC dX6_readExpr_77 (tgt := 29) (by decide) ?_
            refine g_lv [2, 1, 0] rfl ?_
            exact hk29_ r62.1 (v3 + (1 : Int32)) r71 R h
        · replace h := (if_pos c51).symm.trans h
          refine g_aload_n hC dX6_readExpr_54 rfl (q := 0) rfl ?_
          obtain ⟨r55, h55, h⟩ := oB_some h
          refine g_cV1 hC cv_X6_readOperator wd_1081 ⟨Nat.le_of_ble_eq_true rfl, Nat.le_of_ble_eq_true rfl⟩ rfl (by decide) dX6_readExpr_55 (As := []) (st := []) (ok_X6_readOperator hC.2.2.2.2.2.2.2.1 hW h55) rfl rfl (Nat.le_of_ble_eq_true rfl) ⟨Nat.zero_le _, Nat.zero_le _⟩ ?_
          refine g_goto hC dX6_readExpr_58 (tgt := 65) (by decide) ?_
          refine g_istore_n hC dX6_readExpr_65 rfl rfl (by decide) (lv' := [(2, .int r55.1), (0, .ref (mB E + 1)), (3, .int v3)]) rfl ?_
          refine g_iload_n hC dX6_readExpr_66 rfl (q := 0) rfl ?_
          refine g_if_eq hC dX6_readExpr_67 (tgt := 74) (by decide) (fun c67 => ?_) (fun c67 => ?_)
          · replace h := (if_pos c67).symm.trans h
            refine g_iinc hC dX6_readExpr_74 rfl (q := 2) rfl (w := (v3 + (1 : Int32))) rfl (by decide) (lv' := [(3, .int (v3 + (1 : Int32))), (2, .int r55.1), (0, .ref (mB E + 1))]) rfl ?_
            refine g_goto hC dX6_readExpr_77 (tgt := 29) (by decide) ?_
            refine g_lv [2, 1, 0] rfl ?_
            exact hk29_ r55.1 (v3 + (1 : Int32)) r55.2 R h
          · replace h := (if_neg c67).symm.trans h
            refine g_aload_n hC dX6_readExpr_70 rfl (q := 1) rfl ?_
            obtain ⟨r71, h71, h⟩ := oB_some h
            refine g_cV0 hC cv_X6_step wd_924 ⟨Nat.le_of_ble_eq_true rfl, Nat.le_of_ble_eq_true rfl⟩ rfl (by decide) dX6_readExpr_71 (As := []) (st := []) (ok_X6_step hC.2.2.2.2.2.2.2.1 hW h71) rfl rfl (Nat.le_of_ble_eq_true rfl) ⟨Nat.zero_le _, Nat.zero_le _⟩ ?_
            refine g_iinc hC dX6_readExpr_74 rfl (q := 2) rfl (w := (v3 + (1 : Int32))) rfl (by decide) (lv' := [(3, .int (v3 + (1 : Int32))), (2, .int r55.1), (0, .ref (mB E + 1))]) rfl ?_
            refine g_goto hC dX6_readExpr_77 (tgt := 29) (by decide) ?_
            refine g_lv [2, 1, 0] rfl ?_
            exact hk29_ r55.1 (v3 + (1 : Int32)) r71 R h
noncomputable def w_X6_readExpr_29 (Fu : Nat) (k1 : Nat)  (N : Nat) (v2 : Int32) (v3 : Int32) (I : mIT) (R : mRT) : Option (Int32 × mIT × mRT) :=
  loopF (fun self (s : Int32 × Int32 × mIT × mRT) => b_X6_readExpr_29 Fu k1 self s.1 s.2.1 s.2.2.1 s.2.2.2) N (v2, v3, I, R)
theorem wo_X6_readExpr_29 {X : mXT} {E : mEn} {Fu : Nat} {L : mLT} {k1 : Nat} (hC : mC X E mX6_readExpr RX6 cX6_readExpr)   {out : Int32 × mIT × mRT} (hE : mEd X E 0 0 (mSame (some (.int (out.1))) 106 1 (out.2.1) (out.2.2) L))  (N : Nat) (v2 : Int32) (v3 : Int32) (I : mIT) (R : mRT) (h : w_X6_readExpr_29 Fu k1  N v2 v3 I R = some out) : mG X E 29 [(0, .ref (mB E + 1)), (2, .int v2), (3, .int v3)] [] 106 1 I R L 0 0 :=
  loopF_ok (Gd := fun s : Int32 × Int32 × mIT × mRT => mG X E 29 [(0, .ref (mB E + 1)), (2, .int s.1), (3, .int s.2.1)] [] 106 1 s.2.2.1 s.2.2.2 L 0 0) (fun self hs s h => bo_X6_readExpr_29 hC hE self (fun v2 v3 I R h => hs (v2, v3, I, R) h) s.1 s.2.1 s.2.2.1 s.2.2.2 h) N (v2, v3, I, R) h
noncomputable def f_X6_readExpr (Fu : Nat) (R : mRT) (I : mIT) (k1 : Nat) : Option (Int32 × mIT × mRT) :=
  w_X6_readExpr_29 Fu k1 Fu (1 : Int32) (0 : Int32) (mU (mU (mU (mU I 1 13 (2 : Int32)) 1 14 (0 : Int32)) 1 15 (0 : Int32)) 1 16 (0 : Int32)) (mUR R 1 12 (some k1))
set_option maxRecDepth 20000 in
theorem ok_X6_readExpr {l : Launch} {E : mEn} {Fu : Nat} {I : mIT} {R : mRT} {L : mLT} {k1 : Nat} (hst : l.stackTraces = false) (hW : mWd R) (hk1 : mO8 R k1) {out : Int32 × mIT × mRT} (h : f_X6_readExpr Fu R I k1 = some out) : mOk l E mX6_readExpr [.ref (mB E + 1), .ref (mB E + k1)] 106 1 I R L 0 0 (mSame (some (.int (out.1))) 106 1 (out.2.1) (out.2.2) L) := by
  refine mOk_of hst (by decide) (Nat.le_of_ble_eq_true rfl) (fun X hC hE _ => ?_)
  have hC : mC X E mX6_readExpr RX6 cX6_readExpr := hC
  show mG X E 0 [(0, .ref (mB E + 1)), (1, .ref (mB E + k1))] [] 106 1 I R L 0 0
  unfold f_X6_readExpr at h
  refine g_aload_n hC dX6_readExpr_0 rfl (q := 0) rfl ?_
  refine g_aload_n hC dX6_readExpr_1 rfl (q := 1) rfl ?_
  refine g_putr hC fd_RX6_57 rfl (by decide) (C0 := _) (t0 := .int) (Or.inl rfl) dX6_readExpr_2 (nm_e ?_)
  have hW := mWd_1c hW hk1
  refine g_aload_n hC dX6_readExpr_5 rfl (q := 0) rfl ?_
  refine g_iconst hC dX6_readExpr_6 (v := (2 : Int32)) (by decide) ?_
  refine g_puti hC fd_RX6_60 rfl (by decide) rfl dX6_readExpr_7 (nm_e ?_)
  refine g_aload_n hC dX6_readExpr_10 rfl (q := 0) rfl ?_
  refine g_iconst hC dX6_readExpr_11 (v := (0 : Int32)) (by decide) ?_
  refine g_puti hC fd_RX6_63 rfl (by decide) rfl dX6_readExpr_12 (nm_e ?_)
  refine g_aload_n hC dX6_readExpr_15 rfl (q := 0) rfl ?_
  refine g_iconst hC dX6_readExpr_16 (v := (0 : Int32)) (by decide) ?_
  refine g_puti hC fd_RX6_66 rfl (by decide) rfl dX6_readExpr_17 (nm_e ?_)
  refine g_aload_n hC dX6_readExpr_20 rfl (q := 0) rfl ?_
  refine g_iconst hC dX6_readExpr_21 (v := (0 : Int32)) (by decide) ?_
  refine g_puti hC fd_RX6_69 rfl (by decide) rfl dX6_readExpr_22 (nm_e ?_)
  refine g_iconst hC dX6_readExpr_25 (v := (1 : Int32)) (by decide) ?_
  refine g_istore_n hC dX6_readExpr_26 rfl rfl (by decide) (lv' := [(2, .int (1 : Int32)), (0, .ref (mB E + 1)), (1, .ref (mB E + k1))]) rfl ?_
  refine g_iconst hC dX6_readExpr_27 (v := (0 : Int32)) (by decide) ?_
  refine g_istore_n hC dX6_readExpr_28 rfl rfl (by decide) (lv' := [(3, .int (0 : Int32)), (2, .int (1 : Int32)), (0, .ref (mB E + 1)), (1, .ref (mB E + k1))]) rfl ?_
  refine g_lv [2, 1, 0] rfl ?_
  exact wo_X6_readExpr_29 hC hE Fu ((1 : Int32)) ((0 : Int32)) ((mU (mU (mU (mU I 1 13 (2 : Int32)) 1 14 (0 : Int32)) 1 15 (0 : Int32)) 1 16 (0 : Int32))) ((mUR R 1 12 (some k1))) h
noncomputable def f_X6_readLine (Fu : Nat) (R : mRT) (I : mIT)  : Option (Int32 × mIT × mRT) :=
  oB (f_X6_lineWord Fu I) (fun r1 => if r1 = (-1 : Int32) then (oB (f_X6_refuse Fu I (1 : Int32)) (fun r12 => oG (isB r12.1) (some (r12.1, r12.2, R)))) else (if (4 : Int32) ≤ r1 then (if (((I 1 10) >>> (r1 &&& 31)) &&& (1 : Int32)) = (1 : Int32) then (oB (f_X6_refuse Fu I (5 : Int32)) (fun r56 => oG (isB r56.1) (some (r56.1, r56.2, R)))) else (oB (f_X6_step Fu (mU I 1 10 ((I 1 10) ||| ((1 : Int32) <<< (r1 &&& 31))))) (fun r73 => if r1 = (4 : Int32) then (oB (f_X6_readRow Fu R r73 r1 (10 : Int32) (9 : Int32)) (fun r118 => if r118.1 = 0 then (some ((0 : Int32), r118.2, R)) else (oB (f_X6_readLineEnd Fu r118.2) (fun r125 => if r125.1 = 0 then (some ((0 : Int32), r125.2, R)) else (some ((1 : Int32), r125.2, R)))))) else if r1 = (5 : Int32) then (oB (f_X6_readLasts Fu R r73) (fun r188 => if r188.1 = 0 then (some ((0 : Int32), r188.2, R)) else (oB (f_X6_readLineEnd Fu r188.2) (fun r195 => if r195.1 = 0 then (some ((0 : Int32), r195.2, R)) else (some ((1 : Int32), r195.2, R)))))) else if r1 = (6 : Int32) then (oB (f_X6_readRow Fu R r73 r1 (8 : Int32) (15 : Int32)) (fun r143 => if r143.1 = 0 then (some ((0 : Int32), r143.2, R)) else (oB (f_X6_readLineEnd Fu r143.2) (fun r150 => if r150.1 = 0 then (some ((0 : Int32), r150.2, R)) else (some ((1 : Int32), r150.2, R)))))) else if r1 = (7 : Int32) then (oB (f_X6_readRow Fu R r73 r1 (12 : Int32) (31 : Int32)) (fun r168 => if r168.1 = 0 then (some ((0 : Int32), r168.2, R)) else (oB (f_X6_readLineEnd Fu r168.2) (fun r175 => if r175.1 = 0 then (some ((0 : Int32), r175.2, R)) else (some ((1 : Int32), r175.2, R)))))) else if r1 = (8 : Int32) then (oB (R 1 11) (fun p209 => oB (f_X6_readExpr Fu R r73 (p209 + 4)) (fun r215 => oG (wB r215.2.2) (if r215.1 = 0 then (some ((0 : Int32), r215.2.1, r215.2.2)) else (oB (f_X6_readLineEnd Fu r215.2.1) (fun r222 => if r222.1 = 0 then (some ((0 : Int32), r222.2, r215.2.2)) else (some ((1 : Int32), r222.2, r215.2.2)))))))) else (oB (R 1 11) (fun p236 => oB (f_X6_readExpr Fu R r73 (p236 + 10)) (fun r242 => oG (wB r242.2.2) (if r242.1 = 0 then (some ((0 : Int32), r242.2.1, r242.2.2)) else (oB (f_X6_readLineEnd Fu r242.2.1) (fun r249 => if r249.1 = 0 then (some ((0 : Int32), r249.2, r242.2.2)) else (some ((1 : Int32), r249.2, r242.2.2))))))))))) else (oB (f_X6_readRoot Fu R I r1) (fun r23 => if r23.1 = 0 then (some ((0 : Int32), r23.2, R)) else (oB (f_X6_readLineEnd Fu r23.2) (fun r30 => if r30.1 = 0 then (some ((0 : Int32), r30.2, R)) else (some ((1 : Int32), r30.2, R))))))))
set_option maxRecDepth 20000 in
theorem ok_X6_readLine {l : Launch} {E : mEn} {Fu : Nat} {I : mIT} {R : mRT} {L : mLT}  (hst : l.stackTraces = false) (hW : mWd R)  {out : Int32 × mIT × mRT} (h : f_X6_readLine Fu R I  = some out) : mOk l E mX6_readLine [.ref (mB E + 1)] 106 1 I R L 0 0 (mSame (some (.int (out.1))) 106 1 (out.2.1) (out.2.2) L) := by
  refine mOk_of hst (by decide) (Nat.le_of_ble_eq_true rfl) (fun X hC hE _ => ?_)
  have hC : mC X E mX6_readLine RX6 cX6_readLine := hC
  show mG X E 0 [(0, .ref (mB E + 1))] [] 106 1 I R L 0 0
  unfold f_X6_readLine at h
  refine g_aload_n hC dX6_readLine_0 rfl (q := 0) rfl ?_
  obtain ⟨r1, h1, h⟩ := oB_some h
  refine g_cV1 hC cv_X6_lineWord wd_952 ⟨Nat.le_of_ble_eq_true rfl, Nat.le_of_ble_eq_true rfl⟩ rfl (by decide) dX6_readLine_1 (As := []) (st := []) (ok_X6_lineWord hC.2.2.2.2.2.2.2.1 hW h1) rfl rfl (Nat.le_of_ble_eq_true rfl) ⟨Nat.zero_le _, Nat.zero_le _⟩ ?_
  refine g_istore_n hC dX6_readLine_4 rfl rfl (by decide) (lv' := [(1, .int r1), (0, .ref (mB E + 1))]) rfl ?_
  refine g_iload_n hC dX6_readLine_5 rfl (q := 0) rfl ?_
  refine g_iconst hC dX6_readLine_6 (v := (-1 : Int32)) (by decide) ?_
  refine g_ic_ne hC dX6_readLine_7 (tgt := 16) (by decide) (fun c7 => ?_) (fun c7 => ?_)
  · replace h := (if_neg c7).symm.trans h
    refine g_iload_n hC dX6_readLine_16 rfl (q := 0) rfl ?_
    refine g_iconst hC dX6_readLine_17 (v := (4 : Int32)) (by decide) ?_
    refine g_ic_ge hC dX6_readLine_18 (tgt := 42) (by decide) (fun c18 => ?_) (fun c18 => ?_)
    · replace h := (if_pos c18).symm.trans h
      refine g_aload_n hC dX6_readLine_42 rfl (q := 1) rfl ?_
      refine g_geti hC fd_RX6_43 rfl (by decide) (Or.inl rfl) dX6_readLine_43 ?_
      refine g_iload_n hC dX6_readLine_46 rfl (q := 0) rfl ?_
      refine g_ishr hC dX6_readLine_47 ?_
      refine g_iconst hC dX6_readLine_48 (v := (1 : Int32)) (by decide) ?_
      refine g_iand hC dX6_readLine_49 ?_
      refine g_iconst hC dX6_readLine_50 (v := (1 : Int32)) (by decide) ?_
      refine g_ic_ne hC dX6_readLine_51 (tgt := 60) (by decide) (fun c51 => ?_) (fun c51 => ?_)
      · replace h := (if_neg c51).symm.trans h
        refine g_aload_n hC dX6_readLine_60 rfl (q := 1) rfl ?_
        refine g_dup hC dX6_readLine_61 rfl ?_
        refine g_geti hC fd_RX6_43 rfl (by decide) (Or.inl rfl) dX6_readLine_62 ?_
        refine g_iconst hC dX6_readLine_65 (v := (1 : Int32)) (by decide) ?_
        refine g_iload_n hC dX6_readLine_66 rfl (q := 0) rfl ?_
        refine g_ishl hC dX6_readLine_67 ?_
        refine g_ior hC dX6_readLine_68 ?_
        refine g_puti hC fd_RX6_43 rfl (by decide) rfl dX6_readLine_69 (nm_e ?_)
        refine g_aload_n hC dX6_readLine_72 rfl (q := 1) rfl ?_
        obtain ⟨r73, h73, h⟩ := oB_some h
        refine g_cV0 hC cv_X6_step wd_924 ⟨Nat.le_of_ble_eq_true rfl, Nat.le_of_ble_eq_true rfl⟩ rfl (by decide) dX6_readLine_73 (As := []) (st := []) (ok_X6_step hC.2.2.2.2.2.2.2.1 hW h73) rfl rfl (Nat.le_of_ble_eq_true rfl) ⟨Nat.zero_le _, Nat.zero_le _⟩ ?_
        refine g_iload_n hC dX6_readLine_76 rfl (q := 0) rfl ?_
        by_cases c77_4 : r1 = (4 : Int32)
        · replace h := (if_pos c77_4).symm.trans h
          refine g_tabI hC dX6_readLine_77 (off := 35) (tgt := 112) (by rw [c77_4]; decide) (by rw [c77_4]; decide) (by rw [c77_4]; rfl) (by decide) ?_
          refine g_aload_n hC dX6_readLine_112 rfl (q := 1) rfl ?_
          refine g_iload_n hC dX6_readLine_113 rfl (q := 0) rfl ?_
          refine g_bipush hC dX6_readLine_114 (v := (10 : Int32)) (by decide) ?_
          refine g_bipush hC dX6_readLine_116 (v := (9 : Int32)) (by decide) ?_
          obtain ⟨r118, h118, h⟩ := oB_some h
          refine g_cV1 hC cv_X6_readRow wd_1048 ⟨Nat.le_of_ble_eq_true rfl, Nat.le_of_ble_eq_true rfl⟩ rfl (by decide) dX6_readLine_118 (As := [.int r1, .int (10 : Int32), .int (9 : Int32)]) (st := []) (ok_X6_readRow hC.2.2.2.2.2.2.2.1 hW h118) rfl rfl (Nat.le_of_ble_eq_true rfl) ⟨Nat.zero_le _, Nat.zero_le _⟩ ?_
          refine g_if_eq hC dX6_readLine_121 (tgt := 135) (by decide) (fun c121 => ?_) (fun c121 => ?_)
          · replace h := (if_pos c121).symm.trans h
            refine g_iconst hC dX6_readLine_135 (v := (0 : Int32)) (by decide) ?_
            cases h
            exact g_zret hC (by decide) hE rfl dX6_readLine_136 (Nat.zero_le _) (Nat.zero_le _) ⟨rfl, rfl, rfl, rfl, rfl, rfl⟩
          · replace h := (if_neg c121).symm.trans h
            refine g_aload_n hC dX6_readLine_124 rfl (q := 1) rfl ?_
            obtain ⟨r125, h125, h⟩ := oB_some h
            refine g_cV1 hC cv_X6_readLineEnd wd_1040 ⟨Nat.le_of_ble_eq_true rfl, Nat.le_of_ble_eq_true rfl⟩ rfl (by decide) dX6_readLine_125 (As := []) (st := []) (ok_X6_readLineEnd hC.2.2.2.2.2.2.2.1 hW h125) rfl rfl (Nat.le_of_ble_eq_true rfl) ⟨Nat.zero_le _, Nat.zero_le _⟩ ?_
            refine g_if_eq hC dX6_readLine_128 (tgt := 135) (by decide) (fun c128 => ?_) (fun c128 => ?_)
            · replace h := (if_pos c128).symm.trans h
              refine g_iconst hC dX6_readLine_135 (v := (0 : Int32)) (by decide) ?_
              cases h
              exact g_zret hC (by decide) hE rfl dX6_readLine_136 (Nat.zero_le _) (Nat.zero_le _) ⟨rfl, rfl, rfl, rfl, rfl, rfl⟩
            · replace h := (if_neg c128).symm.trans h
              refine g_iconst hC dX6_readLine_131 (v := (1 : Int32)) (by decide) ?_
              refine g_goto hC dX6_readLine_132 (tgt := 136) (by decide) ?_
              cases h
              exact g_zret hC (by decide) hE rfl dX6_readLine_136 (Nat.zero_le _) (Nat.zero_le _) ⟨rfl, rfl, rfl, rfl, rfl, rfl⟩
        replace h := (if_neg c77_4).symm.trans h
        by_cases c77_5 : r1 = (5 : Int32)
        · replace h := (if_pos c77_5).symm.trans h
          refine g_tabI hC dX6_readLine_77 (off := 110) (tgt := 187) (by rw [c77_5]; decide) (by rw [c77_5]; decide) (by rw [c77_5]; rfl) (by decide) ?_
          refine g_aload_n hC dX6_readLine_187 rfl (q := 1) rfl ?_
          obtain ⟨r188, h188, h⟩ := oB_some h
          refine g_cV1 hC cv_X6_readLasts wd_1069 ⟨Nat.le_of_ble_eq_true rfl, Nat.le_of_ble_eq_true rfl⟩ rfl (by decide) dX6_readLine_188 (As := []) (st := []) (ok_X6_readLasts hC.2.2.2.2.2.2.2.1 hW h188) rfl rfl (Nat.le_of_ble_eq_true rfl) ⟨Nat.zero_le _, Nat.zero_le _⟩ ?_
          refine g_if_eq hC dX6_readLine_191 (tgt := 205) (by decide) (fun c191 => ?_) (fun c191 => ?_)
          · replace h := (if_pos c191).symm.trans h
            refine g_iconst hC dX6_readLine_205 (v := (0 : Int32)) (by decide) ?_
            cases h
            exact g_zret hC (by decide) hE rfl dX6_readLine_206 (Nat.zero_le _) (Nat.zero_le _) ⟨rfl, rfl, rfl, rfl, rfl, rfl⟩
          · replace h := (if_neg c191).symm.trans h
            refine g_aload_n hC dX6_readLine_194 rfl (q := 1) rfl ?_
            obtain ⟨r195, h195, h⟩ := oB_some h
            refine g_cV1 hC cv_X6_readLineEnd wd_1040 ⟨Nat.le_of_ble_eq_true rfl, Nat.le_of_ble_eq_true rfl⟩ rfl (by decide) dX6_readLine_195 (As := []) (st := []) (ok_X6_readLineEnd hC.2.2.2.2.2.2.2.1 hW h195) rfl rfl (Nat.le_of_ble_eq_true rfl) ⟨Nat.zero_le _, Nat.zero_le _⟩ ?_
            refine g_if_eq hC dX6_readLine_198 (tgt := 205) (by decide) (fun c198 => ?_) (fun c198 => ?_)
            · replace h := (if_pos c198).symm.trans h
              refine g_iconst hC dX6_readLine_205 (v := (0 : Int32)) (by decide) ?_
              cases h
              exact g_zret hC (by decide) hE rfl dX6_readLine_206 (Nat.zero_le _) (Nat.zero_le _) ⟨rfl, rfl, rfl, rfl, rfl, rfl⟩
            · replace h := (if_neg c198).symm.trans h
              refine g_iconst hC dX6_readLine_201 (v := (1 : Int32)) (by decide) ?_
              refine g_goto hC dX6_readLine_202 (tgt := 206) (by decide) ?_
              cases h
              exact g_zret hC (by decide) hE rfl dX6_readLine_206 (Nat.zero_le _) (Nat.zero_le _) ⟨rfl, rfl, rfl, rfl, rfl, rfl⟩
        replace h := (if_neg c77_5).symm.trans h
        by_cases c77_6 : r1 = (6 : Int32)
        · replace h := (if_pos c77_6).symm.trans h
          refine g_tabI hC dX6_readLine_77 (off := 60) (tgt := 137) (by rw [c77_6]; decide) (by rw [c77_6]; decide) (by rw [c77_6]; rfl) (by decide) ?_
          refine g_aload_n hC dX6_readLine_137 rfl (q := 1) rfl ?_
          refine g_iload_n hC dX6_readLine_138 rfl (q := 0) rfl ?_
          refine g_bipush hC dX6_readLine_139 (v := (8 : Int32)) (by decide) ?_
          refine g_bipush hC dX6_readLine_141 (v := (15 : Int32)) (by decide) ?_
          obtain ⟨r143, h143, h⟩ := oB_some h
          refine g_cV1 hC cv_X6_readRow wd_1048 ⟨Nat.le_of_ble_eq_true rfl, Nat.le_of_ble_eq_true rfl⟩ rfl (by decide) dX6_readLine_143 (As := [.int r1, .int (8 : Int32), .int (15 : Int32)]) (st := []) (ok_X6_readRow hC.2.2.2.2.2.2.2.1 hW h143) rfl rfl (Nat.le_of_ble_eq_true rfl) ⟨Nat.zero_le _, Nat.zero_le _⟩ ?_
          refine g_if_eq hC dX6_readLine_146 (tgt := 160) (by decide) (fun c146 => ?_) (fun c146 => ?_)
          · replace h := (if_pos c146).symm.trans h
            refine g_iconst hC dX6_readLine_160 (v := (0 : Int32)) (by decide) ?_
            cases h
            exact g_zret hC (by decide) hE rfl dX6_readLine_161 (Nat.zero_le _) (Nat.zero_le _) ⟨rfl, rfl, rfl, rfl, rfl, rfl⟩
          · replace h := (if_neg c146).symm.trans h
            refine g_aload_n hC dX6_readLine_149 rfl (q := 1) rfl ?_
            obtain ⟨r150, h150, h⟩ := oB_some h
            refine g_cV1 hC cv_X6_readLineEnd wd_1040 ⟨Nat.le_of_ble_eq_true rfl, Nat.le_of_ble_eq_true rfl⟩ rfl (by decide) dX6_readLine_150 (As := []) (st := []) (ok_X6_readLineEnd hC.2.2.2.2.2.2.2.1 hW h150) rfl rfl (Nat.le_of_ble_eq_true rfl) ⟨Nat.zero_le _, Nat.zero_le _⟩ ?_
            refine g_if_eq hC dX6_readLine_153 (tgt := 160) (by decide) (fun c153 => ?_) (fun c153 => ?_)
            · replace h := (if_pos c153).symm.trans h
              refine g_iconst hC dX6_readLine_160 (v := (0 : Int32)) (by decide) ?_
              cases h
              exact g_zret hC (by decide) hE rfl dX6_readLine_161 (Nat.zero_le _) (Nat.zero_le _) ⟨rfl, rfl, rfl, rfl, rfl, rfl⟩
            · replace h := (if_neg c153).symm.trans h
              refine g_iconst hC dX6_readLine_156 (v := (1 : Int32)) (by decide) ?_
              refine g_goto hC dX6_readLine_157 (tgt := 161) (by decide) ?_
              cases h
              exact g_zret hC (by decide) hE rfl dX6_readLine_161 (Nat.zero_le _) (Nat.zero_le _) ⟨rfl, rfl, rfl, rfl, rfl, rfl⟩
        replace h := (if_neg c77_6).symm.trans h
        by_cases c77_7 : r1 = (7 : Int32)
        · replace h := (if_pos c77_7).symm.trans h
          refine g_tabI hC dX6_readLine_77 (off := 85) (tgt := 162) (by rw [c77_7]; decide) (by rw [c77_7]; decide) (by rw [c77_7]; rfl) (by decide) ?_
          refine g_aload_n hC dX6_readLine_162 rfl (q := 1) rfl ?_
          refine g_iload_n hC dX6_readLine_163 rfl (q := 0) rfl ?_
          refine g_bipush hC dX6_readLine_164 (v := (12 : Int32)) (by decide) ?_
          refine g_bipush hC dX6_readLine_166 (v := (31 : Int32)) (by decide) ?_
          obtain ⟨r168, h168, h⟩ := oB_some h
          refine g_cV1 hC cv_X6_readRow wd_1048 ⟨Nat.le_of_ble_eq_true rfl, Nat.le_of_ble_eq_true rfl⟩ rfl (by decide) dX6_readLine_168 (As := [.int r1, .int (12 : Int32), .int (31 : Int32)]) (st := []) (ok_X6_readRow hC.2.2.2.2.2.2.2.1 hW h168) rfl rfl (Nat.le_of_ble_eq_true rfl) ⟨Nat.zero_le _, Nat.zero_le _⟩ ?_
          refine g_if_eq hC dX6_readLine_171 (tgt := 185) (by decide) (fun c171 => ?_) (fun c171 => ?_)
          · replace h := (if_pos c171).symm.trans h
            refine g_iconst hC dX6_readLine_185 (v := (0 : Int32)) (by decide) ?_
            cases h
            exact g_zret hC (by decide) hE rfl dX6_readLine_186 (Nat.zero_le _) (Nat.zero_le _) ⟨rfl, rfl, rfl, rfl, rfl, rfl⟩
          · replace h := (if_neg c171).symm.trans h
            refine g_aload_n hC dX6_readLine_174 rfl (q := 1) rfl ?_
            obtain ⟨r175, h175, h⟩ := oB_some h
            refine g_cV1 hC cv_X6_readLineEnd wd_1040 ⟨Nat.le_of_ble_eq_true rfl, Nat.le_of_ble_eq_true rfl⟩ rfl (by decide) dX6_readLine_175 (As := []) (st := []) (ok_X6_readLineEnd hC.2.2.2.2.2.2.2.1 hW h175) rfl rfl (Nat.le_of_ble_eq_true rfl) ⟨Nat.zero_le _, Nat.zero_le _⟩ ?_
            refine g_if_eq hC dX6_readLine_178 (tgt := 185) (by decide) (fun c178 => ?_) (fun c178 => ?_)
            · replace h := (if_pos c178).symm.trans h
              refine g_iconst hC dX6_readLine_185 (v := (0 : Int32)) (by decide) ?_
              cases h
              exact g_zret hC (by decide) hE rfl dX6_readLine_186 (Nat.zero_le _) (Nat.zero_le _) ⟨rfl, rfl, rfl, rfl, rfl, rfl⟩
            · replace h := (if_neg c178).symm.trans h
              refine g_iconst hC dX6_readLine_181 (v := (1 : Int32)) (by decide) ?_
              refine g_goto hC dX6_readLine_182 (tgt := 186) (by decide) ?_
              cases h
              exact g_zret hC (by decide) hE rfl dX6_readLine_186 (Nat.zero_le _) (Nat.zero_le _) ⟨rfl, rfl, rfl, rfl, rfl, rfl⟩
        replace h := (if_neg c77_7).symm.trans h
        by_cases c77_8 : r1 = (8 : Int32)
        · replace h := (if_pos c77_8).symm.trans h
          refine g_tabI hC dX6_readLine_77 (off := 130) (tgt := 207) (by rw [c77_8]; decide) (by rw [c77_8]; decide) (by rw [c77_8]; rfl) (by decide) ?_
          refine g_aload_n hC dX6_readLine_207 rfl (q := 1) rfl ?_
          refine g_aload_n hC dX6_readLine_208 rfl (q := 1) rfl ?_
          obtain ⟨p209, e209, h⟩ := oB_some h
          have hp209 : mO5 R p209 := ob5 hW.1 (hW.2.2.1 p209 e209)
          refine g_getr hC fd_RX6_49 rfl (by decide) (C0 := _) (t0 := .int) (Or.inl rfl) e209 dX6_readLine_209 ?_
          refine g_getr hC fd_RX6_53 hp209.2.1 hp209.1 (C0 := _) (t0 := .int) (Or.inl rfl) hp209.2.2.2.2.2.1.1 dX6_readLine_212 ?_
          obtain ⟨r215, h215, h⟩ := oB_some h
          obtain ⟨gW215, h⟩ := oG_some h
          refine g_cV1 hC cv_X6_readExpr wd_1073 ⟨Nat.le_of_ble_eq_true rfl, Nat.le_of_ble_eq_true rfl⟩ rfl (by decide) dX6_readLine_215 (As := [.ref (mB E + (p209 + 4))]) (st := []) (ok_X6_readExpr hC.2.2.2.2.2.2.2.1 hW hp209.2.2.2.2.2.1.2 h215) rfl rfl (Nat.le_of_ble_eq_true rfl) ⟨Nat.zero_le _, Nat.zero_le _⟩ ?_
          have hW := wB_ok gW215
          refine g_if_eq hC dX6_readLine_218 (tgt := 232) (by decide) (fun c218 => ?_) (fun c218 => ?_)
          · replace h := (if_pos c218).symm.trans h
            refine g_iconst hC dX6_readLine_232 (v := (0 : Int32)) (by decide) ?_
            cases h
            exact g_zret hC (by decide) hE rfl dX6_readLine_233 (Nat.zero_le _) (Nat.zero_le _) ⟨rfl, rfl, rfl, rfl, rfl, rfl⟩
          · replace h := (if_neg c218).symm.trans h
            refine g_aload_n hC dX6_readLine_221 rfl (q := 1) rfl ?_
            obtain ⟨r222, h222, h⟩ := oB_some h
            refine g_cV1 hC cv_X6_readLineEnd wd_1040 ⟨Nat.le_of_ble_eq_true rfl, Nat.le_of_ble_eq_true rfl⟩ rfl (by decide) dX6_readLine_222 (As := []) (st := []) (ok_X6_readLineEnd hC.2.2.2.2.2.2.2.1 hW h222) rfl rfl (Nat.le_of_ble_eq_true rfl) ⟨Nat.zero_le _, Nat.zero_le _⟩ ?_
            refine g_if_eq hC dX6_readLine_225 (tgt := 232) (by decide) (fun c225 => ?_) (fun c225 => ?_)
            · replace h := (if_pos c225).symm.trans h
              refine g_iconst hC dX6_readLine_232 (v := (0 : Int32)) (by decide) ?_
              cases h
              exact g_zret hC (by decide) hE rfl dX6_readLine_233 (Nat.zero_le _) (Nat.zero_le _) ⟨rfl, rfl, rfl, rfl, rfl, rfl⟩
            · replace h := (if_neg c225).symm.trans h
              refine g_iconst hC dX6_readLine_228 (v := (1 : Int32)) (by decide) ?_
              refine g_goto hC dX6_readLine_229 (tgt := 233) (by decide) ?_
              cases h
              exact g_zret hC (by decide) hE rfl dX6_readLine_233 (Nat.zero_le _) (Nat.zero_le _) ⟨rfl, rfl, rfl, rfl, rfl, rfl⟩
        replace h := (if_neg c77_8).symm.trans h
        refine g_tabO hC dX6_readLine_77 (sw_out (fun j hj1 hj2 => ?_)) (tgt := 234) (by decide) ?_
        · rcases (show j = 4 ∨ j = 5 ∨ j = 6 ∨ j = 7 ∨ j = 8 by omega) with rfl | rfl | rfl | rfl | rfl <;> assumption
        refine g_aload_n hC dX6_readLine_234 rfl (q := 1) rfl ?_
        refine g_aload_n hC dX6_readLine_235 rfl (q := 1) rfl ?_
        obtain ⟨p236, e236, h⟩ := oB_some h
        have hp236 : mO5 R p236 := ob5 hW.1 (hW.2.2.1 p236 e236)
        refine g_getr hC fd_RX6_49 rfl (by decide) (C0 := _) (t0 := .int) (Or.inl rfl) e236 dX6_readLine_236 ?_
        refine g_getr hC fd_RX6_170 hp236.2.1 hp236.1 (C0 := _) (t0 := .int) (Or.inl rfl) hp236.2.2.2.2.2.2.1.1 dX6_readLine_239 ?_
        obtain ⟨r242, h242, h⟩ := oB_some h
        obtain ⟨gW242, h⟩ := oG_some h
        refine g_cV1 hC cv_X6_readExpr wd_1073 ⟨Nat.le_of_ble_eq_true rfl, Nat.le_of_ble_eq_true rfl⟩ rfl (by decide) dX6_readLine_242 (As := [.ref (mB E + (p236 + 10))]) (st := []) (ok_X6_readExpr hC.2.2.2.2.2.2.2.1 hW hp236.2.2.2.2.2.2.1.2 h242) rfl rfl (Nat.le_of_ble_eq_true rfl) ⟨Nat.zero_le _, Nat.zero_le _⟩ ?_
        have hW := wB_ok gW242
        refine g_if_eq hC dX6_readLine_245 (tgt := 259) (by decide) (fun c245 => ?_) (fun c245 => ?_)
        · replace h := (if_pos c245).symm.trans h
          refine g_iconst hC dX6_readLine_259 (v := (0 : Int32)) (by decide) ?_
          cases h
          exact g_zret hC (by decide) hE rfl dX6_readLine_260 (Nat.zero_le _) (Nat.zero_le _) ⟨rfl, rfl, rfl, rfl, rfl, rfl⟩
        · replace h := (if_neg c245).symm.trans h
          refine g_aload_n hC dX6_readLine_248 rfl (q := 1) rfl ?_
          obtain ⟨r249, h249, h⟩ := oB_some h
          refine g_cV1 hC cv_X6_readLineEnd wd_1040 ⟨Nat.le_of_ble_eq_true rfl, Nat.le_of_ble_eq_true rfl⟩ rfl (by decide) dX6_readLine_249 (As := []) (st := []) (ok_X6_readLineEnd hC.2.2.2.2.2.2.2.1 hW h249) rfl rfl (Nat.le_of_ble_eq_true rfl) ⟨Nat.zero_le _, Nat.zero_le _⟩ ?_
          refine g_if_eq hC dX6_readLine_252 (tgt := 259) (by decide) (fun c252 => ?_) (fun c252 => ?_)
          · replace h := (if_pos c252).symm.trans h
            refine g_iconst hC dX6_readLine_259 (v := (0 : Int32)) (by decide) ?_
            cases h
            exact g_zret hC (by decide) hE rfl dX6_readLine_260 (Nat.zero_le _) (Nat.zero_le _) ⟨rfl, rfl, rfl, rfl, rfl, rfl⟩
          · replace h := (if_neg c252).symm.trans h
            refine g_iconst hC dX6_readLine_255 (v := (1 : Int32)) (by decide) ?_
            refine g_goto hC dX6_readLine_256 (tgt := 260) (by decide) ?_
            cases h
            exact g_zret hC (by decide) hE rfl dX6_readLine_260 (Nat.zero_le _) (Nat.zero_le _) ⟨rfl, rfl, rfl, rfl, rfl, rfl⟩
      · replace h := (if_pos c51).symm.trans h
        refine g_aload_n hC dX6_readLine_54 rfl (q := 1) rfl ?_
        refine g_iconst hC dX6_readLine_55 (v := (5 : Int32)) (by decide) ?_
        obtain ⟨r56, h56, h⟩ := oB_some h
        refine g_cV1 hC cv_X6_refuse wd_1018 ⟨Nat.le_of_ble_eq_true rfl, Nat.le_of_ble_eq_true rfl⟩ rfl (by decide) dX6_readLine_56 (As := [.int (5 : Int32)]) (st := []) (ok_X6_refuse hC.2.2.2.2.2.2.2.1 hW h56) rfl rfl (Nat.le_of_ble_eq_true rfl) ⟨Nat.zero_le _, Nat.zero_le _⟩ ?_
        obtain ⟨g59, h⟩ := oG_some h
        cases h
        exact g_zret hC (isB_or g59) hE rfl dX6_readLine_59 (Nat.zero_le _) (Nat.zero_le _) ⟨rfl, rfl, rfl, rfl, rfl, rfl⟩
    · replace h := (if_neg c18).symm.trans h
      refine g_aload_n hC dX6_readLine_21 rfl (q := 1) rfl ?_
      refine g_iload_n hC dX6_readLine_22 rfl (q := 0) rfl ?_
      obtain ⟨r23, h23, h⟩ := oB_some h
      refine g_cV1 hC cv_X6_readRoot wd_1022 ⟨Nat.le_of_ble_eq_true rfl, Nat.le_of_ble_eq_true rfl⟩ rfl (by decide) dX6_readLine_23 (As := [.int r1]) (st := []) (ok_X6_readRoot hC.2.2.2.2.2.2.2.1 hW h23) rfl rfl (Nat.le_of_ble_eq_true rfl) ⟨Nat.zero_le _, Nat.zero_le _⟩ ?_
      refine g_if_eq hC dX6_readLine_26 (tgt := 40) (by decide) (fun c26 => ?_) (fun c26 => ?_)
      · replace h := (if_pos c26).symm.trans h
        refine g_iconst hC dX6_readLine_40 (v := (0 : Int32)) (by decide) ?_
        cases h
        exact g_zret hC (by decide) hE rfl dX6_readLine_41 (Nat.zero_le _) (Nat.zero_le _) ⟨rfl, rfl, rfl, rfl, rfl, rfl⟩
      · replace h := (if_neg c26).symm.trans h
        refine g_aload_n hC dX6_readLine_29 rfl (q := 1) rfl ?_
        obtain ⟨r30, h30, h⟩ := oB_some h
        refine g_cV1 hC cv_X6_readLineEnd wd_1040 ⟨Nat.le_of_ble_eq_true rfl, Nat.le_of_ble_eq_true rfl⟩ rfl (by decide) dX6_readLine_30 (As := []) (st := []) (ok_X6_readLineEnd hC.2.2.2.2.2.2.2.1 hW h30) rfl rfl (Nat.le_of_ble_eq_true rfl) ⟨Nat.zero_le _, Nat.zero_le _⟩ ?_
        refine g_if_eq hC dX6_readLine_33 (tgt := 40) (by decide) (fun c33 => ?_) (fun c33 => ?_)
        · replace h := (if_pos c33).symm.trans h
          refine g_iconst hC dX6_readLine_40 (v := (0 : Int32)) (by decide) ?_
          cases h
          exact g_zret hC (by decide) hE rfl dX6_readLine_41 (Nat.zero_le _) (Nat.zero_le _) ⟨rfl, rfl, rfl, rfl, rfl, rfl⟩
        · replace h := (if_neg c33).symm.trans h
          refine g_iconst hC dX6_readLine_36 (v := (1 : Int32)) (by decide) ?_
          refine g_goto hC dX6_readLine_37 (tgt := 41) (by decide) ?_
          cases h
          exact g_zret hC (by decide) hE rfl dX6_readLine_41 (Nat.zero_le _) (Nat.zero_le _) ⟨rfl, rfl, rfl, rfl, rfl, rfl⟩
  · replace h := (if_pos c7).symm.trans h
    refine g_aload_n hC dX6_readLine_10 rfl (q := 1) rfl ?_
    refine g_iconst hC dX6_readLine_11 (v := (1 : Int32)) (by decide) ?_
    obtain ⟨r12, h12, h⟩ := oB_some h
    refine g_cV1 hC cv_X6_refuse wd_1018 ⟨Nat.le_of_ble_eq_true rfl, Nat.le_of_ble_eq_true rfl⟩ rfl (by decide) dX6_readLine_12 (As := [.int (1 : Int32)]) (st := []) (ok_X6_refuse hC.2.2.2.2.2.2.2.1 hW h12) rfl rfl (Nat.le_of_ble_eq_true rfl) ⟨Nat.zero_le _, Nat.zero_le _⟩ ?_
    obtain ⟨g15, h⟩ := oG_some h
    cases h
    exact g_zret hC (isB_or g15) hE rfl dX6_readLine_15 (Nat.zero_le _) (Nat.zero_le _) ⟨rfl, rfl, rfl, rfl, rfl, rfl⟩
noncomputable def b_X6_readTower_40 (Fu : Nat) (k40_ : Int32 × Int32 × mIT × mRT → Option (Int32 × mIT × mRT)) (v2 : Int32) (v3 : Int32) (I : mIT) (R : mRT) : Option (Int32 × mIT × mRT) :=
  oG (wB R) (if (700 : Int32) ≤ v3 then (some ((I 1 9), I, R)) else (if v2 = 0 then (some ((I 1 9), I, R)) else (if (I 1 4) = 0 then (some ((I 1 9), I, R)) else (oB (f_X6_readLine Fu R I) (fun r59 => oG (wB r59.2.2) (k40_ (r59.1, (v3 + (1 : Int32)), r59.2.1, r59.2.2)))))))
set_option maxRecDepth 20000 in
theorem bo_X6_readTower_40 {X : mXT} {E : mEn} {Fu : Nat} {L : mLT}  (hC : mC X E mX6_readTower RX6 cX6_readTower)   {out : Int32 × mIT × mRT} (hE : mEd X E 0 0 (mSame (some (.int (out.1))) 106 1 (out.2.1) (out.2.2) L)) (k40_ : Int32 × Int32 × mIT × mRT → Option (Int32 × mIT × mRT)) (hk40_ : ∀ (v2 : Int32) (v3 : Int32) (I : mIT) (R : mRT),  k40_ (v2, v3, I, R) = some out → mG X E 40 [(0, .ref (mB E + 1)), (2, .int v2), (3, .int v3)] [] 106 1 I R L 0 0) (v2 : Int32) (v3 : Int32) (I : mIT) (R : mRT) (h : b_X6_readTower_40 Fu k40_ v2 v3 I R = some out) : mG X E 40 [(0, .ref (mB E + 1)), (2, .int v2), (3, .int v3)] [] 106 1 I R L 0 0 := by
  unfold b_X6_readTower_40 at h
  obtain ⟨gW0, h⟩ := oG_some h
  have hW := wB_ok gW0
  refine g_iload_n hC dX6_readTower_40 rfl (q := 2) rfl ?_
  refine g_sipush hC dX6_readTower_41 (v := (700 : Int32)) (by decide) ?_
  refine g_ic_ge hC dX6_readTower_44 (tgt := 69) (by decide) (fun c44 => ?_) (fun c44 => ?_)
  · replace h := (if_pos c44).symm.trans h
    refine g_aload_n hC dX6_readTower_69 rfl (q := 0) rfl ?_
    refine g_geti hC fd_RX6_40 rfl (by decide) (Or.inl rfl) dX6_readTower_70 ?_
    cases h
    exact g_iret hC hE rfl dX6_readTower_73 (Nat.zero_le _) (Nat.zero_le _) ⟨rfl, rfl, rfl, rfl, rfl, rfl⟩
  · replace h := (if_neg c44).symm.trans h
    refine g_iload_n hC dX6_readTower_47 rfl (q := 1) rfl ?_
    refine g_if_eq hC dX6_readTower_48 (tgt := 69) (by decide) (fun c48 => ?_) (fun c48 => ?_)
    · replace h := (if_pos c48).symm.trans h
      refine g_aload_n hC dX6_readTower_69 rfl (q := 0) rfl ?_
      refine g_geti hC fd_RX6_40 rfl (by decide) (Or.inl rfl) dX6_readTower_70 ?_
      cases h
      exact g_iret hC hE rfl dX6_readTower_73 (Nat.zero_le _) (Nat.zero_le _) ⟨rfl, rfl, rfl, rfl, rfl, rfl⟩
    · replace h := (if_neg c48).symm.trans h
      refine g_aload_n hC dX6_readTower_51 rfl (q := 0) rfl ?_
      refine g_geti hC fd_RX6_25 rfl (by decide) (Or.inl rfl) dX6_readTower_52 ?_
      refine g_if_eq hC dX6_readTower_55 (tgt := 69) (by decide) (fun c55 => ?_) (fun c55 => ?_)
      · replace h := (if_pos c55).symm.trans h
        refine g_aload_n hC dX6_readTower_69 rfl (q := 0) rfl ?_
        refine g_geti hC fd_RX6_40 rfl (by decide) (Or.inl rfl) dX6_readTower_70 ?_
        cases h
        exact g_iret hC hE rfl dX6_readTower_73 (Nat.zero_le _) (Nat.zero_le _) ⟨rfl, rfl, rfl, rfl, rfl, rfl⟩
      · replace h := (if_neg c55).symm.trans h
        refine g_aload_n hC dX6_readTower_58 rfl (q := 0) rfl ?_
        obtain ⟨r59, h59, h⟩ := oB_some h
        obtain ⟨gW59, h⟩ := oG_some h
        refine g_cV1 hC cv_X6_readLine wd_948 ⟨Nat.le_of_ble_eq_true rfl, Nat.le_of_ble_eq_true rfl⟩ rfl (by decide) dX6_readTower_59 (As := []) (st := []) (ok_X6_readLine hC.2.2.2.2.2.2.2.1 hW h59) rfl rfl (Nat.le_of_ble_eq_true rfl) ⟨Nat.zero_le _, Nat.zero_le _⟩ ?_
        have hW := wB_ok gW59
        refine g_istore_n hC dX6_readTower_62 rfl rfl (by decide) (lv' := [(2, .int r59.1), (0, .ref (mB E + 1)), (3, .int v3)]) rfl ?_
        refine g_iinc hC dX6_readTower_63 rfl (q := 2) rfl (w := (v3 + (1 : Int32))) rfl (by decide) (lv' := [(3, .int (v3 + (1 : Int32))), (2, .int r59.1), (0, .ref (mB E + 1))]) rfl ?_
        refine g_goto hC dX6_readTower_66 (tgt := 40) (by decide) ?_
        refine g_lv [2, 1, 0] rfl ?_
        exact hk40_ r59.1 (v3 + (1 : Int32)) r59.2.1 r59.2.2 h
noncomputable def w_X6_readTower_40 (Fu : Nat)  (N : Nat) (v2 : Int32) (v3 : Int32) (I : mIT) (R : mRT) : Option (Int32 × mIT × mRT) :=
  loopF (fun self (s : Int32 × Int32 × mIT × mRT) => b_X6_readTower_40 Fu self s.1 s.2.1 s.2.2.1 s.2.2.2) N (v2, v3, I, R)
theorem wo_X6_readTower_40 {X : mXT} {E : mEn} {Fu : Nat} {L : mLT}  (hC : mC X E mX6_readTower RX6 cX6_readTower)   {out : Int32 × mIT × mRT} (hE : mEd X E 0 0 (mSame (some (.int (out.1))) 106 1 (out.2.1) (out.2.2) L))  (N : Nat) (v2 : Int32) (v3 : Int32) (I : mIT) (R : mRT) (h : w_X6_readTower_40 Fu  N v2 v3 I R = some out) : mG X E 40 [(0, .ref (mB E + 1)), (2, .int v2), (3, .int v3)] [] 106 1 I R L 0 0 :=
  loopF_ok (Gd := fun s : Int32 × Int32 × mIT × mRT => mG X E 40 [(0, .ref (mB E + 1)), (2, .int s.1), (3, .int s.2.1)] [] 106 1 s.2.2.1 s.2.2.2 L 0 0) (fun self hs s h => bo_X6_readTower_40 hC hE self (fun v2 v3 I R h => hs (v2, v3, I, R) h) s.1 s.2.1 s.2.2.1 s.2.2.2 h) N (v2, v3, I, R) h
noncomputable def f_X6_readTower (Fu : Nat) (R : mRT) (I : mIT) (v1 : Int32) : Option (Int32 × mIT × mRT) :=
  oB (R 1 11) (fun p26 => oB (f_X5_clear Fu (mU (mU (mU (mU (mU I 1 1 (0 : Int32)) 1 2 v1) 1 3 (0 : Int32)) 1 9 (0 : Int32)) 1 10 (0 : Int32)) p26) (fun r29 => oB (f_X6_step Fu r29) (fun r33 => w_X6_readTower_40 Fu Fu (1 : Int32) (0 : Int32) r33 R)))
set_option maxRecDepth 20000 in
theorem ok_X6_readTower {l : Launch} {E : mEn} {Fu : Nat} {I : mIT} {R : mRT} {L : mLT} {v1 : Int32} (hst : l.stackTraces = false) (hW : mWd R)  {out : Int32 × mIT × mRT} (h : f_X6_readTower Fu R I v1 = some out) : mOk l E mX6_readTower [.ref (mB E + 1), .int v1] 106 1 I R L 0 0 (mSame (some (.int (out.1))) 106 1 (out.2.1) (out.2.2) L) := by
  refine mOk_of hst (by decide) (Nat.le_of_ble_eq_true rfl) (fun X hC hE _ => ?_)
  have hC : mC X E mX6_readTower RX6 cX6_readTower := hC
  show mG X E 0 [(0, .ref (mB E + 1)), (1, .int v1)] [] 106 1 I R L 0 0
  unfold f_X6_readTower at h
  refine g_aload_n hC dX6_readTower_0 rfl (q := 0) rfl ?_
  refine g_iconst hC dX6_readTower_1 (v := (0 : Int32)) (by decide) ?_
  refine g_puti hC fd_RX6_15 rfl (by decide) rfl dX6_readTower_2 (nm_e ?_)
  refine g_aload_n hC dX6_readTower_5 rfl (q := 0) rfl ?_
  refine g_iload_n hC dX6_readTower_6 rfl (q := 1) rfl ?_
  refine g_puti hC fd_RX6_19 rfl (by decide) rfl dX6_readTower_7 (nm_e ?_)
  refine g_aload_n hC dX6_readTower_10 rfl (q := 0) rfl ?_
  refine g_iconst hC dX6_readTower_11 (v := (0 : Int32)) (by decide) ?_
  refine g_puti hC fd_RX6_22 rfl (by decide) rfl dX6_readTower_12 (nm_e ?_)
  refine g_aload_n hC dX6_readTower_15 rfl (q := 0) rfl ?_
  refine g_iconst hC dX6_readTower_16 (v := (0 : Int32)) (by decide) ?_
  refine g_puti hC fd_RX6_40 rfl (by decide) rfl dX6_readTower_17 (nm_e ?_)
  refine g_aload_n hC dX6_readTower_20 rfl (q := 0) rfl ?_
  refine g_iconst hC dX6_readTower_21 (v := (0 : Int32)) (by decide) ?_
  refine g_puti hC fd_RX6_43 rfl (by decide) rfl dX6_readTower_22 (nm_e ?_)
  refine g_aload_n hC dX6_readTower_25 rfl (q := 0) rfl ?_
  obtain ⟨p26, e26, h⟩ := oB_some h
  have hp26 : mO5 R p26 := ob5 hW.1 (hW.2.2.1 p26 e26)
  refine g_getr hC fd_RX6_49 rfl (by decide) (C0 := _) (t0 := .int) (Or.inl rfl) e26 dX6_readTower_26 ?_
  obtain ⟨r29, h29, h⟩ := oB_some h
  refine g_cV0 hC cv_X5_clear wd_912 ⟨Nat.le_of_ble_eq_true rfl, Nat.le_of_ble_eq_true rfl⟩ hp26.2.1 hp26.1 dX6_readTower_29 (As := []) (st := []) (ok_X5_clear hC.2.2.2.2.2.2.2.1 hp26 h29) rfl rfl (Nat.le_of_ble_eq_true rfl) ⟨Nat.zero_le _, Nat.zero_le _⟩ ?_
  refine g_aload_n hC dX6_readTower_32 rfl (q := 0) rfl ?_
  obtain ⟨r33, h33, h⟩ := oB_some h
  refine g_cV0 hC cv_X6_step wd_924 ⟨Nat.le_of_ble_eq_true rfl, Nat.le_of_ble_eq_true rfl⟩ rfl (by decide) dX6_readTower_33 (As := []) (st := []) (ok_X6_step hC.2.2.2.2.2.2.2.1 hW h33) rfl rfl (Nat.le_of_ble_eq_true rfl) ⟨Nat.zero_le _, Nat.zero_le _⟩ ?_
  refine g_iconst hC dX6_readTower_36 (v := (1 : Int32)) (by decide) ?_
  refine g_istore_n hC dX6_readTower_37 rfl rfl (by decide) (lv' := [(2, .int (1 : Int32)), (0, .ref (mB E + 1)), (1, .int v1)]) rfl ?_
  refine g_iconst hC dX6_readTower_38 (v := (0 : Int32)) (by decide) ?_
  refine g_istore_n hC dX6_readTower_39 rfl rfl (by decide) (lv' := [(3, .int (0 : Int32)), (2, .int (1 : Int32)), (0, .ref (mB E + 1)), (1, .int v1)]) rfl ?_
  refine g_lv [2, 1, 0] rfl ?_
  exact wo_X6_readTower_40 hC hE Fu ((1 : Int32)) ((0 : Int32)) (r33) (R) h
noncomputable def f_X6_faultPlace (Fu : Nat) (I : mIT)  : Option (Int32) :=
  some (I 1 5)
set_option maxRecDepth 20000 in
theorem ok_X6_faultPlace {l : Launch} {E : mEn} {Fu : Nat} {I : mIT} {R : mRT} {L : mLT}  (hst : l.stackTraces = false) (hW : mWd R)  {out : Int32} (h : f_X6_faultPlace Fu I  = some out) : mOk l E mX6_faultPlace [.ref (mB E + 1)] 106 1 I R L 0 0 (mSame (some (.int (out))) 106 1 I R L) := by
  refine mOk_of hst (by decide) (Nat.le_of_ble_eq_true rfl) (fun X hC hE _ => ?_)
  have hC : mC X E mX6_faultPlace RX6 cX6_faultPlace := hC
  show mG X E 0 [(0, .ref (mB E + 1))] [] 106 1 I R L 0 0
  unfold f_X6_faultPlace at h
  refine g_aload_n hC dX6_faultPlace_0 rfl (q := 0) rfl ?_
  refine g_geti hC fd_RX6_28 rfl (by decide) (Or.inl rfl) dX6_faultPlace_1 ?_
  cases h
  exact g_iret hC hE rfl dX6_faultPlace_4 (Nat.zero_le _) (Nat.zero_le _) ⟨rfl, rfl, rfl, rfl, rfl, rfl⟩
noncomputable def f_X6_handOver (Fu : Nat) (R : mRT) (k1 : Nat) : Option (Nat × mRT) :=
  oB (R 1 11) (fun p1 => some (p1, (mUR R 1 11 (some k1))))
set_option maxRecDepth 20000 in
theorem ok_X6_handOver {l : Launch} {E : mEn} {Fu : Nat} {I : mIT} {R : mRT} {L : mLT} {k1 : Nat} (hst : l.stackTraces = false) (hW : mWd R) (hk1 : mO5 R k1) {out : Nat × mRT} (h : f_X6_handOver Fu R k1 = some out) : mOk l E mX6_handOver [.ref (mB E + 1), .ref (mB E + k1)] 106 1 I R L 0 0 (mSame (some (.ref (mB E + out.1))) 106 1 I (out.2) L) := by
  refine mOk_of hst (by decide) (Nat.le_of_ble_eq_true rfl) (fun X hC hE _ => ?_)
  have hC : mC X E mX6_handOver RX6 cX6_handOver := hC
  show mG X E 0 [(0, .ref (mB E + 1)), (1, .ref (mB E + k1))] [] 106 1 I R L 0 0
  unfold f_X6_handOver at h
  refine g_aload_n hC dX6_handOver_0 rfl (q := 0) rfl ?_
  obtain ⟨p1, e1, h⟩ := oB_some h
  have hp1 : mO5 R p1 := ob5 hW.1 (hW.2.2.1 p1 e1)
  refine g_getr hC fd_RX6_49 rfl (by decide) (C0 := _) (t0 := .int) (Or.inl rfl) e1 dX6_handOver_1 ?_
  refine g_astore_n hC dX6_handOver_4 rfl rfl (by decide) (lv' := [(2, .ref (mB E + p1)), (0, .ref (mB E + 1)), (1, .ref (mB E + k1))]) rfl ?_
  refine g_aload_n hC dX6_handOver_5 rfl (q := 1) rfl ?_
  refine g_aload_n hC dX6_handOver_6 rfl (q := 2) rfl ?_
  refine g_putr hC fd_RX6_49 rfl (by decide) (C0 := _) (t0 := .int) (Or.inl rfl) dX6_handOver_7 (nm_e ?_)
  have hW := mWd_1b hW hk1
  refine g_aload_n hC dX6_handOver_10 rfl (q := 0) rfl ?_
  cases h
  exact g_aret hC hE rfl dX6_handOver_11 (Nat.zero_le _) (Nat.zero_le _) ⟨rfl, rfl, rfl, rfl, rfl, rfl⟩
noncomputable def f_X11_tower (Fu : Nat) (R : mRT) (I : mIT) (v1 : Int32) : Option ((Int32 × mIT × mRT) ⊕ (Nat × mIT)) :=
  if v1 < 0 then (some (.inr (2, I))) else (oB (f_X6_taped Fu I) (fun r9 => if v1 ≤ r9 then (oB (f_X6_readTower Fu R I v1) (fun r30 => oG (wB r30.2.2) (if r30.1 = 0 then (oB (r30.2.2 0 3) (fun p72 => oB (f_X6_handOver Fu r30.2.2 p72) (fun r75 => oG (wB r75.2) (oG (isP r75.1) (oB ((mUR r75.2 0 3 (some r75.1)) 0 3) (fun p86 => oB (f_X9_copyFrom Fu (mU r30.2.1 0 1 (-1 : Int32)) 40 (p86 + 16)) (fun r92 => oB (f_X0_clear Fu r92 42) (fun r99 => oB (f_X4_clear Fu r99 44) (fun r106 => oB (f_X11_forgetWork Fu (mU r106 0 10 (0 : Int32))) (fun r115 => some (.inl ((0 : Int32), r115, (mUR r75.2 0 3 (some r75.1)))))))))))))) else (oB (f_X6_faultPlace Fu r30.2.1) (fun r43 => oG (inB (0 : Int32) 3) (oG (inB (0 : Int32) 3) (some (.inl (r30.1, (mU (mU r30.2.1 0 1 r43) 21 ((0 : Int32)).toNatClampNeg (((mU r30.2.1 0 1 r43) 21 ((0 : Int32)).toNatClampNeg) + (1 : Int32))), r30.2.2))))))))) else (some (.inr (2, I)))))
set_option maxRecDepth 20000 in
theorem oy_X11_tower {l : Launch} {E : mEn} {Fu : Nat} {I : mIT} {R : mRT} {L : mLT} {v1 : Int32} (hst : l.stackTraces = false) (hW : mWd R)  {out : (Int32 × mIT × mRT) ⊕ (Nat × mIT)} (h : f_X11_tower Fu R I v1 = some out) {mc ms : Nat} {post : Option Value → Nat → Nat → mIT → mRT → mLT → Prop} {px : String → Nat → Nat → mIT → mRT → mLT → Prop} (ho : Sum.elim (fun o : Int32 × mIT × mRT => post (some (.int (o.1))) 106 1 (o.2.1) (o.2.2) L) (fun q : Nat × mIT => 1 ≤ mc ∧ 6 ≤ ms ∧ px (xNm q.1) 106 1 q.2 R L) out) : mOx l E mX11_tower [.ref (mB E + 0), .int v1] 106 1 I R L mc ms post px := by
  refine mOx_of hst (by decide) (Nat.le_of_ble_eq_true rfl) (fun X hC hE0 _ => ?_)
  have hE : mEx X E mc ms post px ∧ Sum.elim (fun o : Int32 × mIT × mRT => post (some (.int (o.1))) 106 1 (o.2.1) (o.2.2) L) (fun q : Nat × mIT => 1 ≤ mc ∧ 6 ≤ ms ∧ px (xNm q.1) 106 1 q.2 R L) out := ⟨hE0, ho⟩
  have hC : mC X E mX11_tower RX11 cX11_tower := hC
  show mG X E 0 [(0, .ref (mB E + 0)), (1, .int v1)] [] 106 1 I R L 0 0
  unfold f_X11_tower at h
  refine g_iload_n hC dX11_tower_0 rfl (q := 1) rfl ?_
  refine g_if_lt hC dX11_tower_1 (tgt := 15) (by decide) (fun c1 => ?_) (fun c1 => ?_)
  · replace h := (if_pos c1).symm.trans h
    cases h
    have hq : 1 ≤ mc ∧ 6 ≤ ms ∧ px (xNm 2) 106 1 I R L := hE.2
    exact g_thr hC hE.1 tw_RX11_108 (j := 0) rfl dX11_tower_15 dX11_tower_18 dX11_tower_19 dX11_tower_21 dX11_tower_24 (Nat.le_of_ble_eq_true rfl) (Nat.le_of_ble_eq_true rfl) (by decide) hq.1 hq.2.1 hq.2.2
  · replace h := (if_neg c1).symm.trans h
    refine g_iload_n hC dX11_tower_4 rfl (q := 1) rfl ?_
    refine g_aload_n hC dX11_tower_5 rfl (q := 0) rfl ?_
    refine g_getr hC fd_RX11_10 rfl (by decide) (C0 := _) (t0 := .int) (Or.inl rfl) (rr_0_0 hW.1) dX11_tower_6 ?_
    obtain ⟨r9, h9, h⟩ := oB_some h
    refine g_cV1 hC cv_X6_taped wd_523 ⟨Nat.le_of_ble_eq_true rfl, Nat.le_of_ble_eq_true rfl⟩ rfl (by decide) dX11_tower_9 (As := []) (st := [.int v1]) (ok_X6_taped hC.2.2.2.2.2.2.2.1 hW h9) rfl rfl (Nat.le_of_ble_eq_true rfl) ⟨Nat.zero_le _, Nat.zero_le _⟩ ?_
    refine g_ic_le hC dX11_tower_12 (tgt := 25) (by decide) (fun c12 => ?_) (fun c12 => ?_)
    · replace h := (if_pos c12).symm.trans h
      refine g_aload_n hC dX11_tower_25 rfl (q := 0) rfl ?_
      refine g_getr hC fd_RX11_10 rfl (by decide) (C0 := _) (t0 := .int) (Or.inl rfl) (rr_0_0 hW.1) dX11_tower_26 ?_
      refine g_iload_n hC dX11_tower_29 rfl (q := 1) rfl ?_
      obtain ⟨r30, h30, h⟩ := oB_some h
      obtain ⟨gW30, h⟩ := oG_some h
      refine g_cV1 hC cv_X6_readTower wd_908 ⟨Nat.le_of_ble_eq_true rfl, Nat.le_of_ble_eq_true rfl⟩ rfl (by decide) dX11_tower_30 (As := [.int v1]) (st := []) (ok_X6_readTower hC.2.2.2.2.2.2.2.1 hW h30) rfl rfl (Nat.le_of_ble_eq_true rfl) ⟨Nat.zero_le _, Nat.zero_le _⟩ ?_
      have hW := wB_ok gW30
      refine g_istore_n hC dX11_tower_33 rfl rfl (by decide) (lv' := [(2, .int r30.1), (0, .ref (mB E + 0)), (1, .int v1)]) rfl ?_
      refine g_iload_n hC dX11_tower_34 rfl (q := 0) rfl ?_
      refine g_if_eq hC dX11_tower_35 (tgt := 61) (by decide) (fun c35 => ?_) (fun c35 => ?_)
      · replace h := (if_pos c35).symm.trans h
        refine g_aload_n hC dX11_tower_61 rfl (q := 1) rfl ?_
        refine g_iconst hC dX11_tower_62 (v := (-1 : Int32)) (by decide) ?_
        refine g_puti hC fd_RX11_16 rfl (by decide) rfl dX11_tower_63 (nm_e ?_)
        refine g_aload_n hC dX11_tower_66 rfl (q := 1) rfl ?_
        refine g_aload_n hC dX11_tower_67 rfl (q := 1) rfl ?_
        refine g_getr hC fd_RX11_10 rfl (by decide) (C0 := _) (t0 := .int) (Or.inl rfl) (rr_0_0 hW.1) dX11_tower_68 ?_
        refine g_aload_n hC dX11_tower_71 rfl (q := 1) rfl ?_
        obtain ⟨p72, e72, h⟩ := oB_some h
        have hp72 : mO5 r30.2.2 p72 := ob5 hW.1 (hW.2.1 p72 e72)
        refine g_getr hC fd_RX11_27 rfl (by decide) (C0 := _) (t0 := .int) (Or.inl rfl) e72 dX11_tower_72 ?_
        obtain ⟨r75, h75, h⟩ := oB_some h
        obtain ⟨gW75, h⟩ := oG_some h
        refine g_cV1 hC cv_X6_handOver wd_1130 ⟨Nat.le_of_ble_eq_true rfl, Nat.le_of_ble_eq_true rfl⟩ rfl (by decide) dX11_tower_75 (As := [.ref (mB E + p72)]) (st := [.ref (mB E + 0)]) (ok_X6_handOver hC.2.2.2.2.2.2.2.1 hW hp72 h75) rfl rfl (Nat.le_of_ble_eq_true rfl) ⟨Nat.zero_le _, Nat.zero_le _⟩ ?_
        have hW := wB_ok gW75
        obtain ⟨gP75, h⟩ := oG_some h
        have hq75 := ob5 hW.1 (isP_or gP75)
        refine g_putr hC fd_RX11_27 rfl (by decide) (C0 := _) (t0 := .int) (Or.inl rfl) dX11_tower_78 (nm_e ?_)
        have hW := mWd_03 hW hq75
        refine g_aload_n hC dX11_tower_81 rfl (q := 1) rfl ?_
        refine g_getr hC fd_RX11_34 rfl (by decide) (C0 := _) (t0 := .int) (Or.inl rfl) (rr_0_4 hW.1) dX11_tower_82 ?_
        refine g_aload_n hC dX11_tower_85 rfl (q := 1) rfl ?_
        obtain ⟨p86, e86, h⟩ := oB_some h
        have hp86 : mO5 (mUR r75.2 0 3 (some r75.1)) p86 := ob5 hW.1 (hW.2.1 p86 e86)
        refine g_getr hC fd_RX11_27 rfl (by decide) (C0 := _) (t0 := .int) (Or.inl rfl) e86 dX11_tower_86 ?_
        refine g_getr hC fd_RX11_126 hp86.2.1 hp86.1 (C0 := _) (t0 := .int) (Or.inl rfl) hp86.2.2.2.2.2.2.2.1 dX11_tower_89 ?_
        obtain ⟨r92, h92, h⟩ := oB_some h
        refine g_cV0 hC cv_X9_copyFrom wd_819 ⟨Nat.le_of_ble_eq_true rfl, Nat.le_of_ble_eq_true rfl⟩ rfl (by decide) dX11_tower_92 (As := [.ref (mB E + (p86 + 16))]) (st := []) (ok_X9_copyFrom hC.2.2.2.2.2.2.2.1 (ob_40 hW.1) hp86.2.2.2.2.2.2.2.2 h92) rfl rfl (Nat.le_of_ble_eq_true rfl) ⟨Nat.zero_le _, Nat.zero_le _⟩ ?_
        refine g_aload_n hC dX11_tower_95 rfl (q := 1) rfl ?_
        refine g_getr hC fd_RX11_41 rfl (by decide) (C0 := _) (t0 := .int) (Or.inl rfl) (rr_0_5 hW.1) dX11_tower_96 ?_
        obtain ⟨r99, h99, h⟩ := oB_some h
        refine g_cV0 hC cv_X0_clear wd_1134 ⟨Nat.le_of_ble_eq_true rfl, Nat.le_of_ble_eq_true rfl⟩ rfl (by decide) dX11_tower_99 (As := []) (st := []) (ok_X0_clear hC.2.2.2.2.2.2.2.1 (ob_42 hW.1) h99) rfl rfl (Nat.le_of_ble_eq_true rfl) ⟨Nat.zero_le _, Nat.zero_le _⟩ ?_
        refine g_aload_n hC dX11_tower_102 rfl (q := 1) rfl ?_
        refine g_getr hC fd_RX11_48 rfl (by decide) (C0 := _) (t0 := .int) (Or.inl rfl) (rr_0_6 hW.1) dX11_tower_103 ?_
        obtain ⟨r106, h106, h⟩ := oB_some h
        refine g_cV0 hC cv_X4_clear wd_807 ⟨Nat.le_of_ble_eq_true rfl, Nat.le_of_ble_eq_true rfl⟩ rfl (by decide) dX11_tower_106 (As := []) (st := []) (ok_X4_clear hC.2.2.2.2.2.2.2.1 (ob_44 hW.1) h106) rfl rfl (Nat.le_of_ble_eq_true rfl) ⟨Nat.zero_le _, Nat.zero_le _⟩ ?_
        refine g_aload_n hC dX11_tower_109 rfl (q := 1) rfl ?_
        refine g_iconst hC dX11_tower_110 (v := (0 : Int32)) (by decide) ?_
        refine g_putz hC (by decide) fd_RX11_61 rfl (by decide) rfl dX11_tower_111 (nm_e ?_)
        refine g_aload_n hC dX11_tower_114 rfl (q := 1) rfl ?_
        obtain ⟨r115, h115, h⟩ := oB_some h
        refine g_cV0 hC cv_X11_forgetWork wd_566 ⟨Nat.le_of_ble_eq_true rfl, Nat.le_of_ble_eq_true rfl⟩ rfl (by decide) dX11_tower_115 (As := []) (st := []) (ok_X11_forgetWork hC.2.2.2.2.2.2.2.1 hW h115) rfl rfl (Nat.le_of_ble_eq_true rfl) ⟨Nat.zero_le _, Nat.zero_le _⟩ ?_
        refine g_iconst hC dX11_tower_118 (v := (0 : Int32)) (by decide) ?_
        cases h
        exact g_xiret hC hE.1 rfl dX11_tower_119 (Nat.zero_le _) (Nat.zero_le _) hE.2
      · replace h := (if_neg c35).symm.trans h
        refine g_aload_n hC dX11_tower_38 rfl (q := 1) rfl ?_
        refine g_aload_n hC dX11_tower_39 rfl (q := 1) rfl ?_
        refine g_getr hC fd_RX11_10 rfl (by decide) (C0 := _) (t0 := .int) (Or.inl rfl) (rr_0_0 hW.1) dX11_tower_40 ?_
        obtain ⟨r43, h43, h⟩ := oB_some h
        refine g_cV1 hC cv_X6_faultPlace wd_1126 ⟨Nat.le_of_ble_eq_true rfl, Nat.le_of_ble_eq_true rfl⟩ rfl (by decide) dX11_tower_43 (As := []) (st := [.ref (mB E + 0)]) (ok_X6_faultPlace hC.2.2.2.2.2.2.2.1 hW h43) rfl rfl (Nat.le_of_ble_eq_true rfl) ⟨Nat.zero_le _, Nat.zero_le _⟩ ?_
        refine g_puti hC fd_RX11_16 rfl (by decide) rfl dX11_tower_46 (nm_e ?_)
        refine g_aload_n hC dX11_tower_49 rfl (q := 1) rfl ?_
        refine g_getr hC fd_RX11_20 rfl (by decide) (C0 := "") (t0 := _) (Or.inr rfl) (rr_0_2 hW.1) dX11_tower_50 ?_
        refine g_iconst hC dX11_tower_53 (v := (0 : Int32)) (by decide) ?_
        refine g_dup2 hC dX11_tower_54 rfl rfl ?_
        obtain ⟨g55, h⟩ := oG_some h
        refine g_iald hC rfl (by decide) (inB_in g55) dX11_tower_55 ?_
        refine g_iconst hC dX11_tower_56 (v := (1 : Int32)) (by decide) ?_
        refine g_iadd hC dX11_tower_57 ?_
        obtain ⟨g58, h⟩ := oG_some h
        refine g_iast hC rfl (by decide) (inB_in g58) dX11_tower_58 (nm_e ?_)
        refine g_iload_n hC dX11_tower_59 rfl (q := 0) rfl ?_
        cases h
        exact g_xiret hC hE.1 rfl dX11_tower_60 (Nat.zero_le _) (Nat.zero_le _) hE.2
    · replace h := (if_neg c12).symm.trans h
      cases h
      have hq : 1 ≤ mc ∧ 6 ≤ ms ∧ px (xNm 2) 106 1 I R L := hE.2
      exact g_thr hC hE.1 tw_RX11_108 (j := 0) rfl dX11_tower_15 dX11_tower_18 dX11_tower_19 dX11_tower_21 dX11_tower_24 (Nat.le_of_ble_eq_true rfl) (Nat.le_of_ble_eq_true rfl) (by decide) hq.1 hq.2.1 hq.2.2
theorem oi_X11_tower {l : Launch} {E : mEn} {Fu : Nat} {I : mIT} {R : mRT} {L : mLT} {v1 : Int32} (hst : l.stackTraces = false) (hW : mWd R)  {out : Int32 × mIT × mRT} (h : f_X11_tower Fu R I v1 = some (.inl out)) : mOx l E mX11_tower [.ref (mB E + 0), .int v1] 106 1 I R L 0 0 (mSame (some (.int (out.1))) 106 1 (out.2.1) (out.2.2) L) (fun _ _ _ _ _ _ => False) := oy_X11_tower hst hW h ⟨rfl, rfl, rfl, rfl, rfl, rfl⟩
theorem ox_X11_tower {l : Launch} {E : mEn} {Fu : Nat} {I : mIT} {R : mRT} {L : mLT} {v1 : Int32} (hst : l.stackTraces = false) (hW : mWd R)  {q : Nat × mIT} (h : f_X11_tower Fu R I v1 = some (.inr q)) : mOx l E mX11_tower [.ref (mB E + 0), .int v1] 106 1 I R L 1 6 (fun _ _ _ _ _ _ => False) (mXp q.1 106 1 q.2 R L) := oy_X11_tower hst hW h ⟨Nat.le_refl _, Nat.le_refl _, rfl, rfl, rfl, rfl, rfl, rfl⟩
noncomputable def b_X11_towers_40 (Fu : Nat) (R : mRT) (k40_ : Int32 × Int32 × Int32 × mIT → Option ((Int32 × mIT) ⊕ (Nat × mIT))) (v2 : Int32) (v3 : Int32) (v4 : Int32) (I : mIT) : Option ((Int32 × mIT) ⊕ (Nat × mIT)) :=
  if v2 ≤ v4 then (if v3 = 0 then (oB (R 0 3) (fun p72 => oB (f_X10_sounding Fu I p72) (fun r75 => some (.inl (r75, I))))) else (if v3 = (1 : Int32) then (oB (R 0 3) (fun p91 => oB (f_X10_gone Fu I p91) (fun r94 => some (.inl (r94, I))))) else (oB (R 0 3) (fun p105 => oB (f_X10_sizeInGarden Fu I p105) (fun r108 => some (.inl (r108, I))))))) else (oB (R 0 3) (fun p51 => oB (f_X10_passDrawnDay Fu I p51) (fun r54 => k40_ (v2, v3, (v4 + (1 : Int32)), r54))))
set_option maxRecDepth 20000 in
theorem bo_X11_towers_40 {X : mXT} {E : mEn} {Fu : Nat} {R : mRT} {L : mLT}  (hC : mC X E mX11_towers RX11 cX11_towers) (hW : mWd R)   {out : (Int32 × mIT) ⊕ (Nat × mIT)} {mc ms : Nat} {post : Option Value → Nat → Nat → mIT → mRT → mLT → Prop} {px : String → Nat → Nat → mIT → mRT → mLT → Prop} (hE : mEx X E mc ms post px ∧ Sum.elim (fun o : Int32 × mIT => post (some (.int (o.1))) 106 1 (o.2) R L) (fun q : Nat × mIT => 1 ≤ mc ∧ 6 ≤ ms ∧ px (xNm q.1) 106 1 q.2 R L) out) (k40_ : Int32 × Int32 × Int32 × mIT → Option ((Int32 × mIT) ⊕ (Nat × mIT))) (hk40_ : ∀ (v2 : Int32) (v3 : Int32) (v4 : Int32) (I : mIT),  k40_ (v2, v3, v4, I) = some out → mG X E 40 [(0, .ref (mB E + 0)), (2, .int v2), (3, .int v3), (4, .int v4)] [] 106 1 I R L 0 0) (v2 : Int32) (v3 : Int32) (v4 : Int32) (I : mIT) (h : b_X11_towers_40 Fu R k40_ v2 v3 v4 I = some out) : mG X E 40 [(0, .ref (mB E + 0)), (2, .int v2), (3, .int v3), (4, .int v4)] [] 106 1 I R L 0 0 := by
  unfold b_X11_towers_40 at h
  refine g_iload hC dX11_towers_40 (q := 3) rfl ?_
  refine g_iload_n hC dX11_towers_42 rfl (q := 1) rfl ?_
  refine g_ic_ge hC dX11_towers_43 (tgt := 63) (by decide) (fun c43 => ?_) (fun c43 => ?_)
  · replace h := (if_pos c43).symm.trans h
    refine g_iload_n hC dX11_towers_63 rfl (q := 2) rfl ?_
    refine g_if_ne hC dX11_towers_64 (tgt := 81) (by decide) (fun c64 => ?_) (fun c64 => ?_)
    · replace h := (if_neg c64).symm.trans h
      refine g_iload_n hC dX11_towers_81 rfl (q := 2) rfl ?_
      refine g_iconst hC dX11_towers_82 (v := (1 : Int32)) (by decide) ?_
      refine g_ic_ne hC dX11_towers_83 (tgt := 100) (by decide) (fun c83 => ?_) (fun c83 => ?_)
      · replace h := (if_neg c83).symm.trans h
        refine g_aload_n hC dX11_towers_100 rfl (q := 0) rfl ?_
        refine g_getr hC fd_RX11_96 rfl (by decide) (C0 := _) (t0 := .int) (Or.inl rfl) (rr_0_15 hW.1) dX11_towers_101 ?_
        refine g_aload_n hC dX11_towers_104 rfl (q := 0) rfl ?_
        obtain ⟨p105, e105, h⟩ := oB_some h
        have hp105 : mO5 R p105 := ob5 hW.1 (hW.2.1 p105 e105)
        refine g_getr hC fd_RX11_27 rfl (by decide) (C0 := _) (t0 := .int) (Or.inl rfl) e105 dX11_towers_105 ?_
        obtain ⟨r108, h108, h⟩ := oB_some h
        refine g_cV1 hC cv_X10_sizeInGarden wd_1535 ⟨Nat.le_of_ble_eq_true rfl, Nat.le_of_ble_eq_true rfl⟩ rfl (by decide) dX11_towers_108 (As := [.ref (mB E + p105)]) (st := []) (ok_X10_sizeInGarden hC.2.2.2.2.2.2.2.1 hW hp105 h108) rfl rfl (Nat.le_of_ble_eq_true rfl) ⟨Nat.zero_le _, Nat.zero_le _⟩ ?_
        cases h
        exact g_xiret hC hE.1 rfl dX11_towers_111 (Nat.zero_le _) (Nat.zero_le _) hE.2
      · replace h := (if_pos c83).symm.trans h
        refine g_aload_n hC dX11_towers_86 rfl (q := 0) rfl ?_
        refine g_getr hC fd_RX11_96 rfl (by decide) (C0 := _) (t0 := .int) (Or.inl rfl) (rr_0_15 hW.1) dX11_towers_87 ?_
        refine g_aload_n hC dX11_towers_90 rfl (q := 0) rfl ?_
        obtain ⟨p91, e91, h⟩ := oB_some h
        have hp91 : mO5 R p91 := ob5 hW.1 (hW.2.1 p91 e91)
        refine g_getr hC fd_RX11_27 rfl (by decide) (C0 := _) (t0 := .int) (Or.inl rfl) e91 dX11_towers_91 ?_
        obtain ⟨r94, h94, h⟩ := oB_some h
        refine g_cV1 hC cv_X10_gone wd_1531 ⟨Nat.le_of_ble_eq_true rfl, Nat.le_of_ble_eq_true rfl⟩ rfl (by decide) dX11_towers_94 (As := [.ref (mB E + p91)]) (st := []) (ok_X10_gone hC.2.2.2.2.2.2.2.1 hW hp91 h94) rfl rfl (Nat.le_of_ble_eq_true rfl) ⟨Nat.zero_le _, Nat.zero_le _⟩ ?_
        refine g_goto hC dX11_towers_97 (tgt := 111) (by decide) ?_
        cases h
        exact g_xiret hC hE.1 rfl dX11_towers_111 (Nat.zero_le _) (Nat.zero_le _) hE.2
    · replace h := (if_pos c64).symm.trans h
      refine g_aload_n hC dX11_towers_67 rfl (q := 0) rfl ?_
      refine g_getr hC fd_RX11_96 rfl (by decide) (C0 := _) (t0 := .int) (Or.inl rfl) (rr_0_15 hW.1) dX11_towers_68 ?_
      refine g_aload_n hC dX11_towers_71 rfl (q := 0) rfl ?_
      obtain ⟨p72, e72, h⟩ := oB_some h
      have hp72 : mO5 R p72 := ob5 hW.1 (hW.2.1 p72 e72)
      refine g_getr hC fd_RX11_27 rfl (by decide) (C0 := _) (t0 := .int) (Or.inl rfl) e72 dX11_towers_72 ?_
      obtain ⟨r75, h75, h⟩ := oB_some h
      refine g_cV1 hC cv_X10_sounding wd_1526 ⟨Nat.le_of_ble_eq_true rfl, Nat.le_of_ble_eq_true rfl⟩ rfl (by decide) dX11_towers_75 (As := [.ref (mB E + p72)]) (st := []) (ok_X10_sounding hC.2.2.2.2.2.2.2.1 hW hp72 h75) rfl rfl (Nat.le_of_ble_eq_true rfl) ⟨Nat.zero_le _, Nat.zero_le _⟩ ?_
      refine g_goto hC dX11_towers_78 (tgt := 111) (by decide) ?_
      cases h
      exact g_xiret hC hE.1 rfl dX11_towers_111 (Nat.zero_le _) (Nat.zero_le _) hE.2
  · replace h := (if_neg c43).symm.trans h
    refine g_aload_n hC dX11_towers_46 rfl (q := 0) rfl ?_
    refine g_getr hC fd_RX11_96 rfl (by decide) (C0 := _) (t0 := .int) (Or.inl rfl) (rr_0_15 hW.1) dX11_towers_47 ?_
    refine g_aload_n hC dX11_towers_50 rfl (q := 0) rfl ?_
    obtain ⟨p51, e51, h⟩ := oB_some h
    have hp51 : mO5 R p51 := ob5 hW.1 (hW.2.1 p51 e51)
    refine g_getr hC fd_RX11_27 rfl (by decide) (C0 := _) (t0 := .int) (Or.inl rfl) e51 dX11_towers_51 ?_
    obtain ⟨r54, h54, h⟩ := oB_some h
    refine g_cV0 hC cv_X10_passDrawnDay wd_1513 ⟨Nat.le_of_ble_eq_true rfl, Nat.le_of_ble_eq_true rfl⟩ rfl (by decide) dX11_towers_54 (As := [.ref (mB E + p51)]) (st := []) (ok_X10_passDrawnDay hC.2.2.2.2.2.2.2.1 hW hp51 h54) rfl rfl (Nat.le_of_ble_eq_true rfl) ⟨Nat.zero_le _, Nat.zero_le _⟩ ?_
    refine g_iinc hC dX11_towers_57 rfl (q := 3) rfl (w := (v4 + (1 : Int32))) rfl (by decide) (lv' := [(4, .int (v4 + (1 : Int32))), (0, .ref (mB E + 0)), (2, .int v2), (3, .int v3)]) rfl ?_
    refine g_goto hC dX11_towers_60 (tgt := 40) (by decide) ?_
    refine g_lv [1, 2, 3, 0] rfl ?_
    exact hk40_ v2 v3 (v4 + (1 : Int32)) r54 h
noncomputable def w_X11_towers_40 (Fu : Nat) (R : mRT)  (N : Nat) (v2 : Int32) (v3 : Int32) (v4 : Int32) (I : mIT) : Option ((Int32 × mIT) ⊕ (Nat × mIT)) :=
  loopF (fun self (s : Int32 × Int32 × Int32 × mIT) => b_X11_towers_40 Fu R self s.1 s.2.1 s.2.2.1 s.2.2.2) N (v2, v3, v4, I)
theorem wo_X11_towers_40 {X : mXT} {E : mEn} {Fu : Nat} {R : mRT} {L : mLT}  (hC : mC X E mX11_towers RX11 cX11_towers) (hW : mWd R)   {out : (Int32 × mIT) ⊕ (Nat × mIT)} {mc ms : Nat} {post : Option Value → Nat → Nat → mIT → mRT → mLT → Prop} {px : String → Nat → Nat → mIT → mRT → mLT → Prop} (hE : mEx X E mc ms post px ∧ Sum.elim (fun o : Int32 × mIT => post (some (.int (o.1))) 106 1 (o.2) R L) (fun q : Nat × mIT => 1 ≤ mc ∧ 6 ≤ ms ∧ px (xNm q.1) 106 1 q.2 R L) out)  (N : Nat) (v2 : Int32) (v3 : Int32) (v4 : Int32) (I : mIT) (h : w_X11_towers_40 Fu R  N v2 v3 v4 I = some out) : mG X E 40 [(0, .ref (mB E + 0)), (2, .int v2), (3, .int v3), (4, .int v4)] [] 106 1 I R L 0 0 :=
  loopF_ok (Gd := fun s : Int32 × Int32 × Int32 × mIT => mG X E 40 [(0, .ref (mB E + 0)), (2, .int s.1), (3, .int s.2.1), (4, .int s.2.2.1)] [] 106 1 s.2.2.2 R L 0 0) (fun self hs s h => bo_X11_towers_40 hC hW hE self (fun v2 v3 v4 I h => hs (v2, v3, v4, I) h) s.1 s.2.1 s.2.2.1 s.2.2.2 h) N (v2, v3, v4, I) h
noncomputable def f_X11_towers (Fu : Nat) (R : mRT) (I : mIT) (v1 : Int32) (v2 : Int32) (v3 : Int32) : Option ((Int32 × mIT) ⊕ (Nat × mIT)) :=
  if v3 < 0 then (some (.inr (1, I))) else (if v3 ≤ (2 : Int32) then (oX (f_X11_checkFar Fu I v2) (fun r22 => oB (f_X10_begin Fu I 40 v1) (fun r34 => w_X11_towers_40 Fu R Fu v2 v3 (0 : Int32) r34))) else (some (.inr (1, I))))
set_option maxRecDepth 20000 in
theorem oy_X11_towers {l : Launch} {E : mEn} {Fu : Nat} {I : mIT} {R : mRT} {L : mLT} {v1 : Int32} {v2 : Int32} {v3 : Int32} (hst : l.stackTraces = false) (hW : mWd R)  {out : (Int32 × mIT) ⊕ (Nat × mIT)} (h : f_X11_towers Fu R I v1 v2 v3 = some out) {mc ms : Nat} {post : Option Value → Nat → Nat → mIT → mRT → mLT → Prop} {px : String → Nat → Nat → mIT → mRT → mLT → Prop} (ho : Sum.elim (fun o : Int32 × mIT => post (some (.int (o.1))) 106 1 (o.2) R L) (fun q : Nat × mIT => 1 ≤ mc ∧ 6 ≤ ms ∧ px (xNm q.1) 106 1 q.2 R L) out) : mOx l E mX11_towers [.ref (mB E + 0), .int v1, .int v2, .int v3] 106 1 I R L mc ms post px := by
  refine mOx_of hst (by decide) (Nat.le_of_ble_eq_true rfl) (fun X hC hE0 _ => ?_)
  have hE : mEx X E mc ms post px ∧ Sum.elim (fun o : Int32 × mIT => post (some (.int (o.1))) 106 1 (o.2) R L) (fun q : Nat × mIT => 1 ≤ mc ∧ 6 ≤ ms ∧ px (xNm q.1) 106 1 q.2 R L) out := ⟨hE0, ho⟩
  have hC : mC X E mX11_towers RX11 cX11_towers := hC
  show mG X E 0 [(0, .ref (mB E + 0)), (1, .int v1), (2, .int v2), (3, .int v3)] [] 106 1 I R L 0 0
  unfold f_X11_towers at h
  refine g_iload_n hC dX11_towers_0 rfl (q := 3) rfl ?_
  refine g_if_lt hC dX11_towers_1 (tgt := 9) (by decide) (fun c1 => ?_) (fun c1 => ?_)
  · replace h := (if_pos c1).symm.trans h
    cases h
    have hq : 1 ≤ mc ∧ 6 ≤ ms ∧ px (xNm 1) 106 1 I R L := hE.2
    exact g_thrw hC hE.1 tw_RX11_180 (j := 33) rfl dX11_towers_9 dX11_towers_12 dX11_towers_13 dX11_towers_16 dX11_towers_19 (Nat.le_of_ble_eq_true rfl) (Nat.le_of_ble_eq_true rfl) (by decide) hq.1 hq.2.1 hq.2.2
  · replace h := (if_neg c1).symm.trans h
    refine g_iload_n hC dX11_towers_4 rfl (q := 3) rfl ?_
    refine g_iconst hC dX11_towers_5 (v := (2 : Int32)) (by decide) ?_
    refine g_ic_le hC dX11_towers_6 (tgt := 20) (by decide) (fun c6 => ?_) (fun c6 => ?_)
    · replace h := (if_pos c6).symm.trans h
      refine g_aload_n hC dX11_towers_20 rfl (q := 0) rfl ?_
      refine g_iload_n hC dX11_towers_21 rfl (q := 2) rfl ?_
      rcases oX_some h with ⟨r22, h22, h⟩ | ⟨q22, h22, h⟩
      case inr =>
        subst h
        have hq : 1 ≤ mc ∧ 6 ≤ ms ∧ px (xNm q22.1) 106 1 q22.2 R L := hE.2
        exact g_cVz hC hE.1 cv_X11_checkFar wd_1288 ⟨Nat.le_of_ble_eq_true rfl, Nat.le_of_ble_eq_true rfl⟩ rfl (by decide) dX11_towers_22 (As := [.int v2]) (st := []) (ox_X11_checkFar hC.2.2.2.2.2.2.2.1 hW h22) rfl rfl (Nat.le_of_ble_eq_true rfl) ⟨by omega, by omega⟩ hq.2.2
      refine g_cVy0 hC hE.1 cv_X11_checkFar wd_1288 ⟨Nat.le_of_ble_eq_true rfl, Nat.le_of_ble_eq_true rfl⟩ rfl (by decide) dX11_towers_22 (As := [.int v2]) (st := []) (oi_X11_checkFar hC.2.2.2.2.2.2.2.1 hW h22) rfl rfl (Nat.le_of_ble_eq_true rfl) ⟨Nat.zero_le _, Nat.zero_le _⟩ ?_
      refine g_aload_n hC dX11_towers_25 rfl (q := 0) rfl ?_
      refine g_getr hC fd_RX11_96 rfl (by decide) (C0 := _) (t0 := .int) (Or.inl rfl) (rr_0_15 hW.1) dX11_towers_26 ?_
      refine g_aload_n hC dX11_towers_29 rfl (q := 0) rfl ?_
      refine g_getr hC fd_RX11_34 rfl (by decide) (C0 := _) (t0 := .int) (Or.inl rfl) (rr_0_4 hW.1) dX11_towers_30 ?_
      refine g_iload_n hC dX11_towers_33 rfl (q := 1) rfl ?_
      obtain ⟨r34, h34, h⟩ := oB_some h
      refine g_cV0 hC cv_X10_begin wd_1508 ⟨Nat.le_of_ble_eq_true rfl, Nat.le_of_ble_eq_true rfl⟩ rfl (by decide) dX11_towers_34 (As := [.ref (mB E + 40), .int v1]) (st := []) (ok_X10_begin hC.2.2.2.2.2.2.2.1 hW (ob_40 hW.1) h34) rfl rfl (Nat.le_of_ble_eq_true rfl) ⟨Nat.zero_le _, Nat.zero_le _⟩ ?_
      refine g_iconst hC dX11_towers_37 (v := (0 : Int32)) (by decide) ?_
      refine g_istore hC dX11_towers_38 rfl (by decide) (lv' := [(4, .int (0 : Int32)), (0, .ref (mB E + 0)), (1, .int v1), (2, .int v2), (3, .int v3)]) rfl ?_
      refine g_lv [1, 3, 4, 0] rfl ?_
      exact wo_X11_towers_40 hC hW hE Fu (v2) (v3) ((0 : Int32)) (r34) h
    · replace h := (if_neg c6).symm.trans h
      cases h
      have hq : 1 ≤ mc ∧ 6 ≤ ms ∧ px (xNm 1) 106 1 I R L := hE.2
      exact g_thrw hC hE.1 tw_RX11_180 (j := 33) rfl dX11_towers_9 dX11_towers_12 dX11_towers_13 dX11_towers_16 dX11_towers_19 (Nat.le_of_ble_eq_true rfl) (Nat.le_of_ble_eq_true rfl) (by decide) hq.1 hq.2.1 hq.2.2
theorem oi_X11_towers {l : Launch} {E : mEn} {Fu : Nat} {I : mIT} {R : mRT} {L : mLT} {v1 : Int32} {v2 : Int32} {v3 : Int32} (hst : l.stackTraces = false) (hW : mWd R)  {out : Int32 × mIT} (h : f_X11_towers Fu R I v1 v2 v3 = some (.inl out)) : mOx l E mX11_towers [.ref (mB E + 0), .int v1, .int v2, .int v3] 106 1 I R L 0 0 (mSame (some (.int (out.1))) 106 1 (out.2) R L) (fun _ _ _ _ _ _ => False) := oy_X11_towers hst hW h ⟨rfl, rfl, rfl, rfl, rfl, rfl⟩
theorem ox_X11_towers {l : Launch} {E : mEn} {Fu : Nat} {I : mIT} {R : mRT} {L : mLT} {v1 : Int32} {v2 : Int32} {v3 : Int32} (hst : l.stackTraces = false) (hW : mWd R)  {q : Nat × mIT} (h : f_X11_towers Fu R I v1 v2 v3 = some (.inr q)) : mOx l E mX11_towers [.ref (mB E + 0), .int v1, .int v2, .int v3] 106 1 I R L 1 6 (fun _ _ _ _ _ _ => False) (mXp q.1 106 1 q.2 R L) := oy_X11_towers hst hW h ⟨Nat.le_refl _, Nat.le_refl _, rfl, rfl, rfl, rfl, rfl, rfl⟩
noncomputable def f_X11_tune (Fu : Nat) (R : mRT) (I : mIT) (v1 : Int32) : Option ((Int32) ⊕ (Nat × mIT)) :=
  if v1 < 0 then (some (.inr (1, I))) else (oB (R 0 3) (fun p6 => if v1 < (I p6 6) then (oB (R 0 3) (fun p26 => oB (f_X5_tuneNote Fu I p26 v1) (fun r30 => some (.inl r30)))) else (some (.inr (1, I)))))
set_option maxRecDepth 20000 in
theorem oy_X11_tune {l : Launch} {E : mEn} {Fu : Nat} {I : mIT} {R : mRT} {L : mLT} {v1 : Int32} (hst : l.stackTraces = false) (hW : mWd R)  {out : (Int32) ⊕ (Nat × mIT)} (h : f_X11_tune Fu R I v1 = some out) {mc ms : Nat} {post : Option Value → Nat → Nat → mIT → mRT → mLT → Prop} {px : String → Nat → Nat → mIT → mRT → mLT → Prop} (ho : Sum.elim (fun o : Int32 => post (some (.int (o))) 106 1 I R L) (fun q : Nat × mIT => 1 ≤ mc ∧ 6 ≤ ms ∧ px (xNm q.1) 106 1 q.2 R L) out) : mOx l E mX11_tune [.ref (mB E + 0), .int v1] 106 1 I R L mc ms post px := by
  refine mOx_of hst (by decide) (Nat.le_of_ble_eq_true rfl) (fun X hC hE0 _ => ?_)
  have hE : mEx X E mc ms post px ∧ Sum.elim (fun o : Int32 => post (some (.int (o))) 106 1 I R L) (fun q : Nat × mIT => 1 ≤ mc ∧ 6 ≤ ms ∧ px (xNm q.1) 106 1 q.2 R L) out := ⟨hE0, ho⟩
  have hC : mC X E mX11_tune RX11 cX11_tune := hC
  show mG X E 0 [(0, .ref (mB E + 0)), (1, .int v1)] [] 106 1 I R L 0 0
  unfold f_X11_tune at h
  refine g_iload_n hC dX11_tune_0 rfl (q := 1) rfl ?_
  refine g_if_lt hC dX11_tune_1 (tgt := 15) (by decide) (fun c1 => ?_) (fun c1 => ?_)
  · replace h := (if_pos c1).symm.trans h
    cases h
    have hq : 1 ≤ mc ∧ 6 ≤ ms ∧ px (xNm 1) 106 1 I R L := hE.2
    exact g_thr hC hE.1 tw_RX11_180 (j := 24) rfl dX11_tune_15 dX11_tune_18 dX11_tune_19 dX11_tune_21 dX11_tune_24 (Nat.le_of_ble_eq_true rfl) (Nat.le_of_ble_eq_true rfl) (by decide) hq.1 hq.2.1 hq.2.2
  · replace h := (if_neg c1).symm.trans h
    refine g_iload_n hC dX11_tune_4 rfl (q := 1) rfl ?_
    refine g_aload_n hC dX11_tune_5 rfl (q := 0) rfl ?_
    obtain ⟨p6, e6, h⟩ := oB_some h
    have hp6 : mO5 R p6 := ob5 hW.1 (hW.2.1 p6 e6)
    refine g_getr hC fd_RX11_27 rfl (by decide) (C0 := _) (t0 := .int) (Or.inl rfl) e6 dX11_tune_6 ?_
    refine g_geti hC fd_RX11_160 hp6.2.1 hp6.1 (Or.inl rfl) dX11_tune_9 ?_
    refine g_ic_lt hC dX11_tune_12 (tgt := 25) (by decide) (fun c12 => ?_) (fun c12 => ?_)
    · replace h := (if_pos c12).symm.trans h
      refine g_aload_n hC dX11_tune_25 rfl (q := 0) rfl ?_
      obtain ⟨p26, e26, h⟩ := oB_some h
      have hp26 : mO5 R p26 := ob5 hW.1 (hW.2.1 p26 e26)
      refine g_getr hC fd_RX11_27 rfl (by decide) (C0 := _) (t0 := .int) (Or.inl rfl) e26 dX11_tune_26 ?_
      refine g_iload_n hC dX11_tune_29 rfl (q := 1) rfl ?_
      obtain ⟨r30, h30, h⟩ := oB_some h
      refine g_cV1 hC cv_X5_tuneNote wd_1219 ⟨Nat.le_of_ble_eq_true rfl, Nat.le_of_ble_eq_true rfl⟩ hp26.2.1 hp26.1 dX11_tune_30 (As := [.int v1]) (st := []) (ok_X5_tuneNote hC.2.2.2.2.2.2.2.1 hp26 h30) rfl rfl (Nat.le_of_ble_eq_true rfl) ⟨Nat.zero_le _, Nat.zero_le _⟩ ?_
      cases h
      exact g_xiret hC hE.1 rfl dX11_tune_33 (Nat.zero_le _) (Nat.zero_le _) hE.2
    · replace h := (if_neg c12).symm.trans h
      cases h
      have hq : 1 ≤ mc ∧ 6 ≤ ms ∧ px (xNm 1) 106 1 I R L := hE.2
      exact g_thr hC hE.1 tw_RX11_180 (j := 24) rfl dX11_tune_15 dX11_tune_18 dX11_tune_19 dX11_tune_21 dX11_tune_24 (Nat.le_of_ble_eq_true rfl) (Nat.le_of_ble_eq_true rfl) (by decide) hq.1 hq.2.1 hq.2.2
theorem oi_X11_tune {l : Launch} {E : mEn} {Fu : Nat} {I : mIT} {R : mRT} {L : mLT} {v1 : Int32} (hst : l.stackTraces = false) (hW : mWd R)  {out : Int32} (h : f_X11_tune Fu R I v1 = some (.inl out)) : mOx l E mX11_tune [.ref (mB E + 0), .int v1] 106 1 I R L 0 0 (mSame (some (.int (out))) 106 1 I R L) (fun _ _ _ _ _ _ => False) := oy_X11_tune hst hW h ⟨rfl, rfl, rfl, rfl, rfl, rfl⟩
theorem ox_X11_tune {l : Launch} {E : mEn} {Fu : Nat} {I : mIT} {R : mRT} {L : mLT} {v1 : Int32} (hst : l.stackTraces = false) (hW : mWd R)  {q : Nat × mIT} (h : f_X11_tune Fu R I v1 = some (.inr q)) : mOx l E mX11_tune [.ref (mB E + 0), .int v1] 106 1 I R L 1 6 (fun _ _ _ _ _ _ => False) (mXp q.1 106 1 q.2 R L) := oy_X11_tune hst hW h ⟨Nat.le_refl _, Nat.le_refl _, rfl, rfl, rfl, rfl, rfl, rfl⟩
noncomputable def f_X11_undo (Fu : Nat) (I : mIT)  : Option (Int32 × mIT) :=
  oB (f_X0_undoInto Fu I 42 40) (fun r8 => if r8.1 = 0 then (some ((-1 : Int32), r8.2)) else (oB (f_X11_forgetWork Fu r8.2) (fun r17 => oB (f_X0_many Fu r17 42) (fun r24 => some (r24, r17)))))
set_option maxRecDepth 20000 in
theorem ok_X11_undo {l : Launch} {E : mEn} {Fu : Nat} {I : mIT} {R : mRT} {L : mLT}  (hst : l.stackTraces = false) (hW : mWd R)  {out : Int32 × mIT} (h : f_X11_undo Fu I  = some out) : mOk l E mX11_undo [.ref (mB E + 0)] 106 1 I R L 0 0 (mSame (some (.int (out.1))) 106 1 (out.2) R L) := by
  refine mOk_of hst (by decide) (Nat.le_of_ble_eq_true rfl) (fun X hC hE _ => ?_)
  have hC : mC X E mX11_undo RX11 cX11_undo := hC
  show mG X E 0 [(0, .ref (mB E + 0))] [] 106 1 I R L 0 0
  unfold f_X11_undo at h
  refine g_aload_n hC dX11_undo_0 rfl (q := 0) rfl ?_
  refine g_getr hC fd_RX11_41 rfl (by decide) (C0 := _) (t0 := .int) (Or.inl rfl) (rr_0_5 hW.1) dX11_undo_1 ?_
  refine g_aload_n hC dX11_undo_4 rfl (q := 0) rfl ?_
  refine g_getr hC fd_RX11_34 rfl (by decide) (C0 := _) (t0 := .int) (Or.inl rfl) (rr_0_4 hW.1) dX11_undo_5 ?_
  obtain ⟨r8, h8, h⟩ := oB_some h
  refine g_cV1 hC cv_X0_undoInto wd_648 ⟨Nat.le_of_ble_eq_true rfl, Nat.le_of_ble_eq_true rfl⟩ rfl (by decide) dX11_undo_8 (As := [.ref (mB E + 40)]) (st := []) (ok_X0_undoInto hC.2.2.2.2.2.2.2.1 (ob_42 hW.1) (ob_40 hW.1) h8) rfl rfl (Nat.le_of_ble_eq_true rfl) ⟨Nat.zero_le _, Nat.zero_le _⟩ ?_
  refine g_if_ne hC dX11_undo_11 (tgt := 16) (by decide) (fun c11 => ?_) (fun c11 => ?_)
  · replace h := (if_neg c11).symm.trans h
    refine g_aload_n hC dX11_undo_16 rfl (q := 0) rfl ?_
    obtain ⟨r17, h17, h⟩ := oB_some h
    refine g_cV0 hC cv_X11_forgetWork wd_566 ⟨Nat.le_of_ble_eq_true rfl, Nat.le_of_ble_eq_true rfl⟩ rfl (by decide) dX11_undo_17 (As := []) (st := []) (ok_X11_forgetWork hC.2.2.2.2.2.2.2.1 hW h17) rfl rfl (Nat.le_of_ble_eq_true rfl) ⟨Nat.zero_le _, Nat.zero_le _⟩ ?_
    refine g_aload_n hC dX11_undo_20 rfl (q := 0) rfl ?_
    refine g_getr hC fd_RX11_41 rfl (by decide) (C0 := _) (t0 := .int) (Or.inl rfl) (rr_0_5 hW.1) dX11_undo_21 ?_
    obtain ⟨r24, h24, h⟩ := oB_some h
    refine g_cV1 hC cv_X0_many wd_656 ⟨Nat.le_of_ble_eq_true rfl, Nat.le_of_ble_eq_true rfl⟩ rfl (by decide) dX11_undo_24 (As := []) (st := []) (ok_X0_many hC.2.2.2.2.2.2.2.1 (ob_42 hW.1) h24) rfl rfl (Nat.le_of_ble_eq_true rfl) ⟨Nat.zero_le _, Nat.zero_le _⟩ ?_
    cases h
    exact g_iret hC hE rfl dX11_undo_27 (Nat.zero_le _) (Nat.zero_le _) ⟨rfl, rfl, rfl, rfl, rfl, rfl⟩
  · replace h := (if_pos c11).symm.trans h
    refine g_iconst hC dX11_undo_14 (v := (-1 : Int32)) (by decide) ?_
    cases h
    exact g_iret hC hE rfl dX11_undo_15 (Nat.zero_le _) (Nat.zero_le _) ⟨rfl, rfl, rfl, rfl, rfl, rfl⟩
noncomputable def f_X11_without (Fu : Nat) (R : mRT) (I : mIT) (v1 : Int32) : Option ((Int32 × mIT) ⊕ (Nat × mIT)) :=
  oX (f_X11_checkRoot Fu R I v1) (fun r2 => oB (R 0 3) (fun p10 => oB (f_X1_layTo Fu I p10 40 (60 : Int32)) (fun r19 => oB (f_X11_lastDayAmong Fu R r19 (((1 : Int32) <<< (v1 &&& 31)) ^^^ (-1 : Int32))) (fun r28 => some (.inl (r28, r19))))))
set_option maxRecDepth 20000 in
theorem oy_X11_without {l : Launch} {E : mEn} {Fu : Nat} {I : mIT} {R : mRT} {L : mLT} {v1 : Int32} (hst : l.stackTraces = false) (hW : mWd R)  {out : (Int32 × mIT) ⊕ (Nat × mIT)} (h : f_X11_without Fu R I v1 = some out) {mc ms : Nat} {post : Option Value → Nat → Nat → mIT → mRT → mLT → Prop} {px : String → Nat → Nat → mIT → mRT → mLT → Prop} (ho : Sum.elim (fun o : Int32 × mIT => post (some (.int (o.1))) 106 1 (o.2) R L) (fun q : Nat × mIT => 1 ≤ mc ∧ 6 ≤ ms ∧ px (xNm q.1) 106 1 q.2 R L) out) : mOx l E mX11_without [.ref (mB E + 0), .int v1] 106 1 I R L mc ms post px := by
  refine mOx_of hst (by decide) (Nat.le_of_ble_eq_true rfl) (fun X hC hE0 _ => ?_)
  have hE : mEx X E mc ms post px ∧ Sum.elim (fun o : Int32 × mIT => post (some (.int (o.1))) 106 1 (o.2) R L) (fun q : Nat × mIT => 1 ≤ mc ∧ 6 ≤ ms ∧ px (xNm q.1) 106 1 q.2 R L) out := ⟨hE0, ho⟩
  have hC : mC X E mX11_without RX11 cX11_without := hC
  show mG X E 0 [(0, .ref (mB E + 0)), (1, .int v1)] [] 106 1 I R L 0 0
  unfold f_X11_without at h
  refine g_aload_n hC dX11_without_0 rfl (q := 0) rfl ?_
  refine g_iload_n hC dX11_without_1 rfl (q := 1) rfl ?_
  rcases oX_some h with ⟨r2, h2, h⟩ | ⟨q2, h2, h⟩
  case inr =>
    subst h
    have hq : 1 ≤ mc ∧ 6 ≤ ms ∧ px (xNm q2.1) 106 1 q2.2 R L := hE.2
    exact g_cVz hC hE.1 cv_X11_checkRoot wd_1183 ⟨Nat.le_of_ble_eq_true rfl, Nat.le_of_ble_eq_true rfl⟩ rfl (by decide) dX11_without_2 (As := [.int v1]) (st := []) (ox_X11_checkRoot hC.2.2.2.2.2.2.2.1 hW h2) rfl rfl (Nat.le_of_ble_eq_true rfl) ⟨by omega, by omega⟩ hq.2.2
  refine g_cVy0 hC hE.1 cv_X11_checkRoot wd_1183 ⟨Nat.le_of_ble_eq_true rfl, Nat.le_of_ble_eq_true rfl⟩ rfl (by decide) dX11_without_2 (As := [.int v1]) (st := []) (oi_X11_checkRoot hC.2.2.2.2.2.2.2.1 hW h2) rfl rfl (Nat.le_of_ble_eq_true rfl) ⟨Nat.zero_le _, Nat.zero_le _⟩ ?_
  refine g_aload_n hC dX11_without_5 rfl (q := 0) rfl ?_
  refine g_getr hC fd_RX11_68 rfl (by decide) (C0 := _) (t0 := .int) (Or.inl rfl) (rr_0_11 hW.1) dX11_without_6 ?_
  refine g_aload_n hC dX11_without_9 rfl (q := 0) rfl ?_
  obtain ⟨p10, e10, h⟩ := oB_some h
  have hp10 : mO5 R p10 := ob5 hW.1 (hW.2.1 p10 e10)
  refine g_getr hC fd_RX11_27 rfl (by decide) (C0 := _) (t0 := .int) (Or.inl rfl) e10 dX11_without_10 ?_
  refine g_aload_n hC dX11_without_13 rfl (q := 0) rfl ?_
  refine g_getr hC fd_RX11_34 rfl (by decide) (C0 := _) (t0 := .int) (Or.inl rfl) (rr_0_4 hW.1) dX11_without_14 ?_
  refine g_bipush hC dX11_without_17 (v := (60 : Int32)) (by decide) ?_
  obtain ⟨r19, h19, h⟩ := oB_some h
  refine g_cV0 hC cv_X1_layTo wd_664 ⟨Nat.le_of_ble_eq_true rfl, Nat.le_of_ble_eq_true rfl⟩ rfl (by decide) dX11_without_19 (As := [.ref (mB E + p10), .ref (mB E + 40), .int (60 : Int32)]) (st := []) (ok_X1_layTo hC.2.2.2.2.2.2.2.1 hW hp10 (ob_40 hW.1) h19) rfl rfl (Nat.le_of_ble_eq_true rfl) ⟨Nat.zero_le _, Nat.zero_le _⟩ ?_
  refine g_aload_n hC dX11_without_22 rfl (q := 0) rfl ?_
  refine g_iconst hC dX11_without_23 (v := (1 : Int32)) (by decide) ?_
  refine g_iload_n hC dX11_without_24 rfl (q := 1) rfl ?_
  refine g_ishl hC dX11_without_25 ?_
  refine g_iconst hC dX11_without_26 (v := (-1 : Int32)) (by decide) ?_
  refine g_ixor hC dX11_without_27 ?_
  obtain ⟨r28, h28, h⟩ := oB_some h
  refine g_cV1 hC cv_X11_lastDayAmong wd_691 ⟨Nat.le_of_ble_eq_true rfl, Nat.le_of_ble_eq_true rfl⟩ rfl (by decide) dX11_without_28 (As := [.int (((1 : Int32) <<< (v1 &&& 31)) ^^^ (-1 : Int32))]) (st := []) (ok_X11_lastDayAmong hC.2.2.2.2.2.2.2.1 hW h28) rfl rfl (Nat.le_of_ble_eq_true rfl) ⟨Nat.zero_le _, Nat.zero_le _⟩ ?_
  cases h
  exact g_xiret hC hE.1 rfl dX11_without_31 (Nat.zero_le _) (Nat.zero_le _) hE.2
theorem oi_X11_without {l : Launch} {E : mEn} {Fu : Nat} {I : mIT} {R : mRT} {L : mLT} {v1 : Int32} (hst : l.stackTraces = false) (hW : mWd R)  {out : Int32 × mIT} (h : f_X11_without Fu R I v1 = some (.inl out)) : mOx l E mX11_without [.ref (mB E + 0), .int v1] 106 1 I R L 0 0 (mSame (some (.int (out.1))) 106 1 (out.2) R L) (fun _ _ _ _ _ _ => False) := oy_X11_without hst hW h ⟨rfl, rfl, rfl, rfl, rfl, rfl⟩
theorem ox_X11_without {l : Launch} {E : mEn} {Fu : Nat} {I : mIT} {R : mRT} {L : mLT} {v1 : Int32} (hst : l.stackTraces = false) (hW : mWd R)  {q : Nat × mIT} (h : f_X11_without Fu R I v1 = some (.inr q)) : mOx l E mX11_without [.ref (mB E + 0), .int v1] 106 1 I R L 1 6 (fun _ _ _ _ _ _ => False) (mXp q.1 106 1 q.2 R L) := oy_X11_without hst hW h ⟨Nat.le_refl _, Nat.le_refl _, rfl, rfl, rfl, rfl, rfl, rfl⟩
noncomputable def f_X12_right (Fu : Nat) (I : mIT) (v1 : Int32) (v2 : Int32) : Option (Int32 × mIT) :=
  if (I 75 0) = 0 then (if v1 = 0 then (if ((mU I 75 0 v2) 75 0) = 0 then (some ((1 : Int32), (mU I 75 0 v2))) else (some ((0 : Int32), (mU I 75 0 v2)))) else (if (I 75 0) = 0 then (some ((1 : Int32), I)) else (some ((0 : Int32), I)))) else (if (I 75 0) = 0 then (some ((1 : Int32), I)) else (some ((0 : Int32), I)))
set_option maxRecDepth 20000 in
theorem ok_X12_right {l : Launch} {E : mEn} {Fu : Nat} {I : mIT} {R : mRT} {L : mLT} {v1 : Int32} {v2 : Int32} (hst : l.stackTraces = false) (hW : mWd R)  {out : Int32 × mIT} (h : f_X12_right Fu I v1 v2 = some out) : mOk l E mX12_right [.ref (mB E + 75), .int v1, .int v2] 106 1 I R L 0 0 (mSame (some (.int (out.1))) 106 1 (out.2) R L) := by
  refine mOk_of hst (by decide) (Nat.le_of_ble_eq_true rfl) (fun X hC hE _ => ?_)
  have hC : mC X E mX12_right RX12 cX12_right := hC
  show mG X E 0 [(0, .ref (mB E + 75)), (1, .int v1), (2, .int v2)] [] 106 1 I R L 0 0
  unfold f_X12_right at h
  refine g_aload_n hC dX12_right_0 rfl (q := 0) rfl ?_
  refine g_geti hC fd_RX12_114 rfl (by decide) (Or.inl rfl) dX12_right_1 ?_
  refine g_if_ne hC dX12_right_4 (tgt := 16) (by decide) (fun c4 => ?_) (fun c4 => ?_)
  · replace h := (if_neg c4).symm.trans h
    refine g_aload_n hC dX12_right_16 rfl (q := 0) rfl ?_
    refine g_geti hC fd_RX12_114 rfl (by decide) (Or.inl rfl) dX12_right_17 ?_
    refine g_if_ne hC dX12_right_20 (tgt := 27) (by decide) (fun c20 => ?_) (fun c20 => ?_)
    · replace h := (if_neg c20).symm.trans h
      refine g_iconst hC dX12_right_27 (v := (0 : Int32)) (by decide) ?_
      cases h
      exact g_zret hC (by decide) hE rfl dX12_right_28 (Nat.zero_le _) (Nat.zero_le _) ⟨rfl, rfl, rfl, rfl, rfl, rfl⟩
    · replace h := (if_pos c20).symm.trans h
      refine g_iconst hC dX12_right_23 (v := (1 : Int32)) (by decide) ?_
      refine g_goto hC dX12_right_24 (tgt := 28) (by decide) ?_
      cases h
      exact g_zret hC (by decide) hE rfl dX12_right_28 (Nat.zero_le _) (Nat.zero_le _) ⟨rfl, rfl, rfl, rfl, rfl, rfl⟩
  · replace h := (if_pos c4).symm.trans h
    refine g_iload_n hC dX12_right_7 rfl (q := 1) rfl ?_
    refine g_if_ne hC dX12_right_8 (tgt := 16) (by decide) (fun c8 => ?_) (fun c8 => ?_)
    · replace h := (if_neg c8).symm.trans h
      refine g_aload_n hC dX12_right_16 rfl (q := 0) rfl ?_
      refine g_geti hC fd_RX12_114 rfl (by decide) (Or.inl rfl) dX12_right_17 ?_
      refine g_if_ne hC dX12_right_20 (tgt := 27) (by decide) (fun c20 => ?_) (fun c20 => ?_)
      · replace h := (if_neg c20).symm.trans h
        refine g_iconst hC dX12_right_27 (v := (0 : Int32)) (by decide) ?_
        cases h
        exact g_zret hC (by decide) hE rfl dX12_right_28 (Nat.zero_le _) (Nat.zero_le _) ⟨rfl, rfl, rfl, rfl, rfl, rfl⟩
      · replace h := (if_pos c20).symm.trans h
        refine g_iconst hC dX12_right_23 (v := (1 : Int32)) (by decide) ?_
        refine g_goto hC dX12_right_24 (tgt := 28) (by decide) ?_
        cases h
        exact g_zret hC (by decide) hE rfl dX12_right_28 (Nat.zero_le _) (Nat.zero_le _) ⟨rfl, rfl, rfl, rfl, rfl, rfl⟩
    · replace h := (if_pos c8).symm.trans h
      refine g_aload_n hC dX12_right_11 rfl (q := 0) rfl ?_
      refine g_iload_n hC dX12_right_12 rfl (q := 2) rfl ?_
      refine g_puti hC fd_RX12_114 rfl (by decide) rfl dX12_right_13 (nm_e ?_)
      refine g_aload_n hC dX12_right_16 rfl (q := 0) rfl ?_
      refine g_geti hC fd_RX12_114 rfl (by decide) (Or.inl rfl) dX12_right_17 ?_
      refine g_if_ne hC dX12_right_20 (tgt := 27) (by decide) (fun c20 => ?_) (fun c20 => ?_)
      · replace h := (if_neg c20).symm.trans h
        refine g_iconst hC dX12_right_27 (v := (0 : Int32)) (by decide) ?_
        cases h
        exact g_zret hC (by decide) hE rfl dX12_right_28 (Nat.zero_le _) (Nat.zero_le _) ⟨rfl, rfl, rfl, rfl, rfl, rfl⟩
      · replace h := (if_pos c20).symm.trans h
        refine g_iconst hC dX12_right_23 (v := (1 : Int32)) (by decide) ?_
        refine g_goto hC dX12_right_24 (tgt := 28) (by decide) ?_
        cases h
        exact g_zret hC (by decide) hE rfl dX12_right_28 (Nat.zero_le _) (Nat.zero_le _) ⟨rfl, rfl, rfl, rfl, rfl, rfl⟩
noncomputable def f_X12_within (Fu : Nat)  (v0 : Int32) (v1 : Int32) (v2 : Int32) : Option (Int32) :=
  if v0 < v1 then (some (0 : Int32)) else (if v2 < v0 then (some (0 : Int32)) else (some (1 : Int32)))
set_option maxRecDepth 20000 in
theorem ok_X12_within {l : Launch} {E : mEn} {Fu : Nat} {I : mIT} {R : mRT} {L : mLT} {v0 : Int32} {v1 : Int32} {v2 : Int32} (hst : l.stackTraces = false) (hW : mWd R)  {out : Int32} (h : f_X12_within Fu  v0 v1 v2 = some out) : mOk l E mX12_within [.int v0, .int v1, .int v2] 106 1 I R L 0 0 (mSame (some (.int (out))) 106 1 I R L) := by
  refine mOk_of hst (by decide) (Nat.le_of_ble_eq_true rfl) (fun X hC hE _ => ?_)
  have hC : mC X E mX12_within RX12 cX12_within := hC
  show mG X E 0 [(0, .int v0), (1, .int v1), (2, .int v2)] [] 106 1 I R L 0 0
  unfold f_X12_within at h
  refine g_iload_n hC dX12_within_0 rfl (q := 0) rfl ?_
  refine g_iload_n hC dX12_within_1 rfl (q := 1) rfl ?_
  refine g_ic_lt hC dX12_within_2 (tgt := 14) (by decide) (fun c2 => ?_) (fun c2 => ?_)
  · replace h := (if_pos c2).symm.trans h
    refine g_iconst hC dX12_within_14 (v := (0 : Int32)) (by decide) ?_
    cases h
    exact g_zret hC (by decide) hE rfl dX12_within_15 (Nat.zero_le _) (Nat.zero_le _) ⟨rfl, rfl, rfl, rfl, rfl, rfl⟩
  · replace h := (if_neg c2).symm.trans h
    refine g_iload_n hC dX12_within_5 rfl (q := 0) rfl ?_
    refine g_iload_n hC dX12_within_6 rfl (q := 2) rfl ?_
    refine g_ic_gt hC dX12_within_7 (tgt := 14) (by decide) (fun c7 => ?_) (fun c7 => ?_)
    · replace h := (if_pos c7).symm.trans h
      refine g_iconst hC dX12_within_14 (v := (0 : Int32)) (by decide) ?_
      cases h
      exact g_zret hC (by decide) hE rfl dX12_within_15 (Nat.zero_le _) (Nat.zero_le _) ⟨rfl, rfl, rfl, rfl, rfl, rfl⟩
    · replace h := (if_neg c7).symm.trans h
      refine g_iconst hC dX12_within_10 (v := (1 : Int32)) (by decide) ?_
      refine g_goto hC dX12_within_11 (tgt := 15) (by decide) ?_
      cases h
      exact g_zret hC (by decide) hE rfl dX12_within_15 (Nat.zero_le _) (Nat.zero_le _) ⟨rfl, rfl, rfl, rfl, rfl, rfl⟩
noncomputable def f_X12_isChange (Fu : Nat)  (v0 : Int32) : Option (Int32) :=
  oB (f_X12_within Fu v0 (0 : Int32) (31 : Int32)) (fun r4 => if r4 = 0 then (some (0 : Int32)) else (if (v0 &&& (v0 >>> ((1 : Int32) &&& 31))) = 0 then (some (1 : Int32)) else (some (0 : Int32))))
set_option maxRecDepth 20000 in
theorem ok_X12_isChange {l : Launch} {E : mEn} {Fu : Nat} {I : mIT} {R : mRT} {L : mLT} {v0 : Int32} (hst : l.stackTraces = false) (hW : mWd R)  {out : Int32} (h : f_X12_isChange Fu  v0 = some out) : mOk l E mX12_isChange [.int v0] 106 1 I R L 0 0 (mSame (some (.int (out))) 106 1 I R L) := by
  refine mOk_of hst (by decide) (Nat.le_of_ble_eq_true rfl) (fun X hC hE _ => ?_)
  have hC : mC X E mX12_isChange RX12 cX12_isChange := hC
  show mG X E 0 [(0, .int v0)] [] 106 1 I R L 0 0
  unfold f_X12_isChange at h
  refine g_iload_n hC dX12_isChange_0 rfl (q := 0) rfl ?_
  refine g_iconst hC dX12_isChange_1 (v := (0 : Int32)) (by decide) ?_
  refine g_bipush hC dX12_isChange_2 (v := (31 : Int32)) (by decide) ?_
  obtain ⟨r4, h4, h⟩ := oB_some h
  refine g_cS1 hC cs_X12_within wd_1915 ⟨Nat.le_of_ble_eq_true rfl, Nat.le_of_ble_eq_true rfl⟩ dX12_isChange_4 (As := [.int v0, .int (0 : Int32), .int (31 : Int32)]) (st := []) (ok_X12_within hC.2.2.2.2.2.2.2.1 hW h4) rfl rfl (Nat.le_of_ble_eq_true rfl) ⟨Nat.zero_le _, Nat.zero_le _⟩ ?_
  refine g_if_eq hC dX12_isChange_7 (tgt := 22) (by decide) (fun c7 => ?_) (fun c7 => ?_)
  · replace h := (if_pos c7).symm.trans h
    refine g_iconst hC dX12_isChange_22 (v := (0 : Int32)) (by decide) ?_
    cases h
    exact g_zret hC (by decide) hE rfl dX12_isChange_23 (Nat.zero_le _) (Nat.zero_le _) ⟨rfl, rfl, rfl, rfl, rfl, rfl⟩
  · replace h := (if_neg c7).symm.trans h
    refine g_iload_n hC dX12_isChange_10 rfl (q := 0) rfl ?_
    refine g_iload_n hC dX12_isChange_11 rfl (q := 0) rfl ?_
    refine g_iconst hC dX12_isChange_12 (v := (1 : Int32)) (by decide) ?_
    refine g_ishr hC dX12_isChange_13 ?_
    refine g_iand hC dX12_isChange_14 ?_
    refine g_if_ne hC dX12_isChange_15 (tgt := 22) (by decide) (fun c15 => ?_) (fun c15 => ?_)
    · replace h := (if_neg c15).symm.trans h
      refine g_iconst hC dX12_isChange_22 (v := (0 : Int32)) (by decide) ?_
      cases h
      exact g_zret hC (by decide) hE rfl dX12_isChange_23 (Nat.zero_le _) (Nat.zero_le _) ⟨rfl, rfl, rfl, rfl, rfl, rfl⟩
    · replace h := (if_pos c15).symm.trans h
      refine g_iconst hC dX12_isChange_18 (v := (1 : Int32)) (by decide) ?_
      refine g_goto hC dX12_isChange_19 (tgt := 23) (by decide) ?_
      cases h
      exact g_zret hC (by decide) hE rfl dX12_isChange_23 (Nat.zero_le _) (Nat.zero_le _) ⟨rfl, rfl, rfl, rfl, rfl, rfl⟩
noncomputable def f_X12_refuses (Fu : Nat) (I : mIT) (v1 : Int32) : Option (Int32 × mIT) :=
  oG (inB v1 3) (oG (inB v1 3) (some ((-1 : Int32), (mU I 81 (v1).toNatClampNeg ((I 81 (v1).toNatClampNeg) + (1 : Int32))))))
set_option maxRecDepth 20000 in
theorem ok_X12_refuses {l : Launch} {E : mEn} {Fu : Nat} {I : mIT} {R : mRT} {L : mLT} {v1 : Int32} (hst : l.stackTraces = false) (hW : mWd R)  {out : Int32 × mIT} (h : f_X12_refuses Fu I v1 = some out) : mOk l E mX12_refuses [.ref (mB E + 75), .int v1] 106 1 I R L 0 0 (mSame (some (.int (out.1))) 106 1 (out.2) R L) := by
  refine mOk_of hst (by decide) (Nat.le_of_ble_eq_true rfl) (fun X hC hE _ => ?_)
  have hC : mC X E mX12_refuses RX12 cX12_refuses := hC
  show mG X E 0 [(0, .ref (mB E + 75)), (1, .int v1)] [] 106 1 I R L 0 0
  unfold f_X12_refuses at h
  refine g_aload_n hC dX12_refuses_0 rfl (q := 0) rfl ?_
  refine g_getr hC fd_RX12_38 rfl (by decide) (C0 := "") (t0 := _) (Or.inr rfl) (rr_75_16 hW.1) dX12_refuses_1 ?_
  refine g_iload_n hC dX12_refuses_4 rfl (q := 1) rfl ?_
  refine g_dup2 hC dX12_refuses_5 rfl rfl ?_
  obtain ⟨g6, h⟩ := oG_some h
  refine g_iald hC rfl (by decide) (inB_in g6) dX12_refuses_6 ?_
  refine g_iconst hC dX12_refuses_7 (v := (1 : Int32)) (by decide) ?_
  refine g_iadd hC dX12_refuses_8 ?_
  obtain ⟨g9, h⟩ := oG_some h
  refine g_iast hC rfl (by decide) (inB_in g9) dX12_refuses_9 (nm_e ?_)
  refine g_iconst hC dX12_refuses_10 (v := (-1 : Int32)) (by decide) ?_
  cases h
  exact g_iret hC hE rfl dX12_refuses_11 (Nat.zero_le _) (Nat.zero_le _) ⟨rfl, rfl, rfl, rfl, rfl, rfl⟩
noncomputable def b_X12_keeps_52 (Fu : Nat) (k52_ : Int32 × mIT → Option (mIT)) (v1 : Int32) (I : mIT) : Option (mIT) :=
  if (53 : Int32) ≤ v1 then (some (mU I 75 44 ((I 75 44) + (1 : Int32)))) else (oG (inB v1 106) (oG (inB (((53 : Int32) * (I 75 44)) + v1) 2120) (k52_ ((v1 + (1 : Int32)), (mU I 90 ((((53 : Int32) * (I 75 44)) + v1)).toNatClampNeg (I 89 (v1).toNatClampNeg))))))
set_option maxRecDepth 20000 in
theorem bo_X12_keeps_52 {X : mXT} {E : mEn} {Fu : Nat} {R : mRT} {L : mLT}  (hC : mC X E mX12_keeps RX12 cX12_keeps) (hW : mWd R)   {out : mIT} (hE : mEd X E 0 0 (mSame none 106 1 (out) R L)) (k52_ : Int32 × mIT → Option (mIT)) (hk52_ : ∀ (v1 : Int32) (I : mIT),  k52_ (v1, I) = some out → mG X E 52 [(0, .ref (mB E + 75)), (1, .int v1)] [] 106 1 I R L 0 0) (v1 : Int32) (I : mIT) (h : b_X12_keeps_52 Fu k52_ v1 I = some out) : mG X E 52 [(0, .ref (mB E + 75)), (1, .int v1)] [] 106 1 I R L 0 0 := by
  unfold b_X12_keeps_52 at h
  refine g_iload_n hC dX12_keeps_52 rfl (q := 1) rfl ?_
  refine g_bipush hC dX12_keeps_53 (v := (53 : Int32)) (by decide) ?_
  refine g_ic_ge hC dX12_keeps_55 (tgt := 84) (by decide) (fun c55 => ?_) (fun c55 => ?_)
  · replace h := (if_pos c55).symm.trans h
    refine g_aload_n hC dX12_keeps_84 rfl (q := 0) rfl ?_
    refine g_dup hC dX12_keeps_85 rfl ?_
    refine g_geti hC fd_RX12_305 rfl (by decide) (Or.inl rfl) dX12_keeps_86 ?_
    refine g_iconst hC dX12_keeps_89 (v := (1 : Int32)) (by decide) ?_
    refine g_iadd hC dX12_keeps_90 ?_
    refine g_puti hC fd_RX12_305 rfl (by decide) rfl dX12_keeps_91 (nm_e ?_)
    cases h
    exact g_vret hC hE rfl dX12_keeps_94 (Nat.zero_le _) (Nat.zero_le _) ⟨rfl, rfl, rfl, rfl, rfl, rfl⟩
  · replace h := (if_neg c55).symm.trans h
    refine g_aload_n hC dX12_keeps_58 rfl (q := 0) rfl ?_
    refine g_getr hC fd_RX12_66 rfl (by decide) (C0 := "") (t0 := _) (Or.inr rfl) (rr_75_43 hW.1) dX12_keeps_59 ?_
    refine g_bipush hC dX12_keeps_62 (v := (53 : Int32)) (by decide) ?_
    refine g_aload_n hC dX12_keeps_64 rfl (q := 0) rfl ?_
    refine g_geti hC fd_RX12_305 rfl (by decide) (Or.inl rfl) dX12_keeps_65 ?_
    refine g_imul hC dX12_keeps_68 ?_
    refine g_iload_n hC dX12_keeps_69 rfl (q := 1) rfl ?_
    refine g_iadd hC dX12_keeps_70 ?_
    refine g_aload_n hC dX12_keeps_71 rfl (q := 0) rfl ?_
    refine g_getr hC fd_RX12_63 rfl (by decide) (C0 := "") (t0 := _) (Or.inr rfl) (rr_75_42 hW.1) dX12_keeps_72 ?_
    refine g_iload_n hC dX12_keeps_75 rfl (q := 1) rfl ?_
    obtain ⟨g76, h⟩ := oG_some h
    refine g_iald hC rfl (by decide) (inB_in g76) dX12_keeps_76 ?_
    obtain ⟨g77, h⟩ := oG_some h
    refine g_iast hC rfl (by decide) (inB_in g77) dX12_keeps_77 (nm_e ?_)
    refine g_iinc hC dX12_keeps_78 rfl (q := 1) rfl (w := (v1 + (1 : Int32))) rfl (by decide) (lv' := [(1, .int (v1 + (1 : Int32))), (0, .ref (mB E + 75))]) rfl ?_
    refine g_goto hC dX12_keeps_81 (tgt := 52) (by decide) ?_
    refine g_lv [1, 0] rfl ?_
    exact hk52_ (v1 + (1 : Int32)) (mU I 90 ((((53 : Int32) * (I 75 44)) + v1)).toNatClampNeg (I 89 (v1).toNatClampNeg)) h
noncomputable def w_X12_keeps_52 (Fu : Nat)  (N : Nat) (v1 : Int32) (I : mIT) : Option (mIT) :=
  loopF (fun self (s : Int32 × mIT) => b_X12_keeps_52 Fu self s.1 s.2) N (v1, I)
theorem wo_X12_keeps_52 {X : mXT} {E : mEn} {Fu : Nat} {R : mRT} {L : mLT}  (hC : mC X E mX12_keeps RX12 cX12_keeps) (hW : mWd R)   {out : mIT} (hE : mEd X E 0 0 (mSame none 106 1 (out) R L))  (N : Nat) (v1 : Int32) (I : mIT) (h : w_X12_keeps_52 Fu  N v1 I = some out) : mG X E 52 [(0, .ref (mB E + 75)), (1, .int v1)] [] 106 1 I R L 0 0 :=
  loopF_ok (Gd := fun s : Int32 × mIT => mG X E 52 [(0, .ref (mB E + 75)), (1, .int s.1)] [] 106 1 s.2 R L 0 0) (fun self hs s h => bo_X12_keeps_52 hC hW hE self (fun v1 I h => hs (v1, I) h) s.1 s.2 h) N (v1, I) h
noncomputable def b_X12_keeps_12 (Fu : Nat) (k12_ : Int32 × mIT → Option (mIT)) (v1 : Int32) (I : mIT) : Option (mIT) :=
  if (2120 : Int32) ≤ v1 then (w_X12_keeps_52 Fu Fu (0 : Int32) (mU I 75 44 ((I 75 44) - (1 : Int32)))) else (oG (inB v1 2120) (oG (inB (v1 - (53 : Int32)) 2120) (k12_ ((v1 + (1 : Int32)), (mU I 90 ((v1 - (53 : Int32))).toNatClampNeg (I 90 (v1).toNatClampNeg))))))
set_option maxRecDepth 20000 in
theorem bo_X12_keeps_12 {X : mXT} {E : mEn} {Fu : Nat} {R : mRT} {L : mLT}  (hC : mC X E mX12_keeps RX12 cX12_keeps) (hW : mWd R)   {out : mIT} (hE : mEd X E 0 0 (mSame none 106 1 (out) R L)) (k12_ : Int32 × mIT → Option (mIT)) (hk12_ : ∀ (v1 : Int32) (I : mIT),  k12_ (v1, I) = some out → mG X E 12 [(0, .ref (mB E + 75)), (1, .int v1)] [] 106 1 I R L 0 0) (v1 : Int32) (I : mIT) (h : b_X12_keeps_12 Fu k12_ v1 I = some out) : mG X E 12 [(0, .ref (mB E + 75)), (1, .int v1)] [] 106 1 I R L 0 0 := by
  unfold b_X12_keeps_12 at h
  refine g_iload_n hC dX12_keeps_12 rfl (q := 1) rfl ?_
  refine g_sipush hC dX12_keeps_13 (v := (2120 : Int32)) (by decide) ?_
  refine g_ic_ge hC dX12_keeps_16 (tgt := 40) (by decide) (fun c16 => ?_) (fun c16 => ?_)
  · replace h := (if_pos c16).symm.trans h
    refine g_aload_n hC dX12_keeps_40 rfl (q := 0) rfl ?_
    refine g_dup hC dX12_keeps_41 rfl ?_
    refine g_geti hC fd_RX12_305 rfl (by decide) (Or.inl rfl) dX12_keeps_42 ?_
    refine g_iconst hC dX12_keeps_45 (v := (1 : Int32)) (by decide) ?_
    refine g_isub hC dX12_keeps_46 ?_
    refine g_puti hC fd_RX12_305 rfl (by decide) rfl dX12_keeps_47 (nm_e ?_)
    refine g_iconst hC dX12_keeps_50 (v := (0 : Int32)) (by decide) ?_
    refine g_istore_n hC dX12_keeps_51 rfl rfl (by decide) (lv' := [(1, .int (0 : Int32)), (0, .ref (mB E + 75))]) rfl ?_
    refine g_lv [1, 0] rfl ?_
    exact wo_X12_keeps_52 hC hW hE Fu ((0 : Int32)) ((mU I 75 44 ((I 75 44) - (1 : Int32)))) h
  · replace h := (if_neg c16).symm.trans h
    refine g_aload_n hC dX12_keeps_19 rfl (q := 0) rfl ?_
    refine g_getr hC fd_RX12_66 rfl (by decide) (C0 := "") (t0 := _) (Or.inr rfl) (rr_75_43 hW.1) dX12_keeps_20 ?_
    refine g_iload_n hC dX12_keeps_23 rfl (q := 1) rfl ?_
    refine g_bipush hC dX12_keeps_24 (v := (53 : Int32)) (by decide) ?_
    refine g_isub hC dX12_keeps_26 ?_
    refine g_aload_n hC dX12_keeps_27 rfl (q := 0) rfl ?_
    refine g_getr hC fd_RX12_66 rfl (by decide) (C0 := "") (t0 := _) (Or.inr rfl) (rr_75_43 hW.1) dX12_keeps_28 ?_
    refine g_iload_n hC dX12_keeps_31 rfl (q := 1) rfl ?_
    obtain ⟨g32, h⟩ := oG_some h
    refine g_iald hC rfl (by decide) (inB_in g32) dX12_keeps_32 ?_
    obtain ⟨g33, h⟩ := oG_some h
    refine g_iast hC rfl (by decide) (inB_in g33) dX12_keeps_33 (nm_e ?_)
    refine g_iinc hC dX12_keeps_34 rfl (q := 1) rfl (w := (v1 + (1 : Int32))) rfl (by decide) (lv' := [(1, .int (v1 + (1 : Int32))), (0, .ref (mB E + 75))]) rfl ?_
    refine g_goto hC dX12_keeps_37 (tgt := 12) (by decide) ?_
    refine g_lv [1, 0] rfl ?_
    exact hk12_ (v1 + (1 : Int32)) (mU I 90 ((v1 - (53 : Int32))).toNatClampNeg (I 90 (v1).toNatClampNeg)) h
noncomputable def w_X12_keeps_12 (Fu : Nat)  (N : Nat) (v1 : Int32) (I : mIT) : Option (mIT) :=
  loopF (fun self (s : Int32 × mIT) => b_X12_keeps_12 Fu self s.1 s.2) N (v1, I)
theorem wo_X12_keeps_12 {X : mXT} {E : mEn} {Fu : Nat} {R : mRT} {L : mLT}  (hC : mC X E mX12_keeps RX12 cX12_keeps) (hW : mWd R)   {out : mIT} (hE : mEd X E 0 0 (mSame none 106 1 (out) R L))  (N : Nat) (v1 : Int32) (I : mIT) (h : w_X12_keeps_12 Fu  N v1 I = some out) : mG X E 12 [(0, .ref (mB E + 75)), (1, .int v1)] [] 106 1 I R L 0 0 :=
  loopF_ok (Gd := fun s : Int32 × mIT => mG X E 12 [(0, .ref (mB E + 75)), (1, .int s.1)] [] 106 1 s.2 R L 0 0) (fun self hs s h => bo_X12_keeps_12 hC hW hE self (fun v1 I h => hs (v1, I) h) s.1 s.2 h) N (v1, I) h
noncomputable def f_X12_keeps (Fu : Nat) (I : mIT)  : Option (mIT) :=
  if (I 75 44) = (40 : Int32) then (w_X12_keeps_12 Fu Fu (53 : Int32) I) else (w_X12_keeps_52 Fu Fu (0 : Int32) I)
set_option maxRecDepth 20000 in
theorem ok_X12_keeps {l : Launch} {E : mEn} {Fu : Nat} {I : mIT} {R : mRT} {L : mLT}  (hst : l.stackTraces = false) (hW : mWd R)  {out : mIT} (h : f_X12_keeps Fu I  = some out) : mOk l E mX12_keeps [.ref (mB E + 75)] 106 1 I R L 0 0 (mSame none 106 1 (out) R L) := by
  refine mOk_of hst (by decide) (Nat.le_of_ble_eq_true rfl) (fun X hC hE _ => ?_)
  have hC : mC X E mX12_keeps RX12 cX12_keeps := hC
  show mG X E 0 [(0, .ref (mB E + 75))] [] 106 1 I R L 0 0
  unfold f_X12_keeps at h
  refine g_aload_n hC dX12_keeps_0 rfl (q := 0) rfl ?_
  refine g_geti hC fd_RX12_305 rfl (by decide) (Or.inl rfl) dX12_keeps_1 ?_
  refine g_bipush hC dX12_keeps_4 (v := (40 : Int32)) (by decide) ?_
  refine g_ic_ne hC dX12_keeps_6 (tgt := 50) (by decide) (fun c6 => ?_) (fun c6 => ?_)
  · replace h := (if_neg c6).symm.trans h
    refine g_iconst hC dX12_keeps_50 (v := (0 : Int32)) (by decide) ?_
    refine g_istore_n hC dX12_keeps_51 rfl rfl (by decide) (lv' := [(1, .int (0 : Int32)), (0, .ref (mB E + 75))]) rfl ?_
    refine g_lv [1, 0] rfl ?_
    exact wo_X12_keeps_52 hC hW hE Fu ((0 : Int32)) (I) h
  · replace h := (if_pos c6).symm.trans h
    refine g_bipush hC dX12_keeps_9 (v := (53 : Int32)) (by decide) ?_
    refine g_istore_n hC dX12_keeps_11 rfl rfl (by decide) (lv' := [(1, .int (53 : Int32)), (0, .ref (mB E + 75))]) rfl ?_
    refine g_lv [1, 0] rfl ?_
    exact wo_X12_keeps_12 hC hW hE Fu ((53 : Int32)) (I) h
noncomputable def b_X12_alter_23 (Fu : Nat)  (v1 : Int32) (v2 : Int32) (s1 : Int32) (I : mIT) : Option (Int32 × mIT) :=
  oB (f_X12_right Fu I s1 (1 : Int32)) (fun r24 => if r24.1 = 0 then (some ((0 : Int32), r24.2)) else (oB (f_X12_isChange Fu v2) (fun r33 => if r33 = 0 then (oB (f_X12_refuses Fu r24.2 (1 : Int32)) (fun r41 => some (r41.1, r41.2))) else (oB (f_X12_keeps Fu r24.2) (fun r46 => oG (inB ((41 : Int32) + v1) 106) (oG (inB ((41 : Int32) + v1) 106) (some ((r46 89 (((41 : Int32) + v1)).toNatClampNeg), (mU r46 89 (((41 : Int32) + v1)).toNatClampNeg v2)))))))))
set_option maxRecDepth 20000 in
theorem bo_X12_alter_23 {X : mXT} {E : mEn} {Fu : Nat} {R : mRT} {L : mLT}  (hC : mC X E mX12_alter RX12 cX12_alter) (hW : mWd R)   {out : Int32 × mIT} (hE : mEd X E 0 0 (mSame (some (.int (out.1))) 106 1 (out.2) R L))  (v1 : Int32) (v2 : Int32) (s1 : Int32) (I : mIT) (h : b_X12_alter_23 Fu  v1 v2 s1 I = some out) : mG X E 23 [(0, .ref (mB E + 75)), (1, .int v1), (2, .int v2)] [.int s1, .ref (mB E + 75)] 106 1 I R L 0 0 := by
  unfold b_X12_alter_23 at h
  refine g_iconst hC dX12_alter_23 (v := (1 : Int32)) (by decide) ?_
  obtain ⟨r24, h24, h⟩ := oB_some h
  refine g_cV1 hC cv_X12_right wd_1851 ⟨Nat.le_of_ble_eq_true rfl, Nat.le_of_ble_eq_true rfl⟩ rfl (by decide) dX12_alter_24 (As := [.int s1, .int (1 : Int32)]) (st := []) (ok_X12_right hC.2.2.2.2.2.2.2.1 hW h24) rfl rfl (Nat.le_of_ble_eq_true rfl) ⟨Nat.zero_le _, Nat.zero_le _⟩ ?_
  refine g_if_ne hC dX12_alter_27 (tgt := 32) (by decide) (fun c27 => ?_) (fun c27 => ?_)
  · replace h := (if_neg c27).symm.trans h
    refine g_iload_n hC dX12_alter_32 rfl (q := 2) rfl ?_
    obtain ⟨r33, h33, h⟩ := oB_some h
    refine g_cS1 hC cs_X12_isChange wd_1912 ⟨Nat.le_of_ble_eq_true rfl, Nat.le_of_ble_eq_true rfl⟩ dX12_alter_33 (As := [.int v2]) (st := []) (ok_X12_isChange hC.2.2.2.2.2.2.2.1 hW h33) rfl rfl (Nat.le_of_ble_eq_true rfl) ⟨Nat.zero_le _, Nat.zero_le _⟩ ?_
    refine g_if_ne hC dX12_alter_36 (tgt := 45) (by decide) (fun c36 => ?_) (fun c36 => ?_)
    · replace h := (if_neg c36).symm.trans h
      refine g_aload_n hC dX12_alter_45 rfl (q := 0) rfl ?_
      obtain ⟨r46, h46, h⟩ := oB_some h
      refine g_cV0 hC cv_X12_keeps wd_2066 ⟨Nat.le_of_ble_eq_true rfl, Nat.le_of_ble_eq_true rfl⟩ rfl (by decide) dX12_alter_46 (As := []) (st := []) (ok_X12_keeps hC.2.2.2.2.2.2.2.1 hW h46) rfl rfl (Nat.le_of_ble_eq_true rfl) ⟨Nat.zero_le _, Nat.zero_le _⟩ ?_
      refine g_aload_n hC dX12_alter_49 rfl (q := 0) rfl ?_
      refine g_getr hC fd_RX12_63 rfl (by decide) (C0 := "") (t0 := _) (Or.inr rfl) (rr_75_42 hW.1) dX12_alter_50 ?_
      refine g_bipush hC dX12_alter_53 (v := (41 : Int32)) (by decide) ?_
      refine g_iload_n hC dX12_alter_55 rfl (q := 1) rfl ?_
      refine g_iadd hC dX12_alter_56 ?_
      obtain ⟨g57, h⟩ := oG_some h
      refine g_iald hC rfl (by decide) (inB_in g57) dX12_alter_57 ?_
      refine g_istore_n hC dX12_alter_58 rfl rfl (by decide) (lv' := [(3, .int (r46 89 (((41 : Int32) + v1)).toNatClampNeg)), (0, .ref (mB E + 75)), (1, .int v1), (2, .int v2)]) rfl ?_
      refine g_aload_n hC dX12_alter_59 rfl (q := 1) rfl ?_
      refine g_getr hC fd_RX12_63 rfl (by decide) (C0 := "") (t0 := _) (Or.inr rfl) (rr_75_42 hW.1) dX12_alter_60 ?_
      refine g_bipush hC dX12_alter_63 (v := (41 : Int32)) (by decide) ?_
      refine g_iload_n hC dX12_alter_65 rfl (q := 2) rfl ?_
      refine g_iadd hC dX12_alter_66 ?_
      refine g_iload_n hC dX12_alter_67 rfl (q := 3) rfl ?_
      obtain ⟨g68, h⟩ := oG_some h
      refine g_iast hC rfl (by decide) (inB_in g68) dX12_alter_68 (nm_e ?_)
      refine g_iload_n hC dX12_alter_69 rfl (q := 0) rfl ?_
      cases h
      exact g_iret hC hE rfl dX12_alter_70 (Nat.zero_le _) (Nat.zero_le _) ⟨rfl, rfl, rfl, rfl, rfl, rfl⟩
    · replace h := (if_pos c36).symm.trans h
      refine g_aload_n hC dX12_alter_39 rfl (q := 0) rfl ?_
      refine g_iconst hC dX12_alter_40 (v := (1 : Int32)) (by decide) ?_
      obtain ⟨r41, h41, h⟩ := oB_some h
      refine g_cV1 hC cv_X12_refuses wd_2062 ⟨Nat.le_of_ble_eq_true rfl, Nat.le_of_ble_eq_true rfl⟩ rfl (by decide) dX12_alter_41 (As := [.int (1 : Int32)]) (st := []) (ok_X12_refuses hC.2.2.2.2.2.2.2.1 hW h41) rfl rfl (Nat.le_of_ble_eq_true rfl) ⟨Nat.zero_le _, Nat.zero_le _⟩ ?_
      cases h
      exact g_iret hC hE rfl dX12_alter_44 (Nat.zero_le _) (Nat.zero_le _) ⟨rfl, rfl, rfl, rfl, rfl, rfl⟩
  · replace h := (if_pos c27).symm.trans h
    refine g_iconst hC dX12_alter_30 (v := (0 : Int32)) (by decide) ?_
    cases h
    exact g_iret hC hE rfl dX12_alter_31 (Nat.zero_le _) (Nat.zero_le _) ⟨rfl, rfl, rfl, rfl, rfl, rfl⟩
noncomputable def b_X12_alter_22 (Fu : Nat)  (v1 : Int32) (v2 : Int32) (I : mIT) : Option (Int32 × mIT) :=
  b_X12_alter_23 Fu v1 v2 (0 : Int32) I
set_option maxRecDepth 20000 in
theorem bo_X12_alter_22 {X : mXT} {E : mEn} {Fu : Nat} {R : mRT} {L : mLT}  (hC : mC X E mX12_alter RX12 cX12_alter) (hW : mWd R)   {out : Int32 × mIT} (hE : mEd X E 0 0 (mSame (some (.int (out.1))) 106 1 (out.2) R L))  (v1 : Int32) (v2 : Int32) (I : mIT) (h : b_X12_alter_22 Fu  v1 v2 I = some out) : mG X E 22 [(0, .ref (mB E + 75)), (1, .int v1), (2, .int v2)] [.ref (mB E + 75)] 106 1 I R L 0 0 := by
  unfold b_X12_alter_22 at h
  refine g_iconst hC dX12_alter_22 (v := (0 : Int32)) (by decide) ?_
  exact bo_X12_alter_23 hC hW hE (v1) (v2) ((0 : Int32)) (I) h
noncomputable def f_X12_alter (Fu : Nat) (I : mIT) (v1 : Int32) (v2 : Int32) : Option (Int32 × mIT) :=
  if v1 < 0 then (b_X12_alter_22 Fu v1 v2 (mU I 75 0 (0 : Int32))) else (if ((mU I 75 0 (0 : Int32)) 75 5) ≤ v1 then (b_X12_alter_22 Fu v1 v2 (mU I 75 0 (0 : Int32))) else (b_X12_alter_23 Fu v1 v2 (1 : Int32) (mU I 75 0 (0 : Int32))))
set_option maxRecDepth 20000 in
theorem ok_X12_alter {l : Launch} {E : mEn} {Fu : Nat} {I : mIT} {R : mRT} {L : mLT} {v1 : Int32} {v2 : Int32} (hst : l.stackTraces = false) (hW : mWd R)  {out : Int32 × mIT} (h : f_X12_alter Fu I v1 v2 = some out) : mOk l E mX12_alter [.ref (mB E + 75), .int v1, .int v2] 106 1 I R L 0 0 (mSame (some (.int (out.1))) 106 1 (out.2) R L) := by
  refine mOk_of hst (by decide) (Nat.le_of_ble_eq_true rfl) (fun X hC hE _ => ?_)
  have hC : mC X E mX12_alter RX12 cX12_alter := hC
  show mG X E 0 [(0, .ref (mB E + 75)), (1, .int v1), (2, .int v2)] [] 106 1 I R L 0 0
  unfold f_X12_alter at h
  refine g_aload_n hC dX12_alter_0 rfl (q := 0) rfl ?_
  refine g_iconst hC dX12_alter_1 (v := (0 : Int32)) (by decide) ?_
  refine g_puti hC fd_RX12_114 rfl (by decide) rfl dX12_alter_2 (nm_e ?_)
  refine g_aload_n hC dX12_alter_5 rfl (q := 0) rfl ?_
  refine g_iload_n hC dX12_alter_6 rfl (q := 1) rfl ?_
  refine g_if_lt hC dX12_alter_7 (tgt := 22) (by decide) (fun c7 => ?_) (fun c7 => ?_)
  · replace h := (if_pos c7).symm.trans h
    exact bo_X12_alter_22 hC hW hE (v1) (v2) ((mU I 75 0 (0 : Int32))) h
  · replace h := (if_neg c7).symm.trans h
    refine g_iload_n hC dX12_alter_10 rfl (q := 1) rfl ?_
    refine g_aload_n hC dX12_alter_11 rfl (q := 0) rfl ?_
    refine g_geti hC fd_RX12_298 rfl (by decide) (Or.inl rfl) dX12_alter_12 ?_
    refine g_ic_ge hC dX12_alter_15 (tgt := 22) (by decide) (fun c15 => ?_) (fun c15 => ?_)
    · replace h := (if_pos c15).symm.trans h
      exact bo_X12_alter_22 hC hW hE (v1) (v2) ((mU I 75 0 (0 : Int32))) h
    · replace h := (if_neg c15).symm.trans h
      refine g_iconst hC dX12_alter_18 (v := (1 : Int32)) (by decide) ?_
      refine g_goto hC dX12_alter_19 (tgt := 23) (by decide) ?_
      exact bo_X12_alter_23 hC hW hE (v1) (v2) ((1 : Int32)) ((mU I 75 0 (0 : Int32))) h
noncomputable def f_X12_isRow (Fu : Nat) (I : mIT) (v1 : Int32) (v2 : Int32) : Option (Int32 × mIT) :=
  oB (f_X12_within Fu v1 (0 : Int32) (999 : Int32)) (fun r6 => if r6 = 0 then (oB (f_X12_right Fu I (0 : Int32) v2) (fun r25 => oG (isB r25.1) (some (r25.1, r25.2)))) else (if (I 75 5) ≤ 0 then (oB (f_X12_right Fu I (0 : Int32) v2) (fun r25 => oG (isB r25.1) (some (r25.1, r25.2)))) else (oB (f_X12_right Fu I (1 : Int32) v2) (fun r25 => oG (isB r25.1) (some (r25.1, r25.2))))))
set_option maxRecDepth 20000 in
theorem ok_X12_isRow {l : Launch} {E : mEn} {Fu : Nat} {I : mIT} {R : mRT} {L : mLT} {v1 : Int32} {v2 : Int32} (hst : l.stackTraces = false) (hW : mWd R)  {out : Int32 × mIT} (h : f_X12_isRow Fu I v1 v2 = some out) : mOk l E mX12_isRow [.ref (mB E + 75), .int v1, .int v2] 106 1 I R L 0 0 (mSame (some (.int (out.1))) 106 1 (out.2) R L) := by
  refine mOk_of hst (by decide) (Nat.le_of_ble_eq_true rfl) (fun X hC hE _ => ?_)
  have hC : mC X E mX12_isRow RX12 cX12_isRow := hC
  show mG X E 0 [(0, .ref (mB E + 75)), (1, .int v1), (2, .int v2)] [] 106 1 I R L 0 0
  unfold f_X12_isRow at h
  refine g_aload_n hC dX12_isRow_0 rfl (q := 0) rfl ?_
  refine g_iload_n hC dX12_isRow_1 rfl (q := 1) rfl ?_
  refine g_iconst hC dX12_isRow_2 (v := (0 : Int32)) (by decide) ?_
  refine g_sipush hC dX12_isRow_3 (v := (999 : Int32)) (by decide) ?_
  obtain ⟨r6, h6, h⟩ := oB_some h
  refine g_cS1 hC cs_X12_within wd_1915 ⟨Nat.le_of_ble_eq_true rfl, Nat.le_of_ble_eq_true rfl⟩ dX12_isRow_6 (As := [.int v1, .int (0 : Int32), .int (999 : Int32)]) (st := [.ref (mB E + 75)]) (ok_X12_within hC.2.2.2.2.2.2.2.1 hW h6) rfl rfl (Nat.le_of_ble_eq_true rfl) ⟨Nat.zero_le _, Nat.zero_le _⟩ ?_
  refine g_if_eq hC dX12_isRow_9 (tgt := 23) (by decide) (fun c9 => ?_) (fun c9 => ?_)
  · replace h := (if_pos c9).symm.trans h
    refine g_iconst hC dX12_isRow_23 (v := (0 : Int32)) (by decide) ?_
    refine g_iload_n hC dX12_isRow_24 rfl (q := 2) rfl ?_
    obtain ⟨r25, h25, h⟩ := oB_some h
    refine g_cV1 hC cv_X12_right wd_1851 ⟨Nat.le_of_ble_eq_true rfl, Nat.le_of_ble_eq_true rfl⟩ rfl (by decide) dX12_isRow_25 (As := [.int (0 : Int32), .int v2]) (st := []) (ok_X12_right hC.2.2.2.2.2.2.2.1 hW h25) rfl rfl (Nat.le_of_ble_eq_true rfl) ⟨Nat.zero_le _, Nat.zero_le _⟩ ?_
    obtain ⟨g28, h⟩ := oG_some h
    cases h
    exact g_zret hC (isB_or g28) hE rfl dX12_isRow_28 (Nat.zero_le _) (Nat.zero_le _) ⟨rfl, rfl, rfl, rfl, rfl, rfl⟩
  · replace h := (if_neg c9).symm.trans h
    refine g_aload_n hC dX12_isRow_12 rfl (q := 0) rfl ?_
    refine g_geti hC fd_RX12_298 rfl (by decide) (Or.inl rfl) dX12_isRow_13 ?_
    refine g_if_le hC dX12_isRow_16 (tgt := 23) (by decide) (fun c16 => ?_) (fun c16 => ?_)
    · replace h := (if_pos c16).symm.trans h
      refine g_iconst hC dX12_isRow_23 (v := (0 : Int32)) (by decide) ?_
      refine g_iload_n hC dX12_isRow_24 rfl (q := 2) rfl ?_
      obtain ⟨r25, h25, h⟩ := oB_some h
      refine g_cV1 hC cv_X12_right wd_1851 ⟨Nat.le_of_ble_eq_true rfl, Nat.le_of_ble_eq_true rfl⟩ rfl (by decide) dX12_isRow_25 (As := [.int (0 : Int32), .int v2]) (st := []) (ok_X12_right hC.2.2.2.2.2.2.2.1 hW h25) rfl rfl (Nat.le_of_ble_eq_true rfl) ⟨Nat.zero_le _, Nat.zero_le _⟩ ?_
      obtain ⟨g28, h⟩ := oG_some h
      cases h
      exact g_zret hC (isB_or g28) hE rfl dX12_isRow_28 (Nat.zero_le _) (Nat.zero_le _) ⟨rfl, rfl, rfl, rfl, rfl, rfl⟩
    · replace h := (if_neg c16).symm.trans h
      refine g_iconst hC dX12_isRow_19 (v := (1 : Int32)) (by decide) ?_
      refine g_goto hC dX12_isRow_20 (tgt := 24) (by decide) ?_
      refine g_iload_n hC dX12_isRow_24 rfl (q := 2) rfl ?_
      obtain ⟨r25, h25, h⟩ := oB_some h
      refine g_cV1 hC cv_X12_right wd_1851 ⟨Nat.le_of_ble_eq_true rfl, Nat.le_of_ble_eq_true rfl⟩ rfl (by decide) dX12_isRow_25 (As := [.int (1 : Int32), .int v2]) (st := []) (ok_X12_right hC.2.2.2.2.2.2.2.1 hW h25) rfl rfl (Nat.le_of_ble_eq_true rfl) ⟨Nat.zero_le _, Nat.zero_le _⟩ ?_
      obtain ⟨g28, h⟩ := oG_some h
      cases h
      exact g_zret hC (isB_or g28) hE rfl dX12_isRow_28 (Nat.zero_le _) (Nat.zero_le _) ⟨rfl, rfl, rfl, rfl, rfl, rfl⟩
noncomputable def b_X12_whereIn_5 (Fu : Nat) (I : mIT) (k5_ : Int32 × Int32 × Int32 × Int32 → Option (Int32)) (v1 : Int32) (v2 : Int32) (v3 : Int32) (v4 : Int32) : Option (Int32) :=
  if (I 75 1) ≤ v4 then (some (v3)) else (oG (inB ((v1 + (31 : Int32)) + v4) 106) (if (I 89 (((v1 + (31 : Int32)) + v4)).toNatClampNeg) = v2 then (k5_ (v1, v2, (v3 ||| ((1 : Int32) <<< (v4 &&& 31))), (v4 + (1 : Int32)))) else (k5_ (v1, v2, (v3 ||| (0 : Int32)), (v4 + (1 : Int32))))))
set_option maxRecDepth 20000 in
theorem bo_X12_whereIn_5 {X : mXT} {E : mEn} {Fu : Nat} {I : mIT} {R : mRT} {L : mLT}  (hC : mC X E mX12_whereIn RX12 cX12_whereIn) (hW : mWd R)   {out : Int32} (hE : mEd X E 0 0 (mSame (some (.int (out))) 106 1 I R L)) (k5_ : Int32 × Int32 × Int32 × Int32 → Option (Int32)) (hk5_ : ∀ (v1 : Int32) (v2 : Int32) (v3 : Int32) (v4 : Int32),  k5_ (v1, v2, v3, v4) = some out → mG X E 5 [(0, .ref (mB E + 75)), (1, .int v1), (2, .int v2), (3, .int v3), (4, .int v4)] [] 106 1 I R L 0 0) (v1 : Int32) (v2 : Int32) (v3 : Int32) (v4 : Int32) (h : b_X12_whereIn_5 Fu I k5_ v1 v2 v3 v4 = some out) : mG X E 5 [(0, .ref (mB E + 75)), (1, .int v1), (2, .int v2), (3, .int v3), (4, .int v4)] [] 106 1 I R L 0 0 := by
  unfold b_X12_whereIn_5 at h
  refine g_iload hC dX12_whereIn_5 (q := 4) rfl ?_
  refine g_aload_n hC dX12_whereIn_7 rfl (q := 0) rfl ?_
  refine g_geti hC fd_RX12_289 rfl (by decide) (Or.inl rfl) dX12_whereIn_8 ?_
  refine g_ic_ge hC dX12_whereIn_11 (tgt := 47) (by decide) (fun c11 => ?_) (fun c11 => ?_)
  · replace h := (if_pos c11).symm.trans h
    refine g_iload_n hC dX12_whereIn_47 rfl (q := 3) rfl ?_
    cases h
    exact g_iret hC hE rfl dX12_whereIn_48 (Nat.zero_le _) (Nat.zero_le _) ⟨rfl, rfl, rfl, rfl, rfl, rfl⟩
  · replace h := (if_neg c11).symm.trans h
    refine g_iload_n hC dX12_whereIn_14 rfl (q := 3) rfl ?_
    refine g_aload_n hC dX12_whereIn_15 rfl (q := 0) rfl ?_
    refine g_getr hC fd_RX12_63 rfl (by decide) (C0 := "") (t0 := _) (Or.inr rfl) (rr_75_42 hW.1) dX12_whereIn_16 ?_
    refine g_iload_n hC dX12_whereIn_19 rfl (q := 1) rfl ?_
    refine g_bipush hC dX12_whereIn_20 (v := (31 : Int32)) (by decide) ?_
    refine g_iadd hC dX12_whereIn_22 ?_
    refine g_iload hC dX12_whereIn_23 (q := 4) rfl ?_
    refine g_iadd hC dX12_whereIn_25 ?_
    obtain ⟨g26, h⟩ := oG_some h
    refine g_iald hC rfl (by decide) (inB_in g26) dX12_whereIn_26 ?_
    refine g_iload_n hC dX12_whereIn_27 rfl (q := 2) rfl ?_
    refine g_ic_ne hC dX12_whereIn_28 (tgt := 38) (by decide) (fun c28 => ?_) (fun c28 => ?_)
    · replace h := (if_neg c28).symm.trans h
      refine g_iconst hC dX12_whereIn_38 (v := (0 : Int32)) (by decide) ?_
      refine g_ior hC dX12_whereIn_39 ?_
      refine g_istore_n hC dX12_whereIn_40 rfl rfl (by decide) (lv' := [(3, .int (v3 ||| (0 : Int32))), (0, .ref (mB E + 75)), (1, .int v1), (2, .int v2), (4, .int v4)]) rfl ?_
      refine g_iinc hC dX12_whereIn_41 rfl (q := 4) rfl (w := (v4 + (1 : Int32))) rfl (by decide) (lv' := [(4, .int (v4 + (1 : Int32))), (3, .int (v3 ||| (0 : Int32))), (0, .ref (mB E + 75)), (1, .int v1), (2, .int v2)]) rfl ?_
      refine g_goto hC dX12_whereIn_44 (tgt := 5) (by decide) ?_
      refine g_lv [2, 3, 4, 1, 0] rfl ?_
      exact hk5_ v1 v2 (v3 ||| (0 : Int32)) (v4 + (1 : Int32)) h
    · replace h := (if_pos c28).symm.trans h
      refine g_iconst hC dX12_whereIn_31 (v := (1 : Int32)) (by decide) ?_
      refine g_iload hC dX12_whereIn_32 (q := 4) rfl ?_
      refine g_ishl hC dX12_whereIn_34 ?_
      refine g_goto hC dX12_whereIn_35 (tgt := 39) (by decide) ?_
      refine g_ior hC dX12_whereIn_39 ?_
      refine g_istore_n hC dX12_whereIn_40 rfl rfl (by decide) (lv' := [(3, .int (v3 ||| ((1 : Int32) <<< (v4 &&& 31)))), (0, .ref (mB E + 75)), (1, .int v1), (2, .int v2), (4, .int v4)]) rfl ?_
      refine g_iinc hC dX12_whereIn_41 rfl (q := 4) rfl (w := (v4 + (1 : Int32))) rfl (by decide) (lv' := [(4, .int (v4 + (1 : Int32))), (3, .int (v3 ||| ((1 : Int32) <<< (v4 &&& 31)))), (0, .ref (mB E + 75)), (1, .int v1), (2, .int v2)]) rfl ?_
      refine g_goto hC dX12_whereIn_44 (tgt := 5) (by decide) ?_
      refine g_lv [2, 3, 4, 1, 0] rfl ?_
      exact hk5_ v1 v2 (v3 ||| ((1 : Int32) <<< (v4 &&& 31))) (v4 + (1 : Int32)) h
noncomputable def w_X12_whereIn_5 (Fu : Nat) (I : mIT)  (N : Nat) (v1 : Int32) (v2 : Int32) (v3 : Int32) (v4 : Int32) : Option (Int32) :=
  loopF (fun self (s : Int32 × Int32 × Int32 × Int32) => b_X12_whereIn_5 Fu I self s.1 s.2.1 s.2.2.1 s.2.2.2) N (v1, v2, v3, v4)
theorem wo_X12_whereIn_5 {X : mXT} {E : mEn} {Fu : Nat} {I : mIT} {R : mRT} {L : mLT}  (hC : mC X E mX12_whereIn RX12 cX12_whereIn) (hW : mWd R)   {out : Int32} (hE : mEd X E 0 0 (mSame (some (.int (out))) 106 1 I R L))  (N : Nat) (v1 : Int32) (v2 : Int32) (v3 : Int32) (v4 : Int32) (h : w_X12_whereIn_5 Fu I  N v1 v2 v3 v4 = some out) : mG X E 5 [(0, .ref (mB E + 75)), (1, .int v1), (2, .int v2), (3, .int v3), (4, .int v4)] [] 106 1 I R L 0 0 :=
  loopF_ok (Gd := fun s : Int32 × Int32 × Int32 × Int32 => mG X E 5 [(0, .ref (mB E + 75)), (1, .int s.1), (2, .int s.2.1), (3, .int s.2.2.1), (4, .int s.2.2.2)] [] 106 1 I R L 0 0) (fun self hs s h => bo_X12_whereIn_5 hC hW hE self (fun v1 v2 v3 v4 h => hs (v1, v2, v3, v4) h) s.1 s.2.1 s.2.2.1 s.2.2.2 h) N (v1, v2, v3, v4) h
noncomputable def f_X12_whereIn (Fu : Nat) (I : mIT) (v1 : Int32) (v2 : Int32) : Option (Int32) :=
  w_X12_whereIn_5 Fu I Fu v1 v2 (0 : Int32) (0 : Int32)
set_option maxRecDepth 20000 in
theorem ok_X12_whereIn {l : Launch} {E : mEn} {Fu : Nat} {I : mIT} {R : mRT} {L : mLT} {v1 : Int32} {v2 : Int32} (hst : l.stackTraces = false) (hW : mWd R)  {out : Int32} (h : f_X12_whereIn Fu I v1 v2 = some out) : mOk l E mX12_whereIn [.ref (mB E + 75), .int v1, .int v2] 106 1 I R L 0 0 (mSame (some (.int (out))) 106 1 I R L) := by
  refine mOk_of hst (by decide) (Nat.le_of_ble_eq_true rfl) (fun X hC hE _ => ?_)
  have hC : mC X E mX12_whereIn RX12 cX12_whereIn := hC
  show mG X E 0 [(0, .ref (mB E + 75)), (1, .int v1), (2, .int v2)] [] 106 1 I R L 0 0
  unfold f_X12_whereIn at h
  refine g_iconst hC dX12_whereIn_0 (v := (0 : Int32)) (by decide) ?_
  refine g_istore_n hC dX12_whereIn_1 rfl rfl (by decide) (lv' := [(3, .int (0 : Int32)), (0, .ref (mB E + 75)), (1, .int v1), (2, .int v2)]) rfl ?_
  refine g_iconst hC dX12_whereIn_2 (v := (0 : Int32)) (by decide) ?_
  refine g_istore hC dX12_whereIn_3 rfl (by decide) (lv' := [(4, .int (0 : Int32)), (3, .int (0 : Int32)), (0, .ref (mB E + 75)), (1, .int v1), (2, .int v2)]) rfl ?_
  refine g_lv [2, 3, 4, 1, 0] rfl ?_
  exact wo_X12_whereIn_5 hC hW hE Fu (v1) (v2) ((0 : Int32)) ((0 : Int32)) h
noncomputable def b_X12_bells_20 (Fu : Nat) (k4_ : Int32 × Int32 × mIT → Option (Int32 × mIT)) (k20_ : Int32 × Int32 × Int32 × Int32 × mIT → Option (Int32 × mIT)) (v1 : Int32) (v2 : Int32) (v3 : Int32) (v4 : Int32) (I : mIT) : Option (Int32 × mIT) :=
  if (I 75 1) ≤ v4 then (if v3 = 0 then (k4_ ((v1 + (0 : Int32)), (v2 + (1 : Int32)), I)) else (k4_ ((v1 + (1 : Int32)), (v2 + (1 : Int32)), I))) else (if ((v3 >>> (v4 &&& 31)) &&& (1 : Int32)) = (1 : Int32) then (oG (inB v1 6) (k20_ (v1, v2, v3, (v4 + (1 : Int32)), (mU I 93 (v1).toNatClampNeg v4)))) else (k20_ (v1, v2, v3, (v4 + (1 : Int32)), I)))
set_option maxRecDepth 20000 in
theorem bo_X12_bells_20 {X : mXT} {E : mEn} {Fu : Nat} {R : mRT} {L : mLT}  (hC : mC X E mX12_bells RX12 cX12_bells) (hW : mWd R)   {out : Int32 × mIT} (hE : mEd X E 0 0 (mSame (some (.int (out.1))) 106 1 (out.2) R L)) (k4_ : Int32 × Int32 × mIT → Option (Int32 × mIT)) (hk4_ : ∀ (v1 : Int32) (v2 : Int32) (I : mIT),  k4_ (v1, v2, I) = some out → mG X E 4 [(0, .ref (mB E + 75)), (1, .int v1), (2, .int v2)] [] 106 1 I R L 0 0) (k20_ : Int32 × Int32 × Int32 × Int32 × mIT → Option (Int32 × mIT)) (hk20_ : ∀ (v1 : Int32) (v2 : Int32) (v3 : Int32) (v4 : Int32) (I : mIT),  k20_ (v1, v2, v3, v4, I) = some out → mG X E 20 [(0, .ref (mB E + 75)), (1, .int v1), (2, .int v2), (3, .int v3), (4, .int v4)] [] 106 1 I R L 0 0) (v1 : Int32) (v2 : Int32) (v3 : Int32) (v4 : Int32) (I : mIT) (h : b_X12_bells_20 Fu k4_ k20_ v1 v2 v3 v4 I = some out) : mG X E 20 [(0, .ref (mB E + 75)), (1, .int v1), (2, .int v2), (3, .int v3), (4, .int v4)] [] 106 1 I R L 0 0 := by
  unfold b_X12_bells_20 at h
  refine g_iload hC dX12_bells_20 (q := 4) rfl ?_
  refine g_aload_n hC dX12_bells_22 rfl (q := 0) rfl ?_
  refine g_geti hC fd_RX12_289 rfl (by decide) (Or.inl rfl) dX12_bells_23 ?_
  refine g_ic_ge hC dX12_bells_26 (tgt := 53) (by decide) (fun c26 => ?_) (fun c26 => ?_)
  · replace h := (if_pos c26).symm.trans h
    refine g_iload_n hC dX12_bells_53 rfl (q := 1) rfl ?_
    refine g_iload_n hC dX12_bells_54 rfl (q := 3) rfl ?_
    refine g_if_eq hC dX12_bells_55 (tgt := 62) (by decide) (fun c55 => ?_) (fun c55 => ?_)
    · replace h := (if_pos c55).symm.trans h
      refine g_iconst hC dX12_bells_62 (v := (0 : Int32)) (by decide) ?_
      refine g_iadd hC dX12_bells_63 ?_
      refine g_istore_n hC dX12_bells_64 rfl rfl (by decide) (lv' := [(1, .int (v1 + (0 : Int32))), (0, .ref (mB E + 75)), (2, .int v2), (3, .int v3), (4, .int v4)]) rfl ?_
      refine g_iinc hC dX12_bells_65 rfl (q := 2) rfl (w := (v2 + (1 : Int32))) rfl (by decide) (lv' := [(2, .int (v2 + (1 : Int32))), (1, .int (v1 + (0 : Int32))), (0, .ref (mB E + 75)), (3, .int v3), (4, .int v4)]) rfl ?_
      refine g_goto hC dX12_bells_68 (tgt := 4) (by decide) ?_
      refine g_lv [2, 1, 0] rfl ?_
      exact hk4_ (v1 + (0 : Int32)) (v2 + (1 : Int32)) I h
    · replace h := (if_neg c55).symm.trans h
      refine g_iconst hC dX12_bells_58 (v := (1 : Int32)) (by decide) ?_
      refine g_goto hC dX12_bells_59 (tgt := 63) (by decide) ?_
      refine g_iadd hC dX12_bells_63 ?_
      refine g_istore_n hC dX12_bells_64 rfl rfl (by decide) (lv' := [(1, .int (v1 + (1 : Int32))), (0, .ref (mB E + 75)), (2, .int v2), (3, .int v3), (4, .int v4)]) rfl ?_
      refine g_iinc hC dX12_bells_65 rfl (q := 2) rfl (w := (v2 + (1 : Int32))) rfl (by decide) (lv' := [(2, .int (v2 + (1 : Int32))), (1, .int (v1 + (1 : Int32))), (0, .ref (mB E + 75)), (3, .int v3), (4, .int v4)]) rfl ?_
      refine g_goto hC dX12_bells_68 (tgt := 4) (by decide) ?_
      refine g_lv [2, 1, 0] rfl ?_
      exact hk4_ (v1 + (1 : Int32)) (v2 + (1 : Int32)) I h
  · replace h := (if_neg c26).symm.trans h
    refine g_iload_n hC dX12_bells_29 rfl (q := 3) rfl ?_
    refine g_iload hC dX12_bells_30 (q := 4) rfl ?_
    refine g_ishr hC dX12_bells_32 ?_
    refine g_iconst hC dX12_bells_33 (v := (1 : Int32)) (by decide) ?_
    refine g_iand hC dX12_bells_34 ?_
    refine g_iconst hC dX12_bells_35 (v := (1 : Int32)) (by decide) ?_
    refine g_ic_ne hC dX12_bells_36 (tgt := 47) (by decide) (fun c36 => ?_) (fun c36 => ?_)
    · replace h := (if_neg c36).symm.trans h
      refine g_iinc hC dX12_bells_47 rfl (q := 4) rfl (w := (v4 + (1 : Int32))) rfl (by decide) (lv' := [(4, .int (v4 + (1 : Int32))), (0, .ref (mB E + 75)), (1, .int v1), (2, .int v2), (3, .int v3)]) rfl ?_
      refine g_goto hC dX12_bells_50 (tgt := 20) (by decide) ?_
      refine g_lv [1, 2, 3, 4, 0] rfl ?_
      exact hk20_ v1 v2 v3 (v4 + (1 : Int32)) I h
    · replace h := (if_pos c36).symm.trans h
      refine g_aload_n hC dX12_bells_39 rfl (q := 0) rfl ?_
      refine g_getr hC fd_RX12_78 rfl (by decide) (C0 := "") (t0 := _) (Or.inr rfl) (rr_75_48 hW.1) dX12_bells_40 ?_
      refine g_iload_n hC dX12_bells_43 rfl (q := 1) rfl ?_
      refine g_iload hC dX12_bells_44 (q := 4) rfl ?_
      obtain ⟨g46, h⟩ := oG_some h
      refine g_iast hC rfl (by decide) (inB_in g46) dX12_bells_46 (nm_e ?_)
      refine g_iinc hC dX12_bells_47 rfl (q := 4) rfl (w := (v4 + (1 : Int32))) rfl (by decide) (lv' := [(4, .int (v4 + (1 : Int32))), (0, .ref (mB E + 75)), (1, .int v1), (2, .int v2), (3, .int v3)]) rfl ?_
      refine g_goto hC dX12_bells_50 (tgt := 20) (by decide) ?_
      refine g_lv [1, 2, 3, 4, 0] rfl ?_
      exact hk20_ v1 v2 v3 (v4 + (1 : Int32)) (mU I 93 (v1).toNatClampNeg v4) h
noncomputable def w_X12_bells_20 (Fu : Nat) (k4_ : Int32 × Int32 × mIT → Option (Int32 × mIT)) (N : Nat) (v1 : Int32) (v2 : Int32) (v3 : Int32) (v4 : Int32) (I : mIT) : Option (Int32 × mIT) :=
  loopF (fun self (s : Int32 × Int32 × Int32 × Int32 × mIT) => b_X12_bells_20 Fu k4_ self s.1 s.2.1 s.2.2.1 s.2.2.2.1 s.2.2.2.2) N (v1, v2, v3, v4, I)
theorem wo_X12_bells_20 {X : mXT} {E : mEn} {Fu : Nat} {R : mRT} {L : mLT}  (hC : mC X E mX12_bells RX12 cX12_bells) (hW : mWd R)   {out : Int32 × mIT} (hE : mEd X E 0 0 (mSame (some (.int (out.1))) 106 1 (out.2) R L)) (k4_ : Int32 × Int32 × mIT → Option (Int32 × mIT)) (hk4_ : ∀ (v1 : Int32) (v2 : Int32) (I : mIT),  k4_ (v1, v2, I) = some out → mG X E 4 [(0, .ref (mB E + 75)), (1, .int v1), (2, .int v2)] [] 106 1 I R L 0 0) (N : Nat) (v1 : Int32) (v2 : Int32) (v3 : Int32) (v4 : Int32) (I : mIT) (h : w_X12_bells_20 Fu k4_ N v1 v2 v3 v4 I = some out) : mG X E 20 [(0, .ref (mB E + 75)), (1, .int v1), (2, .int v2), (3, .int v3), (4, .int v4)] [] 106 1 I R L 0 0 :=
  loopF_ok (Gd := fun s : Int32 × Int32 × Int32 × Int32 × mIT => mG X E 20 [(0, .ref (mB E + 75)), (1, .int s.1), (2, .int s.2.1), (3, .int s.2.2.1), (4, .int s.2.2.2.1)] [] 106 1 s.2.2.2.2 R L 0 0) (fun self hs s h => bo_X12_bells_20 hC hW hE k4_ hk4_ self (fun v1 v2 v3 v4 I h => hs (v1, v2, v3, v4, I) h) s.1 s.2.1 s.2.2.1 s.2.2.2.1 s.2.2.2.2 h) N (v1, v2, v3, v4, I) h
noncomputable def b_X12_bells_4 (Fu : Nat) (k4_ : Int32 × Int32 × mIT → Option (Int32 × mIT)) (v1 : Int32) (v2 : Int32) (I : mIT) : Option (Int32 × mIT) :=
  if (6 : Int32) ≤ v2 then (some (v1, I)) else (oB (f_X12_whereIn Fu I (0 : Int32) v2) (fun r13 => w_X12_bells_20 Fu k4_ Fu v1 v2 r13 (0 : Int32) I))
set_option maxRecDepth 20000 in
theorem bo_X12_bells_4 {X : mXT} {E : mEn} {Fu : Nat} {R : mRT} {L : mLT}  (hC : mC X E mX12_bells RX12 cX12_bells) (hW : mWd R)   {out : Int32 × mIT} (hE : mEd X E 0 0 (mSame (some (.int (out.1))) 106 1 (out.2) R L)) (k4_ : Int32 × Int32 × mIT → Option (Int32 × mIT)) (hk4_ : ∀ (v1 : Int32) (v2 : Int32) (I : mIT),  k4_ (v1, v2, I) = some out → mG X E 4 [(0, .ref (mB E + 75)), (1, .int v1), (2, .int v2)] [] 106 1 I R L 0 0) (v1 : Int32) (v2 : Int32) (I : mIT) (h : b_X12_bells_4 Fu k4_ v1 v2 I = some out) : mG X E 4 [(0, .ref (mB E + 75)), (1, .int v1), (2, .int v2)] [] 106 1 I R L 0 0 := by
  unfold b_X12_bells_4 at h
  refine g_iload_n hC dX12_bells_4 rfl (q := 2) rfl ?_
  refine g_bipush hC dX12_bells_5 (v := (6 : Int32)) (by decide) ?_
  refine g_ic_ge hC dX12_bells_7 (tgt := 71) (by decide) (fun c7 => ?_) (fun c7 => ?_)
  · replace h := (if_pos c7).symm.trans h
    refine g_iload_n hC dX12_bells_71 rfl (q := 1) rfl ?_
    cases h
    exact g_iret hC hE rfl dX12_bells_72 (Nat.zero_le _) (Nat.zero_le _) ⟨rfl, rfl, rfl, rfl, rfl, rfl⟩
  · replace h := (if_neg c7).symm.trans h
    refine g_aload_n hC dX12_bells_10 rfl (q := 0) rfl ?_
    refine g_iconst hC dX12_bells_11 (v := (0 : Int32)) (by decide) ?_
    refine g_iload_n hC dX12_bells_12 rfl (q := 2) rfl ?_
    obtain ⟨r13, h13, h⟩ := oB_some h
    refine g_cV1 hC cv_X12_whereIn wd_1988 ⟨Nat.le_of_ble_eq_true rfl, Nat.le_of_ble_eq_true rfl⟩ rfl (by decide) dX12_bells_13 (As := [.int (0 : Int32), .int v2]) (st := []) (ok_X12_whereIn hC.2.2.2.2.2.2.2.1 hW h13) rfl rfl (Nat.le_of_ble_eq_true rfl) ⟨Nat.zero_le _, Nat.zero_le _⟩ ?_
    refine g_istore_n hC dX12_bells_16 rfl rfl (by decide) (lv' := [(3, .int r13), (0, .ref (mB E + 75)), (1, .int v1), (2, .int v2)]) rfl ?_
    refine g_iconst hC dX12_bells_17 (v := (0 : Int32)) (by decide) ?_
    refine g_istore hC dX12_bells_18 rfl (by decide) (lv' := [(4, .int (0 : Int32)), (3, .int r13), (0, .ref (mB E + 75)), (1, .int v1), (2, .int v2)]) rfl ?_
    refine g_lv [2, 3, 4, 1, 0] rfl ?_
    exact wo_X12_bells_20 hC hW hE k4_ hk4_ Fu (v1) (v2) (r13) ((0 : Int32)) (I) h
noncomputable def w_X12_bells_4 (Fu : Nat)  (N : Nat) (v1 : Int32) (v2 : Int32) (I : mIT) : Option (Int32 × mIT) :=
  loopF (fun self (s : Int32 × Int32 × mIT) => b_X12_bells_4 Fu self s.1 s.2.1 s.2.2) N (v1, v2, I)
theorem wo_X12_bells_4 {X : mXT} {E : mEn} {Fu : Nat} {R : mRT} {L : mLT}  (hC : mC X E mX12_bells RX12 cX12_bells) (hW : mWd R)   {out : Int32 × mIT} (hE : mEd X E 0 0 (mSame (some (.int (out.1))) 106 1 (out.2) R L))  (N : Nat) (v1 : Int32) (v2 : Int32) (I : mIT) (h : w_X12_bells_4 Fu  N v1 v2 I = some out) : mG X E 4 [(0, .ref (mB E + 75)), (1, .int v1), (2, .int v2)] [] 106 1 I R L 0 0 :=
  loopF_ok (Gd := fun s : Int32 × Int32 × mIT => mG X E 4 [(0, .ref (mB E + 75)), (1, .int s.1), (2, .int s.2.1)] [] 106 1 s.2.2 R L 0 0) (fun self hs s h => bo_X12_bells_4 hC hW hE self (fun v1 v2 I h => hs (v1, v2, I) h) s.1 s.2.1 s.2.2 h) N (v1, v2, I) h
noncomputable def f_X12_bells (Fu : Nat) (I : mIT)  : Option (Int32 × mIT) :=
  w_X12_bells_4 Fu Fu (0 : Int32) (0 : Int32) I
set_option maxRecDepth 20000 in
theorem ok_X12_bells {l : Launch} {E : mEn} {Fu : Nat} {I : mIT} {R : mRT} {L : mLT}  (hst : l.stackTraces = false) (hW : mWd R)  {out : Int32 × mIT} (h : f_X12_bells Fu I  = some out) : mOk l E mX12_bells [.ref (mB E + 75)] 106 1 I R L 0 0 (mSame (some (.int (out.1))) 106 1 (out.2) R L) := by
  refine mOk_of hst (by decide) (Nat.le_of_ble_eq_true rfl) (fun X hC hE _ => ?_)
  have hC : mC X E mX12_bells RX12 cX12_bells := hC
  show mG X E 0 [(0, .ref (mB E + 75))] [] 106 1 I R L 0 0
  unfold f_X12_bells at h
  refine g_iconst hC dX12_bells_0 (v := (0 : Int32)) (by decide) ?_
  refine g_istore_n hC dX12_bells_1 rfl rfl (by decide) (lv' := [(1, .int (0 : Int32)), (0, .ref (mB E + 75))]) rfl ?_
  refine g_iconst hC dX12_bells_2 (v := (0 : Int32)) (by decide) ?_
  refine g_istore_n hC dX12_bells_3 rfl rfl (by decide) (lv' := [(2, .int (0 : Int32)), (1, .int (0 : Int32)), (0, .ref (mB E + 75))]) rfl ?_
  refine g_lv [2, 1, 0] rfl ?_
  exact wo_X12_bells_4 hC hW hE Fu ((0 : Int32)) ((0 : Int32)) (I) h
noncomputable def b_X12_rounds_2 (Fu : Nat) (k2_ : Int32 × mIT → Option (mIT)) (v1 : Int32) (I : mIT) : Option (mIT) :=
  if (6 : Int32) ≤ v1 then (some (I)) else (oG (inB v1 6) (k2_ ((v1 + (1 : Int32)), (mU I 95 (v1).toNatClampNeg v1))))
set_option maxRecDepth 20000 in
theorem bo_X12_rounds_2 {X : mXT} {E : mEn} {Fu : Nat} {R : mRT} {L : mLT}  (hC : mC X E mX12_rounds RX12 cX12_rounds) (hW : mWd R)   {out : mIT} (hE : mEd X E 0 0 (mSame none 106 1 (out) R L)) (k2_ : Int32 × mIT → Option (mIT)) (hk2_ : ∀ (v1 : Int32) (I : mIT),  k2_ (v1, I) = some out → mG X E 2 [(0, .ref (mB E + 75)), (1, .int v1)] [] 106 1 I R L 0 0) (v1 : Int32) (I : mIT) (h : b_X12_rounds_2 Fu k2_ v1 I = some out) : mG X E 2 [(0, .ref (mB E + 75)), (1, .int v1)] [] 106 1 I R L 0 0 := by
  unfold b_X12_rounds_2 at h
  refine g_iload_n hC dX12_rounds_2 rfl (q := 1) rfl ?_
  refine g_bipush hC dX12_rounds_3 (v := (6 : Int32)) (by decide) ?_
  refine g_ic_ge hC dX12_rounds_5 (tgt := 21) (by decide) (fun c5 => ?_) (fun c5 => ?_)
  · replace h := (if_pos c5).symm.trans h
    cases h
    exact g_vret hC hE rfl dX12_rounds_21 (Nat.zero_le _) (Nat.zero_le _) ⟨rfl, rfl, rfl, rfl, rfl, rfl⟩
  · replace h := (if_neg c5).symm.trans h
    refine g_aload_n hC dX12_rounds_8 rfl (q := 0) rfl ?_
    refine g_getr hC fd_RX12_84 rfl (by decide) (C0 := "") (t0 := _) (Or.inr rfl) (rr_75_50 hW.1) dX12_rounds_9 ?_
    refine g_iload_n hC dX12_rounds_12 rfl (q := 1) rfl ?_
    refine g_iload_n hC dX12_rounds_13 rfl (q := 1) rfl ?_
    obtain ⟨g14, h⟩ := oG_some h
    refine g_iast hC rfl (by decide) (inB_in g14) dX12_rounds_14 (nm_e ?_)
    refine g_iinc hC dX12_rounds_15 rfl (q := 1) rfl (w := (v1 + (1 : Int32))) rfl (by decide) (lv' := [(1, .int (v1 + (1 : Int32))), (0, .ref (mB E + 75))]) rfl ?_
    refine g_goto hC dX12_rounds_18 (tgt := 2) (by decide) ?_
    refine g_lv [1, 0] rfl ?_
    exact hk2_ (v1 + (1 : Int32)) (mU I 95 (v1).toNatClampNeg v1) h
noncomputable def w_X12_rounds_2 (Fu : Nat)  (N : Nat) (v1 : Int32) (I : mIT) : Option (mIT) :=
  loopF (fun self (s : Int32 × mIT) => b_X12_rounds_2 Fu self s.1 s.2) N (v1, I)
theorem wo_X12_rounds_2 {X : mXT} {E : mEn} {Fu : Nat} {R : mRT} {L : mLT}  (hC : mC X E mX12_rounds RX12 cX12_rounds) (hW : mWd R)   {out : mIT} (hE : mEd X E 0 0 (mSame none 106 1 (out) R L))  (N : Nat) (v1 : Int32) (I : mIT) (h : w_X12_rounds_2 Fu  N v1 I = some out) : mG X E 2 [(0, .ref (mB E + 75)), (1, .int v1)] [] 106 1 I R L 0 0 :=
  loopF_ok (Gd := fun s : Int32 × mIT => mG X E 2 [(0, .ref (mB E + 75)), (1, .int s.1)] [] 106 1 s.2 R L 0 0) (fun self hs s h => bo_X12_rounds_2 hC hW hE self (fun v1 I h => hs (v1, I) h) s.1 s.2 h) N (v1, I) h
noncomputable def f_X12_rounds (Fu : Nat) (I : mIT)  : Option (mIT) :=
  w_X12_rounds_2 Fu Fu (0 : Int32) I
set_option maxRecDepth 20000 in
theorem ok_X12_rounds {l : Launch} {E : mEn} {Fu : Nat} {I : mIT} {R : mRT} {L : mLT}  (hst : l.stackTraces = false) (hW : mWd R)  {out : mIT} (h : f_X12_rounds Fu I  = some out) : mOk l E mX12_rounds [.ref (mB E + 75)] 106 1 I R L 0 0 (mSame none 106 1 (out) R L) := by
  refine mOk_of hst (by decide) (Nat.le_of_ble_eq_true rfl) (fun X hC hE _ => ?_)
  have hC : mC X E mX12_rounds RX12 cX12_rounds := hC
  show mG X E 0 [(0, .ref (mB E + 75))] [] 106 1 I R L 0 0
  unfold f_X12_rounds at h
  refine g_iconst hC dX12_rounds_0 (v := (0 : Int32)) (by decide) ?_
  refine g_istore_n hC dX12_rounds_1 rfl rfl (by decide) (lv' := [(1, .int (0 : Int32)), (0, .ref (mB E + 75))]) rfl ?_
  refine g_lv [1, 0] rfl ?_
  exact wo_X12_rounds_2 hC hW hE Fu ((0 : Int32)) (I) h
noncomputable def b_X12_rings0_2 (Fu : Nat) (k2_ : Int32 × Int32 × Int32 × mIT → Option (mIT)) (v1 : Int32) (v2 : Int32) (v3 : Int32) (I : mIT) : Option (mIT) :=
  if v2 ≤ (v3 + (1 : Int32)) then (some (I)) else (if ((v1 >>> (v3 &&& 31)) &&& (1 : Int32)) = 0 then (k2_ (v1, v2, (v3 + (1 : Int32)), I)) else (oG (inB v3 6) (oG (inB (v3 + (1 : Int32)) 6) (oG (inB v3 6) (oG (inB (v3 + (1 : Int32)) 6) (k2_ (v1, v2, (v3 + (1 : Int32)), (mU (mU I 95 (v3).toNatClampNeg (I 95 ((v3 + (1 : Int32))).toNatClampNeg)) 95 ((v3 + (1 : Int32))).toNatClampNeg (I 95 (v3).toNatClampNeg)))))))))
set_option maxRecDepth 20000 in
theorem bo_X12_rings0_2 {X : mXT} {E : mEn} {Fu : Nat} {R : mRT} {L : mLT}  (hC : mC X E mX12_rings0 RX12 cX12_rings0) (hW : mWd R)   {out : mIT} (hE : mEd X E 0 0 (mSame none 106 1 (out) R L)) (k2_ : Int32 × Int32 × Int32 × mIT → Option (mIT)) (hk2_ : ∀ (v1 : Int32) (v2 : Int32) (v3 : Int32) (I : mIT),  k2_ (v1, v2, v3, I) = some out → mG X E 2 [(0, .ref (mB E + 75)), (1, .int v1), (2, .int v2), (3, .int v3)] [] 106 1 I R L 0 0) (v1 : Int32) (v2 : Int32) (v3 : Int32) (I : mIT) (h : b_X12_rings0_2 Fu k2_ v1 v2 v3 I = some out) : mG X E 2 [(0, .ref (mB E + 75)), (1, .int v1), (2, .int v2), (3, .int v3)] [] 106 1 I R L 0 0 := by
  unfold b_X12_rings0_2 at h
  refine g_iload_n hC dX12_rings0_2 rfl (q := 3) rfl ?_
  refine g_iconst hC dX12_rings0_3 (v := (1 : Int32)) (by decide) ?_
  refine g_iadd hC dX12_rings0_4 ?_
  refine g_iload_n hC dX12_rings0_5 rfl (q := 2) rfl ?_
  refine g_ic_ge hC dX12_rings0_6 (tgt := 58) (by decide) (fun c6 => ?_) (fun c6 => ?_)
  · replace h := (if_pos c6).symm.trans h
    cases h
    exact g_vret hC hE rfl dX12_rings0_58 (Nat.zero_le _) (Nat.zero_le _) ⟨rfl, rfl, rfl, rfl, rfl, rfl⟩
  · replace h := (if_neg c6).symm.trans h
    refine g_iload_n hC dX12_rings0_9 rfl (q := 1) rfl ?_
    refine g_iload_n hC dX12_rings0_10 rfl (q := 3) rfl ?_
    refine g_ishr hC dX12_rings0_11 ?_
    refine g_iconst hC dX12_rings0_12 (v := (1 : Int32)) (by decide) ?_
    refine g_iand hC dX12_rings0_13 ?_
    refine g_if_ne hC dX12_rings0_14 (tgt := 20) (by decide) (fun c14 => ?_) (fun c14 => ?_)
    · replace h := (if_neg c14).symm.trans h
      refine g_aload_n hC dX12_rings0_20 rfl (q := 0) rfl ?_
      refine g_getr hC fd_RX12_84 rfl (by decide) (C0 := "") (t0 := _) (Or.inr rfl) (rr_75_50 hW.1) dX12_rings0_21 ?_
      refine g_iload_n hC dX12_rings0_24 rfl (q := 3) rfl ?_
      obtain ⟨g25, h⟩ := oG_some h
      refine g_iald hC rfl (by decide) (inB_in g25) dX12_rings0_25 ?_
      refine g_istore hC dX12_rings0_26 rfl (by decide) (lv' := [(4, .int (I 95 (v3).toNatClampNeg)), (0, .ref (mB E + 75)), (1, .int v1), (2, .int v2), (3, .int v3)]) rfl ?_
      refine g_aload_n hC dX12_rings0_28 rfl (q := 1) rfl ?_
      refine g_getr hC fd_RX12_84 rfl (by decide) (C0 := "") (t0 := _) (Or.inr rfl) (rr_75_50 hW.1) dX12_rings0_29 ?_
      refine g_iload_n hC dX12_rings0_32 rfl (q := 4) rfl ?_
      refine g_aload_n hC dX12_rings0_33 rfl (q := 1) rfl ?_
      refine g_getr hC fd_RX12_84 rfl (by decide) (C0 := "") (t0 := _) (Or.inr rfl) (rr_75_50 hW.1) dX12_rings0_34 ?_
      refine g_iload_n hC dX12_rings0_37 rfl (q := 4) rfl ?_
      refine g_iconst hC dX12_rings0_38 (v := (1 : Int32)) (by decide) ?_
      refine g_iadd hC dX12_rings0_39 ?_
      obtain ⟨g40, h⟩ := oG_some h
      refine g_iald hC rfl (by decide) (inB_in g40) dX12_rings0_40 ?_
      obtain ⟨g41, h⟩ := oG_some h
      refine g_iast hC rfl (by decide) (inB_in g41) dX12_rings0_41 (nm_e ?_)
      refine g_aload_n hC dX12_rings0_42 rfl (q := 1) rfl ?_
      refine g_getr hC fd_RX12_84 rfl (by decide) (C0 := "") (t0 := _) (Or.inr rfl) (rr_75_50 hW.1) dX12_rings0_43 ?_
      refine g_iload_n hC dX12_rings0_46 rfl (q := 4) rfl ?_
      refine g_iconst hC dX12_rings0_47 (v := (1 : Int32)) (by decide) ?_
      refine g_iadd hC dX12_rings0_48 ?_
      refine g_iload hC dX12_rings0_49 (q := 0) rfl ?_
      obtain ⟨g51, h⟩ := oG_some h
      refine g_iast hC rfl (by decide) (inB_in g51) dX12_rings0_51 (nm_e ?_)
      refine g_iinc hC dX12_rings0_52 rfl (q := 4) rfl (w := (v3 + (1 : Int32))) rfl (by decide) (lv' := [(3, .int (v3 + (1 : Int32))), (4, .int (I 95 (v3).toNatClampNeg)), (0, .ref (mB E + 75)), (1, .int v1), (2, .int v2)]) rfl ?_
      refine g_goto hC dX12_rings0_55 (tgt := 2) (by decide) ?_
      refine g_lv [2, 3, 4, 0] rfl ?_
      exact hk2_ v1 v2 (v3 + (1 : Int32)) (mU (mU I 95 (v3).toNatClampNeg (I 95 ((v3 + (1 : Int32))).toNatClampNeg)) 95 ((v3 + (1 : Int32))).toNatClampNeg (I 95 (v3).toNatClampNeg)) h
    · replace h := (if_pos c14).symm.trans h
      refine g_goto hC dX12_rings0_17 (tgt := 52) (by decide) ?_
      refine g_iinc hC dX12_rings0_52 rfl (q := 3) rfl (w := (v3 + (1 : Int32))) rfl (by decide) (lv' := [(3, .int (v3 + (1 : Int32))), (0, .ref (mB E + 75)), (1, .int v1), (2, .int v2)]) rfl ?_
      refine g_goto hC dX12_rings0_55 (tgt := 2) (by decide) ?_
      refine g_lv [1, 2, 3, 0] rfl ?_
      exact hk2_ v1 v2 (v3 + (1 : Int32)) I h
noncomputable def w_X12_rings0_2 (Fu : Nat)  (N : Nat) (v1 : Int32) (v2 : Int32) (v3 : Int32) (I : mIT) : Option (mIT) :=
  loopF (fun self (s : Int32 × Int32 × Int32 × mIT) => b_X12_rings0_2 Fu self s.1 s.2.1 s.2.2.1 s.2.2.2) N (v1, v2, v3, I)
theorem wo_X12_rings0_2 {X : mXT} {E : mEn} {Fu : Nat} {R : mRT} {L : mLT}  (hC : mC X E mX12_rings0 RX12 cX12_rings0) (hW : mWd R)   {out : mIT} (hE : mEd X E 0 0 (mSame none 106 1 (out) R L))  (N : Nat) (v1 : Int32) (v2 : Int32) (v3 : Int32) (I : mIT) (h : w_X12_rings0_2 Fu  N v1 v2 v3 I = some out) : mG X E 2 [(0, .ref (mB E + 75)), (1, .int v1), (2, .int v2), (3, .int v3)] [] 106 1 I R L 0 0 :=
  loopF_ok (Gd := fun s : Int32 × Int32 × Int32 × mIT => mG X E 2 [(0, .ref (mB E + 75)), (1, .int s.1), (2, .int s.2.1), (3, .int s.2.2.1)] [] 106 1 s.2.2.2 R L 0 0) (fun self hs s h => bo_X12_rings0_2 hC hW hE self (fun v1 v2 v3 I h => hs (v1, v2, v3, I) h) s.1 s.2.1 s.2.2.1 s.2.2.2 h) N (v1, v2, v3, I) h
noncomputable def f_X12_rings0 (Fu : Nat) (I : mIT) (v1 : Int32) (v2 : Int32) : Option (mIT) :=
  w_X12_rings0_2 Fu Fu v1 v2 (0 : Int32) I
set_option maxRecDepth 20000 in
theorem ok_X12_rings0 {l : Launch} {E : mEn} {Fu : Nat} {I : mIT} {R : mRT} {L : mLT} {v1 : Int32} {v2 : Int32} (hst : l.stackTraces = false) (hW : mWd R)  {out : mIT} (h : f_X12_rings0 Fu I v1 v2 = some out) : mOk l E mX12_rings0 [.ref (mB E + 75), .int v1, .int v2] 106 1 I R L 0 0 (mSame none 106 1 (out) R L) := by
  refine mOk_of hst (by decide) (Nat.le_of_ble_eq_true rfl) (fun X hC hE _ => ?_)
  have hC : mC X E mX12_rings0 RX12 cX12_rings0 := hC
  show mG X E 0 [(0, .ref (mB E + 75)), (1, .int v1), (2, .int v2)] [] 106 1 I R L 0 0
  unfold f_X12_rings0 at h
  refine g_iconst hC dX12_rings0_0 (v := (0 : Int32)) (by decide) ?_
  refine g_istore_n hC dX12_rings0_1 rfl rfl (by decide) (lv' := [(3, .int (0 : Int32)), (0, .ref (mB E + 75)), (1, .int v1), (2, .int v2)]) rfl ?_
  refine g_lv [1, 2, 3, 0] rfl ?_
  exact wo_X12_rings0_2 hC hW hE Fu (v1) (v2) ((0 : Int32)) (I) h
noncomputable def b_X12_ringsMany_11 (Fu : Nat) (k11_ : Int32 × Int32 × Int32 × mIT → Option (Int32 × mIT)) (v1 : Int32) (v2 : Int32) (v3 : Int32) (I : mIT) : Option (Int32 × mIT) :=
  if v1 ≤ v3 then (some (v2, I)) else (oG ((I 75 5) != 0) (oG (inB ((41 : Int32) + (v3 - v3 / (I 75 5) * (I 75 5))) 106) (oB (f_X12_rings0 Fu I (I 89 (((41 : Int32) + (v3 - v3 / (I 75 5) * (I 75 5)))).toNatClampNeg) v2) (fun r32 => k11_ (v1, v2, (v3 + (1 : Int32)), r32)))))
set_option maxRecDepth 20000 in
theorem bo_X12_ringsMany_11 {X : mXT} {E : mEn} {Fu : Nat} {R : mRT} {L : mLT}  (hC : mC X E mX12_ringsMany RX12 cX12_ringsMany) (hW : mWd R)   {out : Int32 × mIT} (hE : mEd X E 0 0 (mSame (some (.int (out.1))) 106 1 (out.2) R L)) (k11_ : Int32 × Int32 × Int32 × mIT → Option (Int32 × mIT)) (hk11_ : ∀ (v1 : Int32) (v2 : Int32) (v3 : Int32) (I : mIT),  k11_ (v1, v2, v3, I) = some out → mG X E 11 [(0, .ref (mB E + 75)), (1, .int v1), (2, .int v2), (3, .int v3)] [] 106 1 I R L 0 0) (v1 : Int32) (v2 : Int32) (v3 : Int32) (I : mIT) (h : b_X12_ringsMany_11 Fu k11_ v1 v2 v3 I = some out) : mG X E 11 [(0, .ref (mB E + 75)), (1, .int v1), (2, .int v2), (3, .int v3)] [] 106 1 I R L 0 0 := by
  unfold b_X12_ringsMany_11 at h
  refine g_iload_n hC dX12_ringsMany_11 rfl (q := 3) rfl ?_
  refine g_iload_n hC dX12_ringsMany_12 rfl (q := 1) rfl ?_
  refine g_ic_ge hC dX12_ringsMany_13 (tgt := 41) (by decide) (fun c13 => ?_) (fun c13 => ?_)
  · replace h := (if_pos c13).symm.trans h
    refine g_iload_n hC dX12_ringsMany_41 rfl (q := 2) rfl ?_
    cases h
    exact g_iret hC hE rfl dX12_ringsMany_42 (Nat.zero_le _) (Nat.zero_le _) ⟨rfl, rfl, rfl, rfl, rfl, rfl⟩
  · replace h := (if_neg c13).symm.trans h
    refine g_aload_n hC dX12_ringsMany_16 rfl (q := 0) rfl ?_
    refine g_aload_n hC dX12_ringsMany_17 rfl (q := 0) rfl ?_
    refine g_getr hC fd_RX12_63 rfl (by decide) (C0 := "") (t0 := _) (Or.inr rfl) (rr_75_42 hW.1) dX12_ringsMany_18 ?_
    refine g_bipush hC dX12_ringsMany_21 (v := (41 : Int32)) (by decide) ?_
    refine g_iload_n hC dX12_ringsMany_23 rfl (q := 3) rfl ?_
    refine g_aload_n hC dX12_ringsMany_24 rfl (q := 0) rfl ?_
    refine g_geti hC fd_RX12_298 rfl (by decide) (Or.inl rfl) dX12_ringsMany_25 ?_
    obtain ⟨g28, h⟩ := oG_some h
    refine g_irem hC dX12_ringsMany_28 (mNz g28) ?_
    refine g_iadd hC dX12_ringsMany_29 ?_
    obtain ⟨g30, h⟩ := oG_some h
    refine g_iald hC rfl (by decide) (inB_in g30) dX12_ringsMany_30 ?_
    refine g_iload_n hC dX12_ringsMany_31 rfl (q := 2) rfl ?_
    obtain ⟨r32, h32, h⟩ := oB_some h
    refine g_cV0 hC cv_X12_rings0 wd_2162 ⟨Nat.le_of_ble_eq_true rfl, Nat.le_of_ble_eq_true rfl⟩ rfl (by decide) dX12_ringsMany_32 (As := [.int (I 89 (((41 : Int32) + (v3 - v3 / (I 75 5) * (I 75 5)))).toNatClampNeg), .int v2]) (st := []) (ok_X12_rings0 hC.2.2.2.2.2.2.2.1 hW h32) rfl rfl (Nat.le_of_ble_eq_true rfl) ⟨Nat.zero_le _, Nat.zero_le _⟩ ?_
    refine g_iinc hC dX12_ringsMany_35 rfl (q := 3) rfl (w := (v3 + (1 : Int32))) rfl (by decide) (lv' := [(3, .int (v3 + (1 : Int32))), (0, .ref (mB E + 75)), (1, .int v1), (2, .int v2)]) rfl ?_
    refine g_goto hC dX12_ringsMany_38 (tgt := 11) (by decide) ?_
    refine g_lv [1, 2, 3, 0] rfl ?_
    exact hk11_ v1 v2 (v3 + (1 : Int32)) r32 h
noncomputable def w_X12_ringsMany_11 (Fu : Nat)  (N : Nat) (v1 : Int32) (v2 : Int32) (v3 : Int32) (I : mIT) : Option (Int32 × mIT) :=
  loopF (fun self (s : Int32 × Int32 × Int32 × mIT) => b_X12_ringsMany_11 Fu self s.1 s.2.1 s.2.2.1 s.2.2.2) N (v1, v2, v3, I)
theorem wo_X12_ringsMany_11 {X : mXT} {E : mEn} {Fu : Nat} {R : mRT} {L : mLT}  (hC : mC X E mX12_ringsMany RX12 cX12_ringsMany) (hW : mWd R)   {out : Int32 × mIT} (hE : mEd X E 0 0 (mSame (some (.int (out.1))) 106 1 (out.2) R L))  (N : Nat) (v1 : Int32) (v2 : Int32) (v3 : Int32) (I : mIT) (h : w_X12_ringsMany_11 Fu  N v1 v2 v3 I = some out) : mG X E 11 [(0, .ref (mB E + 75)), (1, .int v1), (2, .int v2), (3, .int v3)] [] 106 1 I R L 0 0 :=
  loopF_ok (Gd := fun s : Int32 × Int32 × Int32 × mIT => mG X E 11 [(0, .ref (mB E + 75)), (1, .int s.1), (2, .int s.2.1), (3, .int s.2.2.1)] [] 106 1 s.2.2.2 R L 0 0) (fun self hs s h => bo_X12_ringsMany_11 hC hW hE self (fun v1 v2 v3 I h => hs (v1, v2, v3, I) h) s.1 s.2.1 s.2.2.1 s.2.2.2 h) N (v1, v2, v3, I) h
noncomputable def f_X12_ringsMany (Fu : Nat) (I : mIT) (v1 : Int32) : Option (Int32 × mIT) :=
  oB (f_X12_bells Fu I) (fun r1 => oB (f_X12_rounds Fu r1.2) (fun r6 => w_X12_ringsMany_11 Fu Fu v1 r1.1 (0 : Int32) r6))
set_option maxRecDepth 20000 in
theorem ok_X12_ringsMany {l : Launch} {E : mEn} {Fu : Nat} {I : mIT} {R : mRT} {L : mLT} {v1 : Int32} (hst : l.stackTraces = false) (hW : mWd R)  {out : Int32 × mIT} (h : f_X12_ringsMany Fu I v1 = some out) : mOk l E mX12_ringsMany [.ref (mB E + 75), .int v1] 106 1 I R L 0 0 (mSame (some (.int (out.1))) 106 1 (out.2) R L) := by
  refine mOk_of hst (by decide) (Nat.le_of_ble_eq_true rfl) (fun X hC hE _ => ?_)
  have hC : mC X E mX12_ringsMany RX12 cX12_ringsMany := hC
  show mG X E 0 [(0, .ref (mB E + 75)), (1, .int v1)] [] 106 1 I R L 0 0
  unfold f_X12_ringsMany at h
  refine g_aload_n hC dX12_ringsMany_0 rfl (q := 0) rfl ?_
  obtain ⟨r1, h1, h⟩ := oB_some h
  refine g_cV1 hC cv_X12_bells wd_1984 ⟨Nat.le_of_ble_eq_true rfl, Nat.le_of_ble_eq_true rfl⟩ rfl (by decide) dX12_ringsMany_1 (As := []) (st := []) (ok_X12_bells hC.2.2.2.2.2.2.2.1 hW h1) rfl rfl (Nat.le_of_ble_eq_true rfl) ⟨Nat.zero_le _, Nat.zero_le _⟩ ?_
  refine g_istore_n hC dX12_ringsMany_4 rfl rfl (by decide) (lv' := [(2, .int r1.1), (0, .ref (mB E + 75)), (1, .int v1)]) rfl ?_
  refine g_aload_n hC dX12_ringsMany_5 rfl (q := 1) rfl ?_
  obtain ⟨r6, h6, h⟩ := oB_some h
  refine g_cV0 hC cv_X12_rounds wd_2158 ⟨Nat.le_of_ble_eq_true rfl, Nat.le_of_ble_eq_true rfl⟩ rfl (by decide) dX12_ringsMany_6 (As := []) (st := []) (ok_X12_rounds hC.2.2.2.2.2.2.2.1 hW h6) rfl rfl (Nat.le_of_ble_eq_true rfl) ⟨Nat.zero_le _, Nat.zero_le _⟩ ?_
  refine g_iconst hC dX12_ringsMany_9 (v := (0 : Int32)) (by decide) ?_
  refine g_istore_n hC dX12_ringsMany_10 rfl rfl (by decide) (lv' := [(3, .int (0 : Int32)), (2, .int r1.1), (0, .ref (mB E + 75)), (1, .int v1)]) rfl ?_
  refine g_lv [2, 3, 1, 0] rfl ?_
  exact wo_X12_ringsMany_11 hC hW hE Fu (v1) (r1.1) ((0 : Int32)) (r6) h
