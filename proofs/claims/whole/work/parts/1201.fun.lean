noncomputable def f_X11_checkChange (Fu : Nat) (R : mRT) (I : mIT) (v1 : Int32) : Option ((Unit) ⊕ (Nat × mIT)) :=
  if v1 < 0 then (some (.inr (1, I))) else (oB (R 0 3) (fun p6 => if v1 < (I p6 8) then (some (.inl ())) else (some (.inr (1, I)))))
set_option maxRecDepth 20000 in
theorem oy_X11_checkChange {l : Launch} {E : mEn} {Fu : Nat} {I : mIT} {R : mRT} {L : mLT} {v1 : Int32} (hst : l.stackTraces = false) (hW : mWd R)  {out : (Unit) ⊕ (Nat × mIT)} (h : f_X11_checkChange Fu R I v1 = some out) {mc ms : Nat} {post : Option Value → Nat → Nat → mIT → mRT → mLT → Prop} {px : String → Nat → Nat → mIT → mRT → mLT → Prop} (ho : Sum.elim (fun o : Unit => post none 106 1 I R L) (fun q : Nat × mIT => 1 ≤ mc ∧ 6 ≤ ms ∧ px (xNm q.1) 106 1 q.2 R L) out) : mOx l E mX11_checkChange [.ref (mB E + 0), .int v1] 106 1 I R L mc ms post px := by
  refine mOx_of hst (by decide) (Nat.le_of_ble_eq_true rfl) (fun X hC hE0 _ => ?_)
  have hE : mEx X E mc ms post px ∧ Sum.elim (fun o : Unit => post none 106 1 I R L) (fun q : Nat × mIT => 1 ≤ mc ∧ 6 ≤ ms ∧ px (xNm q.1) 106 1 q.2 R L) out := ⟨hE0, ho⟩
  have hC : mC X E mX11_checkChange RX11 cX11_checkChange := hC
  show mG X E 0 [(0, .ref (mB E + 0)), (1, .int v1)] [] 106 1 I R L 0 0
  unfold f_X11_checkChange at h
  refine g_iload_n hC dX11_checkChange_0 rfl (q := 1) rfl ?_
  refine g_if_lt hC dX11_checkChange_1 (tgt := 15) (by decide) (fun c1 => ?_) (fun c1 => ?_)
  · replace h := (if_pos c1).symm.trans h
    cases h
    have hq : 1 ≤ mc ∧ 6 ≤ ms ∧ px (xNm 1) 106 1 I R L := hE.2
    exact g_thrw hC hE.1 tw_RX11_180 (j := 25) rfl dX11_checkChange_15 dX11_checkChange_18 dX11_checkChange_19 dX11_checkChange_22 dX11_checkChange_25 (Nat.le_of_ble_eq_true rfl) (Nat.le_of_ble_eq_true rfl) (by decide) hq.1 hq.2.1 hq.2.2
  · replace h := (if_neg c1).symm.trans h
    refine g_iload_n hC dX11_checkChange_4 rfl (q := 1) rfl ?_
    refine g_aload_n hC dX11_checkChange_5 rfl (q := 0) rfl ?_
    obtain ⟨p6, e6, h⟩ := oB_some h
    have hp6 : mO5 R p6 := ob5 hW.1 (hW.2.1 p6 e6)
    refine g_getr hC fd_RX11_27 rfl (by decide) (C0 := _) (t0 := .int) (Or.inl rfl) e6 dX11_checkChange_6 ?_
    refine g_geti hC fd_RX11_163 hp6.2.1 hp6.1 (Or.inl rfl) dX11_checkChange_9 ?_
    refine g_ic_lt hC dX11_checkChange_12 (tgt := 26) (by decide) (fun c12 => ?_) (fun c12 => ?_)
    · replace h := (if_pos c12).symm.trans h
      cases h
      exact g_xvret hC hE.1 rfl dX11_checkChange_26 (Nat.zero_le _) (Nat.zero_le _) hE.2
    · replace h := (if_neg c12).symm.trans h
      cases h
      have hq : 1 ≤ mc ∧ 6 ≤ ms ∧ px (xNm 1) 106 1 I R L := hE.2
      exact g_thrw hC hE.1 tw_RX11_180 (j := 25) rfl dX11_checkChange_15 dX11_checkChange_18 dX11_checkChange_19 dX11_checkChange_22 dX11_checkChange_25 (Nat.le_of_ble_eq_true rfl) (Nat.le_of_ble_eq_true rfl) (by decide) hq.1 hq.2.1 hq.2.2
theorem oi_X11_checkChange {l : Launch} {E : mEn} {Fu : Nat} {I : mIT} {R : mRT} {L : mLT} {v1 : Int32} (hst : l.stackTraces = false) (hW : mWd R)  {out : Unit} (h : f_X11_checkChange Fu R I v1 = some (.inl out)) : mOx l E mX11_checkChange [.ref (mB E + 0), .int v1] 106 1 I R L 0 0 (mSame none 106 1 I R L) (fun _ _ _ _ _ _ => False) := oy_X11_checkChange hst hW h ⟨rfl, rfl, rfl, rfl, rfl, rfl⟩
theorem ox_X11_checkChange {l : Launch} {E : mEn} {Fu : Nat} {I : mIT} {R : mRT} {L : mLT} {v1 : Int32} (hst : l.stackTraces = false) (hW : mWd R)  {q : Nat × mIT} (h : f_X11_checkChange Fu R I v1 = some (.inr q)) : mOx l E mX11_checkChange [.ref (mB E + 0), .int v1] 106 1 I R L 1 6 (fun _ _ _ _ _ _ => False) (mXp q.1 106 1 q.2 R L) := oy_X11_checkChange hst hW h ⟨Nat.le_refl _, Nat.le_refl _, rfl, rfl, rfl, rfl, rfl, rfl⟩
noncomputable def f_X11_isChangeNumber (Fu : Nat)  (v0 : Int32) : Option (Int32) :=
  if v0 < 0 then (some (0 : Int32)) else (if (32 : Int32) ≤ v0 then (some (0 : Int32)) else (if (v0 &&& (v0 >>> ((1 : Int32) &&& 31))) = 0 then (some (1 : Int32)) else (some (0 : Int32))))
set_option maxRecDepth 20000 in
theorem ok_X11_isChangeNumber {l : Launch} {E : mEn} {Fu : Nat} {I : mIT} {R : mRT} {L : mLT} {v0 : Int32} (hst : l.stackTraces = false)  {out : Int32} (h : f_X11_isChangeNumber Fu  v0 = some out) : mOk l E mX11_isChangeNumber [.int v0] 106 1 I R L 0 0 (mSame (some (.int (out))) 106 1 I R L) := by
  refine mOk_of hst (by decide) (Nat.le_of_ble_eq_true rfl) (fun X hC hE _ => ?_)
  have hC : mC X E mX11_isChangeNumber RX11 cX11_isChangeNumber := hC
  show mG X E 0 [(0, .int v0)] [] 106 1 I R L 0 0
  unfold f_X11_isChangeNumber at h
  refine g_iload_n hC dX11_isChangeNumber_0 rfl (q := 0) rfl ?_
  refine g_if_lt hC dX11_isChangeNumber_1 (tgt := 22) (by decide) (fun c1 => ?_) (fun c1 => ?_)
  · replace h := (if_pos c1).symm.trans h
    refine g_iconst hC dX11_isChangeNumber_22 (v := (0 : Int32)) (by decide) ?_
    cases h
    exact g_zret hC (by decide) hE rfl dX11_isChangeNumber_23 (Nat.zero_le _) (Nat.zero_le _) ⟨rfl, rfl, rfl, rfl, rfl, rfl⟩
  · replace h := (if_neg c1).symm.trans h
    refine g_iload_n hC dX11_isChangeNumber_4 rfl (q := 0) rfl ?_
    refine g_bipush hC dX11_isChangeNumber_5 (v := (32 : Int32)) (by decide) ?_
    refine g_ic_ge hC dX11_isChangeNumber_7 (tgt := 22) (by decide) (fun c7 => ?_) (fun c7 => ?_)
    · replace h := (if_pos c7).symm.trans h
      refine g_iconst hC dX11_isChangeNumber_22 (v := (0 : Int32)) (by decide) ?_
      cases h
      exact g_zret hC (by decide) hE rfl dX11_isChangeNumber_23 (Nat.zero_le _) (Nat.zero_le _) ⟨rfl, rfl, rfl, rfl, rfl, rfl⟩
    · replace h := (if_neg c7).symm.trans h
      refine g_iload_n hC dX11_isChangeNumber_10 rfl (q := 0) rfl ?_
      refine g_iload_n hC dX11_isChangeNumber_11 rfl (q := 0) rfl ?_
      refine g_iconst hC dX11_isChangeNumber_12 (v := (1 : Int32)) (by decide) ?_
      refine g_ishr hC dX11_isChangeNumber_13 ?_
      refine g_iand hC dX11_isChangeNumber_14 ?_
      refine g_if_ne hC dX11_isChangeNumber_15 (tgt := 22) (by decide) (fun c15 => ?_) (fun c15 => ?_)
      · replace h := (if_neg c15).symm.trans h
        refine g_iconst hC dX11_isChangeNumber_22 (v := (0 : Int32)) (by decide) ?_
        cases h
        exact g_zret hC (by decide) hE rfl dX11_isChangeNumber_23 (Nat.zero_le _) (Nat.zero_le _) ⟨rfl, rfl, rfl, rfl, rfl, rfl⟩
      · replace h := (if_pos c15).symm.trans h
        refine g_iconst hC dX11_isChangeNumber_18 (v := (1 : Int32)) (by decide) ?_
        refine g_goto hC dX11_isChangeNumber_19 (tgt := 23) (by decide) ?_
        cases h
        exact g_zret hC (by decide) hE rfl dX11_isChangeNumber_23 (Nat.zero_le _) (Nat.zero_le _) ⟨rfl, rfl, rfl, rfl, rfl, rfl⟩
noncomputable def f_X11_refuseAct (Fu : Nat) (I : mIT) (v1 : Int32) : Option (Int32 × mIT) :=
  oG (inB (1 : Int32) 3) (oG (inB (1 : Int32) 3) (some (v1, (mU I 21 ((1 : Int32)).toNatClampNeg ((I 21 ((1 : Int32)).toNatClampNeg) + (1 : Int32))))))
set_option maxRecDepth 20000 in
theorem ok_X11_refuseAct {l : Launch} {E : mEn} {Fu : Nat} {I : mIT} {R : mRT} {L : mLT} {v1 : Int32} (hst : l.stackTraces = false) (hW : mWd R)  {out : Int32 × mIT} (h : f_X11_refuseAct Fu I v1 = some out) : mOk l E mX11_refuseAct [.ref (mB E + 0), .int v1] 106 1 I R L 0 0 (mSame (some (.int (out.1))) 106 1 (out.2) R L) := by
  refine mOk_of hst (by decide) (Nat.le_of_ble_eq_true rfl) (fun X hC hE _ => ?_)
  have hC : mC X E mX11_refuseAct RX11 cX11_refuseAct := hC
  show mG X E 0 [(0, .ref (mB E + 0)), (1, .int v1)] [] 106 1 I R L 0 0
  unfold f_X11_refuseAct at h
  refine g_aload_n hC dX11_refuseAct_0 rfl (q := 0) rfl ?_
  refine g_getr hC fd_RX11_20 rfl (by decide) (C0 := "") (t0 := _) (Or.inr rfl) (rr_0_2 hW.1) dX11_refuseAct_1 ?_
  refine g_iconst hC dX11_refuseAct_4 (v := (1 : Int32)) (by decide) ?_
  refine g_dup2 hC dX11_refuseAct_5 rfl rfl ?_
  obtain ⟨g6, h⟩ := oG_some h
  refine g_iald hC rfl (by decide) (inB_in g6) dX11_refuseAct_6 ?_
  refine g_iconst hC dX11_refuseAct_7 (v := (1 : Int32)) (by decide) ?_
  refine g_iadd hC dX11_refuseAct_8 ?_
  obtain ⟨g9, h⟩ := oG_some h
  refine g_iast hC rfl (by decide) (inB_in g9) dX11_refuseAct_9 (nm_e ?_)
  refine g_iload_n hC dX11_refuseAct_10 rfl (q := 1) rfl ?_
  cases h
  exact g_iret hC hE rfl dX11_refuseAct_11 (Nat.zero_le _) (Nat.zero_le _) ⟨rfl, rfl, rfl, rfl, rfl, rfl⟩
noncomputable def f_X9_changeAt (Fu : Nat) (I : mIT) (k0 : Nat) (v1 : Int32) : Option (Int32) :=
  oB (f_X9_cell Fu I k0 (41 : Int32) v1) (fun r4 => some (r4))
set_option maxRecDepth 20000 in
theorem ok_X9_changeAt {l : Launch} {E : mEn} {Fu : Nat} {I : mIT} {R : mRT} {L : mLT} {k0 : Nat} {v1 : Int32} (hst : l.stackTraces = false) (hk0 : mO9 R k0) {out : Int32} (h : f_X9_changeAt Fu I k0 v1 = some out) : mOk l E mX9_changeAt [.ref (mB E + k0), .int v1] 106 1 I R L 0 0 (mSame (some (.int (out))) 106 1 I R L) := by
  refine mOk_of hst (by decide) (Nat.le_of_ble_eq_true rfl) (fun X hC hE _ => ?_)
  have hC : mC X E mX9_changeAt RX9 cX9_changeAt := hC
  show mG X E 0 [(0, .ref (mB E + k0)), (1, .int v1)] [] 106 1 I R L 0 0
  unfold f_X9_changeAt at h
  refine g_aload_n hC dX9_changeAt_0 rfl (q := 0) rfl ?_
  refine g_bipush hC dX9_changeAt_1 (v := (41 : Int32)) (by decide) ?_
  refine g_iload_n hC dX9_changeAt_3 rfl (q := 1) rfl ?_
  obtain ⟨r4, h4, h⟩ := oB_some h
  refine g_cV1 hC cv_X9_cell wd_543 ⟨Nat.le_of_ble_eq_true rfl, Nat.le_of_ble_eq_true rfl⟩ hk0.2.1 hk0.1 dX9_changeAt_4 (As := [.int (41 : Int32), .int v1]) (st := []) (ok_X9_cell hC.2.2.2.2.2.2.2.1 hk0 h4) rfl rfl (Nat.le_of_ble_eq_true rfl) ⟨Nat.zero_le _, Nat.zero_le _⟩ ?_
  cases h
  exact g_iret hC hE rfl dX9_changeAt_7 (Nat.zero_le _) (Nat.zero_le _) ⟨rfl, rfl, rfl, rfl, rfl, rfl⟩
noncomputable def f_X1_clear (Fu : Nat) (I : mIT)  : Option (mIT) :=
  some (mU I 56 4 (0 : Int32))
set_option maxRecDepth 20000 in
theorem ok_X1_clear {l : Launch} {E : mEn} {Fu : Nat} {I : mIT} {R : mRT} {L : mLT}  (hst : l.stackTraces = false) (hW : mWd R)  {out : mIT} (h : f_X1_clear Fu I  = some out) : mOk l E mX1_clear [.ref (mB E + 56)] 106 1 I R L 0 0 (mSame none 106 1 (out) R L) := by
  refine mOk_of hst (by decide) (Nat.le_of_ble_eq_true rfl) (fun X hC hE _ => ?_)
  have hC : mC X E mX1_clear RX1 cX1_clear := hC
  show mG X E 0 [(0, .ref (mB E + 56))] [] 106 1 I R L 0 0
  unfold f_X1_clear at h
  refine g_aload_n hC dX1_clear_0 rfl (q := 0) rfl ?_
  refine g_iconst hC dX1_clear_1 (v := (0 : Int32)) (by decide) ?_
  refine g_puti hC fd_RX1_28 rfl (by decide) rfl dX1_clear_2 (nm_e ?_)
  cases h
  exact g_vret hC hE rfl dX1_clear_5 (Nat.zero_le _) (Nat.zero_le _) ⟨rfl, rfl, rfl, rfl, rfl, rfl⟩
noncomputable def f_X2_clear (Fu : Nat) (I : mIT)  : Option (mIT) :=
  some (mU I 66 4 (0 : Int32))
set_option maxRecDepth 20000 in
theorem ok_X2_clear {l : Launch} {E : mEn} {Fu : Nat} {I : mIT} {R : mRT} {L : mLT}  (hst : l.stackTraces = false) (hW : mWd R)  {out : mIT} (h : f_X2_clear Fu I  = some out) : mOk l E mX2_clear [.ref (mB E + 66)] 106 1 I R L 0 0 (mSame none 106 1 (out) R L) := by
  refine mOk_of hst (by decide) (Nat.le_of_ble_eq_true rfl) (fun X hC hE _ => ?_)
  have hC : mC X E mX2_clear RX2 cX2_clear := hC
  show mG X E 0 [(0, .ref (mB E + 66))] [] 106 1 I R L 0 0
  unfold f_X2_clear at h
  refine g_aload_n hC dX2_clear_0 rfl (q := 0) rfl ?_
  refine g_iconst hC dX2_clear_1 (v := (0 : Int32)) (by decide) ?_
  refine g_putz hC (by decide) fd_RX2_25 rfl (by decide) rfl dX2_clear_2 (nm_e ?_)
  cases h
  exact g_vret hC hE rfl dX2_clear_5 (Nat.zero_le _) (Nat.zero_le _) ⟨rfl, rfl, rfl, rfl, rfl, rfl⟩
noncomputable def f_X11_forgetWork (Fu : Nat) (I : mIT)  : Option (mIT) :=
  oB (f_X1_clear Fu I) (fun r4 => oB (f_X2_clear Fu r4) (fun r11 => some (r11)))
set_option maxRecDepth 20000 in
theorem ok_X11_forgetWork {l : Launch} {E : mEn} {Fu : Nat} {I : mIT} {R : mRT} {L : mLT}  (hst : l.stackTraces = false) (hW : mWd R)  {out : mIT} (h : f_X11_forgetWork Fu I  = some out) : mOk l E mX11_forgetWork [.ref (mB E + 0)] 106 1 I R L 0 0 (mSame none 106 1 (out) R L) := by
  refine mOk_of hst (by decide) (Nat.le_of_ble_eq_true rfl) (fun X hC hE _ => ?_)
  have hC : mC X E mX11_forgetWork RX11 cX11_forgetWork := hC
  show mG X E 0 [(0, .ref (mB E + 0))] [] 106 1 I R L 0 0
  unfold f_X11_forgetWork at h
  refine g_aload_n hC dX11_forgetWork_0 rfl (q := 0) rfl ?_
  refine g_getr hC fd_RX11_68 rfl (by decide) (C0 := _) (t0 := .int) (Or.inl rfl) (rr_0_11 hW.1) dX11_forgetWork_1 ?_
  obtain ⟨r4, h4, h⟩ := oB_some h
  refine g_cV0 hC cv_X1_clear wd_570 ⟨Nat.le_of_ble_eq_true rfl, Nat.le_of_ble_eq_true rfl⟩ rfl (by decide) dX11_forgetWork_4 (As := []) (st := []) (ok_X1_clear hC.2.2.2.2.2.2.2.1 hW h4) rfl rfl (Nat.le_of_ble_eq_true rfl) ⟨Nat.zero_le _, Nat.zero_le _⟩ ?_
  refine g_aload_n hC dX11_forgetWork_7 rfl (q := 0) rfl ?_
  refine g_getr hC fd_RX11_82 rfl (by decide) (C0 := _) (t0 := .int) (Or.inl rfl) (rr_0_13 hW.1) dX11_forgetWork_8 ?_
  obtain ⟨r11, h11, h⟩ := oB_some h
  refine g_cV0 hC cv_X2_clear wd_574 ⟨Nat.le_of_ble_eq_true rfl, Nat.le_of_ble_eq_true rfl⟩ rfl (by decide) dX11_forgetWork_11 (As := []) (st := []) (ok_X2_clear hC.2.2.2.2.2.2.2.1 hW h11) rfl rfl (Nat.le_of_ble_eq_true rfl) ⟨Nat.zero_le _, Nat.zero_le _⟩ ?_
  cases h
  exact g_vret hC hE rfl dX11_forgetWork_14 (Nat.zero_le _) (Nat.zero_le _) ⟨rfl, rfl, rfl, rfl, rfl, rfl⟩
noncomputable def f_X11_beginAct (Fu : Nat) (I : mIT)  : Option (mIT) :=
  oB (f_X0_keep Fu I 42 40) (fun r8 => oB (f_X11_forgetWork Fu r8) (fun r12 => some (r12)))
set_option maxRecDepth 20000 in
theorem ok_X11_beginAct {l : Launch} {E : mEn} {Fu : Nat} {I : mIT} {R : mRT} {L : mLT}  (hst : l.stackTraces = false) (hW : mWd R)  {out : mIT} (h : f_X11_beginAct Fu I  = some out) : mOk l E mX11_beginAct [.ref (mB E + 0)] 106 1 I R L 0 0 (mSame none 106 1 (out) R L) := by
  refine mOk_of hst (by decide) (Nat.le_of_ble_eq_true rfl) (fun X hC hE _ => ?_)
  have hC : mC X E mX11_beginAct RX11 cX11_beginAct := hC
  show mG X E 0 [(0, .ref (mB E + 0))] [] 106 1 I R L 0 0
  unfold f_X11_beginAct at h
  refine g_aload_n hC dX11_beginAct_0 rfl (q := 0) rfl ?_
  refine g_getr hC fd_RX11_41 rfl (by decide) (C0 := _) (t0 := .int) (Or.inl rfl) (rr_0_5 hW.1) dX11_beginAct_1 ?_
  refine g_aload_n hC dX11_beginAct_4 rfl (q := 0) rfl ?_
  refine g_getr hC fd_RX11_34 rfl (by decide) (C0 := _) (t0 := .int) (Or.inl rfl) (rr_0_4 hW.1) dX11_beginAct_5 ?_
  obtain ⟨r8, h8, h⟩ := oB_some h
  refine g_cV0 hC cv_X0_keep wd_555 ⟨Nat.le_of_ble_eq_true rfl, Nat.le_of_ble_eq_true rfl⟩ rfl (by decide) dX11_beginAct_8 (As := [.ref (mB E + 40)]) (st := []) (ok_X0_keep hC.2.2.2.2.2.2.2.1 (ob_42 hW.1) (ob_40 hW.1) h8) rfl rfl (Nat.le_of_ble_eq_true rfl) ⟨Nat.zero_le _, Nat.zero_le _⟩ ?_
  refine g_aload_n hC dX11_beginAct_11 rfl (q := 0) rfl ?_
  obtain ⟨r12, h12, h⟩ := oB_some h
  refine g_cV0 hC cv_X11_forgetWork wd_566 ⟨Nat.le_of_ble_eq_true rfl, Nat.le_of_ble_eq_true rfl⟩ rfl (by decide) dX11_beginAct_12 (As := []) (st := []) (ok_X11_forgetWork hC.2.2.2.2.2.2.2.1 hW h12) rfl rfl (Nat.le_of_ble_eq_true rfl) ⟨Nat.zero_le _, Nat.zero_le _⟩ ?_
  cases h
  exact g_vret hC hE rfl dX11_beginAct_15 (Nat.zero_le _) (Nat.zero_le _) ⟨rfl, rfl, rfl, rfl, rfl, rfl⟩
noncomputable def f_X9_setChange (Fu : Nat) (I : mIT) (k0 : Nat) (v1 : Int32) (v2 : Int32) : Option (mIT) :=
  oB (f_X9_setCell Fu I k0 (41 : Int32) v1 v2) (fun r5 => some (r5))
set_option maxRecDepth 20000 in
theorem ok_X9_setChange {l : Launch} {E : mEn} {Fu : Nat} {I : mIT} {R : mRT} {L : mLT} {k0 : Nat} {v1 : Int32} {v2 : Int32} (hst : l.stackTraces = false) (hk0 : mO9 R k0) {out : mIT} (h : f_X9_setChange Fu I k0 v1 v2 = some out) : mOk l E mX9_setChange [.ref (mB E + k0), .int v1, .int v2] 106 1 I R L 0 0 (mSame none 106 1 (out) R L) := by
  refine mOk_of hst (by decide) (Nat.le_of_ble_eq_true rfl) (fun X hC hE _ => ?_)
  have hC : mC X E mX9_setChange RX9 cX9_setChange := hC
  show mG X E 0 [(0, .ref (mB E + k0)), (1, .int v1), (2, .int v2)] [] 106 1 I R L 0 0
  unfold f_X9_setChange at h
  refine g_aload_n hC dX9_setChange_0 rfl (q := 0) rfl ?_
  refine g_bipush hC dX9_setChange_1 (v := (41 : Int32)) (by decide) ?_
  refine g_iload_n hC dX9_setChange_3 rfl (q := 1) rfl ?_
  refine g_iload_n hC dX9_setChange_4 rfl (q := 2) rfl ?_
  obtain ⟨r5, h5, h⟩ := oB_some h
  refine g_cV0 hC cv_X9_setCell wd_636 ⟨Nat.le_of_ble_eq_true rfl, Nat.le_of_ble_eq_true rfl⟩ hk0.2.1 hk0.1 dX9_setChange_5 (As := [.int (41 : Int32), .int v1, .int v2]) (st := []) (ok_X9_setCell hC.2.2.2.2.2.2.2.1 hk0 h5) rfl rfl (Nat.le_of_ble_eq_true rfl) ⟨Nat.zero_le _, Nat.zero_le _⟩ ?_
  cases h
  exact g_vret hC hE rfl dX9_setChange_8 (Nat.zero_le _) (Nat.zero_le _) ⟨rfl, rfl, rfl, rfl, rfl, rfl⟩
noncomputable def f_X11_alter (Fu : Nat) (R : mRT) (I : mIT) (v1 : Int32) (v2 : Int32) : Option ((Int32 × mIT) ⊕ (Nat × mIT)) :=
  oX (f_X11_checkChange Fu R I v1) (fun r2 => oB (f_X11_isChangeNumber Fu v2) (fun r6 => if r6 = 0 then (oB (f_X11_refuseAct Fu I (-1 : Int32)) (fun r14 => some (.inl (r14.1, r14.2)))) else (oB (f_X9_changeAt Fu I 40 v1) (fun r23 => oB (f_X11_beginAct Fu I) (fun r28 => oB (f_X9_setChange Fu r28 40 v1 v2) (fun r37 => some (.inl (r23, r37))))))))
set_option maxRecDepth 20000 in
theorem oy_X11_alter {l : Launch} {E : mEn} {Fu : Nat} {I : mIT} {R : mRT} {L : mLT} {v1 : Int32} {v2 : Int32} (hst : l.stackTraces = false) (hW : mWd R)  {out : (Int32 × mIT) ⊕ (Nat × mIT)} (h : f_X11_alter Fu R I v1 v2 = some out) {mc ms : Nat} {post : Option Value → Nat → Nat → mIT → mRT → mLT → Prop} {px : String → Nat → Nat → mIT → mRT → mLT → Prop} (ho : Sum.elim (fun o : Int32 × mIT => post (some (.int (o.1))) 106 1 (o.2) R L) (fun q : Nat × mIT => 1 ≤ mc ∧ 6 ≤ ms ∧ px (xNm q.1) 106 1 q.2 R L) out) : mOx l E mX11_alter [.ref (mB E + 0), .int v1, .int v2] 106 1 I R L mc ms post px := by
  refine mOx_of hst (by decide) (Nat.le_of_ble_eq_true rfl) (fun X hC hE0 _ => ?_)
  have hE : mEx X E mc ms post px ∧ Sum.elim (fun o : Int32 × mIT => post (some (.int (o.1))) 106 1 (o.2) R L) (fun q : Nat × mIT => 1 ≤ mc ∧ 6 ≤ ms ∧ px (xNm q.1) 106 1 q.2 R L) out := ⟨hE0, ho⟩
  have hC : mC X E mX11_alter RX11 cX11_alter := hC
  show mG X E 0 [(0, .ref (mB E + 0)), (1, .int v1), (2, .int v2)] [] 106 1 I R L 0 0
  unfold f_X11_alter at h
  refine g_aload_n hC dX11_alter_0 rfl (q := 0) rfl ?_
  refine g_iload_n hC dX11_alter_1 rfl (q := 1) rfl ?_
  rcases oX_some h with ⟨r2, h2, h⟩ | ⟨q2, h2, h⟩
  case inr =>
    subst h
    have hq : 1 ≤ mc ∧ 6 ≤ ms ∧ px (xNm q2.1) 106 1 q2.2 R L := hE.2
    exact g_cVz hC hE.1 cv_X11_checkChange wd_1230 ⟨Nat.le_of_ble_eq_true rfl, Nat.le_of_ble_eq_true rfl⟩ rfl (by decide) dX11_alter_2 (As := [.int v1]) (st := []) (ox_X11_checkChange hC.2.2.2.2.2.2.2.1 hW h2) rfl rfl (Nat.le_of_ble_eq_true rfl) ⟨by omega, by omega⟩ hq.2.2
  refine g_cVy0 hC hE.1 cv_X11_checkChange wd_1230 ⟨Nat.le_of_ble_eq_true rfl, Nat.le_of_ble_eq_true rfl⟩ rfl (by decide) dX11_alter_2 (As := [.int v1]) (st := []) (oi_X11_checkChange hC.2.2.2.2.2.2.2.1 hW h2) rfl rfl (Nat.le_of_ble_eq_true rfl) ⟨Nat.zero_le _, Nat.zero_le _⟩ ?_
  refine g_iload_n hC dX11_alter_5 rfl (q := 2) rfl ?_
  obtain ⟨r6, h6, h⟩ := oB_some h
  refine g_cS1 hC cs_X11_isChangeNumber wd_1279 ⟨Nat.le_of_ble_eq_true rfl, Nat.le_of_ble_eq_true rfl⟩ dX11_alter_6 (As := [.int v2]) (st := []) (ok_X11_isChangeNumber hC.2.2.2.2.2.2.2.1  h6) rfl rfl (Nat.le_of_ble_eq_true rfl) ⟨Nat.zero_le _, Nat.zero_le _⟩ ?_
  refine g_if_ne hC dX11_alter_9 (tgt := 18) (by decide) (fun c9 => ?_) (fun c9 => ?_)
  · replace h := (if_neg c9).symm.trans h
    refine g_aload_n hC dX11_alter_18 rfl (q := 0) rfl ?_
    refine g_getr hC fd_RX11_34 rfl (by decide) (C0 := _) (t0 := .int) (Or.inl rfl) (rr_0_4 hW.1) dX11_alter_19 ?_
    refine g_iload_n hC dX11_alter_22 rfl (q := 1) rfl ?_
    obtain ⟨r23, h23, h⟩ := oB_some h
    refine g_cV1 hC cv_X9_changeAt wd_1235 ⟨Nat.le_of_ble_eq_true rfl, Nat.le_of_ble_eq_true rfl⟩ rfl (by decide) dX11_alter_23 (As := [.int v1]) (st := []) (ok_X9_changeAt hC.2.2.2.2.2.2.2.1 (ob_40 hW.1) h23) rfl rfl (Nat.le_of_ble_eq_true rfl) ⟨Nat.zero_le _, Nat.zero_le _⟩ ?_
    refine g_istore_n hC dX11_alter_26 rfl rfl (by decide) (lv' := [(3, .int r23), (0, .ref (mB E + 0)), (1, .int v1), (2, .int v2)]) rfl ?_
    refine g_aload_n hC dX11_alter_27 rfl (q := 1) rfl ?_
    obtain ⟨r28, h28, h⟩ := oB_some h
    refine g_cV0 hC cv_X11_beginAct wd_551 ⟨Nat.le_of_ble_eq_true rfl, Nat.le_of_ble_eq_true rfl⟩ rfl (by decide) dX11_alter_28 (As := []) (st := []) (ok_X11_beginAct hC.2.2.2.2.2.2.2.1 hW h28) rfl rfl (Nat.le_of_ble_eq_true rfl) ⟨Nat.zero_le _, Nat.zero_le _⟩ ?_
    refine g_aload_n hC dX11_alter_31 rfl (q := 1) rfl ?_
    refine g_getr hC fd_RX11_34 rfl (by decide) (C0 := _) (t0 := .int) (Or.inl rfl) (rr_0_4 hW.1) dX11_alter_32 ?_
    refine g_iload_n hC dX11_alter_35 rfl (q := 2) rfl ?_
    refine g_iload_n hC dX11_alter_36 rfl (q := 3) rfl ?_
    obtain ⟨r37, h37, h⟩ := oB_some h
    refine g_cV0 hC cv_X9_setChange wd_1280 ⟨Nat.le_of_ble_eq_true rfl, Nat.le_of_ble_eq_true rfl⟩ rfl (by decide) dX11_alter_37 (As := [.int v1, .int v2]) (st := []) (ok_X9_setChange hC.2.2.2.2.2.2.2.1 (ob_40 hW.1) h37) rfl rfl (Nat.le_of_ble_eq_true rfl) ⟨Nat.zero_le _, Nat.zero_le _⟩ ?_
    refine g_iload_n hC dX11_alter_40 rfl (q := 0) rfl ?_
    cases h
    exact g_xiret hC hE.1 rfl dX11_alter_41 (Nat.zero_le _) (Nat.zero_le _) hE.2
  · replace h := (if_pos c9).symm.trans h
    refine g_aload_n hC dX11_alter_12 rfl (q := 0) rfl ?_
    refine g_iconst hC dX11_alter_13 (v := (-1 : Int32)) (by decide) ?_
    obtain ⟨r14, h14, h⟩ := oB_some h
    refine g_cV1 hC cv_X11_refuseAct wd_547 ⟨Nat.le_of_ble_eq_true rfl, Nat.le_of_ble_eq_true rfl⟩ rfl (by decide) dX11_alter_14 (As := [.int (-1 : Int32)]) (st := []) (ok_X11_refuseAct hC.2.2.2.2.2.2.2.1 hW h14) rfl rfl (Nat.le_of_ble_eq_true rfl) ⟨Nat.zero_le _, Nat.zero_le _⟩ ?_
    cases h
    exact g_xiret hC hE.1 rfl dX11_alter_17 (Nat.zero_le _) (Nat.zero_le _) hE.2
theorem oi_X11_alter {l : Launch} {E : mEn} {Fu : Nat} {I : mIT} {R : mRT} {L : mLT} {v1 : Int32} {v2 : Int32} (hst : l.stackTraces = false) (hW : mWd R)  {out : Int32 × mIT} (h : f_X11_alter Fu R I v1 v2 = some (.inl out)) : mOx l E mX11_alter [.ref (mB E + 0), .int v1, .int v2] 106 1 I R L 0 0 (mSame (some (.int (out.1))) 106 1 (out.2) R L) (fun _ _ _ _ _ _ => False) := oy_X11_alter hst hW h ⟨rfl, rfl, rfl, rfl, rfl, rfl⟩
theorem ox_X11_alter {l : Launch} {E : mEn} {Fu : Nat} {I : mIT} {R : mRT} {L : mLT} {v1 : Int32} {v2 : Int32} (hst : l.stackTraces = false) (hW : mWd R)  {q : Nat × mIT} (h : f_X11_alter Fu R I v1 v2 = some (.inr q)) : mOx l E mX11_alter [.ref (mB E + 0), .int v1, .int v2] 106 1 I R L 1 6 (fun _ _ _ _ _ _ => False) (mXp q.1 106 1 q.2 R L) := oy_X11_alter hst hW h ⟨Nat.le_refl _, Nat.le_refl _, rfl, rfl, rfl, rfl, rfl, rfl⟩
noncomputable def f_X11_checkChanges (Fu : Nat) (R : mRT) (I : mIT) (v1 : Int32) : Option ((Unit) ⊕ (Nat × mIT)) :=
  if v1 < 0 then (some (.inr (2, I))) else (if (999 : Int32) < v1 then (some (.inr (2, I))) else (oB (R 0 3) (fun p12 => if (I p12 8) = 0 then (some (.inr (2, I))) else (some (.inl ())))))
set_option maxRecDepth 20000 in
theorem oy_X11_checkChanges {l : Launch} {E : mEn} {Fu : Nat} {I : mIT} {R : mRT} {L : mLT} {v1 : Int32} (hst : l.stackTraces = false) (hW : mWd R)  {out : (Unit) ⊕ (Nat × mIT)} (h : f_X11_checkChanges Fu R I v1 = some out) {mc ms : Nat} {post : Option Value → Nat → Nat → mIT → mRT → mLT → Prop} {px : String → Nat → Nat → mIT → mRT → mLT → Prop} (ho : Sum.elim (fun o : Unit => post none 106 1 I R L) (fun q : Nat × mIT => 1 ≤ mc ∧ 6 ≤ ms ∧ px (xNm q.1) 106 1 q.2 R L) out) : mOx l E mX11_checkChanges [.ref (mB E + 0), .int v1] 106 1 I R L mc ms post px := by
  refine mOx_of hst (by decide) (Nat.le_of_ble_eq_true rfl) (fun X hC hE0 _ => ?_)
  have hE : mEx X E mc ms post px ∧ Sum.elim (fun o : Unit => post none 106 1 I R L) (fun q : Nat × mIT => 1 ≤ mc ∧ 6 ≤ ms ∧ px (xNm q.1) 106 1 q.2 R L) out := ⟨hE0, ho⟩
  have hC : mC X E mX11_checkChanges RX11 cX11_checkChanges := hC
  show mG X E 0 [(0, .ref (mB E + 0)), (1, .int v1)] [] 106 1 I R L 0 0
  unfold f_X11_checkChanges at h
  refine g_iload_n hC dX11_checkChanges_0 rfl (q := 1) rfl ?_
  refine g_if_lt hC dX11_checkChanges_1 (tgt := 21) (by decide) (fun c1 => ?_) (fun c1 => ?_)
  · replace h := (if_pos c1).symm.trans h
    cases h
    have hq : 1 ≤ mc ∧ 6 ≤ ms ∧ px (xNm 2) 106 1 I R L := hE.2
    exact g_thrw hC hE.1 tw_RX11_108 (j := 28) rfl dX11_checkChanges_21 dX11_checkChanges_24 dX11_checkChanges_25 dX11_checkChanges_28 dX11_checkChanges_31 (Nat.le_of_ble_eq_true rfl) (Nat.le_of_ble_eq_true rfl) (by decide) hq.1 hq.2.1 hq.2.2
  · replace h := (if_neg c1).symm.trans h
    refine g_iload_n hC dX11_checkChanges_4 rfl (q := 1) rfl ?_
    refine g_sipush hC dX11_checkChanges_5 (v := (999 : Int32)) (by decide) ?_
    refine g_ic_gt hC dX11_checkChanges_8 (tgt := 21) (by decide) (fun c8 => ?_) (fun c8 => ?_)
    · replace h := (if_pos c8).symm.trans h
      cases h
      have hq : 1 ≤ mc ∧ 6 ≤ ms ∧ px (xNm 2) 106 1 I R L := hE.2
      exact g_thrw hC hE.1 tw_RX11_108 (j := 28) rfl dX11_checkChanges_21 dX11_checkChanges_24 dX11_checkChanges_25 dX11_checkChanges_28 dX11_checkChanges_31 (Nat.le_of_ble_eq_true rfl) (Nat.le_of_ble_eq_true rfl) (by decide) hq.1 hq.2.1 hq.2.2
    · replace h := (if_neg c8).symm.trans h
      refine g_aload_n hC dX11_checkChanges_11 rfl (q := 0) rfl ?_
      obtain ⟨p12, e12, h⟩ := oB_some h
      have hp12 : mO5 R p12 := ob5 hW.1 (hW.2.1 p12 e12)
      refine g_getr hC fd_RX11_27 rfl (by decide) (C0 := _) (t0 := .int) (Or.inl rfl) e12 dX11_checkChanges_12 ?_
      refine g_geti hC fd_RX11_163 hp12.2.1 hp12.1 (Or.inl rfl) dX11_checkChanges_15 ?_
      refine g_if_ne hC dX11_checkChanges_18 (tgt := 32) (by decide) (fun c18 => ?_) (fun c18 => ?_)
      · replace h := (if_neg c18).symm.trans h
        cases h
        exact g_xvret hC hE.1 rfl dX11_checkChanges_32 (Nat.zero_le _) (Nat.zero_le _) hE.2
      · replace h := (if_pos c18).symm.trans h
        cases h
        have hq : 1 ≤ mc ∧ 6 ≤ ms ∧ px (xNm 2) 106 1 I R L := hE.2
        exact g_thrw hC hE.1 tw_RX11_108 (j := 28) rfl dX11_checkChanges_21 dX11_checkChanges_24 dX11_checkChanges_25 dX11_checkChanges_28 dX11_checkChanges_31 (Nat.le_of_ble_eq_true rfl) (Nat.le_of_ble_eq_true rfl) (by decide) hq.1 hq.2.1 hq.2.2
theorem oi_X11_checkChanges {l : Launch} {E : mEn} {Fu : Nat} {I : mIT} {R : mRT} {L : mLT} {v1 : Int32} (hst : l.stackTraces = false) (hW : mWd R)  {out : Unit} (h : f_X11_checkChanges Fu R I v1 = some (.inl out)) : mOx l E mX11_checkChanges [.ref (mB E + 0), .int v1] 106 1 I R L 0 0 (mSame none 106 1 I R L) (fun _ _ _ _ _ _ => False) := oy_X11_checkChanges hst hW h ⟨rfl, rfl, rfl, rfl, rfl, rfl⟩
theorem ox_X11_checkChanges {l : Launch} {E : mEn} {Fu : Nat} {I : mIT} {R : mRT} {L : mLT} {v1 : Int32} (hst : l.stackTraces = false) (hW : mWd R)  {q : Nat × mIT} (h : f_X11_checkChanges Fu R I v1 = some (.inr q)) : mOx l E mX11_checkChanges [.ref (mB E + 0), .int v1] 106 1 I R L 1 6 (fun _ _ _ _ _ _ => False) (mXp q.1 106 1 q.2 R L) := oy_X11_checkChanges hst hW h ⟨Nat.le_refl _, Nat.le_refl _, rfl, rfl, rfl, rfl, rfl, rfl⟩
noncomputable def b_X9_rootOn_2 (Fu : Nat) (I : mIT) (k0 : Nat) (k2_ : Int32 × Int32 × Int32 → Option (Int32)) (v1 : Int32) (v2 : Int32) (v3 : Int32) : Option (Int32) :=
  if v2 ≤ v3 then (some (-1 : Int32)) else (oB (f_X9_placeOf Fu I k0 v3) (fun r9 => if r9 = v1 then (some (v3)) else (k2_ (v1, v2, (v3 + (1 : Int32))))))
set_option maxRecDepth 20000 in
theorem bo_X9_rootOn_2 {X : mXT} {E : mEn} {Fu : Nat} {I : mIT} {R : mRT} {L : mLT} {k0 : Nat} (hC : mC X E mX9_rootOn RX9 cX9_rootOn) (hk0 : mO9 R k0)  {out : Int32} (hE : mEd X E 0 0 (mSame (some (.int (out))) 106 1 I R L)) (k2_ : Int32 × Int32 × Int32 → Option (Int32)) (hk2_ : ∀ (v1 : Int32) (v2 : Int32) (v3 : Int32),  k2_ (v1, v2, v3) = some out → mG X E 2 [(0, .ref (mB E + k0)), (1, .int v1), (2, .int v2), (3, .int v3)] [] 106 1 I R L 0 0) (v1 : Int32) (v2 : Int32) (v3 : Int32) (h : b_X9_rootOn_2 Fu I k0 k2_ v1 v2 v3 = some out) : mG X E 2 [(0, .ref (mB E + k0)), (1, .int v1), (2, .int v2), (3, .int v3)] [] 106 1 I R L 0 0 := by
  unfold b_X9_rootOn_2 at h
  refine g_iload_n hC dX9_rootOn_2 rfl (q := 3) rfl ?_
  refine g_iload_n hC dX9_rootOn_3 rfl (q := 2) rfl ?_
  refine g_ic_ge hC dX9_rootOn_4 (tgt := 24) (by decide) (fun c4 => ?_) (fun c4 => ?_)
  · replace h := (if_pos c4).symm.trans h
    refine g_iconst hC dX9_rootOn_24 (v := (-1 : Int32)) (by decide) ?_
    cases h
    exact g_iret hC hE rfl dX9_rootOn_25 (Nat.zero_le _) (Nat.zero_le _) ⟨rfl, rfl, rfl, rfl, rfl, rfl⟩
  · replace h := (if_neg c4).symm.trans h
    refine g_aload_n hC dX9_rootOn_7 rfl (q := 0) rfl ?_
    refine g_iload_n hC dX9_rootOn_8 rfl (q := 3) rfl ?_
    obtain ⟨r9, h9, h⟩ := oB_some h
    refine g_cV1 hC cv_X9_placeOf wd_586 ⟨Nat.le_of_ble_eq_true rfl, Nat.le_of_ble_eq_true rfl⟩ hk0.2.1 hk0.1 dX9_rootOn_9 (As := [.int v3]) (st := []) (ok_X9_placeOf hC.2.2.2.2.2.2.2.1 hk0 h9) rfl rfl (Nat.le_of_ble_eq_true rfl) ⟨Nat.zero_le _, Nat.zero_le _⟩ ?_
    refine g_iload_n hC dX9_rootOn_12 rfl (q := 1) rfl ?_
    refine g_ic_ne hC dX9_rootOn_13 (tgt := 18) (by decide) (fun c13 => ?_) (fun c13 => ?_)
    · replace h := (if_neg c13).symm.trans h
      refine g_iinc hC dX9_rootOn_18 rfl (q := 3) rfl (w := (v3 + (1 : Int32))) rfl (by decide) (lv' := [(3, .int (v3 + (1 : Int32))), (0, .ref (mB E + k0)), (1, .int v1), (2, .int v2)]) rfl ?_
      refine g_goto hC dX9_rootOn_21 (tgt := 2) (by decide) ?_
      refine g_lv [1, 2, 3, 0] rfl ?_
      exact hk2_ v1 v2 (v3 + (1 : Int32)) h
    · replace h := (if_pos c13).symm.trans h
      refine g_iload_n hC dX9_rootOn_16 rfl (q := 3) rfl ?_
      cases h
      exact g_iret hC hE rfl dX9_rootOn_17 (Nat.zero_le _) (Nat.zero_le _) ⟨rfl, rfl, rfl, rfl, rfl, rfl⟩
noncomputable def w_X9_rootOn_2 (Fu : Nat) (I : mIT) (k0 : Nat)  (N : Nat) (v1 : Int32) (v2 : Int32) (v3 : Int32) : Option (Int32) :=
  loopF (fun self (s : Int32 × Int32 × Int32) => b_X9_rootOn_2 Fu I k0 self s.1 s.2.1 s.2.2) N (v1, v2, v3)
theorem wo_X9_rootOn_2 {X : mXT} {E : mEn} {Fu : Nat} {I : mIT} {R : mRT} {L : mLT} {k0 : Nat} (hC : mC X E mX9_rootOn RX9 cX9_rootOn) (hk0 : mO9 R k0)  {out : Int32} (hE : mEd X E 0 0 (mSame (some (.int (out))) 106 1 I R L))  (N : Nat) (v1 : Int32) (v2 : Int32) (v3 : Int32) (h : w_X9_rootOn_2 Fu I k0  N v1 v2 v3 = some out) : mG X E 2 [(0, .ref (mB E + k0)), (1, .int v1), (2, .int v2), (3, .int v3)] [] 106 1 I R L 0 0 :=
  loopF_ok (Gd := fun s : Int32 × Int32 × Int32 => mG X E 2 [(0, .ref (mB E + k0)), (1, .int s.1), (2, .int s.2.1), (3, .int s.2.2)] [] 106 1 I R L 0 0) (fun self hs s h => bo_X9_rootOn_2 hC hk0 hE self (fun v1 v2 v3 h => hs (v1, v2, v3) h) s.1 s.2.1 s.2.2 h) N (v1, v2, v3) h
noncomputable def f_X9_rootOn (Fu : Nat) (I : mIT) (k0 : Nat) (v1 : Int32) (v2 : Int32) : Option (Int32) :=
  w_X9_rootOn_2 Fu I k0 Fu v1 v2 (0 : Int32)
set_option maxRecDepth 20000 in
theorem ok_X9_rootOn {l : Launch} {E : mEn} {Fu : Nat} {I : mIT} {R : mRT} {L : mLT} {k0 : Nat} {v1 : Int32} {v2 : Int32} (hst : l.stackTraces = false) (hk0 : mO9 R k0) {out : Int32} (h : f_X9_rootOn Fu I k0 v1 v2 = some out) : mOk l E mX9_rootOn [.ref (mB E + k0), .int v1, .int v2] 106 1 I R L 0 0 (mSame (some (.int (out))) 106 1 I R L) := by
  refine mOk_of hst (by decide) (Nat.le_of_ble_eq_true rfl) (fun X hC hE _ => ?_)
  have hC : mC X E mX9_rootOn RX9 cX9_rootOn := hC
  show mG X E 0 [(0, .ref (mB E + k0)), (1, .int v1), (2, .int v2)] [] 106 1 I R L 0 0
  unfold f_X9_rootOn at h
  refine g_iconst hC dX9_rootOn_0 (v := (0 : Int32)) (by decide) ?_
  refine g_istore_n hC dX9_rootOn_1 rfl rfl (by decide) (lv' := [(3, .int (0 : Int32)), (0, .ref (mB E + k0)), (1, .int v1), (2, .int v2)]) rfl ?_
  refine g_lv [1, 2, 3, 0] rfl ?_
  exact wo_X9_rootOn_2 hC hk0 hE Fu (v1) (v2) ((0 : Int32)) h
noncomputable def b_X7_load_86 (Fu : Nat) (k1 : Nat) (k2 : Nat) (k86_ : Int32 × mIT → Option (mIT)) (v3 : Int32) (I : mIT) : Option (mIT) :=
  if (nI 12) ≤ v3 then (some (I)) else (oB (f_X9_changeAt Fu I k2 v3) (fun r102 => oG (inB v3 12) (k86_ ((v3 + (1 : Int32)), (mU I 64 (v3).toNatClampNeg r102)))))
set_option maxRecDepth 20000 in
theorem bo_X7_load_86 {X : mXT} {E : mEn} {Fu : Nat} {R : mRT} {L : mLT} {k1 : Nat} {k2 : Nat} (hC : mC X E mX7_load RX7 cX7_load) (hW : mWd R) (hk1 : mO5 R k1) (hk2 : mO9 R k2)  {out : mIT} (hE : mEd X E 0 0 (mSame none 106 1 (out) R L)) (k86_ : Int32 × mIT → Option (mIT)) (hk86_ : ∀ (v3 : Int32) (I : mIT),  k86_ (v3, I) = some out → mG X E 86 [(0, .ref (mB E + 62)), (2, .ref (mB E + k2)), (3, .int v3)] [] 106 1 I R L 0 0) (v3 : Int32) (I : mIT) (h : b_X7_load_86 Fu k1 k2 k86_ v3 I = some out) : mG X E 86 [(0, .ref (mB E + 62)), (2, .ref (mB E + k2)), (3, .int v3)] [] 106 1 I R L 0 0 := by
  unfold b_X7_load_86 at h
  refine g_iload_n hC dX7_load_86 rfl (q := 2) rfl ?_
  refine g_aload_n hC dX7_load_87 rfl (q := 0) rfl ?_
  refine g_getr hC fd_RX7_15 rfl (by decide) (C0 := "") (t0 := _) (Or.inr rfl) (rr_62_1 hW.1) dX7_load_88 ?_
  refine g_alenI hC rfl (by decide) dX7_load_91 ?_
  refine g_ic_ge hC dX7_load_92 (tgt := 112) (by decide) (fun c92 => ?_) (fun c92 => ?_)
  · replace h := (if_pos c92).symm.trans h
    cases h
    exact g_vret hC hE rfl dX7_load_112 (Nat.zero_le _) (Nat.zero_le _) ⟨rfl, rfl, rfl, rfl, rfl, rfl⟩
  · replace h := (if_neg c92).symm.trans h
    refine g_aload_n hC dX7_load_95 rfl (q := 0) rfl ?_
    refine g_getr hC fd_RX7_15 rfl (by decide) (C0 := "") (t0 := _) (Or.inr rfl) (rr_62_1 hW.1) dX7_load_96 ?_
    refine g_iload_n hC dX7_load_99 rfl (q := 2) rfl ?_
    refine g_aload_n hC dX7_load_100 rfl (q := 1) rfl ?_
    refine g_iload_n hC dX7_load_101 rfl (q := 2) rfl ?_
    obtain ⟨r102, h102, h⟩ := oB_some h
    refine g_cV1 hC cv_X9_changeAt wd_732 ⟨Nat.le_of_ble_eq_true rfl, Nat.le_of_ble_eq_true rfl⟩ hk2.2.1 hk2.1 dX7_load_102 (As := [.int v3]) (st := [.int v3, .ref (mB E + 64)]) (ok_X9_changeAt hC.2.2.2.2.2.2.2.1 hk2 h102) rfl rfl (Nat.le_of_ble_eq_true rfl) ⟨Nat.zero_le _, Nat.zero_le _⟩ ?_
    obtain ⟨g105, h⟩ := oG_some h
    refine g_iast hC rfl (by decide) (inB_in g105) dX7_load_105 (nm_e ?_)
    refine g_iinc hC dX7_load_106 rfl (q := 2) rfl (w := (v3 + (1 : Int32))) rfl (by decide) (lv' := [(3, .int (v3 + (1 : Int32))), (0, .ref (mB E + 62)), (2, .ref (mB E + k2))]) rfl ?_
    refine g_goto hC dX7_load_109 (tgt := 86) (by decide) ?_
    refine g_lv [1, 2, 0] rfl ?_
    exact hk86_ (v3 + (1 : Int32)) (mU I 64 (v3).toNatClampNeg r102) h
noncomputable def w_X7_load_86 (Fu : Nat) (k1 : Nat) (k2 : Nat)  (N : Nat) (v3 : Int32) (I : mIT) : Option (mIT) :=
  loopF (fun self (s : Int32 × mIT) => b_X7_load_86 Fu k1 k2 self s.1 s.2) N (v3, I)
theorem wo_X7_load_86 {X : mXT} {E : mEn} {Fu : Nat} {R : mRT} {L : mLT} {k1 : Nat} {k2 : Nat} (hC : mC X E mX7_load RX7 cX7_load) (hW : mWd R) (hk1 : mO5 R k1) (hk2 : mO9 R k2)  {out : mIT} (hE : mEd X E 0 0 (mSame none 106 1 (out) R L))  (N : Nat) (v3 : Int32) (I : mIT) (h : w_X7_load_86 Fu k1 k2  N v3 I = some out) : mG X E 86 [(0, .ref (mB E + 62)), (2, .ref (mB E + k2)), (3, .int v3)] [] 106 1 I R L 0 0 :=
  loopF_ok (Gd := fun s : Int32 × mIT => mG X E 86 [(0, .ref (mB E + 62)), (2, .ref (mB E + k2)), (3, .int s.1)] [] 106 1 s.2 R L 0 0) (fun self hs s h => bo_X7_load_86 hC hW hk1 hk2 hE self (fun v3 I h => hs (v3, I) h) s.1 s.2 h) N (v3, I) h
noncomputable def b_X7_load_7 (Fu : Nat) (k1 : Nat) (k2 : Nat) (k7_ : Int32 × mIT → Option (mIT)) (v3 : Int32) (I : mIT) : Option (mIT) :=
  if (6 : Int32) ≤ v3 then (w_X7_load_86 Fu k1 k2 Fu (0 : Int32) (mU I 62 4 (I k1 8))) else (oB (f_X9_rootOn Fu I k2 v3 (I k1 3)) (fun r19 => if r19 = (-1 : Int32) then (k7_ ((v3 + (1 : Int32)), I)) else (if (I 62 3) < 0 then (k7_ ((v3 + (1 : Int32)), I)) else (if (nI 6) ≤ (I 62 3) then (k7_ ((v3 + (1 : Int32)), I)) else (oG (inB (I 62 3) 6) (k7_ ((v3 + (1 : Int32)), (mU (mU I 63 ((I 62 3)).toNatClampNeg r19) 62 3 (((mU I 63 ((I 62 3)).toNatClampNeg r19) 62 3) + (1 : Int32))))))))))
set_option maxRecDepth 20000 in
theorem bo_X7_load_7 {X : mXT} {E : mEn} {Fu : Nat} {R : mRT} {L : mLT} {k1 : Nat} {k2 : Nat} (hC : mC X E mX7_load RX7 cX7_load) (hW : mWd R) (hk1 : mO5 R k1) (hk2 : mO9 R k2)  {out : mIT} (hE : mEd X E 0 0 (mSame none 106 1 (out) R L)) (k7_ : Int32 × mIT → Option (mIT)) (hk7_ : ∀ (v3 : Int32) (I : mIT),  k7_ (v3, I) = some out → mG X E 7 [(0, .ref (mB E + 62)), (1, .ref (mB E + k1)), (2, .ref (mB E + k2)), (3, .int v3)] [] 106 1 I R L 0 0) (v3 : Int32) (I : mIT) (h : b_X7_load_7 Fu k1 k2 k7_ v3 I = some out) : mG X E 7 [(0, .ref (mB E + 62)), (1, .ref (mB E + k1)), (2, .ref (mB E + k2)), (3, .int v3)] [] 106 1 I R L 0 0 := by
  unfold b_X7_load_7 at h
  refine g_iload_n hC dX7_load_7 rfl (q := 3) rfl ?_
  refine g_bipush hC dX7_load_8 (v := (6 : Int32)) (by decide) ?_
  refine g_ic_ge hC dX7_load_10 (tgt := 76) (by decide) (fun c10 => ?_) (fun c10 => ?_)
  · replace h := (if_pos c10).symm.trans h
    refine g_aload_n hC dX7_load_76 rfl (q := 0) rfl ?_
    refine g_aload_n hC dX7_load_77 rfl (q := 1) rfl ?_
    refine g_geti hC fd_RX7_39 hk1.2.1 hk1.1 (Or.inl rfl) dX7_load_78 ?_
    refine g_puti hC fd_RX7_25 rfl (by decide) rfl dX7_load_81 (nm_e ?_)
    refine g_iconst hC dX7_load_84 (v := (0 : Int32)) (by decide) ?_
    refine g_istore_n hC dX7_load_85 rfl rfl (by decide) (lv' := [(3, .int (0 : Int32)), (0, .ref (mB E + 62)), (1, .ref (mB E + k1)), (2, .ref (mB E + k2))]) rfl ?_
    refine g_lv [1, 3, 0] rfl ?_
    exact wo_X7_load_86 hC hW hk1 hk2 hE Fu ((0 : Int32)) ((mU I 62 4 (I k1 8))) h
  · replace h := (if_neg c10).symm.trans h
    refine g_aload_n hC dX7_load_13 rfl (q := 2) rfl ?_
    refine g_iload_n hC dX7_load_14 rfl (q := 3) rfl ?_
    refine g_aload_n hC dX7_load_15 rfl (q := 1) rfl ?_
    refine g_geti hC fd_RX7_28 hk1.2.1 hk1.1 (Or.inl rfl) dX7_load_16 ?_
    obtain ⟨r19, h19, h⟩ := oB_some h
    refine g_cV1 hC cv_X9_rootOn wd_728 ⟨Nat.le_of_ble_eq_true rfl, Nat.le_of_ble_eq_true rfl⟩ hk2.2.1 hk2.1 dX7_load_19 (As := [.int v3, .int (I k1 3)]) (st := []) (ok_X9_rootOn hC.2.2.2.2.2.2.2.1 hk2 h19) rfl rfl (Nat.le_of_ble_eq_true rfl) ⟨Nat.zero_le _, Nat.zero_le _⟩ ?_
    refine g_istore hC dX7_load_22 rfl (by decide) (lv' := [(4, .int r19), (0, .ref (mB E + 62)), (1, .ref (mB E + k1)), (2, .ref (mB E + k2)), (3, .int v3)]) rfl ?_
    refine g_iload hC dX7_load_24 (q := 0) rfl ?_
    refine g_iconst hC dX7_load_26 (v := (-1 : Int32)) (by decide) ?_
    refine g_ic_eq hC dX7_load_27 (tgt := 70) (by decide) (fun c27 => ?_) (fun c27 => ?_)
    · replace h := (if_pos c27).symm.trans h
      refine g_iinc hC dX7_load_70 rfl (q := 4) rfl (w := (v3 + (1 : Int32))) rfl (by decide) (lv' := [(3, .int (v3 + (1 : Int32))), (4, .int r19), (0, .ref (mB E + 62)), (1, .ref (mB E + k1)), (2, .ref (mB E + k2))]) rfl ?_
      refine g_goto hC dX7_load_73 (tgt := 7) (by decide) ?_
      refine g_lv [2, 3, 4, 0] rfl ?_
      exact hk7_ (v3 + (1 : Int32)) I h
    · replace h := (if_neg c27).symm.trans h
      refine g_aload_n hC dX7_load_30 rfl (q := 1) rfl ?_
      refine g_geti hC fd_RX7_21 rfl (by decide) (Or.inl rfl) dX7_load_31 ?_
      refine g_if_lt hC dX7_load_34 (tgt := 70) (by decide) (fun c34 => ?_) (fun c34 => ?_)
      · replace h := (if_pos c34).symm.trans h
        refine g_iinc hC dX7_load_70 rfl (q := 4) rfl (w := (v3 + (1 : Int32))) rfl (by decide) (lv' := [(3, .int (v3 + (1 : Int32))), (4, .int r19), (0, .ref (mB E + 62)), (1, .ref (mB E + k1)), (2, .ref (mB E + k2))]) rfl ?_
        refine g_goto hC dX7_load_73 (tgt := 7) (by decide) ?_
        refine g_lv [2, 3, 4, 0] rfl ?_
        exact hk7_ (v3 + (1 : Int32)) I h
      · replace h := (if_neg c34).symm.trans h
        refine g_aload_n hC dX7_load_37 rfl (q := 1) rfl ?_
        refine g_geti hC fd_RX7_21 rfl (by decide) (Or.inl rfl) dX7_load_38 ?_
        refine g_aload_n hC dX7_load_41 rfl (q := 1) rfl ?_
        refine g_getr hC fd_RX7_9 rfl (by decide) (C0 := "") (t0 := _) (Or.inr rfl) (rr_62_0 hW.1) dX7_load_42 ?_
        refine g_alenI hC rfl (by decide) dX7_load_45 ?_
        refine g_ic_ge hC dX7_load_46 (tgt := 70) (by decide) (fun c46 => ?_) (fun c46 => ?_)
        · replace h := (if_pos c46).symm.trans h
          refine g_iinc hC dX7_load_70 rfl (q := 4) rfl (w := (v3 + (1 : Int32))) rfl (by decide) (lv' := [(3, .int (v3 + (1 : Int32))), (4, .int r19), (0, .ref (mB E + 62)), (1, .ref (mB E + k1)), (2, .ref (mB E + k2))]) rfl ?_
          refine g_goto hC dX7_load_73 (tgt := 7) (by decide) ?_
          refine g_lv [2, 3, 4, 0] rfl ?_
          exact hk7_ (v3 + (1 : Int32)) I h
        · replace h := (if_neg c46).symm.trans h
          refine g_aload_n hC dX7_load_49 rfl (q := 1) rfl ?_
          refine g_getr hC fd_RX7_9 rfl (by decide) (C0 := "") (t0 := _) (Or.inr rfl) (rr_62_0 hW.1) dX7_load_50 ?_
          refine g_aload_n hC dX7_load_53 rfl (q := 1) rfl ?_
          refine g_geti hC fd_RX7_21 rfl (by decide) (Or.inl rfl) dX7_load_54 ?_
          refine g_iload hC dX7_load_57 (q := 0) rfl ?_
          obtain ⟨g59, h⟩ := oG_some h
          refine g_iast hC rfl (by decide) (inB_in g59) dX7_load_59 (nm_e ?_)
          refine g_aload_n hC dX7_load_60 rfl (q := 1) rfl ?_
          refine g_dup hC dX7_load_61 rfl ?_
          refine g_geti hC fd_RX7_21 rfl (by decide) (Or.inl rfl) dX7_load_62 ?_
          refine g_iconst hC dX7_load_65 (v := (1 : Int32)) (by decide) ?_
          refine g_iadd hC dX7_load_66 ?_
          refine g_puti hC fd_RX7_21 rfl (by decide) rfl dX7_load_67 (nm_e ?_)
          refine g_iinc hC dX7_load_70 rfl (q := 4) rfl (w := (v3 + (1 : Int32))) rfl (by decide) (lv' := [(3, .int (v3 + (1 : Int32))), (4, .int r19), (0, .ref (mB E + 62)), (1, .ref (mB E + k1)), (2, .ref (mB E + k2))]) rfl ?_
          refine g_goto hC dX7_load_73 (tgt := 7) (by decide) ?_
          refine g_lv [2, 3, 4, 0] rfl ?_
          exact hk7_ (v3 + (1 : Int32)) (mU (mU I 63 ((I 62 3)).toNatClampNeg r19) 62 3 (((mU I 63 ((I 62 3)).toNatClampNeg r19) 62 3) + (1 : Int32))) h
noncomputable def w_X7_load_7 (Fu : Nat) (k1 : Nat) (k2 : Nat)  (N : Nat) (v3 : Int32) (I : mIT) : Option (mIT) :=
  loopF (fun self (s : Int32 × mIT) => b_X7_load_7 Fu k1 k2 self s.1 s.2) N (v3, I)
theorem wo_X7_load_7 {X : mXT} {E : mEn} {Fu : Nat} {R : mRT} {L : mLT} {k1 : Nat} {k2 : Nat} (hC : mC X E mX7_load RX7 cX7_load) (hW : mWd R) (hk1 : mO5 R k1) (hk2 : mO9 R k2)  {out : mIT} (hE : mEd X E 0 0 (mSame none 106 1 (out) R L))  (N : Nat) (v3 : Int32) (I : mIT) (h : w_X7_load_7 Fu k1 k2  N v3 I = some out) : mG X E 7 [(0, .ref (mB E + 62)), (1, .ref (mB E + k1)), (2, .ref (mB E + k2)), (3, .int v3)] [] 106 1 I R L 0 0 :=
  loopF_ok (Gd := fun s : Int32 × mIT => mG X E 7 [(0, .ref (mB E + 62)), (1, .ref (mB E + k1)), (2, .ref (mB E + k2)), (3, .int s.1)] [] 106 1 s.2 R L 0 0) (fun self hs s h => bo_X7_load_7 hC hW hk1 hk2 hE self (fun v3 I h => hs (v3, I) h) s.1 s.2 h) N (v3, I) h
noncomputable def f_X7_load (Fu : Nat) (I : mIT) (k1 : Nat) (k2 : Nat) : Option (mIT) :=
  w_X7_load_7 Fu k1 k2 Fu (0 : Int32) (mU I 62 3 (0 : Int32))
set_option maxRecDepth 20000 in
theorem ok_X7_load {l : Launch} {E : mEn} {Fu : Nat} {I : mIT} {R : mRT} {L : mLT} {k1 : Nat} {k2 : Nat} (hst : l.stackTraces = false) (hW : mWd R) (hk1 : mO5 R k1) (hk2 : mO9 R k2) {out : mIT} (h : f_X7_load Fu I k1 k2 = some out) : mOk l E mX7_load [.ref (mB E + 62), .ref (mB E + k1), .ref (mB E + k2)] 106 1 I R L 0 0 (mSame none 106 1 (out) R L) := by
  refine mOk_of hst (by decide) (Nat.le_of_ble_eq_true rfl) (fun X hC hE _ => ?_)
  have hC : mC X E mX7_load RX7 cX7_load := hC
  show mG X E 0 [(0, .ref (mB E + 62)), (1, .ref (mB E + k1)), (2, .ref (mB E + k2))] [] 106 1 I R L 0 0
  unfold f_X7_load at h
  refine g_aload_n hC dX7_load_0 rfl (q := 0) rfl ?_
  refine g_iconst hC dX7_load_1 (v := (0 : Int32)) (by decide) ?_
  refine g_puti hC fd_RX7_21 rfl (by decide) rfl dX7_load_2 (nm_e ?_)
  refine g_iconst hC dX7_load_5 (v := (0 : Int32)) (by decide) ?_
  refine g_istore_n hC dX7_load_6 rfl rfl (by decide) (lv' := [(3, .int (0 : Int32)), (0, .ref (mB E + 62)), (1, .ref (mB E + k1)), (2, .ref (mB E + k2))]) rfl ?_
  refine g_lv [1, 2, 3, 0] rfl ?_
  exact wo_X7_load_7 hC hW hk1 hk2 hE Fu ((0 : Int32)) ((mU I 62 3 (0 : Int32))) h
noncomputable def f_X7_bells (Fu : Nat) (I : mIT)  : Option (Int32) :=
  some (I 62 3)
set_option maxRecDepth 20000 in
theorem ok_X7_bells {l : Launch} {E : mEn} {Fu : Nat} {I : mIT} {R : mRT} {L : mLT}  (hst : l.stackTraces = false) (hW : mWd R)  {out : Int32} (h : f_X7_bells Fu I  = some out) : mOk l E mX7_bells [.ref (mB E + 62)] 106 1 I R L 0 0 (mSame (some (.int (out))) 106 1 I R L) := by
  refine mOk_of hst (by decide) (Nat.le_of_ble_eq_true rfl) (fun X hC hE _ => ?_)
  have hC : mC X E mX7_bells RX7 cX7_bells := hC
  show mG X E 0 [(0, .ref (mB E + 62))] [] 106 1 I R L 0 0
  unfold f_X7_bells at h
  refine g_aload_n hC dX7_bells_0 rfl (q := 0) rfl ?_
  refine g_geti hC fd_RX7_21 rfl (by decide) (Or.inl rfl) dX7_bells_1 ?_
  cases h
  exact g_iret hC hE rfl dX7_bells_4 (Nat.zero_le _) (Nat.zero_le _) ⟨rfl, rfl, rfl, rfl, rfl, rfl⟩
noncomputable def f_X7_bellAt (Fu : Nat)  (v0 : Int32) (v1 : Int32) : Option (Int32) :=
  some ((v0 >>> (((3 : Int32) * v1) &&& 31)) &&& (7 : Int32))
set_option maxRecDepth 20000 in
theorem ok_X7_bellAt {l : Launch} {E : mEn} {Fu : Nat} {I : mIT} {R : mRT} {L : mLT} {v0 : Int32} {v1 : Int32} (hst : l.stackTraces = false)  {out : Int32} (h : f_X7_bellAt Fu  v0 v1 = some out) : mOk l E mX7_bellAt [.int v0, .int v1] 106 1 I R L 0 0 (mSame (some (.int (out))) 106 1 I R L) := by
  refine mOk_of hst (by decide) (Nat.le_of_ble_eq_true rfl) (fun X hC hE _ => ?_)
  have hC : mC X E mX7_bellAt RX7 cX7_bellAt := hC
  show mG X E 0 [(0, .int v0), (1, .int v1)] [] 106 1 I R L 0 0
  unfold f_X7_bellAt at h
  refine g_iload_n hC dX7_bellAt_0 rfl (q := 0) rfl ?_
  refine g_iconst hC dX7_bellAt_1 (v := (3 : Int32)) (by decide) ?_
  refine g_iload_n hC dX7_bellAt_2 rfl (q := 1) rfl ?_
  refine g_imul hC dX7_bellAt_3 ?_
  refine g_ishr hC dX7_bellAt_4 ?_
  refine g_bipush hC dX7_bellAt_5 (v := (7 : Int32)) (by decide) ?_
  refine g_iand hC dX7_bellAt_7 ?_
  cases h
  exact g_iret hC hE rfl dX7_bellAt_8 (Nat.zero_le _) (Nat.zero_le _) ⟨rfl, rfl, rfl, rfl, rfl, rfl⟩
noncomputable def b_X7_behindOne_45 (Fu : Nat) (I : mIT) (k45_ : Int32 × Int32 × Int32 → Option (Int32)) (v3 : Int32) (v4 : Int32) (v5 : Int32) : Option (Int32) :=
  if (I 62 3) ≤ (v5 + (1 : Int32)) then (some (v4)) else (if ((v3 >>> (v5 &&& 31)) &&& (1 : Int32)) = (1 : Int32) then (oB (f_X7_bellAt Fu v4 v5) (fun r70 => oB (f_X7_bellAt Fu v4 (v5 + (1 : Int32))) (fun r79 => k45_ (v3, (v4 ^^^ (((r70 ^^^ r79) ||| ((r70 ^^^ r79) <<< ((3 : Int32) &&& 31))) <<< (((3 : Int32) * v5) &&& 31))), (v5 + (1 : Int32)))))) else (k45_ (v3, v4, (v5 + (1 : Int32)))))
set_option maxRecDepth 20000 in
theorem bo_X7_behindOne_45 {X : mXT} {E : mEn} {Fu : Nat} {I : mIT} {R : mRT} {L : mLT}  (hC : mC X E mX7_behindOne RX7 cX7_behindOne) (hW : mWd R)   {out : Int32} (hE : mEd X E 0 0 (mSame (some (.int (out))) 106 1 I R L)) (k45_ : Int32 × Int32 × Int32 → Option (Int32)) (hk45_ : ∀ (v3 : Int32) (v4 : Int32) (v5 : Int32),  k45_ (v3, v4, v5) = some out → mG X E 45 [(0, .ref (mB E + 62)), (3, .int v3), (4, .int v4), (5, .int v5)] [] 106 1 I R L 0 0) (v3 : Int32) (v4 : Int32) (v5 : Int32) (h : b_X7_behindOne_45 Fu I k45_ v3 v4 v5 = some out) : mG X E 45 [(0, .ref (mB E + 62)), (3, .int v3), (4, .int v4), (5, .int v5)] [] 106 1 I R L 0 0 := by
  unfold b_X7_behindOne_45 at h
  refine g_iload hC dX7_behindOne_45 (q := 3) rfl ?_
  refine g_iconst hC dX7_behindOne_47 (v := (1 : Int32)) (by decide) ?_
  refine g_iadd hC dX7_behindOne_48 ?_
  refine g_aload_n hC dX7_behindOne_49 rfl (q := 0) rfl ?_
  refine g_geti hC fd_RX7_21 rfl (by decide) (Or.inl rfl) dX7_behindOne_50 ?_
  refine g_ic_ge hC dX7_behindOne_53 (tgt := 108) (by decide) (fun c53 => ?_) (fun c53 => ?_)
  · replace h := (if_pos c53).symm.trans h
    refine g_iload hC dX7_behindOne_108 (q := 2) rfl ?_
    cases h
    exact g_iret hC hE rfl dX7_behindOne_110 (Nat.zero_le _) (Nat.zero_le _) ⟨rfl, rfl, rfl, rfl, rfl, rfl⟩
  · replace h := (if_neg c53).symm.trans h
    refine g_iload_n hC dX7_behindOne_56 rfl (q := 1) rfl ?_
    refine g_iload hC dX7_behindOne_57 (q := 3) rfl ?_
    refine g_ishr hC dX7_behindOne_59 ?_
    refine g_iconst hC dX7_behindOne_60 (v := (1 : Int32)) (by decide) ?_
    refine g_iand hC dX7_behindOne_61 ?_
    refine g_iconst hC dX7_behindOne_62 (v := (1 : Int32)) (by decide) ?_
    refine g_ic_ne hC dX7_behindOne_63 (tgt := 102) (by decide) (fun c63 => ?_) (fun c63 => ?_)
    · replace h := (if_neg c63).symm.trans h
      refine g_iinc hC dX7_behindOne_102 rfl (q := 3) rfl (w := (v5 + (1 : Int32))) rfl (by decide) (lv' := [(5, .int (v5 + (1 : Int32))), (0, .ref (mB E + 62)), (3, .int v3), (4, .int v4)]) rfl ?_
      refine g_goto hC dX7_behindOne_105 (tgt := 45) (by decide) ?_
      refine g_lv [1, 2, 3, 0] rfl ?_
      exact hk45_ v3 v4 (v5 + (1 : Int32)) h
    · replace h := (if_pos c63).symm.trans h
      refine g_iload hC dX7_behindOne_66 (q := 2) rfl ?_
      refine g_iload hC dX7_behindOne_68 (q := 3) rfl ?_
      obtain ⟨r70, h70, h⟩ := oB_some h
      refine g_cS1 hC cs_X7_bellAt wd_745 ⟨Nat.le_of_ble_eq_true rfl, Nat.le_of_ble_eq_true rfl⟩ dX7_behindOne_70 (As := [.int v4, .int v5]) (st := []) (ok_X7_bellAt hC.2.2.2.2.2.2.2.1  h70) rfl rfl (Nat.le_of_ble_eq_true rfl) ⟨Nat.zero_le _, Nat.zero_le _⟩ ?_
      refine g_iload hC dX7_behindOne_73 (q := 2) rfl ?_
      refine g_iload hC dX7_behindOne_75 (q := 3) rfl ?_
      refine g_iconst hC dX7_behindOne_77 (v := (1 : Int32)) (by decide) ?_
      refine g_iadd hC dX7_behindOne_78 ?_
      obtain ⟨r79, h79, h⟩ := oB_some h
      refine g_cS1 hC cs_X7_bellAt wd_745 ⟨Nat.le_of_ble_eq_true rfl, Nat.le_of_ble_eq_true rfl⟩ dX7_behindOne_79 (As := [.int v4, .int (v5 + (1 : Int32))]) (st := [.int r70]) (ok_X7_bellAt hC.2.2.2.2.2.2.2.1  h79) rfl rfl (Nat.le_of_ble_eq_true rfl) ⟨Nat.zero_le _, Nat.zero_le _⟩ ?_
      refine g_ixor hC dX7_behindOne_82 ?_
      refine g_istore hC dX7_behindOne_83 rfl (by decide) (lv' := [(6, .int (r70 ^^^ r79)), (0, .ref (mB E + 62)), (3, .int v3), (4, .int v4), (5, .int v5)]) rfl ?_
      refine g_iload hC dX7_behindOne_85 (q := 3) rfl ?_
      refine g_iload hC dX7_behindOne_87 (q := 0) rfl ?_
      refine g_iload hC dX7_behindOne_89 (q := 0) rfl ?_
      refine g_iconst hC dX7_behindOne_91 (v := (3 : Int32)) (by decide) ?_
      refine g_ishl hC dX7_behindOne_92 ?_
      refine g_ior hC dX7_behindOne_93 ?_
      refine g_iconst hC dX7_behindOne_94 (v := (3 : Int32)) (by decide) ?_
      refine g_iload hC dX7_behindOne_95 (q := 4) rfl ?_
      refine g_imul hC dX7_behindOne_97 ?_
      refine g_ishl hC dX7_behindOne_98 ?_
      refine g_ixor hC dX7_behindOne_99 ?_
      refine g_istore hC dX7_behindOne_100 rfl (by decide) (lv' := [(4, .int (v4 ^^^ (((r70 ^^^ r79) ||| ((r70 ^^^ r79) <<< ((3 : Int32) &&& 31))) <<< (((3 : Int32) * v5) &&& 31)))), (6, .int (r70 ^^^ r79)), (0, .ref (mB E + 62)), (3, .int v3), (5, .int v5)]) rfl ?_
      refine g_iinc hC dX7_behindOne_102 rfl (q := 4) rfl (w := (v5 + (1 : Int32))) rfl (by decide) (lv' := [(5, .int (v5 + (1 : Int32))), (4, .int (v4 ^^^ (((r70 ^^^ r79) ||| ((r70 ^^^ r79) <<< ((3 : Int32) &&& 31))) <<< (((3 : Int32) * v5) &&& 31)))), (6, .int (r70 ^^^ r79)), (0, .ref (mB E + 62)), (3, .int v3)]) rfl ?_
      refine g_goto hC dX7_behindOne_105 (tgt := 45) (by decide) ?_
      refine g_lv [3, 4, 1, 0] rfl ?_
      exact hk45_ v3 (v4 ^^^ (((r70 ^^^ r79) ||| ((r70 ^^^ r79) <<< ((3 : Int32) &&& 31))) <<< (((3 : Int32) * v5) &&& 31))) (v5 + (1 : Int32)) h
noncomputable def w_X7_behindOne_45 (Fu : Nat) (I : mIT)  (N : Nat) (v3 : Int32) (v4 : Int32) (v5 : Int32) : Option (Int32) :=
  loopF (fun self (s : Int32 × Int32 × Int32) => b_X7_behindOne_45 Fu I self s.1 s.2.1 s.2.2) N (v3, v4, v5)
theorem wo_X7_behindOne_45 {X : mXT} {E : mEn} {Fu : Nat} {I : mIT} {R : mRT} {L : mLT}  (hC : mC X E mX7_behindOne RX7 cX7_behindOne) (hW : mWd R)   {out : Int32} (hE : mEd X E 0 0 (mSame (some (.int (out))) 106 1 I R L))  (N : Nat) (v3 : Int32) (v4 : Int32) (v5 : Int32) (h : w_X7_behindOne_45 Fu I  N v3 v4 v5 = some out) : mG X E 45 [(0, .ref (mB E + 62)), (3, .int v3), (4, .int v4), (5, .int v5)] [] 106 1 I R L 0 0 :=
  loopF_ok (Gd := fun s : Int32 × Int32 × Int32 => mG X E 45 [(0, .ref (mB E + 62)), (3, .int s.1), (4, .int s.2.1), (5, .int s.2.2)] [] 106 1 I R L 0 0) (fun self hs s h => bo_X7_behindOne_45 hC hW hE self (fun v3 v4 v5 h => hs (v3, v4, v5) h) s.1 s.2.1 s.2.2 h) N (v3, v4, v5) h
noncomputable def f_X7_behindOne (Fu : Nat) (I : mIT) (v1 : Int32) (v2 : Int32) : Option (Int32) :=
  if (I 62 4) ≤ 0 then (some (v1)) else (if v2 < 0 then (some (v1)) else (oG ((I 62 4) != 0) (if (v2 - v2 / (I 62 4) * (I 62 4)) < (nI 12) then (oG ((I 62 4) != 0) (oG (inB (v2 - v2 / (I 62 4) * (I 62 4)) 12) (w_X7_behindOne_45 Fu I Fu (I 64 ((v2 - v2 / (I 62 4) * (I 62 4))).toNatClampNeg) v1 (0 : Int32)))) else (some (v1)))))
set_option maxRecDepth 20000 in
theorem ok_X7_behindOne {l : Launch} {E : mEn} {Fu : Nat} {I : mIT} {R : mRT} {L : mLT} {v1 : Int32} {v2 : Int32} (hst : l.stackTraces = false) (hW : mWd R)  {out : Int32} (h : f_X7_behindOne Fu I v1 v2 = some out) : mOk l E mX7_behindOne [.ref (mB E + 62), .int v1, .int v2] 106 1 I R L 0 0 (mSame (some (.int (out))) 106 1 I R L) := by
  refine mOk_of hst (by decide) (Nat.le_of_ble_eq_true rfl) (fun X hC hE _ => ?_)
  have hC : mC X E mX7_behindOne RX7 cX7_behindOne := hC
  show mG X E 0 [(0, .ref (mB E + 62)), (1, .int v1), (2, .int v2)] [] 106 1 I R L 0 0
  unfold f_X7_behindOne at h
  refine g_aload_n hC dX7_behindOne_0 rfl (q := 0) rfl ?_
  refine g_geti hC fd_RX7_25 rfl (by decide) (Or.inl rfl) dX7_behindOne_1 ?_
  refine g_if_le hC dX7_behindOne_4 (tgt := 25) (by decide) (fun c4 => ?_) (fun c4 => ?_)
  · replace h := (if_pos c4).symm.trans h
    refine g_iload_n hC dX7_behindOne_25 rfl (q := 1) rfl ?_
    cases h
    exact g_iret hC hE rfl dX7_behindOne_26 (Nat.zero_le _) (Nat.zero_le _) ⟨rfl, rfl, rfl, rfl, rfl, rfl⟩
  · replace h := (if_neg c4).symm.trans h
    refine g_iload_n hC dX7_behindOne_7 rfl (q := 2) rfl ?_
    refine g_if_lt hC dX7_behindOne_8 (tgt := 25) (by decide) (fun c8 => ?_) (fun c8 => ?_)
    · replace h := (if_pos c8).symm.trans h
      refine g_iload_n hC dX7_behindOne_25 rfl (q := 1) rfl ?_
      cases h
      exact g_iret hC hE rfl dX7_behindOne_26 (Nat.zero_le _) (Nat.zero_le _) ⟨rfl, rfl, rfl, rfl, rfl, rfl⟩
    · replace h := (if_neg c8).symm.trans h
      refine g_iload_n hC dX7_behindOne_11 rfl (q := 2) rfl ?_
      refine g_aload_n hC dX7_behindOne_12 rfl (q := 0) rfl ?_
      refine g_geti hC fd_RX7_25 rfl (by decide) (Or.inl rfl) dX7_behindOne_13 ?_
      obtain ⟨g16, h⟩ := oG_some h
      refine g_irem hC dX7_behindOne_16 (mNz g16) ?_
      refine g_aload_n hC dX7_behindOne_17 rfl (q := 0) rfl ?_
      refine g_getr hC fd_RX7_15 rfl (by decide) (C0 := "") (t0 := _) (Or.inr rfl) (rr_62_1 hW.1) dX7_behindOne_18 ?_
      refine g_alenI hC rfl (by decide) dX7_behindOne_21 ?_
      refine g_ic_lt hC dX7_behindOne_22 (tgt := 27) (by decide) (fun c22 => ?_) (fun c22 => ?_)
      · replace h := (if_pos c22).symm.trans h
        refine g_aload_n hC dX7_behindOne_27 rfl (q := 0) rfl ?_
        refine g_getr hC fd_RX7_15 rfl (by decide) (C0 := "") (t0 := _) (Or.inr rfl) (rr_62_1 hW.1) dX7_behindOne_28 ?_
        refine g_iload_n hC dX7_behindOne_31 rfl (q := 2) rfl ?_
        refine g_aload_n hC dX7_behindOne_32 rfl (q := 0) rfl ?_
        refine g_geti hC fd_RX7_25 rfl (by decide) (Or.inl rfl) dX7_behindOne_33 ?_
        obtain ⟨g36, h⟩ := oG_some h
        refine g_irem hC dX7_behindOne_36 (mNz g36) ?_
        obtain ⟨g37, h⟩ := oG_some h
        refine g_iald hC rfl (by decide) (inB_in g37) dX7_behindOne_37 ?_
        refine g_istore_n hC dX7_behindOne_38 rfl rfl (by decide) (lv' := [(3, .int (I 64 ((v2 - v2 / (I 62 4) * (I 62 4))).toNatClampNeg)), (0, .ref (mB E + 62)), (1, .int v1), (2, .int v2)]) rfl ?_
        refine g_iload_n hC dX7_behindOne_39 rfl (q := 2) rfl ?_
        refine g_istore hC dX7_behindOne_40 rfl (by decide) (lv' := [(4, .int v1), (3, .int (I 64 ((v2 - v2 / (I 62 4) * (I 62 4))).toNatClampNeg)), (0, .ref (mB E + 62)), (1, .int v1), (2, .int v2)]) rfl ?_
        refine g_iconst hC dX7_behindOne_42 (v := (0 : Int32)) (by decide) ?_
        refine g_istore hC dX7_behindOne_43 rfl (by decide) (lv' := [(5, .int (0 : Int32)), (4, .int v1), (3, .int (I 64 ((v2 - v2 / (I 62 4) * (I 62 4))).toNatClampNeg)), (0, .ref (mB E + 62)), (1, .int v1), (2, .int v2)]) rfl ?_
        refine g_lv [3, 2, 1, 0] rfl ?_
        exact wo_X7_behindOne_45 hC hW hE Fu ((I 64 ((v2 - v2 / (I 62 4) * (I 62 4))).toNatClampNeg)) (v1) ((0 : Int32)) h
      · replace h := (if_neg c22).symm.trans h
        refine g_iload_n hC dX7_behindOne_25 rfl (q := 1) rfl ?_
        cases h
        exact g_iret hC hE rfl dX7_behindOne_26 (Nat.zero_le _) (Nat.zero_le _) ⟨rfl, rfl, rfl, rfl, rfl, rfl⟩
noncomputable def b_X7_rowBehind_5 (Fu : Nat) (I : mIT) (k5_ : Int32 × Int32 × Int32 → Option (Int32)) (v1 : Int32) (v2 : Int32) (v3 : Int32) : Option (Int32) :=
  if v1 ≤ v3 then (some (v2)) else (oB (f_X7_behindOne Fu I v2 v3) (fun r13 => k5_ (v1, r13, (v3 + (1 : Int32)))))
set_option maxRecDepth 20000 in
theorem bo_X7_rowBehind_5 {X : mXT} {E : mEn} {Fu : Nat} {I : mIT} {R : mRT} {L : mLT}  (hC : mC X E mX7_rowBehind RX7 cX7_rowBehind) (hW : mWd R)   {out : Int32} (hE : mEd X E 0 0 (mSame (some (.int (out))) 106 1 I R L)) (k5_ : Int32 × Int32 × Int32 → Option (Int32)) (hk5_ : ∀ (v1 : Int32) (v2 : Int32) (v3 : Int32),  k5_ (v1, v2, v3) = some out → mG X E 5 [(0, .ref (mB E + 62)), (1, .int v1), (2, .int v2), (3, .int v3)] [] 106 1 I R L 0 0) (v1 : Int32) (v2 : Int32) (v3 : Int32) (h : b_X7_rowBehind_5 Fu I k5_ v1 v2 v3 = some out) : mG X E 5 [(0, .ref (mB E + 62)), (1, .int v1), (2, .int v2), (3, .int v3)] [] 106 1 I R L 0 0 := by
  unfold b_X7_rowBehind_5 at h
  refine g_iload_n hC dX7_rowBehind_5 rfl (q := 3) rfl ?_
  refine g_iload_n hC dX7_rowBehind_6 rfl (q := 1) rfl ?_
  refine g_ic_ge hC dX7_rowBehind_7 (tgt := 23) (by decide) (fun c7 => ?_) (fun c7 => ?_)
  · replace h := (if_pos c7).symm.trans h
    refine g_iload_n hC dX7_rowBehind_23 rfl (q := 2) rfl ?_
    cases h
    exact g_iret hC hE rfl dX7_rowBehind_24 (Nat.zero_le _) (Nat.zero_le _) ⟨rfl, rfl, rfl, rfl, rfl, rfl⟩
  · replace h := (if_neg c7).symm.trans h
    refine g_aload_n hC dX7_rowBehind_10 rfl (q := 0) rfl ?_
    refine g_iload_n hC dX7_rowBehind_11 rfl (q := 2) rfl ?_
    refine g_iload_n hC dX7_rowBehind_12 rfl (q := 3) rfl ?_
    obtain ⟨r13, h13, h⟩ := oB_some h
    refine g_cV1 hC cv_X7_behindOne wd_741 ⟨Nat.le_of_ble_eq_true rfl, Nat.le_of_ble_eq_true rfl⟩ rfl (by decide) dX7_rowBehind_13 (As := [.int v2, .int v3]) (st := []) (ok_X7_behindOne hC.2.2.2.2.2.2.2.1 hW h13) rfl rfl (Nat.le_of_ble_eq_true rfl) ⟨Nat.zero_le _, Nat.zero_le _⟩ ?_
    refine g_istore_n hC dX7_rowBehind_16 rfl rfl (by decide) (lv' := [(2, .int r13), (0, .ref (mB E + 62)), (1, .int v1), (3, .int v3)]) rfl ?_
    refine g_iinc hC dX7_rowBehind_17 rfl (q := 3) rfl (w := (v3 + (1 : Int32))) rfl (by decide) (lv' := [(3, .int (v3 + (1 : Int32))), (2, .int r13), (0, .ref (mB E + 62)), (1, .int v1)]) rfl ?_
    refine g_goto hC dX7_rowBehind_20 (tgt := 5) (by decide) ?_
    refine g_lv [2, 3, 1, 0] rfl ?_
    exact hk5_ v1 r13 (v3 + (1 : Int32)) h
noncomputable def w_X7_rowBehind_5 (Fu : Nat) (I : mIT)  (N : Nat) (v1 : Int32) (v2 : Int32) (v3 : Int32) : Option (Int32) :=
  loopF (fun self (s : Int32 × Int32 × Int32) => b_X7_rowBehind_5 Fu I self s.1 s.2.1 s.2.2) N (v1, v2, v3)
theorem wo_X7_rowBehind_5 {X : mXT} {E : mEn} {Fu : Nat} {I : mIT} {R : mRT} {L : mLT}  (hC : mC X E mX7_rowBehind RX7 cX7_rowBehind) (hW : mWd R)   {out : Int32} (hE : mEd X E 0 0 (mSame (some (.int (out))) 106 1 I R L))  (N : Nat) (v1 : Int32) (v2 : Int32) (v3 : Int32) (h : w_X7_rowBehind_5 Fu I  N v1 v2 v3 = some out) : mG X E 5 [(0, .ref (mB E + 62)), (1, .int v1), (2, .int v2), (3, .int v3)] [] 106 1 I R L 0 0 :=
  loopF_ok (Gd := fun s : Int32 × Int32 × Int32 => mG X E 5 [(0, .ref (mB E + 62)), (1, .int s.1), (2, .int s.2.1), (3, .int s.2.2)] [] 106 1 I R L 0 0) (fun self hs s h => bo_X7_rowBehind_5 hC hW hE self (fun v1 v2 v3 h => hs (v1, v2, v3) h) s.1 s.2.1 s.2.2 h) N (v1, v2, v3) h
noncomputable def f_X7_rowBehind (Fu : Nat) (I : mIT) (v1 : Int32) : Option (Int32) :=
  w_X7_rowBehind_5 Fu I Fu v1 (181896 : Int32) (0 : Int32)
set_option maxRecDepth 20000 in
theorem ok_X7_rowBehind {l : Launch} {E : mEn} {Fu : Nat} {I : mIT} {R : mRT} {L : mLT} {v1 : Int32} (hst : l.stackTraces = false) (hW : mWd R)  {out : Int32} (h : f_X7_rowBehind Fu I v1 = some out) : mOk l E mX7_rowBehind [.ref (mB E + 62), .int v1] 106 1 I R L 0 0 (mSame (some (.int (out))) 106 1 I R L) := by
  refine mOk_of hst (by decide) (Nat.le_of_ble_eq_true rfl) (fun X hC hE _ => ?_)
  have hC : mC X E mX7_rowBehind RX7 cX7_rowBehind := hC
  show mG X E 0 [(0, .ref (mB E + 62)), (1, .int v1)] [] 106 1 I R L 0 0
  unfold f_X7_rowBehind at h
  refine g_ldc hC dX7_rowBehind_0 wd_740 ?_
  refine g_istore_n hC dX7_rowBehind_2 rfl rfl (by decide) (lv' := [(2, .int (181896 : Int32)), (0, .ref (mB E + 62)), (1, .int v1)]) rfl ?_
  refine g_iconst hC dX7_rowBehind_3 (v := (0 : Int32)) (by decide) ?_
  refine g_istore_n hC dX7_rowBehind_4 rfl rfl (by decide) (lv' := [(3, .int (0 : Int32)), (2, .int (181896 : Int32)), (0, .ref (mB E + 62)), (1, .int v1)]) rfl ?_
  refine g_lv [2, 3, 1, 0] rfl ?_
  exact wo_X7_rowBehind_5 hC hW hE Fu (v1) ((181896 : Int32)) ((0 : Int32)) h
noncomputable def f_X7_rootAt (Fu : Nat) (I : mIT) (v1 : Int32) (v2 : Int32) : Option (Int32) :=
  oB (f_X7_rowBehind Fu I v1) (fun r2 => oB (f_X7_bellAt Fu r2 v2) (fun r6 => if (nI 6) ≤ r6 then (some (-1 : Int32)) else (oG (inB r6 6) (some (I 63 (r6).toNatClampNeg)))))
set_option maxRecDepth 20000 in
theorem ok_X7_rootAt {l : Launch} {E : mEn} {Fu : Nat} {I : mIT} {R : mRT} {L : mLT} {v1 : Int32} {v2 : Int32} (hst : l.stackTraces = false) (hW : mWd R)  {out : Int32} (h : f_X7_rootAt Fu I v1 v2 = some out) : mOk l E mX7_rootAt [.ref (mB E + 62), .int v1, .int v2] 106 1 I R L 0 0 (mSame (some (.int (out))) 106 1 I R L) := by
  refine mOk_of hst (by decide) (Nat.le_of_ble_eq_true rfl) (fun X hC hE _ => ?_)
  have hC : mC X E mX7_rootAt RX7 cX7_rootAt := hC
  show mG X E 0 [(0, .ref (mB E + 62)), (1, .int v1), (2, .int v2)] [] 106 1 I R L 0 0
  unfold f_X7_rootAt at h
  refine g_aload_n hC dX7_rootAt_0 rfl (q := 0) rfl ?_
  refine g_iload_n hC dX7_rootAt_1 rfl (q := 1) rfl ?_
  obtain ⟨r2, h2, h⟩ := oB_some h
  refine g_cV1 hC cv_X7_rowBehind wd_1340 ⟨Nat.le_of_ble_eq_true rfl, Nat.le_of_ble_eq_true rfl⟩ rfl (by decide) dX7_rootAt_2 (As := [.int v1]) (st := []) (ok_X7_rowBehind hC.2.2.2.2.2.2.2.1 hW h2) rfl rfl (Nat.le_of_ble_eq_true rfl) ⟨Nat.zero_le _, Nat.zero_le _⟩ ?_
  refine g_iload_n hC dX7_rootAt_5 rfl (q := 2) rfl ?_
  obtain ⟨r6, h6, h⟩ := oB_some h
  refine g_cS1 hC cs_X7_bellAt wd_745 ⟨Nat.le_of_ble_eq_true rfl, Nat.le_of_ble_eq_true rfl⟩ dX7_rootAt_6 (As := [.int r2, .int v2]) (st := []) (ok_X7_bellAt hC.2.2.2.2.2.2.2.1  h6) rfl rfl (Nat.le_of_ble_eq_true rfl) ⟨Nat.zero_le _, Nat.zero_le _⟩ ?_
  refine g_istore_n hC dX7_rootAt_9 rfl rfl (by decide) (lv' := [(3, .int r6), (0, .ref (mB E + 62)), (1, .int v1), (2, .int v2)]) rfl ?_
  refine g_iload_n hC dX7_rootAt_10 rfl (q := 0) rfl ?_
  refine g_aload_n hC dX7_rootAt_11 rfl (q := 1) rfl ?_
  refine g_getr hC fd_RX7_9 rfl (by decide) (C0 := "") (t0 := _) (Or.inr rfl) (rr_62_0 hW.1) dX7_rootAt_12 ?_
  refine g_alenI hC rfl (by decide) dX7_rootAt_15 ?_
  refine g_ic_ge hC dX7_rootAt_16 (tgt := 28) (by decide) (fun c16 => ?_) (fun c16 => ?_)
  · replace h := (if_pos c16).symm.trans h
    refine g_iconst hC dX7_rootAt_28 (v := (-1 : Int32)) (by decide) ?_
    cases h
    exact g_iret hC hE rfl dX7_rootAt_29 (Nat.zero_le _) (Nat.zero_le _) ⟨rfl, rfl, rfl, rfl, rfl, rfl⟩
  · replace h := (if_neg c16).symm.trans h
    refine g_aload_n hC dX7_rootAt_19 rfl (q := 1) rfl ?_
    refine g_getr hC fd_RX7_9 rfl (by decide) (C0 := "") (t0 := _) (Or.inr rfl) (rr_62_0 hW.1) dX7_rootAt_20 ?_
    refine g_iload_n hC dX7_rootAt_23 rfl (q := 0) rfl ?_
    obtain ⟨g24, h⟩ := oG_some h
    refine g_iald hC rfl (by decide) (inB_in g24) dX7_rootAt_24 ?_
    refine g_goto hC dX7_rootAt_25 (tgt := 29) (by decide) ?_
    cases h
    exact g_iret hC hE rfl dX7_rootAt_29 (Nat.zero_le _) (Nat.zero_le _) ⟨rfl, rfl, rfl, rfl, rfl, rfl⟩
noncomputable def f_X11_at (Fu : Nat) (R : mRT) (I : mIT) (v1 : Int32) (v2 : Int32) : Option ((Int32 × mIT) ⊕ (Nat × mIT)) :=
  oX (f_X11_checkChanges Fu R I v1) (fun r2 => oB (R 0 3) (fun p10 => oB (f_X7_load Fu I p10 40) (fun r17 => if v2 < 0 then (some (.inr (1, r17))) else (oB (f_X7_bells Fu r17) (fun r29 => if v2 < r29 then (oB (f_X7_rootAt Fu r17 v1 v2) (fun r52 => some (.inl (r52, r17)))) else (some (.inr (1, r17))))))))
set_option maxRecDepth 20000 in
theorem oy_X11_at {l : Launch} {E : mEn} {Fu : Nat} {I : mIT} {R : mRT} {L : mLT} {v1 : Int32} {v2 : Int32} (hst : l.stackTraces = false) (hW : mWd R)  {out : (Int32 × mIT) ⊕ (Nat × mIT)} (h : f_X11_at Fu R I v1 v2 = some out) {mc ms : Nat} {post : Option Value → Nat → Nat → mIT → mRT → mLT → Prop} {px : String → Nat → Nat → mIT → mRT → mLT → Prop} (ho : Sum.elim (fun o : Int32 × mIT => post (some (.int (o.1))) 106 1 (o.2) R L) (fun q : Nat × mIT => 1 ≤ mc ∧ 6 ≤ ms ∧ px (xNm q.1) 106 1 q.2 R L) out) : mOx l E mX11_at [.ref (mB E + 0), .int v1, .int v2] 106 1 I R L mc ms post px := by
  refine mOx_of hst (by decide) (Nat.le_of_ble_eq_true rfl) (fun X hC hE0 _ => ?_)
  have hE : mEx X E mc ms post px ∧ Sum.elim (fun o : Int32 × mIT => post (some (.int (o.1))) 106 1 (o.2) R L) (fun q : Nat × mIT => 1 ≤ mc ∧ 6 ≤ ms ∧ px (xNm q.1) 106 1 q.2 R L) out := ⟨hE0, ho⟩
  have hC : mC X E mX11_at RX11 cX11_at := hC
  show mG X E 0 [(0, .ref (mB E + 0)), (1, .int v1), (2, .int v2)] [] 106 1 I R L 0 0
  unfold f_X11_at at h
  refine g_aload_n hC dX11_at_0 rfl (q := 0) rfl ?_
  refine g_iload_n hC dX11_at_1 rfl (q := 1) rfl ?_
  rcases oX_some h with ⟨r2, h2, h⟩ | ⟨q2, h2, h⟩
  case inr =>
    subst h
    have hq : 1 ≤ mc ∧ 6 ≤ ms ∧ px (xNm q2.1) 106 1 q2.2 R L := hE.2
    exact g_cVz hC hE.1 cv_X11_checkChanges wd_1331 ⟨Nat.le_of_ble_eq_true rfl, Nat.le_of_ble_eq_true rfl⟩ rfl (by decide) dX11_at_2 (As := [.int v1]) (st := []) (ox_X11_checkChanges hC.2.2.2.2.2.2.2.1 hW h2) rfl rfl (Nat.le_of_ble_eq_true rfl) ⟨by omega, by omega⟩ hq.2.2
  refine g_cVy0 hC hE.1 cv_X11_checkChanges wd_1331 ⟨Nat.le_of_ble_eq_true rfl, Nat.le_of_ble_eq_true rfl⟩ rfl (by decide) dX11_at_2 (As := [.int v1]) (st := []) (oi_X11_checkChanges hC.2.2.2.2.2.2.2.1 hW h2) rfl rfl (Nat.le_of_ble_eq_true rfl) ⟨Nat.zero_le _, Nat.zero_le _⟩ ?_
  refine g_aload_n hC dX11_at_5 rfl (q := 0) rfl ?_
  refine g_getr hC fd_RX11_75 rfl (by decide) (C0 := _) (t0 := .int) (Or.inl rfl) (rr_0_12 hW.1) dX11_at_6 ?_
  refine g_aload_n hC dX11_at_9 rfl (q := 0) rfl ?_
  obtain ⟨p10, e10, h⟩ := oB_some h
  have hp10 : mO5 R p10 := ob5 hW.1 (hW.2.1 p10 e10)
  refine g_getr hC fd_RX11_27 rfl (by decide) (C0 := _) (t0 := .int) (Or.inl rfl) e10 dX11_at_10 ?_
  refine g_aload_n hC dX11_at_13 rfl (q := 0) rfl ?_
  refine g_getr hC fd_RX11_34 rfl (by decide) (C0 := _) (t0 := .int) (Or.inl rfl) (rr_0_4 hW.1) dX11_at_14 ?_
  obtain ⟨r17, h17, h⟩ := oB_some h
  refine g_cV0 hC cv_X7_load wd_724 ⟨Nat.le_of_ble_eq_true rfl, Nat.le_of_ble_eq_true rfl⟩ rfl (by decide) dX11_at_17 (As := [.ref (mB E + p10), .ref (mB E + 40)]) (st := []) (ok_X7_load hC.2.2.2.2.2.2.2.1 hW hp10 (ob_40 hW.1) h17) rfl rfl (Nat.le_of_ble_eq_true rfl) ⟨Nat.zero_le _, Nat.zero_le _⟩ ?_
  refine g_iload_n hC dX11_at_20 rfl (q := 2) rfl ?_
  refine g_if_lt hC dX11_at_21 (tgt := 35) (by decide) (fun c21 => ?_) (fun c21 => ?_)
  · replace h := (if_pos c21).symm.trans h
    cases h
    have hq : 1 ≤ mc ∧ 6 ≤ ms ∧ px (xNm 1) 106 1 r17 R L := hE.2
    exact g_thrw hC hE.1 tw_RX11_180 (j := 29) rfl dX11_at_35 dX11_at_38 dX11_at_39 dX11_at_42 dX11_at_45 (Nat.le_of_ble_eq_true rfl) (Nat.le_of_ble_eq_true rfl) (by decide) hq.1 hq.2.1 hq.2.2
  · replace h := (if_neg c21).symm.trans h
    refine g_iload_n hC dX11_at_24 rfl (q := 2) rfl ?_
    refine g_aload_n hC dX11_at_25 rfl (q := 0) rfl ?_
    refine g_getr hC fd_RX11_75 rfl (by decide) (C0 := _) (t0 := .int) (Or.inl rfl) (rr_0_12 hW.1) dX11_at_26 ?_
    obtain ⟨r29, h29, h⟩ := oB_some h
    refine g_cV1 hC cv_X7_bells wd_1351 ⟨Nat.le_of_ble_eq_true rfl, Nat.le_of_ble_eq_true rfl⟩ rfl (by decide) dX11_at_29 (As := []) (st := [.int v2]) (ok_X7_bells hC.2.2.2.2.2.2.2.1 hW h29) rfl rfl (Nat.le_of_ble_eq_true rfl) ⟨Nat.zero_le _, Nat.zero_le _⟩ ?_
    refine g_ic_lt hC dX11_at_32 (tgt := 46) (by decide) (fun c32 => ?_) (fun c32 => ?_)
    · replace h := (if_pos c32).symm.trans h
      refine g_aload_n hC dX11_at_46 rfl (q := 0) rfl ?_
      refine g_getr hC fd_RX11_75 rfl (by decide) (C0 := _) (t0 := .int) (Or.inl rfl) (rr_0_12 hW.1) dX11_at_47 ?_
      refine g_iload_n hC dX11_at_50 rfl (q := 1) rfl ?_
      refine g_iload_n hC dX11_at_51 rfl (q := 2) rfl ?_
      obtain ⟨r52, h52, h⟩ := oB_some h
      refine g_cV1 hC cv_X7_rootAt wd_1356 ⟨Nat.le_of_ble_eq_true rfl, Nat.le_of_ble_eq_true rfl⟩ rfl (by decide) dX11_at_52 (As := [.int v1, .int v2]) (st := []) (ok_X7_rootAt hC.2.2.2.2.2.2.2.1 hW h52) rfl rfl (Nat.le_of_ble_eq_true rfl) ⟨Nat.zero_le _, Nat.zero_le _⟩ ?_
      cases h
      exact g_xiret hC hE.1 rfl dX11_at_55 (Nat.zero_le _) (Nat.zero_le _) hE.2
    · replace h := (if_neg c32).symm.trans h
      cases h
      have hq : 1 ≤ mc ∧ 6 ≤ ms ∧ px (xNm 1) 106 1 r17 R L := hE.2
      exact g_thrw hC hE.1 tw_RX11_180 (j := 29) rfl dX11_at_35 dX11_at_38 dX11_at_39 dX11_at_42 dX11_at_45 (Nat.le_of_ble_eq_true rfl) (Nat.le_of_ble_eq_true rfl) (by decide) hq.1 hq.2.1 hq.2.2
theorem oi_X11_at {l : Launch} {E : mEn} {Fu : Nat} {I : mIT} {R : mRT} {L : mLT} {v1 : Int32} {v2 : Int32} (hst : l.stackTraces = false) (hW : mWd R)  {out : Int32 × mIT} (h : f_X11_at Fu R I v1 v2 = some (.inl out)) : mOx l E mX11_at [.ref (mB E + 0), .int v1, .int v2] 106 1 I R L 0 0 (mSame (some (.int (out.1))) 106 1 (out.2) R L) (fun _ _ _ _ _ _ => False) := oy_X11_at hst hW h ⟨rfl, rfl, rfl, rfl, rfl, rfl⟩
theorem ox_X11_at {l : Launch} {E : mEn} {Fu : Nat} {I : mIT} {R : mRT} {L : mLT} {v1 : Int32} {v2 : Int32} (hst : l.stackTraces = false) (hW : mWd R)  {q : Nat × mIT} (h : f_X11_at Fu R I v1 v2 = some (.inr q)) : mOx l E mX11_at [.ref (mB E + 0), .int v1, .int v2] 106 1 I R L 1 6 (fun _ _ _ _ _ _ => False) (mXp q.1 106 1 q.2 R L) := oy_X11_at hst hW h ⟨Nat.le_refl _, Nat.le_refl _, rfl, rfl, rfl, rfl, rfl, rfl⟩
noncomputable def b_X11_bitsAt_4 (Fu : Nat) (R : mRT) (I : mIT) (k4_ : Int32 × Int32 × Int32 → Option (Int32)) (v1 : Int32) (v2 : Int32) (v3 : Int32) : Option (Int32) :=
  oB (R 0 3) (fun p6 => if (I p6 3) ≤ v3 then (some (v2)) else (oB (f_X9_placeOf Fu I 40 v3) (fun r21 => if r21 = v1 then (k4_ (v1, (v2 ||| ((1 : Int32) <<< (v3 &&& 31))), (v3 + (1 : Int32)))) else (k4_ (v1, (v2 ||| (0 : Int32)), (v3 + (1 : Int32)))))))
set_option maxRecDepth 20000 in
theorem bo_X11_bitsAt_4 {X : mXT} {E : mEn} {Fu : Nat} {I : mIT} {R : mRT} {L : mLT}  (hC : mC X E mX11_bitsAt RX11 cX11_bitsAt) (hW : mWd R)   {out : Int32} (hE : mEd X E 0 0 (mSame (some (.int (out))) 106 1 I R L)) (k4_ : Int32 × Int32 × Int32 → Option (Int32)) (hk4_ : ∀ (v1 : Int32) (v2 : Int32) (v3 : Int32),  k4_ (v1, v2, v3) = some out → mG X E 4 [(0, .ref (mB E + 0)), (1, .int v1), (2, .int v2), (3, .int v3)] [] 106 1 I R L 0 0) (v1 : Int32) (v2 : Int32) (v3 : Int32) (h : b_X11_bitsAt_4 Fu R I k4_ v1 v2 v3 = some out) : mG X E 4 [(0, .ref (mB E + 0)), (1, .int v1), (2, .int v2), (3, .int v3)] [] 106 1 I R L 0 0 := by
  unfold b_X11_bitsAt_4 at h
  refine g_iload_n hC dX11_bitsAt_4 rfl (q := 3) rfl ?_
  refine g_aload_n hC dX11_bitsAt_5 rfl (q := 0) rfl ?_
  obtain ⟨p6, e6, h⟩ := oB_some h
  have hp6 : mO5 R p6 := ob5 hW.1 (hW.2.1 p6 e6)
  refine g_getr hC fd_RX11_27 rfl (by decide) (C0 := _) (t0 := .int) (Or.inl rfl) e6 dX11_bitsAt_6 ?_
  refine g_geti hC fd_RX11_140 hp6.2.1 hp6.1 (Or.inl rfl) dX11_bitsAt_9 ?_
  refine g_ic_ge hC dX11_bitsAt_12 (tgt := 43) (by decide) (fun c12 => ?_) (fun c12 => ?_)
  · replace h := (if_pos c12).symm.trans h
    refine g_iload_n hC dX11_bitsAt_43 rfl (q := 2) rfl ?_
    cases h
    exact g_iret hC hE rfl dX11_bitsAt_44 (Nat.zero_le _) (Nat.zero_le _) ⟨rfl, rfl, rfl, rfl, rfl, rfl⟩
  · replace h := (if_neg c12).symm.trans h
    refine g_iload_n hC dX11_bitsAt_15 rfl (q := 2) rfl ?_
    refine g_aload_n hC dX11_bitsAt_16 rfl (q := 0) rfl ?_
    refine g_getr hC fd_RX11_34 rfl (by decide) (C0 := _) (t0 := .int) (Or.inl rfl) (rr_0_4 hW.1) dX11_bitsAt_17 ?_
    refine g_iload_n hC dX11_bitsAt_20 rfl (q := 3) rfl ?_
    obtain ⟨r21, h21, h⟩ := oB_some h
    refine g_cV1 hC cv_X9_placeOf wd_719 ⟨Nat.le_of_ble_eq_true rfl, Nat.le_of_ble_eq_true rfl⟩ rfl (by decide) dX11_bitsAt_21 (As := [.int v3]) (st := [.int v2]) (ok_X9_placeOf hC.2.2.2.2.2.2.2.1 (ob_40 hW.1) h21) rfl rfl (Nat.le_of_ble_eq_true rfl) ⟨Nat.zero_le _, Nat.zero_le _⟩ ?_
    refine g_iload_n hC dX11_bitsAt_24 rfl (q := 1) rfl ?_
    refine g_ic_ne hC dX11_bitsAt_25 (tgt := 34) (by decide) (fun c25 => ?_) (fun c25 => ?_)
    · replace h := (if_neg c25).symm.trans h
      refine g_iconst hC dX11_bitsAt_34 (v := (0 : Int32)) (by decide) ?_
      refine g_ior hC dX11_bitsAt_35 ?_
      refine g_istore_n hC dX11_bitsAt_36 rfl rfl (by decide) (lv' := [(2, .int (v2 ||| (0 : Int32))), (0, .ref (mB E + 0)), (1, .int v1), (3, .int v3)]) rfl ?_
      refine g_iinc hC dX11_bitsAt_37 rfl (q := 3) rfl (w := (v3 + (1 : Int32))) rfl (by decide) (lv' := [(3, .int (v3 + (1 : Int32))), (2, .int (v2 ||| (0 : Int32))), (0, .ref (mB E + 0)), (1, .int v1)]) rfl ?_
      refine g_goto hC dX11_bitsAt_40 (tgt := 4) (by decide) ?_
      refine g_lv [2, 3, 1, 0] rfl ?_
      exact hk4_ v1 (v2 ||| (0 : Int32)) (v3 + (1 : Int32)) h
    · replace h := (if_pos c25).symm.trans h
      refine g_iconst hC dX11_bitsAt_28 (v := (1 : Int32)) (by decide) ?_
      refine g_iload_n hC dX11_bitsAt_29 rfl (q := 3) rfl ?_
      refine g_ishl hC dX11_bitsAt_30 ?_
      refine g_goto hC dX11_bitsAt_31 (tgt := 35) (by decide) ?_
      refine g_ior hC dX11_bitsAt_35 ?_
      refine g_istore_n hC dX11_bitsAt_36 rfl rfl (by decide) (lv' := [(2, .int (v2 ||| ((1 : Int32) <<< (v3 &&& 31)))), (0, .ref (mB E + 0)), (1, .int v1), (3, .int v3)]) rfl ?_
      refine g_iinc hC dX11_bitsAt_37 rfl (q := 3) rfl (w := (v3 + (1 : Int32))) rfl (by decide) (lv' := [(3, .int (v3 + (1 : Int32))), (2, .int (v2 ||| ((1 : Int32) <<< (v3 &&& 31)))), (0, .ref (mB E + 0)), (1, .int v1)]) rfl ?_
      refine g_goto hC dX11_bitsAt_40 (tgt := 4) (by decide) ?_
      refine g_lv [2, 3, 1, 0] rfl ?_
      exact hk4_ v1 (v2 ||| ((1 : Int32) <<< (v3 &&& 31))) (v3 + (1 : Int32)) h
noncomputable def w_X11_bitsAt_4 (Fu : Nat) (R : mRT) (I : mIT)  (N : Nat) (v1 : Int32) (v2 : Int32) (v3 : Int32) : Option (Int32) :=
  loopF (fun self (s : Int32 × Int32 × Int32) => b_X11_bitsAt_4 Fu R I self s.1 s.2.1 s.2.2) N (v1, v2, v3)
theorem wo_X11_bitsAt_4 {X : mXT} {E : mEn} {Fu : Nat} {I : mIT} {R : mRT} {L : mLT}  (hC : mC X E mX11_bitsAt RX11 cX11_bitsAt) (hW : mWd R)   {out : Int32} (hE : mEd X E 0 0 (mSame (some (.int (out))) 106 1 I R L))  (N : Nat) (v1 : Int32) (v2 : Int32) (v3 : Int32) (h : w_X11_bitsAt_4 Fu R I  N v1 v2 v3 = some out) : mG X E 4 [(0, .ref (mB E + 0)), (1, .int v1), (2, .int v2), (3, .int v3)] [] 106 1 I R L 0 0 :=
  loopF_ok (Gd := fun s : Int32 × Int32 × Int32 => mG X E 4 [(0, .ref (mB E + 0)), (1, .int s.1), (2, .int s.2.1), (3, .int s.2.2)] [] 106 1 I R L 0 0) (fun self hs s h => bo_X11_bitsAt_4 hC hW hE self (fun v1 v2 v3 h => hs (v1, v2, v3) h) s.1 s.2.1 s.2.2 h) N (v1, v2, v3) h
noncomputable def f_X11_bitsAt (Fu : Nat) (R : mRT) (I : mIT) (v1 : Int32) : Option (Int32) :=
  w_X11_bitsAt_4 Fu R I Fu v1 (0 : Int32) (0 : Int32)
set_option maxRecDepth 20000 in
theorem ok_X11_bitsAt {l : Launch} {E : mEn} {Fu : Nat} {I : mIT} {R : mRT} {L : mLT} {v1 : Int32} (hst : l.stackTraces = false) (hW : mWd R)  {out : Int32} (h : f_X11_bitsAt Fu R I v1 = some out) : mOk l E mX11_bitsAt [.ref (mB E + 0), .int v1] 106 1 I R L 0 0 (mSame (some (.int (out))) 106 1 I R L) := by
  refine mOk_of hst (by decide) (Nat.le_of_ble_eq_true rfl) (fun X hC hE _ => ?_)
  have hC : mC X E mX11_bitsAt RX11 cX11_bitsAt := hC
  show mG X E 0 [(0, .ref (mB E + 0)), (1, .int v1)] [] 106 1 I R L 0 0
  unfold f_X11_bitsAt at h
  refine g_iconst hC dX11_bitsAt_0 (v := (0 : Int32)) (by decide) ?_
  refine g_istore_n hC dX11_bitsAt_1 rfl rfl (by decide) (lv' := [(2, .int (0 : Int32)), (0, .ref (mB E + 0)), (1, .int v1)]) rfl ?_
  refine g_iconst hC dX11_bitsAt_2 (v := (0 : Int32)) (by decide) ?_
  refine g_istore_n hC dX11_bitsAt_3 rfl rfl (by decide) (lv' := [(3, .int (0 : Int32)), (2, .int (0 : Int32)), (0, .ref (mB E + 0)), (1, .int v1)]) rfl ?_
  refine g_lv [2, 3, 1, 0] rfl ?_
  exact wo_X11_bitsAt_4 hC hW hE Fu (v1) ((0 : Int32)) ((0 : Int32)) h
noncomputable def f_X11_change (Fu : Nat) (R : mRT) (I : mIT) (v1 : Int32) : Option ((Int32) ⊕ (Nat × mIT)) :=
  oX (f_X11_checkChange Fu R I v1) (fun r2 => oB (f_X9_changeAt Fu I 40 v1) (fun r10 => some (.inl r10)))
set_option maxRecDepth 20000 in
theorem oy_X11_change {l : Launch} {E : mEn} {Fu : Nat} {I : mIT} {R : mRT} {L : mLT} {v1 : Int32} (hst : l.stackTraces = false) (hW : mWd R)  {out : (Int32) ⊕ (Nat × mIT)} (h : f_X11_change Fu R I v1 = some out) {mc ms : Nat} {post : Option Value → Nat → Nat → mIT → mRT → mLT → Prop} {px : String → Nat → Nat → mIT → mRT → mLT → Prop} (ho : Sum.elim (fun o : Int32 => post (some (.int (o))) 106 1 I R L) (fun q : Nat × mIT => 1 ≤ mc ∧ 6 ≤ ms ∧ px (xNm q.1) 106 1 q.2 R L) out) : mOx l E mX11_change [.ref (mB E + 0), .int v1] 106 1 I R L mc ms post px := by
  refine mOx_of hst (by decide) (Nat.le_of_ble_eq_true rfl) (fun X hC hE0 _ => ?_)
  have hE : mEx X E mc ms post px ∧ Sum.elim (fun o : Int32 => post (some (.int (o))) 106 1 I R L) (fun q : Nat × mIT => 1 ≤ mc ∧ 6 ≤ ms ∧ px (xNm q.1) 106 1 q.2 R L) out := ⟨hE0, ho⟩
  have hC : mC X E mX11_change RX11 cX11_change := hC
  show mG X E 0 [(0, .ref (mB E + 0)), (1, .int v1)] [] 106 1 I R L 0 0
  unfold f_X11_change at h
  refine g_aload_n hC dX11_change_0 rfl (q := 0) rfl ?_
  refine g_iload_n hC dX11_change_1 rfl (q := 1) rfl ?_
  rcases oX_some h with ⟨r2, h2, h⟩ | ⟨q2, h2, h⟩
  case inr =>
    subst h
    have hq : 1 ≤ mc ∧ 6 ≤ ms ∧ px (xNm q2.1) 106 1 q2.2 R L := hE.2
    exact g_cVz hC hE.1 cv_X11_checkChange wd_1230 ⟨Nat.le_of_ble_eq_true rfl, Nat.le_of_ble_eq_true rfl⟩ rfl (by decide) dX11_change_2 (As := [.int v1]) (st := []) (ox_X11_checkChange hC.2.2.2.2.2.2.2.1 hW h2) rfl rfl (Nat.le_of_ble_eq_true rfl) ⟨by omega, by omega⟩ hq.2.2
  refine g_cVy0 hC hE.1 cv_X11_checkChange wd_1230 ⟨Nat.le_of_ble_eq_true rfl, Nat.le_of_ble_eq_true rfl⟩ rfl (by decide) dX11_change_2 (As := [.int v1]) (st := []) (oi_X11_checkChange hC.2.2.2.2.2.2.2.1 hW h2) rfl rfl (Nat.le_of_ble_eq_true rfl) ⟨Nat.zero_le _, Nat.zero_le _⟩ ?_
  refine g_aload_n hC dX11_change_5 rfl (q := 0) rfl ?_
  refine g_getr hC fd_RX11_34 rfl (by decide) (C0 := _) (t0 := .int) (Or.inl rfl) (rr_0_4 hW.1) dX11_change_6 ?_
  refine g_iload_n hC dX11_change_9 rfl (q := 1) rfl ?_
  obtain ⟨r10, h10, h⟩ := oB_some h
  refine g_cV1 hC cv_X9_changeAt wd_1235 ⟨Nat.le_of_ble_eq_true rfl, Nat.le_of_ble_eq_true rfl⟩ rfl (by decide) dX11_change_10 (As := [.int v1]) (st := []) (ok_X9_changeAt hC.2.2.2.2.2.2.2.1 (ob_40 hW.1) h10) rfl rfl (Nat.le_of_ble_eq_true rfl) ⟨Nat.zero_le _, Nat.zero_le _⟩ ?_
  cases h
  exact g_xiret hC hE.1 rfl dX11_change_13 (Nat.zero_le _) (Nat.zero_le _) hE.2
theorem oi_X11_change {l : Launch} {E : mEn} {Fu : Nat} {I : mIT} {R : mRT} {L : mLT} {v1 : Int32} (hst : l.stackTraces = false) (hW : mWd R)  {out : Int32} (h : f_X11_change Fu R I v1 = some (.inl out)) : mOx l E mX11_change [.ref (mB E + 0), .int v1] 106 1 I R L 0 0 (mSame (some (.int (out))) 106 1 I R L) (fun _ _ _ _ _ _ => False) := oy_X11_change hst hW h ⟨rfl, rfl, rfl, rfl, rfl, rfl⟩
theorem ox_X11_change {l : Launch} {E : mEn} {Fu : Nat} {I : mIT} {R : mRT} {L : mLT} {v1 : Int32} (hst : l.stackTraces = false) (hW : mWd R)  {q : Nat × mIT} (h : f_X11_change Fu R I v1 = some (.inr q)) : mOx l E mX11_change [.ref (mB E + 0), .int v1] 106 1 I R L 1 6 (fun _ _ _ _ _ _ => False) (mXp q.1 106 1 q.2 R L) := oy_X11_change hst hW h ⟨Nat.le_refl _, Nat.le_refl _, rfl, rfl, rfl, rfl, rfl, rfl⟩
noncomputable def f_X11_checkFar (Fu : Nat) (I : mIT) (v1 : Int32) : Option ((Unit) ⊕ (Nat × mIT)) :=
  if v1 < 0 then (some (.inr (2, I))) else (if v1 ≤ (60 : Int32) then (some (.inl ())) else (some (.inr (2, I))))
set_option maxRecDepth 20000 in
theorem oy_X11_checkFar {l : Launch} {E : mEn} {Fu : Nat} {I : mIT} {R : mRT} {L : mLT} {v1 : Int32} (hst : l.stackTraces = false) (hW : mWd R)  {out : (Unit) ⊕ (Nat × mIT)} (h : f_X11_checkFar Fu I v1 = some out) {mc ms : Nat} {post : Option Value → Nat → Nat → mIT → mRT → mLT → Prop} {px : String → Nat → Nat → mIT → mRT → mLT → Prop} (ho : Sum.elim (fun o : Unit => post none 106 1 I R L) (fun q : Nat × mIT => 1 ≤ mc ∧ 6 ≤ ms ∧ px (xNm q.1) 106 1 q.2 R L) out) : mOx l E mX11_checkFar [.ref (mB E + 0), .int v1] 106 1 I R L mc ms post px := by
  refine mOx_of hst (by decide) (Nat.le_of_ble_eq_true rfl) (fun X hC hE0 _ => ?_)
  have hE : mEx X E mc ms post px ∧ Sum.elim (fun o : Unit => post none 106 1 I R L) (fun q : Nat × mIT => 1 ≤ mc ∧ 6 ≤ ms ∧ px (xNm q.1) 106 1 q.2 R L) out := ⟨hE0, ho⟩
  have hC : mC X E mX11_checkFar RX11 cX11_checkFar := hC
  show mG X E 0 [(0, .ref (mB E + 0)), (1, .int v1)] [] 106 1 I R L 0 0
  unfold f_X11_checkFar at h
  refine g_iload_n hC dX11_checkFar_0 rfl (q := 1) rfl ?_
  refine g_if_lt hC dX11_checkFar_1 (tgt := 10) (by decide) (fun c1 => ?_) (fun c1 => ?_)
  · replace h := (if_pos c1).symm.trans h
    cases h
    have hq : 1 ≤ mc ∧ 6 ≤ ms ∧ px (xNm 2) 106 1 I R L := hE.2
    exact g_thrw hC hE.1 tw_RX11_108 (j := 26) rfl dX11_checkFar_10 dX11_checkFar_13 dX11_checkFar_14 dX11_checkFar_17 dX11_checkFar_20 (Nat.le_of_ble_eq_true rfl) (Nat.le_of_ble_eq_true rfl) (by decide) hq.1 hq.2.1 hq.2.2
  · replace h := (if_neg c1).symm.trans h
    refine g_iload_n hC dX11_checkFar_4 rfl (q := 1) rfl ?_
    refine g_bipush hC dX11_checkFar_5 (v := (60 : Int32)) (by decide) ?_
    refine g_ic_le hC dX11_checkFar_7 (tgt := 21) (by decide) (fun c7 => ?_) (fun c7 => ?_)
    · replace h := (if_pos c7).symm.trans h
      cases h
      exact g_xvret hC hE.1 rfl dX11_checkFar_21 (Nat.zero_le _) (Nat.zero_le _) hE.2
    · replace h := (if_neg c7).symm.trans h
      cases h
      have hq : 1 ≤ mc ∧ 6 ≤ ms ∧ px (xNm 2) 106 1 I R L := hE.2
      exact g_thrw hC hE.1 tw_RX11_108 (j := 26) rfl dX11_checkFar_10 dX11_checkFar_13 dX11_checkFar_14 dX11_checkFar_17 dX11_checkFar_20 (Nat.le_of_ble_eq_true rfl) (Nat.le_of_ble_eq_true rfl) (by decide) hq.1 hq.2.1 hq.2.2
theorem oi_X11_checkFar {l : Launch} {E : mEn} {Fu : Nat} {I : mIT} {R : mRT} {L : mLT} {v1 : Int32} (hst : l.stackTraces = false) (hW : mWd R)  {out : Unit} (h : f_X11_checkFar Fu I v1 = some (.inl out)) : mOx l E mX11_checkFar [.ref (mB E + 0), .int v1] 106 1 I R L 0 0 (mSame none 106 1 I R L) (fun _ _ _ _ _ _ => False) := oy_X11_checkFar hst hW h ⟨rfl, rfl, rfl, rfl, rfl, rfl⟩
theorem ox_X11_checkFar {l : Launch} {E : mEn} {Fu : Nat} {I : mIT} {R : mRT} {L : mLT} {v1 : Int32} (hst : l.stackTraces = false) (hW : mWd R)  {q : Nat × mIT} (h : f_X11_checkFar Fu I v1 = some (.inr q)) : mOx l E mX11_checkFar [.ref (mB E + 0), .int v1] 106 1 I R L 1 6 (fun _ _ _ _ _ _ => False) (mXp q.1 106 1 q.2 R L) := oy_X11_checkFar hst hW h ⟨Nat.le_refl _, Nat.le_refl _, rfl, rfl, rfl, rfl, rfl, rfl⟩
noncomputable def f_X11_checkHook (Fu : Nat) (I : mIT) (v1 : Int32) : Option ((Unit) ⊕ (Nat × mIT)) :=
  if v1 < 0 then (some (.inr (1, I))) else (if v1 < (6 : Int32) then (some (.inl ())) else (some (.inr (1, I))))
set_option maxRecDepth 20000 in
theorem oy_X11_checkHook {l : Launch} {E : mEn} {Fu : Nat} {I : mIT} {R : mRT} {L : mLT} {v1 : Int32} (hst : l.stackTraces = false) (hW : mWd R)  {out : (Unit) ⊕ (Nat × mIT)} (h : f_X11_checkHook Fu I v1 = some out) {mc ms : Nat} {post : Option Value → Nat → Nat → mIT → mRT → mLT → Prop} {px : String → Nat → Nat → mIT → mRT → mLT → Prop} (ho : Sum.elim (fun o : Unit => post none 106 1 I R L) (fun q : Nat × mIT => 1 ≤ mc ∧ 6 ≤ ms ∧ px (xNm q.1) 106 1 q.2 R L) out) : mOx l E mX11_checkHook [.ref (mB E + 0), .int v1] 106 1 I R L mc ms post px := by
  refine mOx_of hst (by decide) (Nat.le_of_ble_eq_true rfl) (fun X hC hE0 _ => ?_)
  have hE : mEx X E mc ms post px ∧ Sum.elim (fun o : Unit => post none 106 1 I R L) (fun q : Nat × mIT => 1 ≤ mc ∧ 6 ≤ ms ∧ px (xNm q.1) 106 1 q.2 R L) out := ⟨hE0, ho⟩
  have hC : mC X E mX11_checkHook RX11 cX11_checkHook := hC
  show mG X E 0 [(0, .ref (mB E + 0)), (1, .int v1)] [] 106 1 I R L 0 0
  unfold f_X11_checkHook at h
  refine g_iload_n hC dX11_checkHook_0 rfl (q := 1) rfl ?_
  refine g_if_lt hC dX11_checkHook_1 (tgt := 10) (by decide) (fun c1 => ?_) (fun c1 => ?_)
  · replace h := (if_pos c1).symm.trans h
    cases h
    have hq : 1 ≤ mc ∧ 6 ≤ ms ∧ px (xNm 1) 106 1 I R L := hE.2
    exact g_thrw hC hE.1 tw_RX11_180 (j := 23) rfl dX11_checkHook_10 dX11_checkHook_13 dX11_checkHook_14 dX11_checkHook_17 dX11_checkHook_20 (Nat.le_of_ble_eq_true rfl) (Nat.le_of_ble_eq_true rfl) (by decide) hq.1 hq.2.1 hq.2.2
  · replace h := (if_neg c1).symm.trans h
    refine g_iload_n hC dX11_checkHook_4 rfl (q := 1) rfl ?_
    refine g_bipush hC dX11_checkHook_5 (v := (6 : Int32)) (by decide) ?_
    refine g_ic_lt hC dX11_checkHook_7 (tgt := 21) (by decide) (fun c7 => ?_) (fun c7 => ?_)
    · replace h := (if_pos c7).symm.trans h
      cases h
      exact g_xvret hC hE.1 rfl dX11_checkHook_21 (Nat.zero_le _) (Nat.zero_le _) hE.2
    · replace h := (if_neg c7).symm.trans h
      cases h
      have hq : 1 ≤ mc ∧ 6 ≤ ms ∧ px (xNm 1) 106 1 I R L := hE.2
      exact g_thrw hC hE.1 tw_RX11_180 (j := 23) rfl dX11_checkHook_10 dX11_checkHook_13 dX11_checkHook_14 dX11_checkHook_17 dX11_checkHook_20 (Nat.le_of_ble_eq_true rfl) (Nat.le_of_ble_eq_true rfl) (by decide) hq.1 hq.2.1 hq.2.2
theorem oi_X11_checkHook {l : Launch} {E : mEn} {Fu : Nat} {I : mIT} {R : mRT} {L : mLT} {v1 : Int32} (hst : l.stackTraces = false) (hW : mWd R)  {out : Unit} (h : f_X11_checkHook Fu I v1 = some (.inl out)) : mOx l E mX11_checkHook [.ref (mB E + 0), .int v1] 106 1 I R L 0 0 (mSame none 106 1 I R L) (fun _ _ _ _ _ _ => False) := oy_X11_checkHook hst hW h ⟨rfl, rfl, rfl, rfl, rfl, rfl⟩
theorem ox_X11_checkHook {l : Launch} {E : mEn} {Fu : Nat} {I : mIT} {R : mRT} {L : mLT} {v1 : Int32} (hst : l.stackTraces = false) (hW : mWd R)  {q : Nat × mIT} (h : f_X11_checkHook Fu I v1 = some (.inr q)) : mOx l E mX11_checkHook [.ref (mB E + 0), .int v1] 106 1 I R L 1 6 (fun _ _ _ _ _ _ => False) (mXp q.1 106 1 q.2 R L) := oy_X11_checkHook hst hW h ⟨Nat.le_refl _, Nat.le_refl _, rfl, rfl, rfl, rfl, rfl, rfl⟩
noncomputable def f_X11_isNote (Fu : Nat)  (v0 : Int32) : Option (Int32) :=
  if v0 < 0 then (some (0 : Int32)) else (if (16 : Int32) ≤ v0 then (some (0 : Int32)) else (some (1 : Int32)))
set_option maxRecDepth 20000 in
theorem ok_X11_isNote {l : Launch} {E : mEn} {Fu : Nat} {I : mIT} {R : mRT} {L : mLT} {v0 : Int32} (hst : l.stackTraces = false)  {out : Int32} (h : f_X11_isNote Fu  v0 = some out) : mOk l E mX11_isNote [.int v0] 106 1 I R L 0 0 (mSame (some (.int (out))) 106 1 I R L) := by
  refine mOk_of hst (by decide) (Nat.le_of_ble_eq_true rfl) (fun X hC hE _ => ?_)
  have hC : mC X E mX11_isNote RX11 cX11_isNote := hC
  show mG X E 0 [(0, .int v0)] [] 106 1 I R L 0 0
  unfold f_X11_isNote at h
  refine g_iload_n hC dX11_isNote_0 rfl (q := 0) rfl ?_
  refine g_if_lt hC dX11_isNote_1 (tgt := 14) (by decide) (fun c1 => ?_) (fun c1 => ?_)
  · replace h := (if_pos c1).symm.trans h
    refine g_iconst hC dX11_isNote_14 (v := (0 : Int32)) (by decide) ?_
    cases h
    exact g_zret hC (by decide) hE rfl dX11_isNote_15 (Nat.zero_le _) (Nat.zero_le _) ⟨rfl, rfl, rfl, rfl, rfl, rfl⟩
  · replace h := (if_neg c1).symm.trans h
    refine g_iload_n hC dX11_isNote_4 rfl (q := 0) rfl ?_
    refine g_bipush hC dX11_isNote_5 (v := (16 : Int32)) (by decide) ?_
    refine g_ic_ge hC dX11_isNote_7 (tgt := 14) (by decide) (fun c7 => ?_) (fun c7 => ?_)
    · replace h := (if_pos c7).symm.trans h
      refine g_iconst hC dX11_isNote_14 (v := (0 : Int32)) (by decide) ?_
      cases h
      exact g_zret hC (by decide) hE rfl dX11_isNote_15 (Nat.zero_le _) (Nat.zero_le _) ⟨rfl, rfl, rfl, rfl, rfl, rfl⟩
    · replace h := (if_neg c7).symm.trans h
      refine g_iconst hC dX11_isNote_10 (v := (1 : Int32)) (by decide) ?_
      refine g_goto hC dX11_isNote_11 (tgt := 15) (by decide) ?_
      cases h
      exact g_zret hC (by decide) hE rfl dX11_isNote_15 (Nat.zero_le _) (Nat.zero_le _) ⟨rfl, rfl, rfl, rfl, rfl, rfl⟩
noncomputable def f_X11_checkNote (Fu : Nat) (I : mIT) (v1 : Int32) : Option ((Unit) ⊕ (Nat × mIT)) :=
  oB (f_X11_isNote Fu v1) (fun r1 => if r1 = 0 then (some (.inr (1, I))) else (some (.inl ())))
set_option maxRecDepth 20000 in
theorem oy_X11_checkNote {l : Launch} {E : mEn} {Fu : Nat} {I : mIT} {R : mRT} {L : mLT} {v1 : Int32} (hst : l.stackTraces = false) (hW : mWd R)  {out : (Unit) ⊕ (Nat × mIT)} (h : f_X11_checkNote Fu I v1 = some out) {mc ms : Nat} {post : Option Value → Nat → Nat → mIT → mRT → mLT → Prop} {px : String → Nat → Nat → mIT → mRT → mLT → Prop} (ho : Sum.elim (fun o : Unit => post none 106 1 I R L) (fun q : Nat × mIT => 1 ≤ mc ∧ 6 ≤ ms ∧ px (xNm q.1) 106 1 q.2 R L) out) : mOx l E mX11_checkNote [.ref (mB E + 0), .int v1] 106 1 I R L mc ms post px := by
  refine mOx_of hst (by decide) (Nat.le_of_ble_eq_true rfl) (fun X hC hE0 _ => ?_)
  have hE : mEx X E mc ms post px ∧ Sum.elim (fun o : Unit => post none 106 1 I R L) (fun q : Nat × mIT => 1 ≤ mc ∧ 6 ≤ ms ∧ px (xNm q.1) 106 1 q.2 R L) out := ⟨hE0, ho⟩
  have hC : mC X E mX11_checkNote RX11 cX11_checkNote := hC
  show mG X E 0 [(0, .ref (mB E + 0)), (1, .int v1)] [] 106 1 I R L 0 0
  unfold f_X11_checkNote at h
  refine g_iload_n hC dX11_checkNote_0 rfl (q := 1) rfl ?_
  obtain ⟨r1, h1, h⟩ := oB_some h
  refine g_cS1 hC cs_X11_isNote wd_792 ⟨Nat.le_of_ble_eq_true rfl, Nat.le_of_ble_eq_true rfl⟩ dX11_checkNote_1 (As := [.int v1]) (st := []) (ok_X11_isNote hC.2.2.2.2.2.2.2.1  h1) rfl rfl (Nat.le_of_ble_eq_true rfl) ⟨Nat.zero_le _, Nat.zero_le _⟩ ?_
  refine g_if_ne hC dX11_checkNote_4 (tgt := 18) (by decide) (fun c4 => ?_) (fun c4 => ?_)
  · replace h := (if_neg c4).symm.trans h
    cases h
    exact g_xvret hC hE.1 rfl dX11_checkNote_18 (Nat.zero_le _) (Nat.zero_le _) hE.2
  · replace h := (if_pos c4).symm.trans h
    cases h
    have hq : 1 ≤ mc ∧ 6 ≤ ms ∧ px (xNm 1) 106 1 I R L := hE.2
    exact g_thrw hC hE.1 tw_RX11_180 (j := 34) rfl dX11_checkNote_7 dX11_checkNote_10 dX11_checkNote_11 dX11_checkNote_14 dX11_checkNote_17 (Nat.le_of_ble_eq_true rfl) (Nat.le_of_ble_eq_true rfl) (by decide) hq.1 hq.2.1 hq.2.2
theorem oi_X11_checkNote {l : Launch} {E : mEn} {Fu : Nat} {I : mIT} {R : mRT} {L : mLT} {v1 : Int32} (hst : l.stackTraces = false) (hW : mWd R)  {out : Unit} (h : f_X11_checkNote Fu I v1 = some (.inl out)) : mOx l E mX11_checkNote [.ref (mB E + 0), .int v1] 106 1 I R L 0 0 (mSame none 106 1 I R L) (fun _ _ _ _ _ _ => False) := oy_X11_checkNote hst hW h ⟨rfl, rfl, rfl, rfl, rfl, rfl⟩
theorem ox_X11_checkNote {l : Launch} {E : mEn} {Fu : Nat} {I : mIT} {R : mRT} {L : mLT} {v1 : Int32} (hst : l.stackTraces = false) (hW : mWd R)  {q : Nat × mIT} (h : f_X11_checkNote Fu I v1 = some (.inr q)) : mOx l E mX11_checkNote [.ref (mB E + 0), .int v1] 106 1 I R L 1 6 (fun _ _ _ _ _ _ => False) (mXp q.1 106 1 q.2 R L) := oy_X11_checkNote hst hW h ⟨Nat.le_refl _, Nat.le_refl _, rfl, rfl, rfl, rfl, rfl, rfl⟩
noncomputable def f_X11_checkRoot (Fu : Nat) (R : mRT) (I : mIT) (v1 : Int32) : Option ((Unit) ⊕ (Nat × mIT)) :=
  if v1 < 0 then (some (.inr (1, I))) else (oB (R 0 3) (fun p6 => if v1 < (I p6 3) then (some (.inl ())) else (some (.inr (1, I)))))
set_option maxRecDepth 20000 in
theorem oy_X11_checkRoot {l : Launch} {E : mEn} {Fu : Nat} {I : mIT} {R : mRT} {L : mLT} {v1 : Int32} (hst : l.stackTraces = false) (hW : mWd R)  {out : (Unit) ⊕ (Nat × mIT)} (h : f_X11_checkRoot Fu R I v1 = some out) {mc ms : Nat} {post : Option Value → Nat → Nat → mIT → mRT → mLT → Prop} {px : String → Nat → Nat → mIT → mRT → mLT → Prop} (ho : Sum.elim (fun o : Unit => post none 106 1 I R L) (fun q : Nat × mIT => 1 ≤ mc ∧ 6 ≤ ms ∧ px (xNm q.1) 106 1 q.2 R L) out) : mOx l E mX11_checkRoot [.ref (mB E + 0), .int v1] 106 1 I R L mc ms post px := by
  refine mOx_of hst (by decide) (Nat.le_of_ble_eq_true rfl) (fun X hC hE0 _ => ?_)
  have hE : mEx X E mc ms post px ∧ Sum.elim (fun o : Unit => post none 106 1 I R L) (fun q : Nat × mIT => 1 ≤ mc ∧ 6 ≤ ms ∧ px (xNm q.1) 106 1 q.2 R L) out := ⟨hE0, ho⟩
  have hC : mC X E mX11_checkRoot RX11 cX11_checkRoot := hC
  show mG X E 0 [(0, .ref (mB E + 0)), (1, .int v1)] [] 106 1 I R L 0 0
  unfold f_X11_checkRoot at h
  refine g_iload_n hC dX11_checkRoot_0 rfl (q := 1) rfl ?_
  refine g_if_lt hC dX11_checkRoot_1 (tgt := 15) (by decide) (fun c1 => ?_) (fun c1 => ?_)
  · replace h := (if_pos c1).symm.trans h
    cases h
    have hq : 1 ≤ mc ∧ 6 ≤ ms ∧ px (xNm 1) 106 1 I R L := hE.2
    exact g_thrw hC hE.1 tw_RX11_180 (j := 21) rfl dX11_checkRoot_15 dX11_checkRoot_18 dX11_checkRoot_19 dX11_checkRoot_22 dX11_checkRoot_25 (Nat.le_of_ble_eq_true rfl) (Nat.le_of_ble_eq_true rfl) (by decide) hq.1 hq.2.1 hq.2.2
  · replace h := (if_neg c1).symm.trans h
    refine g_iload_n hC dX11_checkRoot_4 rfl (q := 1) rfl ?_
    refine g_aload_n hC dX11_checkRoot_5 rfl (q := 0) rfl ?_
    obtain ⟨p6, e6, h⟩ := oB_some h
    have hp6 : mO5 R p6 := ob5 hW.1 (hW.2.1 p6 e6)
    refine g_getr hC fd_RX11_27 rfl (by decide) (C0 := _) (t0 := .int) (Or.inl rfl) e6 dX11_checkRoot_6 ?_
    refine g_geti hC fd_RX11_140 hp6.2.1 hp6.1 (Or.inl rfl) dX11_checkRoot_9 ?_
    refine g_ic_lt hC dX11_checkRoot_12 (tgt := 26) (by decide) (fun c12 => ?_) (fun c12 => ?_)
    · replace h := (if_pos c12).symm.trans h
      cases h
      exact g_xvret hC hE.1 rfl dX11_checkRoot_26 (Nat.zero_le _) (Nat.zero_le _) hE.2
    · replace h := (if_neg c12).symm.trans h
      cases h
      have hq : 1 ≤ mc ∧ 6 ≤ ms ∧ px (xNm 1) 106 1 I R L := hE.2
      exact g_thrw hC hE.1 tw_RX11_180 (j := 21) rfl dX11_checkRoot_15 dX11_checkRoot_18 dX11_checkRoot_19 dX11_checkRoot_22 dX11_checkRoot_25 (Nat.le_of_ble_eq_true rfl) (Nat.le_of_ble_eq_true rfl) (by decide) hq.1 hq.2.1 hq.2.2
theorem oi_X11_checkRoot {l : Launch} {E : mEn} {Fu : Nat} {I : mIT} {R : mRT} {L : mLT} {v1 : Int32} (hst : l.stackTraces = false) (hW : mWd R)  {out : Unit} (h : f_X11_checkRoot Fu R I v1 = some (.inl out)) : mOx l E mX11_checkRoot [.ref (mB E + 0), .int v1] 106 1 I R L 0 0 (mSame none 106 1 I R L) (fun _ _ _ _ _ _ => False) := oy_X11_checkRoot hst hW h ⟨rfl, rfl, rfl, rfl, rfl, rfl⟩
theorem ox_X11_checkRoot {l : Launch} {E : mEn} {Fu : Nat} {I : mIT} {R : mRT} {L : mLT} {v1 : Int32} (hst : l.stackTraces = false) (hW : mWd R)  {q : Nat × mIT} (h : f_X11_checkRoot Fu R I v1 = some (.inr q)) : mOx l E mX11_checkRoot [.ref (mB E + 0), .int v1] 106 1 I R L 1 6 (fun _ _ _ _ _ _ => False) (mXp q.1 106 1 q.2 R L) := oy_X11_checkRoot hst hW h ⟨Nat.le_refl _, Nat.le_refl _, rfl, rfl, rfl, rfl, rfl, rfl⟩
noncomputable def f_X11_checkTwo (Fu : Nat) (I : mIT) (v1 : Int32) : Option ((Unit) ⊕ (Nat × mIT)) :=
  if v1 < 0 then (some (.inr (1, I))) else (if v1 ≤ (1 : Int32) then (some (.inl ())) else (some (.inr (1, I))))
set_option maxRecDepth 20000 in
theorem oy_X11_checkTwo {l : Launch} {E : mEn} {Fu : Nat} {I : mIT} {R : mRT} {L : mLT} {v1 : Int32} (hst : l.stackTraces = false) (hW : mWd R)  {out : (Unit) ⊕ (Nat × mIT)} (h : f_X11_checkTwo Fu I v1 = some out) {mc ms : Nat} {post : Option Value → Nat → Nat → mIT → mRT → mLT → Prop} {px : String → Nat → Nat → mIT → mRT → mLT → Prop} (ho : Sum.elim (fun o : Unit => post none 106 1 I R L) (fun q : Nat × mIT => 1 ≤ mc ∧ 6 ≤ ms ∧ px (xNm q.1) 106 1 q.2 R L) out) : mOx l E mX11_checkTwo [.ref (mB E + 0), .int v1] 106 1 I R L mc ms post px := by
  refine mOx_of hst (by decide) (Nat.le_of_ble_eq_true rfl) (fun X hC hE0 _ => ?_)
  have hE : mEx X E mc ms post px ∧ Sum.elim (fun o : Unit => post none 106 1 I R L) (fun q : Nat × mIT => 1 ≤ mc ∧ 6 ≤ ms ∧ px (xNm q.1) 106 1 q.2 R L) out := ⟨hE0, ho⟩
  have hC : mC X E mX11_checkTwo RX11 cX11_checkTwo := hC
  show mG X E 0 [(0, .ref (mB E + 0)), (1, .int v1)] [] 106 1 I R L 0 0
  unfold f_X11_checkTwo at h
  refine g_iload_n hC dX11_checkTwo_0 rfl (q := 1) rfl ?_
  refine g_if_lt hC dX11_checkTwo_1 (tgt := 9) (by decide) (fun c1 => ?_) (fun c1 => ?_)
  · replace h := (if_pos c1).symm.trans h
    cases h
    have hq : 1 ≤ mc ∧ 6 ≤ ms ∧ px (xNm 1) 106 1 I R L := hE.2
    exact g_thrw hC hE.1 tw_RX11_180 (j := 31) rfl dX11_checkTwo_9 dX11_checkTwo_12 dX11_checkTwo_13 dX11_checkTwo_16 dX11_checkTwo_19 (Nat.le_of_ble_eq_true rfl) (Nat.le_of_ble_eq_true rfl) (by decide) hq.1 hq.2.1 hq.2.2
  · replace h := (if_neg c1).symm.trans h
    refine g_iload_n hC dX11_checkTwo_4 rfl (q := 1) rfl ?_
    refine g_iconst hC dX11_checkTwo_5 (v := (1 : Int32)) (by decide) ?_
    refine g_ic_le hC dX11_checkTwo_6 (tgt := 20) (by decide) (fun c6 => ?_) (fun c6 => ?_)
    · replace h := (if_pos c6).symm.trans h
      cases h
      exact g_xvret hC hE.1 rfl dX11_checkTwo_20 (Nat.zero_le _) (Nat.zero_le _) hE.2
    · replace h := (if_neg c6).symm.trans h
      cases h
      have hq : 1 ≤ mc ∧ 6 ≤ ms ∧ px (xNm 1) 106 1 I R L := hE.2
      exact g_thrw hC hE.1 tw_RX11_180 (j := 31) rfl dX11_checkTwo_9 dX11_checkTwo_12 dX11_checkTwo_13 dX11_checkTwo_16 dX11_checkTwo_19 (Nat.le_of_ble_eq_true rfl) (Nat.le_of_ble_eq_true rfl) (by decide) hq.1 hq.2.1 hq.2.2
theorem oi_X11_checkTwo {l : Launch} {E : mEn} {Fu : Nat} {I : mIT} {R : mRT} {L : mLT} {v1 : Int32} (hst : l.stackTraces = false) (hW : mWd R)  {out : Unit} (h : f_X11_checkTwo Fu I v1 = some (.inl out)) : mOx l E mX11_checkTwo [.ref (mB E + 0), .int v1] 106 1 I R L 0 0 (mSame none 106 1 I R L) (fun _ _ _ _ _ _ => False) := oy_X11_checkTwo hst hW h ⟨rfl, rfl, rfl, rfl, rfl, rfl⟩
theorem ox_X11_checkTwo {l : Launch} {E : mEn} {Fu : Nat} {I : mIT} {R : mRT} {L : mLT} {v1 : Int32} (hst : l.stackTraces = false) (hW : mWd R)  {q : Nat × mIT} (h : f_X11_checkTwo Fu I v1 = some (.inr q)) : mOx l E mX11_checkTwo [.ref (mB E + 0), .int v1] 106 1 I R L 1 6 (fun _ _ _ _ _ _ => False) (mXp q.1 106 1 q.2 R L) := oy_X11_checkTwo hst hW h ⟨Nat.le_refl _, Nat.le_refl _, rfl, rfl, rfl, rfl, rfl, rfl⟩
noncomputable def f_X11_hangingBits (Fu : Nat) (R : mRT) (I : mIT)  : Option (Int32) :=
  oB (R 0 3) (fun p2 => oB (f_X11_bitsAt Fu R I (-1 : Int32)) (fun r13 => oB (f_X11_bitsAt Fu R I (-2 : Int32)) (fun r22 => some (((((1 : Int32) <<< ((I p2 3) &&& 31)) - (1 : Int32)) &&& (r13 ^^^ (-1 : Int32))) &&& (r22 ^^^ (-1 : Int32))))))
set_option maxRecDepth 20000 in
theorem ok_X11_hangingBits {l : Launch} {E : mEn} {Fu : Nat} {I : mIT} {R : mRT} {L : mLT}  (hst : l.stackTraces = false) (hW : mWd R)  {out : Int32} (h : f_X11_hangingBits Fu R I  = some out) : mOk l E mX11_hangingBits [.ref (mB E + 0)] 106 1 I R L 0 0 (mSame (some (.int (out))) 106 1 I R L) := by
  refine mOk_of hst (by decide) (Nat.le_of_ble_eq_true rfl) (fun X hC hE _ => ?_)
  have hC : mC X E mX11_hangingBits RX11 cX11_hangingBits := hC
  show mG X E 0 [(0, .ref (mB E + 0))] [] 106 1 I R L 0 0
  unfold f_X11_hangingBits at h
  refine g_iconst hC dX11_hangingBits_0 (v := (1 : Int32)) (by decide) ?_
  refine g_aload_n hC dX11_hangingBits_1 rfl (q := 0) rfl ?_
  obtain ⟨p2, e2, h⟩ := oB_some h
  have hp2 : mO5 R p2 := ob5 hW.1 (hW.2.1 p2 e2)
  refine g_getr hC fd_RX11_27 rfl (by decide) (C0 := _) (t0 := .int) (Or.inl rfl) e2 dX11_hangingBits_2 ?_
  refine g_geti hC fd_RX11_140 hp2.2.1 hp2.1 (Or.inl rfl) dX11_hangingBits_5 ?_
  refine g_ishl hC dX11_hangingBits_8 ?_
  refine g_iconst hC dX11_hangingBits_9 (v := (1 : Int32)) (by decide) ?_
  refine g_isub hC dX11_hangingBits_10 ?_
  refine g_aload_n hC dX11_hangingBits_11 rfl (q := 0) rfl ?_
  refine g_iconst hC dX11_hangingBits_12 (v := (-1 : Int32)) (by decide) ?_
  obtain ⟨r13, h13, h⟩ := oB_some h
  refine g_cV1 hC cv_X11_bitsAt wd_1150 ⟨Nat.le_of_ble_eq_true rfl, Nat.le_of_ble_eq_true rfl⟩ rfl (by decide) dX11_hangingBits_13 (As := [.int (-1 : Int32)]) (st := [.int (((1 : Int32) <<< ((I p2 3) &&& 31)) - (1 : Int32))]) (ok_X11_bitsAt hC.2.2.2.2.2.2.2.1 hW h13) rfl rfl (Nat.le_of_ble_eq_true rfl) ⟨Nat.zero_le _, Nat.zero_le _⟩ ?_
  refine g_iconst hC dX11_hangingBits_16 (v := (-1 : Int32)) (by decide) ?_
  refine g_ixor hC dX11_hangingBits_17 ?_
  refine g_iand hC dX11_hangingBits_18 ?_
  refine g_aload_n hC dX11_hangingBits_19 rfl (q := 0) rfl ?_
  refine g_bipush hC dX11_hangingBits_20 (v := (-2 : Int32)) (by decide) ?_
  obtain ⟨r22, h22, h⟩ := oB_some h
  refine g_cV1 hC cv_X11_bitsAt wd_1150 ⟨Nat.le_of_ble_eq_true rfl, Nat.le_of_ble_eq_true rfl⟩ rfl (by decide) dX11_hangingBits_22 (As := [.int (-2 : Int32)]) (st := [.int ((((1 : Int32) <<< ((I p2 3) &&& 31)) - (1 : Int32)) &&& (r13 ^^^ (-1 : Int32)))]) (ok_X11_bitsAt hC.2.2.2.2.2.2.2.1 hW h22) rfl rfl (Nat.le_of_ble_eq_true rfl) ⟨Nat.zero_le _, Nat.zero_le _⟩ ?_
  refine g_iconst hC dX11_hangingBits_25 (v := (-1 : Int32)) (by decide) ?_
  refine g_ixor hC dX11_hangingBits_26 ?_
  refine g_iand hC dX11_hangingBits_27 ?_
  cases h
  exact g_iret hC hE rfl dX11_hangingBits_28 (Nat.zero_le _) (Nat.zero_le _) ⟨rfl, rfl, rfl, rfl, rfl, rfl⟩
noncomputable def f_J6_bitCount_0f7a4 (Fu : Nat)  (v0 : Int32) : Option (Int32) :=
  some ((((((((v0 - (((v0).toUInt32 >>> (((1 : Int32)).toUInt32 &&& Int32.toUInt32 31)).toInt32 &&& (1431655765 : Int32))) &&& (858993459 : Int32)) + ((((v0 - (((v0).toUInt32 >>> (((1 : Int32)).toUInt32 &&& Int32.toUInt32 31)).toInt32 &&& (1431655765 : Int32)))).toUInt32 >>> (((2 : Int32)).toUInt32 &&& Int32.toUInt32 31)).toInt32 &&& (858993459 : Int32))) + (((((v0 - (((v0).toUInt32 >>> (((1 : Int32)).toUInt32 &&& Int32.toUInt32 31)).toInt32 &&& (1431655765 : Int32))) &&& (858993459 : Int32)) + ((((v0 - (((v0).toUInt32 >>> (((1 : Int32)).toUInt32 &&& Int32.toUInt32 31)).toInt32 &&& (1431655765 : Int32)))).toUInt32 >>> (((2 : Int32)).toUInt32 &&& Int32.toUInt32 31)).toInt32 &&& (858993459 : Int32)))).toUInt32 >>> (((4 : Int32)).toUInt32 &&& Int32.toUInt32 31)).toInt32) &&& (252645135 : Int32)) + (((((((v0 - (((v0).toUInt32 >>> (((1 : Int32)).toUInt32 &&& Int32.toUInt32 31)).toInt32 &&& (1431655765 : Int32))) &&& (858993459 : Int32)) + ((((v0 - (((v0).toUInt32 >>> (((1 : Int32)).toUInt32 &&& Int32.toUInt32 31)).toInt32 &&& (1431655765 : Int32)))).toUInt32 >>> (((2 : Int32)).toUInt32 &&& Int32.toUInt32 31)).toInt32 &&& (858993459 : Int32))) + (((((v0 - (((v0).toUInt32 >>> (((1 : Int32)).toUInt32 &&& Int32.toUInt32 31)).toInt32 &&& (1431655765 : Int32))) &&& (858993459 : Int32)) + ((((v0 - (((v0).toUInt32 >>> (((1 : Int32)).toUInt32 &&& Int32.toUInt32 31)).toInt32 &&& (1431655765 : Int32)))).toUInt32 >>> (((2 : Int32)).toUInt32 &&& Int32.toUInt32 31)).toInt32 &&& (858993459 : Int32)))).toUInt32 >>> (((4 : Int32)).toUInt32 &&& Int32.toUInt32 31)).toInt32) &&& (252645135 : Int32))).toUInt32 >>> (((8 : Int32)).toUInt32 &&& Int32.toUInt32 31)).toInt32) + ((((((((v0 - (((v0).toUInt32 >>> (((1 : Int32)).toUInt32 &&& Int32.toUInt32 31)).toInt32 &&& (1431655765 : Int32))) &&& (858993459 : Int32)) + ((((v0 - (((v0).toUInt32 >>> (((1 : Int32)).toUInt32 &&& Int32.toUInt32 31)).toInt32 &&& (1431655765 : Int32)))).toUInt32 >>> (((2 : Int32)).toUInt32 &&& Int32.toUInt32 31)).toInt32 &&& (858993459 : Int32))) + (((((v0 - (((v0).toUInt32 >>> (((1 : Int32)).toUInt32 &&& Int32.toUInt32 31)).toInt32 &&& (1431655765 : Int32))) &&& (858993459 : Int32)) + ((((v0 - (((v0).toUInt32 >>> (((1 : Int32)).toUInt32 &&& Int32.toUInt32 31)).toInt32 &&& (1431655765 : Int32)))).toUInt32 >>> (((2 : Int32)).toUInt32 &&& Int32.toUInt32 31)).toInt32 &&& (858993459 : Int32)))).toUInt32 >>> (((4 : Int32)).toUInt32 &&& Int32.toUInt32 31)).toInt32) &&& (252645135 : Int32)) + (((((((v0 - (((v0).toUInt32 >>> (((1 : Int32)).toUInt32 &&& Int32.toUInt32 31)).toInt32 &&& (1431655765 : Int32))) &&& (858993459 : Int32)) + ((((v0 - (((v0).toUInt32 >>> (((1 : Int32)).toUInt32 &&& Int32.toUInt32 31)).toInt32 &&& (1431655765 : Int32)))).toUInt32 >>> (((2 : Int32)).toUInt32 &&& Int32.toUInt32 31)).toInt32 &&& (858993459 : Int32))) + (((((v0 - (((v0).toUInt32 >>> (((1 : Int32)).toUInt32 &&& Int32.toUInt32 31)).toInt32 &&& (1431655765 : Int32))) &&& (858993459 : Int32)) + ((((v0 - (((v0).toUInt32 >>> (((1 : Int32)).toUInt32 &&& Int32.toUInt32 31)).toInt32 &&& (1431655765 : Int32)))).toUInt32 >>> (((2 : Int32)).toUInt32 &&& Int32.toUInt32 31)).toInt32 &&& (858993459 : Int32)))).toUInt32 >>> (((4 : Int32)).toUInt32 &&& Int32.toUInt32 31)).toInt32) &&& (252645135 : Int32))).toUInt32 >>> (((8 : Int32)).toUInt32 &&& Int32.toUInt32 31)).toInt32)).toUInt32 >>> (((16 : Int32)).toUInt32 &&& Int32.toUInt32 31)).toInt32) &&& (63 : Int32))
set_option maxRecDepth 20000 in
theorem ok_J6_bitCount_0f7a4 {l : Launch} {E : mEn} {Fu : Nat} {I : mIT} {R : mRT} {L : mLT} {v0 : Int32} (hst : l.stackTraces = false)  {out : Int32} (h : f_J6_bitCount_0f7a4 Fu  v0 = some out) : mOk l E mJ6_bitCount_0f7a4 [.int v0] 106 1 I R L 0 0 (mSame (some (.int (out))) 106 1 I R L) := by
  refine mOk_of hst (by decide) (Nat.le_of_ble_eq_true rfl) (fun X hC hE _ => ?_)
  have hC : mC X E mJ6_bitCount_0f7a4 RJ6 cJ6_bitCount_0f7a4 := hC
  show mG X E 0 [(0, .int v0)] [] 106 1 I R L 0 0
  unfold f_J6_bitCount_0f7a4 at h
  refine g_iload_n hC dJ6_bitCount_0f7a4_0 rfl (q := 0) rfl ?_
  refine g_iload_n hC dJ6_bitCount_0f7a4_1 rfl (q := 0) rfl ?_
  refine g_iconst hC dJ6_bitCount_0f7a4_2 (v := (1 : Int32)) (by decide) ?_
  refine g_iushr hC dJ6_bitCount_0f7a4_3 ?_
  refine g_ldcw hC dJ6_bitCount_0f7a4_4 wd_1157 ?_
  refine g_iand hC dJ6_bitCount_0f7a4_7 ?_
  refine g_isub hC dJ6_bitCount_0f7a4_8 ?_
  refine g_istore_n hC dJ6_bitCount_0f7a4_9 rfl rfl (by decide) (lv' := [(0, .int (v0 - (((v0).toUInt32 >>> (((1 : Int32)).toUInt32 &&& Int32.toUInt32 31)).toInt32 &&& (1431655765 : Int32))))]) rfl ?_
  refine g_iload_n hC dJ6_bitCount_0f7a4_10 rfl (q := 0) rfl ?_
  refine g_ldcw hC dJ6_bitCount_0f7a4_11 wd_1158 ?_
  refine g_iand hC dJ6_bitCount_0f7a4_14 ?_
  refine g_iload_n hC dJ6_bitCount_0f7a4_15 rfl (q := 0) rfl ?_
  refine g_iconst hC dJ6_bitCount_0f7a4_16 (v := (2 : Int32)) (by decide) ?_
  refine g_iushr hC dJ6_bitCount_0f7a4_17 ?_
  refine g_ldcw hC dJ6_bitCount_0f7a4_18 wd_1158 ?_
  refine g_iand hC dJ6_bitCount_0f7a4_21 ?_
  refine g_iadd hC dJ6_bitCount_0f7a4_22 ?_
  refine g_istore_n hC dJ6_bitCount_0f7a4_23 rfl rfl (by decide) (lv' := [(0, .int (((v0 - (((v0).toUInt32 >>> (((1 : Int32)).toUInt32 &&& Int32.toUInt32 31)).toInt32 &&& (1431655765 : Int32))) &&& (858993459 : Int32)) + ((((v0 - (((v0).toUInt32 >>> (((1 : Int32)).toUInt32 &&& Int32.toUInt32 31)).toInt32 &&& (1431655765 : Int32)))).toUInt32 >>> (((2 : Int32)).toUInt32 &&& Int32.toUInt32 31)).toInt32 &&& (858993459 : Int32))))]) rfl ?_
  refine g_iload_n hC dJ6_bitCount_0f7a4_24 rfl (q := 0) rfl ?_
  refine g_iload_n hC dJ6_bitCount_0f7a4_25 rfl (q := 0) rfl ?_
  refine g_iconst hC dJ6_bitCount_0f7a4_26 (v := (4 : Int32)) (by decide) ?_
  refine g_iushr hC dJ6_bitCount_0f7a4_27 ?_
  refine g_iadd hC dJ6_bitCount_0f7a4_28 ?_
  refine g_ldcw hC dJ6_bitCount_0f7a4_29 wd_1159 ?_
  refine g_iand hC dJ6_bitCount_0f7a4_32 ?_
  refine g_istore_n hC dJ6_bitCount_0f7a4_33 rfl rfl (by decide) (lv' := [(0, .int (((((v0 - (((v0).toUInt32 >>> (((1 : Int32)).toUInt32 &&& Int32.toUInt32 31)).toInt32 &&& (1431655765 : Int32))) &&& (858993459 : Int32)) + ((((v0 - (((v0).toUInt32 >>> (((1 : Int32)).toUInt32 &&& Int32.toUInt32 31)).toInt32 &&& (1431655765 : Int32)))).toUInt32 >>> (((2 : Int32)).toUInt32 &&& Int32.toUInt32 31)).toInt32 &&& (858993459 : Int32))) + (((((v0 - (((v0).toUInt32 >>> (((1 : Int32)).toUInt32 &&& Int32.toUInt32 31)).toInt32 &&& (1431655765 : Int32))) &&& (858993459 : Int32)) + ((((v0 - (((v0).toUInt32 >>> (((1 : Int32)).toUInt32 &&& Int32.toUInt32 31)).toInt32 &&& (1431655765 : Int32)))).toUInt32 >>> (((2 : Int32)).toUInt32 &&& Int32.toUInt32 31)).toInt32 &&& (858993459 : Int32)))).toUInt32 >>> (((4 : Int32)).toUInt32 &&& Int32.toUInt32 31)).toInt32) &&& (252645135 : Int32)))]) rfl ?_
  refine g_iload_n hC dJ6_bitCount_0f7a4_34 rfl (q := 0) rfl ?_
  refine g_iload_n hC dJ6_bitCount_0f7a4_35 rfl (q := 0) rfl ?_
  refine g_bipush hC dJ6_bitCount_0f7a4_36 (v := (8 : Int32)) (by decide) ?_
  refine g_iushr hC dJ6_bitCount_0f7a4_38 ?_
  refine g_iadd hC dJ6_bitCount_0f7a4_39 ?_
  refine g_istore_n hC dJ6_bitCount_0f7a4_40 rfl rfl (by decide) (lv' := [(0, .int ((((((v0 - (((v0).toUInt32 >>> (((1 : Int32)).toUInt32 &&& Int32.toUInt32 31)).toInt32 &&& (1431655765 : Int32))) &&& (858993459 : Int32)) + ((((v0 - (((v0).toUInt32 >>> (((1 : Int32)).toUInt32 &&& Int32.toUInt32 31)).toInt32 &&& (1431655765 : Int32)))).toUInt32 >>> (((2 : Int32)).toUInt32 &&& Int32.toUInt32 31)).toInt32 &&& (858993459 : Int32))) + (((((v0 - (((v0).toUInt32 >>> (((1 : Int32)).toUInt32 &&& Int32.toUInt32 31)).toInt32 &&& (1431655765 : Int32))) &&& (858993459 : Int32)) + ((((v0 - (((v0).toUInt32 >>> (((1 : Int32)).toUInt32 &&& Int32.toUInt32 31)).toInt32 &&& (1431655765 : Int32)))).toUInt32 >>> (((2 : Int32)).toUInt32 &&& Int32.toUInt32 31)).toInt32 &&& (858993459 : Int32)))).toUInt32 >>> (((4 : Int32)).toUInt32 &&& Int32.toUInt32 31)).toInt32) &&& (252645135 : Int32)) + (((((((v0 - (((v0).toUInt32 >>> (((1 : Int32)).toUInt32 &&& Int32.toUInt32 31)).toInt32 &&& (1431655765 : Int32))) &&& (858993459 : Int32)) + ((((v0 - (((v0).toUInt32 >>> (((1 : Int32)).toUInt32 &&& Int32.toUInt32 31)).toInt32 &&& (1431655765 : Int32)))).toUInt32 >>> (((2 : Int32)).toUInt32 &&& Int32.toUInt32 31)).toInt32 &&& (858993459 : Int32))) + (((((v0 - (((v0).toUInt32 >>> (((1 : Int32)).toUInt32 &&& Int32.toUInt32 31)).toInt32 &&& (1431655765 : Int32))) &&& (858993459 : Int32)) + ((((v0 - (((v0).toUInt32 >>> (((1 : Int32)).toUInt32 &&& Int32.toUInt32 31)).toInt32 &&& (1431655765 : Int32)))).toUInt32 >>> (((2 : Int32)).toUInt32 &&& Int32.toUInt32 31)).toInt32 &&& (858993459 : Int32)))).toUInt32 >>> (((4 : Int32)).toUInt32 &&& Int32.toUInt32 31)).toInt32) &&& (252645135 : Int32))).toUInt32 >>> (((8 : Int32)).toUInt32 &&& Int32.toUInt32 31)).toInt32))]) rfl ?_
  refine g_iload_n hC dJ6_bitCount_0f7a4_41 rfl (q := 0) rfl ?_
  refine g_iload_n hC dJ6_bitCount_0f7a4_42 rfl (q := 0) rfl ?_
  refine g_bipush hC dJ6_bitCount_0f7a4_43 (v := (16 : Int32)) (by decide) ?_
  refine g_iushr hC dJ6_bitCount_0f7a4_45 ?_
  refine g_iadd hC dJ6_bitCount_0f7a4_46 ?_
  refine g_istore_n hC dJ6_bitCount_0f7a4_47 rfl rfl (by decide) (lv' := [(0, .int (((((((v0 - (((v0).toUInt32 >>> (((1 : Int32)).toUInt32 &&& Int32.toUInt32 31)).toInt32 &&& (1431655765 : Int32))) &&& (858993459 : Int32)) + ((((v0 - (((v0).toUInt32 >>> (((1 : Int32)).toUInt32 &&& Int32.toUInt32 31)).toInt32 &&& (1431655765 : Int32)))).toUInt32 >>> (((2 : Int32)).toUInt32 &&& Int32.toUInt32 31)).toInt32 &&& (858993459 : Int32))) + (((((v0 - (((v0).toUInt32 >>> (((1 : Int32)).toUInt32 &&& Int32.toUInt32 31)).toInt32 &&& (1431655765 : Int32))) &&& (858993459 : Int32)) + ((((v0 - (((v0).toUInt32 >>> (((1 : Int32)).toUInt32 &&& Int32.toUInt32 31)).toInt32 &&& (1431655765 : Int32)))).toUInt32 >>> (((2 : Int32)).toUInt32 &&& Int32.toUInt32 31)).toInt32 &&& (858993459 : Int32)))).toUInt32 >>> (((4 : Int32)).toUInt32 &&& Int32.toUInt32 31)).toInt32) &&& (252645135 : Int32)) + (((((((v0 - (((v0).toUInt32 >>> (((1 : Int32)).toUInt32 &&& Int32.toUInt32 31)).toInt32 &&& (1431655765 : Int32))) &&& (858993459 : Int32)) + ((((v0 - (((v0).toUInt32 >>> (((1 : Int32)).toUInt32 &&& Int32.toUInt32 31)).toInt32 &&& (1431655765 : Int32)))).toUInt32 >>> (((2 : Int32)).toUInt32 &&& Int32.toUInt32 31)).toInt32 &&& (858993459 : Int32))) + (((((v0 - (((v0).toUInt32 >>> (((1 : Int32)).toUInt32 &&& Int32.toUInt32 31)).toInt32 &&& (1431655765 : Int32))) &&& (858993459 : Int32)) + ((((v0 - (((v0).toUInt32 >>> (((1 : Int32)).toUInt32 &&& Int32.toUInt32 31)).toInt32 &&& (1431655765 : Int32)))).toUInt32 >>> (((2 : Int32)).toUInt32 &&& Int32.toUInt32 31)).toInt32 &&& (858993459 : Int32)))).toUInt32 >>> (((4 : Int32)).toUInt32 &&& Int32.toUInt32 31)).toInt32) &&& (252645135 : Int32))).toUInt32 >>> (((8 : Int32)).toUInt32 &&& Int32.toUInt32 31)).toInt32) + ((((((((v0 - (((v0).toUInt32 >>> (((1 : Int32)).toUInt32 &&& Int32.toUInt32 31)).toInt32 &&& (1431655765 : Int32))) &&& (858993459 : Int32)) + ((((v0 - (((v0).toUInt32 >>> (((1 : Int32)).toUInt32 &&& Int32.toUInt32 31)).toInt32 &&& (1431655765 : Int32)))).toUInt32 >>> (((2 : Int32)).toUInt32 &&& Int32.toUInt32 31)).toInt32 &&& (858993459 : Int32))) + (((((v0 - (((v0).toUInt32 >>> (((1 : Int32)).toUInt32 &&& Int32.toUInt32 31)).toInt32 &&& (1431655765 : Int32))) &&& (858993459 : Int32)) + ((((v0 - (((v0).toUInt32 >>> (((1 : Int32)).toUInt32 &&& Int32.toUInt32 31)).toInt32 &&& (1431655765 : Int32)))).toUInt32 >>> (((2 : Int32)).toUInt32 &&& Int32.toUInt32 31)).toInt32 &&& (858993459 : Int32)))).toUInt32 >>> (((4 : Int32)).toUInt32 &&& Int32.toUInt32 31)).toInt32) &&& (252645135 : Int32)) + (((((((v0 - (((v0).toUInt32 >>> (((1 : Int32)).toUInt32 &&& Int32.toUInt32 31)).toInt32 &&& (1431655765 : Int32))) &&& (858993459 : Int32)) + ((((v0 - (((v0).toUInt32 >>> (((1 : Int32)).toUInt32 &&& Int32.toUInt32 31)).toInt32 &&& (1431655765 : Int32)))).toUInt32 >>> (((2 : Int32)).toUInt32 &&& Int32.toUInt32 31)).toInt32 &&& (858993459 : Int32))) + (((((v0 - (((v0).toUInt32 >>> (((1 : Int32)).toUInt32 &&& Int32.toUInt32 31)).toInt32 &&& (1431655765 : Int32))) &&& (858993459 : Int32)) + ((((v0 - (((v0).toUInt32 >>> (((1 : Int32)).toUInt32 &&& Int32.toUInt32 31)).toInt32 &&& (1431655765 : Int32)))).toUInt32 >>> (((2 : Int32)).toUInt32 &&& Int32.toUInt32 31)).toInt32 &&& (858993459 : Int32)))).toUInt32 >>> (((4 : Int32)).toUInt32 &&& Int32.toUInt32 31)).toInt32) &&& (252645135 : Int32))).toUInt32 >>> (((8 : Int32)).toUInt32 &&& Int32.toUInt32 31)).toInt32)).toUInt32 >>> (((16 : Int32)).toUInt32 &&& Int32.toUInt32 31)).toInt32))]) rfl ?_
  refine g_iload_n hC dJ6_bitCount_0f7a4_48 rfl (q := 0) rfl ?_
  refine g_bipush hC dJ6_bitCount_0f7a4_49 (v := (63 : Int32)) (by decide) ?_
  refine g_iand hC dJ6_bitCount_0f7a4_51 ?_
  cases h
  exact g_iret hC hE rfl dJ6_bitCount_0f7a4_52 (Nat.zero_le _) (Nat.zero_le _) ⟨rfl, rfl, rfl, rfl, rfl, rfl⟩
noncomputable def f_X5_weatherOn (Fu : Nat) (I : mIT) (k0 : Nat) (v1 : Int32) : Option (Int32) :=
  if (I k0 4) ≤ 0 then (some (4 : Int32)) else (if 0 ≤ v1 then (oG ((I k0 4) != 0) (if (nI 10) ≤ (v1 - v1 / (I k0 4) * (I k0 4)) then (some (4 : Int32)) else (oG (inB (v1 - v1 / (I k0 4) * (I k0 4)) 10) (some (I (k0 + 2) ((v1 - v1 / (I k0 4) * (I k0 4))).toNatClampNeg))))) else (some (4 : Int32)))
set_option maxRecDepth 20000 in
theorem ok_X5_weatherOn {l : Launch} {E : mEn} {Fu : Nat} {I : mIT} {R : mRT} {L : mLT} {k0 : Nat} {v1 : Int32} (hst : l.stackTraces = false) (hk0 : mO5 R k0) {out : Int32} (h : f_X5_weatherOn Fu I k0 v1 = some out) : mOk l E mX5_weatherOn [.ref (mB E + k0), .int v1] 106 1 I R L 0 0 (mSame (some (.int (out))) 106 1 I R L) := by
  refine mOk_of hst (by decide) (Nat.le_of_ble_eq_true rfl) (fun X hC hE _ => ?_)
  have hC : mC X E mX5_weatherOn RX5 cX5_weatherOn := hC
  show mG X E 0 [(0, .ref (mB E + k0)), (1, .int v1)] [] 106 1 I R L 0 0
  unfold f_X5_weatherOn at h
  refine g_aload_n hC dX5_weatherOn_0 rfl (q := 0) rfl ?_
  refine g_geti hC fd_RX5_25 hk0.2.1 hk0.1 (Or.inl rfl) dX5_weatherOn_1 ?_
  refine g_if_le hC dX5_weatherOn_4 (tgt := 11) (by decide) (fun c4 => ?_) (fun c4 => ?_)
  · replace h := (if_pos c4).symm.trans h
    refine g_iconst hC dX5_weatherOn_11 (v := (4 : Int32)) (by decide) ?_
    cases h
    exact g_iret hC hE rfl dX5_weatherOn_12 (Nat.zero_le _) (Nat.zero_le _) ⟨rfl, rfl, rfl, rfl, rfl, rfl⟩
  · replace h := (if_neg c4).symm.trans h
    refine g_iload_n hC dX5_weatherOn_7 rfl (q := 1) rfl ?_
    refine g_if_ge hC dX5_weatherOn_8 (tgt := 13) (by decide) (fun c8 => ?_) (fun c8 => ?_)
    · replace h := (if_pos c8).symm.trans h
      refine g_iload_n hC dX5_weatherOn_13 rfl (q := 1) rfl ?_
      refine g_aload_n hC dX5_weatherOn_14 rfl (q := 0) rfl ?_
      refine g_geti hC fd_RX5_25 hk0.2.1 hk0.1 (Or.inl rfl) dX5_weatherOn_15 ?_
      obtain ⟨g18, h⟩ := oG_some h
      refine g_irem hC dX5_weatherOn_18 (mNz g18) ?_
      refine g_istore_n hC dX5_weatherOn_19 rfl rfl (by decide) (lv' := [(2, .int (v1 - v1 / (I k0 4) * (I k0 4))), (0, .ref (mB E + k0)), (1, .int v1)]) rfl ?_
      refine g_iload_n hC dX5_weatherOn_20 rfl (q := 0) rfl ?_
      refine g_aload_n hC dX5_weatherOn_21 rfl (q := 1) rfl ?_
      refine g_getr hC fd_RX5_15 hk0.2.1 hk0.1 (C0 := "") (t0 := _) (Or.inr rfl) hk0.2.2.2.1.1 dX5_weatherOn_22 ?_
      refine g_alenI hC hk0.2.2.2.1.2.2 hk0.2.2.2.1.2.1 dX5_weatherOn_25 ?_
      refine g_ic_ge hC dX5_weatherOn_26 (tgt := 38) (by decide) (fun c26 => ?_) (fun c26 => ?_)
      · replace h := (if_pos c26).symm.trans h
        refine g_iconst hC dX5_weatherOn_38 (v := (4 : Int32)) (by decide) ?_
        cases h
        exact g_iret hC hE rfl dX5_weatherOn_39 (Nat.zero_le _) (Nat.zero_le _) ⟨rfl, rfl, rfl, rfl, rfl, rfl⟩
      · replace h := (if_neg c26).symm.trans h
        refine g_aload_n hC dX5_weatherOn_29 rfl (q := 1) rfl ?_
        refine g_getr hC fd_RX5_15 hk0.2.1 hk0.1 (C0 := "") (t0 := _) (Or.inr rfl) hk0.2.2.2.1.1 dX5_weatherOn_30 ?_
        refine g_iload_n hC dX5_weatherOn_33 rfl (q := 0) rfl ?_
        obtain ⟨g34, h⟩ := oG_some h
        refine g_iald hC hk0.2.2.2.1.2.2 hk0.2.2.2.1.2.1 (inB_in g34) dX5_weatherOn_34 ?_
        refine g_goto hC dX5_weatherOn_35 (tgt := 39) (by decide) ?_
        cases h
        exact g_iret hC hE rfl dX5_weatherOn_39 (Nat.zero_le _) (Nat.zero_le _) ⟨rfl, rfl, rfl, rfl, rfl, rfl⟩
    · replace h := (if_neg c8).symm.trans h
      refine g_iconst hC dX5_weatherOn_11 (v := (4 : Int32)) (by decide) ?_
      cases h
      exact g_iret hC hE rfl dX5_weatherOn_12 (Nat.zero_le _) (Nat.zero_le _) ⟨rfl, rfl, rfl, rfl, rfl, rfl⟩
noncomputable def f_X9_noteOf (Fu : Nat) (I : mIT) (k0 : Nat) (k1 : Nat) (v2 : Int32) (v3 : Int32) : Option (Int32 × mIT) :=
  oB (f_X8_isTold Fu I (k1 + 4)) (fun r8 => if r8 = 0 then (oB (f_X9_sizeOf Fu I k0 v2) (fun r82 => oB (f_X9_hollowOf Fu I k0 v2) (fun r87 => some ((if (0 : Int32) < ((15 : Int32) - (((r82 - r87) - v3) / (2 : Int32))) then ((15 : Int32) - (((r82 - r87) - v3) / (2 : Int32))) else (0 : Int32)), I)))) else (oB (f_X9_day Fu I k0) (fun r16 => oB (f_X5_weatherOn Fu I k1 r16) (fun r19 => oB (f_X9_sizeOf Fu I k0 v2) (fun r28 => oB (f_X9_hollowOf Fu I k0 v2) (fun r33 => oB (f_X5_kindOf Fu I k1 v2) (fun r40 => oB (f_X9_softnessOf Fu I k0 v2) (fun r45 => oB (f_X9_day Fu I k0) (fun r51 => oB (f_X9_placeOf Fu I k0 v2) (fun r56 => if r56 < 0 then (oB (f_X8_worth Fu I (k1 + 4) r28 (r33 + v3) r40 r45 r19 r51 (0 : Int32)) (fun r67 => oB (f_X11_within Fu r67.1 (15 : Int32)) (fun r76 => some (r76, r67.2)))) else (oB (f_X8_worth Fu I (k1 + 4) r28 (r33 + v3) r40 r45 r19 r51 (1 : Int32)) (fun r67 => oB (f_X11_within Fu r67.1 (15 : Int32)) (fun r76 => some (r76, r67.2))))))))))))))
set_option maxRecDepth 20000 in
theorem ok_X9_noteOf {l : Launch} {E : mEn} {Fu : Nat} {I : mIT} {R : mRT} {L : mLT} {k0 : Nat} {k1 : Nat} {v2 : Int32} {v3 : Int32} (hst : l.stackTraces = false) (hk0 : mO9 R k0) (hk1 : mO5 R k1) {out : Int32 × mIT} (h : f_X9_noteOf Fu I k0 k1 v2 v3 = some out) : mOk l E mX9_noteOf [.ref (mB E + k0), .ref (mB E + k1), .int v2, .int v3] 106 1 I R L 0 0 (mSame (some (.int (out.1))) 106 1 (out.2) R L) := by
  refine mOk_of hst (by decide) (Nat.le_of_ble_eq_true rfl) (fun X hC hE _ => ?_)
  have hC : mC X E mX9_noteOf RX9 cX9_noteOf := hC
  show mG X E 0 [(0, .ref (mB E + k0)), (1, .ref (mB E + k1)), (2, .int v2), (3, .int v3)] [] 106 1 I R L 0 0
  unfold f_X9_noteOf at h
  refine g_aload_n hC dX9_noteOf_0 rfl (q := 1) rfl ?_
  refine g_getr hC fd_RX9_44 hk1.2.1 hk1.1 (C0 := _) (t0 := .int) (Or.inl rfl) hk1.2.2.2.2.2.1.1 dX9_noteOf_1 ?_
  refine g_astore hC dX9_noteOf_4 rfl (by decide) (lv' := [(4, .ref (mB E + (k1 + 4))), (0, .ref (mB E + k0)), (1, .ref (mB E + k1)), (2, .int v2), (3, .int v3)]) rfl ?_
  refine g_aload hC dX9_noteOf_6 (q := 0) rfl ?_
  obtain ⟨r8, h8, h⟩ := oB_some h
  refine g_cV1 hC cv_X8_isTold wd_598 ⟨Nat.le_of_ble_eq_true rfl, Nat.le_of_ble_eq_true rfl⟩ hk1.2.2.2.2.2.1.2.2.1 hk1.2.2.2.2.2.1.2.1 dX9_noteOf_8 (As := []) (st := []) (ok_X8_isTold hC.2.2.2.2.2.2.2.1 hk1.2.2.2.2.2.1.2 h8) rfl rfl (Nat.le_of_ble_eq_true rfl) ⟨Nat.zero_le _, Nat.zero_le _⟩ ?_
  refine g_if_eq hC dX9_noteOf_11 (tgt := 80) (by decide) (fun c11 => ?_) (fun c11 => ?_)
  · replace h := (if_pos c11).symm.trans h
    refine g_aload_n hC dX9_noteOf_80 rfl (q := 1) rfl ?_
    refine g_iload_n hC dX9_noteOf_81 rfl (q := 3) rfl ?_
    obtain ⟨r82, h82, h⟩ := oB_some h
    refine g_cV1 hC cv_X9_sizeOf wd_590 ⟨Nat.le_of_ble_eq_true rfl, Nat.le_of_ble_eq_true rfl⟩ hk0.2.1 hk0.1 dX9_noteOf_82 (As := [.int v2]) (st := []) (ok_X9_sizeOf hC.2.2.2.2.2.2.2.1 hk0 h82) rfl rfl (Nat.le_of_ble_eq_true rfl) ⟨Nat.zero_le _, Nat.zero_le _⟩ ?_
    refine g_aload_n hC dX9_noteOf_85 rfl (q := 1) rfl ?_
    refine g_iload_n hC dX9_noteOf_86 rfl (q := 3) rfl ?_
    obtain ⟨r87, h87, h⟩ := oB_some h
    refine g_cV1 hC cv_X9_hollowOf wd_602 ⟨Nat.le_of_ble_eq_true rfl, Nat.le_of_ble_eq_true rfl⟩ hk0.2.1 hk0.1 dX9_noteOf_87 (As := [.int v2]) (st := [.int r82]) (ok_X9_hollowOf hC.2.2.2.2.2.2.2.1 hk0 h87) rfl rfl (Nat.le_of_ble_eq_true rfl) ⟨Nat.zero_le _, Nat.zero_le _⟩ ?_
    refine g_isub hC dX9_noteOf_90 ?_
    refine g_iload_n hC dX9_noteOf_91 rfl (q := 4) rfl ?_
    refine g_isub hC dX9_noteOf_92 ?_
    refine g_istore hC dX9_noteOf_93 rfl (by decide) (lv' := [(5, .int ((r82 - r87) - v3)), (4, .ref (mB E + (k1 + 4))), (0, .ref (mB E + k0)), (1, .ref (mB E + k1)), (2, .int v2), (3, .int v3)]) rfl ?_
    refine g_iconst hC dX9_noteOf_95 (v := (0 : Int32)) (by decide) ?_
    refine g_bipush hC dX9_noteOf_96 (v := (15 : Int32)) (by decide) ?_
    refine g_iload hC dX9_noteOf_98 (q := 0) rfl ?_
    refine g_iconst hC dX9_noteOf_100 (v := (2 : Int32)) (by decide) ?_
    refine g_idiv hC dX9_noteOf_101 (by decide) ?_
    refine g_isub hC dX9_noteOf_102 ?_
    refine g_mmax hC wd_686 wd_st_max wd_in_math wd_cd_max (Nat.le_of_ble_eq_true rfl) (Nat.le_of_ble_eq_true rfl) ⟨Nat.zero_le _, Nat.zero_le _⟩ dX9_noteOf_103 ?_
    cases h
    exact g_iret hC hE rfl dX9_noteOf_106 (Nat.zero_le _) (Nat.zero_le _) ⟨rfl, rfl, rfl, rfl, rfl, rfl⟩
  · replace h := (if_neg c11).symm.trans h
    refine g_aload_n hC dX9_noteOf_14 rfl (q := 2) rfl ?_
    refine g_aload_n hC dX9_noteOf_15 rfl (q := 1) rfl ?_
    obtain ⟨r16, h16, h⟩ := oB_some h
    refine g_cV1 hC cv_X9_day wd_614 ⟨Nat.le_of_ble_eq_true rfl, Nat.le_of_ble_eq_true rfl⟩ hk0.2.1 hk0.1 dX9_noteOf_16 (As := []) (st := [.ref (mB E + k1)]) (ok_X9_day hC.2.2.2.2.2.2.2.1 hk0 h16) rfl rfl (Nat.le_of_ble_eq_true rfl) ⟨Nat.zero_le _, Nat.zero_le _⟩ ?_
    obtain ⟨r19, h19, h⟩ := oB_some h
    refine g_cV1 hC cv_X5_weatherOn wd_685 ⟨Nat.le_of_ble_eq_true rfl, Nat.le_of_ble_eq_true rfl⟩ hk1.2.1 hk1.1 dX9_noteOf_19 (As := [.int r16]) (st := []) (ok_X5_weatherOn hC.2.2.2.2.2.2.2.1 hk1 h19) rfl rfl (Nat.le_of_ble_eq_true rfl) ⟨Nat.zero_le _, Nat.zero_le _⟩ ?_
    refine g_istore hC dX9_noteOf_22 rfl (by decide) (lv' := [(5, .int r19), (4, .ref (mB E + (k1 + 4))), (0, .ref (mB E + k0)), (1, .ref (mB E + k1)), (2, .int v2), (3, .int v3)]) rfl ?_
    refine g_aload hC dX9_noteOf_24 (q := 1) rfl ?_
    refine g_aload_n hC dX9_noteOf_26 rfl (q := 2) rfl ?_
    refine g_iload_n hC dX9_noteOf_27 rfl (q := 4) rfl ?_
    obtain ⟨r28, h28, h⟩ := oB_some h
    refine g_cV1 hC cv_X9_sizeOf wd_590 ⟨Nat.le_of_ble_eq_true rfl, Nat.le_of_ble_eq_true rfl⟩ hk0.2.1 hk0.1 dX9_noteOf_28 (As := [.int v2]) (st := [.ref (mB E + (k1 + 4))]) (ok_X9_sizeOf hC.2.2.2.2.2.2.2.1 hk0 h28) rfl rfl (Nat.le_of_ble_eq_true rfl) ⟨Nat.zero_le _, Nat.zero_le _⟩ ?_
    refine g_aload_n hC dX9_noteOf_31 rfl (q := 2) rfl ?_
    refine g_iload_n hC dX9_noteOf_32 rfl (q := 4) rfl ?_
    obtain ⟨r33, h33, h⟩ := oB_some h
    refine g_cV1 hC cv_X9_hollowOf wd_602 ⟨Nat.le_of_ble_eq_true rfl, Nat.le_of_ble_eq_true rfl⟩ hk0.2.1 hk0.1 dX9_noteOf_33 (As := [.int v2]) (st := [.int r28, .ref (mB E + (k1 + 4))]) (ok_X9_hollowOf hC.2.2.2.2.2.2.2.1 hk0 h33) rfl rfl (Nat.le_of_ble_eq_true rfl) ⟨Nat.zero_le _, Nat.zero_le _⟩ ?_
    refine g_iload_n hC dX9_noteOf_36 rfl (q := 5) rfl ?_
    refine g_iadd hC dX9_noteOf_37 ?_
    refine g_aload_n hC dX9_noteOf_38 rfl (q := 3) rfl ?_
    refine g_iload_n hC dX9_noteOf_39 rfl (q := 4) rfl ?_
    obtain ⟨r40, h40, h⟩ := oB_some h
    refine g_cV1 hC cv_X5_kindOf wd_606 ⟨Nat.le_of_ble_eq_true rfl, Nat.le_of_ble_eq_true rfl⟩ hk1.2.1 hk1.1 dX9_noteOf_40 (As := [.int v2]) (st := [.int (r33 + v3), .int r28, .ref (mB E + (k1 + 4))]) (ok_X5_kindOf hC.2.2.2.2.2.2.2.1 hk1 h40) rfl rfl (Nat.le_of_ble_eq_true rfl) ⟨Nat.zero_le _, Nat.zero_le _⟩ ?_
    refine g_aload_n hC dX9_noteOf_43 rfl (q := 2) rfl ?_
    refine g_iload_n hC dX9_noteOf_44 rfl (q := 4) rfl ?_
    obtain ⟨r45, h45, h⟩ := oB_some h
    refine g_cV1 hC cv_X9_softnessOf wd_610 ⟨Nat.le_of_ble_eq_true rfl, Nat.le_of_ble_eq_true rfl⟩ hk0.2.1 hk0.1 dX9_noteOf_45 (As := [.int v2]) (st := [.int r40, .int (r33 + v3), .int r28, .ref (mB E + (k1 + 4))]) (ok_X9_softnessOf hC.2.2.2.2.2.2.2.1 hk0 h45) rfl rfl (Nat.le_of_ble_eq_true rfl) ⟨Nat.zero_le _, Nat.zero_le _⟩ ?_
    refine g_iload hC dX9_noteOf_48 (q := 0) rfl ?_
    refine g_aload_n hC dX9_noteOf_50 rfl (q := 2) rfl ?_
    obtain ⟨r51, h51, h⟩ := oB_some h
    refine g_cV1 hC cv_X9_day wd_614 ⟨Nat.le_of_ble_eq_true rfl, Nat.le_of_ble_eq_true rfl⟩ hk0.2.1 hk0.1 dX9_noteOf_51 (As := []) (st := [.int r19, .int r45, .int r40, .int (r33 + v3), .int r28, .ref (mB E + (k1 + 4))]) (ok_X9_day hC.2.2.2.2.2.2.2.1 hk0 h51) rfl rfl (Nat.le_of_ble_eq_true rfl) ⟨Nat.zero_le _, Nat.zero_le _⟩ ?_
    refine g_aload_n hC dX9_noteOf_54 rfl (q := 2) rfl ?_
    refine g_iload_n hC dX9_noteOf_55 rfl (q := 4) rfl ?_
    obtain ⟨r56, h56, h⟩ := oB_some h
    refine g_cV1 hC cv_X9_placeOf wd_586 ⟨Nat.le_of_ble_eq_true rfl, Nat.le_of_ble_eq_true rfl⟩ hk0.2.1 hk0.1 dX9_noteOf_56 (As := [.int v2]) (st := [.int r51, .int r19, .int r45, .int r40, .int (r33 + v3), .int r28, .ref (mB E + (k1 + 4))]) (ok_X9_placeOf hC.2.2.2.2.2.2.2.1 hk0 h56) rfl rfl (Nat.le_of_ble_eq_true rfl) ⟨Nat.zero_le _, Nat.zero_le _⟩ ?_
    refine g_if_lt hC dX9_noteOf_59 (tgt := 66) (by decide) (fun c59 => ?_) (fun c59 => ?_)
    · replace h := (if_pos c59).symm.trans h
      refine g_iconst hC dX9_noteOf_66 (v := (0 : Int32)) (by decide) ?_
      obtain ⟨r67, h67, h⟩ := oB_some h
      refine g_cV1 hC cv_X8_worth wd_615 ⟨Nat.le_of_ble_eq_true rfl, Nat.le_of_ble_eq_true rfl⟩ hk1.2.2.2.2.2.1.2.2.1 hk1.2.2.2.2.2.1.2.1 dX9_noteOf_67 (As := [.int r28, .int (r33 + v3), .int r40, .int r45, .int r19, .int r51, .int (0 : Int32)]) (st := []) (ok_X8_worth hC.2.2.2.2.2.2.2.1 hk1.2.2.2.2.2.1.2 h67) rfl rfl (Nat.le_of_ble_eq_true rfl) ⟨Nat.zero_le _, Nat.zero_le _⟩ ?_
      refine g_istore hC dX9_noteOf_70 rfl (by decide) (lv' := [(6, .int r67.1), (5, .int r19), (4, .ref (mB E + (k1 + 4))), (0, .ref (mB E + k0)), (1, .ref (mB E + k1)), (2, .int v2), (3, .int v3)]) rfl ?_
      refine g_iload hC dX9_noteOf_72 (q := 0) rfl ?_
      refine g_bipush hC dX9_noteOf_74 (v := (15 : Int32)) (by decide) ?_
      obtain ⟨r76, h76, h⟩ := oB_some h
      refine g_cN1 hC cs_X11_within (host := RX11) nl_RX9_73 ⟨Nat.le_of_ble_eq_true rfl, Nat.le_of_ble_eq_true rfl⟩ dX9_noteOf_76 (As := [.int r67.1, .int (15 : Int32)]) (st := []) (ok_X11_within hC.2.2.2.2.2.2.2.1  h76) rfl rfl (Nat.le_of_ble_eq_true rfl) ⟨Nat.zero_le _, Nat.zero_le _⟩ ?_
      cases h
      exact g_iret hC hE rfl dX9_noteOf_79 (Nat.zero_le _) (Nat.zero_le _) ⟨rfl, rfl, rfl, rfl, rfl, rfl⟩
    · replace h := (if_neg c59).symm.trans h
      refine g_iconst hC dX9_noteOf_62 (v := (1 : Int32)) (by decide) ?_
      refine g_goto hC dX9_noteOf_63 (tgt := 67) (by decide) ?_
      obtain ⟨r67, h67, h⟩ := oB_some h
      refine g_cV1 hC cv_X8_worth wd_615 ⟨Nat.le_of_ble_eq_true rfl, Nat.le_of_ble_eq_true rfl⟩ hk1.2.2.2.2.2.1.2.2.1 hk1.2.2.2.2.2.1.2.1 dX9_noteOf_67 (As := [.int r28, .int (r33 + v3), .int r40, .int r45, .int r19, .int r51, .int (1 : Int32)]) (st := []) (ok_X8_worth hC.2.2.2.2.2.2.2.1 hk1.2.2.2.2.2.1.2 h67) rfl rfl (Nat.le_of_ble_eq_true rfl) ⟨Nat.zero_le _, Nat.zero_le _⟩ ?_
      refine g_istore hC dX9_noteOf_70 rfl (by decide) (lv' := [(6, .int r67.1), (5, .int r19), (4, .ref (mB E + (k1 + 4))), (0, .ref (mB E + k0)), (1, .ref (mB E + k1)), (2, .int v2), (3, .int v3)]) rfl ?_
      refine g_iload hC dX9_noteOf_72 (q := 0) rfl ?_
      refine g_bipush hC dX9_noteOf_74 (v := (15 : Int32)) (by decide) ?_
      obtain ⟨r76, h76, h⟩ := oB_some h
      refine g_cN1 hC cs_X11_within (host := RX11) nl_RX9_73 ⟨Nat.le_of_ble_eq_true rfl, Nat.le_of_ble_eq_true rfl⟩ dX9_noteOf_76 (As := [.int r67.1, .int (15 : Int32)]) (st := []) (ok_X11_within hC.2.2.2.2.2.2.2.1  h76) rfl rfl (Nat.le_of_ble_eq_true rfl) ⟨Nat.zero_le _, Nat.zero_le _⟩ ?_
      cases h
      exact g_iret hC hE rfl dX9_noteOf_79 (Nat.zero_le _) (Nat.zero_le _) ⟨rfl, rfl, rfl, rfl, rfl, rfl⟩
noncomputable def f_X1_setNote (Fu : Nat) (I : mIT) (v1 : Int32) (v2 : Int32) (v3 : Int32) : Option (mIT) :=
  if ((v1 * (10 : Int32)) + v2) < 0 then (some (I)) else (if (nI 610) ≤ ((v1 * (10 : Int32)) + v2) then (some (I)) else (oG (inB ((v1 * (10 : Int32)) + v2) 610) (some (mU I 59 (((v1 * (10 : Int32)) + v2)).toNatClampNeg v3))))
set_option maxRecDepth 20000 in
theorem ok_X1_setNote {l : Launch} {E : mEn} {Fu : Nat} {I : mIT} {R : mRT} {L : mLT} {v1 : Int32} {v2 : Int32} {v3 : Int32} (hst : l.stackTraces = false) (hW : mWd R)  {out : mIT} (h : f_X1_setNote Fu I v1 v2 v3 = some out) : mOk l E mX1_setNote [.ref (mB E + 56), .int v1, .int v2, .int v3] 106 1 I R L 0 0 (mSame none 106 1 (out) R L) := by
  refine mOk_of hst (by decide) (Nat.le_of_ble_eq_true rfl) (fun X hC hE _ => ?_)
  have hC : mC X E mX1_setNote RX1 cX1_setNote := hC
  show mG X E 0 [(0, .ref (mB E + 56)), (1, .int v1), (2, .int v2), (3, .int v3)] [] 106 1 I R L 0 0
  unfold f_X1_setNote at h
  refine g_iload_n hC dX1_setNote_0 rfl (q := 1) rfl ?_
  refine g_bipush hC dX1_setNote_1 (v := (10 : Int32)) (by decide) ?_
  refine g_imul hC dX1_setNote_3 ?_
  refine g_iload_n hC dX1_setNote_4 rfl (q := 2) rfl ?_
  refine g_iadd hC dX1_setNote_5 ?_
  refine g_istore hC dX1_setNote_6 rfl (by decide) (lv' := [(4, .int ((v1 * (10 : Int32)) + v2)), (0, .ref (mB E + 56)), (1, .int v1), (2, .int v2), (3, .int v3)]) rfl ?_
  refine g_iload hC dX1_setNote_8 (q := 0) rfl ?_
  refine g_if_lt hC dX1_setNote_10 (tgt := 31) (by decide) (fun c10 => ?_) (fun c10 => ?_)
  · replace h := (if_pos c10).symm.trans h
    cases h
    exact g_vret hC hE rfl dX1_setNote_31 (Nat.zero_le _) (Nat.zero_le _) ⟨rfl, rfl, rfl, rfl, rfl, rfl⟩
  · replace h := (if_neg c10).symm.trans h
    refine g_iload hC dX1_setNote_13 (q := 0) rfl ?_
    refine g_aload_n hC dX1_setNote_15 rfl (q := 1) rfl ?_
    refine g_getr hC fd_RX1_18 rfl (by decide) (C0 := "") (t0 := _) (Or.inr rfl) (rr_56_1 hW.1) dX1_setNote_16 ?_
    refine g_alenI hC rfl (by decide) dX1_setNote_19 ?_
    refine g_ic_ge hC dX1_setNote_20 (tgt := 31) (by decide) (fun c20 => ?_) (fun c20 => ?_)
    · replace h := (if_pos c20).symm.trans h
      cases h
      exact g_vret hC hE rfl dX1_setNote_31 (Nat.zero_le _) (Nat.zero_le _) ⟨rfl, rfl, rfl, rfl, rfl, rfl⟩
    · replace h := (if_neg c20).symm.trans h
      refine g_aload_n hC dX1_setNote_23 rfl (q := 1) rfl ?_
      refine g_getr hC fd_RX1_18 rfl (by decide) (C0 := "") (t0 := _) (Or.inr rfl) (rr_56_1 hW.1) dX1_setNote_24 ?_
      refine g_iload hC dX1_setNote_27 (q := 0) rfl ?_
      refine g_iload_n hC dX1_setNote_29 rfl (q := 4) rfl ?_
      obtain ⟨g30, h⟩ := oG_some h
      refine g_iast hC rfl (by decide) (inB_in g30) dX1_setNote_30 (nm_e ?_)
      cases h
      exact g_vret hC hE rfl dX1_setNote_31 (Nat.zero_le _) (Nat.zero_le _) ⟨rfl, rfl, rfl, rfl, rfl, rfl⟩
noncomputable def b_X1_layDay_100 (Fu : Nat) (k1 : Nat) (k31_ : Int32 × Int32 × Int32 × Int32 × mIT → Option (mIT)) (v2 : Int32) (v3 : Int32) (v5 : Int32) (s0 : Int32) (s1 : Int32) (I : mIT) : Option (mIT) :=
  oB (f_X9_noteOf Fu I 57 k1 v5 (0 : Int32)) (fun r115 => oB (f_X1_setNote Fu r115.2 v2 v5 r115.1) (fun r118 => k31_ (v2, v3, (s0 ||| s1), (v5 + (1 : Int32)), r118)))
set_option maxRecDepth 20000 in
theorem bo_X1_layDay_100 {X : mXT} {E : mEn} {Fu : Nat} {R : mRT} {L : mLT} {k1 : Nat} (hC : mC X E mX1_layDay RX1 cX1_layDay) (hW : mWd R) (hk1 : mO5 R k1)  {out : mIT} (hE : mEd X E 0 0 (mSame none 106 1 (out) R L)) (k31_ : Int32 × Int32 × Int32 × Int32 × mIT → Option (mIT)) (hk31_ : ∀ (v2 : Int32) (v3 : Int32) (v4 : Int32) (v5 : Int32) (I : mIT),  k31_ (v2, v3, v4, v5, I) = some out → mG X E 31 [(0, .ref (mB E + 56)), (1, .ref (mB E + k1)), (2, .int v2), (3, .int v3), (4, .int v4), (5, .int v5)] [] 106 1 I R L 0 0) (v2 : Int32) (v3 : Int32) (v5 : Int32) (s0 : Int32) (s1 : Int32) (I : mIT) (h : b_X1_layDay_100 Fu k1 k31_ v2 v3 v5 s0 s1 I = some out) : mG X E 100 [(0, .ref (mB E + 56)), (1, .ref (mB E + k1)), (2, .int v2), (3, .int v3), (5, .int v5)] [.int s1, .int s0] 106 1 I R L 0 0 := by
  unfold b_X1_layDay_100 at h
  refine g_ior hC dX1_layDay_100 ?_
  refine g_istore hC dX1_layDay_101 rfl (by decide) (lv' := [(4, .int (s0 ||| s1)), (0, .ref (mB E + 56)), (1, .ref (mB E + k1)), (2, .int v2), (3, .int v3), (5, .int v5)]) rfl ?_
  refine g_aload_n hC dX1_layDay_103 rfl (q := 1) rfl ?_
  refine g_iload_n hC dX1_layDay_104 rfl (q := 3) rfl ?_
  refine g_iload hC dX1_layDay_105 (q := 5) rfl ?_
  refine g_aload_n hC dX1_layDay_107 rfl (q := 1) rfl ?_
  refine g_getr hC fd_RX1_12 rfl (by decide) (C0 := _) (t0 := .int) (Or.inl rfl) (rr_56_0 hW.1) dX1_layDay_108 ?_
  refine g_aload_n hC dX1_layDay_111 rfl (q := 2) rfl ?_
  refine g_iload hC dX1_layDay_112 (q := 5) rfl ?_
  refine g_iconst hC dX1_layDay_114 (v := (0 : Int32)) (by decide) ?_
  obtain ⟨r115, h115, h⟩ := oB_some h
  refine g_cV1 hC cv_X9_noteOf wd_681 ⟨Nat.le_of_ble_eq_true rfl, Nat.le_of_ble_eq_true rfl⟩ rfl (by decide) dX1_layDay_115 (As := [.ref (mB E + k1), .int v5, .int (0 : Int32)]) (st := [.int v5, .int v2, .ref (mB E + 56)]) (ok_X9_noteOf hC.2.2.2.2.2.2.2.1 (ob_57 hW.1) hk1 h115) rfl rfl (Nat.le_of_ble_eq_true rfl) ⟨Nat.zero_le _, Nat.zero_le _⟩ ?_
  obtain ⟨r118, h118, h⟩ := oB_some h
  refine g_cV0 hC cv_X1_setNote wd_687 ⟨Nat.le_of_ble_eq_true rfl, Nat.le_of_ble_eq_true rfl⟩ rfl (by decide) dX1_layDay_118 (As := [.int v2, .int v5, .int r115.1]) (st := []) (ok_X1_setNote hC.2.2.2.2.2.2.2.1 hW h118) rfl rfl (Nat.le_of_ble_eq_true rfl) ⟨Nat.zero_le _, Nat.zero_le _⟩ ?_
  refine g_iinc hC dX1_layDay_121 rfl (q := 5) rfl (w := (v5 + (1 : Int32))) rfl (by decide) (lv' := [(5, .int (v5 + (1 : Int32))), (4, .int (s0 ||| s1)), (0, .ref (mB E + 56)), (1, .ref (mB E + k1)), (2, .int v2), (3, .int v3)]) rfl ?_
  refine g_goto hC dX1_layDay_124 (tgt := 31) (by decide) ?_
  refine g_lv [2, 3, 4, 5, 1, 0] rfl ?_
  exact hk31_ v2 v3 (s0 ||| s1) (v5 + (1 : Int32)) r118 h
noncomputable def b_X1_layDay_99 (Fu : Nat) (k1 : Nat) (k31_ : Int32 × Int32 × Int32 × Int32 × mIT → Option (mIT)) (v2 : Int32) (v3 : Int32) (v5 : Int32) (s0 : Int32) (I : mIT) : Option (mIT) :=
  b_X1_layDay_100 Fu k1 k31_ v2 v3 v5 s0 (0 : Int32) I
set_option maxRecDepth 20000 in
theorem bo_X1_layDay_99 {X : mXT} {E : mEn} {Fu : Nat} {R : mRT} {L : mLT} {k1 : Nat} (hC : mC X E mX1_layDay RX1 cX1_layDay) (hW : mWd R) (hk1 : mO5 R k1)  {out : mIT} (hE : mEd X E 0 0 (mSame none 106 1 (out) R L)) (k31_ : Int32 × Int32 × Int32 × Int32 × mIT → Option (mIT)) (hk31_ : ∀ (v2 : Int32) (v3 : Int32) (v4 : Int32) (v5 : Int32) (I : mIT),  k31_ (v2, v3, v4, v5, I) = some out → mG X E 31 [(0, .ref (mB E + 56)), (1, .ref (mB E + k1)), (2, .int v2), (3, .int v3), (4, .int v4), (5, .int v5)] [] 106 1 I R L 0 0) (v2 : Int32) (v3 : Int32) (v5 : Int32) (s0 : Int32) (I : mIT) (h : b_X1_layDay_99 Fu k1 k31_ v2 v3 v5 s0 I = some out) : mG X E 99 [(0, .ref (mB E + 56)), (1, .ref (mB E + k1)), (2, .int v2), (3, .int v3), (5, .int v5)] [.int s0] 106 1 I R L 0 0 := by
  unfold b_X1_layDay_99 at h
  refine g_iconst hC dX1_layDay_99 (v := (0 : Int32)) (by decide) ?_
  exact bo_X1_layDay_100 hC hW hk1 hE k31_ hk31_ (v2) (v3) (v5) (s0) ((0 : Int32)) (I) h
noncomputable def b_X1_layDay_65 (Fu : Nat) (k1 : Nat) (k31_ : Int32 × Int32 × Int32 × Int32 × mIT → Option (mIT)) (v2 : Int32) (v4 : Int32) (v5 : Int32) (v6 : Int32) (s0 : Int32) (s1 : Int32) (I : mIT) : Option (mIT) :=
  if v6 = (-2 : Int32) then (b_X1_layDay_99 Fu k1 k31_ v2 (s0 ||| s1) v5 v4 I) else (oB (f_X9_softnessOf Fu I 57 v5) (fun r82 => if (I k1 5) ≤ r82 then (b_X1_layDay_99 Fu k1 k31_ v2 (s0 ||| s1) v5 v4 I) else (b_X1_layDay_100 Fu k1 k31_ v2 (s0 ||| s1) v5 v4 ((1 : Int32) <<< (v5 &&& 31)) I)))
set_option maxRecDepth 20000 in
theorem bo_X1_layDay_65 {X : mXT} {E : mEn} {Fu : Nat} {R : mRT} {L : mLT} {k1 : Nat} (hC : mC X E mX1_layDay RX1 cX1_layDay) (hW : mWd R) (hk1 : mO5 R k1)  {out : mIT} (hE : mEd X E 0 0 (mSame none 106 1 (out) R L)) (k31_ : Int32 × Int32 × Int32 × Int32 × mIT → Option (mIT)) (hk31_ : ∀ (v2 : Int32) (v3 : Int32) (v4 : Int32) (v5 : Int32) (I : mIT),  k31_ (v2, v3, v4, v5, I) = some out → mG X E 31 [(0, .ref (mB E + 56)), (1, .ref (mB E + k1)), (2, .int v2), (3, .int v3), (4, .int v4), (5, .int v5)] [] 106 1 I R L 0 0) (v2 : Int32) (v4 : Int32) (v5 : Int32) (v6 : Int32) (s0 : Int32) (s1 : Int32) (I : mIT) (h : b_X1_layDay_65 Fu k1 k31_ v2 v4 v5 v6 s0 s1 I = some out) : mG X E 65 [(0, .ref (mB E + 56)), (1, .ref (mB E + k1)), (2, .int v2), (4, .int v4), (5, .int v5), (6, .int v6)] [.int s1, .int s0] 106 1 I R L 0 0 := by
  unfold b_X1_layDay_65 at h
  refine g_ior hC dX1_layDay_65 ?_
  refine g_istore_n hC dX1_layDay_66 rfl rfl (by decide) (lv' := [(3, .int (s0 ||| s1)), (0, .ref (mB E + 56)), (1, .ref (mB E + k1)), (2, .int v2), (4, .int v4), (5, .int v5), (6, .int v6)]) rfl ?_
  refine g_iload hC dX1_layDay_67 (q := 4) rfl ?_
  refine g_iload hC dX1_layDay_69 (q := 6) rfl ?_
  refine g_bipush hC dX1_layDay_71 (v := (-2 : Int32)) (by decide) ?_
  refine g_ic_eq hC dX1_layDay_73 (tgt := 99) (by decide) (fun c73 => ?_) (fun c73 => ?_)
  · replace h := (if_pos c73).symm.trans h
    refine g_lv [1, 2, 3, 0, 5] rfl ?_
    exact bo_X1_layDay_99 hC hW hk1 hE k31_ hk31_ (v2) ((s0 ||| s1)) (v5) (v4) (I) h
  · replace h := (if_neg c73).symm.trans h
    refine g_aload_n hC dX1_layDay_76 rfl (q := 1) rfl ?_
    refine g_getr hC fd_RX1_12 rfl (by decide) (C0 := _) (t0 := .int) (Or.inl rfl) (rr_56_0 hW.1) dX1_layDay_77 ?_
    refine g_iload hC dX1_layDay_80 (q := 5) rfl ?_
    obtain ⟨r82, h82, h⟩ := oB_some h
    refine g_cV1 hC cv_X9_softnessOf wd_680 ⟨Nat.le_of_ble_eq_true rfl, Nat.le_of_ble_eq_true rfl⟩ rfl (by decide) dX1_layDay_82 (As := [.int v5]) (st := [.int v4]) (ok_X9_softnessOf hC.2.2.2.2.2.2.2.1 (ob_57 hW.1) h82) rfl rfl (Nat.le_of_ble_eq_true rfl) ⟨Nat.zero_le _, Nat.zero_le _⟩ ?_
    refine g_aload_n hC dX1_layDay_85 rfl (q := 2) rfl ?_
    refine g_geti hC fd_RX1_62 hk1.2.1 hk1.1 (Or.inl rfl) dX1_layDay_86 ?_
    refine g_ic_ge hC dX1_layDay_89 (tgt := 99) (by decide) (fun c89 => ?_) (fun c89 => ?_)
    · replace h := (if_pos c89).symm.trans h
      refine g_lv [1, 2, 3, 0, 5] rfl ?_
      exact bo_X1_layDay_99 hC hW hk1 hE k31_ hk31_ (v2) ((s0 ||| s1)) (v5) (v4) (I) h
    · replace h := (if_neg c89).symm.trans h
      refine g_iconst hC dX1_layDay_92 (v := (1 : Int32)) (by decide) ?_
      refine g_iload hC dX1_layDay_93 (q := 5) rfl ?_
      refine g_ishl hC dX1_layDay_95 ?_
      refine g_goto hC dX1_layDay_96 (tgt := 100) (by decide) ?_
      refine g_lv [1, 2, 3, 0, 5] rfl ?_
      exact bo_X1_layDay_100 hC hW hk1 hE k31_ hk31_ (v2) ((s0 ||| s1)) (v5) (v4) (((1 : Int32) <<< (v5 &&& 31))) (I) h
noncomputable def b_X1_layDay_31 (Fu : Nat) (k1 : Nat) (k31_ : Int32 × Int32 × Int32 × Int32 × mIT → Option (mIT)) (v2 : Int32) (v3 : Int32) (v4 : Int32) (v5 : Int32) (I : mIT) : Option (mIT) :=
  if (I k1 3) ≤ v5 then (oG (inB v2 61) (oG (inB v2 61) (some (mU (mU I 60 (v2).toNatClampNeg (v3 &&& v4)) 61 (v2).toNatClampNeg v4)))) else (oB (f_X9_placeOf Fu I 57 v5) (fun r46 => if r46 < 0 then (b_X1_layDay_65 Fu k1 k31_ v2 v4 v5 r46 v3 (0 : Int32) I) else (b_X1_layDay_65 Fu k1 k31_ v2 v4 v5 r46 v3 ((1 : Int32) <<< (v5 &&& 31)) I)))
set_option maxRecDepth 20000 in
theorem bo_X1_layDay_31 {X : mXT} {E : mEn} {Fu : Nat} {R : mRT} {L : mLT} {k1 : Nat} (hC : mC X E mX1_layDay RX1 cX1_layDay) (hW : mWd R) (hk1 : mO5 R k1)  {out : mIT} (hE : mEd X E 0 0 (mSame none 106 1 (out) R L)) (k31_ : Int32 × Int32 × Int32 × Int32 × mIT → Option (mIT)) (hk31_ : ∀ (v2 : Int32) (v3 : Int32) (v4 : Int32) (v5 : Int32) (I : mIT),  k31_ (v2, v3, v4, v5, I) = some out → mG X E 31 [(0, .ref (mB E + 56)), (1, .ref (mB E + k1)), (2, .int v2), (3, .int v3), (4, .int v4), (5, .int v5)] [] 106 1 I R L 0 0) (v2 : Int32) (v3 : Int32) (v4 : Int32) (v5 : Int32) (I : mIT) (h : b_X1_layDay_31 Fu k1 k31_ v2 v3 v4 v5 I = some out) : mG X E 31 [(0, .ref (mB E + 56)), (1, .ref (mB E + k1)), (2, .int v2), (3, .int v3), (4, .int v4), (5, .int v5)] [] 106 1 I R L 0 0 := by
  unfold b_X1_layDay_31 at h
  refine g_iload hC dX1_layDay_31 (q := 5) rfl ?_
  refine g_aload_n hC dX1_layDay_33 rfl (q := 1) rfl ?_
  refine g_geti hC fd_RX1_53 hk1.2.1 hk1.1 (Or.inl rfl) dX1_layDay_34 ?_
  refine g_ic_ge hC dX1_layDay_37 (tgt := 127) (by decide) (fun c37 => ?_) (fun c37 => ?_)
  · replace h := (if_pos c37).symm.trans h
    refine g_aload_n hC dX1_layDay_127 rfl (q := 0) rfl ?_
    refine g_getr hC fd_RX1_22 rfl (by decide) (C0 := "") (t0 := _) (Or.inr rfl) (rr_56_2 hW.1) dX1_layDay_128 ?_
    refine g_iload_n hC dX1_layDay_131 rfl (q := 2) rfl ?_
    refine g_iload_n hC dX1_layDay_132 rfl (q := 3) rfl ?_
    refine g_iload hC dX1_layDay_133 (q := 4) rfl ?_
    refine g_iand hC dX1_layDay_135 ?_
    obtain ⟨g136, h⟩ := oG_some h
    refine g_iast hC rfl (by decide) (inB_in g136) dX1_layDay_136 (nm_e ?_)
    refine g_aload_n hC dX1_layDay_137 rfl (q := 0) rfl ?_
    refine g_getr hC fd_RX1_25 rfl (by decide) (C0 := "") (t0 := _) (Or.inr rfl) (rr_56_3 hW.1) dX1_layDay_138 ?_
    refine g_iload_n hC dX1_layDay_141 rfl (q := 2) rfl ?_
    refine g_iload hC dX1_layDay_142 (q := 4) rfl ?_
    obtain ⟨g144, h⟩ := oG_some h
    refine g_iast hC rfl (by decide) (inB_in g144) dX1_layDay_144 (nm_e ?_)
    cases h
    exact g_vret hC hE rfl dX1_layDay_145 (Nat.zero_le _) (Nat.zero_le _) ⟨rfl, rfl, rfl, rfl, rfl, rfl⟩
  · replace h := (if_neg c37).symm.trans h
    refine g_aload_n hC dX1_layDay_40 rfl (q := 0) rfl ?_
    refine g_getr hC fd_RX1_12 rfl (by decide) (C0 := _) (t0 := .int) (Or.inl rfl) (rr_56_0 hW.1) dX1_layDay_41 ?_
    refine g_iload hC dX1_layDay_44 (q := 5) rfl ?_
    obtain ⟨r46, h46, h⟩ := oB_some h
    refine g_cV1 hC cv_X9_placeOf wd_679 ⟨Nat.le_of_ble_eq_true rfl, Nat.le_of_ble_eq_true rfl⟩ rfl (by decide) dX1_layDay_46 (As := [.int v5]) (st := []) (ok_X9_placeOf hC.2.2.2.2.2.2.2.1 (ob_57 hW.1) h46) rfl rfl (Nat.le_of_ble_eq_true rfl) ⟨Nat.zero_le _, Nat.zero_le _⟩ ?_
    refine g_istore hC dX1_layDay_49 rfl (by decide) (lv' := [(6, .int r46), (0, .ref (mB E + 56)), (1, .ref (mB E + k1)), (2, .int v2), (3, .int v3), (4, .int v4), (5, .int v5)]) rfl ?_
    refine g_iload_n hC dX1_layDay_51 rfl (q := 4) rfl ?_
    refine g_iload hC dX1_layDay_52 (q := 0) rfl ?_
    refine g_if_lt hC dX1_layDay_54 (tgt := 64) (by decide) (fun c54 => ?_) (fun c54 => ?_)
    · replace h := (if_pos c54).symm.trans h
      refine g_iconst hC dX1_layDay_64 (v := (0 : Int32)) (by decide) ?_
      refine g_lv [1, 2, 3, 5, 6, 0] rfl ?_
      exact bo_X1_layDay_65 hC hW hk1 hE k31_ hk31_ (v2) (v4) (v5) (r46) (v3) ((0 : Int32)) (I) h
    · replace h := (if_neg c54).symm.trans h
      refine g_iconst hC dX1_layDay_57 (v := (1 : Int32)) (by decide) ?_
      refine g_iload hC dX1_layDay_58 (q := 6) rfl ?_
      refine g_ishl hC dX1_layDay_60 ?_
      refine g_goto hC dX1_layDay_61 (tgt := 65) (by decide) ?_
      refine g_lv [1, 2, 3, 5, 6, 0] rfl ?_
      exact bo_X1_layDay_65 hC hW hk1 hE k31_ hk31_ (v2) (v4) (v5) (r46) (v3) (((1 : Int32) <<< (v5 &&& 31))) (I) h
noncomputable def w_X1_layDay_31 (Fu : Nat) (k1 : Nat)  (N : Nat) (v2 : Int32) (v3 : Int32) (v4 : Int32) (v5 : Int32) (I : mIT) : Option (mIT) :=
  loopF (fun self (s : Int32 × Int32 × Int32 × Int32 × mIT) => b_X1_layDay_31 Fu k1 self s.1 s.2.1 s.2.2.1 s.2.2.2.1 s.2.2.2.2) N (v2, v3, v4, v5, I)
theorem wo_X1_layDay_31 {X : mXT} {E : mEn} {Fu : Nat} {R : mRT} {L : mLT} {k1 : Nat} (hC : mC X E mX1_layDay RX1 cX1_layDay) (hW : mWd R) (hk1 : mO5 R k1)  {out : mIT} (hE : mEd X E 0 0 (mSame none 106 1 (out) R L))  (N : Nat) (v2 : Int32) (v3 : Int32) (v4 : Int32) (v5 : Int32) (I : mIT) (h : w_X1_layDay_31 Fu k1  N v2 v3 v4 v5 I = some out) : mG X E 31 [(0, .ref (mB E + 56)), (1, .ref (mB E + k1)), (2, .int v2), (3, .int v3), (4, .int v4), (5, .int v5)] [] 106 1 I R L 0 0 :=
  loopF_ok (Gd := fun s : Int32 × Int32 × Int32 × Int32 × mIT => mG X E 31 [(0, .ref (mB E + 56)), (1, .ref (mB E + k1)), (2, .int s.1), (3, .int s.2.1), (4, .int s.2.2.1), (5, .int s.2.2.2.1)] [] 106 1 s.2.2.2.2 R L 0 0) (fun self hs s h => bo_X1_layDay_31 hC hW hk1 hE self (fun v2 v3 v4 v5 I h => hs (v2, v3, v4, v5, I) h) s.1 s.2.1 s.2.2.1 s.2.2.2.1 s.2.2.2.2 h) N (v2, v3, v4, v5, I) h
noncomputable def f_X1_layDay (Fu : Nat) (I : mIT) (k1 : Nat) (v2 : Int32) : Option (mIT) :=
  if v2 < 0 then (some (I)) else (if (nI 61) ≤ v2 then (some (I)) else (if v2 < (nI 61) then (w_X1_layDay_31 Fu k1 Fu v2 (0 : Int32) (0 : Int32) (0 : Int32) I) else (some (I))))
set_option maxRecDepth 20000 in
theorem ok_X1_layDay {l : Launch} {E : mEn} {Fu : Nat} {I : mIT} {R : mRT} {L : mLT} {k1 : Nat} {v2 : Int32} (hst : l.stackTraces = false) (hW : mWd R) (hk1 : mO5 R k1) {out : mIT} (h : f_X1_layDay Fu I k1 v2 = some out) : mOk l E mX1_layDay [.ref (mB E + 56), .ref (mB E + k1), .int v2] 106 1 I R L 0 0 (mSame none 106 1 (out) R L) := by
  refine mOk_of hst (by decide) (Nat.le_of_ble_eq_true rfl) (fun X hC hE _ => ?_)
  have hC : mC X E mX1_layDay RX1 cX1_layDay := hC
  show mG X E 0 [(0, .ref (mB E + 56)), (1, .ref (mB E + k1)), (2, .int v2)] [] 106 1 I R L 0 0
  unfold f_X1_layDay at h
  refine g_iload_n hC dX1_layDay_0 rfl (q := 2) rfl ?_
  refine g_if_lt hC dX1_layDay_1 (tgt := 22) (by decide) (fun c1 => ?_) (fun c1 => ?_)
  · replace h := (if_pos c1).symm.trans h
    cases h
    exact g_vret hC hE rfl dX1_layDay_22 (Nat.zero_le _) (Nat.zero_le _) ⟨rfl, rfl, rfl, rfl, rfl, rfl⟩
  · replace h := (if_neg c1).symm.trans h
    refine g_iload_n hC dX1_layDay_4 rfl (q := 2) rfl ?_
    refine g_aload_n hC dX1_layDay_5 rfl (q := 0) rfl ?_
    refine g_getr hC fd_RX1_22 rfl (by decide) (C0 := "") (t0 := _) (Or.inr rfl) (rr_56_2 hW.1) dX1_layDay_6 ?_
    refine g_alenI hC rfl (by decide) dX1_layDay_9 ?_
    refine g_ic_ge hC dX1_layDay_10 (tgt := 22) (by decide) (fun c10 => ?_) (fun c10 => ?_)
    · replace h := (if_pos c10).symm.trans h
      cases h
      exact g_vret hC hE rfl dX1_layDay_22 (Nat.zero_le _) (Nat.zero_le _) ⟨rfl, rfl, rfl, rfl, rfl, rfl⟩
    · replace h := (if_neg c10).symm.trans h
      refine g_iload_n hC dX1_layDay_13 rfl (q := 2) rfl ?_
      refine g_aload_n hC dX1_layDay_14 rfl (q := 0) rfl ?_
      refine g_getr hC fd_RX1_25 rfl (by decide) (C0 := "") (t0 := _) (Or.inr rfl) (rr_56_3 hW.1) dX1_layDay_15 ?_
      refine g_alenI hC rfl (by decide) dX1_layDay_18 ?_
      refine g_ic_lt hC dX1_layDay_19 (tgt := 23) (by decide) (fun c19 => ?_) (fun c19 => ?_)
      · replace h := (if_pos c19).symm.trans h
        refine g_iconst hC dX1_layDay_23 (v := (0 : Int32)) (by decide) ?_
        refine g_istore_n hC dX1_layDay_24 rfl rfl (by decide) (lv' := [(3, .int (0 : Int32)), (0, .ref (mB E + 56)), (1, .ref (mB E + k1)), (2, .int v2)]) rfl ?_
        refine g_iconst hC dX1_layDay_25 (v := (0 : Int32)) (by decide) ?_
        refine g_istore hC dX1_layDay_26 rfl (by decide) (lv' := [(4, .int (0 : Int32)), (3, .int (0 : Int32)), (0, .ref (mB E + 56)), (1, .ref (mB E + k1)), (2, .int v2)]) rfl ?_
        refine g_iconst hC dX1_layDay_28 (v := (0 : Int32)) (by decide) ?_
        refine g_istore hC dX1_layDay_29 rfl (by decide) (lv' := [(5, .int (0 : Int32)), (4, .int (0 : Int32)), (3, .int (0 : Int32)), (0, .ref (mB E + 56)), (1, .ref (mB E + k1)), (2, .int v2)]) rfl ?_
        refine g_lv [3, 4, 5, 2, 1, 0] rfl ?_
        exact wo_X1_layDay_31 hC hW hk1 hE Fu (v2) ((0 : Int32)) ((0 : Int32)) ((0 : Int32)) (I) h
      · replace h := (if_neg c19).symm.trans h
        cases h
        exact g_vret hC hE rfl dX1_layDay_22 (Nat.zero_le _) (Nat.zero_le _) ⟨rfl, rfl, rfl, rfl, rfl, rfl⟩
noncomputable def b_X1_layTo_58 (Fu : Nat) (k1 : Nat) (k2 : Nat) (k21_ : Int32 × Int32 × mIT → Option (mIT)) (v3 : Int32) (v4 : Int32) (I : mIT) : Option (mIT) :=
  oB (f_X1_layDay Fu I k1 v4) (fun r62 => k21_ (v3, (v4 + (1 : Int32)), (mU r62 56 4 (v4 + (1 : Int32)))))
set_option maxRecDepth 20000 in
theorem bo_X1_layTo_58 {X : mXT} {E : mEn} {Fu : Nat} {R : mRT} {L : mLT} {k1 : Nat} {k2 : Nat} (hC : mC X E mX1_layTo RX1 cX1_layTo) (hW : mWd R) (hk1 : mO5 R k1) (hk2 : mO9 R k2)  {out : mIT} (hE : mEd X E 0 0 (mSame none 106 1 (out) R L)) (k21_ : Int32 × Int32 × mIT → Option (mIT)) (hk21_ : ∀ (v3 : Int32) (v4 : Int32) (I : mIT),  k21_ (v3, v4, I) = some out → mG X E 21 [(0, .ref (mB E + 56)), (1, .ref (mB E + k1)), (3, .int v3), (4, .int v4)] [] 106 1 I R L 0 0) (v3 : Int32) (v4 : Int32) (I : mIT) (h : b_X1_layTo_58 Fu k1 k2 k21_ v3 v4 I = some out) : mG X E 58 [(0, .ref (mB E + 56)), (1, .ref (mB E + k1)), (3, .int v3), (4, .int v4)] [] 106 1 I R L 0 0 := by
  unfold b_X1_layTo_58 at h
  refine g_aload_n hC dX1_layTo_58 rfl (q := 0) rfl ?_
  refine g_aload_n hC dX1_layTo_59 rfl (q := 1) rfl ?_
  refine g_iload hC dX1_layTo_60 (q := 3) rfl ?_
  obtain ⟨r62, h62, h⟩ := oB_some h
  refine g_cV0 hC cv_X1_layDay wd_675 ⟨Nat.le_of_ble_eq_true rfl, Nat.le_of_ble_eq_true rfl⟩ rfl (by decide) dX1_layTo_62 (As := [.ref (mB E + k1), .int v4]) (st := []) (ok_X1_layDay hC.2.2.2.2.2.2.2.1 hW hk1 h62) rfl rfl (Nat.le_of_ble_eq_true rfl) ⟨Nat.zero_le _, Nat.zero_le _⟩ ?_
  refine g_aload_n hC dX1_layTo_65 rfl (q := 0) rfl ?_
  refine g_iload hC dX1_layTo_66 (q := 3) rfl ?_
  refine g_iconst hC dX1_layTo_68 (v := (1 : Int32)) (by decide) ?_
  refine g_iadd hC dX1_layTo_69 ?_
  refine g_puti hC fd_RX1_28 rfl (by decide) rfl dX1_layTo_70 (nm_e ?_)
  refine g_iinc hC dX1_layTo_73 rfl (q := 3) rfl (w := (v4 + (1 : Int32))) rfl (by decide) (lv' := [(4, .int (v4 + (1 : Int32))), (0, .ref (mB E + 56)), (1, .ref (mB E + k1)), (3, .int v3)]) rfl ?_
  refine g_goto hC dX1_layTo_76 (tgt := 21) (by decide) ?_
  refine g_lv [1, 2, 3, 0] rfl ?_
  exact hk21_ v3 (v4 + (1 : Int32)) (mU r62 56 4 (v4 + (1 : Int32))) h
noncomputable def b_X1_layTo_21 (Fu : Nat) (k1 : Nat) (k2 : Nat) (k21_ : Int32 × Int32 × mIT → Option (mIT)) (v3 : Int32) (v4 : Int32) (I : mIT) : Option (mIT) :=
  if v3 < v4 then (some (I)) else (if (60 : Int32) < v4 then (some (I)) else (if v4 ≤ 0 then (b_X1_layTo_58 Fu k1 k2 k21_ v3 v4 I) else (oB (f_X9_day Fu I 57) (fun r49 => oB (f_X5_weatherOn Fu I k1 r49) (fun r52 => oB (f_X9_passDay Fu I 57 k1 r52) (fun r55 => b_X1_layTo_58 Fu k1 k2 k21_ v3 v4 r55))))))
set_option maxRecDepth 20000 in
theorem bo_X1_layTo_21 {X : mXT} {E : mEn} {Fu : Nat} {R : mRT} {L : mLT} {k1 : Nat} {k2 : Nat} (hC : mC X E mX1_layTo RX1 cX1_layTo) (hW : mWd R) (hk1 : mO5 R k1) (hk2 : mO9 R k2)  {out : mIT} (hE : mEd X E 0 0 (mSame none 106 1 (out) R L)) (k21_ : Int32 × Int32 × mIT → Option (mIT)) (hk21_ : ∀ (v3 : Int32) (v4 : Int32) (I : mIT),  k21_ (v3, v4, I) = some out → mG X E 21 [(0, .ref (mB E + 56)), (1, .ref (mB E + k1)), (3, .int v3), (4, .int v4)] [] 106 1 I R L 0 0) (v3 : Int32) (v4 : Int32) (I : mIT) (h : b_X1_layTo_21 Fu k1 k2 k21_ v3 v4 I = some out) : mG X E 21 [(0, .ref (mB E + 56)), (1, .ref (mB E + k1)), (3, .int v3), (4, .int v4)] [] 106 1 I R L 0 0 := by
  unfold b_X1_layTo_21 at h
  refine g_iload hC dX1_layTo_21 (q := 3) rfl ?_
  refine g_iload_n hC dX1_layTo_23 rfl (q := 2) rfl ?_
  refine g_ic_gt hC dX1_layTo_24 (tgt := 79) (by decide) (fun c24 => ?_) (fun c24 => ?_)
  · replace h := (if_pos c24).symm.trans h
    cases h
    exact g_vret hC hE rfl dX1_layTo_79 (Nat.zero_le _) (Nat.zero_le _) ⟨rfl, rfl, rfl, rfl, rfl, rfl⟩
  · replace h := (if_neg c24).symm.trans h
    refine g_iload hC dX1_layTo_27 (q := 3) rfl ?_
    refine g_bipush hC dX1_layTo_29 (v := (60 : Int32)) (by decide) ?_
    refine g_ic_gt hC dX1_layTo_31 (tgt := 79) (by decide) (fun c31 => ?_) (fun c31 => ?_)
    · replace h := (if_pos c31).symm.trans h
      cases h
      exact g_vret hC hE rfl dX1_layTo_79 (Nat.zero_le _) (Nat.zero_le _) ⟨rfl, rfl, rfl, rfl, rfl, rfl⟩
    · replace h := (if_neg c31).symm.trans h
      refine g_iload hC dX1_layTo_34 (q := 3) rfl ?_
      refine g_if_le hC dX1_layTo_36 (tgt := 58) (by decide) (fun c36 => ?_) (fun c36 => ?_)
      · replace h := (if_pos c36).symm.trans h
        exact bo_X1_layTo_58 hC hW hk1 hk2 hE k21_ hk21_ (v3) (v4) (I) h
      · replace h := (if_neg c36).symm.trans h
        refine g_aload_n hC dX1_layTo_39 rfl (q := 0) rfl ?_
        refine g_getr hC fd_RX1_12 rfl (by decide) (C0 := _) (t0 := .int) (Or.inl rfl) (rr_56_0 hW.1) dX1_layTo_40 ?_
        refine g_aload_n hC dX1_layTo_43 rfl (q := 1) rfl ?_
        refine g_aload_n hC dX1_layTo_44 rfl (q := 1) rfl ?_
        refine g_aload_n hC dX1_layTo_45 rfl (q := 0) rfl ?_
        refine g_getr hC fd_RX1_12 rfl (by decide) (C0 := _) (t0 := .int) (Or.inl rfl) (rr_56_0 hW.1) dX1_layTo_46 ?_
        obtain ⟨r49, h49, h⟩ := oB_some h
        refine g_cV1 hC cv_X9_day wd_672 ⟨Nat.le_of_ble_eq_true rfl, Nat.le_of_ble_eq_true rfl⟩ rfl (by decide) dX1_layTo_49 (As := []) (st := [.ref (mB E + k1), .ref (mB E + k1), .ref (mB E + 57)]) (ok_X9_day hC.2.2.2.2.2.2.2.1 (ob_57 hW.1) h49) rfl rfl (Nat.le_of_ble_eq_true rfl) ⟨Nat.zero_le _, Nat.zero_le _⟩ ?_
        obtain ⟨r52, h52, h⟩ := oB_some h
        refine g_cV1 hC cv_X5_weatherOn wd_673 ⟨Nat.le_of_ble_eq_true rfl, Nat.le_of_ble_eq_true rfl⟩ hk1.2.1 hk1.1 dX1_layTo_52 (As := [.int r49]) (st := [.ref (mB E + k1), .ref (mB E + 57)]) (ok_X5_weatherOn hC.2.2.2.2.2.2.2.1 hk1 h52) rfl rfl (Nat.le_of_ble_eq_true rfl) ⟨Nat.zero_le _, Nat.zero_le _⟩ ?_
        obtain ⟨r55, h55, h⟩ := oB_some h
        refine g_cV0 hC cv_X9_passDay wd_674 ⟨Nat.le_of_ble_eq_true rfl, Nat.le_of_ble_eq_true rfl⟩ rfl (by decide) dX1_layTo_55 (As := [.ref (mB E + k1), .int r52]) (st := []) (ok_X9_passDay hC.2.2.2.2.2.2.2.1 (ob_57 hW.1) hk1 h55) rfl rfl (Nat.le_of_ble_eq_true rfl) ⟨Nat.zero_le _, Nat.zero_le _⟩ ?_
        exact bo_X1_layTo_58 hC hW hk1 hk2 hE k21_ hk21_ (v3) (v4) (r55) h
noncomputable def w_X1_layTo_21 (Fu : Nat) (k1 : Nat) (k2 : Nat)  (N : Nat) (v3 : Int32) (v4 : Int32) (I : mIT) : Option (mIT) :=
  loopF (fun self (s : Int32 × Int32 × mIT) => b_X1_layTo_21 Fu k1 k2 self s.1 s.2.1 s.2.2) N (v3, v4, I)
theorem wo_X1_layTo_21 {X : mXT} {E : mEn} {Fu : Nat} {R : mRT} {L : mLT} {k1 : Nat} {k2 : Nat} (hC : mC X E mX1_layTo RX1 cX1_layTo) (hW : mWd R) (hk1 : mO5 R k1) (hk2 : mO9 R k2)  {out : mIT} (hE : mEd X E 0 0 (mSame none 106 1 (out) R L))  (N : Nat) (v3 : Int32) (v4 : Int32) (I : mIT) (h : w_X1_layTo_21 Fu k1 k2  N v3 v4 I = some out) : mG X E 21 [(0, .ref (mB E + 56)), (1, .ref (mB E + k1)), (3, .int v3), (4, .int v4)] [] 106 1 I R L 0 0 :=
  loopF_ok (Gd := fun s : Int32 × Int32 × mIT => mG X E 21 [(0, .ref (mB E + 56)), (1, .ref (mB E + k1)), (3, .int s.1), (4, .int s.2.1)] [] 106 1 s.2.2 R L 0 0) (fun self hs s h => bo_X1_layTo_21 hC hW hk1 hk2 hE self (fun v3 v4 I h => hs (v3, v4, I) h) s.1 s.2.1 s.2.2 h) N (v3, v4, I) h
noncomputable def f_X1_layTo (Fu : Nat) (I : mIT) (k1 : Nat) (k2 : Nat) (v3 : Int32) : Option (mIT) :=
  if (I 56 4) = 0 then (oB (f_X9_copyFrom Fu I 57 k2) (fun r12 => w_X1_layTo_21 Fu k1 k2 Fu v3 (r12 56 4) r12)) else (w_X1_layTo_21 Fu k1 k2 Fu v3 (I 56 4) I)
set_option maxRecDepth 20000 in
theorem ok_X1_layTo {l : Launch} {E : mEn} {Fu : Nat} {I : mIT} {R : mRT} {L : mLT} {k1 : Nat} {k2 : Nat} {v3 : Int32} (hst : l.stackTraces = false) (hW : mWd R) (hk1 : mO5 R k1) (hk2 : mO9 R k2) {out : mIT} (h : f_X1_layTo Fu I k1 k2 v3 = some out) : mOk l E mX1_layTo [.ref (mB E + 56), .ref (mB E + k1), .ref (mB E + k2), .int v3] 106 1 I R L 0 0 (mSame none 106 1 (out) R L) := by
  refine mOk_of hst (by decide) (Nat.le_of_ble_eq_true rfl) (fun X hC hE _ => ?_)
  have hC : mC X E mX1_layTo RX1 cX1_layTo := hC
  show mG X E 0 [(0, .ref (mB E + 56)), (1, .ref (mB E + k1)), (2, .ref (mB E + k2)), (3, .int v3)] [] 106 1 I R L 0 0
  unfold f_X1_layTo at h
  refine g_aload_n hC dX1_layTo_0 rfl (q := 0) rfl ?_
  refine g_geti hC fd_RX1_28 rfl (by decide) (Or.inl rfl) dX1_layTo_1 ?_
  refine g_if_ne hC dX1_layTo_4 (tgt := 15) (by decide) (fun c4 => ?_) (fun c4 => ?_)
  · replace h := (if_neg c4).symm.trans h
    refine g_aload_n hC dX1_layTo_15 rfl (q := 0) rfl ?_
    refine g_geti hC fd_RX1_28 rfl (by decide) (Or.inl rfl) dX1_layTo_16 ?_
    refine g_istore hC dX1_layTo_19 rfl (by decide) (lv' := [(4, .int (I 56 4)), (0, .ref (mB E + 56)), (1, .ref (mB E + k1)), (2, .ref (mB E + k2)), (3, .int v3)]) rfl ?_
    refine g_lv [1, 2, 4, 0] rfl ?_
    exact wo_X1_layTo_21 hC hW hk1 hk2 hE Fu (v3) ((I 56 4)) (I) h
  · replace h := (if_pos c4).symm.trans h
    refine g_aload_n hC dX1_layTo_7 rfl (q := 0) rfl ?_
    refine g_getr hC fd_RX1_12 rfl (by decide) (C0 := _) (t0 := .int) (Or.inl rfl) (rr_56_0 hW.1) dX1_layTo_8 ?_
    refine g_aload_n hC dX1_layTo_11 rfl (q := 2) rfl ?_
    obtain ⟨r12, h12, h⟩ := oB_some h
    refine g_cV0 hC cv_X9_copyFrom wd_668 ⟨Nat.le_of_ble_eq_true rfl, Nat.le_of_ble_eq_true rfl⟩ rfl (by decide) dX1_layTo_12 (As := [.ref (mB E + k2)]) (st := []) (ok_X9_copyFrom hC.2.2.2.2.2.2.2.1 (ob_57 hW.1) hk2 h12) rfl rfl (Nat.le_of_ble_eq_true rfl) ⟨Nat.zero_le _, Nat.zero_le _⟩ ?_
    refine g_aload_n hC dX1_layTo_15 rfl (q := 0) rfl ?_
    refine g_geti hC fd_RX1_28 rfl (by decide) (Or.inl rfl) dX1_layTo_16 ?_
    refine g_istore hC dX1_layTo_19 rfl (by decide) (lv' := [(4, .int (r12 56 4)), (0, .ref (mB E + 56)), (1, .ref (mB E + k1)), (2, .ref (mB E + k2)), (3, .int v3)]) rfl ?_
    refine g_lv [1, 2, 4, 0] rfl ?_
    exact wo_X1_layTo_21 hC hW hk1 hk2 hE Fu (v3) ((r12 56 4)) (r12) h
noncomputable def f_X1_soundingOn (Fu : Nat) (I : mIT) (v1 : Int32) : Option (Int32) :=
  if v1 < 0 then (some (0 : Int32)) else (if (nI 61) ≤ v1 then (some (0 : Int32)) else (oG (inB v1 61) (some (I 60 (v1).toNatClampNeg))))
set_option maxRecDepth 20000 in
theorem ok_X1_soundingOn {l : Launch} {E : mEn} {Fu : Nat} {I : mIT} {R : mRT} {L : mLT} {v1 : Int32} (hst : l.stackTraces = false) (hW : mWd R)  {out : Int32} (h : f_X1_soundingOn Fu I v1 = some out) : mOk l E mX1_soundingOn [.ref (mB E + 56), .int v1] 106 1 I R L 0 0 (mSame (some (.int (out))) 106 1 I R L) := by
  refine mOk_of hst (by decide) (Nat.le_of_ble_eq_true rfl) (fun X hC hE _ => ?_)
  have hC : mC X E mX1_soundingOn RX1 cX1_soundingOn := hC
  show mG X E 0 [(0, .ref (mB E + 56)), (1, .int v1)] [] 106 1 I R L 0 0
  unfold f_X1_soundingOn at h
  refine g_iload_n hC dX1_soundingOn_0 rfl (q := 1) rfl ?_
  refine g_if_lt hC dX1_soundingOn_1 (tgt := 22) (by decide) (fun c1 => ?_) (fun c1 => ?_)
  · replace h := (if_pos c1).symm.trans h
    refine g_iconst hC dX1_soundingOn_22 (v := (0 : Int32)) (by decide) ?_
    cases h
    exact g_iret hC hE rfl dX1_soundingOn_23 (Nat.zero_le _) (Nat.zero_le _) ⟨rfl, rfl, rfl, rfl, rfl, rfl⟩
  · replace h := (if_neg c1).symm.trans h
    refine g_iload_n hC dX1_soundingOn_4 rfl (q := 1) rfl ?_
    refine g_aload_n hC dX1_soundingOn_5 rfl (q := 0) rfl ?_
    refine g_getr hC fd_RX1_22 rfl (by decide) (C0 := "") (t0 := _) (Or.inr rfl) (rr_56_2 hW.1) dX1_soundingOn_6 ?_
    refine g_alenI hC rfl (by decide) dX1_soundingOn_9 ?_
    refine g_ic_ge hC dX1_soundingOn_10 (tgt := 22) (by decide) (fun c10 => ?_) (fun c10 => ?_)
    · replace h := (if_pos c10).symm.trans h
      refine g_iconst hC dX1_soundingOn_22 (v := (0 : Int32)) (by decide) ?_
      cases h
      exact g_iret hC hE rfl dX1_soundingOn_23 (Nat.zero_le _) (Nat.zero_le _) ⟨rfl, rfl, rfl, rfl, rfl, rfl⟩
    · replace h := (if_neg c10).symm.trans h
      refine g_aload_n hC dX1_soundingOn_13 rfl (q := 0) rfl ?_
      refine g_getr hC fd_RX1_22 rfl (by decide) (C0 := "") (t0 := _) (Or.inr rfl) (rr_56_2 hW.1) dX1_soundingOn_14 ?_
      refine g_iload_n hC dX1_soundingOn_17 rfl (q := 1) rfl ?_
      obtain ⟨g18, h⟩ := oG_some h
      refine g_iald hC rfl (by decide) (inB_in g18) dX1_soundingOn_18 ?_
      refine g_goto hC dX1_soundingOn_19 (tgt := 23) (by decide) ?_
      cases h
      exact g_iret hC hE rfl dX1_soundingOn_23 (Nat.zero_le _) (Nat.zero_le _) ⟨rfl, rfl, rfl, rfl, rfl, rfl⟩
