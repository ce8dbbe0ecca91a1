noncomputable def f_X11_next (Fu : Nat) (R : mRT) (I : mIT) (v1 : Int32) : Option ((Int32 × mIT) ⊕ (Nat × mIT)) :=
  oX (f_X11_checkTwo Fu I v1) (fun r2 => oB (R 0 3) (fun p10 => oB (f_X1_layTo Fu I p10 40 (30 : Int32)) (fun r19 => oB (R 0 3) (fun p35 => oB (f_X11_bitsAt Fu R r19 (-2 : Int32)) (fun r44 => oB (f_X3_find Fu r19 44 (r19 p35 3) r44) (fun r47 => oB (f_X3_findDay Fu r47) (fun r58 => if v1 = 0 then (oB (f_X3_tellingDay Fu r58) (fun r69 => some (.inl (r69, r58)))) else (oB (f_X3_tellingSets Fu r58) (fun r79 => some (.inl (r79, r58)))))))))))
set_option maxRecDepth 20000 in
theorem oy_X11_next {l : Launch} {E : mEn} {Fu : Nat} {I : mIT} {R : mRT} {L : mLT} {v1 : Int32} (hst : l.stackTraces = false) (hW : mWd R)  {out : (Int32 × mIT) ⊕ (Nat × mIT)} (h : f_X11_next Fu R I v1 = some out) {mc ms : Nat} {post : Option Value → Nat → Nat → mIT → mRT → mLT → Prop} {px : String → Nat → Nat → mIT → mRT → mLT → Prop} (ho : Sum.elim (fun o : Int32 × mIT => post (some (.int (o.1))) 106 1 (o.2) R L) (fun q : Nat × mIT => 1 ≤ mc ∧ 6 ≤ ms ∧ px (xNm q.1) 106 1 q.2 R L) out) : mOx l E mX11_next [.ref (mB E + 0), .int v1] 106 1 I R L mc ms post px := by
  refine mOx_of hst (by decide) (Nat.le_of_ble_eq_true rfl) (fun X hC hE0 _ => ?_)
  have hE : mEx X E mc ms post px ∧ Sum.elim (fun o : Int32 × mIT => post (some (.int (o.1))) 106 1 (o.2) R L) (fun q : Nat × mIT => 1 ≤ mc ∧ 6 ≤ ms ∧ px (xNm q.1) 106 1 q.2 R L) out := ⟨hE0, ho⟩
  have hC : mC X E mX11_next RX11 cX11_next := hC
  show mG X E 0 [(0, .ref (mB E + 0)), (1, .int v1)] [] 106 1 I R L 0 0
  unfold f_X11_next at h
  refine g_aload_n hC dX11_next_0 rfl (q := 0) rfl ?_
  refine g_iload_n hC dX11_next_1 rfl (q := 1) rfl ?_
  rcases oX_some h with ⟨r2, h2, h⟩ | ⟨q2, h2, h⟩
  case inr =>
    subst h
    have hq : 1 ≤ mc ∧ 6 ≤ ms ∧ px (xNm q2.1) 106 1 q2.2 R L := hE.2
    exact g_cVz hC hE.1 cv_X11_checkTwo wd_1445 ⟨Nat.le_of_ble_eq_true rfl, Nat.le_of_ble_eq_true rfl⟩ rfl (by decide) dX11_next_2 (As := [.int v1]) (st := []) (ox_X11_checkTwo hC.2.2.2.2.2.2.2.1 hW h2) rfl rfl (Nat.le_of_ble_eq_true rfl) ⟨by omega, by omega⟩ hq.2.2
  refine g_cVy0 hC hE.1 cv_X11_checkTwo wd_1445 ⟨Nat.le_of_ble_eq_true rfl, Nat.le_of_ble_eq_true rfl⟩ rfl (by decide) dX11_next_2 (As := [.int v1]) (st := []) (oi_X11_checkTwo hC.2.2.2.2.2.2.2.1 hW h2) rfl rfl (Nat.le_of_ble_eq_true rfl) ⟨Nat.zero_le _, Nat.zero_le _⟩ ?_
  refine g_aload_n hC dX11_next_5 rfl (q := 0) rfl ?_
  refine g_getr hC fd_RX11_68 rfl (by decide) (C0 := _) (t0 := .int) (Or.inl rfl) (rr_0_11 hW.1) dX11_next_6 ?_
  refine g_aload_n hC dX11_next_9 rfl (q := 0) rfl ?_
  obtain ⟨p10, e10, h⟩ := oB_some h
  have hp10 : mO5 R p10 := ob5 hW.1 (hW.2.1 p10 e10)
  refine g_getr hC fd_RX11_27 rfl (by decide) (C0 := _) (t0 := .int) (Or.inl rfl) e10 dX11_next_10 ?_
  refine g_aload_n hC dX11_next_13 rfl (q := 0) rfl ?_
  refine g_getr hC fd_RX11_34 rfl (by decide) (C0 := _) (t0 := .int) (Or.inl rfl) (rr_0_4 hW.1) dX11_next_14 ?_
  refine g_bipush hC dX11_next_17 (v := (30 : Int32)) (by decide) ?_
  obtain ⟨r19, h19, h⟩ := oB_some h
  refine g_cV0 hC cv_X1_layTo wd_664 ⟨Nat.le_of_ble_eq_true rfl, Nat.le_of_ble_eq_true rfl⟩ rfl (by decide) dX11_next_19 (As := [.ref (mB E + p10), .ref (mB E + 40), .int (30 : Int32)]) (st := []) (ok_X1_layTo hC.2.2.2.2.2.2.2.1 hW hp10 (ob_40 hW.1) h19) rfl rfl (Nat.le_of_ble_eq_true rfl) ⟨Nat.zero_le _, Nat.zero_le _⟩ ?_
  refine g_aload_n hC dX11_next_22 rfl (q := 0) rfl ?_
  refine g_getr hC fd_RX11_89 rfl (by decide) (C0 := _) (t0 := .int) (Or.inl rfl) (rr_0_14 hW.1) dX11_next_23 ?_
  refine g_aload_n hC dX11_next_26 rfl (q := 0) rfl ?_
  refine g_getr hC fd_RX11_68 rfl (by decide) (C0 := _) (t0 := .int) (Or.inl rfl) (rr_0_11 hW.1) dX11_next_27 ?_
  refine g_aload_n hC dX11_next_30 rfl (q := 0) rfl ?_
  refine g_getr hC fd_RX11_48 rfl (by decide) (C0 := _) (t0 := .int) (Or.inl rfl) (rr_0_6 hW.1) dX11_next_31 ?_
  refine g_aload_n hC dX11_next_34 rfl (q := 0) rfl ?_
  obtain ⟨p35, e35, h⟩ := oB_some h
  have hp35 : mO5 R p35 := ob5 hW.1 (hW.2.1 p35 e35)
  refine g_getr hC fd_RX11_27 rfl (by decide) (C0 := _) (t0 := .int) (Or.inl rfl) e35 dX11_next_35 ?_
  refine g_geti hC fd_RX11_140 hp35.2.1 hp35.1 (Or.inl rfl) dX11_next_38 ?_
  refine g_aload_n hC dX11_next_41 rfl (q := 0) rfl ?_
  refine g_bipush hC dX11_next_42 (v := (-2 : Int32)) (by decide) ?_
  obtain ⟨r44, h44, h⟩ := oB_some h
  refine g_cV1 hC cv_X11_bitsAt wd_1150 ⟨Nat.le_of_ble_eq_true rfl, Nat.le_of_ble_eq_true rfl⟩ rfl (by decide) dX11_next_44 (As := [.int (-2 : Int32)]) (st := [.int (r19 p35 3), .ref (mB E + 44), .ref (mB E + 56), .ref (mB E + 69)]) (ok_X11_bitsAt hC.2.2.2.2.2.2.2.1 hW h44) rfl rfl (Nat.le_of_ble_eq_true rfl) ⟨Nat.zero_le _, Nat.zero_le _⟩ ?_
  obtain ⟨r47, h47, h⟩ := oB_some h
  refine g_cV0 hC cv_X3_find wd_1425 ⟨Nat.le_of_ble_eq_true rfl, Nat.le_of_ble_eq_true rfl⟩ rfl (by decide) dX11_next_47 (As := [.ref (mB E + 56), .ref (mB E + 44), .int (r19 p35 3), .int r44]) (st := []) (ok_X3_find hC.2.2.2.2.2.2.2.1 hW (ob_44 hW.1) h47) rfl rfl (Nat.le_of_ble_eq_true rfl) ⟨Nat.zero_le _, Nat.zero_le _⟩ ?_
  refine g_aload_n hC dX11_next_50 rfl (q := 0) rfl ?_
  refine g_getr hC fd_RX11_89 rfl (by decide) (C0 := _) (t0 := .int) (Or.inl rfl) (rr_0_14 hW.1) dX11_next_51 ?_
  refine g_aload_n hC dX11_next_54 rfl (q := 0) rfl ?_
  refine g_getr hC fd_RX11_68 rfl (by decide) (C0 := _) (t0 := .int) (Or.inl rfl) (rr_0_11 hW.1) dX11_next_55 ?_
  obtain ⟨r58, h58, h⟩ := oB_some h
  refine g_cV0 hC cv_X3_findDay wd_1450 ⟨Nat.le_of_ble_eq_true rfl, Nat.le_of_ble_eq_true rfl⟩ rfl (by decide) dX11_next_58 (As := [.ref (mB E + 56)]) (st := []) (ok_X3_findDay hC.2.2.2.2.2.2.2.1 hW h58) rfl rfl (Nat.le_of_ble_eq_true rfl) ⟨Nat.zero_le _, Nat.zero_le _⟩ ?_
  refine g_iload_n hC dX11_next_61 rfl (q := 1) rfl ?_
  refine g_if_ne hC dX11_next_62 (tgt := 75) (by decide) (fun c62 => ?_) (fun c62 => ?_)
  · replace h := (if_neg c62).symm.trans h
    refine g_aload_n hC dX11_next_75 rfl (q := 0) rfl ?_
    refine g_getr hC fd_RX11_89 rfl (by decide) (C0 := _) (t0 := .int) (Or.inl rfl) (rr_0_14 hW.1) dX11_next_76 ?_
    obtain ⟨r79, h79, h⟩ := oB_some h
    refine g_cV1 hC cv_X3_tellingSets wd_1467 ⟨Nat.le_of_ble_eq_true rfl, Nat.le_of_ble_eq_true rfl⟩ rfl (by decide) dX11_next_79 (As := []) (st := []) (ok_X3_tellingSets hC.2.2.2.2.2.2.2.1 hW h79) rfl rfl (Nat.le_of_ble_eq_true rfl) ⟨Nat.zero_le _, Nat.zero_le _⟩ ?_
    cases h
    exact g_xiret hC hE.1 rfl dX11_next_82 (Nat.zero_le _) (Nat.zero_le _) hE.2
  · replace h := (if_pos c62).symm.trans h
    refine g_aload_n hC dX11_next_65 rfl (q := 0) rfl ?_
    refine g_getr hC fd_RX11_89 rfl (by decide) (C0 := _) (t0 := .int) (Or.inl rfl) (rr_0_14 hW.1) dX11_next_66 ?_
    obtain ⟨r69, h69, h⟩ := oB_some h
    refine g_cV1 hC cv_X3_tellingDay wd_1463 ⟨Nat.le_of_ble_eq_true rfl, Nat.le_of_ble_eq_true rfl⟩ rfl (by decide) dX11_next_69 (As := []) (st := []) (ok_X3_tellingDay hC.2.2.2.2.2.2.2.1 hW h69) rfl rfl (Nat.le_of_ble_eq_true rfl) ⟨Nat.zero_le _, Nat.zero_le _⟩ ?_
    refine g_goto hC dX11_next_72 (tgt := 82) (by decide) ?_
    cases h
    exact g_xiret hC hE.1 rfl dX11_next_82 (Nat.zero_le _) (Nat.zero_le _) hE.2
theorem oi_X11_next {l : Launch} {E : mEn} {Fu : Nat} {I : mIT} {R : mRT} {L : mLT} {v1 : Int32} (hst : l.stackTraces = false) (hW : mWd R)  {out : Int32 × mIT} (h : f_X11_next Fu R I v1 = some (.inl out)) : mOx l E mX11_next [.ref (mB E + 0), .int v1] 106 1 I R L 0 0 (mSame (some (.int (out.1))) 106 1 (out.2) R L) (fun _ _ _ _ _ _ => False) := oy_X11_next hst hW h ⟨rfl, rfl, rfl, rfl, rfl, rfl⟩
theorem ox_X11_next {l : Launch} {E : mEn} {Fu : Nat} {I : mIT} {R : mRT} {L : mLT} {v1 : Int32} (hst : l.stackTraces = false) (hW : mWd R)  {q : Nat × mIT} (h : f_X11_next Fu R I v1 = some (.inr q)) : mOx l E mX11_next [.ref (mB E + 0), .int v1] 106 1 I R L 1 6 (fun _ _ _ _ _ _ => False) (mXp q.1 106 1 q.2 R L) := oy_X11_next hst hW h ⟨Nat.le_refl _, Nat.le_refl _, rfl, rfl, rfl, rfl, rfl, rfl⟩
noncomputable def b_X11_often_26 (Fu : Nat) (R : mRT) (k26_ : Int32 × Int32 × Int32 × mIT → Option ((Int32 × mIT) ⊕ (Nat × mIT))) (v1 : Int32) (v2 : Int32) (v3 : Int32) (I : mIT) : Option ((Int32 × mIT) ⊕ (Nat × mIT)) :=
  if (60 : Int32) < v3 then (some (.inl (v2, I))) else (oB (f_X1_soundingOn Fu I v3) (fun r43 => oB (f_X1_noteBits Fu I v3 r43) (fun r46 => k26_ (v1, (v2 + ((r46 >>> (v1 &&& 31)) &&& (1 : Int32))), (v3 + (1 : Int32)), I))))
set_option maxRecDepth 20000 in
theorem bo_X11_often_26 {X : mXT} {E : mEn} {Fu : Nat} {R : mRT} {L : mLT}  (hC : mC X E mX11_often RX11 cX11_often) (hW : mWd R)   {out : (Int32 × mIT) ⊕ (Nat × mIT)} {mc ms : Nat} {post : Option Value → Nat → Nat → mIT → mRT → mLT → Prop} {px : String → Nat → Nat → mIT → mRT → mLT → Prop} (hE : mEx X E mc ms post px ∧ Sum.elim (fun o : Int32 × mIT => post (some (.int (o.1))) 106 1 (o.2) R L) (fun q : Nat × mIT => 1 ≤ mc ∧ 6 ≤ ms ∧ px (xNm q.1) 106 1 q.2 R L) out) (k26_ : Int32 × Int32 × Int32 × mIT → Option ((Int32 × mIT) ⊕ (Nat × mIT))) (hk26_ : ∀ (v1 : Int32) (v2 : Int32) (v3 : Int32) (I : mIT),  k26_ (v1, v2, v3, I) = some out → mG X E 26 [(0, .ref (mB E + 0)), (1, .int v1), (2, .int v2), (3, .int v3)] [] 106 1 I R L 0 0) (v1 : Int32) (v2 : Int32) (v3 : Int32) (I : mIT) (h : b_X11_often_26 Fu R k26_ v1 v2 v3 I = some out) : mG X E 26 [(0, .ref (mB E + 0)), (1, .int v1), (2, .int v2), (3, .int v3)] [] 106 1 I R L 0 0 := by
  unfold b_X11_often_26 at h
  refine g_iload_n hC dX11_often_26 rfl (q := 3) rfl ?_
  refine g_bipush hC dX11_often_27 (v := (60 : Int32)) (by decide) ?_
  refine g_ic_gt hC dX11_often_29 (tgt := 61) (by decide) (fun c29 => ?_) (fun c29 => ?_)
  · replace h := (if_pos c29).symm.trans h
    refine g_iload_n hC dX11_often_61 rfl (q := 2) rfl ?_
    cases h
    exact g_xiret hC hE.1 rfl dX11_often_62 (Nat.zero_le _) (Nat.zero_le _) hE.2
  · replace h := (if_neg c29).symm.trans h
    refine g_iload_n hC dX11_often_32 rfl (q := 2) rfl ?_
    refine g_aload_n hC dX11_often_33 rfl (q := 0) rfl ?_
    refine g_getr hC fd_RX11_68 rfl (by decide) (C0 := _) (t0 := .int) (Or.inl rfl) (rr_0_11 hW.1) dX11_often_34 ?_
    refine g_iload_n hC dX11_often_37 rfl (q := 3) rfl ?_
    refine g_aload_n hC dX11_often_38 rfl (q := 0) rfl ?_
    refine g_getr hC fd_RX11_68 rfl (by decide) (C0 := _) (t0 := .int) (Or.inl rfl) (rr_0_11 hW.1) dX11_often_39 ?_
    refine g_iload_n hC dX11_often_42 rfl (q := 3) rfl ?_
    obtain ⟨r43, h43, h⟩ := oB_some h
    refine g_cV1 hC cv_X1_soundingOn wd_695 ⟨Nat.le_of_ble_eq_true rfl, Nat.le_of_ble_eq_true rfl⟩ rfl (by decide) dX11_often_43 (As := [.int v3]) (st := [.int v3, .ref (mB E + 56), .int v2]) (ok_X1_soundingOn hC.2.2.2.2.2.2.2.1 hW h43) rfl rfl (Nat.le_of_ble_eq_true rfl) ⟨Nat.zero_le _, Nat.zero_le _⟩ ?_
    obtain ⟨r46, h46, h⟩ := oB_some h
    refine g_cV1 hC cv_X1_noteBits wd_699 ⟨Nat.le_of_ble_eq_true rfl, Nat.le_of_ble_eq_true rfl⟩ rfl (by decide) dX11_often_46 (As := [.int v3, .int r43]) (st := [.int v2]) (ok_X1_noteBits hC.2.2.2.2.2.2.2.1 hW h46) rfl rfl (Nat.le_of_ble_eq_true rfl) ⟨Nat.zero_le _, Nat.zero_le _⟩ ?_
    refine g_iload_n hC dX11_often_49 rfl (q := 1) rfl ?_
    refine g_ishr hC dX11_often_50 ?_
    refine g_iconst hC dX11_often_51 (v := (1 : Int32)) (by decide) ?_
    refine g_iand hC dX11_often_52 ?_
    refine g_iadd hC dX11_often_53 ?_
    refine g_istore_n hC dX11_often_54 rfl rfl (by decide) (lv' := [(2, .int (v2 + ((r46 >>> (v1 &&& 31)) &&& (1 : Int32)))), (0, .ref (mB E + 0)), (1, .int v1), (3, .int v3)]) rfl ?_
    refine g_iinc hC dX11_often_55 rfl (q := 3) rfl (w := (v3 + (1 : Int32))) rfl (by decide) (lv' := [(3, .int (v3 + (1 : Int32))), (2, .int (v2 + ((r46 >>> (v1 &&& 31)) &&& (1 : Int32)))), (0, .ref (mB E + 0)), (1, .int v1)]) rfl ?_
    refine g_goto hC dX11_often_58 (tgt := 26) (by decide) ?_
    refine g_lv [2, 3, 1, 0] rfl ?_
    exact hk26_ v1 (v2 + ((r46 >>> (v1 &&& 31)) &&& (1 : Int32))) (v3 + (1 : Int32)) I h
noncomputable def w_X11_often_26 (Fu : Nat) (R : mRT)  (N : Nat) (v1 : Int32) (v2 : Int32) (v3 : Int32) (I : mIT) : Option ((Int32 × mIT) ⊕ (Nat × mIT)) :=
  loopF (fun self (s : Int32 × Int32 × Int32 × mIT) => b_X11_often_26 Fu R self s.1 s.2.1 s.2.2.1 s.2.2.2) N (v1, v2, v3, I)
theorem wo_X11_often_26 {X : mXT} {E : mEn} {Fu : Nat} {R : mRT} {L : mLT}  (hC : mC X E mX11_often RX11 cX11_often) (hW : mWd R)   {out : (Int32 × mIT) ⊕ (Nat × mIT)} {mc ms : Nat} {post : Option Value → Nat → Nat → mIT → mRT → mLT → Prop} {px : String → Nat → Nat → mIT → mRT → mLT → Prop} (hE : mEx X E mc ms post px ∧ Sum.elim (fun o : Int32 × mIT => post (some (.int (o.1))) 106 1 (o.2) R L) (fun q : Nat × mIT => 1 ≤ mc ∧ 6 ≤ ms ∧ px (xNm q.1) 106 1 q.2 R L) out)  (N : Nat) (v1 : Int32) (v2 : Int32) (v3 : Int32) (I : mIT) (h : w_X11_often_26 Fu R  N v1 v2 v3 I = some out) : mG X E 26 [(0, .ref (mB E + 0)), (1, .int v1), (2, .int v2), (3, .int v3)] [] 106 1 I R L 0 0 :=
  loopF_ok (Gd := fun s : Int32 × Int32 × Int32 × mIT => mG X E 26 [(0, .ref (mB E + 0)), (1, .int s.1), (2, .int s.2.1), (3, .int s.2.2.1)] [] 106 1 s.2.2.2 R L 0 0) (fun self hs s h => bo_X11_often_26 hC hW hE self (fun v1 v2 v3 I h => hs (v1, v2, v3, I) h) s.1 s.2.1 s.2.2.1 s.2.2.2 h) N (v1, v2, v3, I) h
noncomputable def f_X11_often (Fu : Nat) (R : mRT) (I : mIT) (v1 : Int32) : Option ((Int32 × mIT) ⊕ (Nat × mIT)) :=
  oX (f_X11_checkNote Fu I v1) (fun r2 => oB (R 0 3) (fun p10 => oB (f_X1_layTo Fu I p10 40 (60 : Int32)) (fun r19 => w_X11_often_26 Fu R Fu v1 (0 : Int32) (1 : Int32) r19)))
set_option maxRecDepth 20000 in
theorem oy_X11_often {l : Launch} {E : mEn} {Fu : Nat} {I : mIT} {R : mRT} {L : mLT} {v1 : Int32} (hst : l.stackTraces = false) (hW : mWd R)  {out : (Int32 × mIT) ⊕ (Nat × mIT)} (h : f_X11_often Fu R I v1 = some out) {mc ms : Nat} {post : Option Value → Nat → Nat → mIT → mRT → mLT → Prop} {px : String → Nat → Nat → mIT → mRT → mLT → Prop} (ho : Sum.elim (fun o : Int32 × mIT => post (some (.int (o.1))) 106 1 (o.2) R L) (fun q : Nat × mIT => 1 ≤ mc ∧ 6 ≤ ms ∧ px (xNm q.1) 106 1 q.2 R L) out) : mOx l E mX11_often [.ref (mB E + 0), .int v1] 106 1 I R L mc ms post px := by
  refine mOx_of hst (by decide) (Nat.le_of_ble_eq_true rfl) (fun X hC hE0 _ => ?_)
  have hE : mEx X E mc ms post px ∧ Sum.elim (fun o : Int32 × mIT => post (some (.int (o.1))) 106 1 (o.2) R L) (fun q : Nat × mIT => 1 ≤ mc ∧ 6 ≤ ms ∧ px (xNm q.1) 106 1 q.2 R L) out := ⟨hE0, ho⟩
  have hC : mC X E mX11_often RX11 cX11_often := hC
  show mG X E 0 [(0, .ref (mB E + 0)), (1, .int v1)] [] 106 1 I R L 0 0
  unfold f_X11_often at h
  refine g_aload_n hC dX11_often_0 rfl (q := 0) rfl ?_
  refine g_iload_n hC dX11_often_1 rfl (q := 1) rfl ?_
  rcases oX_some h with ⟨r2, h2, h⟩ | ⟨q2, h2, h⟩
  case inr =>
    subst h
    have hq : 1 ≤ mc ∧ 6 ≤ ms ∧ px (xNm q2.1) 106 1 q2.2 R L := hE.2
    exact g_cVz hC hE.1 cv_X11_checkNote wd_1547 ⟨Nat.le_of_ble_eq_true rfl, Nat.le_of_ble_eq_true rfl⟩ rfl (by decide) dX11_often_2 (As := [.int v1]) (st := []) (ox_X11_checkNote hC.2.2.2.2.2.2.2.1 hW h2) rfl rfl (Nat.le_of_ble_eq_true rfl) ⟨by omega, by omega⟩ hq.2.2
  refine g_cVy0 hC hE.1 cv_X11_checkNote wd_1547 ⟨Nat.le_of_ble_eq_true rfl, Nat.le_of_ble_eq_true rfl⟩ rfl (by decide) dX11_often_2 (As := [.int v1]) (st := []) (oi_X11_checkNote hC.2.2.2.2.2.2.2.1 hW h2) rfl rfl (Nat.le_of_ble_eq_true rfl) ⟨Nat.zero_le _, Nat.zero_le _⟩ ?_
  refine g_aload_n hC dX11_often_5 rfl (q := 0) rfl ?_
  refine g_getr hC fd_RX11_68 rfl (by decide) (C0 := _) (t0 := .int) (Or.inl rfl) (rr_0_11 hW.1) dX11_often_6 ?_
  refine g_aload_n hC dX11_often_9 rfl (q := 0) rfl ?_
  obtain ⟨p10, e10, h⟩ := oB_some h
  have hp10 : mO5 R p10 := ob5 hW.1 (hW.2.1 p10 e10)
  refine g_getr hC fd_RX11_27 rfl (by decide) (C0 := _) (t0 := .int) (Or.inl rfl) e10 dX11_often_10 ?_
  refine g_aload_n hC dX11_often_13 rfl (q := 0) rfl ?_
  refine g_getr hC fd_RX11_34 rfl (by decide) (C0 := _) (t0 := .int) (Or.inl rfl) (rr_0_4 hW.1) dX11_often_14 ?_
  refine g_bipush hC dX11_often_17 (v := (60 : Int32)) (by decide) ?_
  obtain ⟨r19, h19, h⟩ := oB_some h
  refine g_cV0 hC cv_X1_layTo wd_664 ⟨Nat.le_of_ble_eq_true rfl, Nat.le_of_ble_eq_true rfl⟩ rfl (by decide) dX11_often_19 (As := [.ref (mB E + p10), .ref (mB E + 40), .int (60 : Int32)]) (st := []) (ok_X1_layTo hC.2.2.2.2.2.2.2.1 hW hp10 (ob_40 hW.1) h19) rfl rfl (Nat.le_of_ble_eq_true rfl) ⟨Nat.zero_le _, Nat.zero_le _⟩ ?_
  refine g_iconst hC dX11_often_22 (v := (0 : Int32)) (by decide) ?_
  refine g_istore_n hC dX11_often_23 rfl rfl (by decide) (lv' := [(2, .int (0 : Int32)), (0, .ref (mB E + 0)), (1, .int v1)]) rfl ?_
  refine g_iconst hC dX11_often_24 (v := (1 : Int32)) (by decide) ?_
  refine g_istore_n hC dX11_often_25 rfl rfl (by decide) (lv' := [(3, .int (1 : Int32)), (2, .int (0 : Int32)), (0, .ref (mB E + 0)), (1, .int v1)]) rfl ?_
  refine g_lv [2, 3, 1, 0] rfl ?_
  exact wo_X11_often_26 hC hW hE Fu (v1) ((0 : Int32)) ((1 : Int32)) (r19) h
theorem oi_X11_often {l : Launch} {E : mEn} {Fu : Nat} {I : mIT} {R : mRT} {L : mLT} {v1 : Int32} (hst : l.stackTraces = false) (hW : mWd R)  {out : Int32 × mIT} (h : f_X11_often Fu R I v1 = some (.inl out)) : mOx l E mX11_often [.ref (mB E + 0), .int v1] 106 1 I R L 0 0 (mSame (some (.int (out.1))) 106 1 (out.2) R L) (fun _ _ _ _ _ _ => False) := oy_X11_often hst hW h ⟨rfl, rfl, rfl, rfl, rfl, rfl⟩
theorem ox_X11_often {l : Launch} {E : mEn} {Fu : Nat} {I : mIT} {R : mRT} {L : mLT} {v1 : Int32} (hst : l.stackTraces = false) (hW : mWd R)  {q : Nat × mIT} (h : f_X11_often Fu R I v1 = some (.inr q)) : mOx l E mX11_often [.ref (mB E + 0), .int v1] 106 1 I R L 1 6 (fun _ _ _ _ _ _ => False) (mXp q.1 106 1 q.2 R L) := oy_X11_often hst hW h ⟨Nat.le_refl _, Nat.le_refl _, rfl, rfl, rfl, rfl, rfl, rfl⟩
noncomputable def b_X11_order_24 (Fu : Nat) (R : mRT) (k24_ : Int32 × Int32 × Int32 × mIT → Option ((Int32 × mIT) ⊕ (Nat × mIT))) (v1 : Int32) (v2 : Int32) (v3 : Int32) (I : mIT) : Option ((Int32 × mIT) ⊕ (Nat × mIT)) :=
  oB (R 0 3) (fun p26 => if (I p26 3) ≤ v3 then (some (.inr (1, I))) else (if ((v2 >>> (v3 &&& 31)) &&& (1 : Int32)) = (1 : Int32) then (oB (f_X11_goingBefore Fu R I v3 v2) (fun r47 => if r47 = v1 then (some (.inl (v3, I))) else (k24_ (v1, v2, (v3 + (1 : Int32)), I)))) else (k24_ (v1, v2, (v3 + (1 : Int32)), I))))
set_option maxRecDepth 20000 in
theorem bo_X11_order_24 {X : mXT} {E : mEn} {Fu : Nat} {R : mRT} {L : mLT}  (hC : mC X E mX11_order RX11 cX11_order) (hW : mWd R)   {out : (Int32 × mIT) ⊕ (Nat × mIT)} {mc ms : Nat} {post : Option Value → Nat → Nat → mIT → mRT → mLT → Prop} {px : String → Nat → Nat → mIT → mRT → mLT → Prop} (hE : mEx X E mc ms post px ∧ Sum.elim (fun o : Int32 × mIT => post (some (.int (o.1))) 106 1 (o.2) R L) (fun q : Nat × mIT => 1 ≤ mc ∧ 6 ≤ ms ∧ px (xNm q.1) 106 1 q.2 R L) out) (k24_ : Int32 × Int32 × Int32 × mIT → Option ((Int32 × mIT) ⊕ (Nat × mIT))) (hk24_ : ∀ (v1 : Int32) (v2 : Int32) (v3 : Int32) (I : mIT),  k24_ (v1, v2, v3, I) = some out → mG X E 24 [(0, .ref (mB E + 0)), (1, .int v1), (2, .int v2), (3, .int v3)] [] 106 1 I R L 0 0) (v1 : Int32) (v2 : Int32) (v3 : Int32) (I : mIT) (h : b_X11_order_24 Fu R k24_ v1 v2 v3 I = some out) : mG X E 24 [(0, .ref (mB E + 0)), (1, .int v1), (2, .int v2), (3, .int v3)] [] 106 1 I R L 0 0 := by
  unfold b_X11_order_24 at h
  refine g_iload_n hC dX11_order_24 rfl (q := 3) rfl ?_
  refine g_aload_n hC dX11_order_25 rfl (q := 0) rfl ?_
  obtain ⟨p26, e26, h⟩ := oB_some h
  have hp26 : mO5 R p26 := ob5 hW.1 (hW.2.1 p26 e26)
  refine g_getr hC fd_RX11_27 rfl (by decide) (C0 := _) (t0 := .int) (Or.inl rfl) e26 dX11_order_26 ?_
  refine g_geti hC fd_RX11_140 hp26.2.1 hp26.1 (Or.inl rfl) dX11_order_29 ?_
  refine g_ic_ge hC dX11_order_32 (tgt := 62) (by decide) (fun c32 => ?_) (fun c32 => ?_)
  · replace h := (if_pos c32).symm.trans h
    cases h
    have hq : 1 ≤ mc ∧ 6 ≤ ms ∧ px (xNm 1) 106 1 I R L := hE.2
    exact g_thrw hC hE.1 tw_RX11_180 (j := 27) rfl dX11_order_62 dX11_order_65 dX11_order_66 dX11_order_69 dX11_order_72 (Nat.le_of_ble_eq_true rfl) (Nat.le_of_ble_eq_true rfl) (by decide) hq.1 hq.2.1 hq.2.2
  · replace h := (if_neg c32).symm.trans h
    refine g_iload_n hC dX11_order_35 rfl (q := 2) rfl ?_
    refine g_iload_n hC dX11_order_36 rfl (q := 3) rfl ?_
    refine g_ishr hC dX11_order_37 ?_
    refine g_iconst hC dX11_order_38 (v := (1 : Int32)) (by decide) ?_
    refine g_iand hC dX11_order_39 ?_
    refine g_iconst hC dX11_order_40 (v := (1 : Int32)) (by decide) ?_
    refine g_ic_ne hC dX11_order_41 (tgt := 56) (by decide) (fun c41 => ?_) (fun c41 => ?_)
    · replace h := (if_neg c41).symm.trans h
      refine g_iinc hC dX11_order_56 rfl (q := 3) rfl (w := (v3 + (1 : Int32))) rfl (by decide) (lv' := [(3, .int (v3 + (1 : Int32))), (0, .ref (mB E + 0)), (1, .int v1), (2, .int v2)]) rfl ?_
      refine g_goto hC dX11_order_59 (tgt := 24) (by decide) ?_
      refine g_lv [1, 2, 3, 0] rfl ?_
      exact hk24_ v1 v2 (v3 + (1 : Int32)) I h
    · replace h := (if_pos c41).symm.trans h
      refine g_aload_n hC dX11_order_44 rfl (q := 0) rfl ?_
      refine g_iload_n hC dX11_order_45 rfl (q := 3) rfl ?_
      refine g_iload_n hC dX11_order_46 rfl (q := 2) rfl ?_
      obtain ⟨r47, h47, h⟩ := oB_some h
      refine g_cV1 hC cv_X11_goingBefore wd_1315 ⟨Nat.le_of_ble_eq_true rfl, Nat.le_of_ble_eq_true rfl⟩ rfl (by decide) dX11_order_47 (As := [.int v3, .int v2]) (st := []) (ok_X11_goingBefore hC.2.2.2.2.2.2.2.1 hW h47) rfl rfl (Nat.le_of_ble_eq_true rfl) ⟨Nat.zero_le _, Nat.zero_le _⟩ ?_
      refine g_iload_n hC dX11_order_50 rfl (q := 1) rfl ?_
      refine g_ic_ne hC dX11_order_51 (tgt := 56) (by decide) (fun c51 => ?_) (fun c51 => ?_)
      · replace h := (if_neg c51).symm.trans h
        refine g_iinc hC dX11_order_56 rfl (q := 3) rfl (w := (v3 + (1 : Int32))) rfl (by decide) (lv' := [(3, .int (v3 + (1 : Int32))), (0, .ref (mB E + 0)), (1, .int v1), (2, .int v2)]) rfl ?_
        refine g_goto hC dX11_order_59 (tgt := 24) (by decide) ?_
        refine g_lv [1, 2, 3, 0] rfl ?_
        exact hk24_ v1 v2 (v3 + (1 : Int32)) I h
      · replace h := (if_pos c51).symm.trans h
        refine g_iload_n hC dX11_order_54 rfl (q := 3) rfl ?_
        cases h
        exact g_xiret hC hE.1 rfl dX11_order_55 (Nat.zero_le _) (Nat.zero_le _) hE.2
noncomputable def w_X11_order_24 (Fu : Nat) (R : mRT)  (N : Nat) (v1 : Int32) (v2 : Int32) (v3 : Int32) (I : mIT) : Option ((Int32 × mIT) ⊕ (Nat × mIT)) :=
  loopF (fun self (s : Int32 × Int32 × Int32 × mIT) => b_X11_order_24 Fu R self s.1 s.2.1 s.2.2.1 s.2.2.2) N (v1, v2, v3, I)
theorem wo_X11_order_24 {X : mXT} {E : mEn} {Fu : Nat} {R : mRT} {L : mLT}  (hC : mC X E mX11_order RX11 cX11_order) (hW : mWd R)   {out : (Int32 × mIT) ⊕ (Nat × mIT)} {mc ms : Nat} {post : Option Value → Nat → Nat → mIT → mRT → mLT → Prop} {px : String → Nat → Nat → mIT → mRT → mLT → Prop} (hE : mEx X E mc ms post px ∧ Sum.elim (fun o : Int32 × mIT => post (some (.int (o.1))) 106 1 (o.2) R L) (fun q : Nat × mIT => 1 ≤ mc ∧ 6 ≤ ms ∧ px (xNm q.1) 106 1 q.2 R L) out)  (N : Nat) (v1 : Int32) (v2 : Int32) (v3 : Int32) (I : mIT) (h : w_X11_order_24 Fu R  N v1 v2 v3 I = some out) : mG X E 24 [(0, .ref (mB E + 0)), (1, .int v1), (2, .int v2), (3, .int v3)] [] 106 1 I R L 0 0 :=
  loopF_ok (Gd := fun s : Int32 × Int32 × Int32 × mIT => mG X E 24 [(0, .ref (mB E + 0)), (1, .int s.1), (2, .int s.2.1), (3, .int s.2.2.1)] [] 106 1 s.2.2.2 R L 0 0) (fun self hs s h => bo_X11_order_24 hC hW hE self (fun v1 v2 v3 I h => hs (v1, v2, v3, I) h) s.1 s.2.1 s.2.2.1 s.2.2.2 h) N (v1, v2, v3, I) h
noncomputable def f_X11_order (Fu : Nat) (R : mRT) (I : mIT) (v1 : Int32) : Option ((Int32 × mIT) ⊕ (Nat × mIT)) :=
  oB (R 0 3) (fun p5 => oB (f_X1_layTo Fu I p5 40 (60 : Int32)) (fun r14 => oB (f_X11_hangingBits Fu R r14) (fun r18 => w_X11_order_24 Fu R Fu v1 r18 (0 : Int32) r14)))
set_option maxRecDepth 20000 in
theorem oy_X11_order {l : Launch} {E : mEn} {Fu : Nat} {I : mIT} {R : mRT} {L : mLT} {v1 : Int32} (hst : l.stackTraces = false) (hW : mWd R)  {out : (Int32 × mIT) ⊕ (Nat × mIT)} (h : f_X11_order Fu R I v1 = some out) {mc ms : Nat} {post : Option Value → Nat → Nat → mIT → mRT → mLT → Prop} {px : String → Nat → Nat → mIT → mRT → mLT → Prop} (ho : Sum.elim (fun o : Int32 × mIT => post (some (.int (o.1))) 106 1 (o.2) R L) (fun q : Nat × mIT => 1 ≤ mc ∧ 6 ≤ ms ∧ px (xNm q.1) 106 1 q.2 R L) out) : mOx l E mX11_order [.ref (mB E + 0), .int v1] 106 1 I R L mc ms post px := by
  refine mOx_of hst (by decide) (Nat.le_of_ble_eq_true rfl) (fun X hC hE0 _ => ?_)
  have hE : mEx X E mc ms post px ∧ Sum.elim (fun o : Int32 × mIT => post (some (.int (o.1))) 106 1 (o.2) R L) (fun q : Nat × mIT => 1 ≤ mc ∧ 6 ≤ ms ∧ px (xNm q.1) 106 1 q.2 R L) out := ⟨hE0, ho⟩
  have hC : mC X E mX11_order RX11 cX11_order := hC
  show mG X E 0 [(0, .ref (mB E + 0)), (1, .int v1)] [] 106 1 I R L 0 0
  unfold f_X11_order at h
  refine g_aload_n hC dX11_order_0 rfl (q := 0) rfl ?_
  refine g_getr hC fd_RX11_68 rfl (by decide) (C0 := _) (t0 := .int) (Or.inl rfl) (rr_0_11 hW.1) dX11_order_1 ?_
  refine g_aload_n hC dX11_order_4 rfl (q := 0) rfl ?_
  obtain ⟨p5, e5, h⟩ := oB_some h
  have hp5 : mO5 R p5 := ob5 hW.1 (hW.2.1 p5 e5)
  refine g_getr hC fd_RX11_27 rfl (by decide) (C0 := _) (t0 := .int) (Or.inl rfl) e5 dX11_order_5 ?_
  refine g_aload_n hC dX11_order_8 rfl (q := 0) rfl ?_
  refine g_getr hC fd_RX11_34 rfl (by decide) (C0 := _) (t0 := .int) (Or.inl rfl) (rr_0_4 hW.1) dX11_order_9 ?_
  refine g_bipush hC dX11_order_12 (v := (60 : Int32)) (by decide) ?_
  obtain ⟨r14, h14, h⟩ := oB_some h
  refine g_cV0 hC cv_X1_layTo wd_664 ⟨Nat.le_of_ble_eq_true rfl, Nat.le_of_ble_eq_true rfl⟩ rfl (by decide) dX11_order_14 (As := [.ref (mB E + p5), .ref (mB E + 40), .int (60 : Int32)]) (st := []) (ok_X1_layTo hC.2.2.2.2.2.2.2.1 hW hp5 (ob_40 hW.1) h14) rfl rfl (Nat.le_of_ble_eq_true rfl) ⟨Nat.zero_le _, Nat.zero_le _⟩ ?_
  refine g_aload_n hC dX11_order_17 rfl (q := 0) rfl ?_
  obtain ⟨r18, h18, h⟩ := oB_some h
  refine g_cV1 hC cv_X11_hangingBits wd_1146 ⟨Nat.le_of_ble_eq_true rfl, Nat.le_of_ble_eq_true rfl⟩ rfl (by decide) dX11_order_18 (As := []) (st := []) (ok_X11_hangingBits hC.2.2.2.2.2.2.2.1 hW h18) rfl rfl (Nat.le_of_ble_eq_true rfl) ⟨Nat.zero_le _, Nat.zero_le _⟩ ?_
  refine g_istore_n hC dX11_order_21 rfl rfl (by decide) (lv' := [(2, .int r18), (0, .ref (mB E + 0)), (1, .int v1)]) rfl ?_
  refine g_iconst hC dX11_order_22 (v := (0 : Int32)) (by decide) ?_
  refine g_istore_n hC dX11_order_23 rfl rfl (by decide) (lv' := [(3, .int (0 : Int32)), (2, .int r18), (0, .ref (mB E + 0)), (1, .int v1)]) rfl ?_
  refine g_lv [2, 3, 1, 0] rfl ?_
  exact wo_X11_order_24 hC hW hE Fu (v1) (r18) ((0 : Int32)) (r14) h
theorem oi_X11_order {l : Launch} {E : mEn} {Fu : Nat} {I : mIT} {R : mRT} {L : mLT} {v1 : Int32} (hst : l.stackTraces = false) (hW : mWd R)  {out : Int32 × mIT} (h : f_X11_order Fu R I v1 = some (.inl out)) : mOx l E mX11_order [.ref (mB E + 0), .int v1] 106 1 I R L 0 0 (mSame (some (.int (out.1))) 106 1 (out.2) R L) (fun _ _ _ _ _ _ => False) := oy_X11_order hst hW h ⟨rfl, rfl, rfl, rfl, rfl, rfl⟩
theorem ox_X11_order {l : Launch} {E : mEn} {Fu : Nat} {I : mIT} {R : mRT} {L : mLT} {v1 : Int32} (hst : l.stackTraces = false) (hW : mWd R)  {q : Nat × mIT} (h : f_X11_order Fu R I v1 = some (.inr q)) : mOx l E mX11_order [.ref (mB E + 0), .int v1] 106 1 I R L 1 6 (fun _ _ _ _ _ _ => False) (mXp q.1 106 1 q.2 R L) := oy_X11_order hst hW h ⟨Nat.le_refl _, Nat.le_refl _, rfl, rfl, rfl, rfl, rfl, rfl⟩
noncomputable def f_X11_restore (Fu : Nat) (I : mIT)  : Option (Int32 × mIT) :=
  if (I 0 10) = 0 then (some ((0 : Int32), I)) else (oB (f_X9_copyFrom Fu I 40 48) (fun r17 => oB (f_X0_copyFrom Fu r17 42 50) (fun r28 => oB (f_X4_copyFrom Fu r28 44 52) (fun r39 => oB (f_X11_forgetWork Fu r39) (fun r43 => some ((1 : Int32), r43))))))
set_option maxRecDepth 20000 in
theorem ok_X11_restore {l : Launch} {E : mEn} {Fu : Nat} {I : mIT} {R : mRT} {L : mLT}  (hst : l.stackTraces = false) (hW : mWd R)  {out : Int32 × mIT} (h : f_X11_restore Fu I  = some out) : mOk l E mX11_restore [.ref (mB E + 0)] 106 1 I R L 0 0 (mSame (some (.int (out.1))) 106 1 (out.2) R L) := by
  refine mOk_of hst (by decide) (Nat.le_of_ble_eq_true rfl) (fun X hC hE _ => ?_)
  have hC : mC X E mX11_restore RX11 cX11_restore := hC
  show mG X E 0 [(0, .ref (mB E + 0))] [] 106 1 I R L 0 0
  unfold f_X11_restore at h
  refine g_aload_n hC dX11_restore_0 rfl (q := 0) rfl ?_
  refine g_geti hC fd_RX11_61 rfl (by decide) (Or.inr rfl) dX11_restore_1 ?_
  refine g_if_ne hC dX11_restore_4 (tgt := 9) (by decide) (fun c4 => ?_) (fun c4 => ?_)
  · replace h := (if_neg c4).symm.trans h
    refine g_aload_n hC dX11_restore_9 rfl (q := 0) rfl ?_
    refine g_getr hC fd_RX11_34 rfl (by decide) (C0 := _) (t0 := .int) (Or.inl rfl) (rr_0_4 hW.1) dX11_restore_10 ?_
    refine g_aload_n hC dX11_restore_13 rfl (q := 0) rfl ?_
    refine g_getr hC fd_RX11_52 rfl (by decide) (C0 := _) (t0 := .int) (Or.inl rfl) (rr_0_7 hW.1) dX11_restore_14 ?_
    obtain ⟨r17, h17, h⟩ := oB_some h
    refine g_cV0 hC cv_X9_copyFrom wd_819 ⟨Nat.le_of_ble_eq_true rfl, Nat.le_of_ble_eq_true rfl⟩ rfl (by decide) dX11_restore_17 (As := [.ref (mB E + 48)]) (st := []) (ok_X9_copyFrom hC.2.2.2.2.2.2.2.1 (ob_40 hW.1) (ob_48 hW.1) h17) rfl rfl (Nat.le_of_ble_eq_true rfl) ⟨Nat.zero_le _, Nat.zero_le _⟩ ?_
    refine g_aload_n hC dX11_restore_20 rfl (q := 0) rfl ?_
    refine g_getr hC fd_RX11_41 rfl (by decide) (C0 := _) (t0 := .int) (Or.inl rfl) (rr_0_5 hW.1) dX11_restore_21 ?_
    refine g_aload_n hC dX11_restore_24 rfl (q := 0) rfl ?_
    refine g_getr hC fd_RX11_55 rfl (by decide) (C0 := _) (t0 := .int) (Or.inl rfl) (rr_0_8 hW.1) dX11_restore_25 ?_
    obtain ⟨r28, h28, h⟩ := oB_some h
    refine g_cV0 hC cv_X0_copyFrom wd_820 ⟨Nat.le_of_ble_eq_true rfl, Nat.le_of_ble_eq_true rfl⟩ rfl (by decide) dX11_restore_28 (As := [.ref (mB E + 50)]) (st := []) (ok_X0_copyFrom hC.2.2.2.2.2.2.2.1 (ob_42 hW.1) (ob_50 hW.1) h28) rfl rfl (Nat.le_of_ble_eq_true rfl) ⟨Nat.zero_le _, Nat.zero_le _⟩ ?_
    refine g_aload_n hC dX11_restore_31 rfl (q := 0) rfl ?_
    refine g_getr hC fd_RX11_48 rfl (by decide) (C0 := _) (t0 := .int) (Or.inl rfl) (rr_0_6 hW.1) dX11_restore_32 ?_
    refine g_aload_n hC dX11_restore_35 rfl (q := 0) rfl ?_
    refine g_getr hC fd_RX11_58 rfl (by decide) (C0 := _) (t0 := .int) (Or.inl rfl) (rr_0_9 hW.1) dX11_restore_36 ?_
    obtain ⟨r39, h39, h⟩ := oB_some h
    refine g_cV0 hC cv_X4_copyFrom wd_825 ⟨Nat.le_of_ble_eq_true rfl, Nat.le_of_ble_eq_true rfl⟩ rfl (by decide) dX11_restore_39 (As := [.ref (mB E + 52)]) (st := []) (ok_X4_copyFrom hC.2.2.2.2.2.2.2.1 (ob_44 hW.1) (ob_52 hW.1) h39) rfl rfl (Nat.le_of_ble_eq_true rfl) ⟨Nat.zero_le _, Nat.zero_le _⟩ ?_
    refine g_aload_n hC dX11_restore_42 rfl (q := 0) rfl ?_
    obtain ⟨r43, h43, h⟩ := oB_some h
    refine g_cV0 hC cv_X11_forgetWork wd_566 ⟨Nat.le_of_ble_eq_true rfl, Nat.le_of_ble_eq_true rfl⟩ rfl (by decide) dX11_restore_43 (As := []) (st := []) (ok_X11_forgetWork hC.2.2.2.2.2.2.2.1 hW h43) rfl rfl (Nat.le_of_ble_eq_true rfl) ⟨Nat.zero_le _, Nat.zero_le _⟩ ?_
    refine g_iconst hC dX11_restore_46 (v := (1 : Int32)) (by decide) ?_
    cases h
    exact g_zret hC (by decide) hE rfl dX11_restore_47 (Nat.zero_le _) (Nat.zero_le _) ⟨rfl, rfl, rfl, rfl, rfl, rfl⟩
  · replace h := (if_pos c4).symm.trans h
    refine g_iconst hC dX11_restore_7 (v := (0 : Int32)) (by decide) ?_
    cases h
    exact g_zret hC (by decide) hE rfl dX11_restore_8 (Nat.zero_le _) (Nat.zero_le _) ⟨rfl, rfl, rfl, rfl, rfl, rfl⟩
noncomputable def f_X11_rings (Fu : Nat) (R : mRT) (I : mIT) (v1 : Int32) : Option ((Int32 × mIT) ⊕ (Nat × mIT)) :=
  oX (f_X11_checkFar Fu I v1) (fun r2 => oB (R 0 3) (fun p10 => oB (f_X1_layTo Fu I p10 40 v1) (fun r18 => oB (R 0 3) (fun p22 => oB (f_X1_soundingOn Fu r18 v1) (fun r35 => oB (f_X1_noteBits Fu r18 v1 r35) (fun r38 => oB (f_X5_isTuneIn Fu r18 p22 r38) (fun r41 => oG (isB r41) (some (.inl (r41, r18))))))))))
set_option maxRecDepth 20000 in
theorem oy_X11_rings {l : Launch} {E : mEn} {Fu : Nat} {I : mIT} {R : mRT} {L : mLT} {v1 : Int32} (hst : l.stackTraces = false) (hW : mWd R)  {out : (Int32 × mIT) ⊕ (Nat × mIT)} (h : f_X11_rings Fu R I v1 = some out) {mc ms : Nat} {post : Option Value → Nat → Nat → mIT → mRT → mLT → Prop} {px : String → Nat → Nat → mIT → mRT → mLT → Prop} (ho : Sum.elim (fun o : Int32 × mIT => post (some (.int (o.1))) 106 1 (o.2) R L) (fun q : Nat × mIT => 1 ≤ mc ∧ 6 ≤ ms ∧ px (xNm q.1) 106 1 q.2 R L) out) : mOx l E mX11_rings [.ref (mB E + 0), .int v1] 106 1 I R L mc ms post px := by
  refine mOx_of hst (by decide) (Nat.le_of_ble_eq_true rfl) (fun X hC hE0 _ => ?_)
  have hE : mEx X E mc ms post px ∧ Sum.elim (fun o : Int32 × mIT => post (some (.int (o.1))) 106 1 (o.2) R L) (fun q : Nat × mIT => 1 ≤ mc ∧ 6 ≤ ms ∧ px (xNm q.1) 106 1 q.2 R L) out := ⟨hE0, ho⟩
  have hC : mC X E mX11_rings RX11 cX11_rings := hC
  show mG X E 0 [(0, .ref (mB E + 0)), (1, .int v1)] [] 106 1 I R L 0 0
  unfold f_X11_rings at h
  refine g_aload_n hC dX11_rings_0 rfl (q := 0) rfl ?_
  refine g_iload_n hC dX11_rings_1 rfl (q := 1) rfl ?_
  rcases oX_some h with ⟨r2, h2, h⟩ | ⟨q2, h2, h⟩
  case inr =>
    subst h
    have hq : 1 ≤ mc ∧ 6 ≤ ms ∧ px (xNm q2.1) 106 1 q2.2 R L := hE.2
    exact g_cVz hC hE.1 cv_X11_checkFar wd_1288 ⟨Nat.le_of_ble_eq_true rfl, Nat.le_of_ble_eq_true rfl⟩ rfl (by decide) dX11_rings_2 (As := [.int v1]) (st := []) (ox_X11_checkFar hC.2.2.2.2.2.2.2.1 hW h2) rfl rfl (Nat.le_of_ble_eq_true rfl) ⟨by omega, by omega⟩ hq.2.2
  refine g_cVy0 hC hE.1 cv_X11_checkFar wd_1288 ⟨Nat.le_of_ble_eq_true rfl, Nat.le_of_ble_eq_true rfl⟩ rfl (by decide) dX11_rings_2 (As := [.int v1]) (st := []) (oi_X11_checkFar hC.2.2.2.2.2.2.2.1 hW h2) rfl rfl (Nat.le_of_ble_eq_true rfl) ⟨Nat.zero_le _, Nat.zero_le _⟩ ?_
  refine g_aload_n hC dX11_rings_5 rfl (q := 0) rfl ?_
  refine g_getr hC fd_RX11_68 rfl (by decide) (C0 := _) (t0 := .int) (Or.inl rfl) (rr_0_11 hW.1) dX11_rings_6 ?_
  refine g_aload_n hC dX11_rings_9 rfl (q := 0) rfl ?_
  obtain ⟨p10, e10, h⟩ := oB_some h
  have hp10 : mO5 R p10 := ob5 hW.1 (hW.2.1 p10 e10)
  refine g_getr hC fd_RX11_27 rfl (by decide) (C0 := _) (t0 := .int) (Or.inl rfl) e10 dX11_rings_10 ?_
  refine g_aload_n hC dX11_rings_13 rfl (q := 0) rfl ?_
  refine g_getr hC fd_RX11_34 rfl (by decide) (C0 := _) (t0 := .int) (Or.inl rfl) (rr_0_4 hW.1) dX11_rings_14 ?_
  refine g_iload_n hC dX11_rings_17 rfl (q := 1) rfl ?_
  obtain ⟨r18, h18, h⟩ := oB_some h
  refine g_cV0 hC cv_X1_layTo wd_664 ⟨Nat.le_of_ble_eq_true rfl, Nat.le_of_ble_eq_true rfl⟩ rfl (by decide) dX11_rings_18 (As := [.ref (mB E + p10), .ref (mB E + 40), .int v1]) (st := []) (ok_X1_layTo hC.2.2.2.2.2.2.2.1 hW hp10 (ob_40 hW.1) h18) rfl rfl (Nat.le_of_ble_eq_true rfl) ⟨Nat.zero_le _, Nat.zero_le _⟩ ?_
  refine g_aload_n hC dX11_rings_21 rfl (q := 0) rfl ?_
  obtain ⟨p22, e22, h⟩ := oB_some h
  have hp22 : mO5 R p22 := ob5 hW.1 (hW.2.1 p22 e22)
  refine g_getr hC fd_RX11_27 rfl (by decide) (C0 := _) (t0 := .int) (Or.inl rfl) e22 dX11_rings_22 ?_
  refine g_aload_n hC dX11_rings_25 rfl (q := 0) rfl ?_
  refine g_getr hC fd_RX11_68 rfl (by decide) (C0 := _) (t0 := .int) (Or.inl rfl) (rr_0_11 hW.1) dX11_rings_26 ?_
  refine g_iload_n hC dX11_rings_29 rfl (q := 1) rfl ?_
  refine g_aload_n hC dX11_rings_30 rfl (q := 0) rfl ?_
  refine g_getr hC fd_RX11_68 rfl (by decide) (C0 := _) (t0 := .int) (Or.inl rfl) (rr_0_11 hW.1) dX11_rings_31 ?_
  refine g_iload_n hC dX11_rings_34 rfl (q := 1) rfl ?_
  obtain ⟨r35, h35, h⟩ := oB_some h
  refine g_cV1 hC cv_X1_soundingOn wd_695 ⟨Nat.le_of_ble_eq_true rfl, Nat.le_of_ble_eq_true rfl⟩ rfl (by decide) dX11_rings_35 (As := [.int v1]) (st := [.int v1, .ref (mB E + 56), .ref (mB E + p22)]) (ok_X1_soundingOn hC.2.2.2.2.2.2.2.1 hW h35) rfl rfl (Nat.le_of_ble_eq_true rfl) ⟨Nat.zero_le _, Nat.zero_le _⟩ ?_
  obtain ⟨r38, h38, h⟩ := oB_some h
  refine g_cV1 hC cv_X1_noteBits wd_699 ⟨Nat.le_of_ble_eq_true rfl, Nat.le_of_ble_eq_true rfl⟩ rfl (by decide) dX11_rings_38 (As := [.int v1, .int r35]) (st := [.ref (mB E + p22)]) (ok_X1_noteBits hC.2.2.2.2.2.2.2.1 hW h38) rfl rfl (Nat.le_of_ble_eq_true rfl) ⟨Nat.zero_le _, Nat.zero_le _⟩ ?_
  obtain ⟨r41, h41, h⟩ := oB_some h
  refine g_cV1 hC cv_X5_isTuneIn wd_707 ⟨Nat.le_of_ble_eq_true rfl, Nat.le_of_ble_eq_true rfl⟩ hp22.2.1 hp22.1 dX11_rings_41 (As := [.int r38]) (st := []) (ok_X5_isTuneIn hC.2.2.2.2.2.2.2.1 hp22 h41) rfl rfl (Nat.le_of_ble_eq_true rfl) ⟨Nat.zero_le _, Nat.zero_le _⟩ ?_
  obtain ⟨g44, h⟩ := oG_some h
  cases h
  exact g_xzret hC (isB_or g44) hE.1 rfl dX11_rings_44 (Nat.zero_le _) (Nat.zero_le _) hE.2
theorem oi_X11_rings {l : Launch} {E : mEn} {Fu : Nat} {I : mIT} {R : mRT} {L : mLT} {v1 : Int32} (hst : l.stackTraces = false) (hW : mWd R)  {out : Int32 × mIT} (h : f_X11_rings Fu R I v1 = some (.inl out)) : mOx l E mX11_rings [.ref (mB E + 0), .int v1] 106 1 I R L 0 0 (mSame (some (.int (out.1))) 106 1 (out.2) R L) (fun _ _ _ _ _ _ => False) := oy_X11_rings hst hW h ⟨rfl, rfl, rfl, rfl, rfl, rfl⟩
theorem ox_X11_rings {l : Launch} {E : mEn} {Fu : Nat} {I : mIT} {R : mRT} {L : mLT} {v1 : Int32} (hst : l.stackTraces = false) (hW : mWd R)  {q : Nat × mIT} (h : f_X11_rings Fu R I v1 = some (.inr q)) : mOx l E mX11_rings [.ref (mB E + 0), .int v1] 106 1 I R L 1 6 (fun _ _ _ _ _ _ => False) (mXp q.1 106 1 q.2 R L) := oy_X11_rings hst hW h ⟨Nat.le_refl _, Nat.le_refl _, rfl, rfl, rfl, rfl, rfl, rfl⟩
noncomputable def f_X11_root (Fu : Nat) (R : mRT) (I : mIT) (v1 : Int32) (v2 : Int32) : Option ((Int32 × mIT) ⊕ (Nat × mIT)) :=
  oX (f_X11_checkRoot Fu R I v1) (fun r2 => if v2 = (0 : Int32) then (oB (R 0 3) (fun p53 => oB (f_X5_kindOf Fu I p53 v1) (fun r57 => some (.inl (r57, I))))) else if v2 = (1 : Int32) then (oB (f_X9_sizeOf Fu I 40 v1) (fun r66 => some (.inl (r66, I)))) else if v2 = (2 : Int32) then (oB (f_X9_hollowOf Fu I 40 v1) (fun r75 => some (.inl (r75, I)))) else if v2 = (3 : Int32) then (oB (f_X9_softnessOf Fu I 40 v1) (fun r84 => some (.inl (r84, I)))) else if v2 = (4 : Int32) then (oB (R 0 3) (fun p93 => oB (f_X9_noteOf Fu I 40 p93 v1 (0 : Int32)) (fun r98 => some (.inl (r98.1, r98.2))))) else if v2 = (5 : Int32) then (oB (f_X9_placeOf Fu I 40 v1) (fun r107 => some (.inl (r107, I)))) else if v2 = (6 : Int32) then (oB (f_X11_soundingNow Fu R I) (fun r112 => some (.inl (((r112.1 >>> (v1 &&& 31)) &&& (1 : Int32)), r112.2)))) else if v2 = (7 : Int32) then (oB (f_X9_roomToHollow Fu I 40 v1) (fun r125 => some (.inl (r125, I)))) else (some (.inr (1, I))))
set_option maxRecDepth 20000 in
theorem oy_X11_root {l : Launch} {E : mEn} {Fu : Nat} {I : mIT} {R : mRT} {L : mLT} {v1 : Int32} {v2 : Int32} (hst : l.stackTraces = false) (hW : mWd R)  {out : (Int32 × mIT) ⊕ (Nat × mIT)} (h : f_X11_root Fu R I v1 v2 = some out) {mc ms : Nat} {post : Option Value → Nat → Nat → mIT → mRT → mLT → Prop} {px : String → Nat → Nat → mIT → mRT → mLT → Prop} (ho : Sum.elim (fun o : Int32 × mIT => post (some (.int (o.1))) 106 1 (o.2) R L) (fun q : Nat × mIT => 1 ≤ mc ∧ 6 ≤ ms ∧ px (xNm q.1) 106 1 q.2 R L) out) : mOx l E mX11_root [.ref (mB E + 0), .int v1, .int v2] 106 1 I R L mc ms post px := by
  refine mOx_of hst (by decide) (Nat.le_of_ble_eq_true rfl) (fun X hC hE0 _ => ?_)
  have hE : mEx X E mc ms post px ∧ Sum.elim (fun o : Int32 × mIT => post (some (.int (o.1))) 106 1 (o.2) R L) (fun q : Nat × mIT => 1 ≤ mc ∧ 6 ≤ ms ∧ px (xNm q.1) 106 1 q.2 R L) out := ⟨hE0, ho⟩
  have hC : mC X E mX11_root RX11 cX11_root := hC
  show mG X E 0 [(0, .ref (mB E + 0)), (1, .int v1), (2, .int v2)] [] 106 1 I R L 0 0
  unfold f_X11_root at h
  refine g_aload_n hC dX11_root_0 rfl (q := 0) rfl ?_
  refine g_iload_n hC dX11_root_1 rfl (q := 1) rfl ?_
  rcases oX_some h with ⟨r2, h2, h⟩ | ⟨q2, h2, h⟩
  case inr =>
    subst h
    have hq : 1 ≤ mc ∧ 6 ≤ ms ∧ px (xNm q2.1) 106 1 q2.2 R L := hE.2
    exact g_cVz hC hE.1 cv_X11_checkRoot wd_1183 ⟨Nat.le_of_ble_eq_true rfl, Nat.le_of_ble_eq_true rfl⟩ rfl (by decide) dX11_root_2 (As := [.int v1]) (st := []) (ox_X11_checkRoot hC.2.2.2.2.2.2.2.1 hW h2) rfl rfl (Nat.le_of_ble_eq_true rfl) ⟨by omega, by omega⟩ hq.2.2
  refine g_cVy0 hC hE.1 cv_X11_checkRoot wd_1183 ⟨Nat.le_of_ble_eq_true rfl, Nat.le_of_ble_eq_true rfl⟩ rfl (by decide) dX11_root_2 (As := [.int v1]) (st := []) (oi_X11_checkRoot hC.2.2.2.2.2.2.2.1 hW h2) rfl rfl (Nat.le_of_ble_eq_true rfl) ⟨Nat.zero_le _, Nat.zero_le _⟩ ?_
  refine g_iload_n hC dX11_root_5 rfl (q := 2) rfl ?_
  by_cases c6_0 : v2 = (0 : Int32)
  · replace h := (if_pos c6_0).symm.trans h
    refine g_tabI hC dX11_root_6 (off := 46) (tgt := 52) (by rw [c6_0]; decide) (by rw [c6_0]; decide) (by rw [c6_0]; rfl) (by decide) ?_
    refine g_aload_n hC dX11_root_52 rfl (q := 0) rfl ?_
    obtain ⟨p53, e53, h⟩ := oB_some h
    have hp53 : mO5 R p53 := ob5 hW.1 (hW.2.1 p53 e53)
    refine g_getr hC fd_RX11_27 rfl (by decide) (C0 := _) (t0 := .int) (Or.inl rfl) e53 dX11_root_53 ?_
    refine g_iload_n hC dX11_root_56 rfl (q := 1) rfl ?_
    obtain ⟨r57, h57, h⟩ := oB_some h
    refine g_cV1 hC cv_X5_kindOf wd_1188 ⟨Nat.le_of_ble_eq_true rfl, Nat.le_of_ble_eq_true rfl⟩ hp53.2.1 hp53.1 dX11_root_57 (As := [.int v1]) (st := []) (ok_X5_kindOf hC.2.2.2.2.2.2.2.1 hp53 h57) rfl rfl (Nat.le_of_ble_eq_true rfl) ⟨Nat.zero_le _, Nat.zero_le _⟩ ?_
    cases h
    exact g_xiret hC hE.1 rfl dX11_root_60 (Nat.zero_le _) (Nat.zero_le _) hE.2
  replace h := (if_neg c6_0).symm.trans h
  by_cases c6_1 : v2 = (1 : Int32)
  · replace h := (if_pos c6_1).symm.trans h
    refine g_tabI hC dX11_root_6 (off := 55) (tgt := 61) (by rw [c6_1]; decide) (by rw [c6_1]; decide) (by rw [c6_1]; rfl) (by decide) ?_
    refine g_aload_n hC dX11_root_61 rfl (q := 0) rfl ?_
    refine g_getr hC fd_RX11_34 rfl (by decide) (C0 := _) (t0 := .int) (Or.inl rfl) (rr_0_4 hW.1) dX11_root_62 ?_
    refine g_iload_n hC dX11_root_65 rfl (q := 1) rfl ?_
    obtain ⟨r66, h66, h⟩ := oB_some h
    refine g_cV1 hC cv_X9_sizeOf wd_1189 ⟨Nat.le_of_ble_eq_true rfl, Nat.le_of_ble_eq_true rfl⟩ rfl (by decide) dX11_root_66 (As := [.int v1]) (st := []) (ok_X9_sizeOf hC.2.2.2.2.2.2.2.1 (ob_40 hW.1) h66) rfl rfl (Nat.le_of_ble_eq_true rfl) ⟨Nat.zero_le _, Nat.zero_le _⟩ ?_
    cases h
    exact g_xiret hC hE.1 rfl dX11_root_69 (Nat.zero_le _) (Nat.zero_le _) hE.2
  replace h := (if_neg c6_1).symm.trans h
  by_cases c6_2 : v2 = (2 : Int32)
  · replace h := (if_pos c6_2).symm.trans h
    refine g_tabI hC dX11_root_6 (off := 64) (tgt := 70) (by rw [c6_2]; decide) (by rw [c6_2]; decide) (by rw [c6_2]; rfl) (by decide) ?_
    refine g_aload_n hC dX11_root_70 rfl (q := 0) rfl ?_
    refine g_getr hC fd_RX11_34 rfl (by decide) (C0 := _) (t0 := .int) (Or.inl rfl) (rr_0_4 hW.1) dX11_root_71 ?_
    refine g_iload_n hC dX11_root_74 rfl (q := 1) rfl ?_
    obtain ⟨r75, h75, h⟩ := oB_some h
    refine g_cV1 hC cv_X9_hollowOf wd_1190 ⟨Nat.le_of_ble_eq_true rfl, Nat.le_of_ble_eq_true rfl⟩ rfl (by decide) dX11_root_75 (As := [.int v1]) (st := []) (ok_X9_hollowOf hC.2.2.2.2.2.2.2.1 (ob_40 hW.1) h75) rfl rfl (Nat.le_of_ble_eq_true rfl) ⟨Nat.zero_le _, Nat.zero_le _⟩ ?_
    cases h
    exact g_xiret hC hE.1 rfl dX11_root_78 (Nat.zero_le _) (Nat.zero_le _) hE.2
  replace h := (if_neg c6_2).symm.trans h
  by_cases c6_3 : v2 = (3 : Int32)
  · replace h := (if_pos c6_3).symm.trans h
    refine g_tabI hC dX11_root_6 (off := 73) (tgt := 79) (by rw [c6_3]; decide) (by rw [c6_3]; decide) (by rw [c6_3]; rfl) (by decide) ?_
    refine g_aload_n hC dX11_root_79 rfl (q := 0) rfl ?_
    refine g_getr hC fd_RX11_34 rfl (by decide) (C0 := _) (t0 := .int) (Or.inl rfl) (rr_0_4 hW.1) dX11_root_80 ?_
    refine g_iload_n hC dX11_root_83 rfl (q := 1) rfl ?_
    obtain ⟨r84, h84, h⟩ := oB_some h
    refine g_cV1 hC cv_X9_softnessOf wd_1191 ⟨Nat.le_of_ble_eq_true rfl, Nat.le_of_ble_eq_true rfl⟩ rfl (by decide) dX11_root_84 (As := [.int v1]) (st := []) (ok_X9_softnessOf hC.2.2.2.2.2.2.2.1 (ob_40 hW.1) h84) rfl rfl (Nat.le_of_ble_eq_true rfl) ⟨Nat.zero_le _, Nat.zero_le _⟩ ?_
    cases h
    exact g_xiret hC hE.1 rfl dX11_root_87 (Nat.zero_le _) (Nat.zero_le _) hE.2
  replace h := (if_neg c6_3).symm.trans h
  by_cases c6_4 : v2 = (4 : Int32)
  · replace h := (if_pos c6_4).symm.trans h
    refine g_tabI hC dX11_root_6 (off := 82) (tgt := 88) (by rw [c6_4]; decide) (by rw [c6_4]; decide) (by rw [c6_4]; rfl) (by decide) ?_
    refine g_aload_n hC dX11_root_88 rfl (q := 0) rfl ?_
    refine g_getr hC fd_RX11_34 rfl (by decide) (C0 := _) (t0 := .int) (Or.inl rfl) (rr_0_4 hW.1) dX11_root_89 ?_
    refine g_aload_n hC dX11_root_92 rfl (q := 0) rfl ?_
    obtain ⟨p93, e93, h⟩ := oB_some h
    have hp93 : mO5 R p93 := ob5 hW.1 (hW.2.1 p93 e93)
    refine g_getr hC fd_RX11_27 rfl (by decide) (C0 := _) (t0 := .int) (Or.inl rfl) e93 dX11_root_93 ?_
    refine g_iload_n hC dX11_root_96 rfl (q := 1) rfl ?_
    refine g_iconst hC dX11_root_97 (v := (0 : Int32)) (by decide) ?_
    obtain ⟨r98, h98, h⟩ := oB_some h
    refine g_cV1 hC cv_X9_noteOf wd_1192 ⟨Nat.le_of_ble_eq_true rfl, Nat.le_of_ble_eq_true rfl⟩ rfl (by decide) dX11_root_98 (As := [.ref (mB E + p93), .int v1, .int (0 : Int32)]) (st := []) (ok_X9_noteOf hC.2.2.2.2.2.2.2.1 (ob_40 hW.1) hp93 h98) rfl rfl (Nat.le_of_ble_eq_true rfl) ⟨Nat.zero_le _, Nat.zero_le _⟩ ?_
    cases h
    exact g_xiret hC hE.1 rfl dX11_root_101 (Nat.zero_le _) (Nat.zero_le _) hE.2
  replace h := (if_neg c6_4).symm.trans h
  by_cases c6_5 : v2 = (5 : Int32)
  · replace h := (if_pos c6_5).symm.trans h
    refine g_tabI hC dX11_root_6 (off := 96) (tgt := 102) (by rw [c6_5]; decide) (by rw [c6_5]; decide) (by rw [c6_5]; rfl) (by decide) ?_
    refine g_aload_n hC dX11_root_102 rfl (q := 0) rfl ?_
    refine g_getr hC fd_RX11_34 rfl (by decide) (C0 := _) (t0 := .int) (Or.inl rfl) (rr_0_4 hW.1) dX11_root_103 ?_
    refine g_iload_n hC dX11_root_106 rfl (q := 1) rfl ?_
    obtain ⟨r107, h107, h⟩ := oB_some h
    refine g_cV1 hC cv_X9_placeOf wd_719 ⟨Nat.le_of_ble_eq_true rfl, Nat.le_of_ble_eq_true rfl⟩ rfl (by decide) dX11_root_107 (As := [.int v1]) (st := []) (ok_X9_placeOf hC.2.2.2.2.2.2.2.1 (ob_40 hW.1) h107) rfl rfl (Nat.le_of_ble_eq_true rfl) ⟨Nat.zero_le _, Nat.zero_le _⟩ ?_
    cases h
    exact g_xiret hC hE.1 rfl dX11_root_110 (Nat.zero_le _) (Nat.zero_le _) hE.2
  replace h := (if_neg c6_5).symm.trans h
  by_cases c6_6 : v2 = (6 : Int32)
  · replace h := (if_pos c6_6).symm.trans h
    refine g_tabI hC dX11_root_6 (off := 105) (tgt := 111) (by rw [c6_6]; decide) (by rw [c6_6]; decide) (by rw [c6_6]; rfl) (by decide) ?_
    refine g_aload_n hC dX11_root_111 rfl (q := 0) rfl ?_
    obtain ⟨r112, h112, h⟩ := oB_some h
    refine g_cV1 hC cv_X11_soundingNow wd_776 ⟨Nat.le_of_ble_eq_true rfl, Nat.le_of_ble_eq_true rfl⟩ rfl (by decide) dX11_root_112 (As := []) (st := []) (ok_X11_soundingNow hC.2.2.2.2.2.2.2.1 hW h112) rfl rfl (Nat.le_of_ble_eq_true rfl) ⟨Nat.zero_le _, Nat.zero_le _⟩ ?_
    refine g_iload_n hC dX11_root_115 rfl (q := 1) rfl ?_
    refine g_ishr hC dX11_root_116 ?_
    refine g_iconst hC dX11_root_117 (v := (1 : Int32)) (by decide) ?_
    refine g_iand hC dX11_root_118 ?_
    cases h
    exact g_xiret hC hE.1 rfl dX11_root_119 (Nat.zero_le _) (Nat.zero_le _) hE.2
  replace h := (if_neg c6_6).symm.trans h
  by_cases c6_7 : v2 = (7 : Int32)
  · replace h := (if_pos c6_7).symm.trans h
    refine g_tabI hC dX11_root_6 (off := 114) (tgt := 120) (by rw [c6_7]; decide) (by rw [c6_7]; decide) (by rw [c6_7]; rfl) (by decide) ?_
    refine g_aload_n hC dX11_root_120 rfl (q := 0) rfl ?_
    refine g_getr hC fd_RX11_34 rfl (by decide) (C0 := _) (t0 := .int) (Or.inl rfl) (rr_0_4 hW.1) dX11_root_121 ?_
    refine g_iload_n hC dX11_root_124 rfl (q := 1) rfl ?_
    obtain ⟨r125, h125, h⟩ := oB_some h
    refine g_cV1 hC cv_X9_roomToHollow wd_1193 ⟨Nat.le_of_ble_eq_true rfl, Nat.le_of_ble_eq_true rfl⟩ rfl (by decide) dX11_root_125 (As := [.int v1]) (st := []) (ok_X9_roomToHollow hC.2.2.2.2.2.2.2.1 (ob_40 hW.1) h125) rfl rfl (Nat.le_of_ble_eq_true rfl) ⟨Nat.zero_le _, Nat.zero_le _⟩ ?_
    cases h
    exact g_xiret hC hE.1 rfl dX11_root_128 (Nat.zero_le _) (Nat.zero_le _) hE.2
  replace h := (if_neg c6_7).symm.trans h
  refine g_tabO hC dX11_root_6 (sw_out (fun j hj1 hj2 => ?_)) (tgt := 129) (by decide) ?_
  · rcases (show j = 0 ∨ j = 1 ∨ j = 2 ∨ j = 3 ∨ j = 4 ∨ j = 5 ∨ j = 6 ∨ j = 7 by omega) with rfl | rfl | rfl | rfl | rfl | rfl | rfl | rfl <;> assumption
  cases h
  have hq : 1 ≤ mc ∧ 6 ≤ ms ∧ px (xNm 1) 106 1 I R L := hE.2
  exact g_thr hC hE.1 tw_RX11_180 (j := 22) rfl dX11_root_129 dX11_root_132 dX11_root_133 dX11_root_135 dX11_root_138 (Nat.le_of_ble_eq_true rfl) (Nat.le_of_ble_eq_true rfl) (by decide) hq.1 hq.2.1 hq.2.2
theorem oi_X11_root {l : Launch} {E : mEn} {Fu : Nat} {I : mIT} {R : mRT} {L : mLT} {v1 : Int32} {v2 : Int32} (hst : l.stackTraces = false) (hW : mWd R)  {out : Int32 × mIT} (h : f_X11_root Fu R I v1 v2 = some (.inl out)) : mOx l E mX11_root [.ref (mB E + 0), .int v1, .int v2] 106 1 I R L 0 0 (mSame (some (.int (out.1))) 106 1 (out.2) R L) (fun _ _ _ _ _ _ => False) := oy_X11_root hst hW h ⟨rfl, rfl, rfl, rfl, rfl, rfl⟩
theorem ox_X11_root {l : Launch} {E : mEn} {Fu : Nat} {I : mIT} {R : mRT} {L : mLT} {v1 : Int32} {v2 : Int32} (hst : l.stackTraces = false) (hW : mWd R)  {q : Nat × mIT} (h : f_X11_root Fu R I v1 v2 = some (.inr q)) : mOx l E mX11_root [.ref (mB E + 0), .int v1, .int v2] 106 1 I R L 1 6 (fun _ _ _ _ _ _ => False) (mXp q.1 106 1 q.2 R L) := oy_X11_root hst hW h ⟨Nat.le_refl _, Nat.le_refl _, rfl, rfl, rfl, rfl, rfl, rfl⟩
noncomputable def b_X7_numberBehind_11 (Fu : Nat) (I : mIT) (k11_ : Int32 × Int32 × Int32 → Option (Int32)) (v2 : Int32) (v3 : Int32) (v4 : Int32) : Option (Int32) :=
  if (I 62 3) ≤ v4 then (some (v3)) else (oB (f_X7_bellAt Fu v2 v4) (fun r27 => k11_ (v2, (((10 : Int32) * v3) + r27), (v4 + (1 : Int32)))))
set_option maxRecDepth 20000 in
theorem bo_X7_numberBehind_11 {X : mXT} {E : mEn} {Fu : Nat} {I : mIT} {R : mRT} {L : mLT}  (hC : mC X E mX7_numberBehind RX7 cX7_numberBehind) (hW : mWd R)   {out : Int32} (hE : mEd X E 0 0 (mSame (some (.int (out))) 106 1 I R L)) (k11_ : Int32 × Int32 × Int32 → Option (Int32)) (hk11_ : ∀ (v2 : Int32) (v3 : Int32) (v4 : Int32),  k11_ (v2, v3, v4) = some out → mG X E 11 [(0, .ref (mB E + 62)), (2, .int v2), (3, .int v3), (4, .int v4)] [] 106 1 I R L 0 0) (v2 : Int32) (v3 : Int32) (v4 : Int32) (h : b_X7_numberBehind_11 Fu I k11_ v2 v3 v4 = some out) : mG X E 11 [(0, .ref (mB E + 62)), (2, .int v2), (3, .int v3), (4, .int v4)] [] 106 1 I R L 0 0 := by
  unfold b_X7_numberBehind_11 at h
  refine g_iload hC dX7_numberBehind_11 (q := 3) rfl ?_
  refine g_aload_n hC dX7_numberBehind_13 rfl (q := 0) rfl ?_
  refine g_geti hC fd_RX7_21 rfl (by decide) (Or.inl rfl) dX7_numberBehind_14 ?_
  refine g_ic_ge hC dX7_numberBehind_17 (tgt := 38) (by decide) (fun c17 => ?_) (fun c17 => ?_)
  · replace h := (if_pos c17).symm.trans h
    refine g_iload_n hC dX7_numberBehind_38 rfl (q := 2) rfl ?_
    cases h
    exact g_iret hC hE rfl dX7_numberBehind_39 (Nat.zero_le _) (Nat.zero_le _) ⟨rfl, rfl, rfl, rfl, rfl, rfl⟩
  · replace h := (if_neg c17).symm.trans h
    refine g_bipush hC dX7_numberBehind_20 (v := (10 : Int32)) (by decide) ?_
    refine g_iload_n hC dX7_numberBehind_22 rfl (q := 2) rfl ?_
    refine g_imul hC dX7_numberBehind_23 ?_
    refine g_iload_n hC dX7_numberBehind_24 rfl (q := 1) rfl ?_
    refine g_iload hC dX7_numberBehind_25 (q := 3) rfl ?_
    obtain ⟨r27, h27, h⟩ := oB_some h
    refine g_cS1 hC cs_X7_bellAt wd_745 ⟨Nat.le_of_ble_eq_true rfl, Nat.le_of_ble_eq_true rfl⟩ dX7_numberBehind_27 (As := [.int v2, .int v4]) (st := [.int ((10 : Int32) * v3)]) (ok_X7_bellAt hC.2.2.2.2.2.2.2.1  h27) rfl rfl (Nat.le_of_ble_eq_true rfl) ⟨Nat.zero_le _, Nat.zero_le _⟩ ?_
    refine g_iadd hC dX7_numberBehind_30 ?_
    refine g_istore_n hC dX7_numberBehind_31 rfl rfl (by decide) (lv' := [(3, .int (((10 : Int32) * v3) + r27)), (0, .ref (mB E + 62)), (2, .int v2), (4, .int v4)]) rfl ?_
    refine g_iinc hC dX7_numberBehind_32 rfl (q := 3) rfl (w := (v4 + (1 : Int32))) rfl (by decide) (lv' := [(4, .int (v4 + (1 : Int32))), (3, .int (((10 : Int32) * v3) + r27)), (0, .ref (mB E + 62)), (2, .int v2)]) rfl ?_
    refine g_goto hC dX7_numberBehind_35 (tgt := 11) (by decide) ?_
    refine g_lv [2, 3, 1, 0] rfl ?_
    exact hk11_ v2 (((10 : Int32) * v3) + r27) (v4 + (1 : Int32)) h
noncomputable def w_X7_numberBehind_11 (Fu : Nat) (I : mIT)  (N : Nat) (v2 : Int32) (v3 : Int32) (v4 : Int32) : Option (Int32) :=
  loopF (fun self (s : Int32 × Int32 × Int32) => b_X7_numberBehind_11 Fu I self s.1 s.2.1 s.2.2) N (v2, v3, v4)
theorem wo_X7_numberBehind_11 {X : mXT} {E : mEn} {Fu : Nat} {I : mIT} {R : mRT} {L : mLT}  (hC : mC X E mX7_numberBehind RX7 cX7_numberBehind) (hW : mWd R)   {out : Int32} (hE : mEd X E 0 0 (mSame (some (.int (out))) 106 1 I R L))  (N : Nat) (v2 : Int32) (v3 : Int32) (v4 : Int32) (h : w_X7_numberBehind_11 Fu I  N v2 v3 v4 = some out) : mG X E 11 [(0, .ref (mB E + 62)), (2, .int v2), (3, .int v3), (4, .int v4)] [] 106 1 I R L 0 0 :=
  loopF_ok (Gd := fun s : Int32 × Int32 × Int32 => mG X E 11 [(0, .ref (mB E + 62)), (2, .int s.1), (3, .int s.2.1), (4, .int s.2.2)] [] 106 1 I R L 0 0) (fun self hs s h => bo_X7_numberBehind_11 hC hW hE self (fun v2 v3 v4 h => hs (v2, v3, v4) h) s.1 s.2.1 s.2.2 h) N (v2, v3, v4) h
noncomputable def f_X7_numberBehind (Fu : Nat) (I : mIT) (v1 : Int32) : Option (Int32) :=
  oB (f_X7_rowBehind Fu I v1) (fun r2 => w_X7_numberBehind_11 Fu I Fu r2 (0 : Int32) (0 : Int32))
set_option maxRecDepth 20000 in
theorem ok_X7_numberBehind {l : Launch} {E : mEn} {Fu : Nat} {I : mIT} {R : mRT} {L : mLT} {v1 : Int32} (hst : l.stackTraces = false) (hW : mWd R)  {out : Int32} (h : f_X7_numberBehind Fu I v1 = some out) : mOk l E mX7_numberBehind [.ref (mB E + 62), .int v1] 106 1 I R L 0 0 (mSame (some (.int (out))) 106 1 I R L) := by
  refine mOk_of hst (by decide) (Nat.le_of_ble_eq_true rfl) (fun X hC hE _ => ?_)
  have hC : mC X E mX7_numberBehind RX7 cX7_numberBehind := hC
  show mG X E 0 [(0, .ref (mB E + 62)), (1, .int v1)] [] 106 1 I R L 0 0
  unfold f_X7_numberBehind at h
  refine g_aload_n hC dX7_numberBehind_0 rfl (q := 0) rfl ?_
  refine g_iload_n hC dX7_numberBehind_1 rfl (q := 1) rfl ?_
  obtain ⟨r2, h2, h⟩ := oB_some h
  refine g_cV1 hC cv_X7_rowBehind wd_1340 ⟨Nat.le_of_ble_eq_true rfl, Nat.le_of_ble_eq_true rfl⟩ rfl (by decide) dX7_numberBehind_2 (As := [.int v1]) (st := []) (ok_X7_rowBehind hC.2.2.2.2.2.2.2.1 hW h2) rfl rfl (Nat.le_of_ble_eq_true rfl) ⟨Nat.zero_le _, Nat.zero_le _⟩ ?_
  refine g_istore_n hC dX7_numberBehind_5 rfl rfl (by decide) (lv' := [(2, .int r2), (0, .ref (mB E + 62)), (1, .int v1)]) rfl ?_
  refine g_iconst hC dX7_numberBehind_6 (v := (0 : Int32)) (by decide) ?_
  refine g_istore_n hC dX7_numberBehind_7 rfl rfl (by decide) (lv' := [(3, .int (0 : Int32)), (2, .int r2), (0, .ref (mB E + 62)), (1, .int v1)]) rfl ?_
  refine g_iconst hC dX7_numberBehind_8 (v := (0 : Int32)) (by decide) ?_
  refine g_istore hC dX7_numberBehind_9 rfl (by decide) (lv' := [(4, .int (0 : Int32)), (3, .int (0 : Int32)), (2, .int r2), (0, .ref (mB E + 62)), (1, .int v1)]) rfl ?_
  refine g_lv [3, 2, 1, 0] rfl ?_
  exact wo_X7_numberBehind_11 hC hW hE Fu (r2) ((0 : Int32)) ((0 : Int32)) h
noncomputable def f_X11_row (Fu : Nat) (R : mRT) (I : mIT) (v1 : Int32) : Option ((Int32 × mIT) ⊕ (Nat × mIT)) :=
  oX (f_X11_checkChanges Fu R I v1) (fun r2 => oB (R 0 3) (fun p10 => oB (f_X7_load Fu I p10 40) (fun r17 => oB (f_X7_numberBehind Fu r17 v1) (fun r25 => some (.inl (r25, r17))))))
set_option maxRecDepth 20000 in
theorem oy_X11_row {l : Launch} {E : mEn} {Fu : Nat} {I : mIT} {R : mRT} {L : mLT} {v1 : Int32} (hst : l.stackTraces = false) (hW : mWd R)  {out : (Int32 × mIT) ⊕ (Nat × mIT)} (h : f_X11_row Fu R I v1 = some out) {mc ms : Nat} {post : Option Value → Nat → Nat → mIT → mRT → mLT → Prop} {px : String → Nat → Nat → mIT → mRT → mLT → Prop} (ho : Sum.elim (fun o : Int32 × mIT => post (some (.int (o.1))) 106 1 (o.2) R L) (fun q : Nat × mIT => 1 ≤ mc ∧ 6 ≤ ms ∧ px (xNm q.1) 106 1 q.2 R L) out) : mOx l E mX11_row [.ref (mB E + 0), .int v1] 106 1 I R L mc ms post px := by
  refine mOx_of hst (by decide) (Nat.le_of_ble_eq_true rfl) (fun X hC hE0 _ => ?_)
  have hE : mEx X E mc ms post px ∧ Sum.elim (fun o : Int32 × mIT => post (some (.int (o.1))) 106 1 (o.2) R L) (fun q : Nat × mIT => 1 ≤ mc ∧ 6 ≤ ms ∧ px (xNm q.1) 106 1 q.2 R L) out := ⟨hE0, ho⟩
  have hC : mC X E mX11_row RX11 cX11_row := hC
  show mG X E 0 [(0, .ref (mB E + 0)), (1, .int v1)] [] 106 1 I R L 0 0
  unfold f_X11_row at h
  refine g_aload_n hC dX11_row_0 rfl (q := 0) rfl ?_
  refine g_iload_n hC dX11_row_1 rfl (q := 1) rfl ?_
  rcases oX_some h with ⟨r2, h2, h⟩ | ⟨q2, h2, h⟩
  case inr =>
    subst h
    have hq : 1 ≤ mc ∧ 6 ≤ ms ∧ px (xNm q2.1) 106 1 q2.2 R L := hE.2
    exact g_cVz hC hE.1 cv_X11_checkChanges wd_1331 ⟨Nat.le_of_ble_eq_true rfl, Nat.le_of_ble_eq_true rfl⟩ rfl (by decide) dX11_row_2 (As := [.int v1]) (st := []) (ox_X11_checkChanges hC.2.2.2.2.2.2.2.1 hW h2) rfl rfl (Nat.le_of_ble_eq_true rfl) ⟨by omega, by omega⟩ hq.2.2
  refine g_cVy0 hC hE.1 cv_X11_checkChanges wd_1331 ⟨Nat.le_of_ble_eq_true rfl, Nat.le_of_ble_eq_true rfl⟩ rfl (by decide) dX11_row_2 (As := [.int v1]) (st := []) (oi_X11_checkChanges hC.2.2.2.2.2.2.2.1 hW h2) rfl rfl (Nat.le_of_ble_eq_true rfl) ⟨Nat.zero_le _, Nat.zero_le _⟩ ?_
  refine g_aload_n hC dX11_row_5 rfl (q := 0) rfl ?_
  refine g_getr hC fd_RX11_75 rfl (by decide) (C0 := _) (t0 := .int) (Or.inl rfl) (rr_0_12 hW.1) dX11_row_6 ?_
  refine g_aload_n hC dX11_row_9 rfl (q := 0) rfl ?_
  obtain ⟨p10, e10, h⟩ := oB_some h
  have hp10 : mO5 R p10 := ob5 hW.1 (hW.2.1 p10 e10)
  refine g_getr hC fd_RX11_27 rfl (by decide) (C0 := _) (t0 := .int) (Or.inl rfl) e10 dX11_row_10 ?_
  refine g_aload_n hC dX11_row_13 rfl (q := 0) rfl ?_
  refine g_getr hC fd_RX11_34 rfl (by decide) (C0 := _) (t0 := .int) (Or.inl rfl) (rr_0_4 hW.1) dX11_row_14 ?_
  obtain ⟨r17, h17, h⟩ := oB_some h
  refine g_cV0 hC cv_X7_load wd_724 ⟨Nat.le_of_ble_eq_true rfl, Nat.le_of_ble_eq_true rfl⟩ rfl (by decide) dX11_row_17 (As := [.ref (mB E + p10), .ref (mB E + 40)]) (st := []) (ok_X7_load hC.2.2.2.2.2.2.2.1 hW hp10 (ob_40 hW.1) h17) rfl rfl (Nat.le_of_ble_eq_true rfl) ⟨Nat.zero_le _, Nat.zero_le _⟩ ?_
  refine g_aload_n hC dX11_row_20 rfl (q := 0) rfl ?_
  refine g_getr hC fd_RX11_75 rfl (by decide) (C0 := _) (t0 := .int) (Or.inl rfl) (rr_0_12 hW.1) dX11_row_21 ?_
  refine g_iload_n hC dX11_row_24 rfl (q := 1) rfl ?_
  obtain ⟨r25, h25, h⟩ := oB_some h
  refine g_cV1 hC cv_X7_numberBehind wd_1336 ⟨Nat.le_of_ble_eq_true rfl, Nat.le_of_ble_eq_true rfl⟩ rfl (by decide) dX11_row_25 (As := [.int v1]) (st := []) (ok_X7_numberBehind hC.2.2.2.2.2.2.2.1 hW h25) rfl rfl (Nat.le_of_ble_eq_true rfl) ⟨Nat.zero_le _, Nat.zero_le _⟩ ?_
  cases h
  exact g_xiret hC hE.1 rfl dX11_row_28 (Nat.zero_le _) (Nat.zero_le _) hE.2
theorem oi_X11_row {l : Launch} {E : mEn} {Fu : Nat} {I : mIT} {R : mRT} {L : mLT} {v1 : Int32} (hst : l.stackTraces = false) (hW : mWd R)  {out : Int32 × mIT} (h : f_X11_row Fu R I v1 = some (.inl out)) : mOx l E mX11_row [.ref (mB E + 0), .int v1] 106 1 I R L 0 0 (mSame (some (.int (out.1))) 106 1 (out.2) R L) (fun _ _ _ _ _ _ => False) := oy_X11_row hst hW h ⟨rfl, rfl, rfl, rfl, rfl, rfl⟩
theorem ox_X11_row {l : Launch} {E : mEn} {Fu : Nat} {I : mIT} {R : mRT} {L : mLT} {v1 : Int32} (hst : l.stackTraces = false) (hW : mWd R)  {q : Nat × mIT} (h : f_X11_row Fu R I v1 = some (.inr q)) : mOx l E mX11_row [.ref (mB E + 0), .int v1] 106 1 I R L 1 6 (fun _ _ _ _ _ _ => False) (mXp q.1 106 1 q.2 R L) := oy_X11_row hst hW h ⟨Nat.le_refl _, Nat.le_refl _, rfl, rfl, rfl, rfl, rfl, rfl⟩
noncomputable def b_X11_scale_54 (Fu : Nat) (R : mRT) (k29_ : Int32 × Int32 × Int32 × Int32 × Int32 × Int32 × mIT → Option ((Int32 × mIT) ⊕ (Nat × mIT))) (v1 : Int32) (v2 : Int32) (v3 : Int32) (v4 : Int32) (v6 : Int32) (s0 : Int32) (I : mIT) : Option ((Int32 × mIT) ⊕ (Nat × mIT)) :=
  if s0 ≤ v3 then (k29_ (v1, v2, v3, v4, s0, (v6 + (1 : Int32)), I)) else (k29_ (v1, v2, s0, ((v6 - s0) + (1 : Int32)), s0, (v6 + (1 : Int32)), I))
set_option maxRecDepth 20000 in
theorem bo_X11_scale_54 {X : mXT} {E : mEn} {Fu : Nat} {R : mRT} {L : mLT}  (hC : mC X E mX11_scale RX11 cX11_scale) (hW : mWd R)   {out : (Int32 × mIT) ⊕ (Nat × mIT)} {mc ms : Nat} {post : Option Value → Nat → Nat → mIT → mRT → mLT → Prop} {px : String → Nat → Nat → mIT → mRT → mLT → Prop} (hE : mEx X E mc ms post px ∧ Sum.elim (fun o : Int32 × mIT => post (some (.int (o.1))) 106 1 (o.2) R L) (fun q : Nat × mIT => 1 ≤ mc ∧ 6 ≤ ms ∧ px (xNm q.1) 106 1 q.2 R L) out) (k29_ : Int32 × Int32 × Int32 × Int32 × Int32 × Int32 × mIT → Option ((Int32 × mIT) ⊕ (Nat × mIT))) (hk29_ : ∀ (v1 : Int32) (v2 : Int32) (v3 : Int32) (v4 : Int32) (v5 : Int32) (v6 : Int32) (I : mIT),  k29_ (v1, v2, v3, v4, v5, v6, I) = some out → mG X E 29 [(1, .int v1), (2, .int v2), (3, .int v3), (4, .int v4), (5, .int v5), (6, .int v6)] [] 106 1 I R L 0 0) (v1 : Int32) (v2 : Int32) (v3 : Int32) (v4 : Int32) (v6 : Int32) (s0 : Int32) (I : mIT) (h : b_X11_scale_54 Fu R k29_ v1 v2 v3 v4 v6 s0 I = some out) : mG X E 54 [(1, .int v1), (2, .int v2), (3, .int v3), (4, .int v4), (6, .int v6)] [.int s0] 106 1 I R L 0 0 := by
  unfold b_X11_scale_54 at h
  refine g_istore hC dX11_scale_54 rfl (by decide) (lv' := [(5, .int s0), (1, .int v1), (2, .int v2), (3, .int v3), (4, .int v4), (6, .int v6)]) rfl ?_
  refine g_iload hC dX11_scale_56 (q := 0) rfl ?_
  refine g_iload_n hC dX11_scale_58 rfl (q := 3) rfl ?_
  refine g_ic_le hC dX11_scale_59 (tgt := 74) (by decide) (fun c59 => ?_) (fun c59 => ?_)
  · replace h := (if_pos c59).symm.trans h
    refine g_iinc hC dX11_scale_74 rfl (q := 5) rfl (w := (v6 + (1 : Int32))) rfl (by decide) (lv' := [(6, .int (v6 + (1 : Int32))), (5, .int s0), (1, .int v1), (2, .int v2), (3, .int v3), (4, .int v4)]) rfl ?_
    refine g_goto hC dX11_scale_77 (tgt := 29) (by decide) ?_
    refine g_lv [2, 3, 4, 5, 1, 0] rfl ?_
    exact hk29_ v1 v2 v3 v4 s0 (v6 + (1 : Int32)) I h
  · replace h := (if_neg c59).symm.trans h
    refine g_iload hC dX11_scale_62 (q := 0) rfl ?_
    refine g_istore_n hC dX11_scale_64 rfl rfl (by decide) (lv' := [(3, .int s0), (5, .int s0), (1, .int v1), (2, .int v2), (4, .int v4), (6, .int v6)]) rfl ?_
    refine g_iload hC dX11_scale_65 (q := 5) rfl ?_
    refine g_iload hC dX11_scale_67 (q := 1) rfl ?_
    refine g_isub hC dX11_scale_69 ?_
    refine g_iconst hC dX11_scale_70 (v := (1 : Int32)) (by decide) ?_
    refine g_iadd hC dX11_scale_71 ?_
    refine g_istore hC dX11_scale_72 rfl (by decide) (lv' := [(4, .int ((v6 - s0) + (1 : Int32))), (3, .int s0), (5, .int s0), (1, .int v1), (2, .int v2), (6, .int v6)]) rfl ?_
    refine g_iinc hC dX11_scale_74 rfl (q := 5) rfl (w := (v6 + (1 : Int32))) rfl (by decide) (lv' := [(6, .int (v6 + (1 : Int32))), (4, .int ((v6 - s0) + (1 : Int32))), (3, .int s0), (5, .int s0), (1, .int v1), (2, .int v2)]) rfl ?_
    refine g_goto hC dX11_scale_77 (tgt := 29) (by decide) ?_
    refine g_lv [4, 5, 2, 1, 3, 0] rfl ?_
    exact hk29_ v1 v2 s0 ((v6 - s0) + (1 : Int32)) s0 (v6 + (1 : Int32)) I h
noncomputable def b_X11_scale_29 (Fu : Nat) (R : mRT) (k29_ : Int32 × Int32 × Int32 × Int32 × Int32 × Int32 × mIT → Option ((Int32 × mIT) ⊕ (Nat × mIT))) (v1 : Int32) (v2 : Int32) (v3 : Int32) (v4 : Int32) (v5 : Int32) (v6 : Int32) (I : mIT) : Option ((Int32 × mIT) ⊕ (Nat × mIT)) :=
  if (16 : Int32) ≤ v6 then (if v1 = 0 then (some (.inl (v3, I))) else (some (.inl (v4, I)))) else (if ((v2 >>> (v6 &&& 31)) &&& (1 : Int32)) = (1 : Int32) then (b_X11_scale_54 Fu R k29_ v1 v2 v3 v4 v6 (v5 + (1 : Int32)) I) else (b_X11_scale_54 Fu R k29_ v1 v2 v3 v4 v6 (0 : Int32) I))
set_option maxRecDepth 20000 in
theorem bo_X11_scale_29 {X : mXT} {E : mEn} {Fu : Nat} {R : mRT} {L : mLT}  (hC : mC X E mX11_scale RX11 cX11_scale) (hW : mWd R)   {out : (Int32 × mIT) ⊕ (Nat × mIT)} {mc ms : Nat} {post : Option Value → Nat → Nat → mIT → mRT → mLT → Prop} {px : String → Nat → Nat → mIT → mRT → mLT → Prop} (hE : mEx X E mc ms post px ∧ Sum.elim (fun o : Int32 × mIT => post (some (.int (o.1))) 106 1 (o.2) R L) (fun q : Nat × mIT => 1 ≤ mc ∧ 6 ≤ ms ∧ px (xNm q.1) 106 1 q.2 R L) out) (k29_ : Int32 × Int32 × Int32 × Int32 × Int32 × Int32 × mIT → Option ((Int32 × mIT) ⊕ (Nat × mIT))) (hk29_ : ∀ (v1 : Int32) (v2 : Int32) (v3 : Int32) (v4 : Int32) (v5 : Int32) (v6 : Int32) (I : mIT),  k29_ (v1, v2, v3, v4, v5, v6, I) = some out → mG X E 29 [(1, .int v1), (2, .int v2), (3, .int v3), (4, .int v4), (5, .int v5), (6, .int v6)] [] 106 1 I R L 0 0) (v1 : Int32) (v2 : Int32) (v3 : Int32) (v4 : Int32) (v5 : Int32) (v6 : Int32) (I : mIT) (h : b_X11_scale_29 Fu R k29_ v1 v2 v3 v4 v5 v6 I = some out) : mG X E 29 [(1, .int v1), (2, .int v2), (3, .int v3), (4, .int v4), (5, .int v5), (6, .int v6)] [] 106 1 I R L 0 0 := by
  unfold b_X11_scale_29 at h
  refine g_iload hC dX11_scale_29 (q := 5) rfl ?_
  refine g_bipush hC dX11_scale_31 (v := (16 : Int32)) (by decide) ?_
  refine g_ic_ge hC dX11_scale_33 (tgt := 80) (by decide) (fun c33 => ?_) (fun c33 => ?_)
  · replace h := (if_pos c33).symm.trans h
    refine g_iload_n hC dX11_scale_80 rfl (q := 0) rfl ?_
    refine g_if_ne hC dX11_scale_81 (tgt := 88) (by decide) (fun c81 => ?_) (fun c81 => ?_)
    · replace h := (if_neg c81).symm.trans h
      refine g_iload hC dX11_scale_88 (q := 3) rfl ?_
      cases h
      exact g_xiret hC hE.1 rfl dX11_scale_90 (Nat.zero_le _) (Nat.zero_le _) hE.2
    · replace h := (if_pos c81).symm.trans h
      refine g_iload_n hC dX11_scale_84 rfl (q := 2) rfl ?_
      refine g_goto hC dX11_scale_85 (tgt := 90) (by decide) ?_
      cases h
      exact g_xiret hC hE.1 rfl dX11_scale_90 (Nat.zero_le _) (Nat.zero_le _) hE.2
  · replace h := (if_neg c33).symm.trans h
    refine g_iload_n hC dX11_scale_36 rfl (q := 1) rfl ?_
    refine g_iload hC dX11_scale_37 (q := 5) rfl ?_
    refine g_ishr hC dX11_scale_39 ?_
    refine g_iconst hC dX11_scale_40 (v := (1 : Int32)) (by decide) ?_
    refine g_iand hC dX11_scale_41 ?_
    refine g_iconst hC dX11_scale_42 (v := (1 : Int32)) (by decide) ?_
    refine g_ic_ne hC dX11_scale_43 (tgt := 53) (by decide) (fun c43 => ?_) (fun c43 => ?_)
    · replace h := (if_neg c43).symm.trans h
      refine g_iconst hC dX11_scale_53 (v := (0 : Int32)) (by decide) ?_
      refine g_lv [0, 1, 2, 3, 5] rfl ?_
      exact bo_X11_scale_54 hC hW hE k29_ hk29_ (v1) (v2) (v3) (v4) (v6) ((0 : Int32)) (I) h
    · replace h := (if_pos c43).symm.trans h
      refine g_iload hC dX11_scale_46 (q := 4) rfl ?_
      refine g_iconst hC dX11_scale_48 (v := (1 : Int32)) (by decide) ?_
      refine g_iadd hC dX11_scale_49 ?_
      refine g_goto hC dX11_scale_50 (tgt := 54) (by decide) ?_
      refine g_lv [0, 1, 2, 3, 5] rfl ?_
      exact bo_X11_scale_54 hC hW hE k29_ hk29_ (v1) (v2) (v3) (v4) (v6) ((v5 + (1 : Int32))) (I) h
noncomputable def w_X11_scale_29 (Fu : Nat) (R : mRT)  (N : Nat) (v1 : Int32) (v2 : Int32) (v3 : Int32) (v4 : Int32) (v5 : Int32) (v6 : Int32) (I : mIT) : Option ((Int32 × mIT) ⊕ (Nat × mIT)) :=
  loopF (fun self (s : Int32 × Int32 × Int32 × Int32 × Int32 × Int32 × mIT) => b_X11_scale_29 Fu R self s.1 s.2.1 s.2.2.1 s.2.2.2.1 s.2.2.2.2.1 s.2.2.2.2.2.1 s.2.2.2.2.2.2) N (v1, v2, v3, v4, v5, v6, I)
theorem wo_X11_scale_29 {X : mXT} {E : mEn} {Fu : Nat} {R : mRT} {L : mLT}  (hC : mC X E mX11_scale RX11 cX11_scale) (hW : mWd R)   {out : (Int32 × mIT) ⊕ (Nat × mIT)} {mc ms : Nat} {post : Option Value → Nat → Nat → mIT → mRT → mLT → Prop} {px : String → Nat → Nat → mIT → mRT → mLT → Prop} (hE : mEx X E mc ms post px ∧ Sum.elim (fun o : Int32 × mIT => post (some (.int (o.1))) 106 1 (o.2) R L) (fun q : Nat × mIT => 1 ≤ mc ∧ 6 ≤ ms ∧ px (xNm q.1) 106 1 q.2 R L) out)  (N : Nat) (v1 : Int32) (v2 : Int32) (v3 : Int32) (v4 : Int32) (v5 : Int32) (v6 : Int32) (I : mIT) (h : w_X11_scale_29 Fu R  N v1 v2 v3 v4 v5 v6 I = some out) : mG X E 29 [(1, .int v1), (2, .int v2), (3, .int v3), (4, .int v4), (5, .int v5), (6, .int v6)] [] 106 1 I R L 0 0 :=
  loopF_ok (Gd := fun s : Int32 × Int32 × Int32 × Int32 × Int32 × Int32 × mIT => mG X E 29 [(1, .int s.1), (2, .int s.2.1), (3, .int s.2.2.1), (4, .int s.2.2.2.1), (5, .int s.2.2.2.2.1), (6, .int s.2.2.2.2.2.1)] [] 106 1 s.2.2.2.2.2.2 R L 0 0) (fun self hs s h => bo_X11_scale_29 hC hW hE self (fun v1 v2 v3 v4 v5 v6 I h => hs (v1, v2, v3, v4, v5, v6, I) h) s.1 s.2.1 s.2.2.1 s.2.2.2.1 s.2.2.2.2.1 s.2.2.2.2.2.1 s.2.2.2.2.2.2 h) N (v1, v2, v3, v4, v5, v6, I) h
noncomputable def f_X11_scale (Fu : Nat) (R : mRT) (I : mIT) (v1 : Int32) : Option ((Int32 × mIT) ⊕ (Nat × mIT)) :=
  oX (f_X11_checkTwo Fu I v1) (fun r2 => oB (f_X11_soundingNow Fu R I) (fun r11 => oB (f_X1_noteBits Fu r11.2 (0 : Int32) r11.1) (fun r14 => w_X11_scale_29 Fu R Fu v1 r14 (0 : Int32) (-1 : Int32) (0 : Int32) (0 : Int32) r11.2)))
set_option maxRecDepth 20000 in
theorem oy_X11_scale {l : Launch} {E : mEn} {Fu : Nat} {I : mIT} {R : mRT} {L : mLT} {v1 : Int32} (hst : l.stackTraces = false) (hW : mWd R)  {out : (Int32 × mIT) ⊕ (Nat × mIT)} (h : f_X11_scale Fu R I v1 = some out) {mc ms : Nat} {post : Option Value → Nat → Nat → mIT → mRT → mLT → Prop} {px : String → Nat → Nat → mIT → mRT → mLT → Prop} (ho : Sum.elim (fun o : Int32 × mIT => post (some (.int (o.1))) 106 1 (o.2) R L) (fun q : Nat × mIT => 1 ≤ mc ∧ 6 ≤ ms ∧ px (xNm q.1) 106 1 q.2 R L) out) : mOx l E mX11_scale [.ref (mB E + 0), .int v1] 106 1 I R L mc ms post px := by
  refine mOx_of hst (by decide) (Nat.le_of_ble_eq_true rfl) (fun X hC hE0 _ => ?_)
  have hE : mEx X E mc ms post px ∧ Sum.elim (fun o : Int32 × mIT => post (some (.int (o.1))) 106 1 (o.2) R L) (fun q : Nat × mIT => 1 ≤ mc ∧ 6 ≤ ms ∧ px (xNm q.1) 106 1 q.2 R L) out := ⟨hE0, ho⟩
  have hC : mC X E mX11_scale RX11 cX11_scale := hC
  show mG X E 0 [(0, .ref (mB E + 0)), (1, .int v1)] [] 106 1 I R L 0 0
  unfold f_X11_scale at h
  refine g_aload_n hC dX11_scale_0 rfl (q := 0) rfl ?_
  refine g_iload_n hC dX11_scale_1 rfl (q := 1) rfl ?_
  rcases oX_some h with ⟨r2, h2, h⟩ | ⟨q2, h2, h⟩
  case inr =>
    subst h
    have hq : 1 ≤ mc ∧ 6 ≤ ms ∧ px (xNm q2.1) 106 1 q2.2 R L := hE.2
    exact g_cVz hC hE.1 cv_X11_checkTwo wd_1445 ⟨Nat.le_of_ble_eq_true rfl, Nat.le_of_ble_eq_true rfl⟩ rfl (by decide) dX11_scale_2 (As := [.int v1]) (st := []) (ox_X11_checkTwo hC.2.2.2.2.2.2.2.1 hW h2) rfl rfl (Nat.le_of_ble_eq_true rfl) ⟨by omega, by omega⟩ hq.2.2
  refine g_cVy0 hC hE.1 cv_X11_checkTwo wd_1445 ⟨Nat.le_of_ble_eq_true rfl, Nat.le_of_ble_eq_true rfl⟩ rfl (by decide) dX11_scale_2 (As := [.int v1]) (st := []) (oi_X11_checkTwo hC.2.2.2.2.2.2.2.1 hW h2) rfl rfl (Nat.le_of_ble_eq_true rfl) ⟨Nat.zero_le _, Nat.zero_le _⟩ ?_
  refine g_aload_n hC dX11_scale_5 rfl (q := 0) rfl ?_
  refine g_getr hC fd_RX11_68 rfl (by decide) (C0 := _) (t0 := .int) (Or.inl rfl) (rr_0_11 hW.1) dX11_scale_6 ?_
  refine g_iconst hC dX11_scale_9 (v := (0 : Int32)) (by decide) ?_
  refine g_aload_n hC dX11_scale_10 rfl (q := 0) rfl ?_
  obtain ⟨r11, h11, h⟩ := oB_some h
  refine g_cV1 hC cv_X11_soundingNow wd_776 ⟨Nat.le_of_ble_eq_true rfl, Nat.le_of_ble_eq_true rfl⟩ rfl (by decide) dX11_scale_11 (As := []) (st := [.int (0 : Int32), .ref (mB E + 56)]) (ok_X11_soundingNow hC.2.2.2.2.2.2.2.1 hW h11) rfl rfl (Nat.le_of_ble_eq_true rfl) ⟨Nat.zero_le _, Nat.zero_le _⟩ ?_
  obtain ⟨r14, h14, h⟩ := oB_some h
  refine g_cV1 hC cv_X1_noteBits wd_699 ⟨Nat.le_of_ble_eq_true rfl, Nat.le_of_ble_eq_true rfl⟩ rfl (by decide) dX11_scale_14 (As := [.int (0 : Int32), .int r11.1]) (st := []) (ok_X1_noteBits hC.2.2.2.2.2.2.2.1 hW h14) rfl rfl (Nat.le_of_ble_eq_true rfl) ⟨Nat.zero_le _, Nat.zero_le _⟩ ?_
  refine g_istore_n hC dX11_scale_17 rfl rfl (by decide) (lv' := [(2, .int r14), (0, .ref (mB E + 0)), (1, .int v1)]) rfl ?_
  refine g_iconst hC dX11_scale_18 (v := (0 : Int32)) (by decide) ?_
  refine g_istore_n hC dX11_scale_19 rfl rfl (by decide) (lv' := [(3, .int (0 : Int32)), (2, .int r14), (0, .ref (mB E + 0)), (1, .int v1)]) rfl ?_
  refine g_iconst hC dX11_scale_20 (v := (-1 : Int32)) (by decide) ?_
  refine g_istore hC dX11_scale_21 rfl (by decide) (lv' := [(4, .int (-1 : Int32)), (3, .int (0 : Int32)), (2, .int r14), (0, .ref (mB E + 0)), (1, .int v1)]) rfl ?_
  refine g_iconst hC dX11_scale_23 (v := (0 : Int32)) (by decide) ?_
  refine g_istore hC dX11_scale_24 rfl (by decide) (lv' := [(5, .int (0 : Int32)), (4, .int (-1 : Int32)), (3, .int (0 : Int32)), (2, .int r14), (0, .ref (mB E + 0)), (1, .int v1)]) rfl ?_
  refine g_iconst hC dX11_scale_26 (v := (0 : Int32)) (by decide) ?_
  refine g_istore hC dX11_scale_27 rfl (by decide) (lv' := [(6, .int (0 : Int32)), (5, .int (0 : Int32)), (4, .int (-1 : Int32)), (3, .int (0 : Int32)), (2, .int r14), (0, .ref (mB E + 0)), (1, .int v1)]) rfl ?_
  refine g_lv [6, 4, 3, 2, 1, 0] rfl ?_
  exact wo_X11_scale_29 hC hW hE Fu (v1) (r14) ((0 : Int32)) ((-1 : Int32)) ((0 : Int32)) ((0 : Int32)) (r11.2) h
theorem oi_X11_scale {l : Launch} {E : mEn} {Fu : Nat} {I : mIT} {R : mRT} {L : mLT} {v1 : Int32} (hst : l.stackTraces = false) (hW : mWd R)  {out : Int32 × mIT} (h : f_X11_scale Fu R I v1 = some (.inl out)) : mOx l E mX11_scale [.ref (mB E + 0), .int v1] 106 1 I R L 0 0 (mSame (some (.int (out.1))) 106 1 (out.2) R L) (fun _ _ _ _ _ _ => False) := oy_X11_scale hst hW h ⟨rfl, rfl, rfl, rfl, rfl, rfl⟩
theorem ox_X11_scale {l : Launch} {E : mEn} {Fu : Nat} {I : mIT} {R : mRT} {L : mLT} {v1 : Int32} (hst : l.stackTraces = false) (hW : mWd R)  {q : Nat × mIT} (h : f_X11_scale Fu R I v1 = some (.inr q)) : mOx l E mX11_scale [.ref (mB E + 0), .int v1] 106 1 I R L 1 6 (fun _ _ _ _ _ _ => False) (mXp q.1 106 1 q.2 R L) := oy_X11_scale hst hW h ⟨Nat.le_refl _, Nat.le_refl _, rfl, rfl, rfl, rfl, rfl, rfl⟩
noncomputable def b_X11_soft_24 (Fu : Nat) (R : mRT) (k24_ : Int32 × Int32 × Int32 × mIT → Option (Int32 × mIT)) (v1 : Int32) (v2 : Int32) (v3 : Int32) (I : mIT) : Option (Int32 × mIT) :=
  oB (R 0 3) (fun p26 => if (I p26 3) ≤ v3 then (some (v1, I)) else (oB (f_X11_goingOf Fu I v3) (fun r37 => if r37 = (-1 : Int32) then (k24_ (v1, v2, (v3 + (1 : Int32)), I)) else (if v2 ≤ r37 then (k24_ (v1, v2, (v3 + (1 : Int32)), I)) else (k24_ (v3, r37, (v3 + (1 : Int32)), I))))))
set_option maxRecDepth 20000 in
theorem bo_X11_soft_24 {X : mXT} {E : mEn} {Fu : Nat} {R : mRT} {L : mLT}  (hC : mC X E mX11_soft RX11 cX11_soft) (hW : mWd R)   {out : Int32 × mIT} (hE : mEd X E 0 0 (mSame (some (.int (out.1))) 106 1 (out.2) R L)) (k24_ : Int32 × Int32 × Int32 × mIT → Option (Int32 × mIT)) (hk24_ : ∀ (v1 : Int32) (v2 : Int32) (v3 : Int32) (I : mIT),  k24_ (v1, v2, v3, I) = some out → mG X E 24 [(0, .ref (mB E + 0)), (1, .int v1), (2, .int v2), (3, .int v3)] [] 106 1 I R L 0 0) (v1 : Int32) (v2 : Int32) (v3 : Int32) (I : mIT) (h : b_X11_soft_24 Fu R k24_ v1 v2 v3 I = some out) : mG X E 24 [(0, .ref (mB E + 0)), (1, .int v1), (2, .int v2), (3, .int v3)] [] 106 1 I R L 0 0 := by
  unfold b_X11_soft_24 at h
  refine g_iload_n hC dX11_soft_24 rfl (q := 3) rfl ?_
  refine g_aload_n hC dX11_soft_25 rfl (q := 0) rfl ?_
  obtain ⟨p26, e26, h⟩ := oB_some h
  have hp26 : mO5 R p26 := ob5 hW.1 (hW.2.1 p26 e26)
  refine g_getr hC fd_RX11_27 rfl (by decide) (C0 := _) (t0 := .int) (Or.inl rfl) e26 dX11_soft_26 ?_
  refine g_geti hC fd_RX11_140 hp26.2.1 hp26.1 (Or.inl rfl) dX11_soft_29 ?_
  refine g_ic_ge hC dX11_soft_32 (tgt := 65) (by decide) (fun c32 => ?_) (fun c32 => ?_)
  · replace h := (if_pos c32).symm.trans h
    refine g_iload_n hC dX11_soft_65 rfl (q := 1) rfl ?_
    cases h
    exact g_iret hC hE rfl dX11_soft_66 (Nat.zero_le _) (Nat.zero_le _) ⟨rfl, rfl, rfl, rfl, rfl, rfl⟩
  · replace h := (if_neg c32).symm.trans h
    refine g_aload_n hC dX11_soft_35 rfl (q := 0) rfl ?_
    refine g_iload_n hC dX11_soft_36 rfl (q := 3) rfl ?_
    obtain ⟨r37, h37, h⟩ := oB_some h
    refine g_cV1 hC cv_X11_goingOf wd_715 ⟨Nat.le_of_ble_eq_true rfl, Nat.le_of_ble_eq_true rfl⟩ rfl (by decide) dX11_soft_37 (As := [.int v3]) (st := []) (ok_X11_goingOf hC.2.2.2.2.2.2.2.1 hW h37) rfl rfl (Nat.le_of_ble_eq_true rfl) ⟨Nat.zero_le _, Nat.zero_le _⟩ ?_
    refine g_istore hC dX11_soft_40 rfl (by decide) (lv' := [(4, .int r37), (0, .ref (mB E + 0)), (1, .int v1), (2, .int v2), (3, .int v3)]) rfl ?_
    refine g_iload hC dX11_soft_42 (q := 0) rfl ?_
    refine g_iconst hC dX11_soft_44 (v := (-1 : Int32)) (by decide) ?_
    refine g_ic_eq hC dX11_soft_45 (tgt := 59) (by decide) (fun c45 => ?_) (fun c45 => ?_)
    · replace h := (if_pos c45).symm.trans h
      refine g_iinc hC dX11_soft_59 rfl (q := 4) rfl (w := (v3 + (1 : Int32))) rfl (by decide) (lv' := [(3, .int (v3 + (1 : Int32))), (4, .int r37), (0, .ref (mB E + 0)), (1, .int v1), (2, .int v2)]) rfl ?_
      refine g_goto hC dX11_soft_62 (tgt := 24) (by decide) ?_
      refine g_lv [2, 3, 4, 0] rfl ?_
      exact hk24_ v1 v2 (v3 + (1 : Int32)) I h
    · replace h := (if_neg c45).symm.trans h
      refine g_iload hC dX11_soft_48 (q := 0) rfl ?_
      refine g_iload_n hC dX11_soft_50 rfl (q := 3) rfl ?_
      refine g_ic_ge hC dX11_soft_51 (tgt := 59) (by decide) (fun c51 => ?_) (fun c51 => ?_)
      · replace h := (if_pos c51).symm.trans h
        refine g_iinc hC dX11_soft_59 rfl (q := 4) rfl (w := (v3 + (1 : Int32))) rfl (by decide) (lv' := [(3, .int (v3 + (1 : Int32))), (4, .int r37), (0, .ref (mB E + 0)), (1, .int v1), (2, .int v2)]) rfl ?_
        refine g_goto hC dX11_soft_62 (tgt := 24) (by decide) ?_
        refine g_lv [2, 3, 4, 0] rfl ?_
        exact hk24_ v1 v2 (v3 + (1 : Int32)) I h
      · replace h := (if_neg c51).symm.trans h
        refine g_iload hC dX11_soft_54 (q := 0) rfl ?_
        refine g_istore_n hC dX11_soft_56 rfl rfl (by decide) (lv' := [(2, .int r37), (4, .int r37), (0, .ref (mB E + 0)), (1, .int v1), (3, .int v3)]) rfl ?_
        refine g_iload_n hC dX11_soft_57 rfl (q := 4) rfl ?_
        refine g_istore_n hC dX11_soft_58 rfl rfl (by decide) (lv' := [(1, .int v3), (2, .int r37), (4, .int r37), (0, .ref (mB E + 0)), (3, .int v3)]) rfl ?_
        refine g_iinc hC dX11_soft_59 rfl (q := 4) rfl (w := (v3 + (1 : Int32))) rfl (by decide) (lv' := [(3, .int (v3 + (1 : Int32))), (1, .int v3), (2, .int r37), (4, .int r37), (0, .ref (mB E + 0))]) rfl ?_
        refine g_goto hC dX11_soft_62 (tgt := 24) (by decide) ?_
        refine g_lv [4, 1, 2, 0] rfl ?_
        exact hk24_ v3 r37 (v3 + (1 : Int32)) I h
noncomputable def w_X11_soft_24 (Fu : Nat) (R : mRT)  (N : Nat) (v1 : Int32) (v2 : Int32) (v3 : Int32) (I : mIT) : Option (Int32 × mIT) :=
  loopF (fun self (s : Int32 × Int32 × Int32 × mIT) => b_X11_soft_24 Fu R self s.1 s.2.1 s.2.2.1 s.2.2.2) N (v1, v2, v3, I)
theorem wo_X11_soft_24 {X : mXT} {E : mEn} {Fu : Nat} {R : mRT} {L : mLT}  (hC : mC X E mX11_soft RX11 cX11_soft) (hW : mWd R)   {out : Int32 × mIT} (hE : mEd X E 0 0 (mSame (some (.int (out.1))) 106 1 (out.2) R L))  (N : Nat) (v1 : Int32) (v2 : Int32) (v3 : Int32) (I : mIT) (h : w_X11_soft_24 Fu R  N v1 v2 v3 I = some out) : mG X E 24 [(0, .ref (mB E + 0)), (1, .int v1), (2, .int v2), (3, .int v3)] [] 106 1 I R L 0 0 :=
  loopF_ok (Gd := fun s : Int32 × Int32 × Int32 × mIT => mG X E 24 [(0, .ref (mB E + 0)), (1, .int s.1), (2, .int s.2.1), (3, .int s.2.2.1)] [] 106 1 s.2.2.2 R L 0 0) (fun self hs s h => bo_X11_soft_24 hC hW hE self (fun v1 v2 v3 I h => hs (v1, v2, v3, I) h) s.1 s.2.1 s.2.2.1 s.2.2.2 h) N (v1, v2, v3, I) h
noncomputable def f_X11_soft (Fu : Nat) (R : mRT) (I : mIT)  : Option (Int32 × mIT) :=
  oB (R 0 3) (fun p5 => oB (f_X1_layTo Fu I p5 40 (60 : Int32)) (fun r14 => w_X11_soft_24 Fu R Fu (-1 : Int32) (61 : Int32) (0 : Int32) r14))
set_option maxRecDepth 20000 in
theorem ok_X11_soft {l : Launch} {E : mEn} {Fu : Nat} {I : mIT} {R : mRT} {L : mLT}  (hst : l.stackTraces = false) (hW : mWd R)  {out : Int32 × mIT} (h : f_X11_soft Fu R I  = some out) : mOk l E mX11_soft [.ref (mB E + 0)] 106 1 I R L 0 0 (mSame (some (.int (out.1))) 106 1 (out.2) R L) := by
  refine mOk_of hst (by decide) (Nat.le_of_ble_eq_true rfl) (fun X hC hE _ => ?_)
  have hC : mC X E mX11_soft RX11 cX11_soft := hC
  show mG X E 0 [(0, .ref (mB E + 0))] [] 106 1 I R L 0 0
  unfold f_X11_soft at h
  refine g_aload_n hC dX11_soft_0 rfl (q := 0) rfl ?_
  refine g_getr hC fd_RX11_68 rfl (by decide) (C0 := _) (t0 := .int) (Or.inl rfl) (rr_0_11 hW.1) dX11_soft_1 ?_
  refine g_aload_n hC dX11_soft_4 rfl (q := 0) rfl ?_
  obtain ⟨p5, e5, h⟩ := oB_some h
  have hp5 : mO5 R p5 := ob5 hW.1 (hW.2.1 p5 e5)
  refine g_getr hC fd_RX11_27 rfl (by decide) (C0 := _) (t0 := .int) (Or.inl rfl) e5 dX11_soft_5 ?_
  refine g_aload_n hC dX11_soft_8 rfl (q := 0) rfl ?_
  refine g_getr hC fd_RX11_34 rfl (by decide) (C0 := _) (t0 := .int) (Or.inl rfl) (rr_0_4 hW.1) dX11_soft_9 ?_
  refine g_bipush hC dX11_soft_12 (v := (60 : Int32)) (by decide) ?_
  obtain ⟨r14, h14, h⟩ := oB_some h
  refine g_cV0 hC cv_X1_layTo wd_664 ⟨Nat.le_of_ble_eq_true rfl, Nat.le_of_ble_eq_true rfl⟩ rfl (by decide) dX11_soft_14 (As := [.ref (mB E + p5), .ref (mB E + 40), .int (60 : Int32)]) (st := []) (ok_X1_layTo hC.2.2.2.2.2.2.2.1 hW hp5 (ob_40 hW.1) h14) rfl rfl (Nat.le_of_ble_eq_true rfl) ⟨Nat.zero_le _, Nat.zero_le _⟩ ?_
  refine g_iconst hC dX11_soft_17 (v := (-1 : Int32)) (by decide) ?_
  refine g_istore_n hC dX11_soft_18 rfl rfl (by decide) (lv' := [(1, .int (-1 : Int32)), (0, .ref (mB E + 0))]) rfl ?_
  refine g_bipush hC dX11_soft_19 (v := (61 : Int32)) (by decide) ?_
  refine g_istore_n hC dX11_soft_21 rfl rfl (by decide) (lv' := [(2, .int (61 : Int32)), (1, .int (-1 : Int32)), (0, .ref (mB E + 0))]) rfl ?_
  refine g_iconst hC dX11_soft_22 (v := (0 : Int32)) (by decide) ?_
  refine g_istore_n hC dX11_soft_23 rfl rfl (by decide) (lv' := [(3, .int (0 : Int32)), (2, .int (61 : Int32)), (1, .int (-1 : Int32)), (0, .ref (mB E + 0))]) rfl ?_
  refine g_lv [3, 2, 1, 0] rfl ?_
  exact wo_X11_soft_24 hC hW hE Fu ((-1 : Int32)) ((61 : Int32)) ((0 : Int32)) (r14) h
noncomputable def b_X11_spare_9 (Fu : Nat) (R : mRT) (k9_ : Int32 × Int32 × Int32 × mIT → Option (Int32 × mIT)) (v1 : Int32) (v2 : Int32) (v3 : Int32) (I : mIT) : Option (Int32 × mIT) :=
  oB (R 0 3) (fun p11 => if (I p11 3) ≤ v3 then (some (v2, I)) else (if (v1 &&& ((1 : Int32) <<< (v3 &&& 31))) = 0 then (k9_ (v1, v2, (v3 + (1 : Int32)), I)) else (oB (R 0 3) (fun p33 => oB (f_X1_noteBits Fu I (0 : Int32) (v1 &&& (((1 : Int32) <<< (v3 &&& 31)) ^^^ (-1 : Int32)))) (fun r47 => oB (f_X5_isTuneIn Fu I p33 r47) (fun r50 => if r50 = 0 then (k9_ (v1, v2, (v3 + (1 : Int32)), I)) else (k9_ (v1, (v2 ||| ((1 : Int32) <<< (v3 &&& 31))), (v3 + (1 : Int32)), I))))))))
set_option maxRecDepth 20000 in
theorem bo_X11_spare_9 {X : mXT} {E : mEn} {Fu : Nat} {R : mRT} {L : mLT}  (hC : mC X E mX11_spare RX11 cX11_spare) (hW : mWd R)   {out : Int32 × mIT} (hE : mEd X E 0 0 (mSame (some (.int (out.1))) 106 1 (out.2) R L)) (k9_ : Int32 × Int32 × Int32 × mIT → Option (Int32 × mIT)) (hk9_ : ∀ (v1 : Int32) (v2 : Int32) (v3 : Int32) (I : mIT),  k9_ (v1, v2, v3, I) = some out → mG X E 9 [(0, .ref (mB E + 0)), (1, .int v1), (2, .int v2), (3, .int v3)] [] 106 1 I R L 0 0) (v1 : Int32) (v2 : Int32) (v3 : Int32) (I : mIT) (h : b_X11_spare_9 Fu R k9_ v1 v2 v3 I = some out) : mG X E 9 [(0, .ref (mB E + 0)), (1, .int v1), (2, .int v2), (3, .int v3)] [] 106 1 I R L 0 0 := by
  unfold b_X11_spare_9 at h
  refine g_iload_n hC dX11_spare_9 rfl (q := 3) rfl ?_
  refine g_aload_n hC dX11_spare_10 rfl (q := 0) rfl ?_
  obtain ⟨p11, e11, h⟩ := oB_some h
  have hp11 : mO5 R p11 := ob5 hW.1 (hW.2.1 p11 e11)
  refine g_getr hC fd_RX11_27 rfl (by decide) (C0 := _) (t0 := .int) (Or.inl rfl) e11 dX11_spare_11 ?_
  refine g_geti hC fd_RX11_140 hp11.2.1 hp11.1 (Or.inl rfl) dX11_spare_14 ?_
  refine g_ic_ge hC dX11_spare_17 (tgt := 67) (by decide) (fun c17 => ?_) (fun c17 => ?_)
  · replace h := (if_pos c17).symm.trans h
    refine g_iload_n hC dX11_spare_67 rfl (q := 2) rfl ?_
    cases h
    exact g_iret hC hE rfl dX11_spare_68 (Nat.zero_le _) (Nat.zero_le _) ⟨rfl, rfl, rfl, rfl, rfl, rfl⟩
  · replace h := (if_neg c17).symm.trans h
    refine g_iconst hC dX11_spare_20 (v := (1 : Int32)) (by decide) ?_
    refine g_iload_n hC dX11_spare_21 rfl (q := 3) rfl ?_
    refine g_ishl hC dX11_spare_22 ?_
    refine g_istore hC dX11_spare_23 rfl (by decide) (lv' := [(4, .int ((1 : Int32) <<< (v3 &&& 31))), (0, .ref (mB E + 0)), (1, .int v1), (2, .int v2), (3, .int v3)]) rfl ?_
    refine g_iload_n hC dX11_spare_25 rfl (q := 2) rfl ?_
    refine g_iload hC dX11_spare_26 (q := 0) rfl ?_
    refine g_iand hC dX11_spare_28 ?_
    refine g_if_eq hC dX11_spare_29 (tgt := 61) (by decide) (fun c29 => ?_) (fun c29 => ?_)
    · replace h := (if_pos c29).symm.trans h
      refine g_iinc hC dX11_spare_61 rfl (q := 4) rfl (w := (v3 + (1 : Int32))) rfl (by decide) (lv' := [(3, .int (v3 + (1 : Int32))), (4, .int ((1 : Int32) <<< (v3 &&& 31))), (0, .ref (mB E + 0)), (1, .int v1), (2, .int v2)]) rfl ?_
      refine g_goto hC dX11_spare_64 (tgt := 9) (by decide) ?_
      refine g_lv [2, 3, 4, 0] rfl ?_
      exact hk9_ v1 v2 (v3 + (1 : Int32)) I h
    · replace h := (if_neg c29).symm.trans h
      refine g_aload_n hC dX11_spare_32 rfl (q := 1) rfl ?_
      obtain ⟨p33, e33, h⟩ := oB_some h
      have hp33 : mO5 R p33 := ob5 hW.1 (hW.2.1 p33 e33)
      refine g_getr hC fd_RX11_27 rfl (by decide) (C0 := _) (t0 := .int) (Or.inl rfl) e33 dX11_spare_33 ?_
      refine g_aload_n hC dX11_spare_36 rfl (q := 1) rfl ?_
      refine g_getr hC fd_RX11_68 rfl (by decide) (C0 := _) (t0 := .int) (Or.inl rfl) (rr_0_11 hW.1) dX11_spare_37 ?_
      refine g_iconst hC dX11_spare_40 (v := (0 : Int32)) (by decide) ?_
      refine g_iload_n hC dX11_spare_41 rfl (q := 2) rfl ?_
      refine g_iload hC dX11_spare_42 (q := 0) rfl ?_
      refine g_iconst hC dX11_spare_44 (v := (-1 : Int32)) (by decide) ?_
      refine g_ixor hC dX11_spare_45 ?_
      refine g_iand hC dX11_spare_46 ?_
      obtain ⟨r47, h47, h⟩ := oB_some h
      refine g_cV1 hC cv_X1_noteBits wd_699 ⟨Nat.le_of_ble_eq_true rfl, Nat.le_of_ble_eq_true rfl⟩ rfl (by decide) dX11_spare_47 (As := [.int (0 : Int32), .int (v1 &&& (((1 : Int32) <<< (v3 &&& 31)) ^^^ (-1 : Int32)))]) (st := [.ref (mB E + p33)]) (ok_X1_noteBits hC.2.2.2.2.2.2.2.1 hW h47) rfl rfl (Nat.le_of_ble_eq_true rfl) ⟨Nat.zero_le _, Nat.zero_le _⟩ ?_
      obtain ⟨r50, h50, h⟩ := oB_some h
      refine g_cV1 hC cv_X5_isTuneIn wd_707 ⟨Nat.le_of_ble_eq_true rfl, Nat.le_of_ble_eq_true rfl⟩ hp33.2.1 hp33.1 dX11_spare_50 (As := [.int r47]) (st := []) (ok_X5_isTuneIn hC.2.2.2.2.2.2.2.1 hp33 h50) rfl rfl (Nat.le_of_ble_eq_true rfl) ⟨Nat.zero_le _, Nat.zero_le _⟩ ?_
      refine g_if_eq hC dX11_spare_53 (tgt := 61) (by decide) (fun c53 => ?_) (fun c53 => ?_)
      · replace h := (if_pos c53).symm.trans h
        refine g_iinc hC dX11_spare_61 rfl (q := 4) rfl (w := (v3 + (1 : Int32))) rfl (by decide) (lv' := [(3, .int (v3 + (1 : Int32))), (4, .int ((1 : Int32) <<< (v3 &&& 31))), (0, .ref (mB E + 0)), (1, .int v1), (2, .int v2)]) rfl ?_
        refine g_goto hC dX11_spare_64 (tgt := 9) (by decide) ?_
        refine g_lv [2, 3, 4, 0] rfl ?_
        exact hk9_ v1 v2 (v3 + (1 : Int32)) I h
      · replace h := (if_neg c53).symm.trans h
        refine g_iload_n hC dX11_spare_56 rfl (q := 3) rfl ?_
        refine g_iload hC dX11_spare_57 (q := 0) rfl ?_
        refine g_ior hC dX11_spare_59 ?_
        refine g_istore_n hC dX11_spare_60 rfl rfl (by decide) (lv' := [(2, .int (v2 ||| ((1 : Int32) <<< (v3 &&& 31)))), (4, .int ((1 : Int32) <<< (v3 &&& 31))), (0, .ref (mB E + 0)), (1, .int v1), (3, .int v3)]) rfl ?_
        refine g_iinc hC dX11_spare_61 rfl (q := 4) rfl (w := (v3 + (1 : Int32))) rfl (by decide) (lv' := [(3, .int (v3 + (1 : Int32))), (2, .int (v2 ||| ((1 : Int32) <<< (v3 &&& 31)))), (4, .int ((1 : Int32) <<< (v3 &&& 31))), (0, .ref (mB E + 0)), (1, .int v1)]) rfl ?_
        refine g_goto hC dX11_spare_64 (tgt := 9) (by decide) ?_
        refine g_lv [3, 4, 1, 0] rfl ?_
        exact hk9_ v1 (v2 ||| ((1 : Int32) <<< (v3 &&& 31))) (v3 + (1 : Int32)) I h
noncomputable def w_X11_spare_9 (Fu : Nat) (R : mRT)  (N : Nat) (v1 : Int32) (v2 : Int32) (v3 : Int32) (I : mIT) : Option (Int32 × mIT) :=
  loopF (fun self (s : Int32 × Int32 × Int32 × mIT) => b_X11_spare_9 Fu R self s.1 s.2.1 s.2.2.1 s.2.2.2) N (v1, v2, v3, I)
theorem wo_X11_spare_9 {X : mXT} {E : mEn} {Fu : Nat} {R : mRT} {L : mLT}  (hC : mC X E mX11_spare RX11 cX11_spare) (hW : mWd R)   {out : Int32 × mIT} (hE : mEd X E 0 0 (mSame (some (.int (out.1))) 106 1 (out.2) R L))  (N : Nat) (v1 : Int32) (v2 : Int32) (v3 : Int32) (I : mIT) (h : w_X11_spare_9 Fu R  N v1 v2 v3 I = some out) : mG X E 9 [(0, .ref (mB E + 0)), (1, .int v1), (2, .int v2), (3, .int v3)] [] 106 1 I R L 0 0 :=
  loopF_ok (Gd := fun s : Int32 × Int32 × Int32 × mIT => mG X E 9 [(0, .ref (mB E + 0)), (1, .int s.1), (2, .int s.2.1), (3, .int s.2.2.1)] [] 106 1 s.2.2.2 R L 0 0) (fun self hs s h => bo_X11_spare_9 hC hW hE self (fun v1 v2 v3 I h => hs (v1, v2, v3, I) h) s.1 s.2.1 s.2.2.1 s.2.2.2 h) N (v1, v2, v3, I) h
noncomputable def f_X11_spare (Fu : Nat) (R : mRT) (I : mIT)  : Option (Int32 × mIT) :=
  oB (f_X11_soundingNow Fu R I) (fun r1 => w_X11_spare_9 Fu R Fu r1.1 (0 : Int32) (0 : Int32) r1.2)
set_option maxRecDepth 20000 in
theorem ok_X11_spare {l : Launch} {E : mEn} {Fu : Nat} {I : mIT} {R : mRT} {L : mLT}  (hst : l.stackTraces = false) (hW : mWd R)  {out : Int32 × mIT} (h : f_X11_spare Fu R I  = some out) : mOk l E mX11_spare [.ref (mB E + 0)] 106 1 I R L 0 0 (mSame (some (.int (out.1))) 106 1 (out.2) R L) := by
  refine mOk_of hst (by decide) (Nat.le_of_ble_eq_true rfl) (fun X hC hE _ => ?_)
  have hC : mC X E mX11_spare RX11 cX11_spare := hC
  show mG X E 0 [(0, .ref (mB E + 0))] [] 106 1 I R L 0 0
  unfold f_X11_spare at h
  refine g_aload_n hC dX11_spare_0 rfl (q := 0) rfl ?_
  obtain ⟨r1, h1, h⟩ := oB_some h
  refine g_cV1 hC cv_X11_soundingNow wd_776 ⟨Nat.le_of_ble_eq_true rfl, Nat.le_of_ble_eq_true rfl⟩ rfl (by decide) dX11_spare_1 (As := []) (st := []) (ok_X11_soundingNow hC.2.2.2.2.2.2.2.1 hW h1) rfl rfl (Nat.le_of_ble_eq_true rfl) ⟨Nat.zero_le _, Nat.zero_le _⟩ ?_
  refine g_istore_n hC dX11_spare_4 rfl rfl (by decide) (lv' := [(1, .int r1.1), (0, .ref (mB E + 0))]) rfl ?_
  refine g_iconst hC dX11_spare_5 (v := (0 : Int32)) (by decide) ?_
  refine g_istore_n hC dX11_spare_6 rfl rfl (by decide) (lv' := [(2, .int (0 : Int32)), (1, .int r1.1), (0, .ref (mB E + 0))]) rfl ?_
  refine g_iconst hC dX11_spare_7 (v := (0 : Int32)) (by decide) ?_
  refine g_istore_n hC dX11_spare_8 rfl rfl (by decide) (lv' := [(3, .int (0 : Int32)), (2, .int (0 : Int32)), (1, .int r1.1), (0, .ref (mB E + 0))]) rfl ?_
  refine g_lv [3, 2, 1, 0] rfl ?_
  exact wo_X11_spare_9 hC hW hE Fu (r1.1) ((0 : Int32)) ((0 : Int32)) (r1.2) h
noncomputable def f_X11_take (Fu : Nat) (R : mRT) (I : mIT) (v1 : Int32) : Option ((Int32 × mIT) ⊕ (Nat × mIT)) :=
  oX (f_X11_checkRoot Fu R I v1) (fun r2 => oB (f_X9_placeOf Fu I 40 v1) (fun r10 => if 0 ≤ r10 then (oB (f_X11_beginAct Fu I) (fun r25 => oB (f_X9_setPlace Fu r25 40 v1 (-1 : Int32)) (fun r34 => some (.inl (r10, r34))))) else (oB (f_X11_refuseAct Fu I (-1 : Int32)) (fun r20 => some (.inl (r20.1, r20.2))))))
set_option maxRecDepth 20000 in
theorem oy_X11_take {l : Launch} {E : mEn} {Fu : Nat} {I : mIT} {R : mRT} {L : mLT} {v1 : Int32} (hst : l.stackTraces = false) (hW : mWd R)  {out : (Int32 × mIT) ⊕ (Nat × mIT)} (h : f_X11_take Fu R I v1 = some out) {mc ms : Nat} {post : Option Value → Nat → Nat → mIT → mRT → mLT → Prop} {px : String → Nat → Nat → mIT → mRT → mLT → Prop} (ho : Sum.elim (fun o : Int32 × mIT => post (some (.int (o.1))) 106 1 (o.2) R L) (fun q : Nat × mIT => 1 ≤ mc ∧ 6 ≤ ms ∧ px (xNm q.1) 106 1 q.2 R L) out) : mOx l E mX11_take [.ref (mB E + 0), .int v1] 106 1 I R L mc ms post px := by
  refine mOx_of hst (by decide) (Nat.le_of_ble_eq_true rfl) (fun X hC hE0 _ => ?_)
  have hE : mEx X E mc ms post px ∧ Sum.elim (fun o : Int32 × mIT => post (some (.int (o.1))) 106 1 (o.2) R L) (fun q : Nat × mIT => 1 ≤ mc ∧ 6 ≤ ms ∧ px (xNm q.1) 106 1 q.2 R L) out := ⟨hE0, ho⟩
  have hC : mC X E mX11_take RX11 cX11_take := hC
  show mG X E 0 [(0, .ref (mB E + 0)), (1, .int v1)] [] 106 1 I R L 0 0
  unfold f_X11_take at h
  refine g_aload_n hC dX11_take_0 rfl (q := 0) rfl ?_
  refine g_iload_n hC dX11_take_1 rfl (q := 1) rfl ?_
  rcases oX_some h with ⟨r2, h2, h⟩ | ⟨q2, h2, h⟩
  case inr =>
    subst h
    have hq : 1 ≤ mc ∧ 6 ≤ ms ∧ px (xNm q2.1) 106 1 q2.2 R L := hE.2
    exact g_cVz hC hE.1 cv_X11_checkRoot wd_1183 ⟨Nat.le_of_ble_eq_true rfl, Nat.le_of_ble_eq_true rfl⟩ rfl (by decide) dX11_take_2 (As := [.int v1]) (st := []) (ox_X11_checkRoot hC.2.2.2.2.2.2.2.1 hW h2) rfl rfl (Nat.le_of_ble_eq_true rfl) ⟨by omega, by omega⟩ hq.2.2
  refine g_cVy0 hC hE.1 cv_X11_checkRoot wd_1183 ⟨Nat.le_of_ble_eq_true rfl, Nat.le_of_ble_eq_true rfl⟩ rfl (by decide) dX11_take_2 (As := [.int v1]) (st := []) (oi_X11_checkRoot hC.2.2.2.2.2.2.2.1 hW h2) rfl rfl (Nat.le_of_ble_eq_true rfl) ⟨Nat.zero_le _, Nat.zero_le _⟩ ?_
  refine g_aload_n hC dX11_take_5 rfl (q := 0) rfl ?_
  refine g_getr hC fd_RX11_34 rfl (by decide) (C0 := _) (t0 := .int) (Or.inl rfl) (rr_0_4 hW.1) dX11_take_6 ?_
  refine g_iload_n hC dX11_take_9 rfl (q := 1) rfl ?_
  obtain ⟨r10, h10, h⟩ := oB_some h
  refine g_cV1 hC cv_X9_placeOf wd_719 ⟨Nat.le_of_ble_eq_true rfl, Nat.le_of_ble_eq_true rfl⟩ rfl (by decide) dX11_take_10 (As := [.int v1]) (st := []) (ok_X9_placeOf hC.2.2.2.2.2.2.2.1 (ob_40 hW.1) h10) rfl rfl (Nat.le_of_ble_eq_true rfl) ⟨Nat.zero_le _, Nat.zero_le _⟩ ?_
  refine g_istore_n hC dX11_take_13 rfl rfl (by decide) (lv' := [(2, .int r10), (0, .ref (mB E + 0)), (1, .int v1)]) rfl ?_
  refine g_iload_n hC dX11_take_14 rfl (q := 0) rfl ?_
  refine g_if_ge hC dX11_take_15 (tgt := 24) (by decide) (fun c15 => ?_) (fun c15 => ?_)
  · replace h := (if_pos c15).symm.trans h
    refine g_aload_n hC dX11_take_24 rfl (q := 1) rfl ?_
    obtain ⟨r25, h25, h⟩ := oB_some h
    refine g_cV0 hC cv_X11_beginAct wd_551 ⟨Nat.le_of_ble_eq_true rfl, Nat.le_of_ble_eq_true rfl⟩ rfl (by decide) dX11_take_25 (As := []) (st := []) (ok_X11_beginAct hC.2.2.2.2.2.2.2.1 hW h25) rfl rfl (Nat.le_of_ble_eq_true rfl) ⟨Nat.zero_le _, Nat.zero_le _⟩ ?_
    refine g_aload_n hC dX11_take_28 rfl (q := 1) rfl ?_
    refine g_getr hC fd_RX11_34 rfl (by decide) (C0 := _) (t0 := .int) (Or.inl rfl) (rr_0_4 hW.1) dX11_take_29 ?_
    refine g_iload_n hC dX11_take_32 rfl (q := 2) rfl ?_
    refine g_iconst hC dX11_take_33 (v := (-1 : Int32)) (by decide) ?_
    obtain ⟨r34, h34, h⟩ := oB_some h
    refine g_cV0 hC cv_X9_setPlace wd_1243 ⟨Nat.le_of_ble_eq_true rfl, Nat.le_of_ble_eq_true rfl⟩ rfl (by decide) dX11_take_34 (As := [.int v1, .int (-1 : Int32)]) (st := []) (ok_X9_setPlace hC.2.2.2.2.2.2.2.1 (ob_40 hW.1) h34) rfl rfl (Nat.le_of_ble_eq_true rfl) ⟨Nat.zero_le _, Nat.zero_le _⟩ ?_
    refine g_iload_n hC dX11_take_37 rfl (q := 0) rfl ?_
    cases h
    exact g_xiret hC hE.1 rfl dX11_take_38 (Nat.zero_le _) (Nat.zero_le _) hE.2
  · replace h := (if_neg c15).symm.trans h
    refine g_aload_n hC dX11_take_18 rfl (q := 1) rfl ?_
    refine g_iconst hC dX11_take_19 (v := (-1 : Int32)) (by decide) ?_
    obtain ⟨r20, h20, h⟩ := oB_some h
    refine g_cV1 hC cv_X11_refuseAct wd_547 ⟨Nat.le_of_ble_eq_true rfl, Nat.le_of_ble_eq_true rfl⟩ rfl (by decide) dX11_take_20 (As := [.int (-1 : Int32)]) (st := []) (ok_X11_refuseAct hC.2.2.2.2.2.2.2.1 hW h20) rfl rfl (Nat.le_of_ble_eq_true rfl) ⟨Nat.zero_le _, Nat.zero_le _⟩ ?_
    cases h
    exact g_xiret hC hE.1 rfl dX11_take_23 (Nat.zero_le _) (Nat.zero_le _) hE.2
theorem oi_X11_take {l : Launch} {E : mEn} {Fu : Nat} {I : mIT} {R : mRT} {L : mLT} {v1 : Int32} (hst : l.stackTraces = false) (hW : mWd R)  {out : Int32 × mIT} (h : f_X11_take Fu R I v1 = some (.inl out)) : mOx l E mX11_take [.ref (mB E + 0), .int v1] 106 1 I R L 0 0 (mSame (some (.int (out.1))) 106 1 (out.2) R L) (fun _ _ _ _ _ _ => False) := oy_X11_take hst hW h ⟨rfl, rfl, rfl, rfl, rfl, rfl⟩
theorem ox_X11_take {l : Launch} {E : mEn} {Fu : Nat} {I : mIT} {R : mRT} {L : mLT} {v1 : Int32} (hst : l.stackTraces = false) (hW : mWd R)  {q : Nat × mIT} (h : f_X11_take Fu R I v1 = some (.inr q)) : mOx l E mX11_take [.ref (mB E + 0), .int v1] 106 1 I R L 1 6 (fun _ _ _ _ _ _ => False) (mXp q.1 106 1 q.2 R L) := oy_X11_take hst hW h ⟨Nat.le_refl _, Nat.le_refl _, rfl, rfl, rfl, rfl, rfl, rfl⟩
noncomputable def f_X11_then (Fu : Nat) (R : mRT) (I : mIT) (v1 : Int32) (v2 : Int32) : Option ((Int32 × mIT) ⊕ (Nat × mIT)) :=
  oX (f_X11_checkRoot Fu R I v1) (fun r2 => oX (f_X11_checkFar Fu I v2) (fun r7 => oB (R 0 3) (fun p15 => oB (f_X1_layTo Fu I p15 40 v2) (fun r23 => oB (f_X1_noteOn Fu r23 v2 v1) (fun r32 => some (.inl (r32, r23)))))))
set_option maxRecDepth 20000 in
theorem oy_X11_then {l : Launch} {E : mEn} {Fu : Nat} {I : mIT} {R : mRT} {L : mLT} {v1 : Int32} {v2 : Int32} (hst : l.stackTraces = false) (hW : mWd R)  {out : (Int32 × mIT) ⊕ (Nat × mIT)} (h : f_X11_then Fu R I v1 v2 = some out) {mc ms : Nat} {post : Option Value → Nat → Nat → mIT → mRT → mLT → Prop} {px : String → Nat → Nat → mIT → mRT → mLT → Prop} (ho : Sum.elim (fun o : Int32 × mIT => post (some (.int (o.1))) 106 1 (o.2) R L) (fun q : Nat × mIT => 1 ≤ mc ∧ 6 ≤ ms ∧ px (xNm q.1) 106 1 q.2 R L) out) : mOx l E mX11_then [.ref (mB E + 0), .int v1, .int v2] 106 1 I R L mc ms post px := by
  refine mOx_of hst (by decide) (Nat.le_of_ble_eq_true rfl) (fun X hC hE0 _ => ?_)
  have hE : mEx X E mc ms post px ∧ Sum.elim (fun o : Int32 × mIT => post (some (.int (o.1))) 106 1 (o.2) R L) (fun q : Nat × mIT => 1 ≤ mc ∧ 6 ≤ ms ∧ px (xNm q.1) 106 1 q.2 R L) out := ⟨hE0, ho⟩
  have hC : mC X E mX11_then RX11 cX11_then := hC
  show mG X E 0 [(0, .ref (mB E + 0)), (1, .int v1), (2, .int v2)] [] 106 1 I R L 0 0
  unfold f_X11_then at h
  refine g_aload_n hC dX11_then_0 rfl (q := 0) rfl ?_
  refine g_iload_n hC dX11_then_1 rfl (q := 1) rfl ?_
  rcases oX_some h with ⟨r2, h2, h⟩ | ⟨q2, h2, h⟩
  case inr =>
    subst h
    have hq : 1 ≤ mc ∧ 6 ≤ ms ∧ px (xNm q2.1) 106 1 q2.2 R L := hE.2
    exact g_cVz hC hE.1 cv_X11_checkRoot wd_1183 ⟨Nat.le_of_ble_eq_true rfl, Nat.le_of_ble_eq_true rfl⟩ rfl (by decide) dX11_then_2 (As := [.int v1]) (st := []) (ox_X11_checkRoot hC.2.2.2.2.2.2.2.1 hW h2) rfl rfl (Nat.le_of_ble_eq_true rfl) ⟨by omega, by omega⟩ hq.2.2
  refine g_cVy0 hC hE.1 cv_X11_checkRoot wd_1183 ⟨Nat.le_of_ble_eq_true rfl, Nat.le_of_ble_eq_true rfl⟩ rfl (by decide) dX11_then_2 (As := [.int v1]) (st := []) (oi_X11_checkRoot hC.2.2.2.2.2.2.2.1 hW h2) rfl rfl (Nat.le_of_ble_eq_true rfl) ⟨Nat.zero_le _, Nat.zero_le _⟩ ?_
  refine g_aload_n hC dX11_then_5 rfl (q := 0) rfl ?_
  refine g_iload_n hC dX11_then_6 rfl (q := 2) rfl ?_
  rcases oX_some h with ⟨r7, h7, h⟩ | ⟨q7, h7, h⟩
  case inr =>
    subst h
    have hq : 1 ≤ mc ∧ 6 ≤ ms ∧ px (xNm q7.1) 106 1 q7.2 R L := hE.2
    exact g_cVz hC hE.1 cv_X11_checkFar wd_1288 ⟨Nat.le_of_ble_eq_true rfl, Nat.le_of_ble_eq_true rfl⟩ rfl (by decide) dX11_then_7 (As := [.int v2]) (st := []) (ox_X11_checkFar hC.2.2.2.2.2.2.2.1 hW h7) rfl rfl (Nat.le_of_ble_eq_true rfl) ⟨by omega, by omega⟩ hq.2.2
  refine g_cVy0 hC hE.1 cv_X11_checkFar wd_1288 ⟨Nat.le_of_ble_eq_true rfl, Nat.le_of_ble_eq_true rfl⟩ rfl (by decide) dX11_then_7 (As := [.int v2]) (st := []) (oi_X11_checkFar hC.2.2.2.2.2.2.2.1 hW h7) rfl rfl (Nat.le_of_ble_eq_true rfl) ⟨Nat.zero_le _, Nat.zero_le _⟩ ?_
  refine g_aload_n hC dX11_then_10 rfl (q := 0) rfl ?_
  refine g_getr hC fd_RX11_68 rfl (by decide) (C0 := _) (t0 := .int) (Or.inl rfl) (rr_0_11 hW.1) dX11_then_11 ?_
  refine g_aload_n hC dX11_then_14 rfl (q := 0) rfl ?_
  obtain ⟨p15, e15, h⟩ := oB_some h
  have hp15 : mO5 R p15 := ob5 hW.1 (hW.2.1 p15 e15)
  refine g_getr hC fd_RX11_27 rfl (by decide) (C0 := _) (t0 := .int) (Or.inl rfl) e15 dX11_then_15 ?_
  refine g_aload_n hC dX11_then_18 rfl (q := 0) rfl ?_
  refine g_getr hC fd_RX11_34 rfl (by decide) (C0 := _) (t0 := .int) (Or.inl rfl) (rr_0_4 hW.1) dX11_then_19 ?_
  refine g_iload_n hC dX11_then_22 rfl (q := 2) rfl ?_
  obtain ⟨r23, h23, h⟩ := oB_some h
  refine g_cV0 hC cv_X1_layTo wd_664 ⟨Nat.le_of_ble_eq_true rfl, Nat.le_of_ble_eq_true rfl⟩ rfl (by decide) dX11_then_23 (As := [.ref (mB E + p15), .ref (mB E + 40), .int v2]) (st := []) (ok_X1_layTo hC.2.2.2.2.2.2.2.1 hW hp15 (ob_40 hW.1) h23) rfl rfl (Nat.le_of_ble_eq_true rfl) ⟨Nat.zero_le _, Nat.zero_le _⟩ ?_
  refine g_aload_n hC dX11_then_26 rfl (q := 0) rfl ?_
  refine g_getr hC fd_RX11_68 rfl (by decide) (C0 := _) (t0 := .int) (Or.inl rfl) (rr_0_11 hW.1) dX11_then_27 ?_
  refine g_iload_n hC dX11_then_30 rfl (q := 2) rfl ?_
  refine g_iload_n hC dX11_then_31 rfl (q := 1) rfl ?_
  obtain ⟨r32, h32, h⟩ := oB_some h
  refine g_cV1 hC cv_X1_noteOn wd_1293 ⟨Nat.le_of_ble_eq_true rfl, Nat.le_of_ble_eq_true rfl⟩ rfl (by decide) dX11_then_32 (As := [.int v2, .int v1]) (st := []) (ok_X1_noteOn hC.2.2.2.2.2.2.2.1 hW h32) rfl rfl (Nat.le_of_ble_eq_true rfl) ⟨Nat.zero_le _, Nat.zero_le _⟩ ?_
  cases h
  exact g_xiret hC hE.1 rfl dX11_then_35 (Nat.zero_le _) (Nat.zero_le _) hE.2
theorem oi_X11_then {l : Launch} {E : mEn} {Fu : Nat} {I : mIT} {R : mRT} {L : mLT} {v1 : Int32} {v2 : Int32} (hst : l.stackTraces = false) (hW : mWd R)  {out : Int32 × mIT} (h : f_X11_then Fu R I v1 v2 = some (.inl out)) : mOx l E mX11_then [.ref (mB E + 0), .int v1, .int v2] 106 1 I R L 0 0 (mSame (some (.int (out.1))) 106 1 (out.2) R L) (fun _ _ _ _ _ _ => False) := oy_X11_then hst hW h ⟨rfl, rfl, rfl, rfl, rfl, rfl⟩
theorem ox_X11_then {l : Launch} {E : mEn} {Fu : Nat} {I : mIT} {R : mRT} {L : mLT} {v1 : Int32} {v2 : Int32} (hst : l.stackTraces = false) (hW : mWd R)  {q : Nat × mIT} (h : f_X11_then Fu R I v1 v2 = some (.inr q)) : mOx l E mX11_then [.ref (mB E + 0), .int v1, .int v2] 106 1 I R L 1 6 (fun _ _ _ _ _ _ => False) (mXp q.1 106 1 q.2 R L) := oy_X11_then hst hW h ⟨Nat.le_refl _, Nat.le_refl _, rfl, rfl, rfl, rfl, rfl, rfl⟩
noncomputable def f_X8_clear (Fu : Nat) (I : mIT) (k0 : Nat) : Option (mIT) :=
  some (mU (mU I k0 5 (0 : Int32)) k0 6 (0 : Int32))
set_option maxRecDepth 20000 in
theorem ok_X8_clear {l : Launch} {E : mEn} {Fu : Nat} {I : mIT} {R : mRT} {L : mLT} {k0 : Nat} (hst : l.stackTraces = false) (hk0 : mO8 R k0) {out : mIT} (h : f_X8_clear Fu I k0 = some out) : mOk l E mX8_clear [.ref (mB E + k0)] 106 1 I R L 0 0 (mSame none 106 1 (out) R L) := by
  refine mOk_of hst (by decide) (Nat.le_of_ble_eq_true rfl) (fun X hC hE _ => ?_)
  have hC : mC X E mX8_clear RX8 cX8_clear := hC
  show mG X E 0 [(0, .ref (mB E + k0))] [] 106 1 I R L 0 0
  unfold f_X8_clear at h
  refine g_aload_n hC dX8_clear_0 rfl (q := 0) rfl ?_
  refine g_iconst hC dX8_clear_1 (v := (0 : Int32)) (by decide) ?_
  refine g_puti hC fd_RX8_27 hk0.2.1 hk0.1 rfl dX8_clear_2 (nm_e ?_)
  refine g_aload_n hC dX8_clear_5 rfl (q := 0) rfl ?_
  refine g_iconst hC dX8_clear_6 (v := (0 : Int32)) (by decide) ?_
  refine g_puti hC fd_RX8_31 hk0.2.1 hk0.1 rfl dX8_clear_7 (nm_e ?_)
  cases h
  exact g_vret hC hE rfl dX8_clear_10 (Nat.zero_le _) (Nat.zero_le _) ⟨rfl, rfl, rfl, rfl, rfl, rfl⟩
noncomputable def b_X9_clear_2 (Fu : Nat) (k0 : Nat) (k2_ : Int32 × mIT → Option (mIT)) (v1 : Int32) (I : mIT) : Option (mIT) :=
  if (nI 53) ≤ v1 then (some (I)) else (oG (inB v1 53) (k2_ ((v1 + (1 : Int32)), (mU I (k0 + 1) (v1).toNatClampNeg (0 : Int32)))))
set_option maxRecDepth 20000 in
theorem bo_X9_clear_2 {X : mXT} {E : mEn} {Fu : Nat} {R : mRT} {L : mLT} {k0 : Nat} (hC : mC X E mX9_clear RX9 cX9_clear) (hk0 : mO9 R k0)  {out : mIT} (hE : mEd X E 0 0 (mSame none 106 1 (out) R L)) (k2_ : Int32 × mIT → Option (mIT)) (hk2_ : ∀ (v1 : Int32) (I : mIT),  k2_ (v1, I) = some out → mG X E 2 [(0, .ref (mB E + k0)), (1, .int v1)] [] 106 1 I R L 0 0) (v1 : Int32) (I : mIT) (h : b_X9_clear_2 Fu k0 k2_ v1 I = some out) : mG X E 2 [(0, .ref (mB E + k0)), (1, .int v1)] [] 106 1 I R L 0 0 := by
  unfold b_X9_clear_2 at h
  refine g_iload_n hC dX9_clear_2 rfl (q := 1) rfl ?_
  refine g_aload_n hC dX9_clear_3 rfl (q := 0) rfl ?_
  refine g_getr hC fd_RX9_11 hk0.2.1 hk0.1 (C0 := "") (t0 := _) (Or.inr rfl) hk0.2.2.1 dX9_clear_4 ?_
  refine g_alenI hC hk0.2.2.2.2 hk0.2.2.2.1 dX9_clear_7 ?_
  refine g_ic_ge hC dX9_clear_8 (tgt := 24) (by decide) (fun c8 => ?_) (fun c8 => ?_)
  · replace h := (if_pos c8).symm.trans h
    cases h
    exact g_vret hC hE rfl dX9_clear_24 (Nat.zero_le _) (Nat.zero_le _) ⟨rfl, rfl, rfl, rfl, rfl, rfl⟩
  · replace h := (if_neg c8).symm.trans h
    refine g_aload_n hC dX9_clear_11 rfl (q := 0) rfl ?_
    refine g_getr hC fd_RX9_11 hk0.2.1 hk0.1 (C0 := "") (t0 := _) (Or.inr rfl) hk0.2.2.1 dX9_clear_12 ?_
    refine g_iload_n hC dX9_clear_15 rfl (q := 1) rfl ?_
    refine g_iconst hC dX9_clear_16 (v := (0 : Int32)) (by decide) ?_
    obtain ⟨g17, h⟩ := oG_some h
    refine g_iast hC hk0.2.2.2.2 hk0.2.2.2.1 (inB_in g17) dX9_clear_17 (nm_e ?_)
    refine g_iinc hC dX9_clear_18 rfl (q := 1) rfl (w := (v1 + (1 : Int32))) rfl (by decide) (lv' := [(1, .int (v1 + (1 : Int32))), (0, .ref (mB E + k0))]) rfl ?_
    refine g_goto hC dX9_clear_21 (tgt := 2) (by decide) ?_
    refine g_lv [1, 0] rfl ?_
    exact hk2_ (v1 + (1 : Int32)) (mU I (k0 + 1) (v1).toNatClampNeg (0 : Int32)) h
noncomputable def w_X9_clear_2 (Fu : Nat) (k0 : Nat)  (N : Nat) (v1 : Int32) (I : mIT) : Option (mIT) :=
  loopF (fun self (s : Int32 × mIT) => b_X9_clear_2 Fu k0 self s.1 s.2) N (v1, I)
theorem wo_X9_clear_2 {X : mXT} {E : mEn} {Fu : Nat} {R : mRT} {L : mLT} {k0 : Nat} (hC : mC X E mX9_clear RX9 cX9_clear) (hk0 : mO9 R k0)  {out : mIT} (hE : mEd X E 0 0 (mSame none 106 1 (out) R L))  (N : Nat) (v1 : Int32) (I : mIT) (h : w_X9_clear_2 Fu k0  N v1 I = some out) : mG X E 2 [(0, .ref (mB E + k0)), (1, .int v1)] [] 106 1 I R L 0 0 :=
  loopF_ok (Gd := fun s : Int32 × mIT => mG X E 2 [(0, .ref (mB E + k0)), (1, .int s.1)] [] 106 1 s.2 R L 0 0) (fun self hs s h => bo_X9_clear_2 hC hk0 hE self (fun v1 I h => hs (v1, I) h) s.1 s.2 h) N (v1, I) h
noncomputable def f_X9_clear (Fu : Nat) (I : mIT) (k0 : Nat) : Option (mIT) :=
  w_X9_clear_2 Fu k0 Fu (0 : Int32) I
set_option maxRecDepth 20000 in
theorem ok_X9_clear {l : Launch} {E : mEn} {Fu : Nat} {I : mIT} {R : mRT} {L : mLT} {k0 : Nat} (hst : l.stackTraces = false) (hk0 : mO9 R k0) {out : mIT} (h : f_X9_clear Fu I k0 = some out) : mOk l E mX9_clear [.ref (mB E + k0)] 106 1 I R L 0 0 (mSame none 106 1 (out) R L) := by
  refine mOk_of hst (by decide) (Nat.le_of_ble_eq_true rfl) (fun X hC hE _ => ?_)
  have hC : mC X E mX9_clear RX9 cX9_clear := hC
  show mG X E 0 [(0, .ref (mB E + k0))] [] 106 1 I R L 0 0
  unfold f_X9_clear at h
  refine g_iconst hC dX9_clear_0 (v := (0 : Int32)) (by decide) ?_
  refine g_istore_n hC dX9_clear_1 rfl rfl (by decide) (lv' := [(1, .int (0 : Int32)), (0, .ref (mB E + k0))]) rfl ?_
  refine g_lv [1, 0] rfl ?_
  exact wo_X9_clear_2 hC hk0 hE Fu ((0 : Int32)) (I) h
noncomputable def f_X5_clear (Fu : Nat) (I : mIT) (k0 : Nat) : Option (mIT) :=
  oB (f_X8_clear Fu (mU (mU (mU (mU (mU (mU I k0 3 (0 : Int32)) k0 4 (0 : Int32)) k0 5 (20 : Int32)) k0 6 (0 : Int32)) k0 7 (0 : Int32)) k0 8 (0 : Int32)) (k0 + 4)) (fun r35 => oB (f_X8_clear Fu r35 (k0 + 10)) (fun r42 => oB (f_X9_clear Fu r42 (k0 + 16)) (fun r49 => some (r49))))
set_option maxRecDepth 20000 in
theorem ok_X5_clear {l : Launch} {E : mEn} {Fu : Nat} {I : mIT} {R : mRT} {L : mLT} {k0 : Nat} (hst : l.stackTraces = false) (hk0 : mO5 R k0) {out : mIT} (h : f_X5_clear Fu I k0 = some out) : mOk l E mX5_clear [.ref (mB E + k0)] 106 1 I R L 0 0 (mSame none 106 1 (out) R L) := by
  refine mOk_of hst (by decide) (Nat.le_of_ble_eq_true rfl) (fun X hC hE _ => ?_)
  have hC : mC X E mX5_clear RX5 cX5_clear := hC
  show mG X E 0 [(0, .ref (mB E + k0))] [] 106 1 I R L 0 0
  unfold f_X5_clear at h
  refine g_aload_n hC dX5_clear_0 rfl (q := 0) rfl ?_
  refine g_iconst hC dX5_clear_1 (v := (0 : Int32)) (by decide) ?_
  refine g_puti hC fd_RX5_21 hk0.2.1 hk0.1 rfl dX5_clear_2 (nm_e ?_)
  refine g_aload_n hC dX5_clear_5 rfl (q := 0) rfl ?_
  refine g_iconst hC dX5_clear_6 (v := (0 : Int32)) (by decide) ?_
  refine g_puti hC fd_RX5_25 hk0.2.1 hk0.1 rfl dX5_clear_7 (nm_e ?_)
  refine g_aload_n hC dX5_clear_10 rfl (q := 0) rfl ?_
  refine g_bipush hC dX5_clear_11 (v := (20 : Int32)) (by decide) ?_
  refine g_puti hC fd_RX5_28 hk0.2.1 hk0.1 rfl dX5_clear_13 (nm_e ?_)
  refine g_aload_n hC dX5_clear_16 rfl (q := 0) rfl ?_
  refine g_iconst hC dX5_clear_17 (v := (0 : Int32)) (by decide) ?_
  refine g_puti hC fd_RX5_31 hk0.2.1 hk0.1 rfl dX5_clear_18 (nm_e ?_)
  refine g_aload_n hC dX5_clear_21 rfl (q := 0) rfl ?_
  refine g_iconst hC dX5_clear_22 (v := (0 : Int32)) (by decide) ?_
  refine g_puti hC fd_RX5_34 hk0.2.1 hk0.1 rfl dX5_clear_23 (nm_e ?_)
  refine g_aload_n hC dX5_clear_26 rfl (q := 0) rfl ?_
  refine g_iconst hC dX5_clear_27 (v := (0 : Int32)) (by decide) ?_
  refine g_puti hC fd_RX5_37 hk0.2.1 hk0.1 rfl dX5_clear_28 (nm_e ?_)
  refine g_aload_n hC dX5_clear_31 rfl (q := 0) rfl ?_
  refine g_getr hC fd_RX5_43 hk0.2.1 hk0.1 (C0 := _) (t0 := .int) (Or.inl rfl) hk0.2.2.2.2.2.1.1 dX5_clear_32 ?_
  obtain ⟨r35, h35, h⟩ := oB_some h
  refine g_cV0 hC cv_X8_clear wd_916 ⟨Nat.le_of_ble_eq_true rfl, Nat.le_of_ble_eq_true rfl⟩ hk0.2.2.2.2.2.1.2.2.1 hk0.2.2.2.2.2.1.2.1 dX5_clear_35 (As := []) (st := []) (ok_X8_clear hC.2.2.2.2.2.2.2.1 hk0.2.2.2.2.2.1.2 h35) rfl rfl (Nat.le_of_ble_eq_true rfl) ⟨Nat.zero_le _, Nat.zero_le _⟩ ?_
  refine g_aload_n hC dX5_clear_38 rfl (q := 0) rfl ?_
  refine g_getr hC fd_RX5_47 hk0.2.1 hk0.1 (C0 := _) (t0 := .int) (Or.inl rfl) hk0.2.2.2.2.2.2.1.1 dX5_clear_39 ?_
  obtain ⟨r42, h42, h⟩ := oB_some h
  refine g_cV0 hC cv_X8_clear wd_916 ⟨Nat.le_of_ble_eq_true rfl, Nat.le_of_ble_eq_true rfl⟩ hk0.2.2.2.2.2.2.1.2.2.1 hk0.2.2.2.2.2.2.1.2.1 dX5_clear_42 (As := []) (st := []) (ok_X8_clear hC.2.2.2.2.2.2.2.1 hk0.2.2.2.2.2.2.1.2 h42) rfl rfl (Nat.le_of_ble_eq_true rfl) ⟨Nat.zero_le _, Nat.zero_le _⟩ ?_
  refine g_aload_n hC dX5_clear_45 rfl (q := 0) rfl ?_
  refine g_getr hC fd_RX5_53 hk0.2.1 hk0.1 (C0 := _) (t0 := .int) (Or.inl rfl) hk0.2.2.2.2.2.2.2.1 dX5_clear_46 ?_
  obtain ⟨r49, h49, h⟩ := oB_some h
  refine g_cV0 hC cv_X9_clear wd_920 ⟨Nat.le_of_ble_eq_true rfl, Nat.le_of_ble_eq_true rfl⟩ hk0.2.2.2.2.2.2.2.2.2.1 hk0.2.2.2.2.2.2.2.2.1 dX5_clear_49 (As := []) (st := []) (ok_X9_clear hC.2.2.2.2.2.2.2.1 hk0.2.2.2.2.2.2.2.2 h49) rfl rfl (Nat.le_of_ble_eq_true rfl) ⟨Nat.zero_le _, Nat.zero_le _⟩ ?_
  cases h
  exact g_vret hC hE rfl dX5_clear_52 (Nat.zero_le _) (Nat.zero_le _) ⟨rfl, rfl, rfl, rfl, rfl, rfl⟩
noncomputable def f_X6_byteAt (Fu : Nat) (I : mIT) (v1 : Int32) : Option (Int32) :=
  if v1 < 0 then (some (0 : Int32)) else (if (I 1 2) ≤ v1 then (some (0 : Int32)) else (if (nI 700) ≤ v1 then (some (0 : Int32)) else (oG (inB v1 700) (some ((I 2 (v1).toNatClampNeg) &&& (255 : Int32))))))
set_option maxRecDepth 20000 in
theorem ok_X6_byteAt {l : Launch} {E : mEn} {Fu : Nat} {I : mIT} {R : mRT} {L : mLT} {v1 : Int32} (hst : l.stackTraces = false) (hW : mWd R)  {out : Int32} (h : f_X6_byteAt Fu I v1 = some out) : mOk l E mX6_byteAt [.ref (mB E + 1), .int v1] 106 1 I R L 0 0 (mSame (some (.int (out))) 106 1 I R L) := by
  refine mOk_of hst (by decide) (Nat.le_of_ble_eq_true rfl) (fun X hC hE _ => ?_)
  have hC : mC X E mX6_byteAt RX6 cX6_byteAt := hC
  show mG X E 0 [(0, .ref (mB E + 1)), (1, .int v1)] [] 106 1 I R L 0 0
  unfold f_X6_byteAt at h
  refine g_iload_n hC dX6_byteAt_0 rfl (q := 1) rfl ?_
  refine g_if_lt hC dX6_byteAt_1 (tgt := 34) (by decide) (fun c1 => ?_) (fun c1 => ?_)
  · replace h := (if_pos c1).symm.trans h
    refine g_iconst hC dX6_byteAt_34 (v := (0 : Int32)) (by decide) ?_
    cases h
    exact g_iret hC hE rfl dX6_byteAt_35 (Nat.zero_le _) (Nat.zero_le _) ⟨rfl, rfl, rfl, rfl, rfl, rfl⟩
  · replace h := (if_neg c1).symm.trans h
    refine g_iload_n hC dX6_byteAt_4 rfl (q := 1) rfl ?_
    refine g_aload_n hC dX6_byteAt_5 rfl (q := 0) rfl ?_
    refine g_geti hC fd_RX6_19 rfl (by decide) (Or.inl rfl) dX6_byteAt_6 ?_
    refine g_ic_ge hC dX6_byteAt_9 (tgt := 34) (by decide) (fun c9 => ?_) (fun c9 => ?_)
    · replace h := (if_pos c9).symm.trans h
      refine g_iconst hC dX6_byteAt_34 (v := (0 : Int32)) (by decide) ?_
      cases h
      exact g_iret hC hE rfl dX6_byteAt_35 (Nat.zero_le _) (Nat.zero_le _) ⟨rfl, rfl, rfl, rfl, rfl, rfl⟩
    · replace h := (if_neg c9).symm.trans h
      refine g_iload_n hC dX6_byteAt_12 rfl (q := 1) rfl ?_
      refine g_aload_n hC dX6_byteAt_13 rfl (q := 0) rfl ?_
      refine g_getr hC fd_RX6_9 rfl (by decide) (C0 := "") (t0 := _) (Or.inr rfl) (rr_1_0 hW.1) dX6_byteAt_14 ?_
      refine g_alenB hC rfl (by decide) dX6_byteAt_17 ?_
      refine g_ic_ge hC dX6_byteAt_18 (tgt := 34) (by decide) (fun c18 => ?_) (fun c18 => ?_)
      · replace h := (if_pos c18).symm.trans h
        refine g_iconst hC dX6_byteAt_34 (v := (0 : Int32)) (by decide) ?_
        cases h
        exact g_iret hC hE rfl dX6_byteAt_35 (Nat.zero_le _) (Nat.zero_le _) ⟨rfl, rfl, rfl, rfl, rfl, rfl⟩
      · replace h := (if_neg c18).symm.trans h
        refine g_aload_n hC dX6_byteAt_21 rfl (q := 0) rfl ?_
        refine g_getr hC fd_RX6_9 rfl (by decide) (C0 := "") (t0 := _) (Or.inr rfl) (rr_1_0 hW.1) dX6_byteAt_22 ?_
        refine g_iload_n hC dX6_byteAt_25 rfl (q := 1) rfl ?_
        obtain ⟨g26, h⟩ := oG_some h
        refine g_bald hC rfl (by decide) (inB_in g26) dX6_byteAt_26 ?_
        refine g_sipush hC dX6_byteAt_27 (v := (255 : Int32)) (by decide) ?_
        refine g_iand hC dX6_byteAt_30 ?_
        refine g_goto hC dX6_byteAt_31 (tgt := 35) (by decide) ?_
        cases h
        exact g_iret hC hE rfl dX6_byteAt_35 (Nat.zero_le _) (Nat.zero_le _) ⟨rfl, rfl, rfl, rfl, rfl, rfl⟩
noncomputable def f_X6_isBlank (Fu : Nat)  (v0 : Int32) : Option (Int32) :=
  if v0 = (32 : Int32) then (some (1 : Int32)) else (if v0 = (10 : Int32) then (some (1 : Int32)) else (some (0 : Int32)))
set_option maxRecDepth 20000 in
theorem ok_X6_isBlank {l : Launch} {E : mEn} {Fu : Nat} {I : mIT} {R : mRT} {L : mLT} {v0 : Int32} (hst : l.stackTraces = false)  {out : Int32} (h : f_X6_isBlank Fu  v0 = some out) : mOk l E mX6_isBlank [.int v0] 106 1 I R L 0 0 (mSame (some (.int (out))) 106 1 I R L) := by
  refine mOk_of hst (by decide) (Nat.le_of_ble_eq_true rfl) (fun X hC hE _ => ?_)
  have hC : mC X E mX6_isBlank RX6 cX6_isBlank := hC
  show mG X E 0 [(0, .int v0)] [] 106 1 I R L 0 0
  unfold f_X6_isBlank at h
  refine g_iload_n hC dX6_isBlank_0 rfl (q := 0) rfl ?_
  refine g_bipush hC dX6_isBlank_1 (v := (32 : Int32)) (by decide) ?_
  refine g_ic_eq hC dX6_isBlank_3 (tgt := 12) (by decide) (fun c3 => ?_) (fun c3 => ?_)
  · replace h := (if_pos c3).symm.trans h
    refine g_iconst hC dX6_isBlank_12 (v := (1 : Int32)) (by decide) ?_
    refine g_goto hC dX6_isBlank_13 (tgt := 17) (by decide) ?_
    cases h
    exact g_zret hC (by decide) hE rfl dX6_isBlank_17 (Nat.zero_le _) (Nat.zero_le _) ⟨rfl, rfl, rfl, rfl, rfl, rfl⟩
  · replace h := (if_neg c3).symm.trans h
    refine g_iload_n hC dX6_isBlank_6 rfl (q := 0) rfl ?_
    refine g_bipush hC dX6_isBlank_7 (v := (10 : Int32)) (by decide) ?_
    refine g_ic_ne hC dX6_isBlank_9 (tgt := 16) (by decide) (fun c9 => ?_) (fun c9 => ?_)
    · replace h := (if_neg c9).symm.trans h
      refine g_iconst hC dX6_isBlank_16 (v := (0 : Int32)) (by decide) ?_
      cases h
      exact g_zret hC (by decide) hE rfl dX6_isBlank_17 (Nat.zero_le _) (Nat.zero_le _) ⟨rfl, rfl, rfl, rfl, rfl, rfl⟩
    · replace h := (if_pos c9).symm.trans h
      refine g_iconst hC dX6_isBlank_12 (v := (1 : Int32)) (by decide) ?_
      refine g_goto hC dX6_isBlank_13 (tgt := 17) (by decide) ?_
      cases h
      exact g_zret hC (by decide) hE rfl dX6_isBlank_17 (Nat.zero_le _) (Nat.zero_le _) ⟨rfl, rfl, rfl, rfl, rfl, rfl⟩
noncomputable def f_X6_isLetter (Fu : Nat)  (v0 : Int32) : Option (Int32) :=
  if v0 < (97 : Int32) then (some (0 : Int32)) else (if (122 : Int32) < v0 then (some (0 : Int32)) else (some (1 : Int32)))
set_option maxRecDepth 20000 in
theorem ok_X6_isLetter {l : Launch} {E : mEn} {Fu : Nat} {I : mIT} {R : mRT} {L : mLT} {v0 : Int32} (hst : l.stackTraces = false)  {out : Int32} (h : f_X6_isLetter Fu  v0 = some out) : mOk l E mX6_isLetter [.int v0] 106 1 I R L 0 0 (mSame (some (.int (out))) 106 1 I R L) := by
  refine mOk_of hst (by decide) (Nat.le_of_ble_eq_true rfl) (fun X hC hE _ => ?_)
  have hC : mC X E mX6_isLetter RX6 cX6_isLetter := hC
  show mG X E 0 [(0, .int v0)] [] 106 1 I R L 0 0
  unfold f_X6_isLetter at h
  refine g_iload_n hC dX6_isLetter_0 rfl (q := 0) rfl ?_
  refine g_bipush hC dX6_isLetter_1 (v := (97 : Int32)) (by decide) ?_
  refine g_ic_lt hC dX6_isLetter_3 (tgt := 16) (by decide) (fun c3 => ?_) (fun c3 => ?_)
  · replace h := (if_pos c3).symm.trans h
    refine g_iconst hC dX6_isLetter_16 (v := (0 : Int32)) (by decide) ?_
    cases h
    exact g_zret hC (by decide) hE rfl dX6_isLetter_17 (Nat.zero_le _) (Nat.zero_le _) ⟨rfl, rfl, rfl, rfl, rfl, rfl⟩
  · replace h := (if_neg c3).symm.trans h
    refine g_iload_n hC dX6_isLetter_6 rfl (q := 0) rfl ?_
    refine g_bipush hC dX6_isLetter_7 (v := (122 : Int32)) (by decide) ?_
    refine g_ic_gt hC dX6_isLetter_9 (tgt := 16) (by decide) (fun c9 => ?_) (fun c9 => ?_)
    · replace h := (if_pos c9).symm.trans h
      refine g_iconst hC dX6_isLetter_16 (v := (0 : Int32)) (by decide) ?_
      cases h
      exact g_zret hC (by decide) hE rfl dX6_isLetter_17 (Nat.zero_le _) (Nat.zero_le _) ⟨rfl, rfl, rfl, rfl, rfl, rfl⟩
    · replace h := (if_neg c9).symm.trans h
      refine g_iconst hC dX6_isLetter_12 (v := (1 : Int32)) (by decide) ?_
      refine g_goto hC dX6_isLetter_13 (tgt := 17) (by decide) ?_
      cases h
      exact g_zret hC (by decide) hE rfl dX6_isLetter_17 (Nat.zero_le _) (Nat.zero_le _) ⟨rfl, rfl, rfl, rfl, rfl, rfl⟩
noncomputable def f_X6_isDigit (Fu : Nat)  (v0 : Int32) : Option (Int32) :=
  if v0 < (48 : Int32) then (some (0 : Int32)) else (if (57 : Int32) < v0 then (some (0 : Int32)) else (some (1 : Int32)))
set_option maxRecDepth 20000 in
theorem ok_X6_isDigit {l : Launch} {E : mEn} {Fu : Nat} {I : mIT} {R : mRT} {L : mLT} {v0 : Int32} (hst : l.stackTraces = false)  {out : Int32} (h : f_X6_isDigit Fu  v0 = some out) : mOk l E mX6_isDigit [.int v0] 106 1 I R L 0 0 (mSame (some (.int (out))) 106 1 I R L) := by
  refine mOk_of hst (by decide) (Nat.le_of_ble_eq_true rfl) (fun X hC hE _ => ?_)
  have hC : mC X E mX6_isDigit RX6 cX6_isDigit := hC
  show mG X E 0 [(0, .int v0)] [] 106 1 I R L 0 0
  unfold f_X6_isDigit at h
  refine g_iload_n hC dX6_isDigit_0 rfl (q := 0) rfl ?_
  refine g_bipush hC dX6_isDigit_1 (v := (48 : Int32)) (by decide) ?_
  refine g_ic_lt hC dX6_isDigit_3 (tgt := 16) (by decide) (fun c3 => ?_) (fun c3 => ?_)
  · replace h := (if_pos c3).symm.trans h
    refine g_iconst hC dX6_isDigit_16 (v := (0 : Int32)) (by decide) ?_
    cases h
    exact g_zret hC (by decide) hE rfl dX6_isDigit_17 (Nat.zero_le _) (Nat.zero_le _) ⟨rfl, rfl, rfl, rfl, rfl, rfl⟩
  · replace h := (if_neg c3).symm.trans h
    refine g_iload_n hC dX6_isDigit_6 rfl (q := 0) rfl ?_
    refine g_bipush hC dX6_isDigit_7 (v := (57 : Int32)) (by decide) ?_
    refine g_ic_gt hC dX6_isDigit_9 (tgt := 16) (by decide) (fun c9 => ?_) (fun c9 => ?_)
    · replace h := (if_pos c9).symm.trans h
      refine g_iconst hC dX6_isDigit_16 (v := (0 : Int32)) (by decide) ?_
      cases h
      exact g_zret hC (by decide) hE rfl dX6_isDigit_17 (Nat.zero_le _) (Nat.zero_le _) ⟨rfl, rfl, rfl, rfl, rfl, rfl⟩
    · replace h := (if_neg c9).symm.trans h
      refine g_iconst hC dX6_isDigit_12 (v := (1 : Int32)) (by decide) ?_
      refine g_goto hC dX6_isDigit_13 (tgt := 17) (by decide) ?_
      cases h
      exact g_zret hC (by decide) hE rfl dX6_isDigit_17 (Nat.zero_le _) (Nat.zero_le _) ⟨rfl, rfl, rfl, rfl, rfl, rfl⟩
noncomputable def b_X6_stepNumber_10 (Fu : Nat) (k10_ : mIT → Option (mIT)) (I : mIT) : Option (mIT) :=
  if (I 1 2) ≤ (I 1 3) then (some (I)) else (oB (f_X6_byteAt Fu I (I 1 3)) (fun r26 => oB (f_X6_isDigit Fu r26) (fun r29 => if r29 = 0 then (some (I)) else (if (4 : Int32) < ((mU I 1 7 ((I 1 7) + (1 : Int32))) 1 7) then (k10_ (mU (mU (mU I 1 7 ((I 1 7) + (1 : Int32))) 1 8 ((mU I 1 7 ((I 1 7) + (1 : Int32))) 1 8)) 1 3 (((mU (mU I 1 7 ((I 1 7) + (1 : Int32))) 1 8 ((mU I 1 7 ((I 1 7) + (1 : Int32))) 1 8)) 1 3) + (1 : Int32)))) else (oB (f_X6_byteAt Fu (mU I 1 7 ((I 1 7) + (1 : Int32))) ((mU I 1 7 ((I 1 7) + (1 : Int32))) 1 3)) (fun r66 => k10_ (mU (mU (mU I 1 7 ((I 1 7) + (1 : Int32))) 1 8 ((((10 : Int32) * ((mU I 1 7 ((I 1 7) + (1 : Int32))) 1 8)) + r66) - (48 : Int32))) 1 3 (((mU (mU I 1 7 ((I 1 7) + (1 : Int32))) 1 8 ((((10 : Int32) * ((mU I 1 7 ((I 1 7) + (1 : Int32))) 1 8)) + r66) - (48 : Int32))) 1 3) + (1 : Int32)))))))))
set_option maxRecDepth 20000 in
theorem bo_X6_stepNumber_10 {X : mXT} {E : mEn} {Fu : Nat} {R : mRT} {L : mLT}  (hC : mC X E mX6_stepNumber RX6 cX6_stepNumber) (hW : mWd R)   {out : mIT} (hE : mEd X E 0 0 (mSame none 106 1 (out) R L)) (k10_ : mIT → Option (mIT)) (hk10_ : ∀ (I : mIT),  k10_ I = some out → mG X E 10 [(0, .ref (mB E + 1))] [] 106 1 I R L 0 0) (I : mIT) (h : b_X6_stepNumber_10 Fu k10_ I = some out) : mG X E 10 [(0, .ref (mB E + 1))] [] 106 1 I R L 0 0 := by
  unfold b_X6_stepNumber_10 at h
  refine g_aload_n hC dX6_stepNumber_10 rfl (q := 0) rfl ?_
  refine g_geti hC fd_RX6_22 rfl (by decide) (Or.inl rfl) dX6_stepNumber_11 ?_
  refine g_aload_n hC dX6_stepNumber_14 rfl (q := 0) rfl ?_
  refine g_geti hC fd_RX6_19 rfl (by decide) (Or.inl rfl) dX6_stepNumber_15 ?_
  refine g_ic_ge hC dX6_stepNumber_18 (tgt := 96) (by decide) (fun c18 => ?_) (fun c18 => ?_)
  · replace h := (if_pos c18).symm.trans h
    cases h
    exact g_vret hC hE rfl dX6_stepNumber_96 (Nat.zero_le _) (Nat.zero_le _) ⟨rfl, rfl, rfl, rfl, rfl, rfl⟩
  · replace h := (if_neg c18).symm.trans h
    refine g_aload_n hC dX6_stepNumber_21 rfl (q := 0) rfl ?_
    refine g_aload_n hC dX6_stepNumber_22 rfl (q := 0) rfl ?_
    refine g_geti hC fd_RX6_22 rfl (by decide) (Or.inl rfl) dX6_stepNumber_23 ?_
    obtain ⟨r26, h26, h⟩ := oB_some h
    refine g_cV1 hC cv_X6_byteAt wd_928 ⟨Nat.le_of_ble_eq_true rfl, Nat.le_of_ble_eq_true rfl⟩ rfl (by decide) dX6_stepNumber_26 (As := [.int (I 1 3)]) (st := []) (ok_X6_byteAt hC.2.2.2.2.2.2.2.1 hW h26) rfl rfl (Nat.le_of_ble_eq_true rfl) ⟨Nat.zero_le _, Nat.zero_le _⟩ ?_
    obtain ⟨r29, h29, h⟩ := oB_some h
    refine g_cS1 hC cs_X6_isDigit wd_938 ⟨Nat.le_of_ble_eq_true rfl, Nat.le_of_ble_eq_true rfl⟩ dX6_stepNumber_29 (As := [.int r26]) (st := []) (ok_X6_isDigit hC.2.2.2.2.2.2.2.1  h29) rfl rfl (Nat.le_of_ble_eq_true rfl) ⟨Nat.zero_le _, Nat.zero_le _⟩ ?_
    refine g_if_eq hC dX6_stepNumber_32 (tgt := 96) (by decide) (fun c32 => ?_) (fun c32 => ?_)
    · replace h := (if_pos c32).symm.trans h
      cases h
      exact g_vret hC hE rfl dX6_stepNumber_96 (Nat.zero_le _) (Nat.zero_le _) ⟨rfl, rfl, rfl, rfl, rfl, rfl⟩
    · replace h := (if_neg c32).symm.trans h
      refine g_aload_n hC dX6_stepNumber_35 rfl (q := 0) rfl ?_
      refine g_dup hC dX6_stepNumber_36 rfl ?_
      refine g_geti hC fd_RX6_34 rfl (by decide) (Or.inl rfl) dX6_stepNumber_37 ?_
      refine g_iconst hC dX6_stepNumber_40 (v := (1 : Int32)) (by decide) ?_
      refine g_iadd hC dX6_stepNumber_41 ?_
      refine g_puti hC fd_RX6_34 rfl (by decide) rfl dX6_stepNumber_42 (nm_e ?_)
      refine g_aload_n hC dX6_stepNumber_45 rfl (q := 0) rfl ?_
      refine g_aload_n hC dX6_stepNumber_46 rfl (q := 0) rfl ?_
      refine g_geti hC fd_RX6_34 rfl (by decide) (Or.inl rfl) dX6_stepNumber_47 ?_
      refine g_iconst hC dX6_stepNumber_50 (v := (4 : Int32)) (by decide) ?_
      refine g_ic_gt hC dX6_stepNumber_51 (tgt := 76) (by decide) (fun c51 => ?_) (fun c51 => ?_)
      · replace h := (if_pos c51).symm.trans h
        refine g_aload_n hC dX6_stepNumber_76 rfl (q := 0) rfl ?_
        refine g_geti hC fd_RX6_37 rfl (by decide) (Or.inl rfl) dX6_stepNumber_77 ?_
        refine g_puti hC fd_RX6_37 rfl (by decide) rfl dX6_stepNumber_80 (nm_e ?_)
        refine g_aload_n hC dX6_stepNumber_83 rfl (q := 0) rfl ?_
        refine g_dup hC dX6_stepNumber_84 rfl ?_
        refine g_geti hC fd_RX6_22 rfl (by decide) (Or.inl rfl) dX6_stepNumber_85 ?_
        refine g_iconst hC dX6_stepNumber_88 (v := (1 : Int32)) (by decide) ?_
        refine g_iadd hC dX6_stepNumber_89 ?_
        refine g_puti hC fd_RX6_22 rfl (by decide) rfl dX6_stepNumber_90 (nm_e ?_)
        refine g_goto hC dX6_stepNumber_93 (tgt := 10) (by decide) ?_
        exact hk10_ (mU (mU (mU I 1 7 ((I 1 7) + (1 : Int32))) 1 8 ((mU I 1 7 ((I 1 7) + (1 : Int32))) 1 8)) 1 3 (((mU (mU I 1 7 ((I 1 7) + (1 : Int32))) 1 8 ((mU I 1 7 ((I 1 7) + (1 : Int32))) 1 8)) 1 3) + (1 : Int32))) h
      · replace h := (if_neg c51).symm.trans h
        refine g_bipush hC dX6_stepNumber_54 (v := (10 : Int32)) (by decide) ?_
        refine g_aload_n hC dX6_stepNumber_56 rfl (q := 0) rfl ?_
        refine g_geti hC fd_RX6_37 rfl (by decide) (Or.inl rfl) dX6_stepNumber_57 ?_
        refine g_imul hC dX6_stepNumber_60 ?_
        refine g_aload_n hC dX6_stepNumber_61 rfl (q := 0) rfl ?_
        refine g_aload_n hC dX6_stepNumber_62 rfl (q := 0) rfl ?_
        refine g_geti hC fd_RX6_22 rfl (by decide) (Or.inl rfl) dX6_stepNumber_63 ?_
        obtain ⟨r66, h66, h⟩ := oB_some h
        refine g_cV1 hC cv_X6_byteAt wd_928 ⟨Nat.le_of_ble_eq_true rfl, Nat.le_of_ble_eq_true rfl⟩ rfl (by decide) dX6_stepNumber_66 (As := [.int ((mU I 1 7 ((I 1 7) + (1 : Int32))) 1 3)]) (st := [.int ((10 : Int32) * ((mU I 1 7 ((I 1 7) + (1 : Int32))) 1 8)), .ref (mB E + 1)]) (ok_X6_byteAt hC.2.2.2.2.2.2.2.1 hW h66) rfl rfl (Nat.le_of_ble_eq_true rfl) ⟨Nat.zero_le _, Nat.zero_le _⟩ ?_
        refine g_iadd hC dX6_stepNumber_69 ?_
        refine g_bipush hC dX6_stepNumber_70 (v := (48 : Int32)) (by decide) ?_
        refine g_isub hC dX6_stepNumber_72 ?_
        refine g_goto hC dX6_stepNumber_73 (tgt := 80) (by decide) ?_
        refine g_puti hC fd_RX6_37 rfl (by decide) rfl dX6_stepNumber_80 (nm_e ?_)
        refine g_aload_n hC dX6_stepNumber_83 rfl (q := 0) rfl ?_
        refine g_dup hC dX6_stepNumber_84 rfl ?_
        refine g_geti hC fd_RX6_22 rfl (by decide) (Or.inl rfl) dX6_stepNumber_85 ?_
        refine g_iconst hC dX6_stepNumber_88 (v := (1 : Int32)) (by decide) ?_
        refine g_iadd hC dX6_stepNumber_89 ?_
        refine g_puti hC fd_RX6_22 rfl (by decide) rfl dX6_stepNumber_90 (nm_e ?_)
        refine g_goto hC dX6_stepNumber_93 (tgt := 10) (by decide) ?_
        exact hk10_ (mU (mU (mU I 1 7 ((I 1 7) + (1 : Int32))) 1 8 ((((10 : Int32) * ((mU I 1 7 ((I 1 7) + (1 : Int32))) 1 8)) + r66) - (48 : Int32))) 1 3 (((mU (mU I 1 7 ((I 1 7) + (1 : Int32))) 1 8 ((((10 : Int32) * ((mU I 1 7 ((I 1 7) + (1 : Int32))) 1 8)) + r66) - (48 : Int32))) 1 3) + (1 : Int32))) h
noncomputable def w_X6_stepNumber_10 (Fu : Nat)  (N : Nat) (I : mIT) : Option (mIT) :=
  loopF (fun self (s : mIT) => b_X6_stepNumber_10 Fu self s) N I
theorem wo_X6_stepNumber_10 {X : mXT} {E : mEn} {Fu : Nat} {R : mRT} {L : mLT}  (hC : mC X E mX6_stepNumber RX6 cX6_stepNumber) (hW : mWd R)   {out : mIT} (hE : mEd X E 0 0 (mSame none 106 1 (out) R L))  (N : Nat) (I : mIT) (h : w_X6_stepNumber_10 Fu  N I = some out) : mG X E 10 [(0, .ref (mB E + 1))] [] 106 1 I R L 0 0 :=
  loopF_ok (Gd := fun s : mIT => mG X E 10 [(0, .ref (mB E + 1))] [] 106 1 s R L 0 0) (fun self hs s h => bo_X6_stepNumber_10 hC hW hE self (fun I h => hs I h) s h) N I h
noncomputable def f_X6_stepNumber (Fu : Nat) (I : mIT)  : Option (mIT) :=
  w_X6_stepNumber_10 Fu Fu (mU (mU I 1 8 (0 : Int32)) 1 7 (0 : Int32))
set_option maxRecDepth 20000 in
theorem ok_X6_stepNumber {l : Launch} {E : mEn} {Fu : Nat} {I : mIT} {R : mRT} {L : mLT}  (hst : l.stackTraces = false) (hW : mWd R)  {out : mIT} (h : f_X6_stepNumber Fu I  = some out) : mOk l E mX6_stepNumber [.ref (mB E + 1)] 106 1 I R L 0 0 (mSame none 106 1 (out) R L) := by
  refine mOk_of hst (by decide) (Nat.le_of_ble_eq_true rfl) (fun X hC hE _ => ?_)
  have hC : mC X E mX6_stepNumber RX6 cX6_stepNumber := hC
  show mG X E 0 [(0, .ref (mB E + 1))] [] 106 1 I R L 0 0
  unfold f_X6_stepNumber at h
  refine g_aload_n hC dX6_stepNumber_0 rfl (q := 0) rfl ?_
  refine g_iconst hC dX6_stepNumber_1 (v := (0 : Int32)) (by decide) ?_
  refine g_puti hC fd_RX6_37 rfl (by decide) rfl dX6_stepNumber_2 (nm_e ?_)
  refine g_aload_n hC dX6_stepNumber_5 rfl (q := 0) rfl ?_
  refine g_iconst hC dX6_stepNumber_6 (v := (0 : Int32)) (by decide) ?_
  refine g_puti hC fd_RX6_34 rfl (by decide) rfl dX6_stepNumber_7 (nm_e ?_)
  exact wo_X6_stepNumber_10 hC hW hE Fu ((mU (mU I 1 8 (0 : Int32)) 1 7 (0 : Int32))) h
noncomputable def f_X6_isSign (Fu : Nat)  (v0 : Int32) : Option (Int32) :=
  if v0 = (59 : Int32) then (some (1 : Int32)) else (if v0 = (40 : Int32) then (some (1 : Int32)) else (if v0 = (41 : Int32) then (some (1 : Int32)) else (if v0 = (43 : Int32) then (some (1 : Int32)) else (if v0 = (45 : Int32) then (some (1 : Int32)) else (if v0 = (42 : Int32) then (some (1 : Int32)) else (if v0 = (47 : Int32) then (some (1 : Int32)) else (if v0 = (60 : Int32) then (some (1 : Int32)) else (if v0 = (61 : Int32) then (some (1 : Int32)) else (some (0 : Int32))))))))))
set_option maxRecDepth 20000 in
theorem ok_X6_isSign {l : Launch} {E : mEn} {Fu : Nat} {I : mIT} {R : mRT} {L : mLT} {v0 : Int32} (hst : l.stackTraces = false)  {out : Int32} (h : f_X6_isSign Fu  v0 = some out) : mOk l E mX6_isSign [.int v0] 106 1 I R L 0 0 (mSame (some (.int (out))) 106 1 I R L) := by
  refine mOk_of hst (by decide) (Nat.le_of_ble_eq_true rfl) (fun X hC hE _ => ?_)
  have hC : mC X E mX6_isSign RX6 cX6_isSign := hC
  show mG X E 0 [(0, .int v0)] [] 106 1 I R L 0 0
  unfold f_X6_isSign at h
  refine g_iload_n hC dX6_isSign_0 rfl (q := 0) rfl ?_
  refine g_bipush hC dX6_isSign_1 (v := (59 : Int32)) (by decide) ?_
  refine g_ic_eq hC dX6_isSign_3 (tgt := 54) (by decide) (fun c3 => ?_) (fun c3 => ?_)
  · replace h := (if_pos c3).symm.trans h
    refine g_iconst hC dX6_isSign_54 (v := (1 : Int32)) (by decide) ?_
    refine g_goto hC dX6_isSign_55 (tgt := 59) (by decide) ?_
    cases h
    exact g_zret hC (by decide) hE rfl dX6_isSign_59 (Nat.zero_le _) (Nat.zero_le _) ⟨rfl, rfl, rfl, rfl, rfl, rfl⟩
  · replace h := (if_neg c3).symm.trans h
    refine g_iload_n hC dX6_isSign_6 rfl (q := 0) rfl ?_
    refine g_bipush hC dX6_isSign_7 (v := (40 : Int32)) (by decide) ?_
    refine g_ic_eq hC dX6_isSign_9 (tgt := 54) (by decide) (fun c9 => ?_) (fun c9 => ?_)
    · replace h := (if_pos c9).symm.trans h
      refine g_iconst hC dX6_isSign_54 (v := (1 : Int32)) (by decide) ?_
      refine g_goto hC dX6_isSign_55 (tgt := 59) (by decide) ?_
      cases h
      exact g_zret hC (by decide) hE rfl dX6_isSign_59 (Nat.zero_le _) (Nat.zero_le _) ⟨rfl, rfl, rfl, rfl, rfl, rfl⟩
    · replace h := (if_neg c9).symm.trans h
      refine g_iload_n hC dX6_isSign_12 rfl (q := 0) rfl ?_
      refine g_bipush hC dX6_isSign_13 (v := (41 : Int32)) (by decide) ?_
      refine g_ic_eq hC dX6_isSign_15 (tgt := 54) (by decide) (fun c15 => ?_) (fun c15 => ?_)
      · replace h := (if_pos c15).symm.trans h
        refine g_iconst hC dX6_isSign_54 (v := (1 : Int32)) (by decide) ?_
        refine g_goto hC dX6_isSign_55 (tgt := 59) (by decide) ?_
        cases h
        exact g_zret hC (by decide) hE rfl dX6_isSign_59 (Nat.zero_le _) (Nat.zero_le _) ⟨rfl, rfl, rfl, rfl, rfl, rfl⟩
      · replace h := (if_neg c15).symm.trans h
        refine g_iload_n hC dX6_isSign_18 rfl (q := 0) rfl ?_
        refine g_bipush hC dX6_isSign_19 (v := (43 : Int32)) (by decide) ?_
        refine g_ic_eq hC dX6_isSign_21 (tgt := 54) (by decide) (fun c21 => ?_) (fun c21 => ?_)
        · replace h := (if_pos c21).symm.trans h
          refine g_iconst hC dX6_isSign_54 (v := (1 : Int32)) (by decide) ?_
          refine g_goto hC dX6_isSign_55 (tgt := 59) (by decide) ?_
          cases h
          exact g_zret hC (by decide) hE rfl dX6_isSign_59 (Nat.zero_le _) (Nat.zero_le _) ⟨rfl, rfl, rfl, rfl, rfl, rfl⟩
        · replace h := (if_neg c21).symm.trans h
          refine g_iload_n hC dX6_isSign_24 rfl (q := 0) rfl ?_
          refine g_bipush hC dX6_isSign_25 (v := (45 : Int32)) (by decide) ?_
          refine g_ic_eq hC dX6_isSign_27 (tgt := 54) (by decide) (fun c27 => ?_) (fun c27 => ?_)
          · replace h := (if_pos c27).symm.trans h
            refine g_iconst hC dX6_isSign_54 (v := (1 : Int32)) (by decide) ?_
            refine g_goto hC dX6_isSign_55 (tgt := 59) (by decide) ?_
            cases h
            exact g_zret hC (by decide) hE rfl dX6_isSign_59 (Nat.zero_le _) (Nat.zero_le _) ⟨rfl, rfl, rfl, rfl, rfl, rfl⟩
          · replace h := (if_neg c27).symm.trans h
            refine g_iload_n hC dX6_isSign_30 rfl (q := 0) rfl ?_
            refine g_bipush hC dX6_isSign_31 (v := (42 : Int32)) (by decide) ?_
            refine g_ic_eq hC dX6_isSign_33 (tgt := 54) (by decide) (fun c33 => ?_) (fun c33 => ?_)
            · replace h := (if_pos c33).symm.trans h
              refine g_iconst hC dX6_isSign_54 (v := (1 : Int32)) (by decide) ?_
              refine g_goto hC dX6_isSign_55 (tgt := 59) (by decide) ?_
              cases h
              exact g_zret hC (by decide) hE rfl dX6_isSign_59 (Nat.zero_le _) (Nat.zero_le _) ⟨rfl, rfl, rfl, rfl, rfl, rfl⟩
            · replace h := (if_neg c33).symm.trans h
              refine g_iload_n hC dX6_isSign_36 rfl (q := 0) rfl ?_
              refine g_bipush hC dX6_isSign_37 (v := (47 : Int32)) (by decide) ?_
              refine g_ic_eq hC dX6_isSign_39 (tgt := 54) (by decide) (fun c39 => ?_) (fun c39 => ?_)
              · replace h := (if_pos c39).symm.trans h
                refine g_iconst hC dX6_isSign_54 (v := (1 : Int32)) (by decide) ?_
                refine g_goto hC dX6_isSign_55 (tgt := 59) (by decide) ?_
                cases h
                exact g_zret hC (by decide) hE rfl dX6_isSign_59 (Nat.zero_le _) (Nat.zero_le _) ⟨rfl, rfl, rfl, rfl, rfl, rfl⟩
              · replace h := (if_neg c39).symm.trans h
                refine g_iload_n hC dX6_isSign_42 rfl (q := 0) rfl ?_
                refine g_bipush hC dX6_isSign_43 (v := (60 : Int32)) (by decide) ?_
                refine g_ic_eq hC dX6_isSign_45 (tgt := 54) (by decide) (fun c45 => ?_) (fun c45 => ?_)
                · replace h := (if_pos c45).symm.trans h
                  refine g_iconst hC dX6_isSign_54 (v := (1 : Int32)) (by decide) ?_
                  refine g_goto hC dX6_isSign_55 (tgt := 59) (by decide) ?_
                  cases h
                  exact g_zret hC (by decide) hE rfl dX6_isSign_59 (Nat.zero_le _) (Nat.zero_le _) ⟨rfl, rfl, rfl, rfl, rfl, rfl⟩
                · replace h := (if_neg c45).symm.trans h
                  refine g_iload_n hC dX6_isSign_48 rfl (q := 0) rfl ?_
                  refine g_bipush hC dX6_isSign_49 (v := (61 : Int32)) (by decide) ?_
                  refine g_ic_ne hC dX6_isSign_51 (tgt := 58) (by decide) (fun c51 => ?_) (fun c51 => ?_)
                  · replace h := (if_neg c51).symm.trans h
                    refine g_iconst hC dX6_isSign_58 (v := (0 : Int32)) (by decide) ?_
                    cases h
                    exact g_zret hC (by decide) hE rfl dX6_isSign_59 (Nat.zero_le _) (Nat.zero_le _) ⟨rfl, rfl, rfl, rfl, rfl, rfl⟩
                  · replace h := (if_pos c51).symm.trans h
                    refine g_iconst hC dX6_isSign_54 (v := (1 : Int32)) (by decide) ?_
                    refine g_goto hC dX6_isSign_55 (tgt := 59) (by decide) ?_
                    cases h
                    exact g_zret hC (by decide) hE rfl dX6_isSign_59 (Nat.zero_le _) (Nat.zero_le _) ⟨rfl, rfl, rfl, rfl, rfl, rfl⟩
noncomputable def b_X6_step_92 (Fu : Nat) (k92_ : mIT → Option (mIT)) (I : mIT) : Option (mIT) :=
  if (I 1 2) ≤ (I 1 3) then (some (I)) else (oB (f_X6_byteAt Fu I (I 1 3)) (fun r108 => oB (f_X6_isLetter Fu r108) (fun r111 => if r111 = 0 then (some (I)) else (k92_ (mU I 1 3 ((I 1 3) + (1 : Int32)))))))
set_option maxRecDepth 20000 in
theorem bo_X6_step_92 {X : mXT} {E : mEn} {Fu : Nat} {R : mRT} {L : mLT}  (hC : mC X E mX6_step RX6 cX6_step) (hW : mWd R)   {out : mIT} (hE : mEd X E 0 0 (mSame none 106 1 (out) R L)) (k92_ : mIT → Option (mIT)) (hk92_ : ∀ (I : mIT),  k92_ I = some out → mG X E 92 [(0, .ref (mB E + 1))] [] 106 1 I R L 0 0) (I : mIT) (h : b_X6_step_92 Fu k92_ I = some out) : mG X E 92 [(0, .ref (mB E + 1))] [] 106 1 I R L 0 0 := by
  unfold b_X6_step_92 at h
  refine g_aload_n hC dX6_step_92 rfl (q := 0) rfl ?_
  refine g_geti hC fd_RX6_22 rfl (by decide) (Or.inl rfl) dX6_step_93 ?_
  refine g_aload_n hC dX6_step_96 rfl (q := 0) rfl ?_
  refine g_geti hC fd_RX6_19 rfl (by decide) (Or.inl rfl) dX6_step_97 ?_
  refine g_ic_ge hC dX6_step_100 (tgt := 181) (by decide) (fun c100 => ?_) (fun c100 => ?_)
  · replace h := (if_pos c100).symm.trans h
    cases h
    exact g_vret hC hE rfl dX6_step_181 (Nat.zero_le _) (Nat.zero_le _) ⟨rfl, rfl, rfl, rfl, rfl, rfl⟩
  · replace h := (if_neg c100).symm.trans h
    refine g_aload_n hC dX6_step_103 rfl (q := 0) rfl ?_
    refine g_aload_n hC dX6_step_104 rfl (q := 0) rfl ?_
    refine g_geti hC fd_RX6_22 rfl (by decide) (Or.inl rfl) dX6_step_105 ?_
    obtain ⟨r108, h108, h⟩ := oB_some h
    refine g_cV1 hC cv_X6_byteAt wd_928 ⟨Nat.le_of_ble_eq_true rfl, Nat.le_of_ble_eq_true rfl⟩ rfl (by decide) dX6_step_108 (As := [.int (I 1 3)]) (st := []) (ok_X6_byteAt hC.2.2.2.2.2.2.2.1 hW h108) rfl rfl (Nat.le_of_ble_eq_true rfl) ⟨Nat.zero_le _, Nat.zero_le _⟩ ?_
    obtain ⟨r111, h111, h⟩ := oB_some h
    refine g_cS1 hC cs_X6_isLetter wd_935 ⟨Nat.le_of_ble_eq_true rfl, Nat.le_of_ble_eq_true rfl⟩ dX6_step_111 (As := [.int r108]) (st := []) (ok_X6_isLetter hC.2.2.2.2.2.2.2.1  h111) rfl rfl (Nat.le_of_ble_eq_true rfl) ⟨Nat.zero_le _, Nat.zero_le _⟩ ?_
    refine g_if_eq hC dX6_step_114 (tgt := 181) (by decide) (fun c114 => ?_) (fun c114 => ?_)
    · replace h := (if_pos c114).symm.trans h
      cases h
      exact g_vret hC hE rfl dX6_step_181 (Nat.zero_le _) (Nat.zero_le _) ⟨rfl, rfl, rfl, rfl, rfl, rfl⟩
    · replace h := (if_neg c114).symm.trans h
      refine g_aload_n hC dX6_step_117 rfl (q := 0) rfl ?_
      refine g_dup hC dX6_step_118 rfl ?_
      refine g_geti hC fd_RX6_22 rfl (by decide) (Or.inl rfl) dX6_step_119 ?_
      refine g_iconst hC dX6_step_122 (v := (1 : Int32)) (by decide) ?_
      refine g_iadd hC dX6_step_123 ?_
      refine g_puti hC fd_RX6_22 rfl (by decide) rfl dX6_step_124 (nm_e ?_)
      refine g_goto hC dX6_step_127 (tgt := 92) (by decide) ?_
      exact hk92_ (mU I 1 3 ((I 1 3) + (1 : Int32))) h
noncomputable def w_X6_step_92 (Fu : Nat)  (N : Nat) (I : mIT) : Option (mIT) :=
  loopF (fun self (s : mIT) => b_X6_step_92 Fu self s) N I
theorem wo_X6_step_92 {X : mXT} {E : mEn} {Fu : Nat} {R : mRT} {L : mLT}  (hC : mC X E mX6_step RX6 cX6_step) (hW : mWd R)   {out : mIT} (hE : mEd X E 0 0 (mSame none 106 1 (out) R L))  (N : Nat) (I : mIT) (h : w_X6_step_92 Fu  N I = some out) : mG X E 92 [(0, .ref (mB E + 1))] [] 106 1 I R L 0 0 :=
  loopF_ok (Gd := fun s : mIT => mG X E 92 [(0, .ref (mB E + 1))] [] 106 1 s R L 0 0) (fun self hs s h => bo_X6_step_92 hC hW hE self (fun I h => hs I h) s h) N I h
noncomputable def b_X6_step_38 (Fu : Nat)  (I : mIT) : Option (mIT) :=
  oB (f_X6_byteAt Fu (mU I 1 5 (I 1 3)) ((mU I 1 5 (I 1 3)) 1 3)) (fun r52 => if ((mU (mU I 1 5 (I 1 3)) 1 6 r52) 1 3) < ((mU (mU I 1 5 (I 1 3)) 1 6 r52) 1 2) then (oB (f_X6_isLetter Fu ((mU (mU I 1 5 (I 1 3)) 1 6 r52) 1 6)) (fun r81 => if r81 = 0 then (oB (f_X6_isDigit Fu ((mU (mU I 1 5 (I 1 3)) 1 6 r52) 1 6)) (fun r134 => if r134 = 0 then (oB (f_X6_isSign Fu ((mU (mU I 1 5 (I 1 3)) 1 6 r52) 1 6)) (fun r157 => if r157 = 0 then (some (mU (mU (mU (mU I 1 5 (I 1 3)) 1 6 r52) 1 4 (4 : Int32)) 1 3 (((mU (mU (mU I 1 5 (I 1 3)) 1 6 r52) 1 4 (4 : Int32)) 1 3) + (1 : Int32)))) else (some (mU (mU (mU (mU I 1 5 (I 1 3)) 1 6 r52) 1 4 (3 : Int32)) 1 3 (((mU (mU (mU I 1 5 (I 1 3)) 1 6 r52) 1 4 (3 : Int32)) 1 3) + (1 : Int32)))))) else (oB (f_X6_stepNumber Fu (mU (mU (mU I 1 5 (I 1 3)) 1 6 r52) 1 4 (2 : Int32))) (fun r146 => some (r146))))) else (w_X6_step_92 Fu Fu (mU (mU (mU I 1 5 (I 1 3)) 1 6 r52) 1 4 (1 : Int32))))) else (some (mU (mU (mU I 1 5 (I 1 3)) 1 6 r52) 1 4 (0 : Int32))))
set_option maxRecDepth 20000 in
theorem bo_X6_step_38 {X : mXT} {E : mEn} {Fu : Nat} {R : mRT} {L : mLT}  (hC : mC X E mX6_step RX6 cX6_step) (hW : mWd R)   {out : mIT} (hE : mEd X E 0 0 (mSame none 106 1 (out) R L))  (I : mIT) (h : b_X6_step_38 Fu  I = some out) : mG X E 38 [(0, .ref (mB E + 1))] [] 106 1 I R L 0 0 := by
  unfold b_X6_step_38 at h
  refine g_aload_n hC dX6_step_38 rfl (q := 0) rfl ?_
  refine g_aload_n hC dX6_step_39 rfl (q := 0) rfl ?_
  refine g_geti hC fd_RX6_22 rfl (by decide) (Or.inl rfl) dX6_step_40 ?_
  refine g_puti hC fd_RX6_28 rfl (by decide) rfl dX6_step_43 (nm_e ?_)
  refine g_aload_n hC dX6_step_46 rfl (q := 0) rfl ?_
  refine g_aload_n hC dX6_step_47 rfl (q := 0) rfl ?_
  refine g_aload_n hC dX6_step_48 rfl (q := 0) rfl ?_
  refine g_geti hC fd_RX6_22 rfl (by decide) (Or.inl rfl) dX6_step_49 ?_
  obtain ⟨r52, h52, h⟩ := oB_some h
  refine g_cV1 hC cv_X6_byteAt wd_928 ⟨Nat.le_of_ble_eq_true rfl, Nat.le_of_ble_eq_true rfl⟩ rfl (by decide) dX6_step_52 (As := [.int ((mU I 1 5 (I 1 3)) 1 3)]) (st := [.ref (mB E + 1)]) (ok_X6_byteAt hC.2.2.2.2.2.2.2.1 hW h52) rfl rfl (Nat.le_of_ble_eq_true rfl) ⟨Nat.zero_le _, Nat.zero_le _⟩ ?_
  refine g_puti hC fd_RX6_31 rfl (by decide) rfl dX6_step_55 (nm_e ?_)
  refine g_aload_n hC dX6_step_58 rfl (q := 0) rfl ?_
  refine g_geti hC fd_RX6_22 rfl (by decide) (Or.inl rfl) dX6_step_59 ?_
  refine g_aload_n hC dX6_step_62 rfl (q := 0) rfl ?_
  refine g_geti hC fd_RX6_19 rfl (by decide) (Or.inl rfl) dX6_step_63 ?_
  refine g_ic_lt hC dX6_step_66 (tgt := 77) (by decide) (fun c66 => ?_) (fun c66 => ?_)
  · replace h := (if_pos c66).symm.trans h
    refine g_aload_n hC dX6_step_77 rfl (q := 0) rfl ?_
    refine g_geti hC fd_RX6_31 rfl (by decide) (Or.inl rfl) dX6_step_78 ?_
    obtain ⟨r81, h81, h⟩ := oB_some h
    refine g_cS1 hC cs_X6_isLetter wd_935 ⟨Nat.le_of_ble_eq_true rfl, Nat.le_of_ble_eq_true rfl⟩ dX6_step_81 (As := [.int ((mU (mU I 1 5 (I 1 3)) 1 6 r52) 1 6)]) (st := []) (ok_X6_isLetter hC.2.2.2.2.2.2.2.1  h81) rfl rfl (Nat.le_of_ble_eq_true rfl) ⟨Nat.zero_le _, Nat.zero_le _⟩ ?_
    refine g_if_eq hC dX6_step_84 (tgt := 130) (by decide) (fun c84 => ?_) (fun c84 => ?_)
    · replace h := (if_pos c84).symm.trans h
      refine g_aload_n hC dX6_step_130 rfl (q := 0) rfl ?_
      refine g_geti hC fd_RX6_31 rfl (by decide) (Or.inl rfl) dX6_step_131 ?_
      obtain ⟨r134, h134, h⟩ := oB_some h
      refine g_cS1 hC cs_X6_isDigit wd_938 ⟨Nat.le_of_ble_eq_true rfl, Nat.le_of_ble_eq_true rfl⟩ dX6_step_134 (As := [.int ((mU (mU I 1 5 (I 1 3)) 1 6 r52) 1 6)]) (st := []) (ok_X6_isDigit hC.2.2.2.2.2.2.2.1  h134) rfl rfl (Nat.le_of_ble_eq_true rfl) ⟨Nat.zero_le _, Nat.zero_le _⟩ ?_
      refine g_if_eq hC dX6_step_137 (tgt := 152) (by decide) (fun c137 => ?_) (fun c137 => ?_)
      · replace h := (if_pos c137).symm.trans h
        refine g_aload_n hC dX6_step_152 rfl (q := 0) rfl ?_
        refine g_aload_n hC dX6_step_153 rfl (q := 0) rfl ?_
        refine g_geti hC fd_RX6_31 rfl (by decide) (Or.inl rfl) dX6_step_154 ?_
        obtain ⟨r157, h157, h⟩ := oB_some h
        refine g_cS1 hC cs_X6_isSign wd_945 ⟨Nat.le_of_ble_eq_true rfl, Nat.le_of_ble_eq_true rfl⟩ dX6_step_157 (As := [.int ((mU (mU I 1 5 (I 1 3)) 1 6 r52) 1 6)]) (st := [.ref (mB E + 1)]) (ok_X6_isSign hC.2.2.2.2.2.2.2.1  h157) rfl rfl (Nat.le_of_ble_eq_true rfl) ⟨Nat.zero_le _, Nat.zero_le _⟩ ?_
        refine g_if_eq hC dX6_step_160 (tgt := 167) (by decide) (fun c160 => ?_) (fun c160 => ?_)
        · replace h := (if_pos c160).symm.trans h
          refine g_iconst hC dX6_step_167 (v := (4 : Int32)) (by decide) ?_
          refine g_puti hC fd_RX6_25 rfl (by decide) rfl dX6_step_168 (nm_e ?_)
          refine g_aload_n hC dX6_step_171 rfl (q := 0) rfl ?_
          refine g_dup hC dX6_step_172 rfl ?_
          refine g_geti hC fd_RX6_22 rfl (by decide) (Or.inl rfl) dX6_step_173 ?_
          refine g_iconst hC dX6_step_176 (v := (1 : Int32)) (by decide) ?_
          refine g_iadd hC dX6_step_177 ?_
          refine g_puti hC fd_RX6_22 rfl (by decide) rfl dX6_step_178 (nm_e ?_)
          cases h
          exact g_vret hC hE rfl dX6_step_181 (Nat.zero_le _) (Nat.zero_le _) ⟨rfl, rfl, rfl, rfl, rfl, rfl⟩
        · replace h := (if_neg c160).symm.trans h
          refine g_iconst hC dX6_step_163 (v := (3 : Int32)) (by decide) ?_
          refine g_goto hC dX6_step_164 (tgt := 168) (by decide) ?_
          refine g_puti hC fd_RX6_25 rfl (by decide) rfl dX6_step_168 (nm_e ?_)
          refine g_aload_n hC dX6_step_171 rfl (q := 0) rfl ?_
          refine g_dup hC dX6_step_172 rfl ?_
          refine g_geti hC fd_RX6_22 rfl (by decide) (Or.inl rfl) dX6_step_173 ?_
          refine g_iconst hC dX6_step_176 (v := (1 : Int32)) (by decide) ?_
          refine g_iadd hC dX6_step_177 ?_
          refine g_puti hC fd_RX6_22 rfl (by decide) rfl dX6_step_178 (nm_e ?_)
          cases h
          exact g_vret hC hE rfl dX6_step_181 (Nat.zero_le _) (Nat.zero_le _) ⟨rfl, rfl, rfl, rfl, rfl, rfl⟩
      · replace h := (if_neg c137).symm.trans h
        refine g_aload_n hC dX6_step_140 rfl (q := 0) rfl ?_
        refine g_iconst hC dX6_step_141 (v := (2 : Int32)) (by decide) ?_
        refine g_puti hC fd_RX6_25 rfl (by decide) rfl dX6_step_142 (nm_e ?_)
        refine g_aload_n hC dX6_step_145 rfl (q := 0) rfl ?_
        obtain ⟨r146, h146, h⟩ := oB_some h
        refine g_cV0 hC cv_X6_stepNumber wd_941 ⟨Nat.le_of_ble_eq_true rfl, Nat.le_of_ble_eq_true rfl⟩ rfl (by decide) dX6_step_146 (As := []) (st := []) (ok_X6_stepNumber hC.2.2.2.2.2.2.2.1 hW h146) rfl rfl (Nat.le_of_ble_eq_true rfl) ⟨Nat.zero_le _, Nat.zero_le _⟩ ?_
        refine g_goto hC dX6_step_149 (tgt := 181) (by decide) ?_
        cases h
        exact g_vret hC hE rfl dX6_step_181 (Nat.zero_le _) (Nat.zero_le _) ⟨rfl, rfl, rfl, rfl, rfl, rfl⟩
    · replace h := (if_neg c84).symm.trans h
      refine g_aload_n hC dX6_step_87 rfl (q := 0) rfl ?_
      refine g_iconst hC dX6_step_88 (v := (1 : Int32)) (by decide) ?_
      refine g_puti hC fd_RX6_25 rfl (by decide) rfl dX6_step_89 (nm_e ?_)
      exact wo_X6_step_92 hC hW hE Fu ((mU (mU (mU I 1 5 (I 1 3)) 1 6 r52) 1 4 (1 : Int32))) h
  · replace h := (if_neg c66).symm.trans h
    refine g_aload_n hC dX6_step_69 rfl (q := 0) rfl ?_
    refine g_iconst hC dX6_step_70 (v := (0 : Int32)) (by decide) ?_
    refine g_puti hC fd_RX6_25 rfl (by decide) rfl dX6_step_71 (nm_e ?_)
    refine g_goto hC dX6_step_74 (tgt := 181) (by decide) ?_
    cases h
    exact g_vret hC hE rfl dX6_step_181 (Nat.zero_le _) (Nat.zero_le _) ⟨rfl, rfl, rfl, rfl, rfl, rfl⟩
noncomputable def b_X6_step_0 (Fu : Nat) (k0_ : mIT → Option (mIT)) (I : mIT) : Option (mIT) :=
  if (I 1 2) ≤ (I 1 3) then (b_X6_step_38 Fu I) else (oB (f_X6_byteAt Fu I (I 1 3)) (fun r16 => oB (f_X6_isBlank Fu r16) (fun r19 => if r19 = 0 then (b_X6_step_38 Fu I) else (k0_ (mU I 1 3 ((I 1 3) + (1 : Int32)))))))
set_option maxRecDepth 20000 in
theorem bo_X6_step_0 {X : mXT} {E : mEn} {Fu : Nat} {R : mRT} {L : mLT}  (hC : mC X E mX6_step RX6 cX6_step) (hW : mWd R)   {out : mIT} (hE : mEd X E 0 0 (mSame none 106 1 (out) R L)) (k0_ : mIT → Option (mIT)) (hk0_ : ∀ (I : mIT),  k0_ I = some out → mG X E 0 [(0, .ref (mB E + 1))] [] 106 1 I R L 0 0) (I : mIT) (h : b_X6_step_0 Fu k0_ I = some out) : mG X E 0 [(0, .ref (mB E + 1))] [] 106 1 I R L 0 0 := by
  unfold b_X6_step_0 at h
  refine g_aload_n hC dX6_step_0 rfl (q := 0) rfl ?_
  refine g_geti hC fd_RX6_22 rfl (by decide) (Or.inl rfl) dX6_step_1 ?_
  refine g_aload_n hC dX6_step_4 rfl (q := 0) rfl ?_
  refine g_geti hC fd_RX6_19 rfl (by decide) (Or.inl rfl) dX6_step_5 ?_
  refine g_ic_ge hC dX6_step_8 (tgt := 38) (by decide) (fun c8 => ?_) (fun c8 => ?_)
  · replace h := (if_pos c8).symm.trans h
    exact bo_X6_step_38 hC hW hE (I) h
  · replace h := (if_neg c8).symm.trans h
    refine g_aload_n hC dX6_step_11 rfl (q := 0) rfl ?_
    refine g_aload_n hC dX6_step_12 rfl (q := 0) rfl ?_
    refine g_geti hC fd_RX6_22 rfl (by decide) (Or.inl rfl) dX6_step_13 ?_
    obtain ⟨r16, h16, h⟩ := oB_some h
    refine g_cV1 hC cv_X6_byteAt wd_928 ⟨Nat.le_of_ble_eq_true rfl, Nat.le_of_ble_eq_true rfl⟩ rfl (by decide) dX6_step_16 (As := [.int (I 1 3)]) (st := []) (ok_X6_byteAt hC.2.2.2.2.2.2.2.1 hW h16) rfl rfl (Nat.le_of_ble_eq_true rfl) ⟨Nat.zero_le _, Nat.zero_le _⟩ ?_
    obtain ⟨r19, h19, h⟩ := oB_some h
    refine g_cS1 hC cs_X6_isBlank wd_932 ⟨Nat.le_of_ble_eq_true rfl, Nat.le_of_ble_eq_true rfl⟩ dX6_step_19 (As := [.int r16]) (st := []) (ok_X6_isBlank hC.2.2.2.2.2.2.2.1  h19) rfl rfl (Nat.le_of_ble_eq_true rfl) ⟨Nat.zero_le _, Nat.zero_le _⟩ ?_
    refine g_if_eq hC dX6_step_22 (tgt := 38) (by decide) (fun c22 => ?_) (fun c22 => ?_)
    · replace h := (if_pos c22).symm.trans h
      exact bo_X6_step_38 hC hW hE (I) h
    · replace h := (if_neg c22).symm.trans h
      refine g_aload_n hC dX6_step_25 rfl (q := 0) rfl ?_
      refine g_dup hC dX6_step_26 rfl ?_
      refine g_geti hC fd_RX6_22 rfl (by decide) (Or.inl rfl) dX6_step_27 ?_
      refine g_iconst hC dX6_step_30 (v := (1 : Int32)) (by decide) ?_
      refine g_iadd hC dX6_step_31 ?_
      refine g_puti hC fd_RX6_22 rfl (by decide) rfl dX6_step_32 (nm_e ?_)
      refine g_goto hC dX6_step_35 (tgt := 0) (by decide) ?_
      exact hk0_ (mU I 1 3 ((I 1 3) + (1 : Int32))) h
noncomputable def w_X6_step_0 (Fu : Nat)  (N : Nat) (I : mIT) : Option (mIT) :=
  loopF (fun self (s : mIT) => b_X6_step_0 Fu self s) N I
theorem wo_X6_step_0 {X : mXT} {E : mEn} {Fu : Nat} {R : mRT} {L : mLT}  (hC : mC X E mX6_step RX6 cX6_step) (hW : mWd R)   {out : mIT} (hE : mEd X E 0 0 (mSame none 106 1 (out) R L))  (N : Nat) (I : mIT) (h : w_X6_step_0 Fu  N I = some out) : mG X E 0 [(0, .ref (mB E + 1))] [] 106 1 I R L 0 0 :=
  loopF_ok (Gd := fun s : mIT => mG X E 0 [(0, .ref (mB E + 1))] [] 106 1 s R L 0 0) (fun self hs s h => bo_X6_step_0 hC hW hE self (fun I h => hs I h) s h) N I h
noncomputable def f_X6_step (Fu : Nat) (I : mIT)  : Option (mIT) :=
  w_X6_step_0 Fu Fu I
set_option maxRecDepth 20000 in
theorem ok_X6_step {l : Launch} {E : mEn} {Fu : Nat} {I : mIT} {R : mRT} {L : mLT}  (hst : l.stackTraces = false) (hW : mWd R)  {out : mIT} (h : f_X6_step Fu I  = some out) : mOk l E mX6_step [.ref (mB E + 1)] 106 1 I R L 0 0 (mSame none 106 1 (out) R L) := by
  refine mOk_of hst (by decide) (Nat.le_of_ble_eq_true rfl) (fun X hC hE _ => ?_)
  have hC : mC X E mX6_step RX6 cX6_step := hC
  show mG X E 0 [(0, .ref (mB E + 1))] [] 106 1 I R L 0 0
  unfold f_X6_step at h
  exact wo_X6_step_0 hC hW hE Fu (I) h
noncomputable def b_X6_isAtWord_28 (Fu : Nat) (I : mIT) (k1 : Nat) (k28_ : Int32 → Option (Int32)) (v2 : Int32) : Option (Int32) :=
  if (sLn k1) ≤ v2 then (some (1 : Int32)) else (if ((I 1 5) + v2) < 0 then (some (0 : Int32)) else (if (nI 700) ≤ ((I 1 5) + v2) then (some (0 : Int32)) else (oG (inB ((I 1 5) + v2) 700) (oG (inB v2 (sLN k1)) (if (I 2 (((I 1 5) + v2)).toNatClampNeg) = (sCh k1 (v2).toNatClampNeg) then (k28_ (v2 + (1 : Int32))) else (some (0 : Int32)))))))
set_option maxRecDepth 20000 in
theorem bo_X6_isAtWord_28 {X : mXT} {E : mEn} {Fu : Nat} {I : mIT} {R : mRT} {L : mLT} {k1 : Nat} (hC : mC X E mX6_isAtWord RX6 cX6_isAtWord) (hW : mWd R) (hk1 : k1 < 35)  {out : Int32} (hE : mEd X E 0 0 (mSame (some (.int (out))) 106 1 I R L)) (k28_ : Int32 → Option (Int32)) (hk28_ : ∀ (v2 : Int32),  k28_ v2 = some out → mG X E 28 [(0, .ref (mB E + 1)), (1, .ref (E.2.2.2 k1)), (2, .int v2)] [] 106 1 I R L 0 0) (v2 : Int32) (h : b_X6_isAtWord_28 Fu I k1 k28_ v2 = some out) : mG X E 28 [(0, .ref (mB E + 1)), (1, .ref (E.2.2.2 k1)), (2, .int v2)] [] 106 1 I R L 0 0 := by
  unfold b_X6_isAtWord_28 at h
  refine g_iload_n hC dX6_isAtWord_28 rfl (q := 2) rfl ?_
  refine g_aload_n hC dX6_isAtWord_29 rfl (q := 1) rfl ?_
  refine g_slen hC hk1 wd_961 ⟨Nat.le_of_ble_eq_true rfl, Nat.le_of_ble_eq_true rfl⟩ (Nat.le_of_ble_eq_true rfl) ⟨Nat.zero_le _, Nat.zero_le _⟩ dX6_isAtWord_30 ?_
  refine g_ic_ge hC dX6_isAtWord_33 (tgt := 78) (by decide) (fun c33 => ?_) (fun c33 => ?_)
  · replace h := (if_pos c33).symm.trans h
    refine g_iconst hC dX6_isAtWord_78 (v := (1 : Int32)) (by decide) ?_
    cases h
    exact g_zret hC (by decide) hE rfl dX6_isAtWord_79 (Nat.zero_le _) (Nat.zero_le _) ⟨rfl, rfl, rfl, rfl, rfl, rfl⟩
  · replace h := (if_neg c33).symm.trans h
    refine g_aload_n hC dX6_isAtWord_36 rfl (q := 0) rfl ?_
    refine g_geti hC fd_RX6_28 rfl (by decide) (Or.inl rfl) dX6_isAtWord_37 ?_
    refine g_iload_n hC dX6_isAtWord_40 rfl (q := 2) rfl ?_
    refine g_iadd hC dX6_isAtWord_41 ?_
    refine g_istore_n hC dX6_isAtWord_42 rfl rfl (by decide) (lv' := [(3, .int ((I 1 5) + v2)), (0, .ref (mB E + 1)), (1, .ref (E.2.2.2 k1)), (2, .int v2)]) rfl ?_
    refine g_iload_n hC dX6_isAtWord_43 rfl (q := 0) rfl ?_
    refine g_if_lt hC dX6_isAtWord_44 (tgt := 70) (by decide) (fun c44 => ?_) (fun c44 => ?_)
    · replace h := (if_pos c44).symm.trans h
      refine g_iconst hC dX6_isAtWord_70 (v := (0 : Int32)) (by decide) ?_
      cases h
      exact g_zret hC (by decide) hE rfl dX6_isAtWord_71 (Nat.zero_le _) (Nat.zero_le _) ⟨rfl, rfl, rfl, rfl, rfl, rfl⟩
    · replace h := (if_neg c44).symm.trans h
      refine g_iload_n hC dX6_isAtWord_47 rfl (q := 0) rfl ?_
      refine g_aload_n hC dX6_isAtWord_48 rfl (q := 1) rfl ?_
      refine g_getr hC fd_RX6_9 rfl (by decide) (C0 := "") (t0 := _) (Or.inr rfl) (rr_1_0 hW.1) dX6_isAtWord_49 ?_
      refine g_alenB hC rfl (by decide) dX6_isAtWord_52 ?_
      refine g_ic_ge hC dX6_isAtWord_53 (tgt := 70) (by decide) (fun c53 => ?_) (fun c53 => ?_)
      · replace h := (if_pos c53).symm.trans h
        refine g_iconst hC dX6_isAtWord_70 (v := (0 : Int32)) (by decide) ?_
        cases h
        exact g_zret hC (by decide) hE rfl dX6_isAtWord_71 (Nat.zero_le _) (Nat.zero_le _) ⟨rfl, rfl, rfl, rfl, rfl, rfl⟩
      · replace h := (if_neg c53).symm.trans h
        refine g_aload_n hC dX6_isAtWord_56 rfl (q := 1) rfl ?_
        refine g_getr hC fd_RX6_9 rfl (by decide) (C0 := "") (t0 := _) (Or.inr rfl) (rr_1_0 hW.1) dX6_isAtWord_57 ?_
        refine g_iload_n hC dX6_isAtWord_60 rfl (q := 0) rfl ?_
        obtain ⟨g61, h⟩ := oG_some h
        refine g_bald hC rfl (by decide) (inB_in g61) dX6_isAtWord_61 ?_
        refine g_aload_n hC dX6_isAtWord_62 rfl (q := 2) rfl ?_
        refine g_iload_n hC dX6_isAtWord_63 rfl (q := 3) rfl ?_
        obtain ⟨g64, h⟩ := oG_some h
        refine g_scha hC hk1 (inB_in g64) wd_971 ⟨Nat.le_of_ble_eq_true rfl, Nat.le_of_ble_eq_true rfl⟩ (Nat.le_of_ble_eq_true rfl) ⟨Nat.zero_le _, Nat.zero_le _⟩ dX6_isAtWord_64 ?_
        refine g_ic_eq hC dX6_isAtWord_67 (tgt := 72) (by decide) (fun c67 => ?_) (fun c67 => ?_)
        · replace h := (if_pos c67).symm.trans h
          refine g_iinc hC dX6_isAtWord_72 rfl (q := 3) rfl (w := (v2 + (1 : Int32))) rfl (by decide) (lv' := [(2, .int (v2 + (1 : Int32))), (3, .int ((I 1 5) + v2)), (0, .ref (mB E + 1)), (1, .ref (E.2.2.2 k1))]) rfl ?_
          refine g_goto hC dX6_isAtWord_75 (tgt := 28) (by decide) ?_
          refine g_lv [2, 3, 0] rfl ?_
          exact hk28_ (v2 + (1 : Int32)) h
        · replace h := (if_neg c67).symm.trans h
          refine g_iconst hC dX6_isAtWord_70 (v := (0 : Int32)) (by decide) ?_
          cases h
          exact g_zret hC (by decide) hE rfl dX6_isAtWord_71 (Nat.zero_le _) (Nat.zero_le _) ⟨rfl, rfl, rfl, rfl, rfl, rfl⟩
noncomputable def w_X6_isAtWord_28 (Fu : Nat) (I : mIT) (k1 : Nat)  (N : Nat) (v2 : Int32) : Option (Int32) :=
  loopF (fun self (s : Int32) => b_X6_isAtWord_28 Fu I k1 self s) N v2
theorem wo_X6_isAtWord_28 {X : mXT} {E : mEn} {Fu : Nat} {I : mIT} {R : mRT} {L : mLT} {k1 : Nat} (hC : mC X E mX6_isAtWord RX6 cX6_isAtWord) (hW : mWd R) (hk1 : k1 < 35)  {out : Int32} (hE : mEd X E 0 0 (mSame (some (.int (out))) 106 1 I R L))  (N : Nat) (v2 : Int32) (h : w_X6_isAtWord_28 Fu I k1  N v2 = some out) : mG X E 28 [(0, .ref (mB E + 1)), (1, .ref (E.2.2.2 k1)), (2, .int v2)] [] 106 1 I R L 0 0 :=
  loopF_ok (Gd := fun s : Int32 => mG X E 28 [(0, .ref (mB E + 1)), (1, .ref (E.2.2.2 k1)), (2, .int s)] [] 106 1 I R L 0 0) (fun self hs s h => bo_X6_isAtWord_28 hC hW hk1 hE self (fun v2 h => hs v2 h) s h) N v2 h
noncomputable def f_X6_isAtWord (Fu : Nat) (I : mIT) (k1 : Nat) : Option (Int32) :=
  if (I 1 4) = (1 : Int32) then (if ((I 1 3) - (I 1 5)) = (sLn k1) then (w_X6_isAtWord_28 Fu I k1 Fu (0 : Int32)) else (some (0 : Int32))) else (some (0 : Int32))
set_option maxRecDepth 20000 in
theorem ok_X6_isAtWord {l : Launch} {E : mEn} {Fu : Nat} {I : mIT} {R : mRT} {L : mLT} {k1 : Nat} (hst : l.stackTraces = false) (hW : mWd R) (hk1 : k1 < 35) {out : Int32} (h : f_X6_isAtWord Fu I k1 = some out) : mOk l E mX6_isAtWord [.ref (mB E + 1), .ref (E.2.2.2 k1)] 106 1 I R L 0 0 (mSame (some (.int (out))) 106 1 I R L) := by
  refine mOk_of hst (by decide) (Nat.le_of_ble_eq_true rfl) (fun X hC hE _ => ?_)
  have hC : mC X E mX6_isAtWord RX6 cX6_isAtWord := hC
  show mG X E 0 [(0, .ref (mB E + 1)), (1, .ref (E.2.2.2 k1))] [] 106 1 I R L 0 0
  unfold f_X6_isAtWord at h
  refine g_aload_n hC dX6_isAtWord_0 rfl (q := 0) rfl ?_
  refine g_geti hC fd_RX6_25 rfl (by decide) (Or.inl rfl) dX6_isAtWord_1 ?_
  refine g_iconst hC dX6_isAtWord_4 (v := (1 : Int32)) (by decide) ?_
  refine g_ic_ne hC dX6_isAtWord_5 (tgt := 24) (by decide) (fun c5 => ?_) (fun c5 => ?_)
  · replace h := (if_neg c5).symm.trans h
    refine g_iconst hC dX6_isAtWord_24 (v := (0 : Int32)) (by decide) ?_
    cases h
    exact g_zret hC (by decide) hE rfl dX6_isAtWord_25 (Nat.zero_le _) (Nat.zero_le _) ⟨rfl, rfl, rfl, rfl, rfl, rfl⟩
  · replace h := (if_pos c5).symm.trans h
    refine g_aload_n hC dX6_isAtWord_8 rfl (q := 0) rfl ?_
    refine g_geti hC fd_RX6_22 rfl (by decide) (Or.inl rfl) dX6_isAtWord_9 ?_
    refine g_aload_n hC dX6_isAtWord_12 rfl (q := 0) rfl ?_
    refine g_geti hC fd_RX6_28 rfl (by decide) (Or.inl rfl) dX6_isAtWord_13 ?_
    refine g_isub hC dX6_isAtWord_16 ?_
    refine g_aload_n hC dX6_isAtWord_17 rfl (q := 1) rfl ?_
    refine g_slen hC hk1 wd_961 ⟨Nat.le_of_ble_eq_true rfl, Nat.le_of_ble_eq_true rfl⟩ (Nat.le_of_ble_eq_true rfl) ⟨Nat.zero_le _, Nat.zero_le _⟩ dX6_isAtWord_18 ?_
    refine g_ic_eq hC dX6_isAtWord_21 (tgt := 26) (by decide) (fun c21 => ?_) (fun c21 => ?_)
    · replace h := (if_pos c21).symm.trans h
      refine g_iconst hC dX6_isAtWord_26 (v := (0 : Int32)) (by decide) ?_
      refine g_istore_n hC dX6_isAtWord_27 rfl rfl (by decide) (lv' := [(2, .int (0 : Int32)), (0, .ref (mB E + 1)), (1, .ref (E.2.2.2 k1))]) rfl ?_
      refine g_lv [1, 2, 0] rfl ?_
      exact wo_X6_isAtWord_28 hC hW hk1 hE Fu ((0 : Int32)) h
    · replace h := (if_neg c21).symm.trans h
      refine g_iconst hC dX6_isAtWord_24 (v := (0 : Int32)) (by decide) ?_
      cases h
      exact g_zret hC (by decide) hE rfl dX6_isAtWord_25 (Nat.zero_le _) (Nat.zero_le _) ⟨rfl, rfl, rfl, rfl, rfl, rfl⟩
