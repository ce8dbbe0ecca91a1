noncomputable def f_X11_soundingNow (Fu : Nat) (R : mRT) (I : mIT)  : Option (Int32 × mIT) :=
  oB (R 0 3) (fun p5 => oB (f_X1_layTo Fu I p5 40 (0 : Int32)) (fun r13 => oB (f_X1_soundingOn Fu r13 (0 : Int32)) (fun r21 => some (r21, r13))))
set_option maxRecDepth 20000 in
theorem ok_X11_soundingNow {l : Launch} {E : mEn} {Fu : Nat} {I : mIT} {R : mRT} {L : mLT}  (hst : l.stackTraces = false) (hW : mWd R)  {out : Int32 × mIT} (h : f_X11_soundingNow Fu R I  = some out) : mOk l E mX11_soundingNow [.ref (mB E + 0)] 106 1 I R L 0 0 (mSame (some (.int (out.1))) 106 1 (out.2) R L) := by
  refine mOk_of hst (by decide) (Nat.le_of_ble_eq_true rfl) (fun X hC hE _ => ?_)
  have hC : mC X E mX11_soundingNow RX11 cX11_soundingNow := hC
  show mG X E 0 [(0, .ref (mB E + 0))] [] 106 1 I R L 0 0
  unfold f_X11_soundingNow at h
  refine g_aload_n hC dX11_soundingNow_0 rfl (q := 0) rfl ?_
  refine g_getr hC fd_RX11_68 rfl (by decide) (C0 := _) (t0 := .int) (Or.inl rfl) (rr_0_11 hW.1) dX11_soundingNow_1 ?_
  refine g_aload_n hC dX11_soundingNow_4 rfl (q := 0) rfl ?_
  obtain ⟨p5, e5, h⟩ := oB_some h
  have hp5 : mO5 R p5 := ob5 hW.1 (hW.2.1 p5 e5)
  refine g_getr hC fd_RX11_27 rfl (by decide) (C0 := _) (t0 := .int) (Or.inl rfl) e5 dX11_soundingNow_5 ?_
  refine g_aload_n hC dX11_soundingNow_8 rfl (q := 0) rfl ?_
  refine g_getr hC fd_RX11_34 rfl (by decide) (C0 := _) (t0 := .int) (Or.inl rfl) (rr_0_4 hW.1) dX11_soundingNow_9 ?_
  refine g_iconst hC dX11_soundingNow_12 (v := (0 : Int32)) (by decide) ?_
  obtain ⟨r13, h13, h⟩ := oB_some h
  refine g_cV0 hC cv_X1_layTo wd_664 ⟨Nat.le_of_ble_eq_true rfl, Nat.le_of_ble_eq_true rfl⟩ rfl (by decide) dX11_soundingNow_13 (As := [.ref (mB E + p5), .ref (mB E + 40), .int (0 : Int32)]) (st := []) (ok_X1_layTo hC.2.2.2.2.2.2.2.1 hW hp5 (ob_40 hW.1) h13) rfl rfl (Nat.le_of_ble_eq_true rfl) ⟨Nat.zero_le _, Nat.zero_le _⟩ ?_
  refine g_aload_n hC dX11_soundingNow_16 rfl (q := 0) rfl ?_
  refine g_getr hC fd_RX11_68 rfl (by decide) (C0 := _) (t0 := .int) (Or.inl rfl) (rr_0_11 hW.1) dX11_soundingNow_17 ?_
  refine g_iconst hC dX11_soundingNow_20 (v := (0 : Int32)) (by decide) ?_
  obtain ⟨r21, h21, h⟩ := oB_some h
  refine g_cV1 hC cv_X1_soundingOn wd_695 ⟨Nat.le_of_ble_eq_true rfl, Nat.le_of_ble_eq_true rfl⟩ rfl (by decide) dX11_soundingNow_21 (As := [.int (0 : Int32)]) (st := []) (ok_X1_soundingOn hC.2.2.2.2.2.2.2.1 hW h21) rfl rfl (Nat.le_of_ble_eq_true rfl) ⟨Nat.zero_le _, Nat.zero_le _⟩ ?_
  cases h
  exact g_iret hC hE rfl dX11_soundingNow_24 (Nat.zero_le _) (Nat.zero_le _) ⟨rfl, rfl, rfl, rfl, rfl, rfl⟩
noncomputable def f_X1_noteOn (Fu : Nat) (I : mIT) (v1 : Int32) (v2 : Int32) : Option (Int32) :=
  if ((v1 * (10 : Int32)) + v2) < 0 then (some (0 : Int32)) else (if (nI 610) ≤ ((v1 * (10 : Int32)) + v2) then (some (0 : Int32)) else (oG (inB ((v1 * (10 : Int32)) + v2) 610) (some (I 59 (((v1 * (10 : Int32)) + v2)).toNatClampNeg))))
set_option maxRecDepth 20000 in
theorem ok_X1_noteOn {l : Launch} {E : mEn} {Fu : Nat} {I : mIT} {R : mRT} {L : mLT} {v1 : Int32} {v2 : Int32} (hst : l.stackTraces = false) (hW : mWd R)  {out : Int32} (h : f_X1_noteOn Fu I v1 v2 = some out) : mOk l E mX1_noteOn [.ref (mB E + 56), .int v1, .int v2] 106 1 I R L 0 0 (mSame (some (.int (out))) 106 1 I R L) := by
  refine mOk_of hst (by decide) (Nat.le_of_ble_eq_true rfl) (fun X hC hE _ => ?_)
  have hC : mC X E mX1_noteOn RX1 cX1_noteOn := hC
  show mG X E 0 [(0, .ref (mB E + 56)), (1, .int v1), (2, .int v2)] [] 106 1 I R L 0 0
  unfold f_X1_noteOn at h
  refine g_iload_n hC dX1_noteOn_0 rfl (q := 1) rfl ?_
  refine g_bipush hC dX1_noteOn_1 (v := (10 : Int32)) (by decide) ?_
  refine g_imul hC dX1_noteOn_3 ?_
  refine g_iload_n hC dX1_noteOn_4 rfl (q := 2) rfl ?_
  refine g_iadd hC dX1_noteOn_5 ?_
  refine g_istore_n hC dX1_noteOn_6 rfl rfl (by decide) (lv' := [(3, .int ((v1 * (10 : Int32)) + v2)), (0, .ref (mB E + 56)), (1, .int v1), (2, .int v2)]) rfl ?_
  refine g_iload_n hC dX1_noteOn_7 rfl (q := 0) rfl ?_
  refine g_if_lt hC dX1_noteOn_8 (tgt := 29) (by decide) (fun c8 => ?_) (fun c8 => ?_)
  · replace h := (if_pos c8).symm.trans h
    refine g_iconst hC dX1_noteOn_29 (v := (0 : Int32)) (by decide) ?_
    cases h
    exact g_iret hC hE rfl dX1_noteOn_30 (Nat.zero_le _) (Nat.zero_le _) ⟨rfl, rfl, rfl, rfl, rfl, rfl⟩
  · replace h := (if_neg c8).symm.trans h
    refine g_iload_n hC dX1_noteOn_11 rfl (q := 0) rfl ?_
    refine g_aload_n hC dX1_noteOn_12 rfl (q := 1) rfl ?_
    refine g_getr hC fd_RX1_18 rfl (by decide) (C0 := "") (t0 := _) (Or.inr rfl) (rr_56_1 hW.1) dX1_noteOn_13 ?_
    refine g_alenI hC rfl (by decide) dX1_noteOn_16 ?_
    refine g_ic_ge hC dX1_noteOn_17 (tgt := 29) (by decide) (fun c17 => ?_) (fun c17 => ?_)
    · replace h := (if_pos c17).symm.trans h
      refine g_iconst hC dX1_noteOn_29 (v := (0 : Int32)) (by decide) ?_
      cases h
      exact g_iret hC hE rfl dX1_noteOn_30 (Nat.zero_le _) (Nat.zero_le _) ⟨rfl, rfl, rfl, rfl, rfl, rfl⟩
    · replace h := (if_neg c17).symm.trans h
      refine g_aload_n hC dX1_noteOn_20 rfl (q := 1) rfl ?_
      refine g_getr hC fd_RX1_18 rfl (by decide) (C0 := "") (t0 := _) (Or.inr rfl) (rr_56_1 hW.1) dX1_noteOn_21 ?_
      refine g_iload_n hC dX1_noteOn_24 rfl (q := 0) rfl ?_
      obtain ⟨g25, h⟩ := oG_some h
      refine g_iald hC rfl (by decide) (inB_in g25) dX1_noteOn_25 ?_
      refine g_goto hC dX1_noteOn_26 (tgt := 30) (by decide) ?_
      cases h
      exact g_iret hC hE rfl dX1_noteOn_30 (Nat.zero_le _) (Nat.zero_le _) ⟨rfl, rfl, rfl, rfl, rfl, rfl⟩
noncomputable def b_X1_noteBits_5 (Fu : Nat) (I : mIT) (k5_ : Int32 × Int32 × Int32 × Int32 → Option (Int32)) (v1 : Int32) (v2 : Int32) (v3 : Int32) (v4 : Int32) : Option (Int32) :=
  if (10 : Int32) ≤ v4 then (some (v3)) else (if ((v2 >>> (v4 &&& 31)) &&& (1 : Int32)) = (1 : Int32) then (oB (f_X1_noteOn Fu I v1 v4) (fun r28 => k5_ (v1, v2, (v3 ||| ((1 : Int32) <<< (r28 &&& 31))), (v4 + (1 : Int32))))) else (k5_ (v1, v2, v3, (v4 + (1 : Int32)))))
set_option maxRecDepth 20000 in
theorem bo_X1_noteBits_5 {X : mXT} {E : mEn} {Fu : Nat} {I : mIT} {R : mRT} {L : mLT}  (hC : mC X E mX1_noteBits RX1 cX1_noteBits) (hW : mWd R)   {out : Int32} (hE : mEd X E 0 0 (mSame (some (.int (out))) 106 1 I R L)) (k5_ : Int32 × Int32 × Int32 × Int32 → Option (Int32)) (hk5_ : ∀ (v1 : Int32) (v2 : Int32) (v3 : Int32) (v4 : Int32),  k5_ (v1, v2, v3, v4) = some out → mG X E 5 [(0, .ref (mB E + 56)), (1, .int v1), (2, .int v2), (3, .int v3), (4, .int v4)] [] 106 1 I R L 0 0) (v1 : Int32) (v2 : Int32) (v3 : Int32) (v4 : Int32) (h : b_X1_noteBits_5 Fu I k5_ v1 v2 v3 v4 = some out) : mG X E 5 [(0, .ref (mB E + 56)), (1, .int v1), (2, .int v2), (3, .int v3), (4, .int v4)] [] 106 1 I R L 0 0 := by
  unfold b_X1_noteBits_5 at h
  refine g_iload hC dX1_noteBits_5 (q := 4) rfl ?_
  refine g_bipush hC dX1_noteBits_7 (v := (10 : Int32)) (by decide) ?_
  refine g_ic_ge hC dX1_noteBits_9 (tgt := 40) (by decide) (fun c9 => ?_) (fun c9 => ?_)
  · replace h := (if_pos c9).symm.trans h
    refine g_iload_n hC dX1_noteBits_40 rfl (q := 3) rfl ?_
    cases h
    exact g_iret hC hE rfl dX1_noteBits_41 (Nat.zero_le _) (Nat.zero_le _) ⟨rfl, rfl, rfl, rfl, rfl, rfl⟩
  · replace h := (if_neg c9).symm.trans h
    refine g_iload_n hC dX1_noteBits_12 rfl (q := 2) rfl ?_
    refine g_iload hC dX1_noteBits_13 (q := 4) rfl ?_
    refine g_ishr hC dX1_noteBits_15 ?_
    refine g_iconst hC dX1_noteBits_16 (v := (1 : Int32)) (by decide) ?_
    refine g_iand hC dX1_noteBits_17 ?_
    refine g_iconst hC dX1_noteBits_18 (v := (1 : Int32)) (by decide) ?_
    refine g_ic_ne hC dX1_noteBits_19 (tgt := 34) (by decide) (fun c19 => ?_) (fun c19 => ?_)
    · replace h := (if_neg c19).symm.trans h
      refine g_iinc hC dX1_noteBits_34 rfl (q := 4) rfl (w := (v4 + (1 : Int32))) rfl (by decide) (lv' := [(4, .int (v4 + (1 : Int32))), (0, .ref (mB E + 56)), (1, .int v1), (2, .int v2), (3, .int v3)]) rfl ?_
      refine g_goto hC dX1_noteBits_37 (tgt := 5) (by decide) ?_
      refine g_lv [1, 2, 3, 4, 0] rfl ?_
      exact hk5_ v1 v2 v3 (v4 + (1 : Int32)) h
    · replace h := (if_pos c19).symm.trans h
      refine g_iload_n hC dX1_noteBits_22 rfl (q := 3) rfl ?_
      refine g_iconst hC dX1_noteBits_23 (v := (1 : Int32)) (by decide) ?_
      refine g_aload_n hC dX1_noteBits_24 rfl (q := 0) rfl ?_
      refine g_iload_n hC dX1_noteBits_25 rfl (q := 1) rfl ?_
      refine g_iload hC dX1_noteBits_26 (q := 4) rfl ?_
      obtain ⟨r28, h28, h⟩ := oB_some h
      refine g_cV1 hC cv_X1_noteOn wd_703 ⟨Nat.le_of_ble_eq_true rfl, Nat.le_of_ble_eq_true rfl⟩ rfl (by decide) dX1_noteBits_28 (As := [.int v1, .int v4]) (st := [.int (1 : Int32), .int v3]) (ok_X1_noteOn hC.2.2.2.2.2.2.2.1 hW h28) rfl rfl (Nat.le_of_ble_eq_true rfl) ⟨Nat.zero_le _, Nat.zero_le _⟩ ?_
      refine g_ishl hC dX1_noteBits_31 ?_
      refine g_ior hC dX1_noteBits_32 ?_
      refine g_istore_n hC dX1_noteBits_33 rfl rfl (by decide) (lv' := [(3, .int (v3 ||| ((1 : Int32) <<< (r28 &&& 31)))), (0, .ref (mB E + 56)), (1, .int v1), (2, .int v2), (4, .int v4)]) rfl ?_
      refine g_iinc hC dX1_noteBits_34 rfl (q := 4) rfl (w := (v4 + (1 : Int32))) rfl (by decide) (lv' := [(4, .int (v4 + (1 : Int32))), (3, .int (v3 ||| ((1 : Int32) <<< (r28 &&& 31)))), (0, .ref (mB E + 56)), (1, .int v1), (2, .int v2)]) rfl ?_
      refine g_goto hC dX1_noteBits_37 (tgt := 5) (by decide) ?_
      refine g_lv [2, 3, 4, 1, 0] rfl ?_
      exact hk5_ v1 v2 (v3 ||| ((1 : Int32) <<< (r28 &&& 31))) (v4 + (1 : Int32)) h
noncomputable def w_X1_noteBits_5 (Fu : Nat) (I : mIT)  (N : Nat) (v1 : Int32) (v2 : Int32) (v3 : Int32) (v4 : Int32) : Option (Int32) :=
  loopF (fun self (s : Int32 × Int32 × Int32 × Int32) => b_X1_noteBits_5 Fu I self s.1 s.2.1 s.2.2.1 s.2.2.2) N (v1, v2, v3, v4)
theorem wo_X1_noteBits_5 {X : mXT} {E : mEn} {Fu : Nat} {I : mIT} {R : mRT} {L : mLT}  (hC : mC X E mX1_noteBits RX1 cX1_noteBits) (hW : mWd R)   {out : Int32} (hE : mEd X E 0 0 (mSame (some (.int (out))) 106 1 I R L))  (N : Nat) (v1 : Int32) (v2 : Int32) (v3 : Int32) (v4 : Int32) (h : w_X1_noteBits_5 Fu I  N v1 v2 v3 v4 = some out) : mG X E 5 [(0, .ref (mB E + 56)), (1, .int v1), (2, .int v2), (3, .int v3), (4, .int v4)] [] 106 1 I R L 0 0 :=
  loopF_ok (Gd := fun s : Int32 × Int32 × Int32 × Int32 => mG X E 5 [(0, .ref (mB E + 56)), (1, .int s.1), (2, .int s.2.1), (3, .int s.2.2.1), (4, .int s.2.2.2)] [] 106 1 I R L 0 0) (fun self hs s h => bo_X1_noteBits_5 hC hW hE self (fun v1 v2 v3 v4 h => hs (v1, v2, v3, v4) h) s.1 s.2.1 s.2.2.1 s.2.2.2 h) N (v1, v2, v3, v4) h
noncomputable def f_X1_noteBits (Fu : Nat) (I : mIT) (v1 : Int32) (v2 : Int32) : Option (Int32) :=
  w_X1_noteBits_5 Fu I Fu v1 v2 (0 : Int32) (0 : Int32)
set_option maxRecDepth 20000 in
theorem ok_X1_noteBits {l : Launch} {E : mEn} {Fu : Nat} {I : mIT} {R : mRT} {L : mLT} {v1 : Int32} {v2 : Int32} (hst : l.stackTraces = false) (hW : mWd R)  {out : Int32} (h : f_X1_noteBits Fu I v1 v2 = some out) : mOk l E mX1_noteBits [.ref (mB E + 56), .int v1, .int v2] 106 1 I R L 0 0 (mSame (some (.int (out))) 106 1 I R L) := by
  refine mOk_of hst (by decide) (Nat.le_of_ble_eq_true rfl) (fun X hC hE _ => ?_)
  have hC : mC X E mX1_noteBits RX1 cX1_noteBits := hC
  show mG X E 0 [(0, .ref (mB E + 56)), (1, .int v1), (2, .int v2)] [] 106 1 I R L 0 0
  unfold f_X1_noteBits at h
  refine g_iconst hC dX1_noteBits_0 (v := (0 : Int32)) (by decide) ?_
  refine g_istore_n hC dX1_noteBits_1 rfl rfl (by decide) (lv' := [(3, .int (0 : Int32)), (0, .ref (mB E + 56)), (1, .int v1), (2, .int v2)]) rfl ?_
  refine g_iconst hC dX1_noteBits_2 (v := (0 : Int32)) (by decide) ?_
  refine g_istore hC dX1_noteBits_3 rfl (by decide) (lv' := [(4, .int (0 : Int32)), (3, .int (0 : Int32)), (0, .ref (mB E + 56)), (1, .int v1), (2, .int v2)]) rfl ?_
  refine g_lv [2, 3, 4, 1, 0] rfl ?_
  exact wo_X1_noteBits_5 hC hW hE Fu (v1) (v2) ((0 : Int32)) ((0 : Int32)) h
noncomputable def f_X4_many (Fu : Nat) (I : mIT) (k0 : Nat) : Option (Int32) :=
  some (I k0 3)
set_option maxRecDepth 20000 in
theorem ok_X4_many {l : Launch} {E : mEn} {Fu : Nat} {I : mIT} {R : mRT} {L : mLT} {k0 : Nat} (hst : l.stackTraces = false) (hk0 : mO4 R k0) {out : Int32} (h : f_X4_many Fu I k0 = some out) : mOk l E mX4_many [.ref (mB E + k0)] 106 1 I R L 0 0 (mSame (some (.int (out))) 106 1 I R L) := by
  refine mOk_of hst (by decide) (Nat.le_of_ble_eq_true rfl) (fun X hC hE _ => ?_)
  have hC : mC X E mX4_many RX4 cX4_many := hC
  show mG X E 0 [(0, .ref (mB E + k0))] [] 106 1 I R L 0 0
  unfold f_X4_many at h
  refine g_aload_n hC dX4_many_0 rfl (q := 0) rfl ?_
  refine g_geti hC fd_RX4_21 hk0.2.1 hk0.1 (Or.inl rfl) dX4_many_1 ?_
  cases h
  exact g_iret hC hE rfl dX4_many_4 (Nat.zero_le _) (Nat.zero_le _) ⟨rfl, rfl, rfl, rfl, rfl, rfl⟩
noncomputable def f_X6_taped (Fu : Nat) (I : mIT)  : Option (Int32) :=
  some (I 1 1)
set_option maxRecDepth 20000 in
theorem ok_X6_taped {l : Launch} {E : mEn} {Fu : Nat} {I : mIT} {R : mRT} {L : mLT}  (hst : l.stackTraces = false) (hW : mWd R)  {out : Int32} (h : f_X6_taped Fu I  = some out) : mOk l E mX6_taped [.ref (mB E + 1)] 106 1 I R L 0 0 (mSame (some (.int (out))) 106 1 I R L) := by
  refine mOk_of hst (by decide) (Nat.le_of_ble_eq_true rfl) (fun X hC hE _ => ?_)
  have hC : mC X E mX6_taped RX6 cX6_taped := hC
  show mG X E 0 [(0, .ref (mB E + 1))] [] 106 1 I R L 0 0
  unfold f_X6_taped at h
  refine g_aload_n hC dX6_taped_0 rfl (q := 0) rfl ?_
  refine g_geti hC fd_RX6_15 rfl (by decide) (Or.inl rfl) dX6_taped_1 ?_
  cases h
  exact g_iret hC hE rfl dX6_taped_4 (Nat.zero_le _) (Nat.zero_le _) ⟨rfl, rfl, rfl, rfl, rfl, rfl⟩
noncomputable def f_X11_count (Fu : Nat) (R : mRT) (I : mIT) (v1 : Int32) : Option ((Int32 × mIT) ⊕ (Nat × mIT)) :=
  if v1 = (0 : Int32) then (oB (R 0 3) (fun p85 => some (.inl ((I p85 3), I)))) else if v1 = (1 : Int32) then (oB (f_X11_hangingBits Fu R I) (fun r93 => oB (f_J6_bitCount_0f7a4 Fu r93) (fun r96 => some (.inl (r96, I))))) else if v1 = (2 : Int32) then (oB (f_X9_day Fu I 40) (fun r104 => some (.inl (r104, I)))) else if v1 = (3 : Int32) then (oB (R 0 3) (fun p109 => oB (f_X9_day Fu I 40) (fun r116 => oB (f_X5_weatherOn Fu I p109 r116) (fun r119 => some (.inl (r119, I)))))) else if v1 = (4 : Int32) then (oB (R 0 3) (fun p124 => some (.inl ((I p124 5), I)))) else if v1 = (5 : Int32) then (oB (R 0 3) (fun p132 => some (.inl ((I p132 6), I)))) else if v1 = (6 : Int32) then (oB (R 0 3) (fun p140 => some (.inl ((I p140 8), I)))) else if v1 = (7 : Int32) then (oB (f_X11_soundingNow Fu R I) (fun r148 => some (.inl (r148.1, r148.2)))) else if v1 = (8 : Int32) then (oB (f_X11_bitsAt Fu R I (-1 : Int32)) (fun r154 => some (.inl (r154, I)))) else if v1 = (9 : Int32) then (oB (f_X11_bitsAt Fu R I (-2 : Int32)) (fun r161 => some (.inl (r161, I)))) else if v1 = (10 : Int32) then (oB (f_X11_soundingNow Fu R I) (fun r171 => oB (f_X1_noteBits Fu r171.2 (0 : Int32) r171.1) (fun r174 => some (.inl (r174, r171.2))))) else if v1 = (11 : Int32) then (oB (f_X0_many Fu I 42) (fun r182 => some (.inl (r182, I)))) else if v1 = (12 : Int32) then (oB (f_X4_many Fu I 44) (fun r190 => some (.inl (r190, I)))) else if v1 = (13 : Int32) then (oB (f_X6_taped Fu I) (fun r198 => some (.inl (r198, I)))) else if v1 = (14 : Int32) then (oG (inB (v1 - (14 : Int32)) 3) (some (.inl ((I 21 ((v1 - (14 : Int32))).toNatClampNeg), I)))) else if v1 = (15 : Int32) then (oG (inB (v1 - (14 : Int32)) 3) (some (.inl ((I 21 ((v1 - (14 : Int32))).toNatClampNeg), I)))) else if v1 = (16 : Int32) then (oG (inB (v1 - (14 : Int32)) 3) (some (.inl ((I 21 ((v1 - (14 : Int32))).toNatClampNeg), I)))) else (some (.inr (1, I)))
set_option maxRecDepth 20000 in
theorem oy_X11_count {l : Launch} {E : mEn} {Fu : Nat} {I : mIT} {R : mRT} {L : mLT} {v1 : Int32} (hst : l.stackTraces = false) (hW : mWd R)  {out : (Int32 × mIT) ⊕ (Nat × mIT)} (h : f_X11_count Fu R I v1 = some out) {mc ms : Nat} {post : Option Value → Nat → Nat → mIT → mRT → mLT → Prop} {px : String → Nat → Nat → mIT → mRT → mLT → Prop} (ho : Sum.elim (fun o : Int32 × mIT => post (some (.int (o.1))) 106 1 (o.2) R L) (fun q : Nat × mIT => 1 ≤ mc ∧ 6 ≤ ms ∧ px (xNm q.1) 106 1 q.2 R L) out) : mOx l E mX11_count [.ref (mB E + 0), .int v1] 106 1 I R L mc ms post px := by
  refine mOx_of hst (by decide) (Nat.le_of_ble_eq_true rfl) (fun X hC hE0 _ => ?_)
  have hE : mEx X E mc ms post px ∧ Sum.elim (fun o : Int32 × mIT => post (some (.int (o.1))) 106 1 (o.2) R L) (fun q : Nat × mIT => 1 ≤ mc ∧ 6 ≤ ms ∧ px (xNm q.1) 106 1 q.2 R L) out := ⟨hE0, ho⟩
  have hC : mC X E mX11_count RX11 cX11_count := hC
  show mG X E 0 [(0, .ref (mB E + 0)), (1, .int v1)] [] 106 1 I R L 0 0
  unfold f_X11_count at h
  refine g_iload_n hC dX11_count_0 rfl (q := 1) rfl ?_
  by_cases c1_0 : v1 = (0 : Int32)
  · replace h := (if_pos c1_0).symm.trans h
    refine g_tabI hC dX11_count_1 (off := 83) (tgt := 84) (by rw [c1_0]; decide) (by rw [c1_0]; decide) (by rw [c1_0]; rfl) (by decide) ?_
    refine g_aload_n hC dX11_count_84 rfl (q := 0) rfl ?_
    obtain ⟨p85, e85, h⟩ := oB_some h
    have hp85 : mO5 R p85 := ob5 hW.1 (hW.2.1 p85 e85)
    refine g_getr hC fd_RX11_27 rfl (by decide) (C0 := _) (t0 := .int) (Or.inl rfl) e85 dX11_count_85 ?_
    refine g_geti hC fd_RX11_140 hp85.2.1 hp85.1 (Or.inl rfl) dX11_count_88 ?_
    cases h
    exact g_xiret hC hE.1 rfl dX11_count_91 (Nat.zero_le _) (Nat.zero_le _) hE.2
  replace h := (if_neg c1_0).symm.trans h
  by_cases c1_1 : v1 = (1 : Int32)
  · replace h := (if_pos c1_1).symm.trans h
    refine g_tabI hC dX11_count_1 (off := 91) (tgt := 92) (by rw [c1_1]; decide) (by rw [c1_1]; decide) (by rw [c1_1]; rfl) (by decide) ?_
    refine g_aload_n hC dX11_count_92 rfl (q := 0) rfl ?_
    obtain ⟨r93, h93, h⟩ := oB_some h
    refine g_cV1 hC cv_X11_hangingBits wd_1146 ⟨Nat.le_of_ble_eq_true rfl, Nat.le_of_ble_eq_true rfl⟩ rfl (by decide) dX11_count_93 (As := []) (st := []) (ok_X11_hangingBits hC.2.2.2.2.2.2.2.1 hW h93) rfl rfl (Nat.le_of_ble_eq_true rfl) ⟨Nat.zero_le _, Nat.zero_le _⟩ ?_
    obtain ⟨r96, h96, h⟩ := oB_some h
    refine g_cS1 hC cs_J6_bitCount_0f7a4 wd_1154 ⟨Nat.le_of_ble_eq_true rfl, Nat.le_of_ble_eq_true rfl⟩ dX11_count_96 (As := [.int r93]) (st := []) (ok_J6_bitCount_0f7a4 hC.2.2.2.2.2.2.2.1  h96) rfl rfl (Nat.le_of_ble_eq_true rfl) ⟨Nat.zero_le _, Nat.zero_le _⟩ ?_
    cases h
    exact g_xiret hC hE.1 rfl dX11_count_99 (Nat.zero_le _) (Nat.zero_le _) hE.2
  replace h := (if_neg c1_1).symm.trans h
  by_cases c1_2 : v1 = (2 : Int32)
  · replace h := (if_pos c1_2).symm.trans h
    refine g_tabI hC dX11_count_1 (off := 99) (tgt := 100) (by rw [c1_2]; decide) (by rw [c1_2]; decide) (by rw [c1_2]; rfl) (by decide) ?_
    refine g_aload_n hC dX11_count_100 rfl (q := 0) rfl ?_
    refine g_getr hC fd_RX11_34 rfl (by decide) (C0 := _) (t0 := .int) (Or.inl rfl) (rr_0_4 hW.1) dX11_count_101 ?_
    obtain ⟨r104, h104, h⟩ := oB_some h
    refine g_cV1 hC cv_X9_day wd_539 ⟨Nat.le_of_ble_eq_true rfl, Nat.le_of_ble_eq_true rfl⟩ rfl (by decide) dX11_count_104 (As := []) (st := []) (ok_X9_day hC.2.2.2.2.2.2.2.1 (ob_40 hW.1) h104) rfl rfl (Nat.le_of_ble_eq_true rfl) ⟨Nat.zero_le _, Nat.zero_le _⟩ ?_
    cases h
    exact g_xiret hC hE.1 rfl dX11_count_107 (Nat.zero_le _) (Nat.zero_le _) hE.2
  replace h := (if_neg c1_2).symm.trans h
  by_cases c1_3 : v1 = (3 : Int32)
  · replace h := (if_pos c1_3).symm.trans h
    refine g_tabI hC dX11_count_1 (off := 107) (tgt := 108) (by rw [c1_3]; decide) (by rw [c1_3]; decide) (by rw [c1_3]; rfl) (by decide) ?_
    refine g_aload_n hC dX11_count_108 rfl (q := 0) rfl ?_
    obtain ⟨p109, e109, h⟩ := oB_some h
    have hp109 : mO5 R p109 := ob5 hW.1 (hW.2.1 p109 e109)
    refine g_getr hC fd_RX11_27 rfl (by decide) (C0 := _) (t0 := .int) (Or.inl rfl) e109 dX11_count_109 ?_
    refine g_aload_n hC dX11_count_112 rfl (q := 0) rfl ?_
    refine g_getr hC fd_RX11_34 rfl (by decide) (C0 := _) (t0 := .int) (Or.inl rfl) (rr_0_4 hW.1) dX11_count_113 ?_
    obtain ⟨r116, h116, h⟩ := oB_some h
    refine g_cV1 hC cv_X9_day wd_539 ⟨Nat.le_of_ble_eq_true rfl, Nat.le_of_ble_eq_true rfl⟩ rfl (by decide) dX11_count_116 (As := []) (st := [.ref (mB E + p109)]) (ok_X9_day hC.2.2.2.2.2.2.2.1 (ob_40 hW.1) h116) rfl rfl (Nat.le_of_ble_eq_true rfl) ⟨Nat.zero_le _, Nat.zero_le _⟩ ?_
    obtain ⟨r119, h119, h⟩ := oB_some h
    refine g_cV1 hC cv_X5_weatherOn wd_578 ⟨Nat.le_of_ble_eq_true rfl, Nat.le_of_ble_eq_true rfl⟩ hp109.2.1 hp109.1 dX11_count_119 (As := [.int r116]) (st := []) (ok_X5_weatherOn hC.2.2.2.2.2.2.2.1 hp109 h119) rfl rfl (Nat.le_of_ble_eq_true rfl) ⟨Nat.zero_le _, Nat.zero_le _⟩ ?_
    cases h
    exact g_xiret hC hE.1 rfl dX11_count_122 (Nat.zero_le _) (Nat.zero_le _) hE.2
  replace h := (if_neg c1_3).symm.trans h
  by_cases c1_4 : v1 = (4 : Int32)
  · replace h := (if_pos c1_4).symm.trans h
    refine g_tabI hC dX11_count_1 (off := 122) (tgt := 123) (by rw [c1_4]; decide) (by rw [c1_4]; decide) (by rw [c1_4]; rfl) (by decide) ?_
    refine g_aload_n hC dX11_count_123 rfl (q := 0) rfl ?_
    obtain ⟨p124, e124, h⟩ := oB_some h
    have hp124 : mO5 R p124 := ob5 hW.1 (hW.2.1 p124 e124)
    refine g_getr hC fd_RX11_27 rfl (by decide) (C0 := _) (t0 := .int) (Or.inl rfl) e124 dX11_count_124 ?_
    refine g_geti hC fd_RX11_157 hp124.2.1 hp124.1 (Or.inl rfl) dX11_count_127 ?_
    cases h
    exact g_xiret hC hE.1 rfl dX11_count_130 (Nat.zero_le _) (Nat.zero_le _) hE.2
  replace h := (if_neg c1_4).symm.trans h
  by_cases c1_5 : v1 = (5 : Int32)
  · replace h := (if_pos c1_5).symm.trans h
    refine g_tabI hC dX11_count_1 (off := 130) (tgt := 131) (by rw [c1_5]; decide) (by rw [c1_5]; decide) (by rw [c1_5]; rfl) (by decide) ?_
    refine g_aload_n hC dX11_count_131 rfl (q := 0) rfl ?_
    obtain ⟨p132, e132, h⟩ := oB_some h
    have hp132 : mO5 R p132 := ob5 hW.1 (hW.2.1 p132 e132)
    refine g_getr hC fd_RX11_27 rfl (by decide) (C0 := _) (t0 := .int) (Or.inl rfl) e132 dX11_count_132 ?_
    refine g_geti hC fd_RX11_160 hp132.2.1 hp132.1 (Or.inl rfl) dX11_count_135 ?_
    cases h
    exact g_xiret hC hE.1 rfl dX11_count_138 (Nat.zero_le _) (Nat.zero_le _) hE.2
  replace h := (if_neg c1_5).symm.trans h
  by_cases c1_6 : v1 = (6 : Int32)
  · replace h := (if_pos c1_6).symm.trans h
    refine g_tabI hC dX11_count_1 (off := 138) (tgt := 139) (by rw [c1_6]; decide) (by rw [c1_6]; decide) (by rw [c1_6]; rfl) (by decide) ?_
    refine g_aload_n hC dX11_count_139 rfl (q := 0) rfl ?_
    obtain ⟨p140, e140, h⟩ := oB_some h
    have hp140 : mO5 R p140 := ob5 hW.1 (hW.2.1 p140 e140)
    refine g_getr hC fd_RX11_27 rfl (by decide) (C0 := _) (t0 := .int) (Or.inl rfl) e140 dX11_count_140 ?_
    refine g_geti hC fd_RX11_163 hp140.2.1 hp140.1 (Or.inl rfl) dX11_count_143 ?_
    cases h
    exact g_xiret hC hE.1 rfl dX11_count_146 (Nat.zero_le _) (Nat.zero_le _) hE.2
  replace h := (if_neg c1_6).symm.trans h
  by_cases c1_7 : v1 = (7 : Int32)
  · replace h := (if_pos c1_7).symm.trans h
    refine g_tabI hC dX11_count_1 (off := 146) (tgt := 147) (by rw [c1_7]; decide) (by rw [c1_7]; decide) (by rw [c1_7]; rfl) (by decide) ?_
    refine g_aload_n hC dX11_count_147 rfl (q := 0) rfl ?_
    obtain ⟨r148, h148, h⟩ := oB_some h
    refine g_cV1 hC cv_X11_soundingNow wd_776 ⟨Nat.le_of_ble_eq_true rfl, Nat.le_of_ble_eq_true rfl⟩ rfl (by decide) dX11_count_148 (As := []) (st := []) (ok_X11_soundingNow hC.2.2.2.2.2.2.2.1 hW h148) rfl rfl (Nat.le_of_ble_eq_true rfl) ⟨Nat.zero_le _, Nat.zero_le _⟩ ?_
    cases h
    exact g_xiret hC hE.1 rfl dX11_count_151 (Nat.zero_le _) (Nat.zero_le _) hE.2
  replace h := (if_neg c1_7).symm.trans h
  by_cases c1_8 : v1 = (8 : Int32)
  · replace h := (if_pos c1_8).symm.trans h
    refine g_tabI hC dX11_count_1 (off := 151) (tgt := 152) (by rw [c1_8]; decide) (by rw [c1_8]; decide) (by rw [c1_8]; rfl) (by decide) ?_
    refine g_aload_n hC dX11_count_152 rfl (q := 0) rfl ?_
    refine g_iconst hC dX11_count_153 (v := (-1 : Int32)) (by decide) ?_
    obtain ⟨r154, h154, h⟩ := oB_some h
    refine g_cV1 hC cv_X11_bitsAt wd_1150 ⟨Nat.le_of_ble_eq_true rfl, Nat.le_of_ble_eq_true rfl⟩ rfl (by decide) dX11_count_154 (As := [.int (-1 : Int32)]) (st := []) (ok_X11_bitsAt hC.2.2.2.2.2.2.2.1 hW h154) rfl rfl (Nat.le_of_ble_eq_true rfl) ⟨Nat.zero_le _, Nat.zero_le _⟩ ?_
    cases h
    exact g_xiret hC hE.1 rfl dX11_count_157 (Nat.zero_le _) (Nat.zero_le _) hE.2
  replace h := (if_neg c1_8).symm.trans h
  by_cases c1_9 : v1 = (9 : Int32)
  · replace h := (if_pos c1_9).symm.trans h
    refine g_tabI hC dX11_count_1 (off := 157) (tgt := 158) (by rw [c1_9]; decide) (by rw [c1_9]; decide) (by rw [c1_9]; rfl) (by decide) ?_
    refine g_aload_n hC dX11_count_158 rfl (q := 0) rfl ?_
    refine g_bipush hC dX11_count_159 (v := (-2 : Int32)) (by decide) ?_
    obtain ⟨r161, h161, h⟩ := oB_some h
    refine g_cV1 hC cv_X11_bitsAt wd_1150 ⟨Nat.le_of_ble_eq_true rfl, Nat.le_of_ble_eq_true rfl⟩ rfl (by decide) dX11_count_161 (As := [.int (-2 : Int32)]) (st := []) (ok_X11_bitsAt hC.2.2.2.2.2.2.2.1 hW h161) rfl rfl (Nat.le_of_ble_eq_true rfl) ⟨Nat.zero_le _, Nat.zero_le _⟩ ?_
    cases h
    exact g_xiret hC hE.1 rfl dX11_count_164 (Nat.zero_le _) (Nat.zero_le _) hE.2
  replace h := (if_neg c1_9).symm.trans h
  by_cases c1_10 : v1 = (10 : Int32)
  · replace h := (if_pos c1_10).symm.trans h
    refine g_tabI hC dX11_count_1 (off := 164) (tgt := 165) (by rw [c1_10]; decide) (by rw [c1_10]; decide) (by rw [c1_10]; rfl) (by decide) ?_
    refine g_aload_n hC dX11_count_165 rfl (q := 0) rfl ?_
    refine g_getr hC fd_RX11_68 rfl (by decide) (C0 := _) (t0 := .int) (Or.inl rfl) (rr_0_11 hW.1) dX11_count_166 ?_
    refine g_iconst hC dX11_count_169 (v := (0 : Int32)) (by decide) ?_
    refine g_aload_n hC dX11_count_170 rfl (q := 0) rfl ?_
    obtain ⟨r171, h171, h⟩ := oB_some h
    refine g_cV1 hC cv_X11_soundingNow wd_776 ⟨Nat.le_of_ble_eq_true rfl, Nat.le_of_ble_eq_true rfl⟩ rfl (by decide) dX11_count_171 (As := []) (st := [.int (0 : Int32), .ref (mB E + 56)]) (ok_X11_soundingNow hC.2.2.2.2.2.2.2.1 hW h171) rfl rfl (Nat.le_of_ble_eq_true rfl) ⟨Nat.zero_le _, Nat.zero_le _⟩ ?_
    obtain ⟨r174, h174, h⟩ := oB_some h
    refine g_cV1 hC cv_X1_noteBits wd_699 ⟨Nat.le_of_ble_eq_true rfl, Nat.le_of_ble_eq_true rfl⟩ rfl (by decide) dX11_count_174 (As := [.int (0 : Int32), .int r171.1]) (st := []) (ok_X1_noteBits hC.2.2.2.2.2.2.2.1 hW h174) rfl rfl (Nat.le_of_ble_eq_true rfl) ⟨Nat.zero_le _, Nat.zero_le _⟩ ?_
    cases h
    exact g_xiret hC hE.1 rfl dX11_count_177 (Nat.zero_le _) (Nat.zero_le _) hE.2
  replace h := (if_neg c1_10).symm.trans h
  by_cases c1_11 : v1 = (11 : Int32)
  · replace h := (if_pos c1_11).symm.trans h
    refine g_tabI hC dX11_count_1 (off := 177) (tgt := 178) (by rw [c1_11]; decide) (by rw [c1_11]; decide) (by rw [c1_11]; rfl) (by decide) ?_
    refine g_aload_n hC dX11_count_178 rfl (q := 0) rfl ?_
    refine g_getr hC fd_RX11_41 rfl (by decide) (C0 := _) (t0 := .int) (Or.inl rfl) (rr_0_5 hW.1) dX11_count_179 ?_
    obtain ⟨r182, h182, h⟩ := oB_some h
    refine g_cV1 hC cv_X0_many wd_656 ⟨Nat.le_of_ble_eq_true rfl, Nat.le_of_ble_eq_true rfl⟩ rfl (by decide) dX11_count_182 (As := []) (st := []) (ok_X0_many hC.2.2.2.2.2.2.2.1 (ob_42 hW.1) h182) rfl rfl (Nat.le_of_ble_eq_true rfl) ⟨Nat.zero_le _, Nat.zero_le _⟩ ?_
    cases h
    exact g_xiret hC hE.1 rfl dX11_count_185 (Nat.zero_le _) (Nat.zero_le _) hE.2
  replace h := (if_neg c1_11).symm.trans h
  by_cases c1_12 : v1 = (12 : Int32)
  · replace h := (if_pos c1_12).symm.trans h
    refine g_tabI hC dX11_count_1 (off := 185) (tgt := 186) (by rw [c1_12]; decide) (by rw [c1_12]; decide) (by rw [c1_12]; rfl) (by decide) ?_
    refine g_aload_n hC dX11_count_186 rfl (q := 0) rfl ?_
    refine g_getr hC fd_RX11_48 rfl (by decide) (C0 := _) (t0 := .int) (Or.inl rfl) (rr_0_6 hW.1) dX11_count_187 ?_
    obtain ⟨r190, h190, h⟩ := oB_some h
    refine g_cV1 hC cv_X4_many wd_799 ⟨Nat.le_of_ble_eq_true rfl, Nat.le_of_ble_eq_true rfl⟩ rfl (by decide) dX11_count_190 (As := []) (st := []) (ok_X4_many hC.2.2.2.2.2.2.2.1 (ob_44 hW.1) h190) rfl rfl (Nat.le_of_ble_eq_true rfl) ⟨Nat.zero_le _, Nat.zero_le _⟩ ?_
    cases h
    exact g_xiret hC hE.1 rfl dX11_count_193 (Nat.zero_le _) (Nat.zero_le _) hE.2
  replace h := (if_neg c1_12).symm.trans h
  by_cases c1_13 : v1 = (13 : Int32)
  · replace h := (if_pos c1_13).symm.trans h
    refine g_tabI hC dX11_count_1 (off := 193) (tgt := 194) (by rw [c1_13]; decide) (by rw [c1_13]; decide) (by rw [c1_13]; rfl) (by decide) ?_
    refine g_aload_n hC dX11_count_194 rfl (q := 0) rfl ?_
    refine g_getr hC fd_RX11_10 rfl (by decide) (C0 := _) (t0 := .int) (Or.inl rfl) (rr_0_0 hW.1) dX11_count_195 ?_
    obtain ⟨r198, h198, h⟩ := oB_some h
    refine g_cV1 hC cv_X6_taped wd_523 ⟨Nat.le_of_ble_eq_true rfl, Nat.le_of_ble_eq_true rfl⟩ rfl (by decide) dX11_count_198 (As := []) (st := []) (ok_X6_taped hC.2.2.2.2.2.2.2.1 hW h198) rfl rfl (Nat.le_of_ble_eq_true rfl) ⟨Nat.zero_le _, Nat.zero_le _⟩ ?_
    cases h
    exact g_xiret hC hE.1 rfl dX11_count_201 (Nat.zero_le _) (Nat.zero_le _) hE.2
  replace h := (if_neg c1_13).symm.trans h
  by_cases c1_14 : v1 = (14 : Int32)
  · replace h := (if_pos c1_14).symm.trans h
    refine g_tabI hC dX11_count_1 (off := 201) (tgt := 202) (by rw [c1_14]; decide) (by rw [c1_14]; decide) (by rw [c1_14]; rfl) (by decide) ?_
    refine g_aload_n hC dX11_count_202 rfl (q := 0) rfl ?_
    refine g_getr hC fd_RX11_20 rfl (by decide) (C0 := "") (t0 := _) (Or.inr rfl) (rr_0_2 hW.1) dX11_count_203 ?_
    refine g_iload_n hC dX11_count_206 rfl (q := 1) rfl ?_
    refine g_bipush hC dX11_count_207 (v := (14 : Int32)) (by decide) ?_
    refine g_isub hC dX11_count_209 ?_
    obtain ⟨g210, h⟩ := oG_some h
    refine g_iald hC rfl (by decide) (inB_in g210) dX11_count_210 ?_
    cases h
    exact g_xiret hC hE.1 rfl dX11_count_211 (Nat.zero_le _) (Nat.zero_le _) hE.2
  replace h := (if_neg c1_14).symm.trans h
  by_cases c1_15 : v1 = (15 : Int32)
  · replace h := (if_pos c1_15).symm.trans h
    refine g_tabI hC dX11_count_1 (off := 201) (tgt := 202) (by rw [c1_15]; decide) (by rw [c1_15]; decide) (by rw [c1_15]; rfl) (by decide) ?_
    refine g_aload_n hC dX11_count_202 rfl (q := 0) rfl ?_
    refine g_getr hC fd_RX11_20 rfl (by decide) (C0 := "") (t0 := _) (Or.inr rfl) (rr_0_2 hW.1) dX11_count_203 ?_
    refine g_iload_n hC dX11_count_206 rfl (q := 1) rfl ?_
    refine g_bipush hC dX11_count_207 (v := (14 : Int32)) (by decide) ?_
    refine g_isub hC dX11_count_209 ?_
    obtain ⟨g210, h⟩ := oG_some h
    refine g_iald hC rfl (by decide) (inB_in g210) dX11_count_210 ?_
    cases h
    exact g_xiret hC hE.1 rfl dX11_count_211 (Nat.zero_le _) (Nat.zero_le _) hE.2
  replace h := (if_neg c1_15).symm.trans h
  by_cases c1_16 : v1 = (16 : Int32)
  · replace h := (if_pos c1_16).symm.trans h
    refine g_tabI hC dX11_count_1 (off := 201) (tgt := 202) (by rw [c1_16]; decide) (by rw [c1_16]; decide) (by rw [c1_16]; rfl) (by decide) ?_
    refine g_aload_n hC dX11_count_202 rfl (q := 0) rfl ?_
    refine g_getr hC fd_RX11_20 rfl (by decide) (C0 := "") (t0 := _) (Or.inr rfl) (rr_0_2 hW.1) dX11_count_203 ?_
    refine g_iload_n hC dX11_count_206 rfl (q := 1) rfl ?_
    refine g_bipush hC dX11_count_207 (v := (14 : Int32)) (by decide) ?_
    refine g_isub hC dX11_count_209 ?_
    obtain ⟨g210, h⟩ := oG_some h
    refine g_iald hC rfl (by decide) (inB_in g210) dX11_count_210 ?_
    cases h
    exact g_xiret hC hE.1 rfl dX11_count_211 (Nat.zero_le _) (Nat.zero_le _) hE.2
  replace h := (if_neg c1_16).symm.trans h
  refine g_tabO hC dX11_count_1 (sw_out (fun j hj1 hj2 => ?_)) (tgt := 212) (by decide) ?_
  · rcases (show j = 0 ∨ j = 1 ∨ j = 2 ∨ j = 3 ∨ j = 4 ∨ j = 5 ∨ j = 6 ∨ j = 7 ∨ j = 8 ∨ j = 9 ∨ j = 10 ∨ j = 11 ∨ j = 12 ∨ j = 13 ∨ j = 14 ∨ j = 15 ∨ j = 16 by omega) with rfl | rfl | rfl | rfl | rfl | rfl | rfl | rfl | rfl | rfl | rfl | rfl | rfl | rfl | rfl | rfl | rfl <;> assumption
  cases h
  have hq : 1 ≤ mc ∧ 6 ≤ ms ∧ px (xNm 1) 106 1 I R L := hE.2
  exact g_thr hC hE.1 tw_RX11_180 (j := 20) rfl dX11_count_212 dX11_count_215 dX11_count_216 dX11_count_218 dX11_count_221 (Nat.le_of_ble_eq_true rfl) (Nat.le_of_ble_eq_true rfl) (by decide) hq.1 hq.2.1 hq.2.2
theorem oi_X11_count {l : Launch} {E : mEn} {Fu : Nat} {I : mIT} {R : mRT} {L : mLT} {v1 : Int32} (hst : l.stackTraces = false) (hW : mWd R)  {out : Int32 × mIT} (h : f_X11_count Fu R I v1 = some (.inl out)) : mOx l E mX11_count [.ref (mB E + 0), .int v1] 106 1 I R L 0 0 (mSame (some (.int (out.1))) 106 1 (out.2) R L) (fun _ _ _ _ _ _ => False) := oy_X11_count hst hW h ⟨rfl, rfl, rfl, rfl, rfl, rfl⟩
theorem ox_X11_count {l : Launch} {E : mEn} {Fu : Nat} {I : mIT} {R : mRT} {L : mLT} {v1 : Int32} (hst : l.stackTraces = false) (hW : mWd R)  {q : Nat × mIT} (h : f_X11_count Fu R I v1 = some (.inr q)) : mOx l E mX11_count [.ref (mB E + 0), .int v1] 106 1 I R L 1 6 (fun _ _ _ _ _ _ => False) (mXp q.1 106 1 q.2 R L) := oy_X11_count hst hW h ⟨Nat.le_refl _, Nat.le_refl _, rfl, rfl, rfl, rfl, rfl, rfl⟩
noncomputable def b_X11_days_38 (Fu : Nat) (R : mRT) (k38_ : Int32 × Int32 × mIT → Option (Int32 × mIT)) (v1 : Int32) (v2 : Int32) (I : mIT) : Option (Int32 × mIT) :=
  if v1 ≤ v2 then (oB (f_X9_day Fu I 40) (fun r78 => some (r78, I))) else (oB (R 0 3) (fun p48 => oB (R 0 3) (fun p52 => oB (f_X9_day Fu I 40) (fun r59 => oB (f_X5_weatherOn Fu I p52 r59) (fun r62 => oB (f_X9_passDay Fu I 40 p48 r62) (fun r65 => k38_ (v1, (v2 + (1 : Int32)), r65)))))))
set_option maxRecDepth 20000 in
theorem bo_X11_days_38 {X : mXT} {E : mEn} {Fu : Nat} {R : mRT} {L : mLT}  (hC : mC X E mX11_days RX11 cX11_days) (hW : mWd R)   {out : Int32 × mIT} (hE : mEd X E 0 0 (mSame (some (.int (out.1))) 106 1 (out.2) R L)) (k38_ : Int32 × Int32 × mIT → Option (Int32 × mIT)) (hk38_ : ∀ (v1 : Int32) (v2 : Int32) (I : mIT),  k38_ (v1, v2, I) = some out → mG X E 38 [(0, .ref (mB E + 0)), (1, .int v1), (2, .int v2)] [] 106 1 I R L 0 0) (v1 : Int32) (v2 : Int32) (I : mIT) (h : b_X11_days_38 Fu R k38_ v1 v2 I = some out) : mG X E 38 [(0, .ref (mB E + 0)), (1, .int v1), (2, .int v2)] [] 106 1 I R L 0 0 := by
  unfold b_X11_days_38 at h
  refine g_iload_n hC dX11_days_38 rfl (q := 2) rfl ?_
  refine g_iload_n hC dX11_days_39 rfl (q := 1) rfl ?_
  refine g_ic_ge hC dX11_days_40 (tgt := 74) (by decide) (fun c40 => ?_) (fun c40 => ?_)
  · replace h := (if_pos c40).symm.trans h
    refine g_aload_n hC dX11_days_74 rfl (q := 0) rfl ?_
    refine g_getr hC fd_RX11_34 rfl (by decide) (C0 := _) (t0 := .int) (Or.inl rfl) (rr_0_4 hW.1) dX11_days_75 ?_
    obtain ⟨r78, h78, h⟩ := oB_some h
    refine g_cV1 hC cv_X9_day wd_539 ⟨Nat.le_of_ble_eq_true rfl, Nat.le_of_ble_eq_true rfl⟩ rfl (by decide) dX11_days_78 (As := []) (st := []) (ok_X9_day hC.2.2.2.2.2.2.2.1 (ob_40 hW.1) h78) rfl rfl (Nat.le_of_ble_eq_true rfl) ⟨Nat.zero_le _, Nat.zero_le _⟩ ?_
    cases h
    exact g_iret hC hE rfl dX11_days_81 (Nat.zero_le _) (Nat.zero_le _) ⟨rfl, rfl, rfl, rfl, rfl, rfl⟩
  · replace h := (if_neg c40).symm.trans h
    refine g_aload_n hC dX11_days_43 rfl (q := 0) rfl ?_
    refine g_getr hC fd_RX11_34 rfl (by decide) (C0 := _) (t0 := .int) (Or.inl rfl) (rr_0_4 hW.1) dX11_days_44 ?_
    refine g_aload_n hC dX11_days_47 rfl (q := 0) rfl ?_
    obtain ⟨p48, e48, h⟩ := oB_some h
    have hp48 : mO5 R p48 := ob5 hW.1 (hW.2.1 p48 e48)
    refine g_getr hC fd_RX11_27 rfl (by decide) (C0 := _) (t0 := .int) (Or.inl rfl) e48 dX11_days_48 ?_
    refine g_aload_n hC dX11_days_51 rfl (q := 0) rfl ?_
    obtain ⟨p52, e52, h⟩ := oB_some h
    have hp52 : mO5 R p52 := ob5 hW.1 (hW.2.1 p52 e52)
    refine g_getr hC fd_RX11_27 rfl (by decide) (C0 := _) (t0 := .int) (Or.inl rfl) e52 dX11_days_52 ?_
    refine g_aload_n hC dX11_days_55 rfl (q := 0) rfl ?_
    refine g_getr hC fd_RX11_34 rfl (by decide) (C0 := _) (t0 := .int) (Or.inl rfl) (rr_0_4 hW.1) dX11_days_56 ?_
    obtain ⟨r59, h59, h⟩ := oB_some h
    refine g_cV1 hC cv_X9_day wd_539 ⟨Nat.le_of_ble_eq_true rfl, Nat.le_of_ble_eq_true rfl⟩ rfl (by decide) dX11_days_59 (As := []) (st := [.ref (mB E + p52), .ref (mB E + p48), .ref (mB E + 40)]) (ok_X9_day hC.2.2.2.2.2.2.2.1 (ob_40 hW.1) h59) rfl rfl (Nat.le_of_ble_eq_true rfl) ⟨Nat.zero_le _, Nat.zero_le _⟩ ?_
    obtain ⟨r62, h62, h⟩ := oB_some h
    refine g_cV1 hC cv_X5_weatherOn wd_578 ⟨Nat.le_of_ble_eq_true rfl, Nat.le_of_ble_eq_true rfl⟩ hp52.2.1 hp52.1 dX11_days_62 (As := [.int r59]) (st := [.ref (mB E + p48), .ref (mB E + 40)]) (ok_X5_weatherOn hC.2.2.2.2.2.2.2.1 hp52 h62) rfl rfl (Nat.le_of_ble_eq_true rfl) ⟨Nat.zero_le _, Nat.zero_le _⟩ ?_
    obtain ⟨r65, h65, h⟩ := oB_some h
    refine g_cV0 hC cv_X9_passDay wd_582 ⟨Nat.le_of_ble_eq_true rfl, Nat.le_of_ble_eq_true rfl⟩ rfl (by decide) dX11_days_65 (As := [.ref (mB E + p48), .int r62]) (st := []) (ok_X9_passDay hC.2.2.2.2.2.2.2.1 (ob_40 hW.1) hp48 h65) rfl rfl (Nat.le_of_ble_eq_true rfl) ⟨Nat.zero_le _, Nat.zero_le _⟩ ?_
    refine g_iinc hC dX11_days_68 rfl (q := 2) rfl (w := (v2 + (1 : Int32))) rfl (by decide) (lv' := [(2, .int (v2 + (1 : Int32))), (0, .ref (mB E + 0)), (1, .int v1)]) rfl ?_
    refine g_goto hC dX11_days_71 (tgt := 38) (by decide) ?_
    refine g_lv [1, 2, 0] rfl ?_
    exact hk38_ v1 (v2 + (1 : Int32)) r65 h
noncomputable def w_X11_days_38 (Fu : Nat) (R : mRT)  (N : Nat) (v1 : Int32) (v2 : Int32) (I : mIT) : Option (Int32 × mIT) :=
  loopF (fun self (s : Int32 × Int32 × mIT) => b_X11_days_38 Fu R self s.1 s.2.1 s.2.2) N (v1, v2, I)
theorem wo_X11_days_38 {X : mXT} {E : mEn} {Fu : Nat} {R : mRT} {L : mLT}  (hC : mC X E mX11_days RX11 cX11_days) (hW : mWd R)   {out : Int32 × mIT} (hE : mEd X E 0 0 (mSame (some (.int (out.1))) 106 1 (out.2) R L))  (N : Nat) (v1 : Int32) (v2 : Int32) (I : mIT) (h : w_X11_days_38 Fu R  N v1 v2 I = some out) : mG X E 38 [(0, .ref (mB E + 0)), (1, .int v1), (2, .int v2)] [] 106 1 I R L 0 0 :=
  loopF_ok (Gd := fun s : Int32 × Int32 × mIT => mG X E 38 [(0, .ref (mB E + 0)), (1, .int s.1), (2, .int s.2.1)] [] 106 1 s.2.2 R L 0 0) (fun self hs s h => bo_X11_days_38 hC hW hE self (fun v1 v2 I h => hs (v1, v2, I) h) s.1 s.2.1 s.2.2 h) N (v1, v2, I) h
noncomputable def f_X11_days (Fu : Nat) (R : mRT) (I : mIT) (v1 : Int32) : Option (Int32 × mIT) :=
  if v1 < (1 : Int32) then (oB (f_X11_refuseAct Fu I (-1 : Int32)) (fun r28 => some (r28.1, r28.2))) else (if (30 : Int32) < v1 then (oB (f_X11_refuseAct Fu I (-1 : Int32)) (fun r28 => some (r28.1, r28.2))) else (oB (f_X9_day Fu I 40) (fun r15 => if (r15 + v1) ≤ (999 : Int32) then (oB (f_X11_beginAct Fu I) (fun r33 => w_X11_days_38 Fu R Fu v1 (0 : Int32) r33)) else (oB (f_X11_refuseAct Fu I (-1 : Int32)) (fun r28 => some (r28.1, r28.2))))))
set_option maxRecDepth 20000 in
theorem ok_X11_days {l : Launch} {E : mEn} {Fu : Nat} {I : mIT} {R : mRT} {L : mLT} {v1 : Int32} (hst : l.stackTraces = false) (hW : mWd R)  {out : Int32 × mIT} (h : f_X11_days Fu R I v1 = some out) : mOk l E mX11_days [.ref (mB E + 0), .int v1] 106 1 I R L 0 0 (mSame (some (.int (out.1))) 106 1 (out.2) R L) := by
  refine mOk_of hst (by decide) (Nat.le_of_ble_eq_true rfl) (fun X hC hE _ => ?_)
  have hC : mC X E mX11_days RX11 cX11_days := hC
  show mG X E 0 [(0, .ref (mB E + 0)), (1, .int v1)] [] 106 1 I R L 0 0
  unfold f_X11_days at h
  refine g_iload_n hC dX11_days_0 rfl (q := 1) rfl ?_
  refine g_iconst hC dX11_days_1 (v := (1 : Int32)) (by decide) ?_
  refine g_ic_lt hC dX11_days_2 (tgt := 26) (by decide) (fun c2 => ?_) (fun c2 => ?_)
  · replace h := (if_pos c2).symm.trans h
    refine g_aload_n hC dX11_days_26 rfl (q := 0) rfl ?_
    refine g_iconst hC dX11_days_27 (v := (-1 : Int32)) (by decide) ?_
    obtain ⟨r28, h28, h⟩ := oB_some h
    refine g_cV1 hC cv_X11_refuseAct wd_547 ⟨Nat.le_of_ble_eq_true rfl, Nat.le_of_ble_eq_true rfl⟩ rfl (by decide) dX11_days_28 (As := [.int (-1 : Int32)]) (st := []) (ok_X11_refuseAct hC.2.2.2.2.2.2.2.1 hW h28) rfl rfl (Nat.le_of_ble_eq_true rfl) ⟨Nat.zero_le _, Nat.zero_le _⟩ ?_
    cases h
    exact g_iret hC hE rfl dX11_days_31 (Nat.zero_le _) (Nat.zero_le _) ⟨rfl, rfl, rfl, rfl, rfl, rfl⟩
  · replace h := (if_neg c2).symm.trans h
    refine g_iload_n hC dX11_days_5 rfl (q := 1) rfl ?_
    refine g_bipush hC dX11_days_6 (v := (30 : Int32)) (by decide) ?_
    refine g_ic_gt hC dX11_days_8 (tgt := 26) (by decide) (fun c8 => ?_) (fun c8 => ?_)
    · replace h := (if_pos c8).symm.trans h
      refine g_aload_n hC dX11_days_26 rfl (q := 0) rfl ?_
      refine g_iconst hC dX11_days_27 (v := (-1 : Int32)) (by decide) ?_
      obtain ⟨r28, h28, h⟩ := oB_some h
      refine g_cV1 hC cv_X11_refuseAct wd_547 ⟨Nat.le_of_ble_eq_true rfl, Nat.le_of_ble_eq_true rfl⟩ rfl (by decide) dX11_days_28 (As := [.int (-1 : Int32)]) (st := []) (ok_X11_refuseAct hC.2.2.2.2.2.2.2.1 hW h28) rfl rfl (Nat.le_of_ble_eq_true rfl) ⟨Nat.zero_le _, Nat.zero_le _⟩ ?_
      cases h
      exact g_iret hC hE rfl dX11_days_31 (Nat.zero_le _) (Nat.zero_le _) ⟨rfl, rfl, rfl, rfl, rfl, rfl⟩
    · replace h := (if_neg c8).symm.trans h
      refine g_aload_n hC dX11_days_11 rfl (q := 0) rfl ?_
      refine g_getr hC fd_RX11_34 rfl (by decide) (C0 := _) (t0 := .int) (Or.inl rfl) (rr_0_4 hW.1) dX11_days_12 ?_
      obtain ⟨r15, h15, h⟩ := oB_some h
      refine g_cV1 hC cv_X9_day wd_539 ⟨Nat.le_of_ble_eq_true rfl, Nat.le_of_ble_eq_true rfl⟩ rfl (by decide) dX11_days_15 (As := []) (st := []) (ok_X9_day hC.2.2.2.2.2.2.2.1 (ob_40 hW.1) h15) rfl rfl (Nat.le_of_ble_eq_true rfl) ⟨Nat.zero_le _, Nat.zero_le _⟩ ?_
      refine g_iload_n hC dX11_days_18 rfl (q := 1) rfl ?_
      refine g_iadd hC dX11_days_19 ?_
      refine g_sipush hC dX11_days_20 (v := (999 : Int32)) (by decide) ?_
      refine g_ic_le hC dX11_days_23 (tgt := 32) (by decide) (fun c23 => ?_) (fun c23 => ?_)
      · replace h := (if_pos c23).symm.trans h
        refine g_aload_n hC dX11_days_32 rfl (q := 0) rfl ?_
        obtain ⟨r33, h33, h⟩ := oB_some h
        refine g_cV0 hC cv_X11_beginAct wd_551 ⟨Nat.le_of_ble_eq_true rfl, Nat.le_of_ble_eq_true rfl⟩ rfl (by decide) dX11_days_33 (As := []) (st := []) (ok_X11_beginAct hC.2.2.2.2.2.2.2.1 hW h33) rfl rfl (Nat.le_of_ble_eq_true rfl) ⟨Nat.zero_le _, Nat.zero_le _⟩ ?_
        refine g_iconst hC dX11_days_36 (v := (0 : Int32)) (by decide) ?_
        refine g_istore_n hC dX11_days_37 rfl rfl (by decide) (lv' := [(2, .int (0 : Int32)), (0, .ref (mB E + 0)), (1, .int v1)]) rfl ?_
        refine g_lv [1, 2, 0] rfl ?_
        exact wo_X11_days_38 hC hW hE Fu (v1) ((0 : Int32)) (r33) h
      · replace h := (if_neg c23).symm.trans h
        refine g_aload_n hC dX11_days_26 rfl (q := 0) rfl ?_
        refine g_iconst hC dX11_days_27 (v := (-1 : Int32)) (by decide) ?_
        obtain ⟨r28, h28, h⟩ := oB_some h
        refine g_cV1 hC cv_X11_refuseAct wd_547 ⟨Nat.le_of_ble_eq_true rfl, Nat.le_of_ble_eq_true rfl⟩ rfl (by decide) dX11_days_28 (As := [.int (-1 : Int32)]) (st := []) (ok_X11_refuseAct hC.2.2.2.2.2.2.2.1 hW h28) rfl rfl (Nat.le_of_ble_eq_true rfl) ⟨Nat.zero_le _, Nat.zero_le _⟩ ?_
        cases h
        exact g_iret hC hE rfl dX11_days_31 (Nat.zero_le _) (Nat.zero_le _) ⟨rfl, rfl, rfl, rfl, rfl, rfl⟩
noncomputable def f_X1_firmOn (Fu : Nat) (I : mIT) (v1 : Int32) : Option (Int32) :=
  if v1 < 0 then (some (0 : Int32)) else (if (nI 61) ≤ v1 then (some (0 : Int32)) else (oG (inB v1 61) (some (I 61 (v1).toNatClampNeg))))
set_option maxRecDepth 20000 in
theorem ok_X1_firmOn {l : Launch} {E : mEn} {Fu : Nat} {I : mIT} {R : mRT} {L : mLT} {v1 : Int32} (hst : l.stackTraces = false) (hW : mWd R)  {out : Int32} (h : f_X1_firmOn Fu I v1 = some out) : mOk l E mX1_firmOn [.ref (mB E + 56), .int v1] 106 1 I R L 0 0 (mSame (some (.int (out))) 106 1 I R L) := by
  refine mOk_of hst (by decide) (Nat.le_of_ble_eq_true rfl) (fun X hC hE _ => ?_)
  have hC : mC X E mX1_firmOn RX1 cX1_firmOn := hC
  show mG X E 0 [(0, .ref (mB E + 56)), (1, .int v1)] [] 106 1 I R L 0 0
  unfold f_X1_firmOn at h
  refine g_iload_n hC dX1_firmOn_0 rfl (q := 1) rfl ?_
  refine g_if_lt hC dX1_firmOn_1 (tgt := 22) (by decide) (fun c1 => ?_) (fun c1 => ?_)
  · replace h := (if_pos c1).symm.trans h
    refine g_iconst hC dX1_firmOn_22 (v := (0 : Int32)) (by decide) ?_
    cases h
    exact g_iret hC hE rfl dX1_firmOn_23 (Nat.zero_le _) (Nat.zero_le _) ⟨rfl, rfl, rfl, rfl, rfl, rfl⟩
  · replace h := (if_neg c1).symm.trans h
    refine g_iload_n hC dX1_firmOn_4 rfl (q := 1) rfl ?_
    refine g_aload_n hC dX1_firmOn_5 rfl (q := 0) rfl ?_
    refine g_getr hC fd_RX1_25 rfl (by decide) (C0 := "") (t0 := _) (Or.inr rfl) (rr_56_3 hW.1) dX1_firmOn_6 ?_
    refine g_alenI hC rfl (by decide) dX1_firmOn_9 ?_
    refine g_ic_ge hC dX1_firmOn_10 (tgt := 22) (by decide) (fun c10 => ?_) (fun c10 => ?_)
    · replace h := (if_pos c10).symm.trans h
      refine g_iconst hC dX1_firmOn_22 (v := (0 : Int32)) (by decide) ?_
      cases h
      exact g_iret hC hE rfl dX1_firmOn_23 (Nat.zero_le _) (Nat.zero_le _) ⟨rfl, rfl, rfl, rfl, rfl, rfl⟩
    · replace h := (if_neg c10).symm.trans h
      refine g_aload_n hC dX1_firmOn_13 rfl (q := 0) rfl ?_
      refine g_getr hC fd_RX1_25 rfl (by decide) (C0 := "") (t0 := _) (Or.inr rfl) (rr_56_3 hW.1) dX1_firmOn_14 ?_
      refine g_iload_n hC dX1_firmOn_17 rfl (q := 1) rfl ?_
      obtain ⟨g18, h⟩ := oG_some h
      refine g_iald hC rfl (by decide) (inB_in g18) dX1_firmOn_18 ?_
      refine g_goto hC dX1_firmOn_19 (tgt := 23) (by decide) ?_
      cases h
      exact g_iret hC hE rfl dX1_firmOn_23 (Nat.zero_le _) (Nat.zero_le _) ⟨rfl, rfl, rfl, rfl, rfl, rfl⟩
noncomputable def f_X5_isTuneIn (Fu : Nat) (I : mIT) (k0 : Nat) (v1 : Int32) : Option (Int32) :=
  if ((I k0 7) &&& (v1 ^^^ (-1 : Int32))) = 0 then (some (1 : Int32)) else (some (0 : Int32))
set_option maxRecDepth 20000 in
theorem ok_X5_isTuneIn {l : Launch} {E : mEn} {Fu : Nat} {I : mIT} {R : mRT} {L : mLT} {k0 : Nat} {v1 : Int32} (hst : l.stackTraces = false) (hk0 : mO5 R k0) {out : Int32} (h : f_X5_isTuneIn Fu I k0 v1 = some out) : mOk l E mX5_isTuneIn [.ref (mB E + k0), .int v1] 106 1 I R L 0 0 (mSame (some (.int (out))) 106 1 I R L) := by
  refine mOk_of hst (by decide) (Nat.le_of_ble_eq_true rfl) (fun X hC hE _ => ?_)
  have hC : mC X E mX5_isTuneIn RX5 cX5_isTuneIn := hC
  show mG X E 0 [(0, .ref (mB E + k0)), (1, .int v1)] [] 106 1 I R L 0 0
  unfold f_X5_isTuneIn at h
  refine g_aload_n hC dX5_isTuneIn_0 rfl (q := 0) rfl ?_
  refine g_geti hC fd_RX5_34 hk0.2.1 hk0.1 (Or.inl rfl) dX5_isTuneIn_1 ?_
  refine g_iload_n hC dX5_isTuneIn_4 rfl (q := 1) rfl ?_
  refine g_iconst hC dX5_isTuneIn_5 (v := (-1 : Int32)) (by decide) ?_
  refine g_ixor hC dX5_isTuneIn_6 ?_
  refine g_iand hC dX5_isTuneIn_7 ?_
  refine g_if_ne hC dX5_isTuneIn_8 (tgt := 15) (by decide) (fun c8 => ?_) (fun c8 => ?_)
  · replace h := (if_neg c8).symm.trans h
    refine g_iconst hC dX5_isTuneIn_15 (v := (0 : Int32)) (by decide) ?_
    cases h
    exact g_zret hC (by decide) hE rfl dX5_isTuneIn_16 (Nat.zero_le _) (Nat.zero_le _) ⟨rfl, rfl, rfl, rfl, rfl, rfl⟩
  · replace h := (if_pos c8).symm.trans h
    refine g_iconst hC dX5_isTuneIn_11 (v := (1 : Int32)) (by decide) ?_
    refine g_goto hC dX5_isTuneIn_12 (tgt := 16) (by decide) ?_
    cases h
    exact g_zret hC (by decide) hE rfl dX5_isTuneIn_16 (Nat.zero_le _) (Nat.zero_le _) ⟨rfl, rfl, rfl, rfl, rfl, rfl⟩
noncomputable def b_X11_earliest_2 (Fu : Nat) (R : mRT) (k2_ : Int32 × mIT → Option (Int32 × mIT)) (v1 : Int32) (I : mIT) : Option (Int32 × mIT) :=
  if (60 : Int32) < v1 then (some ((-1 : Int32), I)) else (oB (R 0 3) (fun p13 => oB (f_X1_layTo Fu I p13 40 v1) (fun r21 => oB (R 0 3) (fun p25 => oB (f_X1_firmOn Fu r21 v1) (fun r38 => oB (f_X1_noteBits Fu r21 v1 r38) (fun r41 => oB (f_X5_isTuneIn Fu r21 p25 r41) (fun r44 => if r44 = 0 then (k2_ ((v1 + (1 : Int32)), r21)) else (some (v1, r21)))))))))
set_option maxRecDepth 20000 in
theorem bo_X11_earliest_2 {X : mXT} {E : mEn} {Fu : Nat} {R : mRT} {L : mLT}  (hC : mC X E mX11_earliest RX11 cX11_earliest) (hW : mWd R)   {out : Int32 × mIT} (hE : mEd X E 0 0 (mSame (some (.int (out.1))) 106 1 (out.2) R L)) (k2_ : Int32 × mIT → Option (Int32 × mIT)) (hk2_ : ∀ (v1 : Int32) (I : mIT),  k2_ (v1, I) = some out → mG X E 2 [(0, .ref (mB E + 0)), (1, .int v1)] [] 106 1 I R L 0 0) (v1 : Int32) (I : mIT) (h : b_X11_earliest_2 Fu R k2_ v1 I = some out) : mG X E 2 [(0, .ref (mB E + 0)), (1, .int v1)] [] 106 1 I R L 0 0 := by
  unfold b_X11_earliest_2 at h
  refine g_iload_n hC dX11_earliest_2 rfl (q := 1) rfl ?_
  refine g_bipush hC dX11_earliest_3 (v := (60 : Int32)) (by decide) ?_
  refine g_ic_gt hC dX11_earliest_5 (tgt := 58) (by decide) (fun c5 => ?_) (fun c5 => ?_)
  · replace h := (if_pos c5).symm.trans h
    refine g_iconst hC dX11_earliest_58 (v := (-1 : Int32)) (by decide) ?_
    cases h
    exact g_iret hC hE rfl dX11_earliest_59 (Nat.zero_le _) (Nat.zero_le _) ⟨rfl, rfl, rfl, rfl, rfl, rfl⟩
  · replace h := (if_neg c5).symm.trans h
    refine g_aload_n hC dX11_earliest_8 rfl (q := 0) rfl ?_
    refine g_getr hC fd_RX11_68 rfl (by decide) (C0 := _) (t0 := .int) (Or.inl rfl) (rr_0_11 hW.1) dX11_earliest_9 ?_
    refine g_aload_n hC dX11_earliest_12 rfl (q := 0) rfl ?_
    obtain ⟨p13, e13, h⟩ := oB_some h
    have hp13 : mO5 R p13 := ob5 hW.1 (hW.2.1 p13 e13)
    refine g_getr hC fd_RX11_27 rfl (by decide) (C0 := _) (t0 := .int) (Or.inl rfl) e13 dX11_earliest_13 ?_
    refine g_aload_n hC dX11_earliest_16 rfl (q := 0) rfl ?_
    refine g_getr hC fd_RX11_34 rfl (by decide) (C0 := _) (t0 := .int) (Or.inl rfl) (rr_0_4 hW.1) dX11_earliest_17 ?_
    refine g_iload_n hC dX11_earliest_20 rfl (q := 1) rfl ?_
    obtain ⟨r21, h21, h⟩ := oB_some h
    refine g_cV0 hC cv_X1_layTo wd_664 ⟨Nat.le_of_ble_eq_true rfl, Nat.le_of_ble_eq_true rfl⟩ rfl (by decide) dX11_earliest_21 (As := [.ref (mB E + p13), .ref (mB E + 40), .int v1]) (st := []) (ok_X1_layTo hC.2.2.2.2.2.2.2.1 hW hp13 (ob_40 hW.1) h21) rfl rfl (Nat.le_of_ble_eq_true rfl) ⟨Nat.zero_le _, Nat.zero_le _⟩ ?_
    refine g_aload_n hC dX11_earliest_24 rfl (q := 0) rfl ?_
    obtain ⟨p25, e25, h⟩ := oB_some h
    have hp25 : mO5 R p25 := ob5 hW.1 (hW.2.1 p25 e25)
    refine g_getr hC fd_RX11_27 rfl (by decide) (C0 := _) (t0 := .int) (Or.inl rfl) e25 dX11_earliest_25 ?_
    refine g_aload_n hC dX11_earliest_28 rfl (q := 0) rfl ?_
    refine g_getr hC fd_RX11_68 rfl (by decide) (C0 := _) (t0 := .int) (Or.inl rfl) (rr_0_11 hW.1) dX11_earliest_29 ?_
    refine g_iload_n hC dX11_earliest_32 rfl (q := 1) rfl ?_
    refine g_aload_n hC dX11_earliest_33 rfl (q := 0) rfl ?_
    refine g_getr hC fd_RX11_68 rfl (by decide) (C0 := _) (t0 := .int) (Or.inl rfl) (rr_0_11 hW.1) dX11_earliest_34 ?_
    refine g_iload_n hC dX11_earliest_37 rfl (q := 1) rfl ?_
    obtain ⟨r38, h38, h⟩ := oB_some h
    refine g_cV1 hC cv_X1_firmOn wd_784 ⟨Nat.le_of_ble_eq_true rfl, Nat.le_of_ble_eq_true rfl⟩ rfl (by decide) dX11_earliest_38 (As := [.int v1]) (st := [.int v1, .ref (mB E + 56), .ref (mB E + p25)]) (ok_X1_firmOn hC.2.2.2.2.2.2.2.1 hW h38) rfl rfl (Nat.le_of_ble_eq_true rfl) ⟨Nat.zero_le _, Nat.zero_le _⟩ ?_
    obtain ⟨r41, h41, h⟩ := oB_some h
    refine g_cV1 hC cv_X1_noteBits wd_699 ⟨Nat.le_of_ble_eq_true rfl, Nat.le_of_ble_eq_true rfl⟩ rfl (by decide) dX11_earliest_41 (As := [.int v1, .int r38]) (st := [.ref (mB E + p25)]) (ok_X1_noteBits hC.2.2.2.2.2.2.2.1 hW h41) rfl rfl (Nat.le_of_ble_eq_true rfl) ⟨Nat.zero_le _, Nat.zero_le _⟩ ?_
    obtain ⟨r44, h44, h⟩ := oB_some h
    refine g_cV1 hC cv_X5_isTuneIn wd_707 ⟨Nat.le_of_ble_eq_true rfl, Nat.le_of_ble_eq_true rfl⟩ hp25.2.1 hp25.1 dX11_earliest_44 (As := [.int r41]) (st := []) (ok_X5_isTuneIn hC.2.2.2.2.2.2.2.1 hp25 h44) rfl rfl (Nat.le_of_ble_eq_true rfl) ⟨Nat.zero_le _, Nat.zero_le _⟩ ?_
    refine g_if_eq hC dX11_earliest_47 (tgt := 52) (by decide) (fun c47 => ?_) (fun c47 => ?_)
    · replace h := (if_pos c47).symm.trans h
      refine g_iinc hC dX11_earliest_52 rfl (q := 1) rfl (w := (v1 + (1 : Int32))) rfl (by decide) (lv' := [(1, .int (v1 + (1 : Int32))), (0, .ref (mB E + 0))]) rfl ?_
      refine g_goto hC dX11_earliest_55 (tgt := 2) (by decide) ?_
      refine g_lv [1, 0] rfl ?_
      exact hk2_ (v1 + (1 : Int32)) r21 h
    · replace h := (if_neg c47).symm.trans h
      refine g_iload_n hC dX11_earliest_50 rfl (q := 1) rfl ?_
      cases h
      exact g_iret hC hE rfl dX11_earliest_51 (Nat.zero_le _) (Nat.zero_le _) ⟨rfl, rfl, rfl, rfl, rfl, rfl⟩
noncomputable def w_X11_earliest_2 (Fu : Nat) (R : mRT)  (N : Nat) (v1 : Int32) (I : mIT) : Option (Int32 × mIT) :=
  loopF (fun self (s : Int32 × mIT) => b_X11_earliest_2 Fu R self s.1 s.2) N (v1, I)
theorem wo_X11_earliest_2 {X : mXT} {E : mEn} {Fu : Nat} {R : mRT} {L : mLT}  (hC : mC X E mX11_earliest RX11 cX11_earliest) (hW : mWd R)   {out : Int32 × mIT} (hE : mEd X E 0 0 (mSame (some (.int (out.1))) 106 1 (out.2) R L))  (N : Nat) (v1 : Int32) (I : mIT) (h : w_X11_earliest_2 Fu R  N v1 I = some out) : mG X E 2 [(0, .ref (mB E + 0)), (1, .int v1)] [] 106 1 I R L 0 0 :=
  loopF_ok (Gd := fun s : Int32 × mIT => mG X E 2 [(0, .ref (mB E + 0)), (1, .int s.1)] [] 106 1 s.2 R L 0 0) (fun self hs s h => bo_X11_earliest_2 hC hW hE self (fun v1 I h => hs (v1, I) h) s.1 s.2 h) N (v1, I) h
noncomputable def f_X11_earliest (Fu : Nat) (R : mRT) (I : mIT)  : Option (Int32 × mIT) :=
  w_X11_earliest_2 Fu R Fu (0 : Int32) I
set_option maxRecDepth 20000 in
theorem ok_X11_earliest {l : Launch} {E : mEn} {Fu : Nat} {I : mIT} {R : mRT} {L : mLT}  (hst : l.stackTraces = false) (hW : mWd R)  {out : Int32 × mIT} (h : f_X11_earliest Fu R I  = some out) : mOk l E mX11_earliest [.ref (mB E + 0)] 106 1 I R L 0 0 (mSame (some (.int (out.1))) 106 1 (out.2) R L) := by
  refine mOk_of hst (by decide) (Nat.le_of_ble_eq_true rfl) (fun X hC hE _ => ?_)
  have hC : mC X E mX11_earliest RX11 cX11_earliest := hC
  show mG X E 0 [(0, .ref (mB E + 0))] [] 106 1 I R L 0 0
  unfold f_X11_earliest at h
  refine g_iconst hC dX11_earliest_0 (v := (0 : Int32)) (by decide) ?_
  refine g_istore_n hC dX11_earliest_1 rfl rfl (by decide) (lv' := [(1, .int (0 : Int32)), (0, .ref (mB E + 0))]) rfl ?_
  refine g_lv [1, 0] rfl ?_
  exact wo_X11_earliest_2 hC hW hE Fu ((0 : Int32)) (I) h
noncomputable def f_X11_eat (Fu : Nat) (R : mRT) (I : mIT) (v1 : Int32) : Option ((Int32 × mIT) ⊕ (Nat × mIT)) :=
  oX (f_X11_checkRoot Fu R I v1) (fun r2 => oB (f_X9_placeOf Fu I 40 v1) (fun r10 => if r10 = (-2 : Int32) then (oG (inB (1 : Int32) 3) (oG (inB (1 : Int32) 3) (some (.inl ((0 : Int32), (mU I 21 ((1 : Int32)).toNatClampNeg ((I 21 ((1 : Int32)).toNatClampNeg) + (1 : Int32)))))))) else (oB (f_X11_beginAct Fu I) (fun r31 => oB (f_X9_setPlace Fu r31 40 v1 (-2 : Int32)) (fun r41 => some (.inl ((1 : Int32), r41)))))))
set_option maxRecDepth 20000 in
theorem oy_X11_eat {l : Launch} {E : mEn} {Fu : Nat} {I : mIT} {R : mRT} {L : mLT} {v1 : Int32} (hst : l.stackTraces = false) (hW : mWd R)  {out : (Int32 × mIT) ⊕ (Nat × mIT)} (h : f_X11_eat Fu R I v1 = some out) {mc ms : Nat} {post : Option Value → Nat → Nat → mIT → mRT → mLT → Prop} {px : String → Nat → Nat → mIT → mRT → mLT → Prop} (ho : Sum.elim (fun o : Int32 × mIT => post (some (.int (o.1))) 106 1 (o.2) R L) (fun q : Nat × mIT => 1 ≤ mc ∧ 6 ≤ ms ∧ px (xNm q.1) 106 1 q.2 R L) out) : mOx l E mX11_eat [.ref (mB E + 0), .int v1] 106 1 I R L mc ms post px := by
  refine mOx_of hst (by decide) (Nat.le_of_ble_eq_true rfl) (fun X hC hE0 _ => ?_)
  have hE : mEx X E mc ms post px ∧ Sum.elim (fun o : Int32 × mIT => post (some (.int (o.1))) 106 1 (o.2) R L) (fun q : Nat × mIT => 1 ≤ mc ∧ 6 ≤ ms ∧ px (xNm q.1) 106 1 q.2 R L) out := ⟨hE0, ho⟩
  have hC : mC X E mX11_eat RX11 cX11_eat := hC
  show mG X E 0 [(0, .ref (mB E + 0)), (1, .int v1)] [] 106 1 I R L 0 0
  unfold f_X11_eat at h
  refine g_aload_n hC dX11_eat_0 rfl (q := 0) rfl ?_
  refine g_iload_n hC dX11_eat_1 rfl (q := 1) rfl ?_
  rcases oX_some h with ⟨r2, h2, h⟩ | ⟨q2, h2, h⟩
  case inr =>
    subst h
    have hq : 1 ≤ mc ∧ 6 ≤ ms ∧ px (xNm q2.1) 106 1 q2.2 R L := hE.2
    exact g_cVz hC hE.1 cv_X11_checkRoot wd_1183 ⟨Nat.le_of_ble_eq_true rfl, Nat.le_of_ble_eq_true rfl⟩ rfl (by decide) dX11_eat_2 (As := [.int v1]) (st := []) (ox_X11_checkRoot hC.2.2.2.2.2.2.2.1 hW h2) rfl rfl (Nat.le_of_ble_eq_true rfl) ⟨by omega, by omega⟩ hq.2.2
  refine g_cVy0 hC hE.1 cv_X11_checkRoot wd_1183 ⟨Nat.le_of_ble_eq_true rfl, Nat.le_of_ble_eq_true rfl⟩ rfl (by decide) dX11_eat_2 (As := [.int v1]) (st := []) (oi_X11_checkRoot hC.2.2.2.2.2.2.2.1 hW h2) rfl rfl (Nat.le_of_ble_eq_true rfl) ⟨Nat.zero_le _, Nat.zero_le _⟩ ?_
  refine g_aload_n hC dX11_eat_5 rfl (q := 0) rfl ?_
  refine g_getr hC fd_RX11_34 rfl (by decide) (C0 := _) (t0 := .int) (Or.inl rfl) (rr_0_4 hW.1) dX11_eat_6 ?_
  refine g_iload_n hC dX11_eat_9 rfl (q := 1) rfl ?_
  obtain ⟨r10, h10, h⟩ := oB_some h
  refine g_cV1 hC cv_X9_placeOf wd_719 ⟨Nat.le_of_ble_eq_true rfl, Nat.le_of_ble_eq_true rfl⟩ rfl (by decide) dX11_eat_10 (As := [.int v1]) (st := []) (ok_X9_placeOf hC.2.2.2.2.2.2.2.1 (ob_40 hW.1) h10) rfl rfl (Nat.le_of_ble_eq_true rfl) ⟨Nat.zero_le _, Nat.zero_le _⟩ ?_
  refine g_bipush hC dX11_eat_13 (v := (-2 : Int32)) (by decide) ?_
  refine g_ic_ne hC dX11_eat_15 (tgt := 30) (by decide) (fun c15 => ?_) (fun c15 => ?_)
  · replace h := (if_neg c15).symm.trans h
    refine g_aload_n hC dX11_eat_30 rfl (q := 0) rfl ?_
    obtain ⟨r31, h31, h⟩ := oB_some h
    refine g_cV0 hC cv_X11_beginAct wd_551 ⟨Nat.le_of_ble_eq_true rfl, Nat.le_of_ble_eq_true rfl⟩ rfl (by decide) dX11_eat_31 (As := []) (st := []) (ok_X11_beginAct hC.2.2.2.2.2.2.2.1 hW h31) rfl rfl (Nat.le_of_ble_eq_true rfl) ⟨Nat.zero_le _, Nat.zero_le _⟩ ?_
    refine g_aload_n hC dX11_eat_34 rfl (q := 0) rfl ?_
    refine g_getr hC fd_RX11_34 rfl (by decide) (C0 := _) (t0 := .int) (Or.inl rfl) (rr_0_4 hW.1) dX11_eat_35 ?_
    refine g_iload_n hC dX11_eat_38 rfl (q := 1) rfl ?_
    refine g_bipush hC dX11_eat_39 (v := (-2 : Int32)) (by decide) ?_
    obtain ⟨r41, h41, h⟩ := oB_some h
    refine g_cV0 hC cv_X9_setPlace wd_1243 ⟨Nat.le_of_ble_eq_true rfl, Nat.le_of_ble_eq_true rfl⟩ rfl (by decide) dX11_eat_41 (As := [.int v1, .int (-2 : Int32)]) (st := []) (ok_X9_setPlace hC.2.2.2.2.2.2.2.1 (ob_40 hW.1) h41) rfl rfl (Nat.le_of_ble_eq_true rfl) ⟨Nat.zero_le _, Nat.zero_le _⟩ ?_
    refine g_iconst hC dX11_eat_44 (v := (1 : Int32)) (by decide) ?_
    cases h
    exact g_xzret hC (by decide) hE.1 rfl dX11_eat_45 (Nat.zero_le _) (Nat.zero_le _) hE.2
  · replace h := (if_pos c15).symm.trans h
    refine g_aload_n hC dX11_eat_18 rfl (q := 0) rfl ?_
    refine g_getr hC fd_RX11_20 rfl (by decide) (C0 := "") (t0 := _) (Or.inr rfl) (rr_0_2 hW.1) dX11_eat_19 ?_
    refine g_iconst hC dX11_eat_22 (v := (1 : Int32)) (by decide) ?_
    refine g_dup2 hC dX11_eat_23 rfl rfl ?_
    obtain ⟨g24, h⟩ := oG_some h
    refine g_iald hC rfl (by decide) (inB_in g24) dX11_eat_24 ?_
    refine g_iconst hC dX11_eat_25 (v := (1 : Int32)) (by decide) ?_
    refine g_iadd hC dX11_eat_26 ?_
    obtain ⟨g27, h⟩ := oG_some h
    refine g_iast hC rfl (by decide) (inB_in g27) dX11_eat_27 (nm_e ?_)
    refine g_iconst hC dX11_eat_28 (v := (0 : Int32)) (by decide) ?_
    cases h
    exact g_xzret hC (by decide) hE.1 rfl dX11_eat_29 (Nat.zero_le _) (Nat.zero_le _) hE.2
theorem oi_X11_eat {l : Launch} {E : mEn} {Fu : Nat} {I : mIT} {R : mRT} {L : mLT} {v1 : Int32} (hst : l.stackTraces = false) (hW : mWd R)  {out : Int32 × mIT} (h : f_X11_eat Fu R I v1 = some (.inl out)) : mOx l E mX11_eat [.ref (mB E + 0), .int v1] 106 1 I R L 0 0 (mSame (some (.int (out.1))) 106 1 (out.2) R L) (fun _ _ _ _ _ _ => False) := oy_X11_eat hst hW h ⟨rfl, rfl, rfl, rfl, rfl, rfl⟩
theorem ox_X11_eat {l : Launch} {E : mEn} {Fu : Nat} {I : mIT} {R : mRT} {L : mLT} {v1 : Int32} (hst : l.stackTraces = false) (hW : mWd R)  {q : Nat × mIT} (h : f_X11_eat Fu R I v1 = some (.inr q)) : mOx l E mX11_eat [.ref (mB E + 0), .int v1] 106 1 I R L 1 6 (fun _ _ _ _ _ _ => False) (mXp q.1 106 1 q.2 R L) := oy_X11_eat hst hW h ⟨Nat.le_refl _, Nat.le_refl _, rfl, rfl, rfl, rfl, rfl, rfl⟩
noncomputable def f_X4_dayOf (Fu : Nat) (I : mIT) (k0 : Nat) (v1 : Int32) : Option (Int32) :=
  if v1 < 0 then (some (0 : Int32)) else (if (nI 8) ≤ v1 then (some (0 : Int32)) else (oG (inB v1 8) (some (I (k0 + 1) (v1).toNatClampNeg))))
set_option maxRecDepth 20000 in
theorem ok_X4_dayOf {l : Launch} {E : mEn} {Fu : Nat} {I : mIT} {R : mRT} {L : mLT} {k0 : Nat} {v1 : Int32} (hst : l.stackTraces = false) (hk0 : mO4 R k0) {out : Int32} (h : f_X4_dayOf Fu I k0 v1 = some out) : mOk l E mX4_dayOf [.ref (mB E + k0), .int v1] 106 1 I R L 0 0 (mSame (some (.int (out))) 106 1 I R L) := by
  refine mOk_of hst (by decide) (Nat.le_of_ble_eq_true rfl) (fun X hC hE _ => ?_)
  have hC : mC X E mX4_dayOf RX4 cX4_dayOf := hC
  show mG X E 0 [(0, .ref (mB E + k0)), (1, .int v1)] [] 106 1 I R L 0 0
  unfold f_X4_dayOf at h
  refine g_iload_n hC dX4_dayOf_0 rfl (q := 1) rfl ?_
  refine g_if_lt hC dX4_dayOf_1 (tgt := 22) (by decide) (fun c1 => ?_) (fun c1 => ?_)
  · replace h := (if_pos c1).symm.trans h
    refine g_iconst hC dX4_dayOf_22 (v := (0 : Int32)) (by decide) ?_
    cases h
    exact g_iret hC hE rfl dX4_dayOf_23 (Nat.zero_le _) (Nat.zero_le _) ⟨rfl, rfl, rfl, rfl, rfl, rfl⟩
  · replace h := (if_neg c1).symm.trans h
    refine g_iload_n hC dX4_dayOf_4 rfl (q := 1) rfl ?_
    refine g_aload_n hC dX4_dayOf_5 rfl (q := 0) rfl ?_
    refine g_getr hC fd_RX4_9 hk0.2.1 hk0.1 (C0 := "") (t0 := _) (Or.inr rfl) hk0.2.2.1.1 dX4_dayOf_6 ?_
    refine g_alenI hC hk0.2.2.1.2.2 hk0.2.2.1.2.1 dX4_dayOf_9 ?_
    refine g_ic_ge hC dX4_dayOf_10 (tgt := 22) (by decide) (fun c10 => ?_) (fun c10 => ?_)
    · replace h := (if_pos c10).symm.trans h
      refine g_iconst hC dX4_dayOf_22 (v := (0 : Int32)) (by decide) ?_
      cases h
      exact g_iret hC hE rfl dX4_dayOf_23 (Nat.zero_le _) (Nat.zero_le _) ⟨rfl, rfl, rfl, rfl, rfl, rfl⟩
    · replace h := (if_neg c10).symm.trans h
      refine g_aload_n hC dX4_dayOf_13 rfl (q := 0) rfl ?_
      refine g_getr hC fd_RX4_9 hk0.2.1 hk0.1 (C0 := "") (t0 := _) (Or.inr rfl) hk0.2.2.1.1 dX4_dayOf_14 ?_
      refine g_iload_n hC dX4_dayOf_17 rfl (q := 1) rfl ?_
      obtain ⟨g18, h⟩ := oG_some h
      refine g_iald hC hk0.2.2.1.2.2 hk0.2.2.1.2.1 (inB_in g18) dX4_dayOf_18 ?_
      refine g_goto hC dX4_dayOf_19 (tgt := 23) (by decide) ?_
      cases h
      exact g_iret hC hE rfl dX4_dayOf_23 (Nat.zero_le _) (Nat.zero_le _) ⟨rfl, rfl, rfl, rfl, rfl, rfl⟩
noncomputable def f_X4_isSo (Fu : Nat) (I : mIT) (k0 : Nat) (v1 : Int32) (v2 : Int32) : Option (Int32) :=
  if v1 < 0 then (some (0 : Int32)) else (if (nI 8) ≤ v1 then (some (0 : Int32)) else (if (nI 8) ≤ v1 then (some (0 : Int32)) else (oG (inB v1 8) (oG (inB v1 8) (if ((v2 >>> ((I (k0 + 2) (v1).toNatClampNeg) &&& 31)) &&& (1 : Int32)) = (I (k0 + 3) (v1).toNatClampNeg) then (some (1 : Int32)) else (some (0 : Int32)))))))
set_option maxRecDepth 20000 in
theorem ok_X4_isSo {l : Launch} {E : mEn} {Fu : Nat} {I : mIT} {R : mRT} {L : mLT} {k0 : Nat} {v1 : Int32} {v2 : Int32} (hst : l.stackTraces = false) (hk0 : mO4 R k0) {out : Int32} (h : f_X4_isSo Fu I k0 v1 v2 = some out) : mOk l E mX4_isSo [.ref (mB E + k0), .int v1, .int v2] 106 1 I R L 0 0 (mSame (some (.int (out))) 106 1 I R L) := by
  refine mOk_of hst (by decide) (Nat.le_of_ble_eq_true rfl) (fun X hC hE _ => ?_)
  have hC : mC X E mX4_isSo RX4 cX4_isSo := hC
  show mG X E 0 [(0, .ref (mB E + k0)), (1, .int v1), (2, .int v2)] [] 106 1 I R L 0 0
  unfold f_X4_isSo at h
  refine g_iload_n hC dX4_isSo_0 rfl (q := 1) rfl ?_
  refine g_if_lt hC dX4_isSo_1 (tgt := 45) (by decide) (fun c1 => ?_) (fun c1 => ?_)
  · replace h := (if_pos c1).symm.trans h
    refine g_iconst hC dX4_isSo_45 (v := (0 : Int32)) (by decide) ?_
    cases h
    exact g_zret hC (by decide) hE rfl dX4_isSo_46 (Nat.zero_le _) (Nat.zero_le _) ⟨rfl, rfl, rfl, rfl, rfl, rfl⟩
  · replace h := (if_neg c1).symm.trans h
    refine g_iload_n hC dX4_isSo_4 rfl (q := 1) rfl ?_
    refine g_aload_n hC dX4_isSo_5 rfl (q := 0) rfl ?_
    refine g_getr hC fd_RX4_15 hk0.2.1 hk0.1 (C0 := "") (t0 := _) (Or.inr rfl) hk0.2.2.2.1.1 dX4_isSo_6 ?_
    refine g_alenI hC hk0.2.2.2.1.2.2 hk0.2.2.2.1.2.1 dX4_isSo_9 ?_
    refine g_ic_ge hC dX4_isSo_10 (tgt := 45) (by decide) (fun c10 => ?_) (fun c10 => ?_)
    · replace h := (if_pos c10).symm.trans h
      refine g_iconst hC dX4_isSo_45 (v := (0 : Int32)) (by decide) ?_
      cases h
      exact g_zret hC (by decide) hE rfl dX4_isSo_46 (Nat.zero_le _) (Nat.zero_le _) ⟨rfl, rfl, rfl, rfl, rfl, rfl⟩
    · replace h := (if_neg c10).symm.trans h
      refine g_iload_n hC dX4_isSo_13 rfl (q := 1) rfl ?_
      refine g_aload_n hC dX4_isSo_14 rfl (q := 0) rfl ?_
      refine g_getr hC fd_RX4_18 hk0.2.1 hk0.1 (C0 := "") (t0 := _) (Or.inr rfl) hk0.2.2.2.2.1 dX4_isSo_15 ?_
      refine g_alenI hC hk0.2.2.2.2.2.2 hk0.2.2.2.2.2.1 dX4_isSo_18 ?_
      refine g_ic_ge hC dX4_isSo_19 (tgt := 45) (by decide) (fun c19 => ?_) (fun c19 => ?_)
      · replace h := (if_pos c19).symm.trans h
        refine g_iconst hC dX4_isSo_45 (v := (0 : Int32)) (by decide) ?_
        cases h
        exact g_zret hC (by decide) hE rfl dX4_isSo_46 (Nat.zero_le _) (Nat.zero_le _) ⟨rfl, rfl, rfl, rfl, rfl, rfl⟩
      · replace h := (if_neg c19).symm.trans h
        refine g_iload_n hC dX4_isSo_22 rfl (q := 2) rfl ?_
        refine g_aload_n hC dX4_isSo_23 rfl (q := 0) rfl ?_
        refine g_getr hC fd_RX4_15 hk0.2.1 hk0.1 (C0 := "") (t0 := _) (Or.inr rfl) hk0.2.2.2.1.1 dX4_isSo_24 ?_
        refine g_iload_n hC dX4_isSo_27 rfl (q := 1) rfl ?_
        obtain ⟨g28, h⟩ := oG_some h
        refine g_iald hC hk0.2.2.2.1.2.2 hk0.2.2.2.1.2.1 (inB_in g28) dX4_isSo_28 ?_
        refine g_ishr hC dX4_isSo_29 ?_
        refine g_iconst hC dX4_isSo_30 (v := (1 : Int32)) (by decide) ?_
        refine g_iand hC dX4_isSo_31 ?_
        refine g_aload_n hC dX4_isSo_32 rfl (q := 0) rfl ?_
        refine g_getr hC fd_RX4_18 hk0.2.1 hk0.1 (C0 := "") (t0 := _) (Or.inr rfl) hk0.2.2.2.2.1 dX4_isSo_33 ?_
        refine g_iload_n hC dX4_isSo_36 rfl (q := 1) rfl ?_
        obtain ⟨g37, h⟩ := oG_some h
        refine g_iald hC hk0.2.2.2.2.2.2 hk0.2.2.2.2.2.1 (inB_in g37) dX4_isSo_37 ?_
        refine g_ic_ne hC dX4_isSo_38 (tgt := 45) (by decide) (fun c38 => ?_) (fun c38 => ?_)
        · replace h := (if_neg c38).symm.trans h
          refine g_iconst hC dX4_isSo_45 (v := (0 : Int32)) (by decide) ?_
          cases h
          exact g_zret hC (by decide) hE rfl dX4_isSo_46 (Nat.zero_le _) (Nat.zero_le _) ⟨rfl, rfl, rfl, rfl, rfl, rfl⟩
        · replace h := (if_pos c38).symm.trans h
          refine g_iconst hC dX4_isSo_41 (v := (1 : Int32)) (by decide) ?_
          refine g_goto hC dX4_isSo_42 (tgt := 46) (by decide) ?_
          cases h
          exact g_zret hC (by decide) hE rfl dX4_isSo_46 (Nat.zero_le _) (Nat.zero_le _) ⟨rfl, rfl, rfl, rfl, rfl, rfl⟩
noncomputable def b_X3_agrees_50 (Fu : Nat) (I : mIT) (k2 : Nat) (k9_ : Int32 × Int32 × Int32 × Int32 → Option (Int32)) (v3 : Int32) (v4 : Int32) (v5 : Int32) (v6 : Int32) (v7 : Int32) (s0 : Int32) : Option (Int32) :=
  oB (f_X1_noteBits Fu I v7 s0) (fun r60 => oB (f_X4_isSo Fu I k2 v6 r60) (fun r63 => if r63 = 0 then (some (0 : Int32)) else (k9_ (v3, v4, v5, (v6 + (1 : Int32))))))
set_option maxRecDepth 20000 in
theorem bo_X3_agrees_50 {X : mXT} {E : mEn} {Fu : Nat} {I : mIT} {R : mRT} {L : mLT} {k2 : Nat} (hC : mC X E mX3_agrees RX3 cX3_agrees) (hW : mWd R) (hk2 : mO4 R k2)  {out : Int32} (hE : mEd X E 0 0 (mSame (some (.int (out))) 106 1 I R L)) (k9_ : Int32 × Int32 × Int32 × Int32 → Option (Int32)) (hk9_ : ∀ (v3 : Int32) (v4 : Int32) (v5 : Int32) (v6 : Int32),  k9_ (v3, v4, v5, v6) = some out → mG X E 9 [(1, .ref (mB E + 56)), (2, .ref (mB E + k2)), (3, .int v3), (4, .int v4), (5, .int v5), (6, .int v6)] [] 106 1 I R L 0 0) (v3 : Int32) (v4 : Int32) (v5 : Int32) (v6 : Int32) (v7 : Int32) (s0 : Int32) (h : b_X3_agrees_50 Fu I k2 k9_ v3 v4 v5 v6 v7 s0 = some out) : mG X E 50 [(1, .ref (mB E + 56)), (2, .ref (mB E + k2)), (3, .int v3), (4, .int v4), (5, .int v5), (6, .int v6), (7, .int v7)] [.int s0] 106 1 I R L 0 0 := by
  unfold b_X3_agrees_50 at h
  refine g_istore hC dX3_agrees_50 rfl (by decide) (lv' := [(9, .int s0), (1, .ref (mB E + 56)), (2, .ref (mB E + k2)), (3, .int v3), (4, .int v4), (5, .int v5), (6, .int v6), (7, .int v7)]) rfl ?_
  refine g_aload_n hC dX3_agrees_52 rfl (q := 2) rfl ?_
  refine g_iload hC dX3_agrees_53 (q := 6) rfl ?_
  refine g_aload_n hC dX3_agrees_55 rfl (q := 1) rfl ?_
  refine g_iload hC dX3_agrees_56 (q := 7) rfl ?_
  refine g_iload hC dX3_agrees_58 (q := 0) rfl ?_
  obtain ⟨r60, h60, h⟩ := oB_some h
  refine g_cV1 hC cv_X1_noteBits wd_1420 ⟨Nat.le_of_ble_eq_true rfl, Nat.le_of_ble_eq_true rfl⟩ rfl (by decide) dX3_agrees_60 (As := [.int v7, .int s0]) (st := [.int v6, .ref (mB E + k2)]) (ok_X1_noteBits hC.2.2.2.2.2.2.2.1 hW h60) rfl rfl (Nat.le_of_ble_eq_true rfl) ⟨Nat.zero_le _, Nat.zero_le _⟩ ?_
  obtain ⟨r63, h63, h⟩ := oB_some h
  refine g_cV1 hC cv_X4_isSo wd_1421 ⟨Nat.le_of_ble_eq_true rfl, Nat.le_of_ble_eq_true rfl⟩ hk2.2.1 hk2.1 dX3_agrees_63 (As := [.int v6, .int r60]) (st := []) (ok_X4_isSo hC.2.2.2.2.2.2.2.1 hk2 h63) rfl rfl (Nat.le_of_ble_eq_true rfl) ⟨Nat.zero_le _, Nat.zero_le _⟩ ?_
  refine g_if_ne hC dX3_agrees_66 (tgt := 71) (by decide) (fun c66 => ?_) (fun c66 => ?_)
  · replace h := (if_neg c66).symm.trans h
    refine g_iinc hC dX3_agrees_71 rfl (q := 6) rfl (w := (v6 + (1 : Int32))) rfl (by decide) (lv' := [(6, .int (v6 + (1 : Int32))), (9, .int s0), (1, .ref (mB E + 56)), (2, .ref (mB E + k2)), (3, .int v3), (4, .int v4), (5, .int v5), (7, .int v7)]) rfl ?_
    refine g_goto hC dX3_agrees_74 (tgt := 9) (by decide) ?_
    refine g_lv [2, 3, 4, 5, 6, 0] rfl ?_
    exact hk9_ v3 v4 v5 (v6 + (1 : Int32)) h
  · replace h := (if_pos c66).symm.trans h
    refine g_iconst hC dX3_agrees_69 (v := (0 : Int32)) (by decide) ?_
    cases h
    exact g_zret hC (by decide) hE rfl dX3_agrees_70 (Nat.zero_le _) (Nat.zero_le _) ⟨rfl, rfl, rfl, rfl, rfl, rfl⟩
noncomputable def b_X3_agrees_9 (Fu : Nat) (I : mIT) (k2 : Nat) (k9_ : Int32 × Int32 × Int32 × Int32 → Option (Int32)) (v3 : Int32) (v4 : Int32) (v5 : Int32) (v6 : Int32) : Option (Int32) :=
  if v5 ≤ v6 then (some (1 : Int32)) else (oB (f_X4_dayOf Fu I k2 v6) (fun r19 => oB (f_X1_soundingOn Fu I r19) (fun r27 => if r19 < v4 then (b_X3_agrees_50 Fu I k2 k9_ v3 v4 v5 v6 r19 r27) else (b_X3_agrees_50 Fu I k2 k9_ v3 v4 v5 v6 r19 (r27 &&& (v3 ^^^ (-1 : Int32)))))))
set_option maxRecDepth 20000 in
theorem bo_X3_agrees_9 {X : mXT} {E : mEn} {Fu : Nat} {I : mIT} {R : mRT} {L : mLT} {k2 : Nat} (hC : mC X E mX3_agrees RX3 cX3_agrees) (hW : mWd R) (hk2 : mO4 R k2)  {out : Int32} (hE : mEd X E 0 0 (mSame (some (.int (out))) 106 1 I R L)) (k9_ : Int32 × Int32 × Int32 × Int32 → Option (Int32)) (hk9_ : ∀ (v3 : Int32) (v4 : Int32) (v5 : Int32) (v6 : Int32),  k9_ (v3, v4, v5, v6) = some out → mG X E 9 [(1, .ref (mB E + 56)), (2, .ref (mB E + k2)), (3, .int v3), (4, .int v4), (5, .int v5), (6, .int v6)] [] 106 1 I R L 0 0) (v3 : Int32) (v4 : Int32) (v5 : Int32) (v6 : Int32) (h : b_X3_agrees_9 Fu I k2 k9_ v3 v4 v5 v6 = some out) : mG X E 9 [(1, .ref (mB E + 56)), (2, .ref (mB E + k2)), (3, .int v3), (4, .int v4), (5, .int v5), (6, .int v6)] [] 106 1 I R L 0 0 := by
  unfold b_X3_agrees_9 at h
  refine g_iload hC dX3_agrees_9 (q := 5) rfl ?_
  refine g_iload hC dX3_agrees_11 (q := 4) rfl ?_
  refine g_ic_ge hC dX3_agrees_13 (tgt := 77) (by decide) (fun c13 => ?_) (fun c13 => ?_)
  · replace h := (if_pos c13).symm.trans h
    refine g_iconst hC dX3_agrees_77 (v := (1 : Int32)) (by decide) ?_
    cases h
    exact g_zret hC (by decide) hE rfl dX3_agrees_78 (Nat.zero_le _) (Nat.zero_le _) ⟨rfl, rfl, rfl, rfl, rfl, rfl⟩
  · replace h := (if_neg c13).symm.trans h
    refine g_aload_n hC dX3_agrees_16 rfl (q := 1) rfl ?_
    refine g_iload hC dX3_agrees_17 (q := 5) rfl ?_
    obtain ⟨r19, h19, h⟩ := oB_some h
    refine g_cV1 hC cv_X4_dayOf wd_1415 ⟨Nat.le_of_ble_eq_true rfl, Nat.le_of_ble_eq_true rfl⟩ hk2.2.1 hk2.1 dX3_agrees_19 (As := [.int v6]) (st := []) (ok_X4_dayOf hC.2.2.2.2.2.2.2.1 hk2 h19) rfl rfl (Nat.le_of_ble_eq_true rfl) ⟨Nat.zero_le _, Nat.zero_le _⟩ ?_
    refine g_istore hC dX3_agrees_22 rfl (by decide) (lv' := [(7, .int r19), (1, .ref (mB E + 56)), (2, .ref (mB E + k2)), (3, .int v3), (4, .int v4), (5, .int v5), (6, .int v6)]) rfl ?_
    refine g_aload_n hC dX3_agrees_24 rfl (q := 1) rfl ?_
    refine g_iload hC dX3_agrees_25 (q := 0) rfl ?_
    obtain ⟨r27, h27, h⟩ := oB_some h
    refine g_cV1 hC cv_X1_soundingOn wd_1419 ⟨Nat.le_of_ble_eq_true rfl, Nat.le_of_ble_eq_true rfl⟩ rfl (by decide) dX3_agrees_27 (As := [.int r19]) (st := []) (ok_X1_soundingOn hC.2.2.2.2.2.2.2.1 hW h27) rfl rfl (Nat.le_of_ble_eq_true rfl) ⟨Nat.zero_le _, Nat.zero_le _⟩ ?_
    refine g_istore hC dX3_agrees_30 rfl (by decide) (lv' := [(8, .int r27), (7, .int r19), (1, .ref (mB E + 56)), (2, .ref (mB E + k2)), (3, .int v3), (4, .int v4), (5, .int v5), (6, .int v6)]) rfl ?_
    refine g_iload hC dX3_agrees_32 (q := 1) rfl ?_
    refine g_iload hC dX3_agrees_34 (q := 5) rfl ?_
    refine g_ic_lt hC dX3_agrees_36 (tgt := 48) (by decide) (fun c36 => ?_) (fun c36 => ?_)
    · replace h := (if_pos c36).symm.trans h
      refine g_iload hC dX3_agrees_48 (q := 0) rfl ?_
      refine g_lv [2, 3, 4, 5, 6, 7, 1] rfl ?_
      exact bo_X3_agrees_50 hC hW hk2 hE k9_ hk9_ (v3) (v4) (v5) (v6) (r19) (r27) h
    · replace h := (if_neg c36).symm.trans h
      refine g_iload hC dX3_agrees_39 (q := 0) rfl ?_
      refine g_iload_n hC dX3_agrees_41 rfl (q := 4) rfl ?_
      refine g_iconst hC dX3_agrees_42 (v := (-1 : Int32)) (by decide) ?_
      refine g_ixor hC dX3_agrees_43 ?_
      refine g_iand hC dX3_agrees_44 ?_
      refine g_goto hC dX3_agrees_45 (tgt := 50) (by decide) ?_
      refine g_lv [2, 3, 4, 5, 6, 7, 1] rfl ?_
      exact bo_X3_agrees_50 hC hW hk2 hE k9_ hk9_ (v3) (v4) (v5) (v6) (r19) ((r27 &&& (v3 ^^^ (-1 : Int32)))) h
noncomputable def w_X3_agrees_9 (Fu : Nat) (I : mIT) (k2 : Nat)  (N : Nat) (v3 : Int32) (v4 : Int32) (v5 : Int32) (v6 : Int32) : Option (Int32) :=
  loopF (fun self (s : Int32 × Int32 × Int32 × Int32) => b_X3_agrees_9 Fu I k2 self s.1 s.2.1 s.2.2.1 s.2.2.2) N (v3, v4, v5, v6)
theorem wo_X3_agrees_9 {X : mXT} {E : mEn} {Fu : Nat} {I : mIT} {R : mRT} {L : mLT} {k2 : Nat} (hC : mC X E mX3_agrees RX3 cX3_agrees) (hW : mWd R) (hk2 : mO4 R k2)  {out : Int32} (hE : mEd X E 0 0 (mSame (some (.int (out))) 106 1 I R L))  (N : Nat) (v3 : Int32) (v4 : Int32) (v5 : Int32) (v6 : Int32) (h : w_X3_agrees_9 Fu I k2  N v3 v4 v5 v6 = some out) : mG X E 9 [(1, .ref (mB E + 56)), (2, .ref (mB E + k2)), (3, .int v3), (4, .int v4), (5, .int v5), (6, .int v6)] [] 106 1 I R L 0 0 :=
  loopF_ok (Gd := fun s : Int32 × Int32 × Int32 × Int32 => mG X E 9 [(1, .ref (mB E + 56)), (2, .ref (mB E + k2)), (3, .int s.1), (4, .int s.2.1), (5, .int s.2.2.1), (6, .int s.2.2.2)] [] 106 1 I R L 0 0) (fun self hs s h => bo_X3_agrees_9 hC hW hk2 hE self (fun v3 v4 v5 v6 h => hs (v3, v4, v5, v6) h) s.1 s.2.1 s.2.2.1 s.2.2.2 h) N (v3, v4, v5, v6) h
noncomputable def f_X3_agrees (Fu : Nat) (I : mIT) (k2 : Nat) (v3 : Int32) (v4 : Int32) : Option (Int32) :=
  oB (f_X4_many Fu I k2) (fun r1 => w_X3_agrees_9 Fu I k2 Fu v3 v4 r1 (0 : Int32))
set_option maxRecDepth 20000 in
theorem ok_X3_agrees {l : Launch} {E : mEn} {Fu : Nat} {I : mIT} {R : mRT} {L : mLT} {k2 : Nat} {v3 : Int32} {v4 : Int32} (hst : l.stackTraces = false) (hW : mWd R) (hk2 : mO4 R k2) {out : Int32} (h : f_X3_agrees Fu I k2 v3 v4 = some out) : mOk l E mX3_agrees [.ref (mB E + 69), .ref (mB E + 56), .ref (mB E + k2), .int v3, .int v4] 106 1 I R L 0 0 (mSame (some (.int (out))) 106 1 I R L) := by
  refine mOk_of hst (by decide) (Nat.le_of_ble_eq_true rfl) (fun X hC hE _ => ?_)
  have hC : mC X E mX3_agrees RX3 cX3_agrees := hC
  show mG X E 0 [(0, .ref (mB E + 69)), (1, .ref (mB E + 56)), (2, .ref (mB E + k2)), (3, .int v3), (4, .int v4)] [] 106 1 I R L 0 0
  unfold f_X3_agrees at h
  refine g_aload_n hC dX3_agrees_0 rfl (q := 2) rfl ?_
  obtain ⟨r1, h1, h⟩ := oB_some h
  refine g_cV1 hC cv_X4_many wd_1414 ⟨Nat.le_of_ble_eq_true rfl, Nat.le_of_ble_eq_true rfl⟩ hk2.2.1 hk2.1 dX3_agrees_1 (As := []) (st := []) (ok_X4_many hC.2.2.2.2.2.2.2.1 hk2 h1) rfl rfl (Nat.le_of_ble_eq_true rfl) ⟨Nat.zero_le _, Nat.zero_le _⟩ ?_
  refine g_istore hC dX3_agrees_4 rfl (by decide) (lv' := [(5, .int r1), (0, .ref (mB E + 69)), (1, .ref (mB E + 56)), (2, .ref (mB E + k2)), (3, .int v3), (4, .int v4)]) rfl ?_
  refine g_iconst hC dX3_agrees_6 (v := (0 : Int32)) (by decide) ?_
  refine g_istore hC dX3_agrees_7 rfl (by decide) (lv' := [(6, .int (0 : Int32)), (5, .int r1), (0, .ref (mB E + 69)), (1, .ref (mB E + 56)), (2, .ref (mB E + k2)), (3, .int v3), (4, .int v4)]) rfl ?_
  refine g_lv [3, 4, 5, 6, 1, 0] rfl ?_
  exact wo_X3_agrees_9 hC hW hk2 hE Fu (v3) (v4) (r1) ((0 : Int32)) h
noncomputable def b_X3_find_34 (Fu : Nat) (k2 : Nat) (k13_ : Int32 × Int32 × Int32 × mIT → Option (mIT)) (k34_ : Int32 × Int32 × Int32 × Int32 × mIT → Option (mIT)) (v3 : Int32) (v4 : Int32) (v5 : Int32) (v6 : Int32) (I : mIT) : Option (mIT) :=
  if (10 : Int32) ≤ v6 then (k13_ (v3, v4, (v5 + (1 : Int32)), I)) else (if v3 ≤ v5 then (k13_ (v3, v4, (v5 + (1 : Int32)), I)) else (if ((v4 >>> (v5 &&& 31)) &&& (1 : Int32)) = 0 then (oB (f_X3_agrees Fu I k2 ((1 : Int32) <<< (v5 &&& 31)) v6) (fun r66 => if r66 = 0 then (k34_ (v3, v4, v5, (v6 + (1 : Int32)), I)) else (oG (inB v5 10) (oG (inB v5 10) (if ((mU I 70 (v5).toNatClampNeg ((I 70 (v5).toNatClampNeg) ||| ((1 : Int32) <<< (v6 &&& 31)))) 69 2) = 0 then (k34_ (v3, v4, v5, (v6 + (1 : Int32)), (mU (mU (mU I 70 (v5).toNatClampNeg ((I 70 (v5).toNatClampNeg) ||| ((1 : Int32) <<< (v6 &&& 31)))) 69 3 (((10 : Int32) * v5) + v6)) 69 2 (((mU (mU I 70 (v5).toNatClampNeg ((I 70 (v5).toNatClampNeg) ||| ((1 : Int32) <<< (v6 &&& 31)))) 69 3 (((10 : Int32) * v5) + v6)) 69 2) + (1 : Int32))))) else (k34_ (v3, v4, v5, (v6 + (1 : Int32)), (mU (mU (mU I 70 (v5).toNatClampNeg ((I 70 (v5).toNatClampNeg) ||| ((1 : Int32) <<< (v6 &&& 31)))) 69 3 ((mU I 70 (v5).toNatClampNeg ((I 70 (v5).toNatClampNeg) ||| ((1 : Int32) <<< (v6 &&& 31)))) 69 3)) 69 2 (((mU (mU I 70 (v5).toNatClampNeg ((I 70 (v5).toNatClampNeg) ||| ((1 : Int32) <<< (v6 &&& 31)))) 69 3 ((mU I 70 (v5).toNatClampNeg ((I 70 (v5).toNatClampNeg) ||| ((1 : Int32) <<< (v6 &&& 31)))) 69 3)) 69 2) + (1 : Int32)))))))))) else (k13_ (v3, v4, (v5 + (1 : Int32)), I))))
set_option maxRecDepth 20000 in
theorem bo_X3_find_34 {X : mXT} {E : mEn} {Fu : Nat} {R : mRT} {L : mLT} {k2 : Nat} (hC : mC X E mX3_find RX3 cX3_find) (hW : mWd R) (hk2 : mO4 R k2)  {out : mIT} (hE : mEd X E 0 0 (mSame none 106 1 (out) R L)) (k13_ : Int32 × Int32 × Int32 × mIT → Option (mIT)) (hk13_ : ∀ (v3 : Int32) (v4 : Int32) (v5 : Int32) (I : mIT),  k13_ (v3, v4, v5, I) = some out → mG X E 13 [(0, .ref (mB E + 69)), (1, .ref (mB E + 56)), (2, .ref (mB E + k2)), (3, .int v3), (4, .int v4), (5, .int v5)] [] 106 1 I R L 0 0) (k34_ : Int32 × Int32 × Int32 × Int32 × mIT → Option (mIT)) (hk34_ : ∀ (v3 : Int32) (v4 : Int32) (v5 : Int32) (v6 : Int32) (I : mIT),  k34_ (v3, v4, v5, v6, I) = some out → mG X E 34 [(0, .ref (mB E + 69)), (1, .ref (mB E + 56)), (2, .ref (mB E + k2)), (3, .int v3), (4, .int v4), (5, .int v5), (6, .int v6)] [] 106 1 I R L 0 0) (v3 : Int32) (v4 : Int32) (v5 : Int32) (v6 : Int32) (I : mIT) (h : b_X3_find_34 Fu k2 k13_ k34_ v3 v4 v5 v6 I = some out) : mG X E 34 [(0, .ref (mB E + 69)), (1, .ref (mB E + 56)), (2, .ref (mB E + k2)), (3, .int v3), (4, .int v4), (5, .int v5), (6, .int v6)] [] 106 1 I R L 0 0 := by
  unfold b_X3_find_34 at h
  refine g_iload hC dX3_find_34 (q := 6) rfl ?_
  refine g_bipush hC dX3_find_36 (v := (10 : Int32)) (by decide) ?_
  refine g_ic_ge hC dX3_find_38 (tgt := 128) (by decide) (fun c38 => ?_) (fun c38 => ?_)
  · replace h := (if_pos c38).symm.trans h
    refine g_iinc hC dX3_find_128 rfl (q := 5) rfl (w := (v5 + (1 : Int32))) rfl (by decide) (lv' := [(5, .int (v5 + (1 : Int32))), (0, .ref (mB E + 69)), (1, .ref (mB E + 56)), (2, .ref (mB E + k2)), (3, .int v3), (4, .int v4), (6, .int v6)]) rfl ?_
    refine g_goto hC dX3_find_131 (tgt := 13) (by decide) ?_
    refine g_lv [1, 2, 3, 4, 5, 0] rfl ?_
    exact hk13_ v3 v4 (v5 + (1 : Int32)) I h
  · replace h := (if_neg c38).symm.trans h
    refine g_iload hC dX3_find_41 (q := 5) rfl ?_
    refine g_iload_n hC dX3_find_43 rfl (q := 3) rfl ?_
    refine g_ic_ge hC dX3_find_44 (tgt := 128) (by decide) (fun c44 => ?_) (fun c44 => ?_)
    · replace h := (if_pos c44).symm.trans h
      refine g_iinc hC dX3_find_128 rfl (q := 5) rfl (w := (v5 + (1 : Int32))) rfl (by decide) (lv' := [(5, .int (v5 + (1 : Int32))), (0, .ref (mB E + 69)), (1, .ref (mB E + 56)), (2, .ref (mB E + k2)), (3, .int v3), (4, .int v4), (6, .int v6)]) rfl ?_
      refine g_goto hC dX3_find_131 (tgt := 13) (by decide) ?_
      refine g_lv [1, 2, 3, 4, 5, 0] rfl ?_
      exact hk13_ v3 v4 (v5 + (1 : Int32)) I h
    · replace h := (if_neg c44).symm.trans h
      refine g_iload hC dX3_find_47 (q := 4) rfl ?_
      refine g_iload hC dX3_find_49 (q := 5) rfl ?_
      refine g_ishr hC dX3_find_51 ?_
      refine g_iconst hC dX3_find_52 (v := (1 : Int32)) (by decide) ?_
      refine g_iand hC dX3_find_53 ?_
      refine g_if_ne hC dX3_find_54 (tgt := 128) (by decide) (fun c54 => ?_) (fun c54 => ?_)
      · replace h := (if_neg c54).symm.trans h
        refine g_iinc hC dX3_find_128 rfl (q := 5) rfl (w := (v5 + (1 : Int32))) rfl (by decide) (lv' := [(5, .int (v5 + (1 : Int32))), (0, .ref (mB E + 69)), (1, .ref (mB E + 56)), (2, .ref (mB E + k2)), (3, .int v3), (4, .int v4), (6, .int v6)]) rfl ?_
        refine g_goto hC dX3_find_131 (tgt := 13) (by decide) ?_
        refine g_lv [1, 2, 3, 4, 5, 0] rfl ?_
        exact hk13_ v3 v4 (v5 + (1 : Int32)) I h
      · replace h := (if_pos c54).symm.trans h
        refine g_aload_n hC dX3_find_57 rfl (q := 0) rfl ?_
        refine g_aload_n hC dX3_find_58 rfl (q := 1) rfl ?_
        refine g_aload_n hC dX3_find_59 rfl (q := 2) rfl ?_
        refine g_iconst hC dX3_find_60 (v := (1 : Int32)) (by decide) ?_
        refine g_iload hC dX3_find_61 (q := 5) rfl ?_
        refine g_ishl hC dX3_find_63 ?_
        refine g_iload hC dX3_find_64 (q := 6) rfl ?_
        obtain ⟨r66, h66, h⟩ := oB_some h
        refine g_cV1 hC cv_X3_agrees wd_1429 ⟨Nat.le_of_ble_eq_true rfl, Nat.le_of_ble_eq_true rfl⟩ rfl (by decide) dX3_find_66 (As := [.ref (mB E + 56), .ref (mB E + k2), .int ((1 : Int32) <<< (v5 &&& 31)), .int v6]) (st := []) (ok_X3_agrees hC.2.2.2.2.2.2.2.1 hW hk2 h66) rfl rfl (Nat.le_of_ble_eq_true rfl) ⟨Nat.zero_le _, Nat.zero_le _⟩ ?_
        refine g_if_eq hC dX3_find_69 (tgt := 122) (by decide) (fun c69 => ?_) (fun c69 => ?_)
        · replace h := (if_pos c69).symm.trans h
          refine g_iinc hC dX3_find_122 rfl (q := 6) rfl (w := (v6 + (1 : Int32))) rfl (by decide) (lv' := [(6, .int (v6 + (1 : Int32))), (0, .ref (mB E + 69)), (1, .ref (mB E + 56)), (2, .ref (mB E + k2)), (3, .int v3), (4, .int v4), (5, .int v5)]) rfl ?_
          refine g_goto hC dX3_find_125 (tgt := 34) (by decide) ?_
          refine g_lv [1, 2, 3, 4, 5, 6, 0] rfl ?_
          exact hk34_ v3 v4 v5 (v6 + (1 : Int32)) I h
        · replace h := (if_neg c69).symm.trans h
          refine g_aload_n hC dX3_find_72 rfl (q := 0) rfl ?_
          refine g_getr hC fd_RX3_9 rfl (by decide) (C0 := "") (t0 := _) (Or.inr rfl) (rr_69_0 hW.1) dX3_find_73 ?_
          refine g_iload hC dX3_find_76 (q := 5) rfl ?_
          refine g_dup2 hC dX3_find_78 rfl rfl ?_
          obtain ⟨g79, h⟩ := oG_some h
          refine g_iald hC rfl (by decide) (inB_in g79) dX3_find_79 ?_
          refine g_iconst hC dX3_find_80 (v := (1 : Int32)) (by decide) ?_
          refine g_iload hC dX3_find_81 (q := 6) rfl ?_
          refine g_ishl hC dX3_find_83 ?_
          refine g_ior hC dX3_find_84 ?_
          obtain ⟨g85, h⟩ := oG_some h
          refine g_iast hC rfl (by decide) (inB_in g85) dX3_find_85 (nm_e ?_)
          refine g_aload_n hC dX3_find_86 rfl (q := 0) rfl ?_
          refine g_aload_n hC dX3_find_87 rfl (q := 0) rfl ?_
          refine g_geti hC fd_RX3_18 rfl (by decide) (Or.inl rfl) dX3_find_88 ?_
          refine g_if_ne hC dX3_find_91 (tgt := 105) (by decide) (fun c91 => ?_) (fun c91 => ?_)
          · replace h := (if_neg c91).symm.trans h
            refine g_aload_n hC dX3_find_105 rfl (q := 0) rfl ?_
            refine g_geti hC fd_RX3_22 rfl (by decide) (Or.inl rfl) dX3_find_106 ?_
            refine g_puti hC fd_RX3_22 rfl (by decide) rfl dX3_find_109 (nm_e ?_)
            refine g_aload_n hC dX3_find_112 rfl (q := 0) rfl ?_
            refine g_dup hC dX3_find_113 rfl ?_
            refine g_geti hC fd_RX3_18 rfl (by decide) (Or.inl rfl) dX3_find_114 ?_
            refine g_iconst hC dX3_find_117 (v := (1 : Int32)) (by decide) ?_
            refine g_iadd hC dX3_find_118 ?_
            refine g_puti hC fd_RX3_18 rfl (by decide) rfl dX3_find_119 (nm_e ?_)
            refine g_iinc hC dX3_find_122 rfl (q := 6) rfl (w := (v6 + (1 : Int32))) rfl (by decide) (lv' := [(6, .int (v6 + (1 : Int32))), (0, .ref (mB E + 69)), (1, .ref (mB E + 56)), (2, .ref (mB E + k2)), (3, .int v3), (4, .int v4), (5, .int v5)]) rfl ?_
            refine g_goto hC dX3_find_125 (tgt := 34) (by decide) ?_
            refine g_lv [1, 2, 3, 4, 5, 6, 0] rfl ?_
            exact hk34_ v3 v4 v5 (v6 + (1 : Int32)) (mU (mU (mU I 70 (v5).toNatClampNeg ((I 70 (v5).toNatClampNeg) ||| ((1 : Int32) <<< (v6 &&& 31)))) 69 3 ((mU I 70 (v5).toNatClampNeg ((I 70 (v5).toNatClampNeg) ||| ((1 : Int32) <<< (v6 &&& 31)))) 69 3)) 69 2 (((mU (mU I 70 (v5).toNatClampNeg ((I 70 (v5).toNatClampNeg) ||| ((1 : Int32) <<< (v6 &&& 31)))) 69 3 ((mU I 70 (v5).toNatClampNeg ((I 70 (v5).toNatClampNeg) ||| ((1 : Int32) <<< (v6 &&& 31)))) 69 3)) 69 2) + (1 : Int32))) h
          · replace h := (if_pos c91).symm.trans h
            refine g_bipush hC dX3_find_94 (v := (10 : Int32)) (by decide) ?_
            refine g_iload hC dX3_find_96 (q := 5) rfl ?_
            refine g_imul hC dX3_find_98 ?_
            refine g_iload hC dX3_find_99 (q := 6) rfl ?_
            refine g_iadd hC dX3_find_101 ?_
            refine g_goto hC dX3_find_102 (tgt := 109) (by decide) ?_
            refine g_puti hC fd_RX3_22 rfl (by decide) rfl dX3_find_109 (nm_e ?_)
            refine g_aload_n hC dX3_find_112 rfl (q := 0) rfl ?_
            refine g_dup hC dX3_find_113 rfl ?_
            refine g_geti hC fd_RX3_18 rfl (by decide) (Or.inl rfl) dX3_find_114 ?_
            refine g_iconst hC dX3_find_117 (v := (1 : Int32)) (by decide) ?_
            refine g_iadd hC dX3_find_118 ?_
            refine g_puti hC fd_RX3_18 rfl (by decide) rfl dX3_find_119 (nm_e ?_)
            refine g_iinc hC dX3_find_122 rfl (q := 6) rfl (w := (v6 + (1 : Int32))) rfl (by decide) (lv' := [(6, .int (v6 + (1 : Int32))), (0, .ref (mB E + 69)), (1, .ref (mB E + 56)), (2, .ref (mB E + k2)), (3, .int v3), (4, .int v4), (5, .int v5)]) rfl ?_
            refine g_goto hC dX3_find_125 (tgt := 34) (by decide) ?_
            refine g_lv [1, 2, 3, 4, 5, 6, 0] rfl ?_
            exact hk34_ v3 v4 v5 (v6 + (1 : Int32)) (mU (mU (mU I 70 (v5).toNatClampNeg ((I 70 (v5).toNatClampNeg) ||| ((1 : Int32) <<< (v6 &&& 31)))) 69 3 (((10 : Int32) * v5) + v6)) 69 2 (((mU (mU I 70 (v5).toNatClampNeg ((I 70 (v5).toNatClampNeg) ||| ((1 : Int32) <<< (v6 &&& 31)))) 69 3 (((10 : Int32) * v5) + v6)) 69 2) + (1 : Int32))) h
noncomputable def w_X3_find_34 (Fu : Nat) (k2 : Nat) (k13_ : Int32 × Int32 × Int32 × mIT → Option (mIT)) (N : Nat) (v3 : Int32) (v4 : Int32) (v5 : Int32) (v6 : Int32) (I : mIT) : Option (mIT) :=
  loopF (fun self (s : Int32 × Int32 × Int32 × Int32 × mIT) => b_X3_find_34 Fu k2 k13_ self s.1 s.2.1 s.2.2.1 s.2.2.2.1 s.2.2.2.2) N (v3, v4, v5, v6, I)
theorem wo_X3_find_34 {X : mXT} {E : mEn} {Fu : Nat} {R : mRT} {L : mLT} {k2 : Nat} (hC : mC X E mX3_find RX3 cX3_find) (hW : mWd R) (hk2 : mO4 R k2)  {out : mIT} (hE : mEd X E 0 0 (mSame none 106 1 (out) R L)) (k13_ : Int32 × Int32 × Int32 × mIT → Option (mIT)) (hk13_ : ∀ (v3 : Int32) (v4 : Int32) (v5 : Int32) (I : mIT),  k13_ (v3, v4, v5, I) = some out → mG X E 13 [(0, .ref (mB E + 69)), (1, .ref (mB E + 56)), (2, .ref (mB E + k2)), (3, .int v3), (4, .int v4), (5, .int v5)] [] 106 1 I R L 0 0) (N : Nat) (v3 : Int32) (v4 : Int32) (v5 : Int32) (v6 : Int32) (I : mIT) (h : w_X3_find_34 Fu k2 k13_ N v3 v4 v5 v6 I = some out) : mG X E 34 [(0, .ref (mB E + 69)), (1, .ref (mB E + 56)), (2, .ref (mB E + k2)), (3, .int v3), (4, .int v4), (5, .int v5), (6, .int v6)] [] 106 1 I R L 0 0 :=
  loopF_ok (Gd := fun s : Int32 × Int32 × Int32 × Int32 × mIT => mG X E 34 [(0, .ref (mB E + 69)), (1, .ref (mB E + 56)), (2, .ref (mB E + k2)), (3, .int s.1), (4, .int s.2.1), (5, .int s.2.2.1), (6, .int s.2.2.2.1)] [] 106 1 s.2.2.2.2 R L 0 0) (fun self hs s h => bo_X3_find_34 hC hW hk2 hE k13_ hk13_ self (fun v3 v4 v5 v6 I h => hs (v3, v4, v5, v6, I) h) s.1 s.2.1 s.2.2.1 s.2.2.2.1 s.2.2.2.2 h) N (v3, v4, v5, v6, I) h
noncomputable def b_X3_find_13 (Fu : Nat) (k2 : Nat) (k13_ : Int32 × Int32 × Int32 × mIT → Option (mIT)) (v3 : Int32) (v4 : Int32) (v5 : Int32) (I : mIT) : Option (mIT) :=
  if (nI 10) ≤ v5 then (some (I)) else (oG (inB v5 10) (w_X3_find_34 Fu k2 k13_ Fu v3 v4 v5 (0 : Int32) (mU I 70 (v5).toNatClampNeg (0 : Int32))))
set_option maxRecDepth 20000 in
theorem bo_X3_find_13 {X : mXT} {E : mEn} {Fu : Nat} {R : mRT} {L : mLT} {k2 : Nat} (hC : mC X E mX3_find RX3 cX3_find) (hW : mWd R) (hk2 : mO4 R k2)  {out : mIT} (hE : mEd X E 0 0 (mSame none 106 1 (out) R L)) (k13_ : Int32 × Int32 × Int32 × mIT → Option (mIT)) (hk13_ : ∀ (v3 : Int32) (v4 : Int32) (v5 : Int32) (I : mIT),  k13_ (v3, v4, v5, I) = some out → mG X E 13 [(0, .ref (mB E + 69)), (1, .ref (mB E + 56)), (2, .ref (mB E + k2)), (3, .int v3), (4, .int v4), (5, .int v5)] [] 106 1 I R L 0 0) (v3 : Int32) (v4 : Int32) (v5 : Int32) (I : mIT) (h : b_X3_find_13 Fu k2 k13_ v3 v4 v5 I = some out) : mG X E 13 [(0, .ref (mB E + 69)), (1, .ref (mB E + 56)), (2, .ref (mB E + k2)), (3, .int v3), (4, .int v4), (5, .int v5)] [] 106 1 I R L 0 0 := by
  unfold b_X3_find_13 at h
  refine g_iload hC dX3_find_13 (q := 5) rfl ?_
  refine g_aload_n hC dX3_find_15 rfl (q := 0) rfl ?_
  refine g_getr hC fd_RX3_9 rfl (by decide) (C0 := "") (t0 := _) (Or.inr rfl) (rr_69_0 hW.1) dX3_find_16 ?_
  refine g_alenI hC rfl (by decide) dX3_find_19 ?_
  refine g_ic_ge hC dX3_find_20 (tgt := 134) (by decide) (fun c20 => ?_) (fun c20 => ?_)
  · replace h := (if_pos c20).symm.trans h
    cases h
    exact g_vret hC hE rfl dX3_find_134 (Nat.zero_le _) (Nat.zero_le _) ⟨rfl, rfl, rfl, rfl, rfl, rfl⟩
  · replace h := (if_neg c20).symm.trans h
    refine g_aload_n hC dX3_find_23 rfl (q := 0) rfl ?_
    refine g_getr hC fd_RX3_9 rfl (by decide) (C0 := "") (t0 := _) (Or.inr rfl) (rr_69_0 hW.1) dX3_find_24 ?_
    refine g_iload hC dX3_find_27 (q := 5) rfl ?_
    refine g_iconst hC dX3_find_29 (v := (0 : Int32)) (by decide) ?_
    obtain ⟨g30, h⟩ := oG_some h
    refine g_iast hC rfl (by decide) (inB_in g30) dX3_find_30 (nm_e ?_)
    refine g_iconst hC dX3_find_31 (v := (0 : Int32)) (by decide) ?_
    refine g_istore hC dX3_find_32 rfl (by decide) (lv' := [(6, .int (0 : Int32)), (0, .ref (mB E + 69)), (1, .ref (mB E + 56)), (2, .ref (mB E + k2)), (3, .int v3), (4, .int v4), (5, .int v5)]) rfl ?_
    refine g_lv [1, 2, 3, 4, 5, 6, 0] rfl ?_
    exact wo_X3_find_34 hC hW hk2 hE k13_ hk13_ Fu (v3) (v4) (v5) ((0 : Int32)) ((mU I 70 (v5).toNatClampNeg (0 : Int32))) h
noncomputable def w_X3_find_13 (Fu : Nat) (k2 : Nat)  (N : Nat) (v3 : Int32) (v4 : Int32) (v5 : Int32) (I : mIT) : Option (mIT) :=
  loopF (fun self (s : Int32 × Int32 × Int32 × mIT) => b_X3_find_13 Fu k2 self s.1 s.2.1 s.2.2.1 s.2.2.2) N (v3, v4, v5, I)
theorem wo_X3_find_13 {X : mXT} {E : mEn} {Fu : Nat} {R : mRT} {L : mLT} {k2 : Nat} (hC : mC X E mX3_find RX3 cX3_find) (hW : mWd R) (hk2 : mO4 R k2)  {out : mIT} (hE : mEd X E 0 0 (mSame none 106 1 (out) R L))  (N : Nat) (v3 : Int32) (v4 : Int32) (v5 : Int32) (I : mIT) (h : w_X3_find_13 Fu k2  N v3 v4 v5 I = some out) : mG X E 13 [(0, .ref (mB E + 69)), (1, .ref (mB E + 56)), (2, .ref (mB E + k2)), (3, .int v3), (4, .int v4), (5, .int v5)] [] 106 1 I R L 0 0 :=
  loopF_ok (Gd := fun s : Int32 × Int32 × Int32 × mIT => mG X E 13 [(0, .ref (mB E + 69)), (1, .ref (mB E + 56)), (2, .ref (mB E + k2)), (3, .int s.1), (4, .int s.2.1), (5, .int s.2.2.1)] [] 106 1 s.2.2.2 R L 0 0) (fun self hs s h => bo_X3_find_13 hC hW hk2 hE self (fun v3 v4 v5 I h => hs (v3, v4, v5, I) h) s.1 s.2.1 s.2.2.1 s.2.2.2 h) N (v3, v4, v5, I) h
noncomputable def f_X3_find (Fu : Nat) (I : mIT) (k2 : Nat) (v3 : Int32) (v4 : Int32) : Option (mIT) :=
  w_X3_find_13 Fu k2 Fu v3 v4 (0 : Int32) (mU (mU I 69 2 (0 : Int32)) 69 3 (-1 : Int32))
set_option maxRecDepth 20000 in
theorem ok_X3_find {l : Launch} {E : mEn} {Fu : Nat} {I : mIT} {R : mRT} {L : mLT} {k2 : Nat} {v3 : Int32} {v4 : Int32} (hst : l.stackTraces = false) (hW : mWd R) (hk2 : mO4 R k2) {out : mIT} (h : f_X3_find Fu I k2 v3 v4 = some out) : mOk l E mX3_find [.ref (mB E + 69), .ref (mB E + 56), .ref (mB E + k2), .int v3, .int v4] 106 1 I R L 0 0 (mSame none 106 1 (out) R L) := by
  refine mOk_of hst (by decide) (Nat.le_of_ble_eq_true rfl) (fun X hC hE _ => ?_)
  have hC : mC X E mX3_find RX3 cX3_find := hC
  show mG X E 0 [(0, .ref (mB E + 69)), (1, .ref (mB E + 56)), (2, .ref (mB E + k2)), (3, .int v3), (4, .int v4)] [] 106 1 I R L 0 0
  unfold f_X3_find at h
  refine g_aload_n hC dX3_find_0 rfl (q := 0) rfl ?_
  refine g_iconst hC dX3_find_1 (v := (0 : Int32)) (by decide) ?_
  refine g_puti hC fd_RX3_18 rfl (by decide) rfl dX3_find_2 (nm_e ?_)
  refine g_aload_n hC dX3_find_5 rfl (q := 0) rfl ?_
  refine g_iconst hC dX3_find_6 (v := (-1 : Int32)) (by decide) ?_
  refine g_puti hC fd_RX3_22 rfl (by decide) rfl dX3_find_7 (nm_e ?_)
  refine g_iconst hC dX3_find_10 (v := (0 : Int32)) (by decide) ?_
  refine g_istore hC dX3_find_11 rfl (by decide) (lv' := [(5, .int (0 : Int32)), (0, .ref (mB E + 69)), (1, .ref (mB E + 56)), (2, .ref (mB E + k2)), (3, .int v3), (4, .int v4)]) rfl ?_
  refine g_lv [1, 2, 3, 4, 5, 0] rfl ?_
  exact wo_X3_find_13 hC hW hk2 hE Fu (v3) (v4) ((0 : Int32)) ((mU (mU I 69 2 (0 : Int32)) 69 3 (-1 : Int32))) h
noncomputable def f_X3_many (Fu : Nat) (I : mIT)  : Option (Int32) :=
  some (I 69 2)
set_option maxRecDepth 20000 in
theorem ok_X3_many {l : Launch} {E : mEn} {Fu : Nat} {I : mIT} {R : mRT} {L : mLT}  (hst : l.stackTraces = false) (hW : mWd R)  {out : Int32} (h : f_X3_many Fu I  = some out) : mOk l E mX3_many [.ref (mB E + 69)] 106 1 I R L 0 0 (mSame (some (.int (out))) 106 1 I R L) := by
  refine mOk_of hst (by decide) (Nat.le_of_ble_eq_true rfl) (fun X hC hE _ => ?_)
  have hC : mC X E mX3_many RX3 cX3_many := hC
  show mG X E 0 [(0, .ref (mB E + 69))] [] 106 1 I R L 0 0
  unfold f_X3_many at h
  refine g_aload_n hC dX3_many_0 rfl (q := 0) rfl ?_
  refine g_geti hC fd_RX3_18 rfl (by decide) (Or.inl rfl) dX3_many_1 ?_
  cases h
  exact g_iret hC hE rfl dX3_many_4 (Nat.zero_le _) (Nat.zero_le _) ⟨rfl, rfl, rfl, rfl, rfl, rfl⟩
noncomputable def f_X3_first (Fu : Nat) (I : mIT)  : Option (Int32) :=
  some (I 69 3)
set_option maxRecDepth 20000 in
theorem ok_X3_first {l : Launch} {E : mEn} {Fu : Nat} {I : mIT} {R : mRT} {L : mLT}  (hst : l.stackTraces = false) (hW : mWd R)  {out : Int32} (h : f_X3_first Fu I  = some out) : mOk l E mX3_first [.ref (mB E + 69)] 106 1 I R L 0 0 (mSame (some (.int (out))) 106 1 I R L) := by
  refine mOk_of hst (by decide) (Nat.le_of_ble_eq_true rfl) (fun X hC hE _ => ?_)
  have hC : mC X E mX3_first RX3 cX3_first := hC
  show mG X E 0 [(0, .ref (mB E + 69))] [] 106 1 I R L 0 0
  unfold f_X3_first at h
  refine g_aload_n hC dX3_first_0 rfl (q := 0) rfl ?_
  refine g_geti hC fd_RX3_22 rfl (by decide) (Or.inl rfl) dX3_first_1 ?_
  cases h
  exact g_iret hC hE rfl dX3_first_4 (Nat.zero_le _) (Nat.zero_le _) ⟨rfl, rfl, rfl, rfl, rfl, rfl⟩
noncomputable def f_X11_eaten (Fu : Nat) (R : mRT) (I : mIT) (v1 : Int32) : Option ((Int32 × mIT) ⊕ (Nat × mIT)) :=
  if v1 < 0 then (some (.inr (1, I))) else (if v1 ≤ (2 : Int32) then (oB (R 0 3) (fun p25 => oB (f_X1_layTo Fu I p25 40 (30 : Int32)) (fun r34 => if v1 = (2 : Int32) then (oB (f_X3_agrees Fu r34 44 (0 : Int32) (0 : Int32)) (fun r56 => if r56 = 0 then (some (.inl ((0 : Int32), r34))) else (some (.inl ((1 : Int32), r34))))) else (oB (R 0 3) (fun p81 => oB (f_X11_bitsAt Fu R r34 (-2 : Int32)) (fun r90 => oB (f_X3_find Fu r34 44 (r34 p81 3) r90) (fun r93 => if v1 = 0 then (oB (f_X3_many Fu r93) (fun r104 => some (.inl (r104, r93)))) else (oB (f_X3_first Fu r93) (fun r114 => some (.inl (r114, r93))))))))))) else (some (.inr (1, I))))
set_option maxRecDepth 20000 in
theorem oy_X11_eaten {l : Launch} {E : mEn} {Fu : Nat} {I : mIT} {R : mRT} {L : mLT} {v1 : Int32} (hst : l.stackTraces = false) (hW : mWd R)  {out : (Int32 × mIT) ⊕ (Nat × mIT)} (h : f_X11_eaten Fu R I v1 = some out) {mc ms : Nat} {post : Option Value → Nat → Nat → mIT → mRT → mLT → Prop} {px : String → Nat → Nat → mIT → mRT → mLT → Prop} (ho : Sum.elim (fun o : Int32 × mIT => post (some (.int (o.1))) 106 1 (o.2) R L) (fun q : Nat × mIT => 1 ≤ mc ∧ 6 ≤ ms ∧ px (xNm q.1) 106 1 q.2 R L) out) : mOx l E mX11_eaten [.ref (mB E + 0), .int v1] 106 1 I R L mc ms post px := by
  refine mOx_of hst (by decide) (Nat.le_of_ble_eq_true rfl) (fun X hC hE0 _ => ?_)
  have hE : mEx X E mc ms post px ∧ Sum.elim (fun o : Int32 × mIT => post (some (.int (o.1))) 106 1 (o.2) R L) (fun q : Nat × mIT => 1 ≤ mc ∧ 6 ≤ ms ∧ px (xNm q.1) 106 1 q.2 R L) out := ⟨hE0, ho⟩
  have hC : mC X E mX11_eaten RX11 cX11_eaten := hC
  show mG X E 0 [(0, .ref (mB E + 0)), (1, .int v1)] [] 106 1 I R L 0 0
  unfold f_X11_eaten at h
  refine g_iload_n hC dX11_eaten_0 rfl (q := 1) rfl ?_
  refine g_if_lt hC dX11_eaten_1 (tgt := 9) (by decide) (fun c1 => ?_) (fun c1 => ?_)
  · replace h := (if_pos c1).symm.trans h
    cases h
    have hq : 1 ≤ mc ∧ 6 ≤ ms ∧ px (xNm 1) 106 1 I R L := hE.2
    exact g_thrw hC hE.1 tw_RX11_180 (j := 30) rfl dX11_eaten_9 dX11_eaten_12 dX11_eaten_13 dX11_eaten_16 dX11_eaten_19 (Nat.le_of_ble_eq_true rfl) (Nat.le_of_ble_eq_true rfl) (by decide) hq.1 hq.2.1 hq.2.2
  · replace h := (if_neg c1).symm.trans h
    refine g_iload_n hC dX11_eaten_4 rfl (q := 1) rfl ?_
    refine g_iconst hC dX11_eaten_5 (v := (2 : Int32)) (by decide) ?_
    refine g_ic_le hC dX11_eaten_6 (tgt := 20) (by decide) (fun c6 => ?_) (fun c6 => ?_)
    · replace h := (if_pos c6).symm.trans h
      refine g_aload_n hC dX11_eaten_20 rfl (q := 0) rfl ?_
      refine g_getr hC fd_RX11_68 rfl (by decide) (C0 := _) (t0 := .int) (Or.inl rfl) (rr_0_11 hW.1) dX11_eaten_21 ?_
      refine g_aload_n hC dX11_eaten_24 rfl (q := 0) rfl ?_
      obtain ⟨p25, e25, h⟩ := oB_some h
      have hp25 : mO5 R p25 := ob5 hW.1 (hW.2.1 p25 e25)
      refine g_getr hC fd_RX11_27 rfl (by decide) (C0 := _) (t0 := .int) (Or.inl rfl) e25 dX11_eaten_25 ?_
      refine g_aload_n hC dX11_eaten_28 rfl (q := 0) rfl ?_
      refine g_getr hC fd_RX11_34 rfl (by decide) (C0 := _) (t0 := .int) (Or.inl rfl) (rr_0_4 hW.1) dX11_eaten_29 ?_
      refine g_bipush hC dX11_eaten_32 (v := (30 : Int32)) (by decide) ?_
      obtain ⟨r34, h34, h⟩ := oB_some h
      refine g_cV0 hC cv_X1_layTo wd_664 ⟨Nat.le_of_ble_eq_true rfl, Nat.le_of_ble_eq_true rfl⟩ rfl (by decide) dX11_eaten_34 (As := [.ref (mB E + p25), .ref (mB E + 40), .int (30 : Int32)]) (st := []) (ok_X1_layTo hC.2.2.2.2.2.2.2.1 hW hp25 (ob_40 hW.1) h34) rfl rfl (Nat.le_of_ble_eq_true rfl) ⟨Nat.zero_le _, Nat.zero_le _⟩ ?_
      refine g_iload_n hC dX11_eaten_37 rfl (q := 1) rfl ?_
      refine g_iconst hC dX11_eaten_38 (v := (2 : Int32)) (by decide) ?_
      refine g_ic_ne hC dX11_eaten_39 (tgt := 68) (by decide) (fun c39 => ?_) (fun c39 => ?_)
      · replace h := (if_neg c39).symm.trans h
        refine g_aload_n hC dX11_eaten_68 rfl (q := 0) rfl ?_
        refine g_getr hC fd_RX11_89 rfl (by decide) (C0 := _) (t0 := .int) (Or.inl rfl) (rr_0_14 hW.1) dX11_eaten_69 ?_
        refine g_aload_n hC dX11_eaten_72 rfl (q := 0) rfl ?_
        refine g_getr hC fd_RX11_68 rfl (by decide) (C0 := _) (t0 := .int) (Or.inl rfl) (rr_0_11 hW.1) dX11_eaten_73 ?_
        refine g_aload_n hC dX11_eaten_76 rfl (q := 0) rfl ?_
        refine g_getr hC fd_RX11_48 rfl (by decide) (C0 := _) (t0 := .int) (Or.inl rfl) (rr_0_6 hW.1) dX11_eaten_77 ?_
        refine g_aload_n hC dX11_eaten_80 rfl (q := 0) rfl ?_
        obtain ⟨p81, e81, h⟩ := oB_some h
        have hp81 : mO5 R p81 := ob5 hW.1 (hW.2.1 p81 e81)
        refine g_getr hC fd_RX11_27 rfl (by decide) (C0 := _) (t0 := .int) (Or.inl rfl) e81 dX11_eaten_81 ?_
        refine g_geti hC fd_RX11_140 hp81.2.1 hp81.1 (Or.inl rfl) dX11_eaten_84 ?_
        refine g_aload_n hC dX11_eaten_87 rfl (q := 0) rfl ?_
        refine g_bipush hC dX11_eaten_88 (v := (-2 : Int32)) (by decide) ?_
        obtain ⟨r90, h90, h⟩ := oB_some h
        refine g_cV1 hC cv_X11_bitsAt wd_1150 ⟨Nat.le_of_ble_eq_true rfl, Nat.le_of_ble_eq_true rfl⟩ rfl (by decide) dX11_eaten_90 (As := [.int (-2 : Int32)]) (st := [.int (r34 p81 3), .ref (mB E + 44), .ref (mB E + 56), .ref (mB E + 69)]) (ok_X11_bitsAt hC.2.2.2.2.2.2.2.1 hW h90) rfl rfl (Nat.le_of_ble_eq_true rfl) ⟨Nat.zero_le _, Nat.zero_le _⟩ ?_
        obtain ⟨r93, h93, h⟩ := oB_some h
        refine g_cV0 hC cv_X3_find wd_1425 ⟨Nat.le_of_ble_eq_true rfl, Nat.le_of_ble_eq_true rfl⟩ rfl (by decide) dX11_eaten_93 (As := [.ref (mB E + 56), .ref (mB E + 44), .int (r34 p81 3), .int r90]) (st := []) (ok_X3_find hC.2.2.2.2.2.2.2.1 hW (ob_44 hW.1) h93) rfl rfl (Nat.le_of_ble_eq_true rfl) ⟨Nat.zero_le _, Nat.zero_le _⟩ ?_
        refine g_iload_n hC dX11_eaten_96 rfl (q := 1) rfl ?_
        refine g_if_ne hC dX11_eaten_97 (tgt := 110) (by decide) (fun c97 => ?_) (fun c97 => ?_)
        · replace h := (if_neg c97).symm.trans h
          refine g_aload_n hC dX11_eaten_110 rfl (q := 0) rfl ?_
          refine g_getr hC fd_RX11_89 rfl (by decide) (C0 := _) (t0 := .int) (Or.inl rfl) (rr_0_14 hW.1) dX11_eaten_111 ?_
          obtain ⟨r114, h114, h⟩ := oB_some h
          refine g_cV1 hC cv_X3_first wd_1434 ⟨Nat.le_of_ble_eq_true rfl, Nat.le_of_ble_eq_true rfl⟩ rfl (by decide) dX11_eaten_114 (As := []) (st := []) (ok_X3_first hC.2.2.2.2.2.2.2.1 hW h114) rfl rfl (Nat.le_of_ble_eq_true rfl) ⟨Nat.zero_le _, Nat.zero_le _⟩ ?_
          cases h
          exact g_xiret hC hE.1 rfl dX11_eaten_117 (Nat.zero_le _) (Nat.zero_le _) hE.2
        · replace h := (if_pos c97).symm.trans h
          refine g_aload_n hC dX11_eaten_100 rfl (q := 0) rfl ?_
          refine g_getr hC fd_RX11_89 rfl (by decide) (C0 := _) (t0 := .int) (Or.inl rfl) (rr_0_14 hW.1) dX11_eaten_101 ?_
          obtain ⟨r104, h104, h⟩ := oB_some h
          refine g_cV1 hC cv_X3_many wd_1430 ⟨Nat.le_of_ble_eq_true rfl, Nat.le_of_ble_eq_true rfl⟩ rfl (by decide) dX11_eaten_104 (As := []) (st := []) (ok_X3_many hC.2.2.2.2.2.2.2.1 hW h104) rfl rfl (Nat.le_of_ble_eq_true rfl) ⟨Nat.zero_le _, Nat.zero_le _⟩ ?_
          refine g_goto hC dX11_eaten_107 (tgt := 117) (by decide) ?_
          cases h
          exact g_xiret hC hE.1 rfl dX11_eaten_117 (Nat.zero_le _) (Nat.zero_le _) hE.2
      · replace h := (if_pos c39).symm.trans h
        refine g_aload_n hC dX11_eaten_42 rfl (q := 0) rfl ?_
        refine g_getr hC fd_RX11_89 rfl (by decide) (C0 := _) (t0 := .int) (Or.inl rfl) (rr_0_14 hW.1) dX11_eaten_43 ?_
        refine g_aload_n hC dX11_eaten_46 rfl (q := 0) rfl ?_
        refine g_getr hC fd_RX11_68 rfl (by decide) (C0 := _) (t0 := .int) (Or.inl rfl) (rr_0_11 hW.1) dX11_eaten_47 ?_
        refine g_aload_n hC dX11_eaten_50 rfl (q := 0) rfl ?_
        refine g_getr hC fd_RX11_48 rfl (by decide) (C0 := _) (t0 := .int) (Or.inl rfl) (rr_0_6 hW.1) dX11_eaten_51 ?_
        refine g_iconst hC dX11_eaten_54 (v := (0 : Int32)) (by decide) ?_
        refine g_iconst hC dX11_eaten_55 (v := (0 : Int32)) (by decide) ?_
        obtain ⟨r56, h56, h⟩ := oB_some h
        refine g_cV1 hC cv_X3_agrees wd_1410 ⟨Nat.le_of_ble_eq_true rfl, Nat.le_of_ble_eq_true rfl⟩ rfl (by decide) dX11_eaten_56 (As := [.ref (mB E + 56), .ref (mB E + 44), .int (0 : Int32), .int (0 : Int32)]) (st := []) (ok_X3_agrees hC.2.2.2.2.2.2.2.1 hW (ob_44 hW.1) h56) rfl rfl (Nat.le_of_ble_eq_true rfl) ⟨Nat.zero_le _, Nat.zero_le _⟩ ?_
        refine g_if_eq hC dX11_eaten_59 (tgt := 66) (by decide) (fun c59 => ?_) (fun c59 => ?_)
        · replace h := (if_pos c59).symm.trans h
          refine g_iconst hC dX11_eaten_66 (v := (0 : Int32)) (by decide) ?_
          cases h
          exact g_xiret hC hE.1 rfl dX11_eaten_67 (Nat.zero_le _) (Nat.zero_le _) hE.2
        · replace h := (if_neg c59).symm.trans h
          refine g_iconst hC dX11_eaten_62 (v := (1 : Int32)) (by decide) ?_
          refine g_goto hC dX11_eaten_63 (tgt := 67) (by decide) ?_
          cases h
          exact g_xiret hC hE.1 rfl dX11_eaten_67 (Nat.zero_le _) (Nat.zero_le _) hE.2
    · replace h := (if_neg c6).symm.trans h
      cases h
      have hq : 1 ≤ mc ∧ 6 ≤ ms ∧ px (xNm 1) 106 1 I R L := hE.2
      exact g_thrw hC hE.1 tw_RX11_180 (j := 30) rfl dX11_eaten_9 dX11_eaten_12 dX11_eaten_13 dX11_eaten_16 dX11_eaten_19 (Nat.le_of_ble_eq_true rfl) (Nat.le_of_ble_eq_true rfl) (by decide) hq.1 hq.2.1 hq.2.2
theorem oi_X11_eaten {l : Launch} {E : mEn} {Fu : Nat} {I : mIT} {R : mRT} {L : mLT} {v1 : Int32} (hst : l.stackTraces = false) (hW : mWd R)  {out : Int32 × mIT} (h : f_X11_eaten Fu R I v1 = some (.inl out)) : mOx l E mX11_eaten [.ref (mB E + 0), .int v1] 106 1 I R L 0 0 (mSame (some (.int (out.1))) 106 1 (out.2) R L) (fun _ _ _ _ _ _ => False) := oy_X11_eaten hst hW h ⟨rfl, rfl, rfl, rfl, rfl, rfl⟩
theorem ox_X11_eaten {l : Launch} {E : mEn} {Fu : Nat} {I : mIT} {R : mRT} {L : mLT} {v1 : Int32} (hst : l.stackTraces = false) (hW : mWd R)  {q : Nat × mIT} (h : f_X11_eaten Fu R I v1 = some (.inr q)) : mOx l E mX11_eaten [.ref (mB E + 0), .int v1] 106 1 I R L 1 6 (fun _ _ _ _ _ _ => False) (mXp q.1 106 1 q.2 R L) := oy_X11_eaten hst hW h ⟨Nat.le_refl _, Nat.le_refl _, rfl, rfl, rfl, rfl, rfl, rfl⟩
noncomputable def f_X11_fault (Fu : Nat) (I : mIT)  : Option (Int32) :=
  some (I 0 1)
set_option maxRecDepth 20000 in
theorem ok_X11_fault {l : Launch} {E : mEn} {Fu : Nat} {I : mIT} {R : mRT} {L : mLT}  (hst : l.stackTraces = false) (hW : mWd R)  {out : Int32} (h : f_X11_fault Fu I  = some out) : mOk l E mX11_fault [.ref (mB E + 0)] 106 1 I R L 0 0 (mSame (some (.int (out))) 106 1 I R L) := by
  refine mOk_of hst (by decide) (Nat.le_of_ble_eq_true rfl) (fun X hC hE _ => ?_)
  have hC : mC X E mX11_fault RX11 cX11_fault := hC
  show mG X E 0 [(0, .ref (mB E + 0))] [] 106 1 I R L 0 0
  unfold f_X11_fault at h
  refine g_aload_n hC dX11_fault_0 rfl (q := 0) rfl ?_
  refine g_geti hC fd_RX11_16 rfl (by decide) (Or.inl rfl) dX11_fault_1 ?_
  cases h
  exact g_iret hC hE rfl dX11_fault_4 (Nat.zero_le _) (Nat.zero_le _) ⟨rfl, rfl, rfl, rfl, rfl, rfl⟩
noncomputable def b_X6_putBytes_3 (Fu : Nat) (k3_ : Int32 × Int32 × mIT → Option (mIT)) (v1 : Int32) (v2 : Int32) (I : mIT) : Option (mIT) :=
  if v2 < 0 then (some (I)) else (if (I 1 1) < 0 then (k3_ (v1, (v2 + (-8 : Int32)), I)) else (if (nI 700) ≤ (I 1 1) then (k3_ (v1, (v2 + (-8 : Int32)), I)) else (oG (inB (I 1 1) 700) (k3_ (v1, (v2 + (-8 : Int32)), (mU (mU I 2 ((I 1 1)).toNatClampNeg ((((((v1).toUInt32 >>> ((v2).toUInt32 &&& Int32.toUInt32 31)).toInt32).toInt8.toInt32)).toInt8.toInt32)) 1 1 (((mU I 2 ((I 1 1)).toNatClampNeg ((((((v1).toUInt32 >>> ((v2).toUInt32 &&& Int32.toUInt32 31)).toInt32).toInt8.toInt32)).toInt8.toInt32)) 1 1) + (1 : Int32))))))))
set_option maxRecDepth 20000 in
theorem bo_X6_putBytes_3 {X : mXT} {E : mEn} {Fu : Nat} {R : mRT} {L : mLT}  (hC : mC X E mX6_putBytes RX6 cX6_putBytes) (hW : mWd R)   {out : mIT} (hE : mEd X E 0 0 (mSame none 106 1 (out) R L)) (k3_ : Int32 × Int32 × mIT → Option (mIT)) (hk3_ : ∀ (v1 : Int32) (v2 : Int32) (I : mIT),  k3_ (v1, v2, I) = some out → mG X E 3 [(0, .ref (mB E + 1)), (1, .int v1), (2, .int v2)] [] 106 1 I R L 0 0) (v1 : Int32) (v2 : Int32) (I : mIT) (h : b_X6_putBytes_3 Fu k3_ v1 v2 I = some out) : mG X E 3 [(0, .ref (mB E + 1)), (1, .int v1), (2, .int v2)] [] 106 1 I R L 0 0 := by
  unfold b_X6_putBytes_3 at h
  refine g_iload_n hC dX6_putBytes_3 rfl (q := 2) rfl ?_
  refine g_if_lt hC dX6_putBytes_4 (tgt := 55) (by decide) (fun c4 => ?_) (fun c4 => ?_)
  · replace h := (if_pos c4).symm.trans h
    cases h
    exact g_vret hC hE rfl dX6_putBytes_55 (Nat.zero_le _) (Nat.zero_le _) ⟨rfl, rfl, rfl, rfl, rfl, rfl⟩
  · replace h := (if_neg c4).symm.trans h
    refine g_aload_n hC dX6_putBytes_7 rfl (q := 0) rfl ?_
    refine g_geti hC fd_RX6_15 rfl (by decide) (Or.inl rfl) dX6_putBytes_8 ?_
    refine g_if_lt hC dX6_putBytes_11 (tgt := 49) (by decide) (fun c11 => ?_) (fun c11 => ?_)
    · replace h := (if_pos c11).symm.trans h
      refine g_iinc hC dX6_putBytes_49 rfl (q := 2) rfl (w := (v2 + (-8 : Int32))) rfl (by decide) (lv' := [(2, .int (v2 + (-8 : Int32))), (0, .ref (mB E + 1)), (1, .int v1)]) rfl ?_
      refine g_goto hC dX6_putBytes_52 (tgt := 3) (by decide) ?_
      refine g_lv [1, 2, 0] rfl ?_
      exact hk3_ v1 (v2 + (-8 : Int32)) I h
    · replace h := (if_neg c11).symm.trans h
      refine g_aload_n hC dX6_putBytes_14 rfl (q := 0) rfl ?_
      refine g_geti hC fd_RX6_15 rfl (by decide) (Or.inl rfl) dX6_putBytes_15 ?_
      refine g_aload_n hC dX6_putBytes_18 rfl (q := 0) rfl ?_
      refine g_getr hC fd_RX6_9 rfl (by decide) (C0 := "") (t0 := _) (Or.inr rfl) (rr_1_0 hW.1) dX6_putBytes_19 ?_
      refine g_alenB hC rfl (by decide) dX6_putBytes_22 ?_
      refine g_ic_ge hC dX6_putBytes_23 (tgt := 49) (by decide) (fun c23 => ?_) (fun c23 => ?_)
      · replace h := (if_pos c23).symm.trans h
        refine g_iinc hC dX6_putBytes_49 rfl (q := 2) rfl (w := (v2 + (-8 : Int32))) rfl (by decide) (lv' := [(2, .int (v2 + (-8 : Int32))), (0, .ref (mB E + 1)), (1, .int v1)]) rfl ?_
        refine g_goto hC dX6_putBytes_52 (tgt := 3) (by decide) ?_
        refine g_lv [1, 2, 0] rfl ?_
        exact hk3_ v1 (v2 + (-8 : Int32)) I h
      · replace h := (if_neg c23).symm.trans h
        refine g_aload_n hC dX6_putBytes_26 rfl (q := 0) rfl ?_
        refine g_getr hC fd_RX6_9 rfl (by decide) (C0 := "") (t0 := _) (Or.inr rfl) (rr_1_0 hW.1) dX6_putBytes_27 ?_
        refine g_aload_n hC dX6_putBytes_30 rfl (q := 0) rfl ?_
        refine g_geti hC fd_RX6_15 rfl (by decide) (Or.inl rfl) dX6_putBytes_31 ?_
        refine g_iload_n hC dX6_putBytes_34 rfl (q := 1) rfl ?_
        refine g_iload_n hC dX6_putBytes_35 rfl (q := 2) rfl ?_
        refine g_iushr hC dX6_putBytes_36 ?_
        refine g_i2b hC dX6_putBytes_37 ?_
        obtain ⟨g38, h⟩ := oG_some h
        refine g_bast hC rfl (by decide) (inB_in g38) dX6_putBytes_38 (nm_e ?_)
        refine g_aload_n hC dX6_putBytes_39 rfl (q := 0) rfl ?_
        refine g_dup hC dX6_putBytes_40 rfl ?_
        refine g_geti hC fd_RX6_15 rfl (by decide) (Or.inl rfl) dX6_putBytes_41 ?_
        refine g_iconst hC dX6_putBytes_44 (v := (1 : Int32)) (by decide) ?_
        refine g_iadd hC dX6_putBytes_45 ?_
        refine g_puti hC fd_RX6_15 rfl (by decide) rfl dX6_putBytes_46 (nm_e ?_)
        refine g_iinc hC dX6_putBytes_49 rfl (q := 2) rfl (w := (v2 + (-8 : Int32))) rfl (by decide) (lv' := [(2, .int (v2 + (-8 : Int32))), (0, .ref (mB E + 1)), (1, .int v1)]) rfl ?_
        refine g_goto hC dX6_putBytes_52 (tgt := 3) (by decide) ?_
        refine g_lv [1, 2, 0] rfl ?_
        exact hk3_ v1 (v2 + (-8 : Int32)) (mU (mU I 2 ((I 1 1)).toNatClampNeg ((((((v1).toUInt32 >>> ((v2).toUInt32 &&& Int32.toUInt32 31)).toInt32).toInt8.toInt32)).toInt8.toInt32)) 1 1 (((mU I 2 ((I 1 1)).toNatClampNeg ((((((v1).toUInt32 >>> ((v2).toUInt32 &&& Int32.toUInt32 31)).toInt32).toInt8.toInt32)).toInt8.toInt32)) 1 1) + (1 : Int32))) h
noncomputable def w_X6_putBytes_3 (Fu : Nat)  (N : Nat) (v1 : Int32) (v2 : Int32) (I : mIT) : Option (mIT) :=
  loopF (fun self (s : Int32 × Int32 × mIT) => b_X6_putBytes_3 Fu self s.1 s.2.1 s.2.2) N (v1, v2, I)
theorem wo_X6_putBytes_3 {X : mXT} {E : mEn} {Fu : Nat} {R : mRT} {L : mLT}  (hC : mC X E mX6_putBytes RX6 cX6_putBytes) (hW : mWd R)   {out : mIT} (hE : mEd X E 0 0 (mSame none 106 1 (out) R L))  (N : Nat) (v1 : Int32) (v2 : Int32) (I : mIT) (h : w_X6_putBytes_3 Fu  N v1 v2 I = some out) : mG X E 3 [(0, .ref (mB E + 1)), (1, .int v1), (2, .int v2)] [] 106 1 I R L 0 0 :=
  loopF_ok (Gd := fun s : Int32 × Int32 × mIT => mG X E 3 [(0, .ref (mB E + 1)), (1, .int s.1), (2, .int s.2.1)] [] 106 1 s.2.2 R L 0 0) (fun self hs s h => bo_X6_putBytes_3 hC hW hE self (fun v1 v2 I h => hs (v1, v2, I) h) s.1 s.2.1 s.2.2 h) N (v1, v2, I) h
noncomputable def f_X6_putBytes (Fu : Nat) (I : mIT) (v1 : Int32) : Option (mIT) :=
  w_X6_putBytes_3 Fu Fu v1 (24 : Int32) I
set_option maxRecDepth 20000 in
theorem ok_X6_putBytes {l : Launch} {E : mEn} {Fu : Nat} {I : mIT} {R : mRT} {L : mLT} {v1 : Int32} (hst : l.stackTraces = false) (hW : mWd R)  {out : mIT} (h : f_X6_putBytes Fu I v1 = some out) : mOk l E mX6_putBytes [.ref (mB E + 1), .int v1] 106 1 I R L 0 0 (mSame none 106 1 (out) R L) := by
  refine mOk_of hst (by decide) (Nat.le_of_ble_eq_true rfl) (fun X hC hE _ => ?_)
  have hC : mC X E mX6_putBytes RX6 cX6_putBytes := hC
  show mG X E 0 [(0, .ref (mB E + 1)), (1, .int v1)] [] 106 1 I R L 0 0
  unfold f_X6_putBytes at h
  refine g_bipush hC dX6_putBytes_0 (v := (24 : Int32)) (by decide) ?_
  refine g_istore_n hC dX6_putBytes_2 rfl rfl (by decide) (lv' := [(2, .int (24 : Int32)), (0, .ref (mB E + 1)), (1, .int v1)]) rfl ?_
  refine g_lv [1, 2, 0] rfl ?_
  exact wo_X6_putBytes_3 hC hW hE Fu (v1) ((24 : Int32)) (I) h
noncomputable def f_X11_feed (Fu : Nat) (I : mIT) (v1 : Int32) (v2 : Int32) (v3 : Int32) (v4 : Int32) (v5 : Int32) : Option (Int32 × mIT) :=
  oB (f_X6_taped Fu I) (fun r4 => if r4 ≤ (680 : Int32) then (oB (f_X6_putBytes Fu I v1) (fun r20 => oB (f_X6_putBytes Fu r20 v2) (fun r28 => oB (f_X6_putBytes Fu r28 v3) (fun r36 => oB (f_X6_putBytes Fu r36 v4) (fun r45 => oB (f_X6_putBytes Fu r45 v5) (fun r54 => oB (f_X6_taped Fu r54) (fun r61 => some (r61, r54)))))))) else (some ((-1 : Int32), I)))
set_option maxRecDepth 20000 in
theorem ok_X11_feed {l : Launch} {E : mEn} {Fu : Nat} {I : mIT} {R : mRT} {L : mLT} {v1 : Int32} {v2 : Int32} {v3 : Int32} {v4 : Int32} {v5 : Int32} (hst : l.stackTraces = false) (hW : mWd R)  {out : Int32 × mIT} (h : f_X11_feed Fu I v1 v2 v3 v4 v5 = some out) : mOk l E mX11_feed [.ref (mB E + 0), .int v1, .int v2, .int v3, .int v4, .int v5] 106 1 I R L 0 0 (mSame (some (.int (out.1))) 106 1 (out.2) R L) := by
  refine mOk_of hst (by decide) (Nat.le_of_ble_eq_true rfl) (fun X hC hE _ => ?_)
  have hC : mC X E mX11_feed RX11 cX11_feed := hC
  show mG X E 0 [(0, .ref (mB E + 0)), (1, .int v1), (2, .int v2), (3, .int v3), (4, .int v4), (5, .int v5)] [] 106 1 I R L 0 0
  unfold f_X11_feed at h
  refine g_aload_n hC dX11_feed_0 rfl (q := 0) rfl ?_
  refine g_getr hC fd_RX11_10 rfl (by decide) (C0 := _) (t0 := .int) (Or.inl rfl) (rr_0_0 hW.1) dX11_feed_1 ?_
  obtain ⟨r4, h4, h⟩ := oB_some h
  refine g_cV1 hC cv_X6_taped wd_523 ⟨Nat.le_of_ble_eq_true rfl, Nat.le_of_ble_eq_true rfl⟩ rfl (by decide) dX11_feed_4 (As := []) (st := []) (ok_X6_taped hC.2.2.2.2.2.2.2.1 hW h4) rfl rfl (Nat.le_of_ble_eq_true rfl) ⟨Nat.zero_le _, Nat.zero_le _⟩ ?_
  refine g_sipush hC dX11_feed_7 (v := (680 : Int32)) (by decide) ?_
  refine g_ic_le hC dX11_feed_10 (tgt := 15) (by decide) (fun c10 => ?_) (fun c10 => ?_)
  · replace h := (if_pos c10).symm.trans h
    refine g_aload_n hC dX11_feed_15 rfl (q := 0) rfl ?_
    refine g_getr hC fd_RX11_10 rfl (by decide) (C0 := _) (t0 := .int) (Or.inl rfl) (rr_0_0 hW.1) dX11_feed_16 ?_
    refine g_iload_n hC dX11_feed_19 rfl (q := 1) rfl ?_
    obtain ⟨r20, h20, h⟩ := oB_some h
    refine g_cV0 hC cv_X6_putBytes wd_527 ⟨Nat.le_of_ble_eq_true rfl, Nat.le_of_ble_eq_true rfl⟩ rfl (by decide) dX11_feed_20 (As := [.int v1]) (st := []) (ok_X6_putBytes hC.2.2.2.2.2.2.2.1 hW h20) rfl rfl (Nat.le_of_ble_eq_true rfl) ⟨Nat.zero_le _, Nat.zero_le _⟩ ?_
    refine g_aload_n hC dX11_feed_23 rfl (q := 0) rfl ?_
    refine g_getr hC fd_RX11_10 rfl (by decide) (C0 := _) (t0 := .int) (Or.inl rfl) (rr_0_0 hW.1) dX11_feed_24 ?_
    refine g_iload_n hC dX11_feed_27 rfl (q := 2) rfl ?_
    obtain ⟨r28, h28, h⟩ := oB_some h
    refine g_cV0 hC cv_X6_putBytes wd_527 ⟨Nat.le_of_ble_eq_true rfl, Nat.le_of_ble_eq_true rfl⟩ rfl (by decide) dX11_feed_28 (As := [.int v2]) (st := []) (ok_X6_putBytes hC.2.2.2.2.2.2.2.1 hW h28) rfl rfl (Nat.le_of_ble_eq_true rfl) ⟨Nat.zero_le _, Nat.zero_le _⟩ ?_
    refine g_aload_n hC dX11_feed_31 rfl (q := 0) rfl ?_
    refine g_getr hC fd_RX11_10 rfl (by decide) (C0 := _) (t0 := .int) (Or.inl rfl) (rr_0_0 hW.1) dX11_feed_32 ?_
    refine g_iload_n hC dX11_feed_35 rfl (q := 3) rfl ?_
    obtain ⟨r36, h36, h⟩ := oB_some h
    refine g_cV0 hC cv_X6_putBytes wd_527 ⟨Nat.le_of_ble_eq_true rfl, Nat.le_of_ble_eq_true rfl⟩ rfl (by decide) dX11_feed_36 (As := [.int v3]) (st := []) (ok_X6_putBytes hC.2.2.2.2.2.2.2.1 hW h36) rfl rfl (Nat.le_of_ble_eq_true rfl) ⟨Nat.zero_le _, Nat.zero_le _⟩ ?_
    refine g_aload_n hC dX11_feed_39 rfl (q := 0) rfl ?_
    refine g_getr hC fd_RX11_10 rfl (by decide) (C0 := _) (t0 := .int) (Or.inl rfl) (rr_0_0 hW.1) dX11_feed_40 ?_
    refine g_iload hC dX11_feed_43 (q := 4) rfl ?_
    obtain ⟨r45, h45, h⟩ := oB_some h
    refine g_cV0 hC cv_X6_putBytes wd_527 ⟨Nat.le_of_ble_eq_true rfl, Nat.le_of_ble_eq_true rfl⟩ rfl (by decide) dX11_feed_45 (As := [.int v4]) (st := []) (ok_X6_putBytes hC.2.2.2.2.2.2.2.1 hW h45) rfl rfl (Nat.le_of_ble_eq_true rfl) ⟨Nat.zero_le _, Nat.zero_le _⟩ ?_
    refine g_aload_n hC dX11_feed_48 rfl (q := 0) rfl ?_
    refine g_getr hC fd_RX11_10 rfl (by decide) (C0 := _) (t0 := .int) (Or.inl rfl) (rr_0_0 hW.1) dX11_feed_49 ?_
    refine g_iload hC dX11_feed_52 (q := 5) rfl ?_
    obtain ⟨r54, h54, h⟩ := oB_some h
    refine g_cV0 hC cv_X6_putBytes wd_527 ⟨Nat.le_of_ble_eq_true rfl, Nat.le_of_ble_eq_true rfl⟩ rfl (by decide) dX11_feed_54 (As := [.int v5]) (st := []) (ok_X6_putBytes hC.2.2.2.2.2.2.2.1 hW h54) rfl rfl (Nat.le_of_ble_eq_true rfl) ⟨Nat.zero_le _, Nat.zero_le _⟩ ?_
    refine g_aload_n hC dX11_feed_57 rfl (q := 0) rfl ?_
    refine g_getr hC fd_RX11_10 rfl (by decide) (C0 := _) (t0 := .int) (Or.inl rfl) (rr_0_0 hW.1) dX11_feed_58 ?_
    obtain ⟨r61, h61, h⟩ := oB_some h
    refine g_cV1 hC cv_X6_taped wd_523 ⟨Nat.le_of_ble_eq_true rfl, Nat.le_of_ble_eq_true rfl⟩ rfl (by decide) dX11_feed_61 (As := []) (st := []) (ok_X6_taped hC.2.2.2.2.2.2.2.1 hW h61) rfl rfl (Nat.le_of_ble_eq_true rfl) ⟨Nat.zero_le _, Nat.zero_le _⟩ ?_
    cases h
    exact g_iret hC hE rfl dX11_feed_64 (Nat.zero_le _) (Nat.zero_le _) ⟨rfl, rfl, rfl, rfl, rfl, rfl⟩
  · replace h := (if_neg c10).symm.trans h
    refine g_iconst hC dX11_feed_13 (v := (-1 : Int32)) (by decide) ?_
    cases h
    exact g_iret hC hE rfl dX11_feed_14 (Nat.zero_le _) (Nat.zero_le _) ⟨rfl, rfl, rfl, rfl, rfl, rfl⟩
noncomputable def f_X9_roomToHollow (Fu : Nat) (I : mIT) (k0 : Nat) (v1 : Int32) : Option (Int32) :=
  oB (f_X9_placeOf Fu I k0 v1) (fun r2 => if r2 = (-2 : Int32) then (some (0 : Int32)) else (oB (f_X9_hollowOf Fu I k0 v1) (fun r14 => oB (f_X9_sizeOf Fu I k0 v1) (fun r24 => some (if ((r24 - (1 : Int32)) - r14) < ((20 : Int32) - r14) then ((r24 - (1 : Int32)) - r14) else ((20 : Int32) - r14))))))
set_option maxRecDepth 20000 in
theorem ok_X9_roomToHollow {l : Launch} {E : mEn} {Fu : Nat} {I : mIT} {R : mRT} {L : mLT} {k0 : Nat} {v1 : Int32} (hst : l.stackTraces = false) (hk0 : mO9 R k0) {out : Int32} (h : f_X9_roomToHollow Fu I k0 v1 = some out) : mOk l E mX9_roomToHollow [.ref (mB E + k0), .int v1] 106 1 I R L 0 0 (mSame (some (.int (out))) 106 1 I R L) := by
  refine mOk_of hst (by decide) (Nat.le_of_ble_eq_true rfl) (fun X hC hE _ => ?_)
  have hC : mC X E mX9_roomToHollow RX9 cX9_roomToHollow := hC
  show mG X E 0 [(0, .ref (mB E + k0)), (1, .int v1)] [] 106 1 I R L 0 0
  unfold f_X9_roomToHollow at h
  refine g_aload_n hC dX9_roomToHollow_0 rfl (q := 0) rfl ?_
  refine g_iload_n hC dX9_roomToHollow_1 rfl (q := 1) rfl ?_
  obtain ⟨r2, h2, h⟩ := oB_some h
  refine g_cV1 hC cv_X9_placeOf wd_586 ⟨Nat.le_of_ble_eq_true rfl, Nat.le_of_ble_eq_true rfl⟩ hk0.2.1 hk0.1 dX9_roomToHollow_2 (As := [.int v1]) (st := []) (ok_X9_placeOf hC.2.2.2.2.2.2.2.1 hk0 h2) rfl rfl (Nat.le_of_ble_eq_true rfl) ⟨Nat.zero_le _, Nat.zero_le _⟩ ?_
  refine g_bipush hC dX9_roomToHollow_5 (v := (-2 : Int32)) (by decide) ?_
  refine g_ic_ne hC dX9_roomToHollow_7 (tgt := 12) (by decide) (fun c7 => ?_) (fun c7 => ?_)
  · replace h := (if_neg c7).symm.trans h
    refine g_aload_n hC dX9_roomToHollow_12 rfl (q := 0) rfl ?_
    refine g_iload_n hC dX9_roomToHollow_13 rfl (q := 1) rfl ?_
    obtain ⟨r14, h14, h⟩ := oB_some h
    refine g_cV1 hC cv_X9_hollowOf wd_602 ⟨Nat.le_of_ble_eq_true rfl, Nat.le_of_ble_eq_true rfl⟩ hk0.2.1 hk0.1 dX9_roomToHollow_14 (As := [.int v1]) (st := []) (ok_X9_hollowOf hC.2.2.2.2.2.2.2.1 hk0 h14) rfl rfl (Nat.le_of_ble_eq_true rfl) ⟨Nat.zero_le _, Nat.zero_le _⟩ ?_
    refine g_istore_n hC dX9_roomToHollow_17 rfl rfl (by decide) (lv' := [(2, .int r14), (0, .ref (mB E + k0)), (1, .int v1)]) rfl ?_
    refine g_bipush hC dX9_roomToHollow_18 (v := (20 : Int32)) (by decide) ?_
    refine g_iload_n hC dX9_roomToHollow_20 rfl (q := 0) rfl ?_
    refine g_isub hC dX9_roomToHollow_21 ?_
    refine g_aload_n hC dX9_roomToHollow_22 rfl (q := 1) rfl ?_
    refine g_iload_n hC dX9_roomToHollow_23 rfl (q := 2) rfl ?_
    obtain ⟨r24, h24, h⟩ := oB_some h
    refine g_cV1 hC cv_X9_sizeOf wd_590 ⟨Nat.le_of_ble_eq_true rfl, Nat.le_of_ble_eq_true rfl⟩ hk0.2.1 hk0.1 dX9_roomToHollow_24 (As := [.int v1]) (st := [.int ((20 : Int32) - r14)]) (ok_X9_sizeOf hC.2.2.2.2.2.2.2.1 hk0 h24) rfl rfl (Nat.le_of_ble_eq_true rfl) ⟨Nat.zero_le _, Nat.zero_le _⟩ ?_
    refine g_iconst hC dX9_roomToHollow_27 (v := (1 : Int32)) (by decide) ?_
    refine g_isub hC dX9_roomToHollow_28 ?_
    refine g_iload_n hC dX9_roomToHollow_29 rfl (q := 0) rfl ?_
    refine g_isub hC dX9_roomToHollow_30 ?_
    refine g_mmin hC wd_635 wd_st_min wd_in_math wd_cd_min (Nat.le_of_ble_eq_true rfl) (Nat.le_of_ble_eq_true rfl) ⟨Nat.zero_le _, Nat.zero_le _⟩ dX9_roomToHollow_31 ?_
    cases h
    exact g_iret hC hE rfl dX9_roomToHollow_34 (Nat.zero_le _) (Nat.zero_le _) ⟨rfl, rfl, rfl, rfl, rfl, rfl⟩
  · replace h := (if_pos c7).symm.trans h
    refine g_iconst hC dX9_roomToHollow_10 (v := (0 : Int32)) (by decide) ?_
    cases h
    exact g_iret hC hE rfl dX9_roomToHollow_11 (Nat.zero_le _) (Nat.zero_le _) ⟨rfl, rfl, rfl, rfl, rfl, rfl⟩
noncomputable def f_X5_tuneNote (Fu : Nat) (I : mIT) (k0 : Nat) (v1 : Int32) : Option (Int32) :=
  if v1 < 0 then (some (0 : Int32)) else (if (nI 8) ≤ v1 then (some (0 : Int32)) else (oG (inB v1 8) (some (I (k0 + 3) (v1).toNatClampNeg))))
set_option maxRecDepth 20000 in
theorem ok_X5_tuneNote {l : Launch} {E : mEn} {Fu : Nat} {I : mIT} {R : mRT} {L : mLT} {k0 : Nat} {v1 : Int32} (hst : l.stackTraces = false) (hk0 : mO5 R k0) {out : Int32} (h : f_X5_tuneNote Fu I k0 v1 = some out) : mOk l E mX5_tuneNote [.ref (mB E + k0), .int v1] 106 1 I R L 0 0 (mSame (some (.int (out))) 106 1 I R L) := by
  refine mOk_of hst (by decide) (Nat.le_of_ble_eq_true rfl) (fun X hC hE _ => ?_)
  have hC : mC X E mX5_tuneNote RX5 cX5_tuneNote := hC
  show mG X E 0 [(0, .ref (mB E + k0)), (1, .int v1)] [] 106 1 I R L 0 0
  unfold f_X5_tuneNote at h
  refine g_iload_n hC dX5_tuneNote_0 rfl (q := 1) rfl ?_
  refine g_if_lt hC dX5_tuneNote_1 (tgt := 22) (by decide) (fun c1 => ?_) (fun c1 => ?_)
  · replace h := (if_pos c1).symm.trans h
    refine g_iconst hC dX5_tuneNote_22 (v := (0 : Int32)) (by decide) ?_
    cases h
    exact g_iret hC hE rfl dX5_tuneNote_23 (Nat.zero_le _) (Nat.zero_le _) ⟨rfl, rfl, rfl, rfl, rfl, rfl⟩
  · replace h := (if_neg c1).symm.trans h
    refine g_iload_n hC dX5_tuneNote_4 rfl (q := 1) rfl ?_
    refine g_aload_n hC dX5_tuneNote_5 rfl (q := 0) rfl ?_
    refine g_getr hC fd_RX5_18 hk0.2.1 hk0.1 (C0 := "") (t0 := _) (Or.inr rfl) hk0.2.2.2.2.1.1 dX5_tuneNote_6 ?_
    refine g_alenI hC hk0.2.2.2.2.1.2.2 hk0.2.2.2.2.1.2.1 dX5_tuneNote_9 ?_
    refine g_ic_ge hC dX5_tuneNote_10 (tgt := 22) (by decide) (fun c10 => ?_) (fun c10 => ?_)
    · replace h := (if_pos c10).symm.trans h
      refine g_iconst hC dX5_tuneNote_22 (v := (0 : Int32)) (by decide) ?_
      cases h
      exact g_iret hC hE rfl dX5_tuneNote_23 (Nat.zero_le _) (Nat.zero_le _) ⟨rfl, rfl, rfl, rfl, rfl, rfl⟩
    · replace h := (if_neg c10).symm.trans h
      refine g_aload_n hC dX5_tuneNote_13 rfl (q := 0) rfl ?_
      refine g_getr hC fd_RX5_18 hk0.2.1 hk0.1 (C0 := "") (t0 := _) (Or.inr rfl) hk0.2.2.2.2.1.1 dX5_tuneNote_14 ?_
      refine g_iload_n hC dX5_tuneNote_17 rfl (q := 1) rfl ?_
      obtain ⟨g18, h⟩ := oG_some h
      refine g_iald hC hk0.2.2.2.2.1.2.2 hk0.2.2.2.2.1.2.1 (inB_in g18) dX5_tuneNote_18 ?_
      refine g_goto hC dX5_tuneNote_19 (tgt := 23) (by decide) ?_
      cases h
      exact g_iret hC hE rfl dX5_tuneNote_23 (Nat.zero_le _) (Nat.zero_le _) ⟨rfl, rfl, rfl, rfl, rfl, rfl⟩
noncomputable def b_X2_findNeeds_25 (Fu : Nat) (k1 : Nat) (k2 : Nat) (k7_ : Int32 × Int32 × mIT → Option (mIT)) (k25_ : Int32 × Int32 × Int32 × Int32 × mIT → Option (mIT)) (v3 : Int32) (v4 : Int32) (v5 : Int32) (v6 : Int32) (I : mIT) : Option (mIT) :=
  if (I 66 2) ≤ v6 then (k7_ (v3, (v4 + (-1 : Int32)), I)) else (oB (f_X5_tuneNote Fu I k1 v6) (fun r46 => if r46 = v5 then (if ((v6 * (10 : Int32)) + v3) < 0 then (k25_ (v3, v4, v5, (v6 + (1 : Int32)), I)) else (if (nI 80) ≤ ((v6 * (10 : Int32)) + v3) then (k25_ (v3, v4, v5, (v6 + (1 : Int32)), I)) else (oG (inB ((v6 * (10 : Int32)) + v3) 80) (k25_ (v3, v4, v5, (v6 + (1 : Int32)), (mU I 67 (((v6 * (10 : Int32)) + v3)).toNatClampNeg v4)))))) else (k25_ (v3, v4, v5, (v6 + (1 : Int32)), I))))
set_option maxRecDepth 20000 in
theorem bo_X2_findNeeds_25 {X : mXT} {E : mEn} {Fu : Nat} {R : mRT} {L : mLT} {k1 : Nat} {k2 : Nat} (hC : mC X E mX2_findNeeds RX2 cX2_findNeeds) (hW : mWd R) (hk1 : mO5 R k1) (hk2 : mO9 R k2)  {out : mIT} (hE : mEd X E 0 0 (mSame none 106 1 (out) R L)) (k7_ : Int32 × Int32 × mIT → Option (mIT)) (hk7_ : ∀ (v3 : Int32) (v4 : Int32) (I : mIT),  k7_ (v3, v4, I) = some out → mG X E 7 [(0, .ref (mB E + 66)), (1, .ref (mB E + k1)), (2, .ref (mB E + k2)), (3, .int v3), (4, .int v4)] [] 106 1 I R L 0 0) (k25_ : Int32 × Int32 × Int32 × Int32 × mIT → Option (mIT)) (hk25_ : ∀ (v3 : Int32) (v4 : Int32) (v5 : Int32) (v6 : Int32) (I : mIT),  k25_ (v3, v4, v5, v6, I) = some out → mG X E 25 [(0, .ref (mB E + 66)), (1, .ref (mB E + k1)), (2, .ref (mB E + k2)), (3, .int v3), (4, .int v4), (5, .int v5), (6, .int v6)] [] 106 1 I R L 0 0) (v3 : Int32) (v4 : Int32) (v5 : Int32) (v6 : Int32) (I : mIT) (h : b_X2_findNeeds_25 Fu k1 k2 k7_ k25_ v3 v4 v5 v6 I = some out) : mG X E 25 [(0, .ref (mB E + 66)), (1, .ref (mB E + k1)), (2, .ref (mB E + k2)), (3, .int v3), (4, .int v4), (5, .int v5), (6, .int v6)] [] 106 1 I R L 0 0 := by
  unfold b_X2_findNeeds_25 at h
  refine g_iload hC dX2_findNeeds_25 (q := 6) rfl ?_
  refine g_aload_n hC dX2_findNeeds_27 rfl (q := 0) rfl ?_
  refine g_geti hC fd_RX2_18 rfl (by decide) (Or.inl rfl) dX2_findNeeds_28 ?_
  refine g_ic_ge hC dX2_findNeeds_31 (tgt := 84) (by decide) (fun c31 => ?_) (fun c31 => ?_)
  · replace h := (if_pos c31).symm.trans h
    refine g_iinc hC dX2_findNeeds_84 rfl (q := 4) rfl (w := (v4 + (-1 : Int32))) rfl (by decide) (lv' := [(4, .int (v4 + (-1 : Int32))), (0, .ref (mB E + 66)), (1, .ref (mB E + k1)), (2, .ref (mB E + k2)), (3, .int v3), (5, .int v5), (6, .int v6)]) rfl ?_
    refine g_goto hC dX2_findNeeds_87 (tgt := 7) (by decide) ?_
    refine g_lv [1, 2, 3, 4, 0] rfl ?_
    exact hk7_ v3 (v4 + (-1 : Int32)) I h
  · replace h := (if_neg c31).symm.trans h
    refine g_iload hC dX2_findNeeds_34 (q := 6) rfl ?_
    refine g_bipush hC dX2_findNeeds_36 (v := (10 : Int32)) (by decide) ?_
    refine g_imul hC dX2_findNeeds_38 ?_
    refine g_iload_n hC dX2_findNeeds_39 rfl (q := 3) rfl ?_
    refine g_iadd hC dX2_findNeeds_40 ?_
    refine g_istore hC dX2_findNeeds_41 rfl (by decide) (lv' := [(7, .int ((v6 * (10 : Int32)) + v3)), (0, .ref (mB E + 66)), (1, .ref (mB E + k1)), (2, .ref (mB E + k2)), (3, .int v3), (4, .int v4), (5, .int v5), (6, .int v6)]) rfl ?_
    refine g_aload_n hC dX2_findNeeds_43 rfl (q := 2) rfl ?_
    refine g_iload hC dX2_findNeeds_44 (q := 7) rfl ?_
    obtain ⟨r46, h46, h⟩ := oB_some h
    refine g_cV1 hC cv_X5_tuneNote wd_1379 ⟨Nat.le_of_ble_eq_true rfl, Nat.le_of_ble_eq_true rfl⟩ hk1.2.1 hk1.1 dX2_findNeeds_46 (As := [.int v6]) (st := []) (ok_X5_tuneNote hC.2.2.2.2.2.2.2.1 hk1 h46) rfl rfl (Nat.le_of_ble_eq_true rfl) ⟨Nat.zero_le _, Nat.zero_le _⟩ ?_
    refine g_iload hC dX2_findNeeds_49 (q := 6) rfl ?_
    refine g_ic_ne hC dX2_findNeeds_51 (tgt := 78) (by decide) (fun c51 => ?_) (fun c51 => ?_)
    · replace h := (if_neg c51).symm.trans h
      refine g_iinc hC dX2_findNeeds_78 rfl (q := 7) rfl (w := (v6 + (1 : Int32))) rfl (by decide) (lv' := [(6, .int (v6 + (1 : Int32))), (7, .int ((v6 * (10 : Int32)) + v3)), (0, .ref (mB E + 66)), (1, .ref (mB E + k1)), (2, .ref (mB E + k2)), (3, .int v3), (4, .int v4), (5, .int v5)]) rfl ?_
      refine g_goto hC dX2_findNeeds_81 (tgt := 25) (by decide) ?_
      refine g_lv [2, 3, 4, 5, 6, 7, 0] rfl ?_
      exact hk25_ v3 v4 v5 (v6 + (1 : Int32)) I h
    · replace h := (if_pos c51).symm.trans h
      refine g_iload hC dX2_findNeeds_54 (q := 0) rfl ?_
      refine g_if_lt hC dX2_findNeeds_56 (tgt := 78) (by decide) (fun c56 => ?_) (fun c56 => ?_)
      · replace h := (if_pos c56).symm.trans h
        refine g_iinc hC dX2_findNeeds_78 rfl (q := 7) rfl (w := (v6 + (1 : Int32))) rfl (by decide) (lv' := [(6, .int (v6 + (1 : Int32))), (7, .int ((v6 * (10 : Int32)) + v3)), (0, .ref (mB E + 66)), (1, .ref (mB E + k1)), (2, .ref (mB E + k2)), (3, .int v3), (4, .int v4), (5, .int v5)]) rfl ?_
        refine g_goto hC dX2_findNeeds_81 (tgt := 25) (by decide) ?_
        refine g_lv [2, 3, 4, 5, 6, 7, 0] rfl ?_
        exact hk25_ v3 v4 v5 (v6 + (1 : Int32)) I h
      · replace h := (if_neg c56).symm.trans h
        refine g_iload hC dX2_findNeeds_59 (q := 0) rfl ?_
        refine g_aload_n hC dX2_findNeeds_61 rfl (q := 1) rfl ?_
        refine g_getr hC fd_RX2_9 rfl (by decide) (C0 := "") (t0 := _) (Or.inr rfl) (rr_66_0 hW.1) dX2_findNeeds_62 ?_
        refine g_alenI hC rfl (by decide) dX2_findNeeds_65 ?_
        refine g_ic_ge hC dX2_findNeeds_66 (tgt := 78) (by decide) (fun c66 => ?_) (fun c66 => ?_)
        · replace h := (if_pos c66).symm.trans h
          refine g_iinc hC dX2_findNeeds_78 rfl (q := 7) rfl (w := (v6 + (1 : Int32))) rfl (by decide) (lv' := [(6, .int (v6 + (1 : Int32))), (7, .int ((v6 * (10 : Int32)) + v3)), (0, .ref (mB E + 66)), (1, .ref (mB E + k1)), (2, .ref (mB E + k2)), (3, .int v3), (4, .int v4), (5, .int v5)]) rfl ?_
          refine g_goto hC dX2_findNeeds_81 (tgt := 25) (by decide) ?_
          refine g_lv [2, 3, 4, 5, 6, 7, 0] rfl ?_
          exact hk25_ v3 v4 v5 (v6 + (1 : Int32)) I h
        · replace h := (if_neg c66).symm.trans h
          refine g_aload_n hC dX2_findNeeds_69 rfl (q := 1) rfl ?_
          refine g_getr hC fd_RX2_9 rfl (by decide) (C0 := "") (t0 := _) (Or.inr rfl) (rr_66_0 hW.1) dX2_findNeeds_70 ?_
          refine g_iload hC dX2_findNeeds_73 (q := 0) rfl ?_
          refine g_iload hC dX2_findNeeds_75 (q := 5) rfl ?_
          obtain ⟨g77, h⟩ := oG_some h
          refine g_iast hC rfl (by decide) (inB_in g77) dX2_findNeeds_77 (nm_e ?_)
          refine g_iinc hC dX2_findNeeds_78 rfl (q := 7) rfl (w := (v6 + (1 : Int32))) rfl (by decide) (lv' := [(6, .int (v6 + (1 : Int32))), (7, .int ((v6 * (10 : Int32)) + v3)), (0, .ref (mB E + 66)), (1, .ref (mB E + k1)), (2, .ref (mB E + k2)), (3, .int v3), (4, .int v4), (5, .int v5)]) rfl ?_
          refine g_goto hC dX2_findNeeds_81 (tgt := 25) (by decide) ?_
          refine g_lv [2, 3, 4, 5, 6, 7, 0] rfl ?_
          exact hk25_ v3 v4 v5 (v6 + (1 : Int32)) (mU I 67 (((v6 * (10 : Int32)) + v3)).toNatClampNeg v4) h
noncomputable def w_X2_findNeeds_25 (Fu : Nat) (k1 : Nat) (k2 : Nat) (k7_ : Int32 × Int32 × mIT → Option (mIT)) (N : Nat) (v3 : Int32) (v4 : Int32) (v5 : Int32) (v6 : Int32) (I : mIT) : Option (mIT) :=
  loopF (fun self (s : Int32 × Int32 × Int32 × Int32 × mIT) => b_X2_findNeeds_25 Fu k1 k2 k7_ self s.1 s.2.1 s.2.2.1 s.2.2.2.1 s.2.2.2.2) N (v3, v4, v5, v6, I)
theorem wo_X2_findNeeds_25 {X : mXT} {E : mEn} {Fu : Nat} {R : mRT} {L : mLT} {k1 : Nat} {k2 : Nat} (hC : mC X E mX2_findNeeds RX2 cX2_findNeeds) (hW : mWd R) (hk1 : mO5 R k1) (hk2 : mO9 R k2)  {out : mIT} (hE : mEd X E 0 0 (mSame none 106 1 (out) R L)) (k7_ : Int32 × Int32 × mIT → Option (mIT)) (hk7_ : ∀ (v3 : Int32) (v4 : Int32) (I : mIT),  k7_ (v3, v4, I) = some out → mG X E 7 [(0, .ref (mB E + 66)), (1, .ref (mB E + k1)), (2, .ref (mB E + k2)), (3, .int v3), (4, .int v4)] [] 106 1 I R L 0 0) (N : Nat) (v3 : Int32) (v4 : Int32) (v5 : Int32) (v6 : Int32) (I : mIT) (h : w_X2_findNeeds_25 Fu k1 k2 k7_ N v3 v4 v5 v6 I = some out) : mG X E 25 [(0, .ref (mB E + 66)), (1, .ref (mB E + k1)), (2, .ref (mB E + k2)), (3, .int v3), (4, .int v4), (5, .int v5), (6, .int v6)] [] 106 1 I R L 0 0 :=
  loopF_ok (Gd := fun s : Int32 × Int32 × Int32 × Int32 × mIT => mG X E 25 [(0, .ref (mB E + 66)), (1, .ref (mB E + k1)), (2, .ref (mB E + k2)), (3, .int s.1), (4, .int s.2.1), (5, .int s.2.2.1), (6, .int s.2.2.2.1)] [] 106 1 s.2.2.2.2 R L 0 0) (fun self hs s h => bo_X2_findNeeds_25 hC hW hk1 hk2 hE k7_ hk7_ self (fun v3 v4 v5 v6 I h => hs (v3, v4, v5, v6, I) h) s.1 s.2.1 s.2.2.1 s.2.2.2.1 s.2.2.2.2 h) N (v3, v4, v5, v6, I) h
noncomputable def b_X2_findNeeds_7 (Fu : Nat) (k1 : Nat) (k2 : Nat) (k7_ : Int32 × Int32 × mIT → Option (mIT)) (v3 : Int32) (v4 : Int32) (I : mIT) : Option (mIT) :=
  if v4 < 0 then (some (I)) else (oB (f_X9_noteOf Fu I k2 k1 v3 v4) (fun r17 => w_X2_findNeeds_25 Fu k1 k2 k7_ Fu v3 v4 r17.1 (0 : Int32) r17.2))
set_option maxRecDepth 20000 in
theorem bo_X2_findNeeds_7 {X : mXT} {E : mEn} {Fu : Nat} {R : mRT} {L : mLT} {k1 : Nat} {k2 : Nat} (hC : mC X E mX2_findNeeds RX2 cX2_findNeeds) (hW : mWd R) (hk1 : mO5 R k1) (hk2 : mO9 R k2)  {out : mIT} (hE : mEd X E 0 0 (mSame none 106 1 (out) R L)) (k7_ : Int32 × Int32 × mIT → Option (mIT)) (hk7_ : ∀ (v3 : Int32) (v4 : Int32) (I : mIT),  k7_ (v3, v4, I) = some out → mG X E 7 [(0, .ref (mB E + 66)), (1, .ref (mB E + k1)), (2, .ref (mB E + k2)), (3, .int v3), (4, .int v4)] [] 106 1 I R L 0 0) (v3 : Int32) (v4 : Int32) (I : mIT) (h : b_X2_findNeeds_7 Fu k1 k2 k7_ v3 v4 I = some out) : mG X E 7 [(0, .ref (mB E + 66)), (1, .ref (mB E + k1)), (2, .ref (mB E + k2)), (3, .int v3), (4, .int v4)] [] 106 1 I R L 0 0 := by
  unfold b_X2_findNeeds_7 at h
  refine g_iload hC dX2_findNeeds_7 (q := 4) rfl ?_
  refine g_if_lt hC dX2_findNeeds_9 (tgt := 90) (by decide) (fun c9 => ?_) (fun c9 => ?_)
  · replace h := (if_pos c9).symm.trans h
    cases h
    exact g_vret hC hE rfl dX2_findNeeds_90 (Nat.zero_le _) (Nat.zero_le _) ⟨rfl, rfl, rfl, rfl, rfl, rfl⟩
  · replace h := (if_neg c9).symm.trans h
    refine g_aload_n hC dX2_findNeeds_12 rfl (q := 2) rfl ?_
    refine g_aload_n hC dX2_findNeeds_13 rfl (q := 1) rfl ?_
    refine g_iload_n hC dX2_findNeeds_14 rfl (q := 3) rfl ?_
    refine g_iload hC dX2_findNeeds_15 (q := 4) rfl ?_
    obtain ⟨r17, h17, h⟩ := oB_some h
    refine g_cV1 hC cv_X9_noteOf wd_1378 ⟨Nat.le_of_ble_eq_true rfl, Nat.le_of_ble_eq_true rfl⟩ hk2.2.1 hk2.1 dX2_findNeeds_17 (As := [.ref (mB E + k1), .int v3, .int v4]) (st := []) (ok_X9_noteOf hC.2.2.2.2.2.2.2.1 hk2 hk1 h17) rfl rfl (Nat.le_of_ble_eq_true rfl) ⟨Nat.zero_le _, Nat.zero_le _⟩ ?_
    refine g_istore hC dX2_findNeeds_20 rfl (by decide) (lv' := [(5, .int r17.1), (0, .ref (mB E + 66)), (1, .ref (mB E + k1)), (2, .ref (mB E + k2)), (3, .int v3), (4, .int v4)]) rfl ?_
    refine g_iconst hC dX2_findNeeds_22 (v := (0 : Int32)) (by decide) ?_
    refine g_istore hC dX2_findNeeds_23 rfl (by decide) (lv' := [(6, .int (0 : Int32)), (5, .int r17.1), (0, .ref (mB E + 66)), (1, .ref (mB E + k1)), (2, .ref (mB E + k2)), (3, .int v3), (4, .int v4)]) rfl ?_
    refine g_lv [2, 3, 4, 5, 6, 1, 0] rfl ?_
    exact wo_X2_findNeeds_25 hC hW hk1 hk2 hE k7_ hk7_ Fu (v3) (v4) (r17.1) ((0 : Int32)) (r17.2) h
noncomputable def w_X2_findNeeds_7 (Fu : Nat) (k1 : Nat) (k2 : Nat)  (N : Nat) (v3 : Int32) (v4 : Int32) (I : mIT) : Option (mIT) :=
  loopF (fun self (s : Int32 × Int32 × mIT) => b_X2_findNeeds_7 Fu k1 k2 self s.1 s.2.1 s.2.2) N (v3, v4, I)
theorem wo_X2_findNeeds_7 {X : mXT} {E : mEn} {Fu : Nat} {R : mRT} {L : mLT} {k1 : Nat} {k2 : Nat} (hC : mC X E mX2_findNeeds RX2 cX2_findNeeds) (hW : mWd R) (hk1 : mO5 R k1) (hk2 : mO9 R k2)  {out : mIT} (hE : mEd X E 0 0 (mSame none 106 1 (out) R L))  (N : Nat) (v3 : Int32) (v4 : Int32) (I : mIT) (h : w_X2_findNeeds_7 Fu k1 k2  N v3 v4 I = some out) : mG X E 7 [(0, .ref (mB E + 66)), (1, .ref (mB E + k1)), (2, .ref (mB E + k2)), (3, .int v3), (4, .int v4)] [] 106 1 I R L 0 0 :=
  loopF_ok (Gd := fun s : Int32 × Int32 × mIT => mG X E 7 [(0, .ref (mB E + 66)), (1, .ref (mB E + k1)), (2, .ref (mB E + k2)), (3, .int s.1), (4, .int s.2.1)] [] 106 1 s.2.2 R L 0 0) (fun self hs s h => bo_X2_findNeeds_7 hC hW hk1 hk2 hE self (fun v3 v4 I h => hs (v3, v4, I) h) s.1 s.2.1 s.2.2 h) N (v3, v4, I) h
noncomputable def f_X2_findNeeds (Fu : Nat) (I : mIT) (k1 : Nat) (k2 : Nat) (v3 : Int32) : Option (mIT) :=
  oB (f_X9_roomToHollow Fu I k2 v3) (fun r2 => w_X2_findNeeds_7 Fu k1 k2 Fu v3 r2 I)
set_option maxRecDepth 20000 in
theorem ok_X2_findNeeds {l : Launch} {E : mEn} {Fu : Nat} {I : mIT} {R : mRT} {L : mLT} {k1 : Nat} {k2 : Nat} {v3 : Int32} (hst : l.stackTraces = false) (hW : mWd R) (hk1 : mO5 R k1) (hk2 : mO9 R k2) {out : mIT} (h : f_X2_findNeeds Fu I k1 k2 v3 = some out) : mOk l E mX2_findNeeds [.ref (mB E + 66), .ref (mB E + k1), .ref (mB E + k2), .int v3] 106 1 I R L 0 0 (mSame none 106 1 (out) R L) := by
  refine mOk_of hst (by decide) (Nat.le_of_ble_eq_true rfl) (fun X hC hE _ => ?_)
  have hC : mC X E mX2_findNeeds RX2 cX2_findNeeds := hC
  show mG X E 0 [(0, .ref (mB E + 66)), (1, .ref (mB E + k1)), (2, .ref (mB E + k2)), (3, .int v3)] [] 106 1 I R L 0 0
  unfold f_X2_findNeeds at h
  refine g_aload_n hC dX2_findNeeds_0 rfl (q := 2) rfl ?_
  refine g_iload_n hC dX2_findNeeds_1 rfl (q := 3) rfl ?_
  obtain ⟨r2, h2, h⟩ := oB_some h
  refine g_cV1 hC cv_X9_roomToHollow wd_1377 ⟨Nat.le_of_ble_eq_true rfl, Nat.le_of_ble_eq_true rfl⟩ hk2.2.1 hk2.1 dX2_findNeeds_2 (As := [.int v3]) (st := []) (ok_X9_roomToHollow hC.2.2.2.2.2.2.2.1 hk2 h2) rfl rfl (Nat.le_of_ble_eq_true rfl) ⟨Nat.zero_le _, Nat.zero_le _⟩ ?_
  refine g_istore hC dX2_findNeeds_5 rfl (by decide) (lv' := [(4, .int r2), (0, .ref (mB E + 66)), (1, .ref (mB E + k1)), (2, .ref (mB E + k2)), (3, .int v3)]) rfl ?_
  refine g_lv [1, 2, 3, 4, 0] rfl ?_
  exact wo_X2_findNeeds_7 hC hW hk1 hk2 hE Fu (v3) (r2) (I) h
noncomputable def f_X2_leastBy (Fu : Nat) (I : mIT) (v1 : Int32) (v2 : Int32) (v3 : Int32) : Option (Int32) :=
  if (v3 ||| ((1 : Int32) <<< (v2 &&& 31))) = v3 then (some (1000000 : Int32)) else (if ((v1 * (10 : Int32)) + v2) < 0 then (some (1000000 : Int32)) else (if (nI 80) ≤ ((v1 * (10 : Int32)) + v2) then (some (1000000 : Int32)) else (if (v3 ||| ((1 : Int32) <<< (v2 &&& 31))) < 0 then (some (1000000 : Int32)) else (if (v3 ||| ((1 : Int32) <<< (v2 &&& 31))) < (nI 1024) then (oG (inB ((v1 * (10 : Int32)) + v2) 80) (oG (inB (v3 ||| ((1 : Int32) <<< (v2 &&& 31))) 1024) (some (if ((I 67 (((v1 * (10 : Int32)) + v2)).toNatClampNeg) + (I 68 ((v3 ||| ((1 : Int32) <<< (v2 &&& 31)))).toNatClampNeg)) < (1000000 : Int32) then ((I 67 (((v1 * (10 : Int32)) + v2)).toNatClampNeg) + (I 68 ((v3 ||| ((1 : Int32) <<< (v2 &&& 31)))).toNatClampNeg)) else (1000000 : Int32))))) else (some (1000000 : Int32))))))
set_option maxRecDepth 20000 in
theorem ok_X2_leastBy {l : Launch} {E : mEn} {Fu : Nat} {I : mIT} {R : mRT} {L : mLT} {v1 : Int32} {v2 : Int32} {v3 : Int32} (hst : l.stackTraces = false) (hW : mWd R)  {out : Int32} (h : f_X2_leastBy Fu I v1 v2 v3 = some out) : mOk l E mX2_leastBy [.ref (mB E + 66), .int v1, .int v2, .int v3] 106 1 I R L 0 0 (mSame (some (.int (out))) 106 1 I R L) := by
  refine mOk_of hst (by decide) (Nat.le_of_ble_eq_true rfl) (fun X hC hE _ => ?_)
  have hC : mC X E mX2_leastBy RX2 cX2_leastBy := hC
  show mG X E 0 [(0, .ref (mB E + 66)), (1, .int v1), (2, .int v2), (3, .int v3)] [] 106 1 I R L 0 0
  unfold f_X2_leastBy at h
  refine g_iload_n hC dX2_leastBy_0 rfl (q := 1) rfl ?_
  refine g_bipush hC dX2_leastBy_1 (v := (10 : Int32)) (by decide) ?_
  refine g_imul hC dX2_leastBy_3 ?_
  refine g_iload_n hC dX2_leastBy_4 rfl (q := 2) rfl ?_
  refine g_iadd hC dX2_leastBy_5 ?_
  refine g_istore hC dX2_leastBy_6 rfl (by decide) (lv' := [(4, .int ((v1 * (10 : Int32)) + v2)), (0, .ref (mB E + 66)), (1, .int v1), (2, .int v2), (3, .int v3)]) rfl ?_
  refine g_iload_n hC dX2_leastBy_8 rfl (q := 4) rfl ?_
  refine g_iconst hC dX2_leastBy_9 (v := (1 : Int32)) (by decide) ?_
  refine g_iload_n hC dX2_leastBy_10 rfl (q := 3) rfl ?_
  refine g_ishl hC dX2_leastBy_11 ?_
  refine g_ior hC dX2_leastBy_12 ?_
  refine g_istore hC dX2_leastBy_13 rfl (by decide) (lv' := [(5, .int (v3 ||| ((1 : Int32) <<< (v2 &&& 31)))), (4, .int ((v1 * (10 : Int32)) + v2)), (0, .ref (mB E + 66)), (1, .int v1), (2, .int v2), (3, .int v3)]) rfl ?_
  refine g_iload hC dX2_leastBy_15 (q := 0) rfl ?_
  refine g_iload_n hC dX2_leastBy_17 rfl (q := 5) rfl ?_
  refine g_ic_eq hC dX2_leastBy_18 (tgt := 51) (by decide) (fun c18 => ?_) (fun c18 => ?_)
  · replace h := (if_pos c18).symm.trans h
    refine g_ldc hC dX2_leastBy_51 wd_1371 ?_
    cases h
    exact g_iret hC hE rfl dX2_leastBy_53 (Nat.zero_le _) (Nat.zero_le _) ⟨rfl, rfl, rfl, rfl, rfl, rfl⟩
  · replace h := (if_neg c18).symm.trans h
    refine g_iload hC dX2_leastBy_21 (q := 1) rfl ?_
    refine g_if_lt hC dX2_leastBy_23 (tgt := 51) (by decide) (fun c23 => ?_) (fun c23 => ?_)
    · replace h := (if_pos c23).symm.trans h
      refine g_ldc hC dX2_leastBy_51 wd_1371 ?_
      cases h
      exact g_iret hC hE rfl dX2_leastBy_53 (Nat.zero_le _) (Nat.zero_le _) ⟨rfl, rfl, rfl, rfl, rfl, rfl⟩
    · replace h := (if_neg c23).symm.trans h
      refine g_iload hC dX2_leastBy_26 (q := 1) rfl ?_
      refine g_aload_n hC dX2_leastBy_28 rfl (q := 2) rfl ?_
      refine g_getr hC fd_RX2_9 rfl (by decide) (C0 := "") (t0 := _) (Or.inr rfl) (rr_66_0 hW.1) dX2_leastBy_29 ?_
      refine g_alenI hC rfl (by decide) dX2_leastBy_32 ?_
      refine g_ic_ge hC dX2_leastBy_33 (tgt := 51) (by decide) (fun c33 => ?_) (fun c33 => ?_)
      · replace h := (if_pos c33).symm.trans h
        refine g_ldc hC dX2_leastBy_51 wd_1371 ?_
        cases h
        exact g_iret hC hE rfl dX2_leastBy_53 (Nat.zero_le _) (Nat.zero_le _) ⟨rfl, rfl, rfl, rfl, rfl, rfl⟩
      · replace h := (if_neg c33).symm.trans h
        refine g_iload hC dX2_leastBy_36 (q := 0) rfl ?_
        refine g_if_lt hC dX2_leastBy_38 (tgt := 51) (by decide) (fun c38 => ?_) (fun c38 => ?_)
        · replace h := (if_pos c38).symm.trans h
          refine g_ldc hC dX2_leastBy_51 wd_1371 ?_
          cases h
          exact g_iret hC hE rfl dX2_leastBy_53 (Nat.zero_le _) (Nat.zero_le _) ⟨rfl, rfl, rfl, rfl, rfl, rfl⟩
        · replace h := (if_neg c38).symm.trans h
          refine g_iload hC dX2_leastBy_41 (q := 0) rfl ?_
          refine g_aload_n hC dX2_leastBy_43 rfl (q := 2) rfl ?_
          refine g_getr hC fd_RX2_15 rfl (by decide) (C0 := "") (t0 := _) (Or.inr rfl) (rr_66_1 hW.1) dX2_leastBy_44 ?_
          refine g_alenI hC rfl (by decide) dX2_leastBy_47 ?_
          refine g_ic_lt hC dX2_leastBy_48 (tgt := 54) (by decide) (fun c48 => ?_) (fun c48 => ?_)
          · replace h := (if_pos c48).symm.trans h
            refine g_ldc hC dX2_leastBy_54 wd_1371 ?_
            refine g_aload_n hC dX2_leastBy_56 rfl (q := 2) rfl ?_
            refine g_getr hC fd_RX2_9 rfl (by decide) (C0 := "") (t0 := _) (Or.inr rfl) (rr_66_0 hW.1) dX2_leastBy_57 ?_
            refine g_iload hC dX2_leastBy_60 (q := 1) rfl ?_
            obtain ⟨g62, h⟩ := oG_some h
            refine g_iald hC rfl (by decide) (inB_in g62) dX2_leastBy_62 ?_
            refine g_aload_n hC dX2_leastBy_63 rfl (q := 2) rfl ?_
            refine g_getr hC fd_RX2_15 rfl (by decide) (C0 := "") (t0 := _) (Or.inr rfl) (rr_66_1 hW.1) dX2_leastBy_64 ?_
            refine g_iload hC dX2_leastBy_67 (q := 0) rfl ?_
            obtain ⟨g69, h⟩ := oG_some h
            refine g_iald hC rfl (by decide) (inB_in g69) dX2_leastBy_69 ?_
            refine g_iadd hC dX2_leastBy_70 ?_
            refine g_mmin hC wd_1389 wd_st_min wd_in_math wd_cd_min (Nat.le_of_ble_eq_true rfl) (Nat.le_of_ble_eq_true rfl) ⟨Nat.zero_le _, Nat.zero_le _⟩ dX2_leastBy_71 ?_
            cases h
            exact g_iret hC hE rfl dX2_leastBy_74 (Nat.zero_le _) (Nat.zero_le _) ⟨rfl, rfl, rfl, rfl, rfl, rfl⟩
          · replace h := (if_neg c48).symm.trans h
            refine g_ldc hC dX2_leastBy_51 wd_1371 ?_
            cases h
            exact g_iret hC hE rfl dX2_leastBy_53 (Nat.zero_le _) (Nat.zero_le _) ⟨rfl, rfl, rfl, rfl, rfl, rfl⟩
noncomputable def b_X2_leastBehind_34 (Fu : Nat) (I : mIT) (k34_ : Int32 × Int32 × Int32 × Int32 → Option (Int32)) (v1 : Int32) (v2 : Int32) (v3 : Int32) (v4 : Int32) : Option (Int32) :=
  if (I 66 3) ≤ v4 then (some (v3)) else (oB (f_X2_leastBy Fu I v2 v4 v1) (fun r49 => k34_ (v1, v2, (if r49 < v3 then r49 else v3), (v4 + (1 : Int32)))))
set_option maxRecDepth 20000 in
theorem bo_X2_leastBehind_34 {X : mXT} {E : mEn} {Fu : Nat} {I : mIT} {R : mRT} {L : mLT}  (hC : mC X E mX2_leastBehind RX2 cX2_leastBehind) (hW : mWd R)   {out : Int32} (hE : mEd X E 0 0 (mSame (some (.int (out))) 106 1 I R L)) (k34_ : Int32 × Int32 × Int32 × Int32 → Option (Int32)) (hk34_ : ∀ (v1 : Int32) (v2 : Int32) (v3 : Int32) (v4 : Int32),  k34_ (v1, v2, v3, v4) = some out → mG X E 34 [(0, .ref (mB E + 66)), (1, .int v1), (2, .int v2), (3, .int v3), (4, .int v4)] [] 106 1 I R L 0 0) (v1 : Int32) (v2 : Int32) (v3 : Int32) (v4 : Int32) (h : b_X2_leastBehind_34 Fu I k34_ v1 v2 v3 v4 = some out) : mG X E 34 [(0, .ref (mB E + 66)), (1, .int v1), (2, .int v2), (3, .int v3), (4, .int v4)] [] 106 1 I R L 0 0 := by
  unfold b_X2_leastBehind_34 at h
  refine g_iload hC dX2_leastBehind_34 (q := 4) rfl ?_
  refine g_aload_n hC dX2_leastBehind_36 rfl (q := 0) rfl ?_
  refine g_geti hC fd_RX2_22 rfl (by decide) (Or.inl rfl) dX2_leastBehind_37 ?_
  refine g_ic_ge hC dX2_leastBehind_40 (tgt := 62) (by decide) (fun c40 => ?_) (fun c40 => ?_)
  · replace h := (if_pos c40).symm.trans h
    refine g_iload_n hC dX2_leastBehind_62 rfl (q := 3) rfl ?_
    cases h
    exact g_iret hC hE rfl dX2_leastBehind_63 (Nat.zero_le _) (Nat.zero_le _) ⟨rfl, rfl, rfl, rfl, rfl, rfl⟩
  · replace h := (if_neg c40).symm.trans h
    refine g_iload_n hC dX2_leastBehind_43 rfl (q := 3) rfl ?_
    refine g_aload_n hC dX2_leastBehind_44 rfl (q := 0) rfl ?_
    refine g_iload_n hC dX2_leastBehind_45 rfl (q := 2) rfl ?_
    refine g_iload hC dX2_leastBehind_46 (q := 4) rfl ?_
    refine g_iload_n hC dX2_leastBehind_48 rfl (q := 1) rfl ?_
    obtain ⟨r49, h49, h⟩ := oB_some h
    refine g_cV1 hC cv_X2_leastBy wd_1385 ⟨Nat.le_of_ble_eq_true rfl, Nat.le_of_ble_eq_true rfl⟩ rfl (by decide) dX2_leastBehind_49 (As := [.int v2, .int v4, .int v1]) (st := [.int v3]) (ok_X2_leastBy hC.2.2.2.2.2.2.2.1 hW h49) rfl rfl (Nat.le_of_ble_eq_true rfl) ⟨Nat.zero_le _, Nat.zero_le _⟩ ?_
    refine g_mmin hC wd_1389 wd_st_min wd_in_math wd_cd_min (Nat.le_of_ble_eq_true rfl) (Nat.le_of_ble_eq_true rfl) ⟨Nat.zero_le _, Nat.zero_le _⟩ dX2_leastBehind_52 ?_
    refine g_istore_n hC dX2_leastBehind_55 rfl rfl (by decide) (lv' := [(3, .int (if r49 < v3 then r49 else v3)), (0, .ref (mB E + 66)), (1, .int v1), (2, .int v2), (4, .int v4)]) rfl ?_
    refine g_iinc hC dX2_leastBehind_56 rfl (q := 4) rfl (w := (v4 + (1 : Int32))) rfl (by decide) (lv' := [(4, .int (v4 + (1 : Int32))), (3, .int (if r49 < v3 then r49 else v3)), (0, .ref (mB E + 66)), (1, .int v1), (2, .int v2)]) rfl ?_
    refine g_goto hC dX2_leastBehind_59 (tgt := 34) (by decide) ?_
    refine g_lv [2, 3, 4, 1, 0] rfl ?_
    exact hk34_ v1 v2 (if r49 < v3 then r49 else v3) (v4 + (1 : Int32)) h
noncomputable def w_X2_leastBehind_34 (Fu : Nat) (I : mIT)  (N : Nat) (v1 : Int32) (v2 : Int32) (v3 : Int32) (v4 : Int32) : Option (Int32) :=
  loopF (fun self (s : Int32 × Int32 × Int32 × Int32) => b_X2_leastBehind_34 Fu I self s.1 s.2.1 s.2.2.1 s.2.2.2) N (v1, v2, v3, v4)
theorem wo_X2_leastBehind_34 {X : mXT} {E : mEn} {Fu : Nat} {I : mIT} {R : mRT} {L : mLT}  (hC : mC X E mX2_leastBehind RX2 cX2_leastBehind) (hW : mWd R)   {out : Int32} (hE : mEd X E 0 0 (mSame (some (.int (out))) 106 1 I R L))  (N : Nat) (v1 : Int32) (v2 : Int32) (v3 : Int32) (v4 : Int32) (h : w_X2_leastBehind_34 Fu I  N v1 v2 v3 v4 = some out) : mG X E 34 [(0, .ref (mB E + 66)), (1, .int v1), (2, .int v2), (3, .int v3), (4, .int v4)] [] 106 1 I R L 0 0 :=
  loopF_ok (Gd := fun s : Int32 × Int32 × Int32 × Int32 => mG X E 34 [(0, .ref (mB E + 66)), (1, .int s.1), (2, .int s.2.1), (3, .int s.2.2.1), (4, .int s.2.2.2)] [] 106 1 I R L 0 0) (fun self hs s h => bo_X2_leastBehind_34 hC hW hE self (fun v1 v2 v3 v4 h => hs (v1, v2, v3, v4) h) s.1 s.2.1 s.2.2.1 s.2.2.2 h) N (v1, v2, v3, v4) h
noncomputable def f_X2_leastBehind (Fu : Nat) (I : mIT) (v1 : Int32) : Option (Int32) :=
  oB (f_J6_bitCount_0f7a4 Fu v1) (fun r1 => if r1 < (I 66 2) then (w_X2_leastBehind_34 Fu I Fu v1 r1 (1000000 : Int32) (0 : Int32)) else (if r1 = (I 66 2) then (some (0 : Int32)) else (some (1000000 : Int32))))
set_option maxRecDepth 20000 in
theorem ok_X2_leastBehind {l : Launch} {E : mEn} {Fu : Nat} {I : mIT} {R : mRT} {L : mLT} {v1 : Int32} (hst : l.stackTraces = false) (hW : mWd R)  {out : Int32} (h : f_X2_leastBehind Fu I v1 = some out) : mOk l E mX2_leastBehind [.ref (mB E + 66), .int v1] 106 1 I R L 0 0 (mSame (some (.int (out))) 106 1 I R L) := by
  refine mOk_of hst (by decide) (Nat.le_of_ble_eq_true rfl) (fun X hC hE _ => ?_)
  have hC : mC X E mX2_leastBehind RX2 cX2_leastBehind := hC
  show mG X E 0 [(0, .ref (mB E + 66)), (1, .int v1)] [] 106 1 I R L 0 0
  unfold f_X2_leastBehind at h
  refine g_iload_n hC dX2_leastBehind_0 rfl (q := 1) rfl ?_
  obtain ⟨r1, h1, h⟩ := oB_some h
  refine g_cS1 hC cs_J6_bitCount_0f7a4 wd_1384 ⟨Nat.le_of_ble_eq_true rfl, Nat.le_of_ble_eq_true rfl⟩ dX2_leastBehind_1 (As := [.int v1]) (st := []) (ok_J6_bitCount_0f7a4 hC.2.2.2.2.2.2.2.1  h1) rfl rfl (Nat.le_of_ble_eq_true rfl) ⟨Nat.zero_le _, Nat.zero_le _⟩ ?_
  refine g_istore_n hC dX2_leastBehind_4 rfl rfl (by decide) (lv' := [(2, .int r1), (0, .ref (mB E + 66)), (1, .int v1)]) rfl ?_
  refine g_iload_n hC dX2_leastBehind_5 rfl (q := 0) rfl ?_
  refine g_aload_n hC dX2_leastBehind_6 rfl (q := 1) rfl ?_
  refine g_geti hC fd_RX2_18 rfl (by decide) (Or.inl rfl) dX2_leastBehind_7 ?_
  refine g_ic_lt hC dX2_leastBehind_10 (tgt := 28) (by decide) (fun c10 => ?_) (fun c10 => ?_)
  · replace h := (if_pos c10).symm.trans h
    refine g_ldc hC dX2_leastBehind_28 wd_1371 ?_
    refine g_istore_n hC dX2_leastBehind_30 rfl rfl (by decide) (lv' := [(3, .int (1000000 : Int32)), (2, .int r1), (0, .ref (mB E + 66)), (1, .int v1)]) rfl ?_
    refine g_iconst hC dX2_leastBehind_31 (v := (0 : Int32)) (by decide) ?_
    refine g_istore hC dX2_leastBehind_32 rfl (by decide) (lv' := [(4, .int (0 : Int32)), (3, .int (1000000 : Int32)), (2, .int r1), (0, .ref (mB E + 66)), (1, .int v1)]) rfl ?_
    refine g_lv [3, 4, 2, 1, 0] rfl ?_
    exact wo_X2_leastBehind_34 hC hW hE Fu (v1) (r1) ((1000000 : Int32)) ((0 : Int32)) h
  · replace h := (if_neg c10).symm.trans h
    refine g_iload_n hC dX2_leastBehind_13 rfl (q := 0) rfl ?_
    refine g_aload_n hC dX2_leastBehind_14 rfl (q := 1) rfl ?_
    refine g_geti hC fd_RX2_18 rfl (by decide) (Or.inl rfl) dX2_leastBehind_15 ?_
    refine g_ic_ne hC dX2_leastBehind_18 (tgt := 25) (by decide) (fun c18 => ?_) (fun c18 => ?_)
    · replace h := (if_neg c18).symm.trans h
      refine g_ldc hC dX2_leastBehind_25 wd_1371 ?_
      cases h
      exact g_iret hC hE rfl dX2_leastBehind_27 (Nat.zero_le _) (Nat.zero_le _) ⟨rfl, rfl, rfl, rfl, rfl, rfl⟩
    · replace h := (if_pos c18).symm.trans h
      refine g_iconst hC dX2_leastBehind_21 (v := (0 : Int32)) (by decide) ?_
      refine g_goto hC dX2_leastBehind_22 (tgt := 27) (by decide) ?_
      cases h
      exact g_iret hC hE rfl dX2_leastBehind_27 (Nat.zero_le _) (Nat.zero_le _) ⟨rfl, rfl, rfl, rfl, rfl, rfl⟩
