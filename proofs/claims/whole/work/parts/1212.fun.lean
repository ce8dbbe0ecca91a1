noncomputable def f_X12_isTrue (Fu : Nat) (I : mIT)  : Option (Int32 × mIT) :=
  if ((mU I 75 0 (0 : Int32)) 75 5) ≤ 0 then (if ((mU I 75 0 (0 : Int32)) 75 5) = 0 then (some ((1 : Int32), (mU I 75 0 (0 : Int32)))) else (if ((mU I 75 0 (0 : Int32)) 75 52) = 0 then (some ((1 : Int32), (mU I 75 0 (0 : Int32)))) else (some ((0 : Int32), (mU I 75 0 (0 : Int32)))))) else (oB (f_X12_bells Fu (mU I 75 0 (0 : Int32))) (fun r14 => oB (f_X12_lengthNow Fu r14.2 r14.1) (fun r17 => if (r17.2 75 5) = 0 then (some ((1 : Int32), r17.2)) else (if (r17.2 75 52) = 0 then (some ((1 : Int32), r17.2)) else (some ((0 : Int32), r17.2))))))
set_option maxRecDepth 20000 in
theorem ok_X12_isTrue {l : Launch} {E : mEn} {Fu : Nat} {I : mIT} {R : mRT} {L : mLT}  (hst : l.stackTraces = false) (hW : mWd R)  {out : Int32 × mIT} (h : f_X12_isTrue Fu I  = some out) : mOk l E mX12_isTrue [.ref (mB E + 75)] 106 1 I R L 0 0 (mSame (some (.int (out.1))) 106 1 (out.2) R L) := by
  refine mOk_of hst (by decide) (Nat.le_of_ble_eq_true rfl) (fun X hC hE _ => ?_)
  have hC : mC X E mX12_isTrue RX12 cX12_isTrue := hC
  show mG X E 0 [(0, .ref (mB E + 75))] [] 106 1 I R L 0 0
  unfold f_X12_isTrue at h
  refine g_aload_n hC dX12_isTrue_0 rfl (q := 0) rfl ?_
  refine g_iconst hC dX12_isTrue_1 (v := (0 : Int32)) (by decide) ?_
  refine g_puti hC fd_RX12_114 rfl (by decide) rfl dX12_isTrue_2 (nm_e ?_)
  refine g_aload_n hC dX12_isTrue_5 rfl (q := 0) rfl ?_
  refine g_geti hC fd_RX12_298 rfl (by decide) (Or.inl rfl) dX12_isTrue_6 ?_
  refine g_if_le hC dX12_isTrue_9 (tgt := 21) (by decide) (fun c9 => ?_) (fun c9 => ?_)
  · replace h := (if_pos c9).symm.trans h
    refine g_aload_n hC dX12_isTrue_21 rfl (q := 0) rfl ?_
    refine g_geti hC fd_RX12_298 rfl (by decide) (Or.inl rfl) dX12_isTrue_22 ?_
    refine g_if_eq hC dX12_isTrue_25 (tgt := 35) (by decide) (fun c25 => ?_) (fun c25 => ?_)
    · replace h := (if_pos c25).symm.trans h
      refine g_iconst hC dX12_isTrue_35 (v := (1 : Int32)) (by decide) ?_
      refine g_goto hC dX12_isTrue_36 (tgt := 40) (by decide) ?_
      cases h
      exact g_zret hC (by decide) hE rfl dX12_isTrue_40 (Nat.zero_le _) (Nat.zero_le _) ⟨rfl, rfl, rfl, rfl, rfl, rfl⟩
    · replace h := (if_neg c25).symm.trans h
      refine g_aload_n hC dX12_isTrue_28 rfl (q := 0) rfl ?_
      refine g_geti hC fd_RX12_408 rfl (by decide) (Or.inr rfl) dX12_isTrue_29 ?_
      refine g_if_ne hC dX12_isTrue_32 (tgt := 39) (by decide) (fun c32 => ?_) (fun c32 => ?_)
      · replace h := (if_neg c32).symm.trans h
        refine g_iconst hC dX12_isTrue_39 (v := (0 : Int32)) (by decide) ?_
        cases h
        exact g_zret hC (by decide) hE rfl dX12_isTrue_40 (Nat.zero_le _) (Nat.zero_le _) ⟨rfl, rfl, rfl, rfl, rfl, rfl⟩
      · replace h := (if_pos c32).symm.trans h
        refine g_iconst hC dX12_isTrue_35 (v := (1 : Int32)) (by decide) ?_
        refine g_goto hC dX12_isTrue_36 (tgt := 40) (by decide) ?_
        cases h
        exact g_zret hC (by decide) hE rfl dX12_isTrue_40 (Nat.zero_le _) (Nat.zero_le _) ⟨rfl, rfl, rfl, rfl, rfl, rfl⟩
  · replace h := (if_neg c9).symm.trans h
    refine g_aload_n hC dX12_isTrue_12 rfl (q := 0) rfl ?_
    refine g_aload_n hC dX12_isTrue_13 rfl (q := 0) rfl ?_
    obtain ⟨r14, h14, h⟩ := oB_some h
    refine g_cV1 hC cv_X12_bells wd_1984 ⟨Nat.le_of_ble_eq_true rfl, Nat.le_of_ble_eq_true rfl⟩ rfl (by decide) dX12_isTrue_14 (As := []) (st := [.ref (mB E + 75)]) (ok_X12_bells hC.2.2.2.2.2.2.2.1 hW h14) rfl rfl (Nat.le_of_ble_eq_true rfl) ⟨Nat.zero_le _, Nat.zero_le _⟩ ?_
    obtain ⟨r17, h17, h⟩ := oB_some h
    refine g_cV1 hC cv_X12_lengthNow wd_2178 ⟨Nat.le_of_ble_eq_true rfl, Nat.le_of_ble_eq_true rfl⟩ rfl (by decide) dX12_isTrue_17 (As := [.int r14.1]) (st := []) (ok_X12_lengthNow hC.2.2.2.2.2.2.2.1 hW h17) rfl rfl (Nat.le_of_ble_eq_true rfl) ⟨Nat.zero_le _, Nat.zero_le _⟩ ?_
    refine g_pop hC dX12_isTrue_20 rfl ?_
    refine g_aload_n hC dX12_isTrue_21 rfl (q := 0) rfl ?_
    refine g_geti hC fd_RX12_298 rfl (by decide) (Or.inl rfl) dX12_isTrue_22 ?_
    refine g_if_eq hC dX12_isTrue_25 (tgt := 35) (by decide) (fun c25 => ?_) (fun c25 => ?_)
    · replace h := (if_pos c25).symm.trans h
      refine g_iconst hC dX12_isTrue_35 (v := (1 : Int32)) (by decide) ?_
      refine g_goto hC dX12_isTrue_36 (tgt := 40) (by decide) ?_
      cases h
      exact g_zret hC (by decide) hE rfl dX12_isTrue_40 (Nat.zero_le _) (Nat.zero_le _) ⟨rfl, rfl, rfl, rfl, rfl, rfl⟩
    · replace h := (if_neg c25).symm.trans h
      refine g_aload_n hC dX12_isTrue_28 rfl (q := 0) rfl ?_
      refine g_geti hC fd_RX12_408 rfl (by decide) (Or.inr rfl) dX12_isTrue_29 ?_
      refine g_if_ne hC dX12_isTrue_32 (tgt := 39) (by decide) (fun c32 => ?_) (fun c32 => ?_)
      · replace h := (if_neg c32).symm.trans h
        refine g_iconst hC dX12_isTrue_39 (v := (0 : Int32)) (by decide) ?_
        cases h
        exact g_zret hC (by decide) hE rfl dX12_isTrue_40 (Nat.zero_le _) (Nat.zero_le _) ⟨rfl, rfl, rfl, rfl, rfl, rfl⟩
      · replace h := (if_pos c32).symm.trans h
        refine g_iconst hC dX12_isTrue_35 (v := (1 : Int32)) (by decide) ?_
        refine g_goto hC dX12_isTrue_36 (tgt := 40) (by decide) ?_
        cases h
        exact g_zret hC (by decide) hE rfl dX12_isTrue_40 (Nat.zero_le _) (Nat.zero_le _) ⟨rfl, rfl, rfl, rfl, rfl, rfl⟩
noncomputable def b_X12_notesOf_4 (Fu : Nat) (k4_ : Int32 × Int32 × Int32 × mIT → Option (Int32 × mIT)) (v1 : Int32) (v2 : Int32) (v3 : Int32) (I : mIT) : Option (Int32 × mIT) :=
  if (I 75 1) ≤ v3 then (some (v2, I)) else (if ((v1 >>> (v3 &&& 31)) &&& (1 : Int32)) = (1 : Int32) then (oB (f_X12_noteOf Fu I (0 : Int32) v3) (fun r26 => k4_ (v1, (v2 ||| ((1 : Int32) <<< (r26.1 &&& 31))), (v3 + (1 : Int32)), r26.2))) else (k4_ (v1, (v2 ||| (0 : Int32)), (v3 + (1 : Int32)), I)))
set_option maxRecDepth 20000 in
theorem bo_X12_notesOf_4 {X : mXT} {E : mEn} {Fu : Nat} {R : mRT} {L : mLT}  (hC : mC X E mX12_notesOf RX12 cX12_notesOf) (hW : mWd R)   {out : Int32 × mIT} (hE : mEd X E 0 0 (mSame (some (.int (out.1))) 106 1 (out.2) R L)) (k4_ : Int32 × Int32 × Int32 × mIT → Option (Int32 × mIT)) (hk4_ : ∀ (v1 : Int32) (v2 : Int32) (v3 : Int32) (I : mIT),  k4_ (v1, v2, v3, I) = some out → mG X E 4 [(0, .ref (mB E + 75)), (1, .int v1), (2, .int v2), (3, .int v3)] [] 106 1 I R L 0 0) (v1 : Int32) (v2 : Int32) (v3 : Int32) (I : mIT) (h : b_X12_notesOf_4 Fu k4_ v1 v2 v3 I = some out) : mG X E 4 [(0, .ref (mB E + 75)), (1, .int v1), (2, .int v2), (3, .int v3)] [] 106 1 I R L 0 0 := by
  unfold b_X12_notesOf_4 at h
  refine g_iload_n hC dX12_notesOf_4 rfl (q := 3) rfl ?_
  refine g_aload_n hC dX12_notesOf_5 rfl (q := 0) rfl ?_
  refine g_geti hC fd_RX12_289 rfl (by decide) (Or.inl rfl) dX12_notesOf_6 ?_
  refine g_ic_ge hC dX12_notesOf_9 (tgt := 42) (by decide) (fun c9 => ?_) (fun c9 => ?_)
  · replace h := (if_pos c9).symm.trans h
    refine g_iload_n hC dX12_notesOf_42 rfl (q := 2) rfl ?_
    cases h
    exact g_iret hC hE rfl dX12_notesOf_43 (Nat.zero_le _) (Nat.zero_le _) ⟨rfl, rfl, rfl, rfl, rfl, rfl⟩
  · replace h := (if_neg c9).symm.trans h
    refine g_iload_n hC dX12_notesOf_12 rfl (q := 2) rfl ?_
    refine g_iload_n hC dX12_notesOf_13 rfl (q := 1) rfl ?_
    refine g_iload_n hC dX12_notesOf_14 rfl (q := 3) rfl ?_
    refine g_ishr hC dX12_notesOf_15 ?_
    refine g_iconst hC dX12_notesOf_16 (v := (1 : Int32)) (by decide) ?_
    refine g_iand hC dX12_notesOf_17 ?_
    refine g_iconst hC dX12_notesOf_18 (v := (1 : Int32)) (by decide) ?_
    refine g_ic_ne hC dX12_notesOf_19 (tgt := 33) (by decide) (fun c19 => ?_) (fun c19 => ?_)
    · replace h := (if_neg c19).symm.trans h
      refine g_iconst hC dX12_notesOf_33 (v := (0 : Int32)) (by decide) ?_
      refine g_ior hC dX12_notesOf_34 ?_
      refine g_istore_n hC dX12_notesOf_35 rfl rfl (by decide) (lv' := [(2, .int (v2 ||| (0 : Int32))), (0, .ref (mB E + 75)), (1, .int v1), (3, .int v3)]) rfl ?_
      refine g_iinc hC dX12_notesOf_36 rfl (q := 3) rfl (w := (v3 + (1 : Int32))) rfl (by decide) (lv' := [(3, .int (v3 + (1 : Int32))), (2, .int (v2 ||| (0 : Int32))), (0, .ref (mB E + 75)), (1, .int v1)]) rfl ?_
      refine g_goto hC dX12_notesOf_39 (tgt := 4) (by decide) ?_
      refine g_lv [2, 3, 1, 0] rfl ?_
      exact hk4_ v1 (v2 ||| (0 : Int32)) (v3 + (1 : Int32)) I h
    · replace h := (if_pos c19).symm.trans h
      refine g_iconst hC dX12_notesOf_22 (v := (1 : Int32)) (by decide) ?_
      refine g_aload_n hC dX12_notesOf_23 rfl (q := 0) rfl ?_
      refine g_iconst hC dX12_notesOf_24 (v := (0 : Int32)) (by decide) ?_
      refine g_iload_n hC dX12_notesOf_25 rfl (q := 3) rfl ?_
      obtain ⟨r26, h26, h⟩ := oB_some h
      refine g_cV1 hC cv_X12_noteOf wd_2012 ⟨Nat.le_of_ble_eq_true rfl, Nat.le_of_ble_eq_true rfl⟩ rfl (by decide) dX12_notesOf_26 (As := [.int (0 : Int32), .int v3]) (st := [.int (1 : Int32), .int v2]) (ok_X12_noteOf hC.2.2.2.2.2.2.2.1 hW h26) rfl rfl (Nat.le_of_ble_eq_true rfl) ⟨Nat.zero_le _, Nat.zero_le _⟩ ?_
      refine g_ishl hC dX12_notesOf_29 ?_
      refine g_goto hC dX12_notesOf_30 (tgt := 34) (by decide) ?_
      refine g_ior hC dX12_notesOf_34 ?_
      refine g_istore_n hC dX12_notesOf_35 rfl rfl (by decide) (lv' := [(2, .int (v2 ||| ((1 : Int32) <<< (r26.1 &&& 31)))), (0, .ref (mB E + 75)), (1, .int v1), (3, .int v3)]) rfl ?_
      refine g_iinc hC dX12_notesOf_36 rfl (q := 3) rfl (w := (v3 + (1 : Int32))) rfl (by decide) (lv' := [(3, .int (v3 + (1 : Int32))), (2, .int (v2 ||| ((1 : Int32) <<< (r26.1 &&& 31)))), (0, .ref (mB E + 75)), (1, .int v1)]) rfl ?_
      refine g_goto hC dX12_notesOf_39 (tgt := 4) (by decide) ?_
      refine g_lv [2, 3, 1, 0] rfl ?_
      exact hk4_ v1 (v2 ||| ((1 : Int32) <<< (r26.1 &&& 31))) (v3 + (1 : Int32)) r26.2 h
noncomputable def w_X12_notesOf_4 (Fu : Nat)  (N : Nat) (v1 : Int32) (v2 : Int32) (v3 : Int32) (I : mIT) : Option (Int32 × mIT) :=
  loopF (fun self (s : Int32 × Int32 × Int32 × mIT) => b_X12_notesOf_4 Fu self s.1 s.2.1 s.2.2.1 s.2.2.2) N (v1, v2, v3, I)
theorem wo_X12_notesOf_4 {X : mXT} {E : mEn} {Fu : Nat} {R : mRT} {L : mLT}  (hC : mC X E mX12_notesOf RX12 cX12_notesOf) (hW : mWd R)   {out : Int32 × mIT} (hE : mEd X E 0 0 (mSame (some (.int (out.1))) 106 1 (out.2) R L))  (N : Nat) (v1 : Int32) (v2 : Int32) (v3 : Int32) (I : mIT) (h : w_X12_notesOf_4 Fu  N v1 v2 v3 I = some out) : mG X E 4 [(0, .ref (mB E + 75)), (1, .int v1), (2, .int v2), (3, .int v3)] [] 106 1 I R L 0 0 :=
  loopF_ok (Gd := fun s : Int32 × Int32 × Int32 × mIT => mG X E 4 [(0, .ref (mB E + 75)), (1, .int s.1), (2, .int s.2.1), (3, .int s.2.2.1)] [] 106 1 s.2.2.2 R L 0 0) (fun self hs s h => bo_X12_notesOf_4 hC hW hE self (fun v1 v2 v3 I h => hs (v1, v2, v3, I) h) s.1 s.2.1 s.2.2.1 s.2.2.2 h) N (v1, v2, v3, I) h
noncomputable def f_X12_notesOf (Fu : Nat) (I : mIT) (v1 : Int32) : Option (Int32 × mIT) :=
  w_X12_notesOf_4 Fu Fu v1 (0 : Int32) (0 : Int32) I
set_option maxRecDepth 20000 in
theorem ok_X12_notesOf {l : Launch} {E : mEn} {Fu : Nat} {I : mIT} {R : mRT} {L : mLT} {v1 : Int32} (hst : l.stackTraces = false) (hW : mWd R)  {out : Int32 × mIT} (h : f_X12_notesOf Fu I v1 = some out) : mOk l E mX12_notesOf [.ref (mB E + 75), .int v1] 106 1 I R L 0 0 (mSame (some (.int (out.1))) 106 1 (out.2) R L) := by
  refine mOk_of hst (by decide) (Nat.le_of_ble_eq_true rfl) (fun X hC hE _ => ?_)
  have hC : mC X E mX12_notesOf RX12 cX12_notesOf := hC
  show mG X E 0 [(0, .ref (mB E + 75)), (1, .int v1)] [] 106 1 I R L 0 0
  unfold f_X12_notesOf at h
  refine g_iconst hC dX12_notesOf_0 (v := (0 : Int32)) (by decide) ?_
  refine g_istore_n hC dX12_notesOf_1 rfl rfl (by decide) (lv' := [(2, .int (0 : Int32)), (0, .ref (mB E + 75)), (1, .int v1)]) rfl ?_
  refine g_iconst hC dX12_notesOf_2 (v := (0 : Int32)) (by decide) ?_
  refine g_istore_n hC dX12_notesOf_3 rfl rfl (by decide) (lv' := [(3, .int (0 : Int32)), (2, .int (0 : Int32)), (0, .ref (mB E + 75)), (1, .int v1)]) rfl ?_
  refine g_lv [2, 3, 1, 0] rfl ?_
  exact wo_X12_notesOf_4 hC hW hE Fu (v1) ((0 : Int32)) ((0 : Int32)) (I) h
noncomputable def b_X12_keepers_15 (Fu : Nat) (k15_ : Int32 × Int32 × Int32 × mIT → Option (Int32 × mIT)) (v1 : Int32) (v2 : Int32) (v3 : Int32) (I : mIT) : Option (Int32 × mIT) :=
  if v1 < v3 then (some (v2, I)) else (if (v3 &&& (v1 ^^^ (-1 : Int32))) = 0 then (if v2 = (-1 : Int32) then (oB (f_X12_notesOf Fu I v3) (fun r47 => oB (f_X12_hasTune Fu r47.2 r47.1) (fun r50 => if r50 = 0 then (k15_ (v1, v2, (v3 + (1 : Int32)), r47.2)) else (k15_ (v1, v3, (v3 + (1 : Int32)), r47.2))))) else (oB (f_X12_bits Fu v3) (fun r34 => oB (f_X12_bits Fu v2) (fun r38 => if r38 ≤ r34 then (k15_ (v1, v2, (v3 + (1 : Int32)), I)) else (oB (f_X12_notesOf Fu I v3) (fun r47 => oB (f_X12_hasTune Fu r47.2 r47.1) (fun r50 => if r50 = 0 then (k15_ (v1, v2, (v3 + (1 : Int32)), r47.2)) else (k15_ (v1, v3, (v3 + (1 : Int32)), r47.2))))))))) else (k15_ (v1, v2, (v3 + (1 : Int32)), I)))
set_option maxRecDepth 20000 in
theorem bo_X12_keepers_15 {X : mXT} {E : mEn} {Fu : Nat} {R : mRT} {L : mLT}  (hC : mC X E mX12_keepers RX12 cX12_keepers) (hW : mWd R)   {out : Int32 × mIT} (hE : mEd X E 0 0 (mSame (some (.int (out.1))) 106 1 (out.2) R L)) (k15_ : Int32 × Int32 × Int32 × mIT → Option (Int32 × mIT)) (hk15_ : ∀ (v1 : Int32) (v2 : Int32) (v3 : Int32) (I : mIT),  k15_ (v1, v2, v3, I) = some out → mG X E 15 [(0, .ref (mB E + 75)), (1, .int v1), (2, .int v2), (3, .int v3)] [] 106 1 I R L 0 0) (v1 : Int32) (v2 : Int32) (v3 : Int32) (I : mIT) (h : b_X12_keepers_15 Fu k15_ v1 v2 v3 I = some out) : mG X E 15 [(0, .ref (mB E + 75)), (1, .int v1), (2, .int v2), (3, .int v3)] [] 106 1 I R L 0 0 := by
  unfold b_X12_keepers_15 at h
  refine g_iload_n hC dX12_keepers_15 rfl (q := 3) rfl ?_
  refine g_iload_n hC dX12_keepers_16 rfl (q := 1) rfl ?_
  refine g_ic_gt hC dX12_keepers_17 (tgt := 64) (by decide) (fun c17 => ?_) (fun c17 => ?_)
  · replace h := (if_pos c17).symm.trans h
    refine g_iload_n hC dX12_keepers_64 rfl (q := 2) rfl ?_
    cases h
    exact g_iret hC hE rfl dX12_keepers_65 (Nat.zero_le _) (Nat.zero_le _) ⟨rfl, rfl, rfl, rfl, rfl, rfl⟩
  · replace h := (if_neg c17).symm.trans h
    refine g_iload_n hC dX12_keepers_20 rfl (q := 3) rfl ?_
    refine g_iload_n hC dX12_keepers_21 rfl (q := 1) rfl ?_
    refine g_iconst hC dX12_keepers_22 (v := (-1 : Int32)) (by decide) ?_
    refine g_ixor hC dX12_keepers_23 ?_
    refine g_iand hC dX12_keepers_24 ?_
    refine g_if_ne hC dX12_keepers_25 (tgt := 58) (by decide) (fun c25 => ?_) (fun c25 => ?_)
    · replace h := (if_neg c25).symm.trans h
      refine g_iinc hC dX12_keepers_58 rfl (q := 3) rfl (w := (v3 + (1 : Int32))) rfl (by decide) (lv' := [(3, .int (v3 + (1 : Int32))), (0, .ref (mB E + 75)), (1, .int v1), (2, .int v2)]) rfl ?_
      refine g_goto hC dX12_keepers_61 (tgt := 15) (by decide) ?_
      refine g_lv [1, 2, 3, 0] rfl ?_
      exact hk15_ v1 v2 (v3 + (1 : Int32)) I h
    · replace h := (if_pos c25).symm.trans h
      refine g_iload_n hC dX12_keepers_28 rfl (q := 2) rfl ?_
      refine g_iconst hC dX12_keepers_29 (v := (-1 : Int32)) (by decide) ?_
      refine g_ic_eq hC dX12_keepers_30 (tgt := 44) (by decide) (fun c30 => ?_) (fun c30 => ?_)
      · replace h := (if_pos c30).symm.trans h
        refine g_aload_n hC dX12_keepers_44 rfl (q := 0) rfl ?_
        refine g_aload_n hC dX12_keepers_45 rfl (q := 0) rfl ?_
        refine g_iload_n hC dX12_keepers_46 rfl (q := 3) rfl ?_
        obtain ⟨r47, h47, h⟩ := oB_some h
        refine g_cV1 hC cv_X12_notesOf wd_2213 ⟨Nat.le_of_ble_eq_true rfl, Nat.le_of_ble_eq_true rfl⟩ rfl (by decide) dX12_keepers_47 (As := [.int v3]) (st := [.ref (mB E + 75)]) (ok_X12_notesOf hC.2.2.2.2.2.2.2.1 hW h47) rfl rfl (Nat.le_of_ble_eq_true rfl) ⟨Nat.zero_le _, Nat.zero_le _⟩ ?_
        obtain ⟨r50, h50, h⟩ := oB_some h
        refine g_cV1 hC cv_X12_hasTune wd_2126 ⟨Nat.le_of_ble_eq_true rfl, Nat.le_of_ble_eq_true rfl⟩ rfl (by decide) dX12_keepers_50 (As := [.int r47.1]) (st := []) (ok_X12_hasTune hC.2.2.2.2.2.2.2.1 hW h50) rfl rfl (Nat.le_of_ble_eq_true rfl) ⟨Nat.zero_le _, Nat.zero_le _⟩ ?_
        refine g_if_eq hC dX12_keepers_53 (tgt := 58) (by decide) (fun c53 => ?_) (fun c53 => ?_)
        · replace h := (if_pos c53).symm.trans h
          refine g_iinc hC dX12_keepers_58 rfl (q := 3) rfl (w := (v3 + (1 : Int32))) rfl (by decide) (lv' := [(3, .int (v3 + (1 : Int32))), (0, .ref (mB E + 75)), (1, .int v1), (2, .int v2)]) rfl ?_
          refine g_goto hC dX12_keepers_61 (tgt := 15) (by decide) ?_
          refine g_lv [1, 2, 3, 0] rfl ?_
          exact hk15_ v1 v2 (v3 + (1 : Int32)) r47.2 h
        · replace h := (if_neg c53).symm.trans h
          refine g_iload_n hC dX12_keepers_56 rfl (q := 3) rfl ?_
          refine g_istore_n hC dX12_keepers_57 rfl rfl (by decide) (lv' := [(2, .int v3), (0, .ref (mB E + 75)), (1, .int v1), (3, .int v3)]) rfl ?_
          refine g_iinc hC dX12_keepers_58 rfl (q := 3) rfl (w := (v3 + (1 : Int32))) rfl (by decide) (lv' := [(3, .int (v3 + (1 : Int32))), (2, .int v3), (0, .ref (mB E + 75)), (1, .int v1)]) rfl ?_
          refine g_goto hC dX12_keepers_61 (tgt := 15) (by decide) ?_
          refine g_lv [2, 3, 1, 0] rfl ?_
          exact hk15_ v1 v3 (v3 + (1 : Int32)) r47.2 h
      · replace h := (if_neg c30).symm.trans h
        refine g_iload_n hC dX12_keepers_33 rfl (q := 3) rfl ?_
        obtain ⟨r34, h34, h⟩ := oB_some h
        refine g_cS1 hC cs_X12_bits wd_2210 ⟨Nat.le_of_ble_eq_true rfl, Nat.le_of_ble_eq_true rfl⟩ dX12_keepers_34 (As := [.int v3]) (st := []) (ok_X12_bits hC.2.2.2.2.2.2.2.1 hW h34) rfl rfl (Nat.le_of_ble_eq_true rfl) ⟨Nat.zero_le _, Nat.zero_le _⟩ ?_
        refine g_iload_n hC dX12_keepers_37 rfl (q := 2) rfl ?_
        obtain ⟨r38, h38, h⟩ := oB_some h
        refine g_cS1 hC cs_X12_bits wd_2210 ⟨Nat.le_of_ble_eq_true rfl, Nat.le_of_ble_eq_true rfl⟩ dX12_keepers_38 (As := [.int v2]) (st := [.int r34]) (ok_X12_bits hC.2.2.2.2.2.2.2.1 hW h38) rfl rfl (Nat.le_of_ble_eq_true rfl) ⟨Nat.zero_le _, Nat.zero_le _⟩ ?_
        refine g_ic_ge hC dX12_keepers_41 (tgt := 58) (by decide) (fun c41 => ?_) (fun c41 => ?_)
        · replace h := (if_pos c41).symm.trans h
          refine g_iinc hC dX12_keepers_58 rfl (q := 3) rfl (w := (v3 + (1 : Int32))) rfl (by decide) (lv' := [(3, .int (v3 + (1 : Int32))), (0, .ref (mB E + 75)), (1, .int v1), (2, .int v2)]) rfl ?_
          refine g_goto hC dX12_keepers_61 (tgt := 15) (by decide) ?_
          refine g_lv [1, 2, 3, 0] rfl ?_
          exact hk15_ v1 v2 (v3 + (1 : Int32)) I h
        · replace h := (if_neg c41).symm.trans h
          refine g_aload_n hC dX12_keepers_44 rfl (q := 0) rfl ?_
          refine g_aload_n hC dX12_keepers_45 rfl (q := 0) rfl ?_
          refine g_iload_n hC dX12_keepers_46 rfl (q := 3) rfl ?_
          obtain ⟨r47, h47, h⟩ := oB_some h
          refine g_cV1 hC cv_X12_notesOf wd_2213 ⟨Nat.le_of_ble_eq_true rfl, Nat.le_of_ble_eq_true rfl⟩ rfl (by decide) dX12_keepers_47 (As := [.int v3]) (st := [.ref (mB E + 75)]) (ok_X12_notesOf hC.2.2.2.2.2.2.2.1 hW h47) rfl rfl (Nat.le_of_ble_eq_true rfl) ⟨Nat.zero_le _, Nat.zero_le _⟩ ?_
          obtain ⟨r50, h50, h⟩ := oB_some h
          refine g_cV1 hC cv_X12_hasTune wd_2126 ⟨Nat.le_of_ble_eq_true rfl, Nat.le_of_ble_eq_true rfl⟩ rfl (by decide) dX12_keepers_50 (As := [.int r47.1]) (st := []) (ok_X12_hasTune hC.2.2.2.2.2.2.2.1 hW h50) rfl rfl (Nat.le_of_ble_eq_true rfl) ⟨Nat.zero_le _, Nat.zero_le _⟩ ?_
          refine g_if_eq hC dX12_keepers_53 (tgt := 58) (by decide) (fun c53 => ?_) (fun c53 => ?_)
          · replace h := (if_pos c53).symm.trans h
            refine g_iinc hC dX12_keepers_58 rfl (q := 3) rfl (w := (v3 + (1 : Int32))) rfl (by decide) (lv' := [(3, .int (v3 + (1 : Int32))), (0, .ref (mB E + 75)), (1, .int v1), (2, .int v2)]) rfl ?_
            refine g_goto hC dX12_keepers_61 (tgt := 15) (by decide) ?_
            refine g_lv [1, 2, 3, 0] rfl ?_
            exact hk15_ v1 v2 (v3 + (1 : Int32)) r47.2 h
          · replace h := (if_neg c53).symm.trans h
            refine g_iload_n hC dX12_keepers_56 rfl (q := 3) rfl ?_
            refine g_istore_n hC dX12_keepers_57 rfl rfl (by decide) (lv' := [(2, .int v3), (0, .ref (mB E + 75)), (1, .int v1), (3, .int v3)]) rfl ?_
            refine g_iinc hC dX12_keepers_58 rfl (q := 3) rfl (w := (v3 + (1 : Int32))) rfl (by decide) (lv' := [(3, .int (v3 + (1 : Int32))), (2, .int v3), (0, .ref (mB E + 75)), (1, .int v1)]) rfl ?_
            refine g_goto hC dX12_keepers_61 (tgt := 15) (by decide) ?_
            refine g_lv [2, 3, 1, 0] rfl ?_
            exact hk15_ v1 v3 (v3 + (1 : Int32)) r47.2 h
noncomputable def w_X12_keepers_15 (Fu : Nat)  (N : Nat) (v1 : Int32) (v2 : Int32) (v3 : Int32) (I : mIT) : Option (Int32 × mIT) :=
  loopF (fun self (s : Int32 × Int32 × Int32 × mIT) => b_X12_keepers_15 Fu self s.1 s.2.1 s.2.2.1 s.2.2.2) N (v1, v2, v3, I)
theorem wo_X12_keepers_15 {X : mXT} {E : mEn} {Fu : Nat} {R : mRT} {L : mLT}  (hC : mC X E mX12_keepers RX12 cX12_keepers) (hW : mWd R)   {out : Int32 × mIT} (hE : mEd X E 0 0 (mSame (some (.int (out.1))) 106 1 (out.2) R L))  (N : Nat) (v1 : Int32) (v2 : Int32) (v3 : Int32) (I : mIT) (h : w_X12_keepers_15 Fu  N v1 v2 v3 I = some out) : mG X E 15 [(0, .ref (mB E + 75)), (1, .int v1), (2, .int v2), (3, .int v3)] [] 106 1 I R L 0 0 :=
  loopF_ok (Gd := fun s : Int32 × Int32 × Int32 × mIT => mG X E 15 [(0, .ref (mB E + 75)), (1, .int s.1), (2, .int s.2.1), (3, .int s.2.2.1)] [] 106 1 s.2.2.2 R L 0 0) (fun self hs s h => bo_X12_keepers_15 hC hW hE self (fun v1 v2 v3 I h => hs (v1, v2, v3, I) h) s.1 s.2.1 s.2.2.1 s.2.2.2 h) N (v1, v2, v3, I) h
noncomputable def f_X12_keepers (Fu : Nat) (I : mIT)  : Option (Int32 × mIT) :=
  oB (f_X12_soundingIn Fu (mU I 75 0 (0 : Int32)) (0 : Int32)) (fun r7 => w_X12_keepers_15 Fu Fu r7 (-1 : Int32) (0 : Int32) (mU I 75 0 (0 : Int32)))
set_option maxRecDepth 20000 in
theorem ok_X12_keepers {l : Launch} {E : mEn} {Fu : Nat} {I : mIT} {R : mRT} {L : mLT}  (hst : l.stackTraces = false) (hW : mWd R)  {out : Int32 × mIT} (h : f_X12_keepers Fu I  = some out) : mOk l E mX12_keepers [.ref (mB E + 75)] 106 1 I R L 0 0 (mSame (some (.int (out.1))) 106 1 (out.2) R L) := by
  refine mOk_of hst (by decide) (Nat.le_of_ble_eq_true rfl) (fun X hC hE _ => ?_)
  have hC : mC X E mX12_keepers RX12 cX12_keepers := hC
  show mG X E 0 [(0, .ref (mB E + 75))] [] 106 1 I R L 0 0
  unfold f_X12_keepers at h
  refine g_aload_n hC dX12_keepers_0 rfl (q := 0) rfl ?_
  refine g_iconst hC dX12_keepers_1 (v := (0 : Int32)) (by decide) ?_
  refine g_puti hC fd_RX12_114 rfl (by decide) rfl dX12_keepers_2 (nm_e ?_)
  refine g_aload_n hC dX12_keepers_5 rfl (q := 0) rfl ?_
  refine g_iconst hC dX12_keepers_6 (v := (0 : Int32)) (by decide) ?_
  obtain ⟨r7, h7, h⟩ := oB_some h
  refine g_cV1 hC cv_X12_soundingIn wd_1996 ⟨Nat.le_of_ble_eq_true rfl, Nat.le_of_ble_eq_true rfl⟩ rfl (by decide) dX12_keepers_7 (As := [.int (0 : Int32)]) (st := []) (ok_X12_soundingIn hC.2.2.2.2.2.2.2.1 hW h7) rfl rfl (Nat.le_of_ble_eq_true rfl) ⟨Nat.zero_le _, Nat.zero_le _⟩ ?_
  refine g_istore_n hC dX12_keepers_10 rfl rfl (by decide) (lv' := [(1, .int r7), (0, .ref (mB E + 75))]) rfl ?_
  refine g_iconst hC dX12_keepers_11 (v := (-1 : Int32)) (by decide) ?_
  refine g_istore_n hC dX12_keepers_12 rfl rfl (by decide) (lv' := [(2, .int (-1 : Int32)), (1, .int r7), (0, .ref (mB E + 75))]) rfl ?_
  refine g_iconst hC dX12_keepers_13 (v := (0 : Int32)) (by decide) ?_
  refine g_istore_n hC dX12_keepers_14 rfl rfl (by decide) (lv' := [(3, .int (0 : Int32)), (2, .int (-1 : Int32)), (1, .int r7), (0, .ref (mB E + 75))]) rfl ?_
  refine g_lv [3, 2, 1, 0] rfl ?_
  exact wo_X12_keepers_15 hC hW hE Fu (r7) ((-1 : Int32)) ((0 : Int32)) ((mU I 75 0 (0 : Int32))) h
noncomputable def b_X12_last_13 (Fu : Nat) (k13_ : Int32 × Int32 × mIT → Option (Int32 × mIT)) (v1 : Int32) (v2 : Int32) (I : mIT) : Option (Int32 × mIT) :=
  if (60 : Int32) < v2 then (some (v1, I)) else (oB (f_X12_notesIn Fu I (53 : Int32)) (fun r23 => oB (f_X12_hasTune Fu r23.2 r23.1) (fun r26 => if r26 = 0 then (oB (f_X12_dayGoes Fu r23.2 (53 : Int32)) (fun r41 => k13_ (v1, (v2 + (1 : Int32)), r41))) else (oB (f_X12_dayGoes Fu r23.2 (53 : Int32)) (fun r41 => k13_ (v2, (v2 + (1 : Int32)), r41))))))
set_option maxRecDepth 20000 in
theorem bo_X12_last_13 {X : mXT} {E : mEn} {Fu : Nat} {R : mRT} {L : mLT}  (hC : mC X E mX12_last RX12 cX12_last) (hW : mWd R)   {out : Int32 × mIT} (hE : mEd X E 0 0 (mSame (some (.int (out.1))) 106 1 (out.2) R L)) (k13_ : Int32 × Int32 × mIT → Option (Int32 × mIT)) (hk13_ : ∀ (v1 : Int32) (v2 : Int32) (I : mIT),  k13_ (v1, v2, I) = some out → mG X E 13 [(0, .ref (mB E + 75)), (1, .int v1), (2, .int v2)] [] 106 1 I R L 0 0) (v1 : Int32) (v2 : Int32) (I : mIT) (h : b_X12_last_13 Fu k13_ v1 v2 I = some out) : mG X E 13 [(0, .ref (mB E + 75)), (1, .int v1), (2, .int v2)] [] 106 1 I R L 0 0 := by
  unfold b_X12_last_13 at h
  refine g_iload_n hC dX12_last_13 rfl (q := 2) rfl ?_
  refine g_bipush hC dX12_last_14 (v := (60 : Int32)) (by decide) ?_
  refine g_ic_gt hC dX12_last_16 (tgt := 50) (by decide) (fun c16 => ?_) (fun c16 => ?_)
  · replace h := (if_pos c16).symm.trans h
    refine g_iload_n hC dX12_last_50 rfl (q := 1) rfl ?_
    cases h
    exact g_iret hC hE rfl dX12_last_51 (Nat.zero_le _) (Nat.zero_le _) ⟨rfl, rfl, rfl, rfl, rfl, rfl⟩
  · replace h := (if_neg c16).symm.trans h
    refine g_aload_n hC dX12_last_19 rfl (q := 0) rfl ?_
    refine g_aload_n hC dX12_last_20 rfl (q := 0) rfl ?_
    refine g_bipush hC dX12_last_21 (v := (53 : Int32)) (by decide) ?_
    obtain ⟨r23, h23, h⟩ := oB_some h
    refine g_cV1 hC cv_X12_notesIn wd_2008 ⟨Nat.le_of_ble_eq_true rfl, Nat.le_of_ble_eq_true rfl⟩ rfl (by decide) dX12_last_23 (As := [.int (53 : Int32)]) (st := [.ref (mB E + 75)]) (ok_X12_notesIn hC.2.2.2.2.2.2.2.1 hW h23) rfl rfl (Nat.le_of_ble_eq_true rfl) ⟨Nat.zero_le _, Nat.zero_le _⟩ ?_
    obtain ⟨r26, h26, h⟩ := oB_some h
    refine g_cV1 hC cv_X12_hasTune wd_2126 ⟨Nat.le_of_ble_eq_true rfl, Nat.le_of_ble_eq_true rfl⟩ rfl (by decide) dX12_last_26 (As := [.int r23.1]) (st := []) (ok_X12_hasTune hC.2.2.2.2.2.2.2.1 hW h26) rfl rfl (Nat.le_of_ble_eq_true rfl) ⟨Nat.zero_le _, Nat.zero_le _⟩ ?_
    refine g_if_eq hC dX12_last_29 (tgt := 36) (by decide) (fun c29 => ?_) (fun c29 => ?_)
    · replace h := (if_pos c29).symm.trans h
      refine g_iload_n hC dX12_last_36 rfl (q := 1) rfl ?_
      refine g_istore_n hC dX12_last_37 rfl rfl (by decide) (lv' := [(1, .int v1), (0, .ref (mB E + 75)), (2, .int v2)]) rfl ?_
      refine g_aload_n hC dX12_last_38 rfl (q := 1) rfl ?_
      refine g_bipush hC dX12_last_39 (v := (53 : Int32)) (by decide) ?_
      obtain ⟨r41, h41, h⟩ := oB_some h
      refine g_cV0 hC cv_X12_dayGoes wd_2070 ⟨Nat.le_of_ble_eq_true rfl, Nat.le_of_ble_eq_true rfl⟩ rfl (by decide) dX12_last_41 (As := [.int (53 : Int32)]) (st := []) (ok_X12_dayGoes hC.2.2.2.2.2.2.2.1 hW h41) rfl rfl (Nat.le_of_ble_eq_true rfl) ⟨Nat.zero_le _, Nat.zero_le _⟩ ?_
      refine g_iinc hC dX12_last_44 rfl (q := 2) rfl (w := (v2 + (1 : Int32))) rfl (by decide) (lv' := [(2, .int (v2 + (1 : Int32))), (1, .int v1), (0, .ref (mB E + 75))]) rfl ?_
      refine g_goto hC dX12_last_47 (tgt := 13) (by decide) ?_
      refine g_lv [2, 1, 0] rfl ?_
      exact hk13_ v1 (v2 + (1 : Int32)) r41 h
    · replace h := (if_neg c29).symm.trans h
      refine g_iload_n hC dX12_last_32 rfl (q := 2) rfl ?_
      refine g_goto hC dX12_last_33 (tgt := 37) (by decide) ?_
      refine g_istore_n hC dX12_last_37 rfl rfl (by decide) (lv' := [(1, .int v2), (0, .ref (mB E + 75)), (2, .int v2)]) rfl ?_
      refine g_aload_n hC dX12_last_38 rfl (q := 1) rfl ?_
      refine g_bipush hC dX12_last_39 (v := (53 : Int32)) (by decide) ?_
      obtain ⟨r41, h41, h⟩ := oB_some h
      refine g_cV0 hC cv_X12_dayGoes wd_2070 ⟨Nat.le_of_ble_eq_true rfl, Nat.le_of_ble_eq_true rfl⟩ rfl (by decide) dX12_last_41 (As := [.int (53 : Int32)]) (st := []) (ok_X12_dayGoes hC.2.2.2.2.2.2.2.1 hW h41) rfl rfl (Nat.le_of_ble_eq_true rfl) ⟨Nat.zero_le _, Nat.zero_le _⟩ ?_
      refine g_iinc hC dX12_last_44 rfl (q := 2) rfl (w := (v2 + (1 : Int32))) rfl (by decide) (lv' := [(2, .int (v2 + (1 : Int32))), (1, .int v2), (0, .ref (mB E + 75))]) rfl ?_
      refine g_goto hC dX12_last_47 (tgt := 13) (by decide) ?_
      refine g_lv [2, 1, 0] rfl ?_
      exact hk13_ v2 (v2 + (1 : Int32)) r41 h
noncomputable def w_X12_last_13 (Fu : Nat)  (N : Nat) (v1 : Int32) (v2 : Int32) (I : mIT) : Option (Int32 × mIT) :=
  loopF (fun self (s : Int32 × Int32 × mIT) => b_X12_last_13 Fu self s.1 s.2.1 s.2.2) N (v1, v2, I)
theorem wo_X12_last_13 {X : mXT} {E : mEn} {Fu : Nat} {R : mRT} {L : mLT}  (hC : mC X E mX12_last RX12 cX12_last) (hW : mWd R)   {out : Int32 × mIT} (hE : mEd X E 0 0 (mSame (some (.int (out.1))) 106 1 (out.2) R L))  (N : Nat) (v1 : Int32) (v2 : Int32) (I : mIT) (h : w_X12_last_13 Fu  N v1 v2 I = some out) : mG X E 13 [(0, .ref (mB E + 75)), (1, .int v1), (2, .int v2)] [] 106 1 I R L 0 0 :=
  loopF_ok (Gd := fun s : Int32 × Int32 × mIT => mG X E 13 [(0, .ref (mB E + 75)), (1, .int s.1), (2, .int s.2.1)] [] 106 1 s.2.2 R L 0 0) (fun self hs s h => bo_X12_last_13 hC hW hE self (fun v1 v2 I h => hs (v1, v2, I) h) s.1 s.2.1 s.2.2 h) N (v1, v2, I) h
noncomputable def f_X12_last (Fu : Nat) (I : mIT)  : Option (Int32 × mIT) :=
  oB (f_X12_tries Fu (mU I 75 0 (0 : Int32))) (fun r8 => w_X12_last_13 Fu Fu (-1 : Int32) (0 : Int32) r8)
set_option maxRecDepth 20000 in
theorem ok_X12_last {l : Launch} {E : mEn} {Fu : Nat} {I : mIT} {R : mRT} {L : mLT}  (hst : l.stackTraces = false) (hW : mWd R)  {out : Int32 × mIT} (h : f_X12_last Fu I  = some out) : mOk l E mX12_last [.ref (mB E + 75)] 106 1 I R L 0 0 (mSame (some (.int (out.1))) 106 1 (out.2) R L) := by
  refine mOk_of hst (by decide) (Nat.le_of_ble_eq_true rfl) (fun X hC hE _ => ?_)
  have hC : mC X E mX12_last RX12 cX12_last := hC
  show mG X E 0 [(0, .ref (mB E + 75))] [] 106 1 I R L 0 0
  unfold f_X12_last at h
  refine g_aload_n hC dX12_last_0 rfl (q := 0) rfl ?_
  refine g_iconst hC dX12_last_1 (v := (0 : Int32)) (by decide) ?_
  refine g_puti hC fd_RX12_114 rfl (by decide) rfl dX12_last_2 (nm_e ?_)
  refine g_iconst hC dX12_last_5 (v := (-1 : Int32)) (by decide) ?_
  refine g_istore_n hC dX12_last_6 rfl rfl (by decide) (lv' := [(1, .int (-1 : Int32)), (0, .ref (mB E + 75))]) rfl ?_
  refine g_aload_n hC dX12_last_7 rfl (q := 1) rfl ?_
  obtain ⟨r8, h8, h⟩ := oB_some h
  refine g_cV0 hC cv_X12_tries wd_2110 ⟨Nat.le_of_ble_eq_true rfl, Nat.le_of_ble_eq_true rfl⟩ rfl (by decide) dX12_last_8 (As := []) (st := []) (ok_X12_tries hC.2.2.2.2.2.2.2.1 hW h8) rfl rfl (Nat.le_of_ble_eq_true rfl) ⟨Nat.zero_le _, Nat.zero_le _⟩ ?_
  refine g_iconst hC dX12_last_11 (v := (0 : Int32)) (by decide) ?_
  refine g_istore_n hC dX12_last_12 rfl rfl (by decide) (lv' := [(2, .int (0 : Int32)), (1, .int (-1 : Int32)), (0, .ref (mB E + 75))]) rfl ?_
  refine g_lv [2, 1, 0] rfl ?_
  exact wo_X12_last_13 hC hW hE Fu ((-1 : Int32)) ((0 : Int32)) (r8) h
noncomputable def b_X12_laysSoft_2 (Fu : Nat) (k2_ : Int32 × mIT → Option (mIT)) (v1 : Int32) (I : mIT) : Option (mIT) :=
  if (I 75 1) ≤ v1 then (some (I)) else (oB (f_X12_hangs Fu I (0 : Int32) v1) (fun r18 => if r18 = 0 then (oG (inB v1 10) (k2_ ((v1 + (1 : Int32)), (mU I 94 (v1).toNatClampNeg (-1 : Int32))))) else (oB (f_X12_softIn Fu I v1) (fun r26 => oG (inB v1 10) (k2_ ((v1 + (1 : Int32)), (mU r26.2 94 (v1).toNatClampNeg r26.1)))))))
set_option maxRecDepth 20000 in
theorem bo_X12_laysSoft_2 {X : mXT} {E : mEn} {Fu : Nat} {R : mRT} {L : mLT}  (hC : mC X E mX12_laysSoft RX12 cX12_laysSoft) (hW : mWd R)   {out : mIT} (hE : mEd X E 0 0 (mSame none 106 1 (out) R L)) (k2_ : Int32 × mIT → Option (mIT)) (hk2_ : ∀ (v1 : Int32) (I : mIT),  k2_ (v1, I) = some out → mG X E 2 [(0, .ref (mB E + 75)), (1, .int v1)] [] 106 1 I R L 0 0) (v1 : Int32) (I : mIT) (h : b_X12_laysSoft_2 Fu k2_ v1 I = some out) : mG X E 2 [(0, .ref (mB E + 75)), (1, .int v1)] [] 106 1 I R L 0 0 := by
  unfold b_X12_laysSoft_2 at h
  refine g_iload_n hC dX12_laysSoft_2 rfl (q := 1) rfl ?_
  refine g_aload_n hC dX12_laysSoft_3 rfl (q := 0) rfl ?_
  refine g_geti hC fd_RX12_289 rfl (by decide) (Or.inl rfl) dX12_laysSoft_4 ?_
  refine g_ic_ge hC dX12_laysSoft_7 (tgt := 40) (by decide) (fun c7 => ?_) (fun c7 => ?_)
  · replace h := (if_pos c7).symm.trans h
    cases h
    exact g_vret hC hE rfl dX12_laysSoft_40 (Nat.zero_le _) (Nat.zero_le _) ⟨rfl, rfl, rfl, rfl, rfl, rfl⟩
  · replace h := (if_neg c7).symm.trans h
    refine g_aload_n hC dX12_laysSoft_10 rfl (q := 0) rfl ?_
    refine g_getr hC fd_RX12_81 rfl (by decide) (C0 := "") (t0 := _) (Or.inr rfl) (rr_75_49 hW.1) dX12_laysSoft_11 ?_
    refine g_iload_n hC dX12_laysSoft_14 rfl (q := 1) rfl ?_
    refine g_aload_n hC dX12_laysSoft_15 rfl (q := 0) rfl ?_
    refine g_iconst hC dX12_laysSoft_16 (v := (0 : Int32)) (by decide) ?_
    refine g_iload_n hC dX12_laysSoft_17 rfl (q := 1) rfl ?_
    obtain ⟨r18, h18, h⟩ := oB_some h
    refine g_cV1 hC cv_X12_hangs wd_2004 ⟨Nat.le_of_ble_eq_true rfl, Nat.le_of_ble_eq_true rfl⟩ rfl (by decide) dX12_laysSoft_18 (As := [.int (0 : Int32), .int v1]) (st := [.int v1, .ref (mB E + 94)]) (ok_X12_hangs hC.2.2.2.2.2.2.2.1 hW h18) rfl rfl (Nat.le_of_ble_eq_true rfl) ⟨Nat.zero_le _, Nat.zero_le _⟩ ?_
    refine g_if_eq hC dX12_laysSoft_21 (tgt := 32) (by decide) (fun c21 => ?_) (fun c21 => ?_)
    · replace h := (if_pos c21).symm.trans h
      refine g_iconst hC dX12_laysSoft_32 (v := (-1 : Int32)) (by decide) ?_
      obtain ⟨g33, h⟩ := oG_some h
      refine g_iast hC rfl (by decide) (inB_in g33) dX12_laysSoft_33 (nm_e ?_)
      refine g_iinc hC dX12_laysSoft_34 rfl (q := 1) rfl (w := (v1 + (1 : Int32))) rfl (by decide) (lv' := [(1, .int (v1 + (1 : Int32))), (0, .ref (mB E + 75))]) rfl ?_
      refine g_goto hC dX12_laysSoft_37 (tgt := 2) (by decide) ?_
      refine g_lv [1, 0] rfl ?_
      exact hk2_ (v1 + (1 : Int32)) (mU I 94 (v1).toNatClampNeg (-1 : Int32)) h
    · replace h := (if_neg c21).symm.trans h
      refine g_aload_n hC dX12_laysSoft_24 rfl (q := 0) rfl ?_
      refine g_iload_n hC dX12_laysSoft_25 rfl (q := 1) rfl ?_
      obtain ⟨r26, h26, h⟩ := oB_some h
      refine g_cV1 hC cv_X12_softIn wd_2118 ⟨Nat.le_of_ble_eq_true rfl, Nat.le_of_ble_eq_true rfl⟩ rfl (by decide) dX12_laysSoft_26 (As := [.int v1]) (st := [.int v1, .ref (mB E + 94)]) (ok_X12_softIn hC.2.2.2.2.2.2.2.1 hW h26) rfl rfl (Nat.le_of_ble_eq_true rfl) ⟨Nat.zero_le _, Nat.zero_le _⟩ ?_
      refine g_goto hC dX12_laysSoft_29 (tgt := 33) (by decide) ?_
      obtain ⟨g33, h⟩ := oG_some h
      refine g_iast hC rfl (by decide) (inB_in g33) dX12_laysSoft_33 (nm_e ?_)
      refine g_iinc hC dX12_laysSoft_34 rfl (q := 1) rfl (w := (v1 + (1 : Int32))) rfl (by decide) (lv' := [(1, .int (v1 + (1 : Int32))), (0, .ref (mB E + 75))]) rfl ?_
      refine g_goto hC dX12_laysSoft_37 (tgt := 2) (by decide) ?_
      refine g_lv [1, 0] rfl ?_
      exact hk2_ (v1 + (1 : Int32)) (mU r26.2 94 (v1).toNatClampNeg r26.1) h
noncomputable def w_X12_laysSoft_2 (Fu : Nat)  (N : Nat) (v1 : Int32) (I : mIT) : Option (mIT) :=
  loopF (fun self (s : Int32 × mIT) => b_X12_laysSoft_2 Fu self s.1 s.2) N (v1, I)
theorem wo_X12_laysSoft_2 {X : mXT} {E : mEn} {Fu : Nat} {R : mRT} {L : mLT}  (hC : mC X E mX12_laysSoft RX12 cX12_laysSoft) (hW : mWd R)   {out : mIT} (hE : mEd X E 0 0 (mSame none 106 1 (out) R L))  (N : Nat) (v1 : Int32) (I : mIT) (h : w_X12_laysSoft_2 Fu  N v1 I = some out) : mG X E 2 [(0, .ref (mB E + 75)), (1, .int v1)] [] 106 1 I R L 0 0 :=
  loopF_ok (Gd := fun s : Int32 × mIT => mG X E 2 [(0, .ref (mB E + 75)), (1, .int s.1)] [] 106 1 s.2 R L 0 0) (fun self hs s h => bo_X12_laysSoft_2 hC hW hE self (fun v1 I h => hs (v1, I) h) s.1 s.2 h) N (v1, I) h
noncomputable def f_X12_laysSoft (Fu : Nat) (I : mIT)  : Option (mIT) :=
  w_X12_laysSoft_2 Fu Fu (0 : Int32) I
set_option maxRecDepth 20000 in
theorem ok_X12_laysSoft {l : Launch} {E : mEn} {Fu : Nat} {I : mIT} {R : mRT} {L : mLT}  (hst : l.stackTraces = false) (hW : mWd R)  {out : mIT} (h : f_X12_laysSoft Fu I  = some out) : mOk l E mX12_laysSoft [.ref (mB E + 75)] 106 1 I R L 0 0 (mSame none 106 1 (out) R L) := by
  refine mOk_of hst (by decide) (Nat.le_of_ble_eq_true rfl) (fun X hC hE _ => ?_)
  have hC : mC X E mX12_laysSoft RX12 cX12_laysSoft := hC
  show mG X E 0 [(0, .ref (mB E + 75))] [] 106 1 I R L 0 0
  unfold f_X12_laysSoft at h
  refine g_iconst hC dX12_laysSoft_0 (v := (0 : Int32)) (by decide) ?_
  refine g_istore_n hC dX12_laysSoft_1 rfl rfl (by decide) (lv' := [(1, .int (0 : Int32)), (0, .ref (mB E + 75))]) rfl ?_
  refine g_lv [1, 0] rfl ?_
  exact wo_X12_laysSoft_2 hC hW hE Fu ((0 : Int32)) (I) h
noncomputable def b_X12_placeOf_2 (Fu : Nat) (I : mIT) (k2_ : Int32 × Int32 × Int32 → Option (Int32)) (v1 : Int32) (v2 : Int32) (v3 : Int32) : Option (Int32) :=
  if v2 ≤ v3 then (some (-1 : Int32)) else (oG (inB v3 6) (oG (inB (I 95 (v3).toNatClampNeg) 6) (if (I 93 ((I 95 (v3).toNatClampNeg)).toNatClampNeg) = v1 then (some (v3)) else (k2_ (v1, v2, (v3 + (1 : Int32)))))))
set_option maxRecDepth 20000 in
theorem bo_X12_placeOf_2 {X : mXT} {E : mEn} {Fu : Nat} {I : mIT} {R : mRT} {L : mLT}  (hC : mC X E mX12_placeOf RX12 cX12_placeOf) (hW : mWd R)   {out : Int32} (hE : mEd X E 0 0 (mSame (some (.int (out))) 106 1 I R L)) (k2_ : Int32 × Int32 × Int32 → Option (Int32)) (hk2_ : ∀ (v1 : Int32) (v2 : Int32) (v3 : Int32),  k2_ (v1, v2, v3) = some out → mG X E 2 [(0, .ref (mB E + 75)), (1, .int v1), (2, .int v2), (3, .int v3)] [] 106 1 I R L 0 0) (v1 : Int32) (v2 : Int32) (v3 : Int32) (h : b_X12_placeOf_2 Fu I k2_ v1 v2 v3 = some out) : mG X E 2 [(0, .ref (mB E + 75)), (1, .int v1), (2, .int v2), (3, .int v3)] [] 106 1 I R L 0 0 := by
  unfold b_X12_placeOf_2 at h
  refine g_iload_n hC dX12_placeOf_2 rfl (q := 3) rfl ?_
  refine g_iload_n hC dX12_placeOf_3 rfl (q := 2) rfl ?_
  refine g_ic_ge hC dX12_placeOf_4 (tgt := 30) (by decide) (fun c4 => ?_) (fun c4 => ?_)
  · replace h := (if_pos c4).symm.trans h
    refine g_iconst hC dX12_placeOf_30 (v := (-1 : Int32)) (by decide) ?_
    cases h
    exact g_iret hC hE rfl dX12_placeOf_31 (Nat.zero_le _) (Nat.zero_le _) ⟨rfl, rfl, rfl, rfl, rfl, rfl⟩
  · replace h := (if_neg c4).symm.trans h
    refine g_aload_n hC dX12_placeOf_7 rfl (q := 0) rfl ?_
    refine g_getr hC fd_RX12_78 rfl (by decide) (C0 := "") (t0 := _) (Or.inr rfl) (rr_75_48 hW.1) dX12_placeOf_8 ?_
    refine g_aload_n hC dX12_placeOf_11 rfl (q := 0) rfl ?_
    refine g_getr hC fd_RX12_84 rfl (by decide) (C0 := "") (t0 := _) (Or.inr rfl) (rr_75_50 hW.1) dX12_placeOf_12 ?_
    refine g_iload_n hC dX12_placeOf_15 rfl (q := 3) rfl ?_
    obtain ⟨g16, h⟩ := oG_some h
    refine g_iald hC rfl (by decide) (inB_in g16) dX12_placeOf_16 ?_
    obtain ⟨g17, h⟩ := oG_some h
    refine g_iald hC rfl (by decide) (inB_in g17) dX12_placeOf_17 ?_
    refine g_iload_n hC dX12_placeOf_18 rfl (q := 1) rfl ?_
    refine g_ic_ne hC dX12_placeOf_19 (tgt := 24) (by decide) (fun c19 => ?_) (fun c19 => ?_)
    · replace h := (if_neg c19).symm.trans h
      refine g_iinc hC dX12_placeOf_24 rfl (q := 3) rfl (w := (v3 + (1 : Int32))) rfl (by decide) (lv' := [(3, .int (v3 + (1 : Int32))), (0, .ref (mB E + 75)), (1, .int v1), (2, .int v2)]) rfl ?_
      refine g_goto hC dX12_placeOf_27 (tgt := 2) (by decide) ?_
      refine g_lv [1, 2, 3, 0] rfl ?_
      exact hk2_ v1 v2 (v3 + (1 : Int32)) h
    · replace h := (if_pos c19).symm.trans h
      refine g_iload_n hC dX12_placeOf_22 rfl (q := 3) rfl ?_
      cases h
      exact g_iret hC hE rfl dX12_placeOf_23 (Nat.zero_le _) (Nat.zero_le _) ⟨rfl, rfl, rfl, rfl, rfl, rfl⟩
noncomputable def w_X12_placeOf_2 (Fu : Nat) (I : mIT)  (N : Nat) (v1 : Int32) (v2 : Int32) (v3 : Int32) : Option (Int32) :=
  loopF (fun self (s : Int32 × Int32 × Int32) => b_X12_placeOf_2 Fu I self s.1 s.2.1 s.2.2) N (v1, v2, v3)
theorem wo_X12_placeOf_2 {X : mXT} {E : mEn} {Fu : Nat} {I : mIT} {R : mRT} {L : mLT}  (hC : mC X E mX12_placeOf RX12 cX12_placeOf) (hW : mWd R)   {out : Int32} (hE : mEd X E 0 0 (mSame (some (.int (out))) 106 1 I R L))  (N : Nat) (v1 : Int32) (v2 : Int32) (v3 : Int32) (h : w_X12_placeOf_2 Fu I  N v1 v2 v3 = some out) : mG X E 2 [(0, .ref (mB E + 75)), (1, .int v1), (2, .int v2), (3, .int v3)] [] 106 1 I R L 0 0 :=
  loopF_ok (Gd := fun s : Int32 × Int32 × Int32 => mG X E 2 [(0, .ref (mB E + 75)), (1, .int s.1), (2, .int s.2.1), (3, .int s.2.2)] [] 106 1 I R L 0 0) (fun self hs s h => bo_X12_placeOf_2 hC hW hE self (fun v1 v2 v3 h => hs (v1, v2, v3) h) s.1 s.2.1 s.2.2 h) N (v1, v2, v3) h
noncomputable def f_X12_placeOf (Fu : Nat) (I : mIT) (v1 : Int32) (v2 : Int32) : Option (Int32) :=
  w_X12_placeOf_2 Fu I Fu v1 v2 (0 : Int32)
set_option maxRecDepth 20000 in
theorem ok_X12_placeOf {l : Launch} {E : mEn} {Fu : Nat} {I : mIT} {R : mRT} {L : mLT} {v1 : Int32} {v2 : Int32} (hst : l.stackTraces = false) (hW : mWd R)  {out : Int32} (h : f_X12_placeOf Fu I v1 v2 = some out) : mOk l E mX12_placeOf [.ref (mB E + 75), .int v1, .int v2] 106 1 I R L 0 0 (mSame (some (.int (out))) 106 1 I R L) := by
  refine mOk_of hst (by decide) (Nat.le_of_ble_eq_true rfl) (fun X hC hE _ => ?_)
  have hC : mC X E mX12_placeOf RX12 cX12_placeOf := hC
  show mG X E 0 [(0, .ref (mB E + 75)), (1, .int v1), (2, .int v2)] [] 106 1 I R L 0 0
  unfold f_X12_placeOf at h
  refine g_iconst hC dX12_placeOf_0 (v := (0 : Int32)) (by decide) ?_
  refine g_istore_n hC dX12_placeOf_1 rfl rfl (by decide) (lv' := [(3, .int (0 : Int32)), (0, .ref (mB E + 75)), (1, .int v1), (2, .int v2)]) rfl ?_
  refine g_lv [1, 2, 3, 0] rfl ?_
  exact wo_X12_placeOf_2 hC hW hE Fu (v1) (v2) ((0 : Int32)) h
noncomputable def b_X12_leads_36 (Fu : Nat) (k36_ : Int32 × Int32 × Int32 × Int32 × mIT → Option (Int32 × mIT)) (v1 : Int32) (v2 : Int32) (v3 : Int32) (v4 : Int32) (I : mIT) : Option (Int32 × mIT) :=
  if v2 ≤ v4 then (some (v3, I)) else (oB (f_X12_ringsMany Fu I v4) (fun r45 => oB (f_X12_placeOf Fu r45.2 v1 r45.1) (fun r55 => if r55 = 0 then (k36_ (v1, v2, (v3 + (1 : Int32)), (v4 + (1 : Int32)), r45.2)) else (k36_ (v1, v2, (v3 + (0 : Int32)), (v4 + (1 : Int32)), r45.2)))))
set_option maxRecDepth 20000 in
theorem bo_X12_leads_36 {X : mXT} {E : mEn} {Fu : Nat} {R : mRT} {L : mLT}  (hC : mC X E mX12_leads RX12 cX12_leads) (hW : mWd R)   {out : Int32 × mIT} (hE : mEd X E 0 0 (mSame (some (.int (out.1))) 106 1 (out.2) R L)) (k36_ : Int32 × Int32 × Int32 × Int32 × mIT → Option (Int32 × mIT)) (hk36_ : ∀ (v1 : Int32) (v2 : Int32) (v3 : Int32) (v4 : Int32) (I : mIT),  k36_ (v1, v2, v3, v4, I) = some out → mG X E 36 [(0, .ref (mB E + 75)), (1, .int v1), (2, .int v2), (3, .int v3), (4, .int v4)] [] 106 1 I R L 0 0) (v1 : Int32) (v2 : Int32) (v3 : Int32) (v4 : Int32) (I : mIT) (h : b_X12_leads_36 Fu k36_ v1 v2 v3 v4 I = some out) : mG X E 36 [(0, .ref (mB E + 75)), (1, .int v1), (2, .int v2), (3, .int v3), (4, .int v4)] [] 106 1 I R L 0 0 := by
  unfold b_X12_leads_36 at h
  refine g_iload hC dX12_leads_36 (q := 4) rfl ?_
  refine g_iload_n hC dX12_leads_38 rfl (q := 2) rfl ?_
  refine g_ic_ge hC dX12_leads_39 (tgt := 74) (by decide) (fun c39 => ?_) (fun c39 => ?_)
  · replace h := (if_pos c39).symm.trans h
    refine g_iload_n hC dX12_leads_74 rfl (q := 3) rfl ?_
    cases h
    exact g_iret hC hE rfl dX12_leads_75 (Nat.zero_le _) (Nat.zero_le _) ⟨rfl, rfl, rfl, rfl, rfl, rfl⟩
  · replace h := (if_neg c39).symm.trans h
    refine g_aload_n hC dX12_leads_42 rfl (q := 0) rfl ?_
    refine g_iload hC dX12_leads_43 (q := 4) rfl ?_
    obtain ⟨r45, h45, h⟩ := oB_some h
    refine g_cV1 hC cv_X12_ringsMany wd_2154 ⟨Nat.le_of_ble_eq_true rfl, Nat.le_of_ble_eq_true rfl⟩ rfl (by decide) dX12_leads_45 (As := [.int v4]) (st := []) (ok_X12_ringsMany hC.2.2.2.2.2.2.2.1 hW h45) rfl rfl (Nat.le_of_ble_eq_true rfl) ⟨Nat.zero_le _, Nat.zero_le _⟩ ?_
    refine g_istore hC dX12_leads_48 rfl (by decide) (lv' := [(5, .int r45.1), (0, .ref (mB E + 75)), (1, .int v1), (2, .int v2), (3, .int v3), (4, .int v4)]) rfl ?_
    refine g_iload_n hC dX12_leads_50 rfl (q := 4) rfl ?_
    refine g_aload_n hC dX12_leads_51 rfl (q := 1) rfl ?_
    refine g_iload_n hC dX12_leads_52 rfl (q := 2) rfl ?_
    refine g_iload hC dX12_leads_53 (q := 0) rfl ?_
    obtain ⟨r55, h55, h⟩ := oB_some h
    refine g_cV1 hC cv_X12_placeOf wd_2294 ⟨Nat.le_of_ble_eq_true rfl, Nat.le_of_ble_eq_true rfl⟩ rfl (by decide) dX12_leads_55 (As := [.int v1, .int r45.1]) (st := [.int v3]) (ok_X12_placeOf hC.2.2.2.2.2.2.2.1 hW h55) rfl rfl (Nat.le_of_ble_eq_true rfl) ⟨Nat.zero_le _, Nat.zero_le _⟩ ?_
    refine g_if_ne hC dX12_leads_58 (tgt := 65) (by decide) (fun c58 => ?_) (fun c58 => ?_)
    · replace h := (if_neg c58).symm.trans h
      refine g_iconst hC dX12_leads_65 (v := (0 : Int32)) (by decide) ?_
      refine g_iadd hC dX12_leads_66 ?_
      refine g_istore_n hC dX12_leads_67 rfl rfl (by decide) (lv' := [(3, .int (v3 + (0 : Int32))), (5, .int r45.1), (0, .ref (mB E + 75)), (1, .int v1), (2, .int v2), (4, .int v4)]) rfl ?_
      refine g_iinc hC dX12_leads_68 rfl (q := 5) rfl (w := (v4 + (1 : Int32))) rfl (by decide) (lv' := [(4, .int (v4 + (1 : Int32))), (3, .int (v3 + (0 : Int32))), (5, .int r45.1), (0, .ref (mB E + 75)), (1, .int v1), (2, .int v2)]) rfl ?_
      refine g_goto hC dX12_leads_71 (tgt := 36) (by decide) ?_
      refine g_lv [3, 4, 5, 1, 0] rfl ?_
      exact hk36_ v1 v2 (v3 + (0 : Int32)) (v4 + (1 : Int32)) r45.2 h
    · replace h := (if_pos c58).symm.trans h
      refine g_iconst hC dX12_leads_61 (v := (1 : Int32)) (by decide) ?_
      refine g_goto hC dX12_leads_62 (tgt := 66) (by decide) ?_
      refine g_iadd hC dX12_leads_66 ?_
      refine g_istore_n hC dX12_leads_67 rfl rfl (by decide) (lv' := [(3, .int (v3 + (1 : Int32))), (5, .int r45.1), (0, .ref (mB E + 75)), (1, .int v1), (2, .int v2), (4, .int v4)]) rfl ?_
      refine g_iinc hC dX12_leads_68 rfl (q := 5) rfl (w := (v4 + (1 : Int32))) rfl (by decide) (lv' := [(4, .int (v4 + (1 : Int32))), (3, .int (v3 + (1 : Int32))), (5, .int r45.1), (0, .ref (mB E + 75)), (1, .int v1), (2, .int v2)]) rfl ?_
      refine g_goto hC dX12_leads_71 (tgt := 36) (by decide) ?_
      refine g_lv [3, 4, 5, 1, 0] rfl ?_
      exact hk36_ v1 v2 (v3 + (1 : Int32)) (v4 + (1 : Int32)) r45.2 h
noncomputable def w_X12_leads_36 (Fu : Nat)  (N : Nat) (v1 : Int32) (v2 : Int32) (v3 : Int32) (v4 : Int32) (I : mIT) : Option (Int32 × mIT) :=
  loopF (fun self (s : Int32 × Int32 × Int32 × Int32 × mIT) => b_X12_leads_36 Fu self s.1 s.2.1 s.2.2.1 s.2.2.2.1 s.2.2.2.2) N (v1, v2, v3, v4, I)
theorem wo_X12_leads_36 {X : mXT} {E : mEn} {Fu : Nat} {R : mRT} {L : mLT}  (hC : mC X E mX12_leads RX12 cX12_leads) (hW : mWd R)   {out : Int32 × mIT} (hE : mEd X E 0 0 (mSame (some (.int (out.1))) 106 1 (out.2) R L))  (N : Nat) (v1 : Int32) (v2 : Int32) (v3 : Int32) (v4 : Int32) (I : mIT) (h : w_X12_leads_36 Fu  N v1 v2 v3 v4 I = some out) : mG X E 36 [(0, .ref (mB E + 75)), (1, .int v1), (2, .int v2), (3, .int v3), (4, .int v4)] [] 106 1 I R L 0 0 :=
  loopF_ok (Gd := fun s : Int32 × Int32 × Int32 × Int32 × mIT => mG X E 36 [(0, .ref (mB E + 75)), (1, .int s.1), (2, .int s.2.1), (3, .int s.2.2.1), (4, .int s.2.2.2.1)] [] 106 1 s.2.2.2.2 R L 0 0) (fun self hs s h => bo_X12_leads_36 hC hW hE self (fun v1 v2 v3 v4 I h => hs (v1, v2, v3, v4, I) h) s.1 s.2.1 s.2.2.1 s.2.2.2.1 s.2.2.2.2 h) N (v1, v2, v3, v4, I) h
noncomputable def f_X12_leads (Fu : Nat) (I : mIT) (v1 : Int32) : Option (Int32 × mIT) :=
  oB (f_X12_isRoot Fu (mU I 75 0 (0 : Int32)) v1) (fun r7 => if r7.1 = 0 then (some ((0 : Int32), r7.2)) else (if (r7.2 75 5) = 0 then (some ((0 : Int32), r7.2)) else (oB (f_X12_bells Fu r7.2) (fun r24 => oB (f_X12_lengthNow Fu r24.2 r24.1) (fun r27 => w_X12_leads_36 Fu Fu v1 r27.1 (0 : Int32) (0 : Int32) r27.2)))))
set_option maxRecDepth 20000 in
theorem ok_X12_leads {l : Launch} {E : mEn} {Fu : Nat} {I : mIT} {R : mRT} {L : mLT} {v1 : Int32} (hst : l.stackTraces = false) (hW : mWd R)  {out : Int32 × mIT} (h : f_X12_leads Fu I v1 = some out) : mOk l E mX12_leads [.ref (mB E + 75), .int v1] 106 1 I R L 0 0 (mSame (some (.int (out.1))) 106 1 (out.2) R L) := by
  refine mOk_of hst (by decide) (Nat.le_of_ble_eq_true rfl) (fun X hC hE _ => ?_)
  have hC : mC X E mX12_leads RX12 cX12_leads := hC
  show mG X E 0 [(0, .ref (mB E + 75)), (1, .int v1)] [] 106 1 I R L 0 0
  unfold f_X12_leads at h
  refine g_aload_n hC dX12_leads_0 rfl (q := 0) rfl ?_
  refine g_iconst hC dX12_leads_1 (v := (0 : Int32)) (by decide) ?_
  refine g_puti hC fd_RX12_114 rfl (by decide) rfl dX12_leads_2 (nm_e ?_)
  refine g_aload_n hC dX12_leads_5 rfl (q := 0) rfl ?_
  refine g_iload_n hC dX12_leads_6 rfl (q := 1) rfl ?_
  obtain ⟨r7, h7, h⟩ := oB_some h
  refine g_cV1 hC cv_X12_isRoot wd_2034 ⟨Nat.le_of_ble_eq_true rfl, Nat.le_of_ble_eq_true rfl⟩ rfl (by decide) dX12_leads_7 (As := [.int v1]) (st := []) (ok_X12_isRoot hC.2.2.2.2.2.2.2.1 hW h7) rfl rfl (Nat.le_of_ble_eq_true rfl) ⟨Nat.zero_le _, Nat.zero_le _⟩ ?_
  refine g_if_eq hC dX12_leads_10 (tgt := 20) (by decide) (fun c10 => ?_) (fun c10 => ?_)
  · replace h := (if_pos c10).symm.trans h
    refine g_iconst hC dX12_leads_20 (v := (0 : Int32)) (by decide) ?_
    cases h
    exact g_iret hC hE rfl dX12_leads_21 (Nat.zero_le _) (Nat.zero_le _) ⟨rfl, rfl, rfl, rfl, rfl, rfl⟩
  · replace h := (if_neg c10).symm.trans h
    refine g_aload_n hC dX12_leads_13 rfl (q := 0) rfl ?_
    refine g_geti hC fd_RX12_298 rfl (by decide) (Or.inl rfl) dX12_leads_14 ?_
    refine g_if_ne hC dX12_leads_17 (tgt := 22) (by decide) (fun c17 => ?_) (fun c17 => ?_)
    · replace h := (if_neg c17).symm.trans h
      refine g_aload_n hC dX12_leads_22 rfl (q := 0) rfl ?_
      refine g_aload_n hC dX12_leads_23 rfl (q := 0) rfl ?_
      obtain ⟨r24, h24, h⟩ := oB_some h
      refine g_cV1 hC cv_X12_bells wd_1984 ⟨Nat.le_of_ble_eq_true rfl, Nat.le_of_ble_eq_true rfl⟩ rfl (by decide) dX12_leads_24 (As := []) (st := [.ref (mB E + 75)]) (ok_X12_bells hC.2.2.2.2.2.2.2.1 hW h24) rfl rfl (Nat.le_of_ble_eq_true rfl) ⟨Nat.zero_le _, Nat.zero_le _⟩ ?_
      obtain ⟨r27, h27, h⟩ := oB_some h
      refine g_cV1 hC cv_X12_lengthNow wd_2178 ⟨Nat.le_of_ble_eq_true rfl, Nat.le_of_ble_eq_true rfl⟩ rfl (by decide) dX12_leads_27 (As := [.int r24.1]) (st := []) (ok_X12_lengthNow hC.2.2.2.2.2.2.2.1 hW h27) rfl rfl (Nat.le_of_ble_eq_true rfl) ⟨Nat.zero_le _, Nat.zero_le _⟩ ?_
      refine g_istore_n hC dX12_leads_30 rfl rfl (by decide) (lv' := [(2, .int r27.1), (0, .ref (mB E + 75)), (1, .int v1)]) rfl ?_
      refine g_iconst hC dX12_leads_31 (v := (0 : Int32)) (by decide) ?_
      refine g_istore_n hC dX12_leads_32 rfl rfl (by decide) (lv' := [(3, .int (0 : Int32)), (2, .int r27.1), (0, .ref (mB E + 75)), (1, .int v1)]) rfl ?_
      refine g_iconst hC dX12_leads_33 (v := (0 : Int32)) (by decide) ?_
      refine g_istore hC dX12_leads_34 rfl (by decide) (lv' := [(4, .int (0 : Int32)), (3, .int (0 : Int32)), (2, .int r27.1), (0, .ref (mB E + 75)), (1, .int v1)]) rfl ?_
      refine g_lv [3, 4, 2, 1, 0] rfl ?_
      exact wo_X12_leads_36 hC hW hE Fu (v1) (r27.1) ((0 : Int32)) ((0 : Int32)) (r27.2) h
    · replace h := (if_pos c17).symm.trans h
      refine g_iconst hC dX12_leads_20 (v := (0 : Int32)) (by decide) ?_
      cases h
      exact g_iret hC hE rfl dX12_leads_21 (Nat.zero_le _) (Nat.zero_le _) ⟨rfl, rfl, rfl, rfl, rfl, rfl⟩
noncomputable def f_X12_length (Fu : Nat) (I : mIT)  : Option (Int32 × mIT) :=
  if ((mU I 75 0 (0 : Int32)) 75 5) = 0 then (some ((-1 : Int32), (mU I 75 0 (0 : Int32)))) else (oB (f_X12_bells Fu (mU I 75 0 (0 : Int32))) (fun r18 => oB (f_X12_lengthNow Fu r18.2 r18.1) (fun r21 => some (r21.1, r21.2))))
set_option maxRecDepth 20000 in
theorem ok_X12_length {l : Launch} {E : mEn} {Fu : Nat} {I : mIT} {R : mRT} {L : mLT}  (hst : l.stackTraces = false) (hW : mWd R)  {out : Int32 × mIT} (h : f_X12_length Fu I  = some out) : mOk l E mX12_length [.ref (mB E + 75)] 106 1 I R L 0 0 (mSame (some (.int (out.1))) 106 1 (out.2) R L) := by
  refine mOk_of hst (by decide) (Nat.le_of_ble_eq_true rfl) (fun X hC hE _ => ?_)
  have hC : mC X E mX12_length RX12 cX12_length := hC
  show mG X E 0 [(0, .ref (mB E + 75))] [] 106 1 I R L 0 0
  unfold f_X12_length at h
  refine g_aload_n hC dX12_length_0 rfl (q := 0) rfl ?_
  refine g_iconst hC dX12_length_1 (v := (0 : Int32)) (by decide) ?_
  refine g_puti hC fd_RX12_114 rfl (by decide) rfl dX12_length_2 (nm_e ?_)
  refine g_aload_n hC dX12_length_5 rfl (q := 0) rfl ?_
  refine g_geti hC fd_RX12_298 rfl (by decide) (Or.inl rfl) dX12_length_6 ?_
  refine g_if_ne hC dX12_length_9 (tgt := 16) (by decide) (fun c9 => ?_) (fun c9 => ?_)
  · replace h := (if_neg c9).symm.trans h
    refine g_aload_n hC dX12_length_16 rfl (q := 0) rfl ?_
    refine g_aload_n hC dX12_length_17 rfl (q := 0) rfl ?_
    obtain ⟨r18, h18, h⟩ := oB_some h
    refine g_cV1 hC cv_X12_bells wd_1984 ⟨Nat.le_of_ble_eq_true rfl, Nat.le_of_ble_eq_true rfl⟩ rfl (by decide) dX12_length_18 (As := []) (st := [.ref (mB E + 75)]) (ok_X12_bells hC.2.2.2.2.2.2.2.1 hW h18) rfl rfl (Nat.le_of_ble_eq_true rfl) ⟨Nat.zero_le _, Nat.zero_le _⟩ ?_
    obtain ⟨r21, h21, h⟩ := oB_some h
    refine g_cV1 hC cv_X12_lengthNow wd_2178 ⟨Nat.le_of_ble_eq_true rfl, Nat.le_of_ble_eq_true rfl⟩ rfl (by decide) dX12_length_21 (As := [.int r18.1]) (st := []) (ok_X12_lengthNow hC.2.2.2.2.2.2.2.1 hW h21) rfl rfl (Nat.le_of_ble_eq_true rfl) ⟨Nat.zero_le _, Nat.zero_le _⟩ ?_
    cases h
    exact g_iret hC hE rfl dX12_length_24 (Nat.zero_le _) (Nat.zero_le _) ⟨rfl, rfl, rfl, rfl, rfl, rfl⟩
  · replace h := (if_pos c9).symm.trans h
    refine g_iconst hC dX12_length_12 (v := (-1 : Int32)) (by decide) ?_
    refine g_goto hC dX12_length_13 (tgt := 24) (by decide) ?_
    cases h
    exact g_iret hC hE rfl dX12_length_24 (Nat.zero_le _) (Nat.zero_le _) ⟨rfl, rfl, rfl, rfl, rfl, rfl⟩
noncomputable def b_X12_number_49 (Fu : Nat)  (I : mIT) (L : mLT) : Option (Int32 × mIT × mLT) :=
  oB (f_X12_wrong Fu I (2 : Int32)) (fun r51 => oB (f_X12_isGood Fu r51) (fun r60 => if r60 = 0 then (some ((r51 75 22), r51, L)) else (oB (f_X12_reads Fu r51 L) (fun r67 => some ((r51 75 22), r67.1, r67.2)))))
set_option maxRecDepth 20000 in
theorem bo_X12_number_49 {X : mXT} {E : mEn} {Fu : Nat} {R : mRT}  (hC : mC X E mX12_number RX12 cX12_number) (hW : mWd R)   {out : Int32 × mIT × mLT} (hE : mEd X E 0 0 (mSame (some (.int (out.1))) 106 1 (out.2.1) R (out.2.2)))  (I : mIT) (L : mLT) (h : b_X12_number_49 Fu  I L = some out) : mG X E 49 [(0, .ref (mB E + 75))] [] 106 1 I R L 0 0 := by
  unfold b_X12_number_49 at h
  refine g_aload_n hC dX12_number_49 rfl (q := 0) rfl ?_
  refine g_iconst hC dX12_number_50 (v := (2 : Int32)) (by decide) ?_
  obtain ⟨r51, h51, h⟩ := oB_some h
  refine g_cV0 hC cv_X12_wrong wd_1892 ⟨Nat.le_of_ble_eq_true rfl, Nat.le_of_ble_eq_true rfl⟩ rfl (by decide) dX12_number_51 (As := [.int (2 : Int32)]) (st := []) (ok_X12_wrong hC.2.2.2.2.2.2.2.1 hW h51) rfl rfl (Nat.le_of_ble_eq_true rfl) ⟨Nat.zero_le _, Nat.zero_le _⟩ ?_
  refine g_aload_n hC dX12_number_54 rfl (q := 0) rfl ?_
  refine g_geti hC fd_RX12_141 rfl (by decide) (Or.inl rfl) dX12_number_55 ?_
  refine g_istore_n hC dX12_number_58 rfl rfl (by decide) (lv' := [(3, .int (r51 75 22)), (0, .ref (mB E + 75))]) rfl ?_
  refine g_aload_n hC dX12_number_59 rfl (q := 1) rfl ?_
  obtain ⟨r60, h60, h⟩ := oB_some h
  refine g_cV1 hC cv_X12_isGood wd_1869 ⟨Nat.le_of_ble_eq_true rfl, Nat.le_of_ble_eq_true rfl⟩ rfl (by decide) dX12_number_60 (As := []) (st := []) (ok_X12_isGood hC.2.2.2.2.2.2.2.1 hW h60) rfl rfl (Nat.le_of_ble_eq_true rfl) ⟨Nat.zero_le _, Nat.zero_le _⟩ ?_
  refine g_if_eq hC dX12_number_63 (tgt := 70) (by decide) (fun c63 => ?_) (fun c63 => ?_)
  · replace h := (if_pos c63).symm.trans h
    refine g_iload_n hC dX12_number_70 rfl (q := 0) rfl ?_
    cases h
    exact g_iret hC hE rfl dX12_number_71 (Nat.zero_le _) (Nat.zero_le _) ⟨rfl, rfl, rfl, rfl, rfl, rfl⟩
  · replace h := (if_neg c63).symm.trans h
    refine g_aload_n hC dX12_number_66 rfl (q := 1) rfl ?_
    obtain ⟨r67, h67, h⟩ := oB_some h
    refine g_cV0 hC cv_X12_reads wd_1855 ⟨Nat.le_of_ble_eq_true rfl, Nat.le_of_ble_eq_true rfl⟩ rfl (by decide) dX12_number_67 (As := []) (st := []) (ok_X12_reads hC.2.2.2.2.2.2.2.1 hW h67) rfl rfl (Nat.le_of_ble_eq_true rfl) ⟨Nat.zero_le _, Nat.zero_le _⟩ ?_
    refine g_iload_n hC dX12_number_70 rfl (q := 0) rfl ?_
    cases h
    exact g_iret hC hE rfl dX12_number_71 (Nat.zero_le _) (Nat.zero_le _) ⟨rfl, rfl, rfl, rfl, rfl, rfl⟩
noncomputable def f_X12_number (Fu : Nat) (I : mIT) (L : mLT) (v1 : Int32) (v2 : Int32) : Option (Int32 × mIT × mLT) :=
  oB (f_X12_isGood Fu I) (fun r1 => if r1 = 0 then (some ((0 : Int32), I, L)) else (if (I 75 19) = (2 : Int32) then (if (4 : Int32) < (I 75 21) then (b_X12_number_49 Fu I L) else (if (I 75 22) < v1 then (b_X12_number_49 Fu I L) else (if (I 75 22) ≤ v2 then (oB (f_X12_isGood Fu I) (fun r60 => if r60 = 0 then (some ((I 75 22), I, L)) else (oB (f_X12_reads Fu I L) (fun r67 => some ((I 75 22), r67.1, r67.2))))) else (b_X12_number_49 Fu I L)))) else (oB (f_X12_wrong Fu I (1 : Int32)) (fun r19 => oB (f_X12_isGood Fu r19) (fun r60 => if r60 = 0 then (some ((r19 75 22), r19, L)) else (oB (f_X12_reads Fu r19 L) (fun r67 => some ((r19 75 22), r67.1, r67.2))))))))
set_option maxRecDepth 20000 in
theorem ok_X12_number {l : Launch} {E : mEn} {Fu : Nat} {I : mIT} {R : mRT} {L : mLT} {v1 : Int32} {v2 : Int32} (hst : l.stackTraces = false) (hW : mWd R)  {out : Int32 × mIT × mLT} (h : f_X12_number Fu I L v1 v2 = some out) : mOk l E mX12_number [.ref (mB E + 75), .int v1, .int v2] 106 1 I R L 0 0 (mSame (some (.int (out.1))) 106 1 (out.2.1) R (out.2.2)) := by
  refine mOk_of hst (by decide) (Nat.le_of_ble_eq_true rfl) (fun X hC hE _ => ?_)
  have hC : mC X E mX12_number RX12 cX12_number := hC
  show mG X E 0 [(0, .ref (mB E + 75)), (1, .int v1), (2, .int v2)] [] 106 1 I R L 0 0
  unfold f_X12_number at h
  refine g_aload_n hC dX12_number_0 rfl (q := 0) rfl ?_
  obtain ⟨r1, h1, h⟩ := oB_some h
  refine g_cV1 hC cv_X12_isGood wd_1869 ⟨Nat.le_of_ble_eq_true rfl, Nat.le_of_ble_eq_true rfl⟩ rfl (by decide) dX12_number_1 (As := []) (st := []) (ok_X12_isGood hC.2.2.2.2.2.2.2.1 hW h1) rfl rfl (Nat.le_of_ble_eq_true rfl) ⟨Nat.zero_le _, Nat.zero_le _⟩ ?_
  refine g_if_ne hC dX12_number_4 (tgt := 9) (by decide) (fun c4 => ?_) (fun c4 => ?_)
  · replace h := (if_neg c4).symm.trans h
    refine g_aload_n hC dX12_number_9 rfl (q := 0) rfl ?_
    refine g_geti hC fd_RX12_147 rfl (by decide) (Or.inl rfl) dX12_number_10 ?_
    refine g_iconst hC dX12_number_13 (v := (2 : Int32)) (by decide) ?_
    refine g_ic_eq hC dX12_number_14 (tgt := 25) (by decide) (fun c14 => ?_) (fun c14 => ?_)
    · replace h := (if_pos c14).symm.trans h
      refine g_aload_n hC dX12_number_25 rfl (q := 0) rfl ?_
      refine g_geti hC fd_RX12_157 rfl (by decide) (Or.inl rfl) dX12_number_26 ?_
      refine g_iconst hC dX12_number_29 (v := (4 : Int32)) (by decide) ?_
      refine g_ic_gt hC dX12_number_30 (tgt := 49) (by decide) (fun c30 => ?_) (fun c30 => ?_)
      · replace h := (if_pos c30).symm.trans h
        refine g_lv [0] rfl ?_
        exact bo_X12_number_49 hC hW hE (I) (L) h
      · replace h := (if_neg c30).symm.trans h
        refine g_aload_n hC dX12_number_33 rfl (q := 0) rfl ?_
        refine g_geti hC fd_RX12_141 rfl (by decide) (Or.inl rfl) dX12_number_34 ?_
        refine g_iload_n hC dX12_number_37 rfl (q := 1) rfl ?_
        refine g_ic_lt hC dX12_number_38 (tgt := 49) (by decide) (fun c38 => ?_) (fun c38 => ?_)
        · replace h := (if_pos c38).symm.trans h
          refine g_lv [0] rfl ?_
          exact bo_X12_number_49 hC hW hE (I) (L) h
        · replace h := (if_neg c38).symm.trans h
          refine g_aload_n hC dX12_number_41 rfl (q := 0) rfl ?_
          refine g_geti hC fd_RX12_141 rfl (by decide) (Or.inl rfl) dX12_number_42 ?_
          refine g_iload_n hC dX12_number_45 rfl (q := 2) rfl ?_
          refine g_ic_le hC dX12_number_46 (tgt := 54) (by decide) (fun c46 => ?_) (fun c46 => ?_)
          · replace h := (if_pos c46).symm.trans h
            refine g_aload_n hC dX12_number_54 rfl (q := 0) rfl ?_
            refine g_geti hC fd_RX12_141 rfl (by decide) (Or.inl rfl) dX12_number_55 ?_
            refine g_istore_n hC dX12_number_58 rfl rfl (by decide) (lv' := [(3, .int (I 75 22)), (0, .ref (mB E + 75)), (1, .int v1), (2, .int v2)]) rfl ?_
            refine g_aload_n hC dX12_number_59 rfl (q := 1) rfl ?_
            obtain ⟨r60, h60, h⟩ := oB_some h
            refine g_cV1 hC cv_X12_isGood wd_1869 ⟨Nat.le_of_ble_eq_true rfl, Nat.le_of_ble_eq_true rfl⟩ rfl (by decide) dX12_number_60 (As := []) (st := []) (ok_X12_isGood hC.2.2.2.2.2.2.2.1 hW h60) rfl rfl (Nat.le_of_ble_eq_true rfl) ⟨Nat.zero_le _, Nat.zero_le _⟩ ?_
            refine g_if_eq hC dX12_number_63 (tgt := 70) (by decide) (fun c63 => ?_) (fun c63 => ?_)
            · replace h := (if_pos c63).symm.trans h
              refine g_iload_n hC dX12_number_70 rfl (q := 0) rfl ?_
              cases h
              exact g_iret hC hE rfl dX12_number_71 (Nat.zero_le _) (Nat.zero_le _) ⟨rfl, rfl, rfl, rfl, rfl, rfl⟩
            · replace h := (if_neg c63).symm.trans h
              refine g_aload_n hC dX12_number_66 rfl (q := 1) rfl ?_
              obtain ⟨r67, h67, h⟩ := oB_some h
              refine g_cV0 hC cv_X12_reads wd_1855 ⟨Nat.le_of_ble_eq_true rfl, Nat.le_of_ble_eq_true rfl⟩ rfl (by decide) dX12_number_67 (As := []) (st := []) (ok_X12_reads hC.2.2.2.2.2.2.2.1 hW h67) rfl rfl (Nat.le_of_ble_eq_true rfl) ⟨Nat.zero_le _, Nat.zero_le _⟩ ?_
              refine g_iload_n hC dX12_number_70 rfl (q := 0) rfl ?_
              cases h
              exact g_iret hC hE rfl dX12_number_71 (Nat.zero_le _) (Nat.zero_le _) ⟨rfl, rfl, rfl, rfl, rfl, rfl⟩
          · replace h := (if_neg c46).symm.trans h
            refine g_lv [0] rfl ?_
            exact bo_X12_number_49 hC hW hE (I) (L) h
    · replace h := (if_neg c14).symm.trans h
      refine g_aload_n hC dX12_number_17 rfl (q := 0) rfl ?_
      refine g_iconst hC dX12_number_18 (v := (1 : Int32)) (by decide) ?_
      obtain ⟨r19, h19, h⟩ := oB_some h
      refine g_cV0 hC cv_X12_wrong wd_1892 ⟨Nat.le_of_ble_eq_true rfl, Nat.le_of_ble_eq_true rfl⟩ rfl (by decide) dX12_number_19 (As := [.int (1 : Int32)]) (st := []) (ok_X12_wrong hC.2.2.2.2.2.2.2.1 hW h19) rfl rfl (Nat.le_of_ble_eq_true rfl) ⟨Nat.zero_le _, Nat.zero_le _⟩ ?_
      refine g_goto hC dX12_number_22 (tgt := 54) (by decide) ?_
      refine g_aload_n hC dX12_number_54 rfl (q := 0) rfl ?_
      refine g_geti hC fd_RX12_141 rfl (by decide) (Or.inl rfl) dX12_number_55 ?_
      refine g_istore_n hC dX12_number_58 rfl rfl (by decide) (lv' := [(3, .int (r19 75 22)), (0, .ref (mB E + 75)), (1, .int v1), (2, .int v2)]) rfl ?_
      refine g_aload_n hC dX12_number_59 rfl (q := 1) rfl ?_
      obtain ⟨r60, h60, h⟩ := oB_some h
      refine g_cV1 hC cv_X12_isGood wd_1869 ⟨Nat.le_of_ble_eq_true rfl, Nat.le_of_ble_eq_true rfl⟩ rfl (by decide) dX12_number_60 (As := []) (st := []) (ok_X12_isGood hC.2.2.2.2.2.2.2.1 hW h60) rfl rfl (Nat.le_of_ble_eq_true rfl) ⟨Nat.zero_le _, Nat.zero_le _⟩ ?_
      refine g_if_eq hC dX12_number_63 (tgt := 70) (by decide) (fun c63 => ?_) (fun c63 => ?_)
      · replace h := (if_pos c63).symm.trans h
        refine g_iload_n hC dX12_number_70 rfl (q := 0) rfl ?_
        cases h
        exact g_iret hC hE rfl dX12_number_71 (Nat.zero_le _) (Nat.zero_le _) ⟨rfl, rfl, rfl, rfl, rfl, rfl⟩
      · replace h := (if_neg c63).symm.trans h
        refine g_aload_n hC dX12_number_66 rfl (q := 1) rfl ?_
        obtain ⟨r67, h67, h⟩ := oB_some h
        refine g_cV0 hC cv_X12_reads wd_1855 ⟨Nat.le_of_ble_eq_true rfl, Nat.le_of_ble_eq_true rfl⟩ rfl (by decide) dX12_number_67 (As := []) (st := []) (ok_X12_reads hC.2.2.2.2.2.2.2.1 hW h67) rfl rfl (Nat.le_of_ble_eq_true rfl) ⟨Nat.zero_le _, Nat.zero_le _⟩ ?_
        refine g_iload_n hC dX12_number_70 rfl (q := 0) rfl ?_
        cases h
        exact g_iret hC hE rfl dX12_number_71 (Nat.zero_le _) (Nat.zero_le _) ⟨rfl, rfl, rfl, rfl, rfl, rfl⟩
  · replace h := (if_pos c4).symm.trans h
    refine g_iconst hC dX12_number_7 (v := (0 : Int32)) (by decide) ?_
    cases h
    exact g_iret hC hE rfl dX12_number_8 (Nat.zero_le _) (Nat.zero_le _) ⟨rfl, rfl, rfl, rfl, rfl, rfl⟩
noncomputable def b_X12_readsRoot_160 (Fu : Nat)  (v2 : Int32) (I : mIT) (L : mLT) : Option (mIT × mLT) :=
  oG (inB ((31 : Int32) + v2) 53) (oB (f_X12_isGood Fu (mU I 85 (((31 : Int32) + v2)).toNatClampNeg (I 75 22))) (fun r174 => if r174 = 0 then (oB (f_X12_isGood Fu (mU I 85 (((31 : Int32) + v2)).toNatClampNeg (I 75 22))) (fun r185 => if r185 = 0 then (some ((mU I 85 (((31 : Int32) + v2)).toNatClampNeg (I 75 22)), L)) else (some ((mU (mU I 85 (((31 : Int32) + v2)).toNatClampNeg (I 75 22)) 75 25 (((mU I 85 (((31 : Int32) + v2)).toNatClampNeg (I 75 22)) 75 25) + (1 : Int32))), L)))) else (oB (f_X12_reads Fu (mU I 85 (((31 : Int32) + v2)).toNatClampNeg (I 75 22)) L) (fun r181 => oB (f_X12_isGood Fu r181.1) (fun r185 => if r185 = 0 then (some (r181.1, r181.2)) else (some ((mU r181.1 75 25 ((r181.1 75 25) + (1 : Int32))), r181.2)))))))
set_option maxRecDepth 20000 in
theorem bo_X12_readsRoot_160 {X : mXT} {E : mEn} {Fu : Nat} {R : mRT}  (hC : mC X E mX12_readsRoot RX12 cX12_readsRoot) (hW : mWd R)   {out : mIT × mLT} (hE : mEd X E 0 0 (mSame none 106 1 (out.1) R (out.2)))  (v2 : Int32) (I : mIT) (L : mLT) (h : b_X12_readsRoot_160 Fu  v2 I L = some out) : mG X E 160 [(0, .ref (mB E + 75)), (2, .int v2)] [] 106 1 I R L 0 0 := by
  unfold b_X12_readsRoot_160 at h
  refine g_aload_n hC dX12_readsRoot_160 rfl (q := 0) rfl ?_
  refine g_getr hC fd_RX12_50 rfl (by decide) (C0 := "") (t0 := _) (Or.inr rfl) (rr_75_38 hW.1) dX12_readsRoot_161 ?_
  refine g_bipush hC dX12_readsRoot_164 (v := (31 : Int32)) (by decide) ?_
  refine g_iload_n hC dX12_readsRoot_166 rfl (q := 1) rfl ?_
  refine g_iadd hC dX12_readsRoot_167 ?_
  refine g_aload_n hC dX12_readsRoot_168 rfl (q := 0) rfl ?_
  refine g_geti hC fd_RX12_141 rfl (by decide) (Or.inl rfl) dX12_readsRoot_169 ?_
  obtain ⟨g172, h⟩ := oG_some h
  refine g_iast hC rfl (by decide) (inB_in g172) dX12_readsRoot_172 (nm_e ?_)
  refine g_aload_n hC dX12_readsRoot_173 rfl (q := 0) rfl ?_
  obtain ⟨r174, h174, h⟩ := oB_some h
  refine g_cV1 hC cv_X12_isGood wd_1869 ⟨Nat.le_of_ble_eq_true rfl, Nat.le_of_ble_eq_true rfl⟩ rfl (by decide) dX12_readsRoot_174 (As := []) (st := []) (ok_X12_isGood hC.2.2.2.2.2.2.2.1 hW h174) rfl rfl (Nat.le_of_ble_eq_true rfl) ⟨Nat.zero_le _, Nat.zero_le _⟩ ?_
  refine g_if_eq hC dX12_readsRoot_177 (tgt := 184) (by decide) (fun c177 => ?_) (fun c177 => ?_)
  · replace h := (if_pos c177).symm.trans h
    refine g_aload_n hC dX12_readsRoot_184 rfl (q := 0) rfl ?_
    obtain ⟨r185, h185, h⟩ := oB_some h
    refine g_cV1 hC cv_X12_isGood wd_1869 ⟨Nat.le_of_ble_eq_true rfl, Nat.le_of_ble_eq_true rfl⟩ rfl (by decide) dX12_readsRoot_185 (As := []) (st := []) (ok_X12_isGood hC.2.2.2.2.2.2.2.1 hW h185) rfl rfl (Nat.le_of_ble_eq_true rfl) ⟨Nat.zero_le _, Nat.zero_le _⟩ ?_
    refine g_if_eq hC dX12_readsRoot_188 (tgt := 201) (by decide) (fun c188 => ?_) (fun c188 => ?_)
    · replace h := (if_pos c188).symm.trans h
      cases h
      exact g_vret hC hE rfl dX12_readsRoot_201 (Nat.zero_le _) (Nat.zero_le _) ⟨rfl, rfl, rfl, rfl, rfl, rfl⟩
    · replace h := (if_neg c188).symm.trans h
      refine g_aload_n hC dX12_readsRoot_191 rfl (q := 0) rfl ?_
      refine g_dup hC dX12_readsRoot_192 rfl ?_
      refine g_geti hC fd_RX12_230 rfl (by decide) (Or.inl rfl) dX12_readsRoot_193 ?_
      refine g_iconst hC dX12_readsRoot_196 (v := (1 : Int32)) (by decide) ?_
      refine g_iadd hC dX12_readsRoot_197 ?_
      refine g_puti hC fd_RX12_230 rfl (by decide) rfl dX12_readsRoot_198 (nm_e ?_)
      cases h
      exact g_vret hC hE rfl dX12_readsRoot_201 (Nat.zero_le _) (Nat.zero_le _) ⟨rfl, rfl, rfl, rfl, rfl, rfl⟩
  · replace h := (if_neg c177).symm.trans h
    refine g_aload_n hC dX12_readsRoot_180 rfl (q := 0) rfl ?_
    obtain ⟨r181, h181, h⟩ := oB_some h
    refine g_cV0 hC cv_X12_reads wd_1855 ⟨Nat.le_of_ble_eq_true rfl, Nat.le_of_ble_eq_true rfl⟩ rfl (by decide) dX12_readsRoot_181 (As := []) (st := []) (ok_X12_reads hC.2.2.2.2.2.2.2.1 hW h181) rfl rfl (Nat.le_of_ble_eq_true rfl) ⟨Nat.zero_le _, Nat.zero_le _⟩ ?_
    refine g_aload_n hC dX12_readsRoot_184 rfl (q := 0) rfl ?_
    obtain ⟨r185, h185, h⟩ := oB_some h
    refine g_cV1 hC cv_X12_isGood wd_1869 ⟨Nat.le_of_ble_eq_true rfl, Nat.le_of_ble_eq_true rfl⟩ rfl (by decide) dX12_readsRoot_185 (As := []) (st := []) (ok_X12_isGood hC.2.2.2.2.2.2.2.1 hW h185) rfl rfl (Nat.le_of_ble_eq_true rfl) ⟨Nat.zero_le _, Nat.zero_le _⟩ ?_
    refine g_if_eq hC dX12_readsRoot_188 (tgt := 201) (by decide) (fun c188 => ?_) (fun c188 => ?_)
    · replace h := (if_pos c188).symm.trans h
      cases h
      exact g_vret hC hE rfl dX12_readsRoot_201 (Nat.zero_le _) (Nat.zero_le _) ⟨rfl, rfl, rfl, rfl, rfl, rfl⟩
    · replace h := (if_neg c188).symm.trans h
      refine g_aload_n hC dX12_readsRoot_191 rfl (q := 0) rfl ?_
      refine g_dup hC dX12_readsRoot_192 rfl ?_
      refine g_geti hC fd_RX12_230 rfl (by decide) (Or.inl rfl) dX12_readsRoot_193 ?_
      refine g_iconst hC dX12_readsRoot_196 (v := (1 : Int32)) (by decide) ?_
      refine g_iadd hC dX12_readsRoot_197 ?_
      refine g_puti hC fd_RX12_230 rfl (by decide) rfl dX12_readsRoot_198 (nm_e ?_)
      cases h
      exact g_vret hC hE rfl dX12_readsRoot_201 (Nat.zero_le _) (Nat.zero_le _) ⟨rfl, rfl, rfl, rfl, rfl, rfl⟩
noncomputable def b_X12_readsRoot_136 (Fu : Nat)  (v2 : Int32) (I : mIT) (L : mLT) : Option (mIT × mLT) :=
  oB (f_X12_wrong Fu I (2 : Int32)) (fun r138 => b_X12_readsRoot_160 Fu v2 r138 L)
set_option maxRecDepth 20000 in
theorem bo_X12_readsRoot_136 {X : mXT} {E : mEn} {Fu : Nat} {R : mRT}  (hC : mC X E mX12_readsRoot RX12 cX12_readsRoot) (hW : mWd R)   {out : mIT × mLT} (hE : mEd X E 0 0 (mSame none 106 1 (out.1) R (out.2)))  (v2 : Int32) (I : mIT) (L : mLT) (h : b_X12_readsRoot_136 Fu  v2 I L = some out) : mG X E 136 [(0, .ref (mB E + 75)), (2, .int v2)] [] 106 1 I R L 0 0 := by
  unfold b_X12_readsRoot_136 at h
  refine g_aload_n hC dX12_readsRoot_136 rfl (q := 0) rfl ?_
  refine g_iconst hC dX12_readsRoot_137 (v := (2 : Int32)) (by decide) ?_
  obtain ⟨r138, h138, h⟩ := oB_some h
  refine g_cV0 hC cv_X12_wrong wd_1892 ⟨Nat.le_of_ble_eq_true rfl, Nat.le_of_ble_eq_true rfl⟩ rfl (by decide) dX12_readsRoot_138 (As := [.int (2 : Int32)]) (st := []) (ok_X12_wrong hC.2.2.2.2.2.2.2.1 hW h138) rfl rfl (Nat.le_of_ble_eq_true rfl) ⟨Nat.zero_le _, Nat.zero_le _⟩ ?_
  refine g_goto hC dX12_readsRoot_141 (tgt := 160) (by decide) ?_
  exact bo_X12_readsRoot_160 hC hW hE (v2) (r138) (L) h
noncomputable def b_X12_readsRoot_81 (Fu : Nat)  (v2 : Int32) (s1 : Int32) (s3 : Int32) (s4 : Int32) (I : mIT) (L : mLT) : Option (mIT × mLT) :=
  oB (f_X12_number Fu I L s3 s4) (fun r81 => oG (inB s1 53) (oG (inB ((21 : Int32) + v2) 53) (oG (inB ((31 : Int32) + v2) 53) (oB (f_X12_isGood Fu (mU (mU (mU r81.2.1 85 (s1).toNatClampNeg r81.1) 85 (((21 : Int32) + v2)).toNatClampNeg (0 : Int32)) 85 (((31 : Int32) + v2)).toNatClampNeg (-1 : Int32))) (fun r106 => if r106 = 0 then (oB (f_X12_isGood Fu (mU (mU (mU r81.2.1 85 (s1).toNatClampNeg r81.1) 85 (((21 : Int32) + v2)).toNatClampNeg (0 : Int32)) 85 (((31 : Int32) + v2)).toNatClampNeg (-1 : Int32))) (fun r185 => if r185 = 0 then (some ((mU (mU (mU r81.2.1 85 (s1).toNatClampNeg r81.1) 85 (((21 : Int32) + v2)).toNatClampNeg (0 : Int32)) 85 (((31 : Int32) + v2)).toNatClampNeg (-1 : Int32)), r81.2.2)) else (some ((mU (mU (mU (mU r81.2.1 85 (s1).toNatClampNeg r81.1) 85 (((21 : Int32) + v2)).toNatClampNeg (0 : Int32)) 85 (((31 : Int32) + v2)).toNatClampNeg (-1 : Int32)) 75 25 (((mU (mU (mU r81.2.1 85 (s1).toNatClampNeg r81.1) 85 (((21 : Int32) + v2)).toNatClampNeg (0 : Int32)) 85 (((31 : Int32) + v2)).toNatClampNeg (-1 : Int32)) 75 25) + (1 : Int32))), r81.2.2)))) else (if ((mU (mU (mU r81.2.1 85 (s1).toNatClampNeg r81.1) 85 (((21 : Int32) + v2)).toNatClampNeg (0 : Int32)) 85 (((31 : Int32) + v2)).toNatClampNeg (-1 : Int32)) 75 19) = (2 : Int32) then (if (4 : Int32) < ((mU (mU (mU r81.2.1 85 (s1).toNatClampNeg r81.1) 85 (((21 : Int32) + v2)).toNatClampNeg (0 : Int32)) 85 (((31 : Int32) + v2)).toNatClampNeg (-1 : Int32)) 75 21) then (b_X12_readsRoot_136 Fu v2 (mU (mU (mU r81.2.1 85 (s1).toNatClampNeg r81.1) 85 (((21 : Int32) + v2)).toNatClampNeg (0 : Int32)) 85 (((31 : Int32) + v2)).toNatClampNeg (-1 : Int32)) r81.2.2) else (if ((mU (mU (mU r81.2.1 85 (s1).toNatClampNeg r81.1) 85 (((21 : Int32) + v2)).toNatClampNeg (0 : Int32)) 85 (((31 : Int32) + v2)).toNatClampNeg (-1 : Int32)) 75 22) ≤ (5 : Int32) then (oB (f_X12_hangsThere Fu (mU (mU (mU r81.2.1 85 (s1).toNatClampNeg r81.1) 85 (((21 : Int32) + v2)).toNatClampNeg (0 : Int32)) 85 (((31 : Int32) + v2)).toNatClampNeg (-1 : Int32)) ((mU (mU (mU r81.2.1 85 (s1).toNatClampNeg r81.1) 85 (((21 : Int32) + v2)).toNatClampNeg (0 : Int32)) 85 (((31 : Int32) + v2)).toNatClampNeg (-1 : Int32)) 75 22)) (fun r149 => if r149 = 0 then (b_X12_readsRoot_160 Fu v2 (mU (mU (mU r81.2.1 85 (s1).toNatClampNeg r81.1) 85 (((21 : Int32) + v2)).toNatClampNeg (0 : Int32)) 85 (((31 : Int32) + v2)).toNatClampNeg (-1 : Int32)) r81.2.2) else (oB (f_X12_wrong Fu (mU (mU (mU r81.2.1 85 (s1).toNatClampNeg r81.1) 85 (((21 : Int32) + v2)).toNatClampNeg (0 : Int32)) 85 (((31 : Int32) + v2)).toNatClampNeg (-1 : Int32)) (4 : Int32)) (fun r157 => b_X12_readsRoot_160 Fu v2 r157 r81.2.2)))) else (b_X12_readsRoot_136 Fu v2 (mU (mU (mU r81.2.1 85 (s1).toNatClampNeg r81.1) 85 (((21 : Int32) + v2)).toNatClampNeg (0 : Int32)) 85 (((31 : Int32) + v2)).toNatClampNeg (-1 : Int32)) r81.2.2))) else (oB (f_X12_isGood Fu (mU (mU (mU r81.2.1 85 (s1).toNatClampNeg r81.1) 85 (((21 : Int32) + v2)).toNatClampNeg (0 : Int32)) 85 (((31 : Int32) + v2)).toNatClampNeg (-1 : Int32))) (fun r185 => if r185 = 0 then (some ((mU (mU (mU r81.2.1 85 (s1).toNatClampNeg r81.1) 85 (((21 : Int32) + v2)).toNatClampNeg (0 : Int32)) 85 (((31 : Int32) + v2)).toNatClampNeg (-1 : Int32)), r81.2.2)) else (some ((mU (mU (mU (mU r81.2.1 85 (s1).toNatClampNeg r81.1) 85 (((21 : Int32) + v2)).toNatClampNeg (0 : Int32)) 85 (((31 : Int32) + v2)).toNatClampNeg (-1 : Int32)) 75 25 (((mU (mU (mU r81.2.1 85 (s1).toNatClampNeg r81.1) 85 (((21 : Int32) + v2)).toNatClampNeg (0 : Int32)) 85 (((31 : Int32) + v2)).toNatClampNeg (-1 : Int32)) 75 25) + (1 : Int32))), r81.2.2))))))))))
set_option maxRecDepth 20000 in
theorem bo_X12_readsRoot_81 {X : mXT} {E : mEn} {Fu : Nat} {R : mRT}  (hC : mC X E mX12_readsRoot RX12 cX12_readsRoot) (hW : mWd R)   {out : mIT × mLT} (hE : mEd X E 0 0 (mSame none 106 1 (out.1) R (out.2)))  (v2 : Int32) (s1 : Int32) (s3 : Int32) (s4 : Int32) (I : mIT) (L : mLT) (h : b_X12_readsRoot_81 Fu  v2 s1 s3 s4 I L = some out) : mG X E 81 [(0, .ref (mB E + 75)), (2, .int v2)] [.int s4, .int s3, .ref (mB E + 75), .int s1, .ref (mB E + 85)] 106 1 I R L 0 0 := by
  unfold b_X12_readsRoot_81 at h
  obtain ⟨r81, h81, h⟩ := oB_some h
  refine g_cV1 hC cv_X12_number wd_1896 ⟨Nat.le_of_ble_eq_true rfl, Nat.le_of_ble_eq_true rfl⟩ rfl (by decide) dX12_readsRoot_81 (As := [.int s3, .int s4]) (st := [.int s1, .ref (mB E + 85)]) (ok_X12_number hC.2.2.2.2.2.2.2.1 hW h81) rfl rfl (Nat.le_of_ble_eq_true rfl) ⟨Nat.zero_le _, Nat.zero_le _⟩ ?_
  obtain ⟨g84, h⟩ := oG_some h
  refine g_iast hC rfl (by decide) (inB_in g84) dX12_readsRoot_84 (nm_e ?_)
  refine g_aload_n hC dX12_readsRoot_85 rfl (q := 0) rfl ?_
  refine g_getr hC fd_RX12_50 rfl (by decide) (C0 := "") (t0 := _) (Or.inr rfl) (rr_75_38 hW.1) dX12_readsRoot_86 ?_
  refine g_bipush hC dX12_readsRoot_89 (v := (21 : Int32)) (by decide) ?_
  refine g_iload_n hC dX12_readsRoot_91 rfl (q := 1) rfl ?_
  refine g_iadd hC dX12_readsRoot_92 ?_
  refine g_iconst hC dX12_readsRoot_93 (v := (0 : Int32)) (by decide) ?_
  obtain ⟨g94, h⟩ := oG_some h
  refine g_iast hC rfl (by decide) (inB_in g94) dX12_readsRoot_94 (nm_e ?_)
  refine g_aload_n hC dX12_readsRoot_95 rfl (q := 0) rfl ?_
  refine g_getr hC fd_RX12_50 rfl (by decide) (C0 := "") (t0 := _) (Or.inr rfl) (rr_75_38 hW.1) dX12_readsRoot_96 ?_
  refine g_bipush hC dX12_readsRoot_99 (v := (31 : Int32)) (by decide) ?_
  refine g_iload_n hC dX12_readsRoot_101 rfl (q := 1) rfl ?_
  refine g_iadd hC dX12_readsRoot_102 ?_
  refine g_iconst hC dX12_readsRoot_103 (v := (-1 : Int32)) (by decide) ?_
  obtain ⟨g104, h⟩ := oG_some h
  refine g_iast hC rfl (by decide) (inB_in g104) dX12_readsRoot_104 (nm_e ?_)
  refine g_aload_n hC dX12_readsRoot_105 rfl (q := 0) rfl ?_
  obtain ⟨r106, h106, h⟩ := oB_some h
  refine g_cV1 hC cv_X12_isGood wd_1869 ⟨Nat.le_of_ble_eq_true rfl, Nat.le_of_ble_eq_true rfl⟩ rfl (by decide) dX12_readsRoot_106 (As := []) (st := []) (ok_X12_isGood hC.2.2.2.2.2.2.2.1 hW h106) rfl rfl (Nat.le_of_ble_eq_true rfl) ⟨Nat.zero_le _, Nat.zero_le _⟩ ?_
  refine g_if_eq hC dX12_readsRoot_109 (tgt := 184) (by decide) (fun c109 => ?_) (fun c109 => ?_)
  · replace h := (if_pos c109).symm.trans h
    refine g_aload_n hC dX12_readsRoot_184 rfl (q := 0) rfl ?_
    obtain ⟨r185, h185, h⟩ := oB_some h
    refine g_cV1 hC cv_X12_isGood wd_1869 ⟨Nat.le_of_ble_eq_true rfl, Nat.le_of_ble_eq_true rfl⟩ rfl (by decide) dX12_readsRoot_185 (As := []) (st := []) (ok_X12_isGood hC.2.2.2.2.2.2.2.1 hW h185) rfl rfl (Nat.le_of_ble_eq_true rfl) ⟨Nat.zero_le _, Nat.zero_le _⟩ ?_
    refine g_if_eq hC dX12_readsRoot_188 (tgt := 201) (by decide) (fun c188 => ?_) (fun c188 => ?_)
    · replace h := (if_pos c188).symm.trans h
      cases h
      exact g_vret hC hE rfl dX12_readsRoot_201 (Nat.zero_le _) (Nat.zero_le _) ⟨rfl, rfl, rfl, rfl, rfl, rfl⟩
    · replace h := (if_neg c188).symm.trans h
      refine g_aload_n hC dX12_readsRoot_191 rfl (q := 0) rfl ?_
      refine g_dup hC dX12_readsRoot_192 rfl ?_
      refine g_geti hC fd_RX12_230 rfl (by decide) (Or.inl rfl) dX12_readsRoot_193 ?_
      refine g_iconst hC dX12_readsRoot_196 (v := (1 : Int32)) (by decide) ?_
      refine g_iadd hC dX12_readsRoot_197 ?_
      refine g_puti hC fd_RX12_230 rfl (by decide) rfl dX12_readsRoot_198 (nm_e ?_)
      cases h
      exact g_vret hC hE rfl dX12_readsRoot_201 (Nat.zero_le _) (Nat.zero_le _) ⟨rfl, rfl, rfl, rfl, rfl, rfl⟩
  · replace h := (if_neg c109).symm.trans h
    refine g_aload_n hC dX12_readsRoot_112 rfl (q := 0) rfl ?_
    refine g_geti hC fd_RX12_147 rfl (by decide) (Or.inl rfl) dX12_readsRoot_113 ?_
    refine g_iconst hC dX12_readsRoot_116 (v := (2 : Int32)) (by decide) ?_
    refine g_ic_ne hC dX12_readsRoot_117 (tgt := 184) (by decide) (fun c117 => ?_) (fun c117 => ?_)
    · replace h := (if_neg c117).symm.trans h
      refine g_aload_n hC dX12_readsRoot_184 rfl (q := 0) rfl ?_
      obtain ⟨r185, h185, h⟩ := oB_some h
      refine g_cV1 hC cv_X12_isGood wd_1869 ⟨Nat.le_of_ble_eq_true rfl, Nat.le_of_ble_eq_true rfl⟩ rfl (by decide) dX12_readsRoot_185 (As := []) (st := []) (ok_X12_isGood hC.2.2.2.2.2.2.2.1 hW h185) rfl rfl (Nat.le_of_ble_eq_true rfl) ⟨Nat.zero_le _, Nat.zero_le _⟩ ?_
      refine g_if_eq hC dX12_readsRoot_188 (tgt := 201) (by decide) (fun c188 => ?_) (fun c188 => ?_)
      · replace h := (if_pos c188).symm.trans h
        cases h
        exact g_vret hC hE rfl dX12_readsRoot_201 (Nat.zero_le _) (Nat.zero_le _) ⟨rfl, rfl, rfl, rfl, rfl, rfl⟩
      · replace h := (if_neg c188).symm.trans h
        refine g_aload_n hC dX12_readsRoot_191 rfl (q := 0) rfl ?_
        refine g_dup hC dX12_readsRoot_192 rfl ?_
        refine g_geti hC fd_RX12_230 rfl (by decide) (Or.inl rfl) dX12_readsRoot_193 ?_
        refine g_iconst hC dX12_readsRoot_196 (v := (1 : Int32)) (by decide) ?_
        refine g_iadd hC dX12_readsRoot_197 ?_
        refine g_puti hC fd_RX12_230 rfl (by decide) rfl dX12_readsRoot_198 (nm_e ?_)
        cases h
        exact g_vret hC hE rfl dX12_readsRoot_201 (Nat.zero_le _) (Nat.zero_le _) ⟨rfl, rfl, rfl, rfl, rfl, rfl⟩
    · replace h := (if_pos c117).symm.trans h
      refine g_aload_n hC dX12_readsRoot_120 rfl (q := 0) rfl ?_
      refine g_geti hC fd_RX12_157 rfl (by decide) (Or.inl rfl) dX12_readsRoot_121 ?_
      refine g_iconst hC dX12_readsRoot_124 (v := (4 : Int32)) (by decide) ?_
      refine g_ic_gt hC dX12_readsRoot_125 (tgt := 136) (by decide) (fun c125 => ?_) (fun c125 => ?_)
      · replace h := (if_pos c125).symm.trans h
        exact bo_X12_readsRoot_136 hC hW hE (v2) ((mU (mU (mU r81.2.1 85 (s1).toNatClampNeg r81.1) 85 (((21 : Int32) + v2)).toNatClampNeg (0 : Int32)) 85 (((31 : Int32) + v2)).toNatClampNeg (-1 : Int32))) (r81.2.2) h
      · replace h := (if_neg c125).symm.trans h
        refine g_aload_n hC dX12_readsRoot_128 rfl (q := 0) rfl ?_
        refine g_geti hC fd_RX12_141 rfl (by decide) (Or.inl rfl) dX12_readsRoot_129 ?_
        refine g_iconst hC dX12_readsRoot_132 (v := (5 : Int32)) (by decide) ?_
        refine g_ic_le hC dX12_readsRoot_133 (tgt := 144) (by decide) (fun c133 => ?_) (fun c133 => ?_)
        · replace h := (if_pos c133).symm.trans h
          refine g_aload_n hC dX12_readsRoot_144 rfl (q := 0) rfl ?_
          refine g_aload_n hC dX12_readsRoot_145 rfl (q := 0) rfl ?_
          refine g_geti hC fd_RX12_141 rfl (by decide) (Or.inl rfl) dX12_readsRoot_146 ?_
          obtain ⟨r149, h149, h⟩ := oB_some h
          refine g_cV1 hC cv_X12_hangsThere wd_1900 ⟨Nat.le_of_ble_eq_true rfl, Nat.le_of_ble_eq_true rfl⟩ rfl (by decide) dX12_readsRoot_149 (As := [.int ((mU (mU (mU r81.2.1 85 (s1).toNatClampNeg r81.1) 85 (((21 : Int32) + v2)).toNatClampNeg (0 : Int32)) 85 (((31 : Int32) + v2)).toNatClampNeg (-1 : Int32)) 75 22)]) (st := []) (ok_X12_hangsThere hC.2.2.2.2.2.2.2.1 hW h149) rfl rfl (Nat.le_of_ble_eq_true rfl) ⟨Nat.zero_le _, Nat.zero_le _⟩ ?_
          refine g_if_eq hC dX12_readsRoot_152 (tgt := 160) (by decide) (fun c152 => ?_) (fun c152 => ?_)
          · replace h := (if_pos c152).symm.trans h
            exact bo_X12_readsRoot_160 hC hW hE (v2) ((mU (mU (mU r81.2.1 85 (s1).toNatClampNeg r81.1) 85 (((21 : Int32) + v2)).toNatClampNeg (0 : Int32)) 85 (((31 : Int32) + v2)).toNatClampNeg (-1 : Int32))) (r81.2.2) h
          · replace h := (if_neg c152).symm.trans h
            refine g_aload_n hC dX12_readsRoot_155 rfl (q := 0) rfl ?_
            refine g_iconst hC dX12_readsRoot_156 (v := (4 : Int32)) (by decide) ?_
            obtain ⟨r157, h157, h⟩ := oB_some h
            refine g_cV0 hC cv_X12_wrong wd_1892 ⟨Nat.le_of_ble_eq_true rfl, Nat.le_of_ble_eq_true rfl⟩ rfl (by decide) dX12_readsRoot_157 (As := [.int (4 : Int32)]) (st := []) (ok_X12_wrong hC.2.2.2.2.2.2.2.1 hW h157) rfl rfl (Nat.le_of_ble_eq_true rfl) ⟨Nat.zero_le _, Nat.zero_le _⟩ ?_
            exact bo_X12_readsRoot_160 hC hW hE (v2) (r157) (r81.2.2) h
        · replace h := (if_neg c133).symm.trans h
          exact bo_X12_readsRoot_136 hC hW hE (v2) ((mU (mU (mU r81.2.1 85 (s1).toNatClampNeg r81.1) 85 (((21 : Int32) + v2)).toNatClampNeg (0 : Int32)) 85 (((31 : Int32) + v2)).toNatClampNeg (-1 : Int32))) (r81.2.2) h
noncomputable def b_X12_readsRoot_14 (Fu : Nat)  (v1 : Int32) (I : mIT) (L : mLT) : Option (mIT × mLT) :=
  oB (f_X12_isGood Fu I) (fun r15 => if r15 = 0 then (some (I, L)) else (oB (f_X12_reads Fu I L) (fun r23 => oG (inB (r23.1 75 25) 10) (oB (f_X12_number Fu (mU r23.1 82 ((r23.1 75 25)).toNatClampNeg v1) r23.2 (1 : Int32) (60 : Int32)) (fun r42 => oG (inB ((1 : Int32) + (r23.1 75 25)) 53) (if (20 : Int32) ≤ (r42.1 - (1 : Int32)) then (b_X12_readsRoot_81 Fu (r23.1 75 25) ((11 : Int32) + (r23.1 75 25)) (0 : Int32) (20 : Int32) (mU r42.2.1 85 (((1 : Int32) + (r23.1 75 25))).toNatClampNeg r42.1) r42.2.2) else (b_X12_readsRoot_81 Fu (r23.1 75 25) ((11 : Int32) + (r23.1 75 25)) (0 : Int32) (r42.1 - (1 : Int32)) (mU r42.2.1 85 (((1 : Int32) + (r23.1 75 25))).toNatClampNeg r42.1) r42.2.2)))))))
set_option maxRecDepth 20000 in
theorem bo_X12_readsRoot_14 {X : mXT} {E : mEn} {Fu : Nat} {R : mRT}  (hC : mC X E mX12_readsRoot RX12 cX12_readsRoot) (hW : mWd R)   {out : mIT × mLT} (hE : mEd X E 0 0 (mSame none 106 1 (out.1) R (out.2)))  (v1 : Int32) (I : mIT) (L : mLT) (h : b_X12_readsRoot_14 Fu  v1 I L = some out) : mG X E 14 [(0, .ref (mB E + 75)), (1, .int v1)] [] 106 1 I R L 0 0 := by
  unfold b_X12_readsRoot_14 at h
  refine g_aload_n hC dX12_readsRoot_14 rfl (q := 0) rfl ?_
  obtain ⟨r15, h15, h⟩ := oB_some h
  refine g_cV1 hC cv_X12_isGood wd_1869 ⟨Nat.le_of_ble_eq_true rfl, Nat.le_of_ble_eq_true rfl⟩ rfl (by decide) dX12_readsRoot_15 (As := []) (st := []) (ok_X12_isGood hC.2.2.2.2.2.2.2.1 hW h15) rfl rfl (Nat.le_of_ble_eq_true rfl) ⟨Nat.zero_le _, Nat.zero_le _⟩ ?_
  refine g_if_ne hC dX12_readsRoot_18 (tgt := 22) (by decide) (fun c18 => ?_) (fun c18 => ?_)
  · replace h := (if_neg c18).symm.trans h
    refine g_aload_n hC dX12_readsRoot_22 rfl (q := 0) rfl ?_
    obtain ⟨r23, h23, h⟩ := oB_some h
    refine g_cV0 hC cv_X12_reads wd_1855 ⟨Nat.le_of_ble_eq_true rfl, Nat.le_of_ble_eq_true rfl⟩ rfl (by decide) dX12_readsRoot_23 (As := []) (st := []) (ok_X12_reads hC.2.2.2.2.2.2.2.1 hW h23) rfl rfl (Nat.le_of_ble_eq_true rfl) ⟨Nat.zero_le _, Nat.zero_le _⟩ ?_
    refine g_aload_n hC dX12_readsRoot_26 rfl (q := 0) rfl ?_
    refine g_geti hC fd_RX12_230 rfl (by decide) (Or.inl rfl) dX12_readsRoot_27 ?_
    refine g_istore_n hC dX12_readsRoot_30 rfl rfl (by decide) (lv' := [(2, .int (r23.1 75 25)), (0, .ref (mB E + 75)), (1, .int v1)]) rfl ?_
    refine g_aload_n hC dX12_readsRoot_31 rfl (q := 1) rfl ?_
    refine g_getr hC fd_RX12_41 rfl (by decide) (C0 := "") (t0 := _) (Or.inr rfl) (rr_75_35 hW.1) dX12_readsRoot_32 ?_
    refine g_iload_n hC dX12_readsRoot_35 rfl (q := 0) rfl ?_
    refine g_iload_n hC dX12_readsRoot_36 rfl (q := 2) rfl ?_
    obtain ⟨g37, h⟩ := oG_some h
    refine g_iast hC rfl (by decide) (inB_in g37) dX12_readsRoot_37 (nm_e ?_)
    refine g_aload_n hC dX12_readsRoot_38 rfl (q := 1) rfl ?_
    refine g_iconst hC dX12_readsRoot_39 (v := (1 : Int32)) (by decide) ?_
    refine g_bipush hC dX12_readsRoot_40 (v := (60 : Int32)) (by decide) ?_
    obtain ⟨r42, h42, h⟩ := oB_some h
    refine g_cV1 hC cv_X12_number wd_1896 ⟨Nat.le_of_ble_eq_true rfl, Nat.le_of_ble_eq_true rfl⟩ rfl (by decide) dX12_readsRoot_42 (As := [.int (1 : Int32), .int (60 : Int32)]) (st := []) (ok_X12_number hC.2.2.2.2.2.2.2.1 hW h42) rfl rfl (Nat.le_of_ble_eq_true rfl) ⟨Nat.zero_le _, Nat.zero_le _⟩ ?_
    refine g_istore_n hC dX12_readsRoot_45 rfl rfl (by decide) (lv' := [(3, .int r42.1), (2, .int (r23.1 75 25)), (0, .ref (mB E + 75)), (1, .int v1)]) rfl ?_
    refine g_aload_n hC dX12_readsRoot_46 rfl (q := 2) rfl ?_
    refine g_getr hC fd_RX12_50 rfl (by decide) (C0 := "") (t0 := _) (Or.inr rfl) (rr_75_38 hW.1) dX12_readsRoot_47 ?_
    refine g_iconst hC dX12_readsRoot_50 (v := (1 : Int32)) (by decide) ?_
    refine g_iload_n hC dX12_readsRoot_51 rfl (q := 1) rfl ?_
    refine g_iadd hC dX12_readsRoot_52 ?_
    refine g_iload_n hC dX12_readsRoot_53 rfl (q := 0) rfl ?_
    obtain ⟨g54, h⟩ := oG_some h
    refine g_iast hC rfl (by decide) (inB_in g54) dX12_readsRoot_54 (nm_e ?_)
    refine g_aload_n hC dX12_readsRoot_55 rfl (q := 2) rfl ?_
    refine g_getr hC fd_RX12_50 rfl (by decide) (C0 := "") (t0 := _) (Or.inr rfl) (rr_75_38 hW.1) dX12_readsRoot_56 ?_
    refine g_bipush hC dX12_readsRoot_59 (v := (11 : Int32)) (by decide) ?_
    refine g_iload_n hC dX12_readsRoot_61 rfl (q := 1) rfl ?_
    refine g_iadd hC dX12_readsRoot_62 ?_
    refine g_aload_n hC dX12_readsRoot_63 rfl (q := 2) rfl ?_
    refine g_iconst hC dX12_readsRoot_64 (v := (0 : Int32)) (by decide) ?_
    refine g_iload_n hC dX12_readsRoot_65 rfl (q := 0) rfl ?_
    refine g_iconst hC dX12_readsRoot_66 (v := (1 : Int32)) (by decide) ?_
    refine g_isub hC dX12_readsRoot_67 ?_
    refine g_bipush hC dX12_readsRoot_68 (v := (20 : Int32)) (by decide) ?_
    refine g_ic_ge hC dX12_readsRoot_70 (tgt := 79) (by decide) (fun c70 => ?_) (fun c70 => ?_)
    · replace h := (if_pos c70).symm.trans h
      refine g_bipush hC dX12_readsRoot_79 (v := (20 : Int32)) (by decide) ?_
      refine g_lv [2, 1] rfl ?_
      exact bo_X12_readsRoot_81 hC hW hE ((r23.1 75 25)) (((11 : Int32) + (r23.1 75 25))) ((0 : Int32)) ((20 : Int32)) ((mU r42.2.1 85 (((1 : Int32) + (r23.1 75 25))).toNatClampNeg r42.1)) (r42.2.2) h
    · replace h := (if_neg c70).symm.trans h
      refine g_iload_n hC dX12_readsRoot_73 rfl (q := 0) rfl ?_
      refine g_iconst hC dX12_readsRoot_74 (v := (1 : Int32)) (by decide) ?_
      refine g_isub hC dX12_readsRoot_75 ?_
      refine g_goto hC dX12_readsRoot_76 (tgt := 81) (by decide) ?_
      refine g_lv [2, 1] rfl ?_
      exact bo_X12_readsRoot_81 hC hW hE ((r23.1 75 25)) (((11 : Int32) + (r23.1 75 25))) ((0 : Int32)) ((r42.1 - (1 : Int32))) ((mU r42.2.1 85 (((1 : Int32) + (r23.1 75 25))).toNatClampNeg r42.1)) (r42.2.2) h
  · replace h := (if_pos c18).symm.trans h
    cases h
    exact g_vret hC hE rfl dX12_readsRoot_21 (Nat.zero_le _) (Nat.zero_le _) ⟨rfl, rfl, rfl, rfl, rfl, rfl⟩
noncomputable def f_X12_readsRoot (Fu : Nat) (I : mIT) (L : mLT) (v1 : Int32) : Option (mIT × mLT) :=
  if (I 75 25) = (10 : Int32) then (oB (f_X12_wrong Fu I (2 : Int32)) (fun r11 => b_X12_readsRoot_14 Fu v1 r11 L)) else (b_X12_readsRoot_14 Fu v1 I L)
set_option maxRecDepth 20000 in
theorem ok_X12_readsRoot {l : Launch} {E : mEn} {Fu : Nat} {I : mIT} {R : mRT} {L : mLT} {v1 : Int32} (hst : l.stackTraces = false) (hW : mWd R)  {out : mIT × mLT} (h : f_X12_readsRoot Fu I L v1 = some out) : mOk l E mX12_readsRoot [.ref (mB E + 75), .int v1] 106 1 I R L 0 0 (mSame none 106 1 (out.1) R (out.2)) := by
  refine mOk_of hst (by decide) (Nat.le_of_ble_eq_true rfl) (fun X hC hE _ => ?_)
  have hC : mC X E mX12_readsRoot RX12 cX12_readsRoot := hC
  show mG X E 0 [(0, .ref (mB E + 75)), (1, .int v1)] [] 106 1 I R L 0 0
  unfold f_X12_readsRoot at h
  refine g_aload_n hC dX12_readsRoot_0 rfl (q := 0) rfl ?_
  refine g_geti hC fd_RX12_230 rfl (by decide) (Or.inl rfl) dX12_readsRoot_1 ?_
  refine g_bipush hC dX12_readsRoot_4 (v := (10 : Int32)) (by decide) ?_
  refine g_ic_ne hC dX12_readsRoot_6 (tgt := 14) (by decide) (fun c6 => ?_) (fun c6 => ?_)
  · replace h := (if_neg c6).symm.trans h
    exact bo_X12_readsRoot_14 hC hW hE (v1) (I) (L) h
  · replace h := (if_pos c6).symm.trans h
    refine g_aload_n hC dX12_readsRoot_9 rfl (q := 0) rfl ?_
    refine g_iconst hC dX12_readsRoot_10 (v := (2 : Int32)) (by decide) ?_
    obtain ⟨r11, h11, h⟩ := oB_some h
    refine g_cV0 hC cv_X12_wrong wd_1892 ⟨Nat.le_of_ble_eq_true rfl, Nat.le_of_ble_eq_true rfl⟩ rfl (by decide) dX12_readsRoot_11 (As := [.int (2 : Int32)]) (st := []) (ok_X12_wrong hC.2.2.2.2.2.2.2.1 hW h11) rfl rfl (Nat.le_of_ble_eq_true rfl) ⟨Nat.zero_le _, Nat.zero_le _⟩ ?_
    exact bo_X12_readsRoot_14 hC hW hE (v1) (r11) (L) h
noncomputable def b_X12_readsMany_80 (Fu : Nat) (k1 : Nat) (k6_ : Int32 × Int32 × Int32 × Int32 × Int32 × Int32 × mIT × mLT → Option (Int32 × mIT × mLT)) (v2 : Int32) (v3 : Int32) (v4 : Int32) (v5 : Int32) (v6 : Int32) (I : mIT) (L : mLT) : Option (Int32 × mIT × mLT) :=
  oB (f_X12_number Fu I L (0 : Int32) v4) (fun r84 => oB (f_X12_isGood Fu r84.2.1) (fun r90 => if r90 = 0 then (some ((0 : Int32), r84.2.1, r84.2.2)) else (oG (inB (v2 + v6) (mT k1).2) (if ((mU r84.2.1 k1 ((v2 + v6)).toNatClampNeg r84.1) 75 19) = (2 : Int32) then (k6_ (v2, v3, v4, v5, (v6 + (1 : Int32)), (1 : Int32), (mU r84.2.1 k1 ((v2 + v6)).toNatClampNeg r84.1), r84.2.2)) else (k6_ (v2, v3, v4, v5, (v6 + (1 : Int32)), (0 : Int32), (mU r84.2.1 k1 ((v2 + v6)).toNatClampNeg r84.1), r84.2.2))))))
set_option maxRecDepth 20000 in
theorem bo_X12_readsMany_80 {X : mXT} {E : mEn} {Fu : Nat} {R : mRT} {k1 : Nat} (hC : mC X E mX12_readsMany RX12 cX12_readsMany) (hW : mWd R) (hk1 : (mT k1).1 = 1 ∧ k1 < 106)  {out : Int32 × mIT × mLT} (hE : mEd X E 0 0 (mSame (some (.int (out.1))) 106 1 (out.2.1) R (out.2.2))) (k6_ : Int32 × Int32 × Int32 × Int32 × Int32 × Int32 × mIT × mLT → Option (Int32 × mIT × mLT)) (hk6_ : ∀ (v2 : Int32) (v3 : Int32) (v4 : Int32) (v5 : Int32) (v6 : Int32) (v7 : Int32) (I : mIT) (L : mLT),  k6_ (v2, v3, v4, v5, v6, v7, I, L) = some out → mG X E 6 [(0, .ref (mB E + 75)), (1, .ref (mB E + k1)), (2, .int v2), (3, .int v3), (4, .int v4), (5, .int v5), (6, .int v6), (7, .int v7)] [] 106 1 I R L 0 0) (v2 : Int32) (v3 : Int32) (v4 : Int32) (v5 : Int32) (v6 : Int32) (I : mIT) (L : mLT) (h : b_X12_readsMany_80 Fu k1 k6_ v2 v3 v4 v5 v6 I L = some out) : mG X E 80 [(0, .ref (mB E + 75)), (1, .ref (mB E + k1)), (2, .int v2), (3, .int v3), (4, .int v4), (5, .int v5), (6, .int v6)] [] 106 1 I R L 0 0 := by
  unfold b_X12_readsMany_80 at h
  refine g_aload_n hC dX12_readsMany_80 rfl (q := 0) rfl ?_
  refine g_iconst hC dX12_readsMany_81 (v := (0 : Int32)) (by decide) ?_
  refine g_iload hC dX12_readsMany_82 (q := 4) rfl ?_
  obtain ⟨r84, h84, h⟩ := oB_some h
  refine g_cV1 hC cv_X12_number wd_1896 ⟨Nat.le_of_ble_eq_true rfl, Nat.le_of_ble_eq_true rfl⟩ rfl (by decide) dX12_readsMany_84 (As := [.int (0 : Int32), .int v4]) (st := []) (ok_X12_number hC.2.2.2.2.2.2.2.1 hW h84) rfl rfl (Nat.le_of_ble_eq_true rfl) ⟨Nat.zero_le _, Nat.zero_le _⟩ ?_
  refine g_istore hC dX12_readsMany_87 rfl (by decide) (lv' := [(8, .int r84.1), (0, .ref (mB E + 75)), (1, .ref (mB E + k1)), (2, .int v2), (3, .int v3), (4, .int v4), (5, .int v5), (6, .int v6)]) rfl ?_
  refine g_aload_n hC dX12_readsMany_89 rfl (q := 1) rfl ?_
  obtain ⟨r90, h90, h⟩ := oB_some h
  refine g_cV1 hC cv_X12_isGood wd_1869 ⟨Nat.le_of_ble_eq_true rfl, Nat.le_of_ble_eq_true rfl⟩ rfl (by decide) dX12_readsMany_90 (As := []) (st := []) (ok_X12_isGood hC.2.2.2.2.2.2.2.1 hW h90) rfl rfl (Nat.le_of_ble_eq_true rfl) ⟨Nat.zero_le _, Nat.zero_le _⟩ ?_
  refine g_if_ne hC dX12_readsMany_93 (tgt := 98) (by decide) (fun c93 => ?_) (fun c93 => ?_)
  · replace h := (if_neg c93).symm.trans h
    refine g_aload_n hC dX12_readsMany_98 rfl (q := 2) rfl ?_
    refine g_iload_n hC dX12_readsMany_99 rfl (q := 3) rfl ?_
    refine g_iload hC dX12_readsMany_100 (q := 7) rfl ?_
    refine g_iadd hC dX12_readsMany_102 ?_
    refine g_iload hC dX12_readsMany_103 (q := 0) rfl ?_
    obtain ⟨g105, h⟩ := oG_some h
    refine g_iast hC (mAr_T hk1) hk1.2 (inB_in g105) dX12_readsMany_105 (nm_e ?_)
    refine g_iinc hC dX12_readsMany_106 rfl (q := 7) rfl (w := (v6 + (1 : Int32))) rfl (by decide) (lv' := [(6, .int (v6 + (1 : Int32))), (8, .int r84.1), (0, .ref (mB E + 75)), (1, .ref (mB E + k1)), (2, .int v2), (3, .int v3), (4, .int v4), (5, .int v5)]) rfl ?_
    refine g_aload_n hC dX12_readsMany_109 rfl (q := 2) rfl ?_
    refine g_geti hC fd_RX12_147 rfl (by decide) (Or.inl rfl) dX12_readsMany_110 ?_
    refine g_iconst hC dX12_readsMany_113 (v := (2 : Int32)) (by decide) ?_
    refine g_ic_ne hC dX12_readsMany_114 (tgt := 121) (by decide) (fun c114 => ?_) (fun c114 => ?_)
    · replace h := (if_neg c114).symm.trans h
      refine g_iconst hC dX12_readsMany_121 (v := (0 : Int32)) (by decide) ?_
      refine g_istore hC dX12_readsMany_122 rfl (by decide) (lv' := [(7, .int (0 : Int32)), (6, .int (v6 + (1 : Int32))), (8, .int r84.1), (0, .ref (mB E + 75)), (1, .ref (mB E + k1)), (2, .int v2), (3, .int v3), (4, .int v4), (5, .int v5)]) rfl ?_
      refine g_goto hC dX12_readsMany_124 (tgt := 6) (by decide) ?_
      refine g_lv [3, 4, 5, 6, 7, 8, 1, 0] rfl ?_
      exact hk6_ v2 v3 v4 v5 (v6 + (1 : Int32)) (0 : Int32) (mU r84.2.1 k1 ((v2 + v6)).toNatClampNeg r84.1) r84.2.2 h
    · replace h := (if_pos c114).symm.trans h
      refine g_iconst hC dX12_readsMany_117 (v := (1 : Int32)) (by decide) ?_
      refine g_goto hC dX12_readsMany_118 (tgt := 122) (by decide) ?_
      refine g_istore hC dX12_readsMany_122 rfl (by decide) (lv' := [(7, .int (1 : Int32)), (6, .int (v6 + (1 : Int32))), (8, .int r84.1), (0, .ref (mB E + 75)), (1, .ref (mB E + k1)), (2, .int v2), (3, .int v3), (4, .int v4), (5, .int v5)]) rfl ?_
      refine g_goto hC dX12_readsMany_124 (tgt := 6) (by decide) ?_
      refine g_lv [3, 4, 5, 6, 7, 8, 1, 0] rfl ?_
      exact hk6_ v2 v3 v4 v5 (v6 + (1 : Int32)) (1 : Int32) (mU r84.2.1 k1 ((v2 + v6)).toNatClampNeg r84.1) r84.2.2 h
  · replace h := (if_pos c93).symm.trans h
    refine g_iconst hC dX12_readsMany_96 (v := (0 : Int32)) (by decide) ?_
    cases h
    exact g_iret hC hE rfl dX12_readsMany_97 (Nat.zero_le _) (Nat.zero_le _) ⟨rfl, rfl, rfl, rfl, rfl, rfl⟩
noncomputable def b_X12_readsMany_37 (Fu : Nat) (k1 : Nat) (k6_ : Int32 × Int32 × Int32 × Int32 × Int32 × Int32 × mIT × mLT → Option (Int32 × mIT × mLT)) (v2 : Int32) (v3 : Int32) (v4 : Int32) (v5 : Int32) (v6 : Int32) (I : mIT) (L : mLT) : Option (Int32 × mIT × mLT) :=
  oB (f_X12_isGood Fu I) (fun r38 => if r38 = 0 then (b_X12_readsMany_80 Fu k1 k6_ v2 v3 v4 v5 v6 I L) else (if v5 = 0 then (b_X12_readsMany_80 Fu k1 k6_ v2 v3 v4 v5 v6 I L) else (if (I 75 19) = (2 : Int32) then (if (4 : Int32) < (I 75 21) then (b_X12_readsMany_80 Fu k1 k6_ v2 v3 v4 v5 v6 I L) else (oB (f_X12_isChange Fu (I 75 22)) (fun r69 => if r69 = 0 then (oB (f_X12_wrong Fu I (2 : Int32)) (fun r77 => b_X12_readsMany_80 Fu k1 k6_ v2 v3 v4 v5 v6 r77 L)) else (b_X12_readsMany_80 Fu k1 k6_ v2 v3 v4 v5 v6 I L)))) else (b_X12_readsMany_80 Fu k1 k6_ v2 v3 v4 v5 v6 I L))))
set_option maxRecDepth 20000 in
theorem bo_X12_readsMany_37 {X : mXT} {E : mEn} {Fu : Nat} {R : mRT} {k1 : Nat} (hC : mC X E mX12_readsMany RX12 cX12_readsMany) (hW : mWd R) (hk1 : (mT k1).1 = 1 ∧ k1 < 106)  {out : Int32 × mIT × mLT} (hE : mEd X E 0 0 (mSame (some (.int (out.1))) 106 1 (out.2.1) R (out.2.2))) (k6_ : Int32 × Int32 × Int32 × Int32 × Int32 × Int32 × mIT × mLT → Option (Int32 × mIT × mLT)) (hk6_ : ∀ (v2 : Int32) (v3 : Int32) (v4 : Int32) (v5 : Int32) (v6 : Int32) (v7 : Int32) (I : mIT) (L : mLT),  k6_ (v2, v3, v4, v5, v6, v7, I, L) = some out → mG X E 6 [(0, .ref (mB E + 75)), (1, .ref (mB E + k1)), (2, .int v2), (3, .int v3), (4, .int v4), (5, .int v5), (6, .int v6), (7, .int v7)] [] 106 1 I R L 0 0) (v2 : Int32) (v3 : Int32) (v4 : Int32) (v5 : Int32) (v6 : Int32) (I : mIT) (L : mLT) (h : b_X12_readsMany_37 Fu k1 k6_ v2 v3 v4 v5 v6 I L = some out) : mG X E 37 [(0, .ref (mB E + 75)), (1, .ref (mB E + k1)), (2, .int v2), (3, .int v3), (4, .int v4), (5, .int v5), (6, .int v6)] [] 106 1 I R L 0 0 := by
  unfold b_X12_readsMany_37 at h
  refine g_aload_n hC dX12_readsMany_37 rfl (q := 0) rfl ?_
  obtain ⟨r38, h38, h⟩ := oB_some h
  refine g_cV1 hC cv_X12_isGood wd_1869 ⟨Nat.le_of_ble_eq_true rfl, Nat.le_of_ble_eq_true rfl⟩ rfl (by decide) dX12_readsMany_38 (As := []) (st := []) (ok_X12_isGood hC.2.2.2.2.2.2.2.1 hW h38) rfl rfl (Nat.le_of_ble_eq_true rfl) ⟨Nat.zero_le _, Nat.zero_le _⟩ ?_
  refine g_if_eq hC dX12_readsMany_41 (tgt := 80) (by decide) (fun c41 => ?_) (fun c41 => ?_)
  · replace h := (if_pos c41).symm.trans h
    exact bo_X12_readsMany_80 hC hW hk1 hE k6_ hk6_ (v2) (v3) (v4) (v5) (v6) (I) (L) h
  · replace h := (if_neg c41).symm.trans h
    refine g_iload hC dX12_readsMany_44 (q := 5) rfl ?_
    refine g_if_eq hC dX12_readsMany_46 (tgt := 80) (by decide) (fun c46 => ?_) (fun c46 => ?_)
    · replace h := (if_pos c46).symm.trans h
      exact bo_X12_readsMany_80 hC hW hk1 hE k6_ hk6_ (v2) (v3) (v4) (v5) (v6) (I) (L) h
    · replace h := (if_neg c46).symm.trans h
      refine g_aload_n hC dX12_readsMany_49 rfl (q := 0) rfl ?_
      refine g_geti hC fd_RX12_147 rfl (by decide) (Or.inl rfl) dX12_readsMany_50 ?_
      refine g_iconst hC dX12_readsMany_53 (v := (2 : Int32)) (by decide) ?_
      refine g_ic_ne hC dX12_readsMany_54 (tgt := 80) (by decide) (fun c54 => ?_) (fun c54 => ?_)
      · replace h := (if_neg c54).symm.trans h
        exact bo_X12_readsMany_80 hC hW hk1 hE k6_ hk6_ (v2) (v3) (v4) (v5) (v6) (I) (L) h
      · replace h := (if_pos c54).symm.trans h
        refine g_aload_n hC dX12_readsMany_57 rfl (q := 0) rfl ?_
        refine g_geti hC fd_RX12_157 rfl (by decide) (Or.inl rfl) dX12_readsMany_58 ?_
        refine g_iconst hC dX12_readsMany_61 (v := (4 : Int32)) (by decide) ?_
        refine g_ic_gt hC dX12_readsMany_62 (tgt := 80) (by decide) (fun c62 => ?_) (fun c62 => ?_)
        · replace h := (if_pos c62).symm.trans h
          exact bo_X12_readsMany_80 hC hW hk1 hE k6_ hk6_ (v2) (v3) (v4) (v5) (v6) (I) (L) h
        · replace h := (if_neg c62).symm.trans h
          refine g_aload_n hC dX12_readsMany_65 rfl (q := 0) rfl ?_
          refine g_geti hC fd_RX12_141 rfl (by decide) (Or.inl rfl) dX12_readsMany_66 ?_
          obtain ⟨r69, h69, h⟩ := oB_some h
          refine g_cS1 hC cs_X12_isChange wd_1912 ⟨Nat.le_of_ble_eq_true rfl, Nat.le_of_ble_eq_true rfl⟩ dX12_readsMany_69 (As := [.int (I 75 22)]) (st := []) (ok_X12_isChange hC.2.2.2.2.2.2.2.1 hW h69) rfl rfl (Nat.le_of_ble_eq_true rfl) ⟨Nat.zero_le _, Nat.zero_le _⟩ ?_
          refine g_if_ne hC dX12_readsMany_72 (tgt := 80) (by decide) (fun c72 => ?_) (fun c72 => ?_)
          · replace h := (if_neg c72).symm.trans h
            exact bo_X12_readsMany_80 hC hW hk1 hE k6_ hk6_ (v2) (v3) (v4) (v5) (v6) (I) (L) h
          · replace h := (if_pos c72).symm.trans h
            refine g_aload_n hC dX12_readsMany_75 rfl (q := 0) rfl ?_
            refine g_iconst hC dX12_readsMany_76 (v := (2 : Int32)) (by decide) ?_
            obtain ⟨r77, h77, h⟩ := oB_some h
            refine g_cV0 hC cv_X12_wrong wd_1892 ⟨Nat.le_of_ble_eq_true rfl, Nat.le_of_ble_eq_true rfl⟩ rfl (by decide) dX12_readsMany_77 (As := [.int (2 : Int32)]) (st := []) (ok_X12_wrong hC.2.2.2.2.2.2.2.1 hW h77) rfl rfl (Nat.le_of_ble_eq_true rfl) ⟨Nat.zero_le _, Nat.zero_le _⟩ ?_
            exact bo_X12_readsMany_80 hC hW hk1 hE k6_ hk6_ (v2) (v3) (v4) (v5) (v6) (r77) (L) h
noncomputable def b_X12_readsMany_6 (Fu : Nat) (k1 : Nat) (k6_ : Int32 × Int32 × Int32 × Int32 × Int32 × Int32 × mIT × mLT → Option (Int32 × mIT × mLT)) (v2 : Int32) (v3 : Int32) (v4 : Int32) (v5 : Int32) (v6 : Int32) (v7 : Int32) (I : mIT) (L : mLT) : Option (Int32 × mIT × mLT) :=
  if v7 = 0 then (some (v6, I, L)) else (oB (f_X12_isGood Fu I) (fun r12 => if r12 = 0 then (some (v6, I, L)) else (if v6 = v3 then (if (I 75 19) = (2 : Int32) then (oB (f_X12_wrong Fu I (2 : Int32)) (fun r34 => b_X12_readsMany_37 Fu k1 k6_ v2 v3 v4 v5 v6 r34 L)) else (b_X12_readsMany_37 Fu k1 k6_ v2 v3 v4 v5 v6 I L)) else (b_X12_readsMany_37 Fu k1 k6_ v2 v3 v4 v5 v6 I L))))
set_option maxRecDepth 20000 in
theorem bo_X12_readsMany_6 {X : mXT} {E : mEn} {Fu : Nat} {R : mRT} {k1 : Nat} (hC : mC X E mX12_readsMany RX12 cX12_readsMany) (hW : mWd R) (hk1 : (mT k1).1 = 1 ∧ k1 < 106)  {out : Int32 × mIT × mLT} (hE : mEd X E 0 0 (mSame (some (.int (out.1))) 106 1 (out.2.1) R (out.2.2))) (k6_ : Int32 × Int32 × Int32 × Int32 × Int32 × Int32 × mIT × mLT → Option (Int32 × mIT × mLT)) (hk6_ : ∀ (v2 : Int32) (v3 : Int32) (v4 : Int32) (v5 : Int32) (v6 : Int32) (v7 : Int32) (I : mIT) (L : mLT),  k6_ (v2, v3, v4, v5, v6, v7, I, L) = some out → mG X E 6 [(0, .ref (mB E + 75)), (1, .ref (mB E + k1)), (2, .int v2), (3, .int v3), (4, .int v4), (5, .int v5), (6, .int v6), (7, .int v7)] [] 106 1 I R L 0 0) (v2 : Int32) (v3 : Int32) (v4 : Int32) (v5 : Int32) (v6 : Int32) (v7 : Int32) (I : mIT) (L : mLT) (h : b_X12_readsMany_6 Fu k1 k6_ v2 v3 v4 v5 v6 v7 I L = some out) : mG X E 6 [(0, .ref (mB E + 75)), (1, .ref (mB E + k1)), (2, .int v2), (3, .int v3), (4, .int v4), (5, .int v5), (6, .int v6), (7, .int v7)] [] 106 1 I R L 0 0 := by
  unfold b_X12_readsMany_6 at h
  refine g_iload hC dX12_readsMany_6 (q := 7) rfl ?_
  refine g_if_eq hC dX12_readsMany_8 (tgt := 127) (by decide) (fun c8 => ?_) (fun c8 => ?_)
  · replace h := (if_pos c8).symm.trans h
    refine g_iload hC dX12_readsMany_127 (q := 6) rfl ?_
    cases h
    exact g_iret hC hE rfl dX12_readsMany_129 (Nat.zero_le _) (Nat.zero_le _) ⟨rfl, rfl, rfl, rfl, rfl, rfl⟩
  · replace h := (if_neg c8).symm.trans h
    refine g_aload_n hC dX12_readsMany_11 rfl (q := 0) rfl ?_
    obtain ⟨r12, h12, h⟩ := oB_some h
    refine g_cV1 hC cv_X12_isGood wd_1869 ⟨Nat.le_of_ble_eq_true rfl, Nat.le_of_ble_eq_true rfl⟩ rfl (by decide) dX12_readsMany_12 (As := []) (st := []) (ok_X12_isGood hC.2.2.2.2.2.2.2.1 hW h12) rfl rfl (Nat.le_of_ble_eq_true rfl) ⟨Nat.zero_le _, Nat.zero_le _⟩ ?_
    refine g_if_eq hC dX12_readsMany_15 (tgt := 127) (by decide) (fun c15 => ?_) (fun c15 => ?_)
    · replace h := (if_pos c15).symm.trans h
      refine g_iload hC dX12_readsMany_127 (q := 6) rfl ?_
      cases h
      exact g_iret hC hE rfl dX12_readsMany_129 (Nat.zero_le _) (Nat.zero_le _) ⟨rfl, rfl, rfl, rfl, rfl, rfl⟩
    · replace h := (if_neg c15).symm.trans h
      refine g_iload hC dX12_readsMany_18 (q := 6) rfl ?_
      refine g_iload_n hC dX12_readsMany_20 rfl (q := 3) rfl ?_
      refine g_ic_ne hC dX12_readsMany_21 (tgt := 37) (by decide) (fun c21 => ?_) (fun c21 => ?_)
      · replace h := (if_neg c21).symm.trans h
        refine g_lv [0, 1, 2, 3, 4, 5, 6] rfl ?_
        exact bo_X12_readsMany_37 hC hW hk1 hE k6_ hk6_ (v2) (v3) (v4) (v5) (v6) (I) (L) h
      · replace h := (if_pos c21).symm.trans h
        refine g_aload_n hC dX12_readsMany_24 rfl (q := 0) rfl ?_
        refine g_geti hC fd_RX12_147 rfl (by decide) (Or.inl rfl) dX12_readsMany_25 ?_
        refine g_iconst hC dX12_readsMany_28 (v := (2 : Int32)) (by decide) ?_
        refine g_ic_ne hC dX12_readsMany_29 (tgt := 37) (by decide) (fun c29 => ?_) (fun c29 => ?_)
        · replace h := (if_neg c29).symm.trans h
          refine g_lv [0, 1, 2, 3, 4, 5, 6] rfl ?_
          exact bo_X12_readsMany_37 hC hW hk1 hE k6_ hk6_ (v2) (v3) (v4) (v5) (v6) (I) (L) h
        · replace h := (if_pos c29).symm.trans h
          refine g_aload_n hC dX12_readsMany_32 rfl (q := 0) rfl ?_
          refine g_iconst hC dX12_readsMany_33 (v := (2 : Int32)) (by decide) ?_
          obtain ⟨r34, h34, h⟩ := oB_some h
          refine g_cV0 hC cv_X12_wrong wd_1892 ⟨Nat.le_of_ble_eq_true rfl, Nat.le_of_ble_eq_true rfl⟩ rfl (by decide) dX12_readsMany_34 (As := [.int (2 : Int32)]) (st := []) (ok_X12_wrong hC.2.2.2.2.2.2.2.1 hW h34) rfl rfl (Nat.le_of_ble_eq_true rfl) ⟨Nat.zero_le _, Nat.zero_le _⟩ ?_
          refine g_lv [0, 1, 2, 3, 4, 5, 6] rfl ?_
          exact bo_X12_readsMany_37 hC hW hk1 hE k6_ hk6_ (v2) (v3) (v4) (v5) (v6) (r34) (L) h
noncomputable def w_X12_readsMany_6 (Fu : Nat) (k1 : Nat)  (N : Nat) (v2 : Int32) (v3 : Int32) (v4 : Int32) (v5 : Int32) (v6 : Int32) (v7 : Int32) (I : mIT) (L : mLT) : Option (Int32 × mIT × mLT) :=
  loopF (fun self (s : Int32 × Int32 × Int32 × Int32 × Int32 × Int32 × mIT × mLT) => b_X12_readsMany_6 Fu k1 self s.1 s.2.1 s.2.2.1 s.2.2.2.1 s.2.2.2.2.1 s.2.2.2.2.2.1 s.2.2.2.2.2.2.1 s.2.2.2.2.2.2.2) N (v2, v3, v4, v5, v6, v7, I, L)
theorem wo_X12_readsMany_6 {X : mXT} {E : mEn} {Fu : Nat} {R : mRT} {k1 : Nat} (hC : mC X E mX12_readsMany RX12 cX12_readsMany) (hW : mWd R) (hk1 : (mT k1).1 = 1 ∧ k1 < 106)  {out : Int32 × mIT × mLT} (hE : mEd X E 0 0 (mSame (some (.int (out.1))) 106 1 (out.2.1) R (out.2.2)))  (N : Nat) (v2 : Int32) (v3 : Int32) (v4 : Int32) (v5 : Int32) (v6 : Int32) (v7 : Int32) (I : mIT) (L : mLT) (h : w_X12_readsMany_6 Fu k1  N v2 v3 v4 v5 v6 v7 I L = some out) : mG X E 6 [(0, .ref (mB E + 75)), (1, .ref (mB E + k1)), (2, .int v2), (3, .int v3), (4, .int v4), (5, .int v5), (6, .int v6), (7, .int v7)] [] 106 1 I R L 0 0 :=
  loopF_ok (Gd := fun s : Int32 × Int32 × Int32 × Int32 × Int32 × Int32 × mIT × mLT => mG X E 6 [(0, .ref (mB E + 75)), (1, .ref (mB E + k1)), (2, .int s.1), (3, .int s.2.1), (4, .int s.2.2.1), (5, .int s.2.2.2.1), (6, .int s.2.2.2.2.1), (7, .int s.2.2.2.2.2.1)] [] 106 1 s.2.2.2.2.2.2.1 R s.2.2.2.2.2.2.2 0 0) (fun self hs s h => bo_X12_readsMany_6 hC hW hk1 hE self (fun v2 v3 v4 v5 v6 v7 I L h => hs (v2, v3, v4, v5, v6, v7, I, L) h) s.1 s.2.1 s.2.2.1 s.2.2.2.1 s.2.2.2.2.1 s.2.2.2.2.2.1 s.2.2.2.2.2.2.1 s.2.2.2.2.2.2.2 h) N (v2, v3, v4, v5, v6, v7, I, L) h
noncomputable def f_X12_readsMany (Fu : Nat) (I : mIT) (L : mLT) (k1 : Nat) (v2 : Int32) (v3 : Int32) (v4 : Int32) (v5 : Int32) : Option (Int32 × mIT × mLT) :=
  w_X12_readsMany_6 Fu k1 Fu v2 v3 v4 v5 (0 : Int32) (1 : Int32) I L
set_option maxRecDepth 20000 in
theorem ok_X12_readsMany {l : Launch} {E : mEn} {Fu : Nat} {I : mIT} {R : mRT} {L : mLT} {k1 : Nat} {v2 : Int32} {v3 : Int32} {v4 : Int32} {v5 : Int32} (hst : l.stackTraces = false) (hW : mWd R) (hk1 : (mT k1).1 = 1 ∧ k1 < 106) {out : Int32 × mIT × mLT} (h : f_X12_readsMany Fu I L k1 v2 v3 v4 v5 = some out) : mOk l E mX12_readsMany [.ref (mB E + 75), .ref (mB E + k1), .int v2, .int v3, .int v4, .int v5] 106 1 I R L 0 0 (mSame (some (.int (out.1))) 106 1 (out.2.1) R (out.2.2)) := by
  refine mOk_of hst (by decide) (Nat.le_of_ble_eq_true rfl) (fun X hC hE _ => ?_)
  have hC : mC X E mX12_readsMany RX12 cX12_readsMany := hC
  show mG X E 0 [(0, .ref (mB E + 75)), (1, .ref (mB E + k1)), (2, .int v2), (3, .int v3), (4, .int v4), (5, .int v5)] [] 106 1 I R L 0 0
  unfold f_X12_readsMany at h
  refine g_iconst hC dX12_readsMany_0 (v := (0 : Int32)) (by decide) ?_
  refine g_istore hC dX12_readsMany_1 rfl (by decide) (lv' := [(6, .int (0 : Int32)), (0, .ref (mB E + 75)), (1, .ref (mB E + k1)), (2, .int v2), (3, .int v3), (4, .int v4), (5, .int v5)]) rfl ?_
  refine g_iconst hC dX12_readsMany_3 (v := (1 : Int32)) (by decide) ?_
  refine g_istore hC dX12_readsMany_4 rfl (by decide) (lv' := [(7, .int (1 : Int32)), (6, .int (0 : Int32)), (0, .ref (mB E + 75)), (1, .ref (mB E + k1)), (2, .int v2), (3, .int v3), (4, .int v4), (5, .int v5)]) rfl ?_
  refine g_lv [2, 3, 4, 5, 6, 7, 1, 0] rfl ?_
  exact wo_X12_readsMany_6 hC hW hk1 hE Fu (v2) (v3) (v4) (v5) ((0 : Int32)) ((1 : Int32)) (I) (L) h
noncomputable def f_X12_need (Fu : Nat) (I : mIT) (L : mLT) (v1 : Int32) : Option (mIT × mLT) :=
  oB (f_X12_isGood Fu I) (fun r1 => if r1 = 0 then (some (I, L)) else (if v1 = 0 then (oB (f_X12_wrong Fu I (1 : Int32)) (fun r21 => some (r21, L))) else (oB (f_X12_reads Fu I L) (fun r13 => some (r13.1, r13.2)))))
set_option maxRecDepth 20000 in
theorem ok_X12_need {l : Launch} {E : mEn} {Fu : Nat} {I : mIT} {R : mRT} {L : mLT} {v1 : Int32} (hst : l.stackTraces = false) (hW : mWd R)  {out : mIT × mLT} (h : f_X12_need Fu I L v1 = some out) : mOk l E mX12_need [.ref (mB E + 75), .int v1] 106 1 I R L 0 0 (mSame none 106 1 (out.1) R (out.2)) := by
  refine mOk_of hst (by decide) (Nat.le_of_ble_eq_true rfl) (fun X hC hE _ => ?_)
  have hC : mC X E mX12_need RX12 cX12_need := hC
  show mG X E 0 [(0, .ref (mB E + 75)), (1, .int v1)] [] 106 1 I R L 0 0
  unfold f_X12_need at h
  refine g_aload_n hC dX12_need_0 rfl (q := 0) rfl ?_
  obtain ⟨r1, h1, h⟩ := oB_some h
  refine g_cV1 hC cv_X12_isGood wd_1869 ⟨Nat.le_of_ble_eq_true rfl, Nat.le_of_ble_eq_true rfl⟩ rfl (by decide) dX12_need_1 (As := []) (st := []) (ok_X12_isGood hC.2.2.2.2.2.2.2.1 hW h1) rfl rfl (Nat.le_of_ble_eq_true rfl) ⟨Nat.zero_le _, Nat.zero_le _⟩ ?_
  refine g_if_ne hC dX12_need_4 (tgt := 8) (by decide) (fun c4 => ?_) (fun c4 => ?_)
  · replace h := (if_neg c4).symm.trans h
    refine g_iload_n hC dX12_need_8 rfl (q := 1) rfl ?_
    refine g_if_eq hC dX12_need_9 (tgt := 19) (by decide) (fun c9 => ?_) (fun c9 => ?_)
    · replace h := (if_pos c9).symm.trans h
      refine g_aload_n hC dX12_need_19 rfl (q := 0) rfl ?_
      refine g_iconst hC dX12_need_20 (v := (1 : Int32)) (by decide) ?_
      obtain ⟨r21, h21, h⟩ := oB_some h
      refine g_cV0 hC cv_X12_wrong wd_1892 ⟨Nat.le_of_ble_eq_true rfl, Nat.le_of_ble_eq_true rfl⟩ rfl (by decide) dX12_need_21 (As := [.int (1 : Int32)]) (st := []) (ok_X12_wrong hC.2.2.2.2.2.2.2.1 hW h21) rfl rfl (Nat.le_of_ble_eq_true rfl) ⟨Nat.zero_le _, Nat.zero_le _⟩ ?_
      cases h
      exact g_vret hC hE rfl dX12_need_24 (Nat.zero_le _) (Nat.zero_le _) ⟨rfl, rfl, rfl, rfl, rfl, rfl⟩
    · replace h := (if_neg c9).symm.trans h
      refine g_aload_n hC dX12_need_12 rfl (q := 0) rfl ?_
      obtain ⟨r13, h13, h⟩ := oB_some h
      refine g_cV0 hC cv_X12_reads wd_1855 ⟨Nat.le_of_ble_eq_true rfl, Nat.le_of_ble_eq_true rfl⟩ rfl (by decide) dX12_need_13 (As := []) (st := []) (ok_X12_reads hC.2.2.2.2.2.2.2.1 hW h13) rfl rfl (Nat.le_of_ble_eq_true rfl) ⟨Nat.zero_le _, Nat.zero_le _⟩ ?_
      refine g_goto hC dX12_need_16 (tgt := 24) (by decide) ?_
      cases h
      exact g_vret hC hE rfl dX12_need_24 (Nat.zero_le _) (Nat.zero_le _) ⟨rfl, rfl, rfl, rfl, rfl, rfl⟩
  · replace h := (if_pos c4).symm.trans h
    cases h
    exact g_vret hC hE rfl dX12_need_7 (Nat.zero_le _) (Nat.zero_le _) ⟨rfl, rfl, rfl, rfl, rfl, rfl⟩
noncomputable def b_X12_line_267 (Fu : Nat)  (s1 : Int32) (I : mIT) (L : mLT) : Option (mIT × mLT) :=
  oB (f_X12_begins Fu I L s1) (fun r267 => if r267.1 = 0 then (oB (f_X12_isSign Fu r267.2.1 (59 : Int32)) (fun r297 => oB (f_X12_need Fu r267.2.1 r267.2.2 r297) (fun r300 => some (r300.1, r300.2)))) else (oB (f_X12_expression Fu (mU r267.2.1 75 31 (r267.2.1 75 32)) r267.2.2) (fun r282 => oB (f_X12_isSign Fu r282.1 (59 : Int32)) (fun r297 => oB (f_X12_need Fu r282.1 r282.2 r297) (fun r300 => some (r300.1, r300.2))))))
set_option maxRecDepth 20000 in
theorem bo_X12_line_267 {X : mXT} {E : mEn} {Fu : Nat} {R : mRT}  (hC : mC X E mX12_line RX12 cX12_line) (hW : mWd R)   {out : mIT × mLT} (hE : mEd X E 0 0 (mSame none 106 1 (out.1) R (out.2)))  (s1 : Int32) (I : mIT) (L : mLT) (h : b_X12_line_267 Fu  s1 I L = some out) : mG X E 267 [(0, .ref (mB E + 75))] [.int s1, .ref (mB E + 75)] 106 1 I R L 0 0 := by
  unfold b_X12_line_267 at h
  obtain ⟨r267, h267, h⟩ := oB_some h
  refine g_cV1 hC cv_X12_begins wd_1904 ⟨Nat.le_of_ble_eq_true rfl, Nat.le_of_ble_eq_true rfl⟩ rfl (by decide) dX12_line_267 (As := [.int s1]) (st := []) (ok_X12_begins hC.2.2.2.2.2.2.2.1 hW h267) rfl rfl (Nat.le_of_ble_eq_true rfl) ⟨Nat.zero_le _, Nat.zero_le _⟩ ?_
  refine g_if_eq hC dX12_line_270 (tgt := 293) (by decide) (fun c270 => ?_) (fun c270 => ?_)
  · replace h := (if_pos c270).symm.trans h
    refine g_aload_n hC dX12_line_293 rfl (q := 0) rfl ?_
    refine g_aload_n hC dX12_line_294 rfl (q := 0) rfl ?_
    refine g_bipush hC dX12_line_295 (v := (59 : Int32)) (by decide) ?_
    obtain ⟨r297, h297, h⟩ := oB_some h
    refine g_cV1 hC cv_X12_isSign wd_1926 ⟨Nat.le_of_ble_eq_true rfl, Nat.le_of_ble_eq_true rfl⟩ rfl (by decide) dX12_line_297 (As := [.int (59 : Int32)]) (st := [.ref (mB E + 75)]) (ok_X12_isSign hC.2.2.2.2.2.2.2.1 hW h297) rfl rfl (Nat.le_of_ble_eq_true rfl) ⟨Nat.zero_le _, Nat.zero_le _⟩ ?_
    obtain ⟨r300, h300, h⟩ := oB_some h
    refine g_cV0 hC cv_X12_need wd_1964 ⟨Nat.le_of_ble_eq_true rfl, Nat.le_of_ble_eq_true rfl⟩ rfl (by decide) dX12_line_300 (As := [.int r297]) (st := []) (ok_X12_need hC.2.2.2.2.2.2.2.1 hW h300) rfl rfl (Nat.le_of_ble_eq_true rfl) ⟨Nat.zero_le _, Nat.zero_le _⟩ ?_
    cases h
    exact g_vret hC hE rfl dX12_line_303 (Nat.zero_le _) (Nat.zero_le _) ⟨rfl, rfl, rfl, rfl, rfl, rfl⟩
  · replace h := (if_neg c270).symm.trans h
    refine g_aload_n hC dX12_line_273 rfl (q := 0) rfl ?_
    refine g_aload_n hC dX12_line_274 rfl (q := 0) rfl ?_
    refine g_geti hC fd_RX12_183 rfl (by decide) (Or.inl rfl) dX12_line_275 ?_
    refine g_puti hC fd_RX12_276 rfl (by decide) rfl dX12_line_278 (nm_e ?_)
    refine g_aload_n hC dX12_line_281 rfl (q := 0) rfl ?_
    obtain ⟨r282, h282, h⟩ := oB_some h
    refine g_cV0 hC cv_X12_expression wd_1918 ⟨Nat.le_of_ble_eq_true rfl, Nat.le_of_ble_eq_true rfl⟩ rfl (by decide) dX12_line_282 (As := []) (st := []) (ok_X12_expression hC.2.2.2.2.2.2.2.1 hW h282) rfl rfl (Nat.le_of_ble_eq_true rfl) ⟨Nat.zero_le _, Nat.zero_le _⟩ ?_
    refine g_goto hC dX12_line_285 (tgt := 293) (by decide) ?_
    refine g_aload_n hC dX12_line_293 rfl (q := 0) rfl ?_
    refine g_aload_n hC dX12_line_294 rfl (q := 0) rfl ?_
    refine g_bipush hC dX12_line_295 (v := (59 : Int32)) (by decide) ?_
    obtain ⟨r297, h297, h⟩ := oB_some h
    refine g_cV1 hC cv_X12_isSign wd_1926 ⟨Nat.le_of_ble_eq_true rfl, Nat.le_of_ble_eq_true rfl⟩ rfl (by decide) dX12_line_297 (As := [.int (59 : Int32)]) (st := [.ref (mB E + 75)]) (ok_X12_isSign hC.2.2.2.2.2.2.2.1 hW h297) rfl rfl (Nat.le_of_ble_eq_true rfl) ⟨Nat.zero_le _, Nat.zero_le _⟩ ?_
    obtain ⟨r300, h300, h⟩ := oB_some h
    refine g_cV0 hC cv_X12_need wd_1964 ⟨Nat.le_of_ble_eq_true rfl, Nat.le_of_ble_eq_true rfl⟩ rfl (by decide) dX12_line_300 (As := [.int r297]) (st := []) (ok_X12_need hC.2.2.2.2.2.2.2.1 hW h300) rfl rfl (Nat.le_of_ble_eq_true rfl) ⟨Nat.zero_le _, Nat.zero_le _⟩ ?_
    cases h
    exact g_vret hC hE rfl dX12_line_303 (Nat.zero_le _) (Nat.zero_le _) ⟨rfl, rfl, rfl, rfl, rfl, rfl⟩
noncomputable def b_X12_line_226 (Fu : Nat)  (s1 : Int32) (I : mIT) (L : mLT) : Option (mIT × mLT) :=
  oB (f_X12_begins Fu I L s1) (fun r226 => if r226.1 = 0 then (oB (f_X12_isSign Fu r226.2.1 (59 : Int32)) (fun r297 => oB (f_X12_need Fu r226.2.1 r226.2.2 r297) (fun r300 => some (r300.1, r300.2)))) else (oB (f_X12_expression Fu (mU r226.2.1 75 30 (r226.2.1 75 32)) r226.2.2) (fun r241 => oB (f_X12_isSign Fu r241.1 (59 : Int32)) (fun r297 => oB (f_X12_need Fu r241.1 r241.2 r297) (fun r300 => some (r300.1, r300.2))))))
set_option maxRecDepth 20000 in
theorem bo_X12_line_226 {X : mXT} {E : mEn} {Fu : Nat} {R : mRT}  (hC : mC X E mX12_line RX12 cX12_line) (hW : mWd R)   {out : mIT × mLT} (hE : mEd X E 0 0 (mSame none 106 1 (out.1) R (out.2)))  (s1 : Int32) (I : mIT) (L : mLT) (h : b_X12_line_226 Fu  s1 I L = some out) : mG X E 226 [(0, .ref (mB E + 75))] [.int s1, .ref (mB E + 75)] 106 1 I R L 0 0 := by
  unfold b_X12_line_226 at h
  obtain ⟨r226, h226, h⟩ := oB_some h
  refine g_cV1 hC cv_X12_begins wd_1904 ⟨Nat.le_of_ble_eq_true rfl, Nat.le_of_ble_eq_true rfl⟩ rfl (by decide) dX12_line_226 (As := [.int s1]) (st := []) (ok_X12_begins hC.2.2.2.2.2.2.2.1 hW h226) rfl rfl (Nat.le_of_ble_eq_true rfl) ⟨Nat.zero_le _, Nat.zero_le _⟩ ?_
  refine g_if_eq hC dX12_line_229 (tgt := 293) (by decide) (fun c229 => ?_) (fun c229 => ?_)
  · replace h := (if_pos c229).symm.trans h
    refine g_aload_n hC dX12_line_293 rfl (q := 0) rfl ?_
    refine g_aload_n hC dX12_line_294 rfl (q := 0) rfl ?_
    refine g_bipush hC dX12_line_295 (v := (59 : Int32)) (by decide) ?_
    obtain ⟨r297, h297, h⟩ := oB_some h
    refine g_cV1 hC cv_X12_isSign wd_1926 ⟨Nat.le_of_ble_eq_true rfl, Nat.le_of_ble_eq_true rfl⟩ rfl (by decide) dX12_line_297 (As := [.int (59 : Int32)]) (st := [.ref (mB E + 75)]) (ok_X12_isSign hC.2.2.2.2.2.2.2.1 hW h297) rfl rfl (Nat.le_of_ble_eq_true rfl) ⟨Nat.zero_le _, Nat.zero_le _⟩ ?_
    obtain ⟨r300, h300, h⟩ := oB_some h
    refine g_cV0 hC cv_X12_need wd_1964 ⟨Nat.le_of_ble_eq_true rfl, Nat.le_of_ble_eq_true rfl⟩ rfl (by decide) dX12_line_300 (As := [.int r297]) (st := []) (ok_X12_need hC.2.2.2.2.2.2.2.1 hW h300) rfl rfl (Nat.le_of_ble_eq_true rfl) ⟨Nat.zero_le _, Nat.zero_le _⟩ ?_
    cases h
    exact g_vret hC hE rfl dX12_line_303 (Nat.zero_le _) (Nat.zero_le _) ⟨rfl, rfl, rfl, rfl, rfl, rfl⟩
  · replace h := (if_neg c229).symm.trans h
    refine g_aload_n hC dX12_line_232 rfl (q := 0) rfl ?_
    refine g_aload_n hC dX12_line_233 rfl (q := 0) rfl ?_
    refine g_geti hC fd_RX12_183 rfl (by decide) (Or.inl rfl) dX12_line_234 ?_
    refine g_puti hC fd_RX12_270 rfl (by decide) rfl dX12_line_237 (nm_e ?_)
    refine g_aload_n hC dX12_line_240 rfl (q := 0) rfl ?_
    obtain ⟨r241, h241, h⟩ := oB_some h
    refine g_cV0 hC cv_X12_expression wd_1918 ⟨Nat.le_of_ble_eq_true rfl, Nat.le_of_ble_eq_true rfl⟩ rfl (by decide) dX12_line_241 (As := []) (st := []) (ok_X12_expression hC.2.2.2.2.2.2.2.1 hW h241) rfl rfl (Nat.le_of_ble_eq_true rfl) ⟨Nat.zero_le _, Nat.zero_le _⟩ ?_
    refine g_goto hC dX12_line_244 (tgt := 293) (by decide) ?_
    refine g_aload_n hC dX12_line_293 rfl (q := 0) rfl ?_
    refine g_aload_n hC dX12_line_294 rfl (q := 0) rfl ?_
    refine g_bipush hC dX12_line_295 (v := (59 : Int32)) (by decide) ?_
    obtain ⟨r297, h297, h⟩ := oB_some h
    refine g_cV1 hC cv_X12_isSign wd_1926 ⟨Nat.le_of_ble_eq_true rfl, Nat.le_of_ble_eq_true rfl⟩ rfl (by decide) dX12_line_297 (As := [.int (59 : Int32)]) (st := [.ref (mB E + 75)]) (ok_X12_isSign hC.2.2.2.2.2.2.2.1 hW h297) rfl rfl (Nat.le_of_ble_eq_true rfl) ⟨Nat.zero_le _, Nat.zero_le _⟩ ?_
    obtain ⟨r300, h300, h⟩ := oB_some h
    refine g_cV0 hC cv_X12_need wd_1964 ⟨Nat.le_of_ble_eq_true rfl, Nat.le_of_ble_eq_true rfl⟩ rfl (by decide) dX12_line_300 (As := [.int r297]) (st := []) (ok_X12_need hC.2.2.2.2.2.2.2.1 hW h300) rfl rfl (Nat.le_of_ble_eq_true rfl) ⟨Nat.zero_le _, Nat.zero_le _⟩ ?_
    cases h
    exact g_vret hC hE rfl dX12_line_303 (Nat.zero_le _) (Nat.zero_le _) ⟨rfl, rfl, rfl, rfl, rfl, rfl⟩
noncomputable def b_X12_line_178 (Fu : Nat)  (s1 : Int32) (I : mIT) (L : mLT) : Option (mIT × mLT) :=
  oB (f_X12_begins Fu I L s1) (fun r178 => if r178.1 = 0 then (oB (f_X12_isSign Fu r178.2.1 (59 : Int32)) (fun r297 => oB (f_X12_need Fu r178.2.1 r178.2.2 r297) (fun r300 => some (r300.1, r300.2)))) else (oB (f_X12_readsMany Fu r178.2.1 r178.2.2 85 (41 : Int32) (12 : Int32) (31 : Int32) (1 : Int32)) (fun r197 => oB (f_X12_isSign Fu (mU r197.2.1 75 29 r197.1) (59 : Int32)) (fun r297 => oB (f_X12_need Fu (mU r197.2.1 75 29 r197.1) r197.2.2 r297) (fun r300 => some (r300.1, r300.2))))))
set_option maxRecDepth 20000 in
theorem bo_X12_line_178 {X : mXT} {E : mEn} {Fu : Nat} {R : mRT}  (hC : mC X E mX12_line RX12 cX12_line) (hW : mWd R)   {out : mIT × mLT} (hE : mEd X E 0 0 (mSame none 106 1 (out.1) R (out.2)))  (s1 : Int32) (I : mIT) (L : mLT) (h : b_X12_line_178 Fu  s1 I L = some out) : mG X E 178 [(0, .ref (mB E + 75))] [.int s1, .ref (mB E + 75)] 106 1 I R L 0 0 := by
  unfold b_X12_line_178 at h
  obtain ⟨r178, h178, h⟩ := oB_some h
  refine g_cV1 hC cv_X12_begins wd_1904 ⟨Nat.le_of_ble_eq_true rfl, Nat.le_of_ble_eq_true rfl⟩ rfl (by decide) dX12_line_178 (As := [.int s1]) (st := []) (ok_X12_begins hC.2.2.2.2.2.2.2.1 hW h178) rfl rfl (Nat.le_of_ble_eq_true rfl) ⟨Nat.zero_le _, Nat.zero_le _⟩ ?_
  refine g_if_eq hC dX12_line_181 (tgt := 293) (by decide) (fun c181 => ?_) (fun c181 => ?_)
  · replace h := (if_pos c181).symm.trans h
    refine g_aload_n hC dX12_line_293 rfl (q := 0) rfl ?_
    refine g_aload_n hC dX12_line_294 rfl (q := 0) rfl ?_
    refine g_bipush hC dX12_line_295 (v := (59 : Int32)) (by decide) ?_
    obtain ⟨r297, h297, h⟩ := oB_some h
    refine g_cV1 hC cv_X12_isSign wd_1926 ⟨Nat.le_of_ble_eq_true rfl, Nat.le_of_ble_eq_true rfl⟩ rfl (by decide) dX12_line_297 (As := [.int (59 : Int32)]) (st := [.ref (mB E + 75)]) (ok_X12_isSign hC.2.2.2.2.2.2.2.1 hW h297) rfl rfl (Nat.le_of_ble_eq_true rfl) ⟨Nat.zero_le _, Nat.zero_le _⟩ ?_
    obtain ⟨r300, h300, h⟩ := oB_some h
    refine g_cV0 hC cv_X12_need wd_1964 ⟨Nat.le_of_ble_eq_true rfl, Nat.le_of_ble_eq_true rfl⟩ rfl (by decide) dX12_line_300 (As := [.int r297]) (st := []) (ok_X12_need hC.2.2.2.2.2.2.2.1 hW h300) rfl rfl (Nat.le_of_ble_eq_true rfl) ⟨Nat.zero_le _, Nat.zero_le _⟩ ?_
    cases h
    exact g_vret hC hE rfl dX12_line_303 (Nat.zero_le _) (Nat.zero_le _) ⟨rfl, rfl, rfl, rfl, rfl, rfl⟩
  · replace h := (if_neg c181).symm.trans h
    refine g_aload_n hC dX12_line_184 rfl (q := 0) rfl ?_
    refine g_aload_n hC dX12_line_185 rfl (q := 0) rfl ?_
    refine g_aload_n hC dX12_line_186 rfl (q := 0) rfl ?_
    refine g_getr hC fd_RX12_50 rfl (by decide) (C0 := "") (t0 := _) (Or.inr rfl) (rr_75_38 hW.1) dX12_line_187 ?_
    refine g_bipush hC dX12_line_190 (v := (41 : Int32)) (by decide) ?_
    refine g_bipush hC dX12_line_192 (v := (12 : Int32)) (by decide) ?_
    refine g_bipush hC dX12_line_194 (v := (31 : Int32)) (by decide) ?_
    refine g_iconst hC dX12_line_196 (v := (1 : Int32)) (by decide) ?_
    obtain ⟨r197, h197, h⟩ := oB_some h
    refine g_cV1 hC cv_X12_readsMany wd_1908 ⟨Nat.le_of_ble_eq_true rfl, Nat.le_of_ble_eq_true rfl⟩ rfl (by decide) dX12_line_197 (As := [.ref (mB E + 85), .int (41 : Int32), .int (12 : Int32), .int (31 : Int32), .int (1 : Int32)]) (st := [.ref (mB E + 75)]) (ok_X12_readsMany hC.2.2.2.2.2.2.2.1 hW ⟨rfl, (by decide)⟩ h197) rfl rfl (Nat.le_of_ble_eq_true rfl) ⟨Nat.zero_le _, Nat.zero_le _⟩ ?_
    refine g_puti hC fd_RX12_267 rfl (by decide) rfl dX12_line_200 (nm_e ?_)
    refine g_goto hC dX12_line_203 (tgt := 293) (by decide) ?_
    refine g_aload_n hC dX12_line_293 rfl (q := 0) rfl ?_
    refine g_aload_n hC dX12_line_294 rfl (q := 0) rfl ?_
    refine g_bipush hC dX12_line_295 (v := (59 : Int32)) (by decide) ?_
    obtain ⟨r297, h297, h⟩ := oB_some h
    refine g_cV1 hC cv_X12_isSign wd_1926 ⟨Nat.le_of_ble_eq_true rfl, Nat.le_of_ble_eq_true rfl⟩ rfl (by decide) dX12_line_297 (As := [.int (59 : Int32)]) (st := [.ref (mB E + 75)]) (ok_X12_isSign hC.2.2.2.2.2.2.2.1 hW h297) rfl rfl (Nat.le_of_ble_eq_true rfl) ⟨Nat.zero_le _, Nat.zero_le _⟩ ?_
    obtain ⟨r300, h300, h⟩ := oB_some h
    refine g_cV0 hC cv_X12_need wd_1964 ⟨Nat.le_of_ble_eq_true rfl, Nat.le_of_ble_eq_true rfl⟩ rfl (by decide) dX12_line_300 (As := [.int r297]) (st := []) (ok_X12_need hC.2.2.2.2.2.2.2.1 hW h300) rfl rfl (Nat.le_of_ble_eq_true rfl) ⟨Nat.zero_le _, Nat.zero_le _⟩ ?_
    cases h
    exact g_vret hC hE rfl dX12_line_303 (Nat.zero_le _) (Nat.zero_le _) ⟨rfl, rfl, rfl, rfl, rfl, rfl⟩
noncomputable def b_X12_line_132 (Fu : Nat)  (s1 : Int32) (I : mIT) (L : mLT) : Option (mIT × mLT) :=
  oB (f_X12_begins Fu I L s1) (fun r132 => if r132.1 = 0 then (oB (f_X12_isSign Fu r132.2.1 (59 : Int32)) (fun r297 => oB (f_X12_need Fu r132.2.1 r132.2.2 r297) (fun r300 => some (r300.1, r300.2)))) else (oB (f_X12_readsMany Fu r132.2.1 r132.2.2 84 (0 : Int32) (8 : Int32) (15 : Int32) (0 : Int32)) (fun r150 => oB (f_X12_isSign Fu (mU r150.2.1 75 28 r150.1) (59 : Int32)) (fun r297 => oB (f_X12_need Fu (mU r150.2.1 75 28 r150.1) r150.2.2 r297) (fun r300 => some (r300.1, r300.2))))))
set_option maxRecDepth 20000 in
theorem bo_X12_line_132 {X : mXT} {E : mEn} {Fu : Nat} {R : mRT}  (hC : mC X E mX12_line RX12 cX12_line) (hW : mWd R)   {out : mIT × mLT} (hE : mEd X E 0 0 (mSame none 106 1 (out.1) R (out.2)))  (s1 : Int32) (I : mIT) (L : mLT) (h : b_X12_line_132 Fu  s1 I L = some out) : mG X E 132 [(0, .ref (mB E + 75))] [.int s1, .ref (mB E + 75)] 106 1 I R L 0 0 := by
  unfold b_X12_line_132 at h
  obtain ⟨r132, h132, h⟩ := oB_some h
  refine g_cV1 hC cv_X12_begins wd_1904 ⟨Nat.le_of_ble_eq_true rfl, Nat.le_of_ble_eq_true rfl⟩ rfl (by decide) dX12_line_132 (As := [.int s1]) (st := []) (ok_X12_begins hC.2.2.2.2.2.2.2.1 hW h132) rfl rfl (Nat.le_of_ble_eq_true rfl) ⟨Nat.zero_le _, Nat.zero_le _⟩ ?_
  refine g_if_eq hC dX12_line_135 (tgt := 293) (by decide) (fun c135 => ?_) (fun c135 => ?_)
  · replace h := (if_pos c135).symm.trans h
    refine g_aload_n hC dX12_line_293 rfl (q := 0) rfl ?_
    refine g_aload_n hC dX12_line_294 rfl (q := 0) rfl ?_
    refine g_bipush hC dX12_line_295 (v := (59 : Int32)) (by decide) ?_
    obtain ⟨r297, h297, h⟩ := oB_some h
    refine g_cV1 hC cv_X12_isSign wd_1926 ⟨Nat.le_of_ble_eq_true rfl, Nat.le_of_ble_eq_true rfl⟩ rfl (by decide) dX12_line_297 (As := [.int (59 : Int32)]) (st := [.ref (mB E + 75)]) (ok_X12_isSign hC.2.2.2.2.2.2.2.1 hW h297) rfl rfl (Nat.le_of_ble_eq_true rfl) ⟨Nat.zero_le _, Nat.zero_le _⟩ ?_
    obtain ⟨r300, h300, h⟩ := oB_some h
    refine g_cV0 hC cv_X12_need wd_1964 ⟨Nat.le_of_ble_eq_true rfl, Nat.le_of_ble_eq_true rfl⟩ rfl (by decide) dX12_line_300 (As := [.int r297]) (st := []) (ok_X12_need hC.2.2.2.2.2.2.2.1 hW h300) rfl rfl (Nat.le_of_ble_eq_true rfl) ⟨Nat.zero_le _, Nat.zero_le _⟩ ?_
    cases h
    exact g_vret hC hE rfl dX12_line_303 (Nat.zero_le _) (Nat.zero_le _) ⟨rfl, rfl, rfl, rfl, rfl, rfl⟩
  · replace h := (if_neg c135).symm.trans h
    refine g_aload_n hC dX12_line_138 rfl (q := 0) rfl ?_
    refine g_aload_n hC dX12_line_139 rfl (q := 0) rfl ?_
    refine g_aload_n hC dX12_line_140 rfl (q := 0) rfl ?_
    refine g_getr hC fd_RX12_47 rfl (by decide) (C0 := "") (t0 := _) (Or.inr rfl) (rr_75_37 hW.1) dX12_line_141 ?_
    refine g_iconst hC dX12_line_144 (v := (0 : Int32)) (by decide) ?_
    refine g_bipush hC dX12_line_145 (v := (8 : Int32)) (by decide) ?_
    refine g_bipush hC dX12_line_147 (v := (15 : Int32)) (by decide) ?_
    refine g_iconst hC dX12_line_149 (v := (0 : Int32)) (by decide) ?_
    obtain ⟨r150, h150, h⟩ := oB_some h
    refine g_cV1 hC cv_X12_readsMany wd_1908 ⟨Nat.le_of_ble_eq_true rfl, Nat.le_of_ble_eq_true rfl⟩ rfl (by decide) dX12_line_150 (As := [.ref (mB E + 84), .int (0 : Int32), .int (8 : Int32), .int (15 : Int32), .int (0 : Int32)]) (st := [.ref (mB E + 75)]) (ok_X12_readsMany hC.2.2.2.2.2.2.2.1 hW ⟨rfl, (by decide)⟩ h150) rfl rfl (Nat.le_of_ble_eq_true rfl) ⟨Nat.zero_le _, Nat.zero_le _⟩ ?_
    refine g_puti hC fd_RX12_264 rfl (by decide) rfl dX12_line_153 (nm_e ?_)
    refine g_goto hC dX12_line_156 (tgt := 293) (by decide) ?_
    refine g_aload_n hC dX12_line_293 rfl (q := 0) rfl ?_
    refine g_aload_n hC dX12_line_294 rfl (q := 0) rfl ?_
    refine g_bipush hC dX12_line_295 (v := (59 : Int32)) (by decide) ?_
    obtain ⟨r297, h297, h⟩ := oB_some h
    refine g_cV1 hC cv_X12_isSign wd_1926 ⟨Nat.le_of_ble_eq_true rfl, Nat.le_of_ble_eq_true rfl⟩ rfl (by decide) dX12_line_297 (As := [.int (59 : Int32)]) (st := [.ref (mB E + 75)]) (ok_X12_isSign hC.2.2.2.2.2.2.2.1 hW h297) rfl rfl (Nat.le_of_ble_eq_true rfl) ⟨Nat.zero_le _, Nat.zero_le _⟩ ?_
    obtain ⟨r300, h300, h⟩ := oB_some h
    refine g_cV0 hC cv_X12_need wd_1964 ⟨Nat.le_of_ble_eq_true rfl, Nat.le_of_ble_eq_true rfl⟩ rfl (by decide) dX12_line_300 (As := [.int r297]) (st := []) (ok_X12_need hC.2.2.2.2.2.2.2.1 hW h300) rfl rfl (Nat.le_of_ble_eq_true rfl) ⟨Nat.zero_le _, Nat.zero_le _⟩ ?_
    cases h
    exact g_vret hC hE rfl dX12_line_303 (Nat.zero_le _) (Nat.zero_le _) ⟨rfl, rfl, rfl, rfl, rfl, rfl⟩
noncomputable def b_X12_line_93 (Fu : Nat)  (s1 : Int32) (I : mIT) (L : mLT) : Option (mIT × mLT) :=
  oB (f_X12_begins Fu I L s1) (fun r93 => if r93.1 = 0 then (oB (f_X12_isSign Fu r93.2.1 (59 : Int32)) (fun r297 => oB (f_X12_need Fu r93.2.1 r93.2.2 r297) (fun r300 => some (r300.1, r300.2)))) else (oB (f_X12_number Fu r93.2.1 r93.2.2 (1 : Int32) (99 : Int32)) (fun r104 => oB (f_X12_isSign Fu (mU r104.2.1 75 27 r104.1) (59 : Int32)) (fun r297 => oB (f_X12_need Fu (mU r104.2.1 75 27 r104.1) r104.2.2 r297) (fun r300 => some (r300.1, r300.2))))))
set_option maxRecDepth 20000 in
theorem bo_X12_line_93 {X : mXT} {E : mEn} {Fu : Nat} {R : mRT}  (hC : mC X E mX12_line RX12 cX12_line) (hW : mWd R)   {out : mIT × mLT} (hE : mEd X E 0 0 (mSame none 106 1 (out.1) R (out.2)))  (s1 : Int32) (I : mIT) (L : mLT) (h : b_X12_line_93 Fu  s1 I L = some out) : mG X E 93 [(0, .ref (mB E + 75))] [.int s1, .ref (mB E + 75)] 106 1 I R L 0 0 := by
  unfold b_X12_line_93 at h
  obtain ⟨r93, h93, h⟩ := oB_some h
  refine g_cV1 hC cv_X12_begins wd_1904 ⟨Nat.le_of_ble_eq_true rfl, Nat.le_of_ble_eq_true rfl⟩ rfl (by decide) dX12_line_93 (As := [.int s1]) (st := []) (ok_X12_begins hC.2.2.2.2.2.2.2.1 hW h93) rfl rfl (Nat.le_of_ble_eq_true rfl) ⟨Nat.zero_le _, Nat.zero_le _⟩ ?_
  refine g_if_eq hC dX12_line_96 (tgt := 293) (by decide) (fun c96 => ?_) (fun c96 => ?_)
  · replace h := (if_pos c96).symm.trans h
    refine g_aload_n hC dX12_line_293 rfl (q := 0) rfl ?_
    refine g_aload_n hC dX12_line_294 rfl (q := 0) rfl ?_
    refine g_bipush hC dX12_line_295 (v := (59 : Int32)) (by decide) ?_
    obtain ⟨r297, h297, h⟩ := oB_some h
    refine g_cV1 hC cv_X12_isSign wd_1926 ⟨Nat.le_of_ble_eq_true rfl, Nat.le_of_ble_eq_true rfl⟩ rfl (by decide) dX12_line_297 (As := [.int (59 : Int32)]) (st := [.ref (mB E + 75)]) (ok_X12_isSign hC.2.2.2.2.2.2.2.1 hW h297) rfl rfl (Nat.le_of_ble_eq_true rfl) ⟨Nat.zero_le _, Nat.zero_le _⟩ ?_
    obtain ⟨r300, h300, h⟩ := oB_some h
    refine g_cV0 hC cv_X12_need wd_1964 ⟨Nat.le_of_ble_eq_true rfl, Nat.le_of_ble_eq_true rfl⟩ rfl (by decide) dX12_line_300 (As := [.int r297]) (st := []) (ok_X12_need hC.2.2.2.2.2.2.2.1 hW h300) rfl rfl (Nat.le_of_ble_eq_true rfl) ⟨Nat.zero_le _, Nat.zero_le _⟩ ?_
    cases h
    exact g_vret hC hE rfl dX12_line_303 (Nat.zero_le _) (Nat.zero_le _) ⟨rfl, rfl, rfl, rfl, rfl, rfl⟩
  · replace h := (if_neg c96).symm.trans h
    refine g_aload_n hC dX12_line_99 rfl (q := 0) rfl ?_
    refine g_aload_n hC dX12_line_100 rfl (q := 0) rfl ?_
    refine g_iconst hC dX12_line_101 (v := (1 : Int32)) (by decide) ?_
    refine g_bipush hC dX12_line_102 (v := (99 : Int32)) (by decide) ?_
    obtain ⟨r104, h104, h⟩ := oB_some h
    refine g_cV1 hC cv_X12_number wd_1896 ⟨Nat.le_of_ble_eq_true rfl, Nat.le_of_ble_eq_true rfl⟩ rfl (by decide) dX12_line_104 (As := [.int (1 : Int32), .int (99 : Int32)]) (st := [.ref (mB E + 75)]) (ok_X12_number hC.2.2.2.2.2.2.2.1 hW h104) rfl rfl (Nat.le_of_ble_eq_true rfl) ⟨Nat.zero_le _, Nat.zero_le _⟩ ?_
    refine g_puti hC fd_RX12_261 rfl (by decide) rfl dX12_line_107 (nm_e ?_)
    refine g_goto hC dX12_line_110 (tgt := 293) (by decide) ?_
    refine g_aload_n hC dX12_line_293 rfl (q := 0) rfl ?_
    refine g_aload_n hC dX12_line_294 rfl (q := 0) rfl ?_
    refine g_bipush hC dX12_line_295 (v := (59 : Int32)) (by decide) ?_
    obtain ⟨r297, h297, h⟩ := oB_some h
    refine g_cV1 hC cv_X12_isSign wd_1926 ⟨Nat.le_of_ble_eq_true rfl, Nat.le_of_ble_eq_true rfl⟩ rfl (by decide) dX12_line_297 (As := [.int (59 : Int32)]) (st := [.ref (mB E + 75)]) (ok_X12_isSign hC.2.2.2.2.2.2.2.1 hW h297) rfl rfl (Nat.le_of_ble_eq_true rfl) ⟨Nat.zero_le _, Nat.zero_le _⟩ ?_
    obtain ⟨r300, h300, h⟩ := oB_some h
    refine g_cV0 hC cv_X12_need wd_1964 ⟨Nat.le_of_ble_eq_true rfl, Nat.le_of_ble_eq_true rfl⟩ rfl (by decide) dX12_line_300 (As := [.int r297]) (st := []) (ok_X12_need hC.2.2.2.2.2.2.2.1 hW h300) rfl rfl (Nat.le_of_ble_eq_true rfl) ⟨Nat.zero_le _, Nat.zero_le _⟩ ?_
    cases h
    exact g_vret hC hE rfl dX12_line_303 (Nat.zero_le _) (Nat.zero_le _) ⟨rfl, rfl, rfl, rfl, rfl, rfl⟩
noncomputable def b_X12_line_46 (Fu : Nat)  (s1 : Int32) (I : mIT) (L : mLT) : Option (mIT × mLT) :=
  oB (f_X12_begins Fu I L s1) (fun r46 => if r46.1 = 0 then (oB (f_X12_isSign Fu r46.2.1 (59 : Int32)) (fun r297 => oB (f_X12_need Fu r46.2.1 r46.2.2 r297) (fun r300 => some (r300.1, r300.2)))) else (oB (f_X12_readsMany Fu r46.2.1 r46.2.2 83 (0 : Int32) (10 : Int32) (9 : Int32) (0 : Int32)) (fun r64 => oB (f_X12_isSign Fu (mU r64.2.1 75 26 r64.1) (59 : Int32)) (fun r297 => oB (f_X12_need Fu (mU r64.2.1 75 26 r64.1) r64.2.2 r297) (fun r300 => some (r300.1, r300.2))))))
set_option maxRecDepth 20000 in
theorem bo_X12_line_46 {X : mXT} {E : mEn} {Fu : Nat} {R : mRT}  (hC : mC X E mX12_line RX12 cX12_line) (hW : mWd R)   {out : mIT × mLT} (hE : mEd X E 0 0 (mSame none 106 1 (out.1) R (out.2)))  (s1 : Int32) (I : mIT) (L : mLT) (h : b_X12_line_46 Fu  s1 I L = some out) : mG X E 46 [(0, .ref (mB E + 75))] [.int s1, .ref (mB E + 75)] 106 1 I R L 0 0 := by
  unfold b_X12_line_46 at h
  obtain ⟨r46, h46, h⟩ := oB_some h
  refine g_cV1 hC cv_X12_begins wd_1904 ⟨Nat.le_of_ble_eq_true rfl, Nat.le_of_ble_eq_true rfl⟩ rfl (by decide) dX12_line_46 (As := [.int s1]) (st := []) (ok_X12_begins hC.2.2.2.2.2.2.2.1 hW h46) rfl rfl (Nat.le_of_ble_eq_true rfl) ⟨Nat.zero_le _, Nat.zero_le _⟩ ?_
  refine g_if_eq hC dX12_line_49 (tgt := 293) (by decide) (fun c49 => ?_) (fun c49 => ?_)
  · replace h := (if_pos c49).symm.trans h
    refine g_aload_n hC dX12_line_293 rfl (q := 0) rfl ?_
    refine g_aload_n hC dX12_line_294 rfl (q := 0) rfl ?_
    refine g_bipush hC dX12_line_295 (v := (59 : Int32)) (by decide) ?_
    obtain ⟨r297, h297, h⟩ := oB_some h
    refine g_cV1 hC cv_X12_isSign wd_1926 ⟨Nat.le_of_ble_eq_true rfl, Nat.le_of_ble_eq_true rfl⟩ rfl (by decide) dX12_line_297 (As := [.int (59 : Int32)]) (st := [.ref (mB E + 75)]) (ok_X12_isSign hC.2.2.2.2.2.2.2.1 hW h297) rfl rfl (Nat.le_of_ble_eq_true rfl) ⟨Nat.zero_le _, Nat.zero_le _⟩ ?_
    obtain ⟨r300, h300, h⟩ := oB_some h
    refine g_cV0 hC cv_X12_need wd_1964 ⟨Nat.le_of_ble_eq_true rfl, Nat.le_of_ble_eq_true rfl⟩ rfl (by decide) dX12_line_300 (As := [.int r297]) (st := []) (ok_X12_need hC.2.2.2.2.2.2.2.1 hW h300) rfl rfl (Nat.le_of_ble_eq_true rfl) ⟨Nat.zero_le _, Nat.zero_le _⟩ ?_
    cases h
    exact g_vret hC hE rfl dX12_line_303 (Nat.zero_le _) (Nat.zero_le _) ⟨rfl, rfl, rfl, rfl, rfl, rfl⟩
  · replace h := (if_neg c49).symm.trans h
    refine g_aload_n hC dX12_line_52 rfl (q := 0) rfl ?_
    refine g_aload_n hC dX12_line_53 rfl (q := 0) rfl ?_
    refine g_aload_n hC dX12_line_54 rfl (q := 0) rfl ?_
    refine g_getr hC fd_RX12_44 rfl (by decide) (C0 := "") (t0 := _) (Or.inr rfl) (rr_75_36 hW.1) dX12_line_55 ?_
    refine g_iconst hC dX12_line_58 (v := (0 : Int32)) (by decide) ?_
    refine g_bipush hC dX12_line_59 (v := (10 : Int32)) (by decide) ?_
    refine g_bipush hC dX12_line_61 (v := (9 : Int32)) (by decide) ?_
    refine g_iconst hC dX12_line_63 (v := (0 : Int32)) (by decide) ?_
    obtain ⟨r64, h64, h⟩ := oB_some h
    refine g_cV1 hC cv_X12_readsMany wd_1908 ⟨Nat.le_of_ble_eq_true rfl, Nat.le_of_ble_eq_true rfl⟩ rfl (by decide) dX12_line_64 (As := [.ref (mB E + 83), .int (0 : Int32), .int (10 : Int32), .int (9 : Int32), .int (0 : Int32)]) (st := [.ref (mB E + 75)]) (ok_X12_readsMany hC.2.2.2.2.2.2.2.1 hW ⟨rfl, (by decide)⟩ h64) rfl rfl (Nat.le_of_ble_eq_true rfl) ⟨Nat.zero_le _, Nat.zero_le _⟩ ?_
    refine g_puti hC fd_RX12_250 rfl (by decide) rfl dX12_line_67 (nm_e ?_)
    refine g_goto hC dX12_line_70 (tgt := 293) (by decide) ?_
    refine g_aload_n hC dX12_line_293 rfl (q := 0) rfl ?_
    refine g_aload_n hC dX12_line_294 rfl (q := 0) rfl ?_
    refine g_bipush hC dX12_line_295 (v := (59 : Int32)) (by decide) ?_
    obtain ⟨r297, h297, h⟩ := oB_some h
    refine g_cV1 hC cv_X12_isSign wd_1926 ⟨Nat.le_of_ble_eq_true rfl, Nat.le_of_ble_eq_true rfl⟩ rfl (by decide) dX12_line_297 (As := [.int (59 : Int32)]) (st := [.ref (mB E + 75)]) (ok_X12_isSign hC.2.2.2.2.2.2.2.1 hW h297) rfl rfl (Nat.le_of_ble_eq_true rfl) ⟨Nat.zero_le _, Nat.zero_le _⟩ ?_
    obtain ⟨r300, h300, h⟩ := oB_some h
    refine g_cV0 hC cv_X12_need wd_1964 ⟨Nat.le_of_ble_eq_true rfl, Nat.le_of_ble_eq_true rfl⟩ rfl (by decide) dX12_line_300 (As := [.int r297]) (st := []) (ok_X12_need hC.2.2.2.2.2.2.2.1 hW h300) rfl rfl (Nat.le_of_ble_eq_true rfl) ⟨Nat.zero_le _, Nat.zero_le _⟩ ?_
    cases h
    exact g_vret hC hE rfl dX12_line_303 (Nat.zero_le _) (Nat.zero_le _) ⟨rfl, rfl, rfl, rfl, rfl, rfl⟩
noncomputable def b_X12_line_28 (Fu : Nat)  (v1 : Int32) (I : mIT) (L : mLT) : Option (mIT × mLT) :=
  if v1 = (4 : Int32) then (if (I 75 26) ≤ 0 then (b_X12_line_46 Fu (0 : Int32) I L) else (b_X12_line_46 Fu (1 : Int32) I L)) else (if v1 = (11 : Int32) then (if (I 75 27) = (-1 : Int32) then (b_X12_line_93 Fu (0 : Int32) I L) else (b_X12_line_93 Fu (1 : Int32) I L)) else (if v1 = (12 : Int32) then (if (I 75 28) ≤ 0 then (b_X12_line_132 Fu (0 : Int32) I L) else (b_X12_line_132 Fu (1 : Int32) I L)) else (if v1 = (13 : Int32) then (if (I 75 29) ≤ 0 then (b_X12_line_178 Fu (0 : Int32) I L) else (b_X12_line_178 Fu (1 : Int32) I L)) else (if v1 = (14 : Int32) then (if (I 75 30) = (-1 : Int32) then (b_X12_line_226 Fu (0 : Int32) I L) else (b_X12_line_226 Fu (1 : Int32) I L)) else (if v1 = (15 : Int32) then (if (I 75 31) = (-1 : Int32) then (b_X12_line_267 Fu (0 : Int32) I L) else (b_X12_line_267 Fu (1 : Int32) I L)) else (oB (f_X12_wrong Fu I (1 : Int32)) (fun r290 => oB (f_X12_isSign Fu r290 (59 : Int32)) (fun r297 => oB (f_X12_need Fu r290 L r297) (fun r300 => some (r300.1, r300.2))))))))))
set_option maxRecDepth 20000 in
theorem bo_X12_line_28 {X : mXT} {E : mEn} {Fu : Nat} {R : mRT}  (hC : mC X E mX12_line RX12 cX12_line) (hW : mWd R)   {out : mIT × mLT} (hE : mEd X E 0 0 (mSame none 106 1 (out.1) R (out.2)))  (v1 : Int32) (I : mIT) (L : mLT) (h : b_X12_line_28 Fu  v1 I L = some out) : mG X E 28 [(0, .ref (mB E + 75)), (1, .int v1)] [] 106 1 I R L 0 0 := by
  unfold b_X12_line_28 at h
  refine g_iload_n hC dX12_line_28 rfl (q := 1) rfl ?_
  refine g_iconst hC dX12_line_29 (v := (4 : Int32)) (by decide) ?_
  refine g_ic_ne hC dX12_line_30 (tgt := 73) (by decide) (fun c30 => ?_) (fun c30 => ?_)
  · replace h := (if_neg c30).symm.trans h
    refine g_iload_n hC dX12_line_73 rfl (q := 1) rfl ?_
    refine g_bipush hC dX12_line_74 (v := (11 : Int32)) (by decide) ?_
    refine g_ic_ne hC dX12_line_76 (tgt := 113) (by decide) (fun c76 => ?_) (fun c76 => ?_)
    · replace h := (if_neg c76).symm.trans h
      refine g_iload_n hC dX12_line_113 rfl (q := 1) rfl ?_
      refine g_bipush hC dX12_line_114 (v := (12 : Int32)) (by decide) ?_
      refine g_ic_ne hC dX12_line_116 (tgt := 159) (by decide) (fun c116 => ?_) (fun c116 => ?_)
      · replace h := (if_neg c116).symm.trans h
        refine g_iload_n hC dX12_line_159 rfl (q := 1) rfl ?_
        refine g_bipush hC dX12_line_160 (v := (13 : Int32)) (by decide) ?_
        refine g_ic_ne hC dX12_line_162 (tgt := 206) (by decide) (fun c162 => ?_) (fun c162 => ?_)
        · replace h := (if_neg c162).symm.trans h
          refine g_iload_n hC dX12_line_206 rfl (q := 1) rfl ?_
          refine g_bipush hC dX12_line_207 (v := (14 : Int32)) (by decide) ?_
          refine g_ic_ne hC dX12_line_209 (tgt := 247) (by decide) (fun c209 => ?_) (fun c209 => ?_)
          · replace h := (if_neg c209).symm.trans h
            refine g_iload_n hC dX12_line_247 rfl (q := 1) rfl ?_
            refine g_bipush hC dX12_line_248 (v := (15 : Int32)) (by decide) ?_
            refine g_ic_ne hC dX12_line_250 (tgt := 288) (by decide) (fun c250 => ?_) (fun c250 => ?_)
            · replace h := (if_neg c250).symm.trans h
              refine g_aload_n hC dX12_line_288 rfl (q := 0) rfl ?_
              refine g_iconst hC dX12_line_289 (v := (1 : Int32)) (by decide) ?_
              obtain ⟨r290, h290, h⟩ := oB_some h
              refine g_cV0 hC cv_X12_wrong wd_1892 ⟨Nat.le_of_ble_eq_true rfl, Nat.le_of_ble_eq_true rfl⟩ rfl (by decide) dX12_line_290 (As := [.int (1 : Int32)]) (st := []) (ok_X12_wrong hC.2.2.2.2.2.2.2.1 hW h290) rfl rfl (Nat.le_of_ble_eq_true rfl) ⟨Nat.zero_le _, Nat.zero_le _⟩ ?_
              refine g_aload_n hC dX12_line_293 rfl (q := 0) rfl ?_
              refine g_aload_n hC dX12_line_294 rfl (q := 0) rfl ?_
              refine g_bipush hC dX12_line_295 (v := (59 : Int32)) (by decide) ?_
              obtain ⟨r297, h297, h⟩ := oB_some h
              refine g_cV1 hC cv_X12_isSign wd_1926 ⟨Nat.le_of_ble_eq_true rfl, Nat.le_of_ble_eq_true rfl⟩ rfl (by decide) dX12_line_297 (As := [.int (59 : Int32)]) (st := [.ref (mB E + 75)]) (ok_X12_isSign hC.2.2.2.2.2.2.2.1 hW h297) rfl rfl (Nat.le_of_ble_eq_true rfl) ⟨Nat.zero_le _, Nat.zero_le _⟩ ?_
              obtain ⟨r300, h300, h⟩ := oB_some h
              refine g_cV0 hC cv_X12_need wd_1964 ⟨Nat.le_of_ble_eq_true rfl, Nat.le_of_ble_eq_true rfl⟩ rfl (by decide) dX12_line_300 (As := [.int r297]) (st := []) (ok_X12_need hC.2.2.2.2.2.2.2.1 hW h300) rfl rfl (Nat.le_of_ble_eq_true rfl) ⟨Nat.zero_le _, Nat.zero_le _⟩ ?_
              cases h
              exact g_vret hC hE rfl dX12_line_303 (Nat.zero_le _) (Nat.zero_le _) ⟨rfl, rfl, rfl, rfl, rfl, rfl⟩
            · replace h := (if_pos c250).symm.trans h
              refine g_aload_n hC dX12_line_253 rfl (q := 0) rfl ?_
              refine g_aload_n hC dX12_line_254 rfl (q := 0) rfl ?_
              refine g_geti hC fd_RX12_276 rfl (by decide) (Or.inl rfl) dX12_line_255 ?_
              refine g_iconst hC dX12_line_258 (v := (-1 : Int32)) (by decide) ?_
              refine g_ic_eq hC dX12_line_259 (tgt := 266) (by decide) (fun c259 => ?_) (fun c259 => ?_)
              · replace h := (if_pos c259).symm.trans h
                refine g_iconst hC dX12_line_266 (v := (0 : Int32)) (by decide) ?_
                refine g_lv [0] rfl ?_
                exact bo_X12_line_267 hC hW hE ((0 : Int32)) (I) (L) h
              · replace h := (if_neg c259).symm.trans h
                refine g_iconst hC dX12_line_262 (v := (1 : Int32)) (by decide) ?_
                refine g_goto hC dX12_line_263 (tgt := 267) (by decide) ?_
                refine g_lv [0] rfl ?_
                exact bo_X12_line_267 hC hW hE ((1 : Int32)) (I) (L) h
          · replace h := (if_pos c209).symm.trans h
            refine g_aload_n hC dX12_line_212 rfl (q := 0) rfl ?_
            refine g_aload_n hC dX12_line_213 rfl (q := 0) rfl ?_
            refine g_geti hC fd_RX12_270 rfl (by decide) (Or.inl rfl) dX12_line_214 ?_
            refine g_iconst hC dX12_line_217 (v := (-1 : Int32)) (by decide) ?_
            refine g_ic_eq hC dX12_line_218 (tgt := 225) (by decide) (fun c218 => ?_) (fun c218 => ?_)
            · replace h := (if_pos c218).symm.trans h
              refine g_iconst hC dX12_line_225 (v := (0 : Int32)) (by decide) ?_
              refine g_lv [0] rfl ?_
              exact bo_X12_line_226 hC hW hE ((0 : Int32)) (I) (L) h
            · replace h := (if_neg c218).symm.trans h
              refine g_iconst hC dX12_line_221 (v := (1 : Int32)) (by decide) ?_
              refine g_goto hC dX12_line_222 (tgt := 226) (by decide) ?_
              refine g_lv [0] rfl ?_
              exact bo_X12_line_226 hC hW hE ((1 : Int32)) (I) (L) h
        · replace h := (if_pos c162).symm.trans h
          refine g_aload_n hC dX12_line_165 rfl (q := 0) rfl ?_
          refine g_aload_n hC dX12_line_166 rfl (q := 0) rfl ?_
          refine g_geti hC fd_RX12_267 rfl (by decide) (Or.inl rfl) dX12_line_167 ?_
          refine g_if_le hC dX12_line_170 (tgt := 177) (by decide) (fun c170 => ?_) (fun c170 => ?_)
          · replace h := (if_pos c170).symm.trans h
            refine g_iconst hC dX12_line_177 (v := (0 : Int32)) (by decide) ?_
            refine g_lv [0] rfl ?_
            exact bo_X12_line_178 hC hW hE ((0 : Int32)) (I) (L) h
          · replace h := (if_neg c170).symm.trans h
            refine g_iconst hC dX12_line_173 (v := (1 : Int32)) (by decide) ?_
            refine g_goto hC dX12_line_174 (tgt := 178) (by decide) ?_
            refine g_lv [0] rfl ?_
            exact bo_X12_line_178 hC hW hE ((1 : Int32)) (I) (L) h
      · replace h := (if_pos c116).symm.trans h
        refine g_aload_n hC dX12_line_119 rfl (q := 0) rfl ?_
        refine g_aload_n hC dX12_line_120 rfl (q := 0) rfl ?_
        refine g_geti hC fd_RX12_264 rfl (by decide) (Or.inl rfl) dX12_line_121 ?_
        refine g_if_le hC dX12_line_124 (tgt := 131) (by decide) (fun c124 => ?_) (fun c124 => ?_)
        · replace h := (if_pos c124).symm.trans h
          refine g_iconst hC dX12_line_131 (v := (0 : Int32)) (by decide) ?_
          refine g_lv [0] rfl ?_
          exact bo_X12_line_132 hC hW hE ((0 : Int32)) (I) (L) h
        · replace h := (if_neg c124).symm.trans h
          refine g_iconst hC dX12_line_127 (v := (1 : Int32)) (by decide) ?_
          refine g_goto hC dX12_line_128 (tgt := 132) (by decide) ?_
          refine g_lv [0] rfl ?_
          exact bo_X12_line_132 hC hW hE ((1 : Int32)) (I) (L) h
    · replace h := (if_pos c76).symm.trans h
      refine g_aload_n hC dX12_line_79 rfl (q := 0) rfl ?_
      refine g_aload_n hC dX12_line_80 rfl (q := 0) rfl ?_
      refine g_geti hC fd_RX12_261 rfl (by decide) (Or.inl rfl) dX12_line_81 ?_
      refine g_iconst hC dX12_line_84 (v := (-1 : Int32)) (by decide) ?_
      refine g_ic_eq hC dX12_line_85 (tgt := 92) (by decide) (fun c85 => ?_) (fun c85 => ?_)
      · replace h := (if_pos c85).symm.trans h
        refine g_iconst hC dX12_line_92 (v := (0 : Int32)) (by decide) ?_
        refine g_lv [0] rfl ?_
        exact bo_X12_line_93 hC hW hE ((0 : Int32)) (I) (L) h
      · replace h := (if_neg c85).symm.trans h
        refine g_iconst hC dX12_line_88 (v := (1 : Int32)) (by decide) ?_
        refine g_goto hC dX12_line_89 (tgt := 93) (by decide) ?_
        refine g_lv [0] rfl ?_
        exact bo_X12_line_93 hC hW hE ((1 : Int32)) (I) (L) h
  · replace h := (if_pos c30).symm.trans h
    refine g_aload_n hC dX12_line_33 rfl (q := 0) rfl ?_
    refine g_aload_n hC dX12_line_34 rfl (q := 0) rfl ?_
    refine g_geti hC fd_RX12_250 rfl (by decide) (Or.inl rfl) dX12_line_35 ?_
    refine g_if_le hC dX12_line_38 (tgt := 45) (by decide) (fun c38 => ?_) (fun c38 => ?_)
    · replace h := (if_pos c38).symm.trans h
      refine g_iconst hC dX12_line_45 (v := (0 : Int32)) (by decide) ?_
      refine g_lv [0] rfl ?_
      exact bo_X12_line_46 hC hW hE ((0 : Int32)) (I) (L) h
    · replace h := (if_neg c38).symm.trans h
      refine g_iconst hC dX12_line_41 (v := (1 : Int32)) (by decide) ?_
      refine g_goto hC dX12_line_42 (tgt := 46) (by decide) ?_
      refine g_lv [0] rfl ?_
      exact bo_X12_line_46 hC hW hE ((1 : Int32)) (I) (L) h
noncomputable def f_X12_line (Fu : Nat) (I : mIT) (L : mLT)  : Option (mIT × mLT) :=
  oB (f_X12_knownWord Fu I L) (fun r1 => if r1 < (7 : Int32) then (b_X12_line_28 Fu r1 I L) else (if (10 : Int32) < r1 then (b_X12_line_28 Fu r1 I L) else (oB (f_X12_readsRoot Fu I L (r1 - (7 : Int32))) (fun r22 => oB (f_X12_isSign Fu r22.1 (59 : Int32)) (fun r297 => oB (f_X12_need Fu r22.1 r22.2 r297) (fun r300 => some (r300.1, r300.2)))))))
set_option maxRecDepth 20000 in
theorem ok_X12_line {l : Launch} {E : mEn} {Fu : Nat} {I : mIT} {R : mRT} {L : mLT}  (hst : l.stackTraces = false) (hW : mWd R)  {out : mIT × mLT} (h : f_X12_line Fu I L  = some out) : mOk l E mX12_line [.ref (mB E + 75)] 106 1 I R L 0 0 (mSame none 106 1 (out.1) R (out.2)) := by
  refine mOk_of hst (by decide) (Nat.le_of_ble_eq_true rfl) (fun X hC hE _ => ?_)
  have hC : mC X E mX12_line RX12 cX12_line := hC
  show mG X E 0 [(0, .ref (mB E + 75))] [] 106 1 I R L 0 0
  unfold f_X12_line at h
  refine g_aload_n hC dX12_line_0 rfl (q := 0) rfl ?_
  obtain ⟨r1, h1, h⟩ := oB_some h
  refine g_cV1 hC cv_X12_knownWord wd_1877 ⟨Nat.le_of_ble_eq_true rfl, Nat.le_of_ble_eq_true rfl⟩ rfl (by decide) dX12_line_1 (As := []) (st := []) (ok_X12_knownWord hC.2.2.2.2.2.2.2.1 hW h1) rfl rfl (Nat.le_of_ble_eq_true rfl) ⟨Nat.zero_le _, Nat.zero_le _⟩ ?_
  refine g_istore_n hC dX12_line_4 rfl rfl (by decide) (lv' := [(1, .int r1), (0, .ref (mB E + 75))]) rfl ?_
  refine g_iload_n hC dX12_line_5 rfl (q := 0) rfl ?_
  refine g_bipush hC dX12_line_6 (v := (7 : Int32)) (by decide) ?_
  refine g_ic_lt hC dX12_line_8 (tgt := 28) (by decide) (fun c8 => ?_) (fun c8 => ?_)
  · replace h := (if_pos c8).symm.trans h
    refine g_lv [1, 0] rfl ?_
    exact bo_X12_line_28 hC hW hE (r1) (I) (L) h
  · replace h := (if_neg c8).symm.trans h
    refine g_iload_n hC dX12_line_11 rfl (q := 0) rfl ?_
    refine g_bipush hC dX12_line_12 (v := (10 : Int32)) (by decide) ?_
    refine g_ic_gt hC dX12_line_14 (tgt := 28) (by decide) (fun c14 => ?_) (fun c14 => ?_)
    · replace h := (if_pos c14).symm.trans h
      refine g_lv [1, 0] rfl ?_
      exact bo_X12_line_28 hC hW hE (r1) (I) (L) h
    · replace h := (if_neg c14).symm.trans h
      refine g_aload_n hC dX12_line_17 rfl (q := 1) rfl ?_
      refine g_iload_n hC dX12_line_18 rfl (q := 0) rfl ?_
      refine g_bipush hC dX12_line_19 (v := (7 : Int32)) (by decide) ?_
      refine g_isub hC dX12_line_21 ?_
      obtain ⟨r22, h22, h⟩ := oB_some h
      refine g_cV0 hC cv_X12_readsRoot wd_1888 ⟨Nat.le_of_ble_eq_true rfl, Nat.le_of_ble_eq_true rfl⟩ rfl (by decide) dX12_line_22 (As := [.int (r1 - (7 : Int32))]) (st := []) (ok_X12_readsRoot hC.2.2.2.2.2.2.2.1 hW h22) rfl rfl (Nat.le_of_ble_eq_true rfl) ⟨Nat.zero_le _, Nat.zero_le _⟩ ?_
      refine g_goto hC dX12_line_25 (tgt := 293) (by decide) ?_
      refine g_aload_n hC dX12_line_293 rfl (q := 1) rfl ?_
      refine g_aload_n hC dX12_line_294 rfl (q := 1) rfl ?_
      refine g_bipush hC dX12_line_295 (v := (59 : Int32)) (by decide) ?_
      obtain ⟨r297, h297, h⟩ := oB_some h
      refine g_cV1 hC cv_X12_isSign wd_1926 ⟨Nat.le_of_ble_eq_true rfl, Nat.le_of_ble_eq_true rfl⟩ rfl (by decide) dX12_line_297 (As := [.int (59 : Int32)]) (st := [.ref (mB E + 75)]) (ok_X12_isSign hC.2.2.2.2.2.2.2.1 hW h297) rfl rfl (Nat.le_of_ble_eq_true rfl) ⟨Nat.zero_le _, Nat.zero_le _⟩ ?_
      obtain ⟨r300, h300, h⟩ := oB_some h
      refine g_cV0 hC cv_X12_need wd_1964 ⟨Nat.le_of_ble_eq_true rfl, Nat.le_of_ble_eq_true rfl⟩ rfl (by decide) dX12_line_300 (As := [.int r297]) (st := []) (ok_X12_need hC.2.2.2.2.2.2.2.1 hW h300) rfl rfl (Nat.le_of_ble_eq_true rfl) ⟨Nat.zero_le _, Nat.zero_le _⟩ ?_
      cases h
      exact g_vret hC hE rfl dX12_line_303 (Nat.zero_le _) (Nat.zero_le _) ⟨rfl, rfl, rfl, rfl, rfl, rfl⟩
noncomputable def b_X12_longer_63 (Fu : Nat) (k39_ : Int32 × Int32 × Int32 × Int32 × mIT → Option (Int32 × mIT)) (k63_ : Int32 × Int32 × Int32 × Int32 × Int32 × Int32 × mIT → Option (Int32 × mIT)) (v1 : Int32) (v2 : Int32) (v3 : Int32) (v4 : Int32) (v5 : Int32) (v6 : Int32) (I : mIT) : Option (Int32 × mIT) :=
  if (32 : Int32) ≤ v6 then (oG (inB ((41 : Int32) + v4) 106) (k39_ (v1, v2, v3, (v4 + (1 : Int32)), (mU I 89 (((41 : Int32) + v4)).toNatClampNeg v5)))) else (if v6 = v5 then (k63_ (v1, v2, v3, v4, v5, (v6 + (1 : Int32)), I)) else (oB (f_X12_isChange Fu v6) (fun r79 => if r79 = 0 then (k63_ (v1, v2, v3, v4, v5, (v6 + (1 : Int32)), I)) else (oG (inB ((41 : Int32) + v4) 106) (oB (f_X12_lengthNow Fu (mU I 89 (((41 : Int32) + v4)).toNatClampNeg v6) v1) (fun r102 => if (r102.2 75 52) = 0 then (if v2 < r102.1 then (k63_ (v1, r102.1, (((100 : Int32) * v4) + v6), v4, v5, (v6 + (1 : Int32)), r102.2)) else (k63_ (v1, v2, v3, v4, v5, (v6 + (1 : Int32)), r102.2))) else (k63_ (v1, v2, v3, v4, v5, (v6 + (1 : Int32)), r102.2))))))))
set_option maxRecDepth 20000 in
theorem bo_X12_longer_63 {X : mXT} {E : mEn} {Fu : Nat} {R : mRT} {L : mLT}  (hC : mC X E mX12_longer RX12 cX12_longer) (hW : mWd R)   {out : Int32 × mIT} (hE : mEd X E 0 0 (mSame (some (.int (out.1))) 106 1 (out.2) R L)) (k39_ : Int32 × Int32 × Int32 × Int32 × mIT → Option (Int32 × mIT)) (hk39_ : ∀ (v1 : Int32) (v2 : Int32) (v3 : Int32) (v4 : Int32) (I : mIT),  k39_ (v1, v2, v3, v4, I) = some out → mG X E 39 [(0, .ref (mB E + 75)), (1, .int v1), (2, .int v2), (3, .int v3), (4, .int v4)] [] 106 1 I R L 0 0) (k63_ : Int32 × Int32 × Int32 × Int32 × Int32 × Int32 × mIT → Option (Int32 × mIT)) (hk63_ : ∀ (v1 : Int32) (v2 : Int32) (v3 : Int32) (v4 : Int32) (v5 : Int32) (v6 : Int32) (I : mIT),  k63_ (v1, v2, v3, v4, v5, v6, I) = some out → mG X E 63 [(0, .ref (mB E + 75)), (1, .int v1), (2, .int v2), (3, .int v3), (4, .int v4), (5, .int v5), (6, .int v6)] [] 106 1 I R L 0 0) (v1 : Int32) (v2 : Int32) (v3 : Int32) (v4 : Int32) (v5 : Int32) (v6 : Int32) (I : mIT) (h : b_X12_longer_63 Fu k39_ k63_ v1 v2 v3 v4 v5 v6 I = some out) : mG X E 63 [(0, .ref (mB E + 75)), (1, .int v1), (2, .int v2), (3, .int v3), (4, .int v4), (5, .int v5), (6, .int v6)] [] 106 1 I R L 0 0 := by
  unfold b_X12_longer_63 at h
  refine g_iload hC dX12_longer_63 (q := 6) rfl ?_
  refine g_bipush hC dX12_longer_65 (v := (32 : Int32)) (by decide) ?_
  refine g_ic_ge hC dX12_longer_67 (tgt := 141) (by decide) (fun c67 => ?_) (fun c67 => ?_)
  · replace h := (if_pos c67).symm.trans h
    refine g_aload_n hC dX12_longer_141 rfl (q := 0) rfl ?_
    refine g_getr hC fd_RX12_63 rfl (by decide) (C0 := "") (t0 := _) (Or.inr rfl) (rr_75_42 hW.1) dX12_longer_142 ?_
    refine g_bipush hC dX12_longer_145 (v := (41 : Int32)) (by decide) ?_
    refine g_iload hC dX12_longer_147 (q := 4) rfl ?_
    refine g_iadd hC dX12_longer_149 ?_
    refine g_iload hC dX12_longer_150 (q := 5) rfl ?_
    obtain ⟨g152, h⟩ := oG_some h
    refine g_iast hC rfl (by decide) (inB_in g152) dX12_longer_152 (nm_e ?_)
    refine g_iinc hC dX12_longer_153 rfl (q := 4) rfl (w := (v4 + (1 : Int32))) rfl (by decide) (lv' := [(4, .int (v4 + (1 : Int32))), (0, .ref (mB E + 75)), (1, .int v1), (2, .int v2), (3, .int v3), (5, .int v5), (6, .int v6)]) rfl ?_
    refine g_goto hC dX12_longer_156 (tgt := 39) (by decide) ?_
    refine g_lv [1, 2, 3, 4, 0] rfl ?_
    exact hk39_ v1 v2 v3 (v4 + (1 : Int32)) (mU I 89 (((41 : Int32) + v4)).toNatClampNeg v5) h
  · replace h := (if_neg c67).symm.trans h
    refine g_iload hC dX12_longer_70 (q := 6) rfl ?_
    refine g_iload hC dX12_longer_72 (q := 5) rfl ?_
    refine g_ic_eq hC dX12_longer_74 (tgt := 135) (by decide) (fun c74 => ?_) (fun c74 => ?_)
    · replace h := (if_pos c74).symm.trans h
      refine g_iinc hC dX12_longer_135 rfl (q := 6) rfl (w := (v6 + (1 : Int32))) rfl (by decide) (lv' := [(6, .int (v6 + (1 : Int32))), (0, .ref (mB E + 75)), (1, .int v1), (2, .int v2), (3, .int v3), (4, .int v4), (5, .int v5)]) rfl ?_
      refine g_goto hC dX12_longer_138 (tgt := 63) (by decide) ?_
      refine g_lv [1, 2, 3, 4, 5, 6, 0] rfl ?_
      exact hk63_ v1 v2 v3 v4 v5 (v6 + (1 : Int32)) I h
    · replace h := (if_neg c74).symm.trans h
      refine g_iload hC dX12_longer_77 (q := 6) rfl ?_
      obtain ⟨r79, h79, h⟩ := oB_some h
      refine g_cS1 hC cs_X12_isChange wd_1912 ⟨Nat.le_of_ble_eq_true rfl, Nat.le_of_ble_eq_true rfl⟩ dX12_longer_79 (As := [.int v6]) (st := []) (ok_X12_isChange hC.2.2.2.2.2.2.2.1 hW h79) rfl rfl (Nat.le_of_ble_eq_true rfl) ⟨Nat.zero_le _, Nat.zero_le _⟩ ?_
      refine g_if_ne hC dX12_longer_82 (tgt := 88) (by decide) (fun c82 => ?_) (fun c82 => ?_)
      · replace h := (if_neg c82).symm.trans h
        refine g_aload_n hC dX12_longer_88 rfl (q := 0) rfl ?_
        refine g_getr hC fd_RX12_63 rfl (by decide) (C0 := "") (t0 := _) (Or.inr rfl) (rr_75_42 hW.1) dX12_longer_89 ?_
        refine g_bipush hC dX12_longer_92 (v := (41 : Int32)) (by decide) ?_
        refine g_iload hC dX12_longer_94 (q := 4) rfl ?_
        refine g_iadd hC dX12_longer_96 ?_
        refine g_iload hC dX12_longer_97 (q := 6) rfl ?_
        obtain ⟨g99, h⟩ := oG_some h
        refine g_iast hC rfl (by decide) (inB_in g99) dX12_longer_99 (nm_e ?_)
        refine g_aload_n hC dX12_longer_100 rfl (q := 0) rfl ?_
        refine g_iload_n hC dX12_longer_101 rfl (q := 1) rfl ?_
        obtain ⟨r102, h102, h⟩ := oB_some h
        refine g_cV1 hC cv_X12_lengthNow wd_2178 ⟨Nat.le_of_ble_eq_true rfl, Nat.le_of_ble_eq_true rfl⟩ rfl (by decide) dX12_longer_102 (As := [.int v1]) (st := []) (ok_X12_lengthNow hC.2.2.2.2.2.2.2.1 hW h102) rfl rfl (Nat.le_of_ble_eq_true rfl) ⟨Nat.zero_le _, Nat.zero_le _⟩ ?_
        refine g_istore hC dX12_longer_105 rfl (by decide) (lv' := [(7, .int r102.1), (0, .ref (mB E + 75)), (1, .int v1), (2, .int v2), (3, .int v3), (4, .int v4), (5, .int v5), (6, .int v6)]) rfl ?_
        refine g_aload_n hC dX12_longer_107 rfl (q := 1) rfl ?_
        refine g_geti hC fd_RX12_408 rfl (by decide) (Or.inr rfl) dX12_longer_108 ?_
        refine g_if_ne hC dX12_longer_111 (tgt := 135) (by decide) (fun c111 => ?_) (fun c111 => ?_)
        · replace h := (if_neg c111).symm.trans h
          refine g_iinc hC dX12_longer_135 rfl (q := 7) rfl (w := (v6 + (1 : Int32))) rfl (by decide) (lv' := [(6, .int (v6 + (1 : Int32))), (7, .int r102.1), (0, .ref (mB E + 75)), (1, .int v1), (2, .int v2), (3, .int v3), (4, .int v4), (5, .int v5)]) rfl ?_
          refine g_goto hC dX12_longer_138 (tgt := 63) (by decide) ?_
          refine g_lv [2, 3, 4, 5, 6, 7, 0] rfl ?_
          exact hk63_ v1 v2 v3 v4 v5 (v6 + (1 : Int32)) r102.2 h
        · replace h := (if_pos c111).symm.trans h
          refine g_iload hC dX12_longer_114 (q := 0) rfl ?_
          refine g_iload_n hC dX12_longer_116 rfl (q := 3) rfl ?_
          refine g_ic_gt hC dX12_longer_117 (tgt := 123) (by decide) (fun c117 => ?_) (fun c117 => ?_)
          · replace h := (if_pos c117).symm.trans h
            refine g_bipush hC dX12_longer_123 (v := (100 : Int32)) (by decide) ?_
            refine g_iload hC dX12_longer_125 (q := 5) rfl ?_
            refine g_imul hC dX12_longer_127 ?_
            refine g_iload hC dX12_longer_128 (q := 7) rfl ?_
            refine g_iadd hC dX12_longer_130 ?_
            refine g_istore_n hC dX12_longer_131 rfl rfl (by decide) (lv' := [(3, .int (((100 : Int32) * v4) + v6)), (7, .int r102.1), (0, .ref (mB E + 75)), (1, .int v1), (2, .int v2), (4, .int v4), (5, .int v5), (6, .int v6)]) rfl ?_
            refine g_iload hC dX12_longer_132 (q := 1) rfl ?_
            refine g_istore_n hC dX12_longer_134 rfl rfl (by decide) (lv' := [(2, .int r102.1), (3, .int (((100 : Int32) * v4) + v6)), (7, .int r102.1), (0, .ref (mB E + 75)), (1, .int v1), (4, .int v4), (5, .int v5), (6, .int v6)]) rfl ?_
            refine g_iinc hC dX12_longer_135 rfl (q := 7) rfl (w := (v6 + (1 : Int32))) rfl (by decide) (lv' := [(6, .int (v6 + (1 : Int32))), (2, .int r102.1), (3, .int (((100 : Int32) * v4) + v6)), (7, .int r102.1), (0, .ref (mB E + 75)), (1, .int v1), (4, .int v4), (5, .int v5)]) rfl ?_
            refine g_goto hC dX12_longer_138 (tgt := 63) (by decide) ?_
            refine g_lv [4, 5, 1, 2, 6, 7, 0] rfl ?_
            exact hk63_ v1 r102.1 (((100 : Int32) * v4) + v6) v4 v5 (v6 + (1 : Int32)) r102.2 h
          · replace h := (if_neg c117).symm.trans h
            refine g_goto hC dX12_longer_120 (tgt := 135) (by decide) ?_
            refine g_iinc hC dX12_longer_135 rfl (q := 7) rfl (w := (v6 + (1 : Int32))) rfl (by decide) (lv' := [(6, .int (v6 + (1 : Int32))), (7, .int r102.1), (0, .ref (mB E + 75)), (1, .int v1), (2, .int v2), (3, .int v3), (4, .int v4), (5, .int v5)]) rfl ?_
            refine g_goto hC dX12_longer_138 (tgt := 63) (by decide) ?_
            refine g_lv [2, 3, 4, 5, 6, 7, 0] rfl ?_
            exact hk63_ v1 v2 v3 v4 v5 (v6 + (1 : Int32)) r102.2 h
      · replace h := (if_pos c82).symm.trans h
        refine g_goto hC dX12_longer_85 (tgt := 135) (by decide) ?_
        refine g_iinc hC dX12_longer_135 rfl (q := 6) rfl (w := (v6 + (1 : Int32))) rfl (by decide) (lv' := [(6, .int (v6 + (1 : Int32))), (0, .ref (mB E + 75)), (1, .int v1), (2, .int v2), (3, .int v3), (4, .int v4), (5, .int v5)]) rfl ?_
        refine g_goto hC dX12_longer_138 (tgt := 63) (by decide) ?_
        refine g_lv [1, 2, 3, 4, 5, 6, 0] rfl ?_
        exact hk63_ v1 v2 v3 v4 v5 (v6 + (1 : Int32)) I h
noncomputable def w_X12_longer_63 (Fu : Nat) (k39_ : Int32 × Int32 × Int32 × Int32 × mIT → Option (Int32 × mIT)) (N : Nat) (v1 : Int32) (v2 : Int32) (v3 : Int32) (v4 : Int32) (v5 : Int32) (v6 : Int32) (I : mIT) : Option (Int32 × mIT) :=
  loopF (fun self (s : Int32 × Int32 × Int32 × Int32 × Int32 × Int32 × mIT) => b_X12_longer_63 Fu k39_ self s.1 s.2.1 s.2.2.1 s.2.2.2.1 s.2.2.2.2.1 s.2.2.2.2.2.1 s.2.2.2.2.2.2) N (v1, v2, v3, v4, v5, v6, I)
theorem wo_X12_longer_63 {X : mXT} {E : mEn} {Fu : Nat} {R : mRT} {L : mLT}  (hC : mC X E mX12_longer RX12 cX12_longer) (hW : mWd R)   {out : Int32 × mIT} (hE : mEd X E 0 0 (mSame (some (.int (out.1))) 106 1 (out.2) R L)) (k39_ : Int32 × Int32 × Int32 × Int32 × mIT → Option (Int32 × mIT)) (hk39_ : ∀ (v1 : Int32) (v2 : Int32) (v3 : Int32) (v4 : Int32) (I : mIT),  k39_ (v1, v2, v3, v4, I) = some out → mG X E 39 [(0, .ref (mB E + 75)), (1, .int v1), (2, .int v2), (3, .int v3), (4, .int v4)] [] 106 1 I R L 0 0) (N : Nat) (v1 : Int32) (v2 : Int32) (v3 : Int32) (v4 : Int32) (v5 : Int32) (v6 : Int32) (I : mIT) (h : w_X12_longer_63 Fu k39_ N v1 v2 v3 v4 v5 v6 I = some out) : mG X E 63 [(0, .ref (mB E + 75)), (1, .int v1), (2, .int v2), (3, .int v3), (4, .int v4), (5, .int v5), (6, .int v6)] [] 106 1 I R L 0 0 :=
  loopF_ok (Gd := fun s : Int32 × Int32 × Int32 × Int32 × Int32 × Int32 × mIT => mG X E 63 [(0, .ref (mB E + 75)), (1, .int s.1), (2, .int s.2.1), (3, .int s.2.2.1), (4, .int s.2.2.2.1), (5, .int s.2.2.2.2.1), (6, .int s.2.2.2.2.2.1)] [] 106 1 s.2.2.2.2.2.2 R L 0 0) (fun self hs s h => bo_X12_longer_63 hC hW hE k39_ hk39_ self (fun v1 v2 v3 v4 v5 v6 I h => hs (v1, v2, v3, v4, v5, v6, I) h) s.1 s.2.1 s.2.2.1 s.2.2.2.1 s.2.2.2.2.1 s.2.2.2.2.2.1 s.2.2.2.2.2.2 h) N (v1, v2, v3, v4, v5, v6, I) h
noncomputable def b_X12_longer_39 (Fu : Nat) (k39_ : Int32 × Int32 × Int32 × Int32 × mIT → Option (Int32 × mIT)) (v1 : Int32) (v2 : Int32) (v3 : Int32) (v4 : Int32) (I : mIT) : Option (Int32 × mIT) :=
  if (I 75 5) ≤ v4 then (some (v3, I)) else (oG (inB ((41 : Int32) + v4) 106) (w_X12_longer_63 Fu k39_ Fu v1 v2 v3 v4 (I 89 (((41 : Int32) + v4)).toNatClampNeg) (0 : Int32) I))
set_option maxRecDepth 20000 in
theorem bo_X12_longer_39 {X : mXT} {E : mEn} {Fu : Nat} {R : mRT} {L : mLT}  (hC : mC X E mX12_longer RX12 cX12_longer) (hW : mWd R)   {out : Int32 × mIT} (hE : mEd X E 0 0 (mSame (some (.int (out.1))) 106 1 (out.2) R L)) (k39_ : Int32 × Int32 × Int32 × Int32 × mIT → Option (Int32 × mIT)) (hk39_ : ∀ (v1 : Int32) (v2 : Int32) (v3 : Int32) (v4 : Int32) (I : mIT),  k39_ (v1, v2, v3, v4, I) = some out → mG X E 39 [(0, .ref (mB E + 75)), (1, .int v1), (2, .int v2), (3, .int v3), (4, .int v4)] [] 106 1 I R L 0 0) (v1 : Int32) (v2 : Int32) (v3 : Int32) (v4 : Int32) (I : mIT) (h : b_X12_longer_39 Fu k39_ v1 v2 v3 v4 I = some out) : mG X E 39 [(0, .ref (mB E + 75)), (1, .int v1), (2, .int v2), (3, .int v3), (4, .int v4)] [] 106 1 I R L 0 0 := by
  unfold b_X12_longer_39 at h
  refine g_iload hC dX12_longer_39 (q := 4) rfl ?_
  refine g_aload_n hC dX12_longer_41 rfl (q := 0) rfl ?_
  refine g_geti hC fd_RX12_298 rfl (by decide) (Or.inl rfl) dX12_longer_42 ?_
  refine g_ic_ge hC dX12_longer_45 (tgt := 159) (by decide) (fun c45 => ?_) (fun c45 => ?_)
  · replace h := (if_pos c45).symm.trans h
    refine g_iload_n hC dX12_longer_159 rfl (q := 3) rfl ?_
    cases h
    exact g_iret hC hE rfl dX12_longer_160 (Nat.zero_le _) (Nat.zero_le _) ⟨rfl, rfl, rfl, rfl, rfl, rfl⟩
  · replace h := (if_neg c45).symm.trans h
    refine g_aload_n hC dX12_longer_48 rfl (q := 0) rfl ?_
    refine g_getr hC fd_RX12_63 rfl (by decide) (C0 := "") (t0 := _) (Or.inr rfl) (rr_75_42 hW.1) dX12_longer_49 ?_
    refine g_bipush hC dX12_longer_52 (v := (41 : Int32)) (by decide) ?_
    refine g_iload hC dX12_longer_54 (q := 4) rfl ?_
    refine g_iadd hC dX12_longer_56 ?_
    obtain ⟨g57, h⟩ := oG_some h
    refine g_iald hC rfl (by decide) (inB_in g57) dX12_longer_57 ?_
    refine g_istore hC dX12_longer_58 rfl (by decide) (lv' := [(5, .int (I 89 (((41 : Int32) + v4)).toNatClampNeg)), (0, .ref (mB E + 75)), (1, .int v1), (2, .int v2), (3, .int v3), (4, .int v4)]) rfl ?_
    refine g_iconst hC dX12_longer_60 (v := (0 : Int32)) (by decide) ?_
    refine g_istore hC dX12_longer_61 rfl (by decide) (lv' := [(6, .int (0 : Int32)), (5, .int (I 89 (((41 : Int32) + v4)).toNatClampNeg)), (0, .ref (mB E + 75)), (1, .int v1), (2, .int v2), (3, .int v3), (4, .int v4)]) rfl ?_
    refine g_lv [2, 3, 4, 5, 6, 1, 0] rfl ?_
    exact wo_X12_longer_63 hC hW hE k39_ hk39_ Fu (v1) (v2) (v3) (v4) ((I 89 (((41 : Int32) + v4)).toNatClampNeg)) ((0 : Int32)) (I) h
noncomputable def w_X12_longer_39 (Fu : Nat)  (N : Nat) (v1 : Int32) (v2 : Int32) (v3 : Int32) (v4 : Int32) (I : mIT) : Option (Int32 × mIT) :=
  loopF (fun self (s : Int32 × Int32 × Int32 × Int32 × mIT) => b_X12_longer_39 Fu self s.1 s.2.1 s.2.2.1 s.2.2.2.1 s.2.2.2.2) N (v1, v2, v3, v4, I)
theorem wo_X12_longer_39 {X : mXT} {E : mEn} {Fu : Nat} {R : mRT} {L : mLT}  (hC : mC X E mX12_longer RX12 cX12_longer) (hW : mWd R)   {out : Int32 × mIT} (hE : mEd X E 0 0 (mSame (some (.int (out.1))) 106 1 (out.2) R L))  (N : Nat) (v1 : Int32) (v2 : Int32) (v3 : Int32) (v4 : Int32) (I : mIT) (h : w_X12_longer_39 Fu  N v1 v2 v3 v4 I = some out) : mG X E 39 [(0, .ref (mB E + 75)), (1, .int v1), (2, .int v2), (3, .int v3), (4, .int v4)] [] 106 1 I R L 0 0 :=
  loopF_ok (Gd := fun s : Int32 × Int32 × Int32 × Int32 × mIT => mG X E 39 [(0, .ref (mB E + 75)), (1, .int s.1), (2, .int s.2.1), (3, .int s.2.2.1), (4, .int s.2.2.2.1)] [] 106 1 s.2.2.2.2 R L 0 0) (fun self hs s h => bo_X12_longer_39 hC hW hE self (fun v1 v2 v3 v4 I h => hs (v1, v2, v3, v4, I) h) s.1 s.2.1 s.2.2.1 s.2.2.2.1 s.2.2.2.2 h) N (v1, v2, v3, v4, I) h
noncomputable def f_X12_longer (Fu : Nat) (I : mIT)  : Option (Int32 × mIT) :=
  if ((mU I 75 0 (0 : Int32)) 75 5) = 0 then (some ((-1 : Int32), (mU I 75 0 (0 : Int32)))) else (oB (f_X12_bells Fu (mU I 75 0 (0 : Int32))) (fun r15 => oB (f_X12_lengthNow Fu r15.2 r15.1) (fun r21 => if (r21.2 75 52) = 0 then (w_X12_longer_39 Fu Fu r15.1 r21.1 (-1 : Int32) (0 : Int32) r21.2) else (w_X12_longer_39 Fu Fu r15.1 (0 : Int32) (-1 : Int32) (0 : Int32) r21.2))))
set_option maxRecDepth 20000 in
theorem ok_X12_longer {l : Launch} {E : mEn} {Fu : Nat} {I : mIT} {R : mRT} {L : mLT}  (hst : l.stackTraces = false) (hW : mWd R)  {out : Int32 × mIT} (h : f_X12_longer Fu I  = some out) : mOk l E mX12_longer [.ref (mB E + 75)] 106 1 I R L 0 0 (mSame (some (.int (out.1))) 106 1 (out.2) R L) := by
  refine mOk_of hst (by decide) (Nat.le_of_ble_eq_true rfl) (fun X hC hE _ => ?_)
  have hC : mC X E mX12_longer RX12 cX12_longer := hC
  show mG X E 0 [(0, .ref (mB E + 75))] [] 106 1 I R L 0 0
  unfold f_X12_longer at h
  refine g_aload_n hC dX12_longer_0 rfl (q := 0) rfl ?_
  refine g_iconst hC dX12_longer_1 (v := (0 : Int32)) (by decide) ?_
  refine g_puti hC fd_RX12_114 rfl (by decide) rfl dX12_longer_2 (nm_e ?_)
  refine g_aload_n hC dX12_longer_5 rfl (q := 0) rfl ?_
  refine g_geti hC fd_RX12_298 rfl (by decide) (Or.inl rfl) dX12_longer_6 ?_
  refine g_if_ne hC dX12_longer_9 (tgt := 14) (by decide) (fun c9 => ?_) (fun c9 => ?_)
  · replace h := (if_neg c9).symm.trans h
    refine g_aload_n hC dX12_longer_14 rfl (q := 0) rfl ?_
    obtain ⟨r15, h15, h⟩ := oB_some h
    refine g_cV1 hC cv_X12_bells wd_1984 ⟨Nat.le_of_ble_eq_true rfl, Nat.le_of_ble_eq_true rfl⟩ rfl (by decide) dX12_longer_15 (As := []) (st := []) (ok_X12_bells hC.2.2.2.2.2.2.2.1 hW h15) rfl rfl (Nat.le_of_ble_eq_true rfl) ⟨Nat.zero_le _, Nat.zero_le _⟩ ?_
    refine g_istore_n hC dX12_longer_18 rfl rfl (by decide) (lv' := [(1, .int r15.1), (0, .ref (mB E + 75))]) rfl ?_
    refine g_aload_n hC dX12_longer_19 rfl (q := 1) rfl ?_
    refine g_iload_n hC dX12_longer_20 rfl (q := 0) rfl ?_
    obtain ⟨r21, h21, h⟩ := oB_some h
    refine g_cV1 hC cv_X12_lengthNow wd_2178 ⟨Nat.le_of_ble_eq_true rfl, Nat.le_of_ble_eq_true rfl⟩ rfl (by decide) dX12_longer_21 (As := [.int r15.1]) (st := []) (ok_X12_lengthNow hC.2.2.2.2.2.2.2.1 hW h21) rfl rfl (Nat.le_of_ble_eq_true rfl) ⟨Nat.zero_le _, Nat.zero_le _⟩ ?_
    refine g_istore_n hC dX12_longer_24 rfl rfl (by decide) (lv' := [(2, .int r21.1), (1, .int r15.1), (0, .ref (mB E + 75))]) rfl ?_
    refine g_aload_n hC dX12_longer_25 rfl (q := 2) rfl ?_
    refine g_geti hC fd_RX12_408 rfl (by decide) (Or.inr rfl) dX12_longer_26 ?_
    refine g_if_eq hC dX12_longer_29 (tgt := 34) (by decide) (fun c29 => ?_) (fun c29 => ?_)
    · replace h := (if_pos c29).symm.trans h
      refine g_iconst hC dX12_longer_34 (v := (-1 : Int32)) (by decide) ?_
      refine g_istore_n hC dX12_longer_35 rfl rfl (by decide) (lv' := [(3, .int (-1 : Int32)), (2, .int r21.1), (1, .int r15.1), (0, .ref (mB E + 75))]) rfl ?_
      refine g_iconst hC dX12_longer_36 (v := (0 : Int32)) (by decide) ?_
      refine g_istore hC dX12_longer_37 rfl (by decide) (lv' := [(4, .int (0 : Int32)), (3, .int (-1 : Int32)), (2, .int r21.1), (1, .int r15.1), (0, .ref (mB E + 75))]) rfl ?_
      refine g_lv [4, 3, 2, 1, 0] rfl ?_
      exact wo_X12_longer_39 hC hW hE Fu (r15.1) (r21.1) ((-1 : Int32)) ((0 : Int32)) (r21.2) h
    · replace h := (if_neg c29).symm.trans h
      refine g_iconst hC dX12_longer_32 (v := (0 : Int32)) (by decide) ?_
      refine g_istore_n hC dX12_longer_33 rfl rfl (by decide) (lv' := [(2, .int (0 : Int32)), (1, .int r15.1), (0, .ref (mB E + 75))]) rfl ?_
      refine g_iconst hC dX12_longer_34 (v := (-1 : Int32)) (by decide) ?_
      refine g_istore_n hC dX12_longer_35 rfl rfl (by decide) (lv' := [(3, .int (-1 : Int32)), (2, .int (0 : Int32)), (1, .int r15.1), (0, .ref (mB E + 75))]) rfl ?_
      refine g_iconst hC dX12_longer_36 (v := (0 : Int32)) (by decide) ?_
      refine g_istore hC dX12_longer_37 rfl (by decide) (lv' := [(4, .int (0 : Int32)), (3, .int (-1 : Int32)), (2, .int (0 : Int32)), (1, .int r15.1), (0, .ref (mB E + 75))]) rfl ?_
      refine g_lv [4, 3, 2, 1, 0] rfl ?_
      exact wo_X12_longer_39 hC hW hE Fu (r15.1) ((0 : Int32)) ((-1 : Int32)) ((0 : Int32)) (r21.2) h
  · replace h := (if_pos c9).symm.trans h
    refine g_iconst hC dX12_longer_12 (v := (-1 : Int32)) (by decide) ?_
    cases h
    exact g_iret hC hE rfl dX12_longer_13 (Nat.zero_le _) (Nat.zero_le _) ⟨rfl, rfl, rfl, rfl, rfl, rfl⟩
