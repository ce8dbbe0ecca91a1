noncomputable def b_X12_fit_86 (Fu : Nat) (k69_ : Int32 × Int32 × Int32 × Int32 × mIT → Option (Int32 × mIT)) (k86_ : Int32 × Int32 × Int32 × Int32 × Int32 × mIT → Option (Int32 × mIT)) (v1 : Int32) (v3 : Int32) (v4 : Int32) (v5 : Int32) (v6 : Int32) (I : mIT) : Option (Int32 × mIT) :=
  if v6 < 0 then (k69_ (v1, (v3 ||| ((1 : Int32) <<< (v4 &&& 31))), v4, (v5 + (1 : Int32)), I)) else (if ((v3 >>> (v6 &&& 31)) &&& (1 : Int32)) = 0 then (oG (inB (((10 : Int32) * v5) + v6) 80) (oB (f_X12_fitOf Fu I (v5 + (1 : Int32)) (v3 ||| ((1 : Int32) <<< (v6 &&& 31)))) (fun r124 => oB (f_X12_fitOf Fu I v5 v3) (fun r132 => if ((I 97 ((((10 : Int32) * v5) + v6)).toNatClampNeg) + r124) = r132 then (k86_ (v1, v3, v6, v5, (v6 + (-1 : Int32)), I)) else (k86_ (v1, v3, v4, v5, (v6 + (-1 : Int32)), I)))))) else (k86_ (v1, v3, v4, v5, (v6 + (-1 : Int32)), I)))
set_option maxRecDepth 20000 in
theorem bo_X12_fit_86 {X : mXT} {E : mEn} {Fu : Nat} {R : mRT} {L : mLT}  (hC : mC X E mX12_fit RX12 cX12_fit) (hW : mWd R)   {out : Int32 × mIT} (hE : mEd X E 0 0 (mSame (some (.int (out.1))) 106 1 (out.2) R L)) (k69_ : Int32 × Int32 × Int32 × Int32 × mIT → Option (Int32 × mIT)) (hk69_ : ∀ (v1 : Int32) (v3 : Int32) (v4 : Int32) (v5 : Int32) (I : mIT),  k69_ (v1, v3, v4, v5, I) = some out → mG X E 69 [(0, .ref (mB E + 75)), (1, .int v1), (3, .int v3), (4, .int v4), (5, .int v5)] [] 106 1 I R L 0 0) (k86_ : Int32 × Int32 × Int32 × Int32 × Int32 × mIT → Option (Int32 × mIT)) (hk86_ : ∀ (v1 : Int32) (v3 : Int32) (v4 : Int32) (v5 : Int32) (v6 : Int32) (I : mIT),  k86_ (v1, v3, v4, v5, v6, I) = some out → mG X E 86 [(0, .ref (mB E + 75)), (1, .int v1), (3, .int v3), (4, .int v4), (5, .int v5), (6, .int v6)] [] 106 1 I R L 0 0) (v1 : Int32) (v3 : Int32) (v4 : Int32) (v5 : Int32) (v6 : Int32) (I : mIT) (h : b_X12_fit_86 Fu k69_ k86_ v1 v3 v4 v5 v6 I = some out) : mG X E 86 [(0, .ref (mB E + 75)), (1, .int v1), (3, .int v3), (4, .int v4), (5, .int v5), (6, .int v6)] [] 106 1 I R L 0 0 := by
  unfold b_X12_fit_86 at h
  refine g_iload hC dX12_fit_86 (q := 5) rfl ?_
  refine g_if_lt hC dX12_fit_88 (tgt := 148) (by decide) (fun c88 => ?_) (fun c88 => ?_)
  · replace h := (if_pos c88).symm.trans h
    refine g_iload_n hC dX12_fit_148 rfl (q := 2) rfl ?_
    refine g_iconst hC dX12_fit_149 (v := (1 : Int32)) (by decide) ?_
    refine g_iload hC dX12_fit_150 (q := 3) rfl ?_
    refine g_ishl hC dX12_fit_152 ?_
    refine g_ior hC dX12_fit_153 ?_
    refine g_istore_n hC dX12_fit_154 rfl rfl (by decide) (lv' := [(3, .int (v3 ||| ((1 : Int32) <<< (v4 &&& 31)))), (0, .ref (mB E + 75)), (1, .int v1), (4, .int v4), (5, .int v5), (6, .int v6)]) rfl ?_
    refine g_iinc hC dX12_fit_155 rfl (q := 4) rfl (w := (v5 + (1 : Int32))) rfl (by decide) (lv' := [(5, .int (v5 + (1 : Int32))), (3, .int (v3 ||| ((1 : Int32) <<< (v4 &&& 31)))), (0, .ref (mB E + 75)), (1, .int v1), (4, .int v4), (6, .int v6)]) rfl ?_
    refine g_goto hC dX12_fit_158 (tgt := 69) (by decide) ?_
    refine g_lv [2, 3, 1, 4, 0] rfl ?_
    exact hk69_ v1 (v3 ||| ((1 : Int32) <<< (v4 &&& 31))) v4 (v5 + (1 : Int32)) I h
  · replace h := (if_neg c88).symm.trans h
    refine g_iload_n hC dX12_fit_91 rfl (q := 2) rfl ?_
    refine g_iload hC dX12_fit_92 (q := 5) rfl ?_
    refine g_ishr hC dX12_fit_94 ?_
    refine g_iconst hC dX12_fit_95 (v := (1 : Int32)) (by decide) ?_
    refine g_iand hC dX12_fit_96 ?_
    refine g_if_ne hC dX12_fit_97 (tgt := 142) (by decide) (fun c97 => ?_) (fun c97 => ?_)
    · replace h := (if_neg c97).symm.trans h
      refine g_iinc hC dX12_fit_142 rfl (q := 5) rfl (w := (v6 + (-1 : Int32))) rfl (by decide) (lv' := [(6, .int (v6 + (-1 : Int32))), (0, .ref (mB E + 75)), (1, .int v1), (3, .int v3), (4, .int v4), (5, .int v5)]) rfl ?_
      refine g_goto hC dX12_fit_145 (tgt := 86) (by decide) ?_
      refine g_lv [1, 2, 3, 4, 5, 0] rfl ?_
      exact hk86_ v1 v3 v4 v5 (v6 + (-1 : Int32)) I h
    · replace h := (if_pos c97).symm.trans h
      refine g_aload_n hC dX12_fit_100 rfl (q := 0) rfl ?_
      refine g_getr hC fd_RX12_90 rfl (by decide) (C0 := "") (t0 := _) (Or.inr rfl) (rr_75_53 hW.1) dX12_fit_101 ?_
      refine g_bipush hC dX12_fit_104 (v := (10 : Int32)) (by decide) ?_
      refine g_iload hC dX12_fit_106 (q := 4) rfl ?_
      refine g_imul hC dX12_fit_108 ?_
      refine g_iload hC dX12_fit_109 (q := 5) rfl ?_
      refine g_iadd hC dX12_fit_111 ?_
      obtain ⟨g112, h⟩ := oG_some h
      refine g_iald hC rfl (by decide) (inB_in g112) dX12_fit_112 ?_
      refine g_aload_n hC dX12_fit_113 rfl (q := 0) rfl ?_
      refine g_iload hC dX12_fit_114 (q := 4) rfl ?_
      refine g_iconst hC dX12_fit_116 (v := (1 : Int32)) (by decide) ?_
      refine g_iadd hC dX12_fit_117 ?_
      refine g_iload_n hC dX12_fit_118 rfl (q := 2) rfl ?_
      refine g_iconst hC dX12_fit_119 (v := (1 : Int32)) (by decide) ?_
      refine g_iload hC dX12_fit_120 (q := 5) rfl ?_
      refine g_ishl hC dX12_fit_122 ?_
      refine g_ior hC dX12_fit_123 ?_
      obtain ⟨r124, h124, h⟩ := oB_some h
      refine g_cV1 hC cv_X12_fitOf wd_2202 ⟨Nat.le_of_ble_eq_true rfl, Nat.le_of_ble_eq_true rfl⟩ rfl (by decide) dX12_fit_124 (As := [.int (v5 + (1 : Int32)), .int (v3 ||| ((1 : Int32) <<< (v6 &&& 31)))]) (st := [.int (I 97 ((((10 : Int32) * v5) + v6)).toNatClampNeg)]) (ok_X12_fitOf hC.2.2.2.2.2.2.2.1 hW h124) rfl rfl (Nat.le_of_ble_eq_true rfl) ⟨Nat.zero_le _, Nat.zero_le _⟩ ?_
      refine g_iadd hC dX12_fit_127 ?_
      refine g_aload_n hC dX12_fit_128 rfl (q := 0) rfl ?_
      refine g_iload hC dX12_fit_129 (q := 4) rfl ?_
      refine g_iload_n hC dX12_fit_131 rfl (q := 2) rfl ?_
      obtain ⟨r132, h132, h⟩ := oB_some h
      refine g_cV1 hC cv_X12_fitOf wd_2202 ⟨Nat.le_of_ble_eq_true rfl, Nat.le_of_ble_eq_true rfl⟩ rfl (by decide) dX12_fit_132 (As := [.int v5, .int v3]) (st := [.int ((I 97 ((((10 : Int32) * v5) + v6)).toNatClampNeg) + r124)]) (ok_X12_fitOf hC.2.2.2.2.2.2.2.1 hW h132) rfl rfl (Nat.le_of_ble_eq_true rfl) ⟨Nat.zero_le _, Nat.zero_le _⟩ ?_
      refine g_ic_ne hC dX12_fit_135 (tgt := 142) (by decide) (fun c135 => ?_) (fun c135 => ?_)
      · replace h := (if_neg c135).symm.trans h
        refine g_iinc hC dX12_fit_142 rfl (q := 5) rfl (w := (v6 + (-1 : Int32))) rfl (by decide) (lv' := [(6, .int (v6 + (-1 : Int32))), (0, .ref (mB E + 75)), (1, .int v1), (3, .int v3), (4, .int v4), (5, .int v5)]) rfl ?_
        refine g_goto hC dX12_fit_145 (tgt := 86) (by decide) ?_
        refine g_lv [1, 2, 3, 4, 5, 0] rfl ?_
        exact hk86_ v1 v3 v4 v5 (v6 + (-1 : Int32)) I h
      · replace h := (if_pos c135).symm.trans h
        refine g_iload hC dX12_fit_138 (q := 5) rfl ?_
        refine g_istore hC dX12_fit_140 rfl (by decide) (lv' := [(4, .int v6), (0, .ref (mB E + 75)), (1, .int v1), (3, .int v3), (5, .int v5), (6, .int v6)]) rfl ?_
        refine g_iinc hC dX12_fit_142 rfl (q := 5) rfl (w := (v6 + (-1 : Int32))) rfl (by decide) (lv' := [(6, .int (v6 + (-1 : Int32))), (4, .int v6), (0, .ref (mB E + 75)), (1, .int v1), (3, .int v3), (5, .int v5)]) rfl ?_
        refine g_goto hC dX12_fit_145 (tgt := 86) (by decide) ?_
        refine g_lv [2, 3, 4, 1, 5, 0] rfl ?_
        exact hk86_ v1 v3 v6 v5 (v6 + (-1 : Int32)) I h
noncomputable def w_X12_fit_86 (Fu : Nat) (k69_ : Int32 × Int32 × Int32 × Int32 × mIT → Option (Int32 × mIT)) (N : Nat) (v1 : Int32) (v3 : Int32) (v4 : Int32) (v5 : Int32) (v6 : Int32) (I : mIT) : Option (Int32 × mIT) :=
  loopF (fun self (s : Int32 × Int32 × Int32 × Int32 × Int32 × mIT) => b_X12_fit_86 Fu k69_ self s.1 s.2.1 s.2.2.1 s.2.2.2.1 s.2.2.2.2.1 s.2.2.2.2.2) N (v1, v3, v4, v5, v6, I)
theorem wo_X12_fit_86 {X : mXT} {E : mEn} {Fu : Nat} {R : mRT} {L : mLT}  (hC : mC X E mX12_fit RX12 cX12_fit) (hW : mWd R)   {out : Int32 × mIT} (hE : mEd X E 0 0 (mSame (some (.int (out.1))) 106 1 (out.2) R L)) (k69_ : Int32 × Int32 × Int32 × Int32 × mIT → Option (Int32 × mIT)) (hk69_ : ∀ (v1 : Int32) (v3 : Int32) (v4 : Int32) (v5 : Int32) (I : mIT),  k69_ (v1, v3, v4, v5, I) = some out → mG X E 69 [(0, .ref (mB E + 75)), (1, .int v1), (3, .int v3), (4, .int v4), (5, .int v5)] [] 106 1 I R L 0 0) (N : Nat) (v1 : Int32) (v3 : Int32) (v4 : Int32) (v5 : Int32) (v6 : Int32) (I : mIT) (h : w_X12_fit_86 Fu k69_ N v1 v3 v4 v5 v6 I = some out) : mG X E 86 [(0, .ref (mB E + 75)), (1, .int v1), (3, .int v3), (4, .int v4), (5, .int v5), (6, .int v6)] [] 106 1 I R L 0 0 :=
  loopF_ok (Gd := fun s : Int32 × Int32 × Int32 × Int32 × Int32 × mIT => mG X E 86 [(0, .ref (mB E + 75)), (1, .int s.1), (3, .int s.2.1), (4, .int s.2.2.1), (5, .int s.2.2.2.1), (6, .int s.2.2.2.2.1)] [] 106 1 s.2.2.2.2.2 R L 0 0) (fun self hs s h => bo_X12_fit_86 hC hW hE k69_ hk69_ self (fun v1 v3 v4 v5 v6 I h => hs (v1, v3, v4, v5, v6, I) h) s.1 s.2.1 s.2.2.1 s.2.2.2.1 s.2.2.2.2.1 s.2.2.2.2.2 h) N (v1, v3, v4, v5, v6, I) h
noncomputable def b_X12_fit_69 (Fu : Nat) (k69_ : Int32 × Int32 × Int32 × Int32 × mIT → Option (Int32 × mIT)) (v1 : Int32) (v3 : Int32) (v4 : Int32) (v5 : Int32) (I : mIT) : Option (Int32 × mIT) :=
  if v1 < v5 then (some (v4, I)) else (w_X12_fit_86 Fu k69_ Fu v1 v3 (-1 : Int32) v5 ((I 75 1) - (1 : Int32)) I)
set_option maxRecDepth 20000 in
theorem bo_X12_fit_69 {X : mXT} {E : mEn} {Fu : Nat} {R : mRT} {L : mLT}  (hC : mC X E mX12_fit RX12 cX12_fit) (hW : mWd R)   {out : Int32 × mIT} (hE : mEd X E 0 0 (mSame (some (.int (out.1))) 106 1 (out.2) R L)) (k69_ : Int32 × Int32 × Int32 × Int32 × mIT → Option (Int32 × mIT)) (hk69_ : ∀ (v1 : Int32) (v3 : Int32) (v4 : Int32) (v5 : Int32) (I : mIT),  k69_ (v1, v3, v4, v5, I) = some out → mG X E 69 [(0, .ref (mB E + 75)), (1, .int v1), (3, .int v3), (4, .int v4), (5, .int v5)] [] 106 1 I R L 0 0) (v1 : Int32) (v3 : Int32) (v4 : Int32) (v5 : Int32) (I : mIT) (h : b_X12_fit_69 Fu k69_ v1 v3 v4 v5 I = some out) : mG X E 69 [(0, .ref (mB E + 75)), (1, .int v1), (3, .int v3), (4, .int v4), (5, .int v5)] [] 106 1 I R L 0 0 := by
  unfold b_X12_fit_69 at h
  refine g_iload hC dX12_fit_69 (q := 4) rfl ?_
  refine g_iload_n hC dX12_fit_71 rfl (q := 1) rfl ?_
  refine g_ic_gt hC dX12_fit_72 (tgt := 161) (by decide) (fun c72 => ?_) (fun c72 => ?_)
  · replace h := (if_pos c72).symm.trans h
    refine g_iload hC dX12_fit_161 (q := 3) rfl ?_
    cases h
    exact g_iret hC hE rfl dX12_fit_163 (Nat.zero_le _) (Nat.zero_le _) ⟨rfl, rfl, rfl, rfl, rfl, rfl⟩
  · replace h := (if_neg c72).symm.trans h
    refine g_iconst hC dX12_fit_75 (v := (-1 : Int32)) (by decide) ?_
    refine g_istore hC dX12_fit_76 rfl (by decide) (lv' := [(4, .int (-1 : Int32)), (0, .ref (mB E + 75)), (1, .int v1), (3, .int v3), (5, .int v5)]) rfl ?_
    refine g_aload_n hC dX12_fit_78 rfl (q := 1) rfl ?_
    refine g_geti hC fd_RX12_289 rfl (by decide) (Or.inl rfl) dX12_fit_79 ?_
    refine g_iconst hC dX12_fit_82 (v := (1 : Int32)) (by decide) ?_
    refine g_isub hC dX12_fit_83 ?_
    refine g_istore hC dX12_fit_84 rfl (by decide) (lv' := [(6, .int ((I 75 1) - (1 : Int32))), (4, .int (-1 : Int32)), (0, .ref (mB E + 75)), (1, .int v1), (3, .int v3), (5, .int v5)]) rfl ?_
    refine g_lv [2, 3, 4, 1, 5, 0] rfl ?_
    exact wo_X12_fit_86 hC hW hE k69_ hk69_ Fu (v1) (v3) ((-1 : Int32)) (v5) (((I 75 1) - (1 : Int32))) (I) h
noncomputable def w_X12_fit_69 (Fu : Nat)  (N : Nat) (v1 : Int32) (v3 : Int32) (v4 : Int32) (v5 : Int32) (I : mIT) : Option (Int32 × mIT) :=
  loopF (fun self (s : Int32 × Int32 × Int32 × Int32 × mIT) => b_X12_fit_69 Fu self s.1 s.2.1 s.2.2.1 s.2.2.2.1 s.2.2.2.2) N (v1, v3, v4, v5, I)
theorem wo_X12_fit_69 {X : mXT} {E : mEn} {Fu : Nat} {R : mRT} {L : mLT}  (hC : mC X E mX12_fit RX12 cX12_fit) (hW : mWd R)   {out : Int32 × mIT} (hE : mEd X E 0 0 (mSame (some (.int (out.1))) 106 1 (out.2) R L))  (N : Nat) (v1 : Int32) (v3 : Int32) (v4 : Int32) (v5 : Int32) (I : mIT) (h : w_X12_fit_69 Fu  N v1 v3 v4 v5 I = some out) : mG X E 69 [(0, .ref (mB E + 75)), (1, .int v1), (3, .int v3), (4, .int v4), (5, .int v5)] [] 106 1 I R L 0 0 :=
  loopF_ok (Gd := fun s : Int32 × Int32 × Int32 × Int32 × mIT => mG X E 69 [(0, .ref (mB E + 75)), (1, .int s.1), (3, .int s.2.1), (4, .int s.2.2.1), (5, .int s.2.2.2.1)] [] 106 1 s.2.2.2.2 R L 0 0) (fun self hs s h => bo_X12_fit_69 hC hW hE self (fun v1 v3 v4 v5 I h => hs (v1, v3, v4, v5, I) h) s.1 s.2.1 s.2.2.1 s.2.2.2.1 s.2.2.2.2 h) N (v1, v3, v4, v5, I) h
noncomputable def b_X12_fit_24 (Fu : Nat)  (v1 : Int32) (s1 : Int32) (I : mIT) : Option (Int32 × mIT) :=
  oB (f_X12_right Fu I s1 (1 : Int32)) (fun r25 => if r25.1 = 0 then (some ((0 : Int32), r25.2)) else (oB (f_X12_laysFit Fu r25.2) (fun r34 => oB (f_X12_fitOf Fu r34 (0 : Int32) (0 : Int32)) (fun r40 => if r40 < (9999 : Int32) then (if v1 = (-1 : Int32) then (some (r40, r34)) else (w_X12_fit_69 Fu Fu v1 (0 : Int32) (-1 : Int32) (0 : Int32) r34)) else (some ((-2 : Int32), r34))))))
set_option maxRecDepth 20000 in
theorem bo_X12_fit_24 {X : mXT} {E : mEn} {Fu : Nat} {R : mRT} {L : mLT}  (hC : mC X E mX12_fit RX12 cX12_fit) (hW : mWd R)   {out : Int32 × mIT} (hE : mEd X E 0 0 (mSame (some (.int (out.1))) 106 1 (out.2) R L))  (v1 : Int32) (s1 : Int32) (I : mIT) (h : b_X12_fit_24 Fu  v1 s1 I = some out) : mG X E 24 [(0, .ref (mB E + 75)), (1, .int v1)] [.int s1, .ref (mB E + 75)] 106 1 I R L 0 0 := by
  unfold b_X12_fit_24 at h
  refine g_iconst hC dX12_fit_24 (v := (1 : Int32)) (by decide) ?_
  obtain ⟨r25, h25, h⟩ := oB_some h
  refine g_cV1 hC cv_X12_right wd_1851 ⟨Nat.le_of_ble_eq_true rfl, Nat.le_of_ble_eq_true rfl⟩ rfl (by decide) dX12_fit_25 (As := [.int s1, .int (1 : Int32)]) (st := []) (ok_X12_right hC.2.2.2.2.2.2.2.1 hW h25) rfl rfl (Nat.le_of_ble_eq_true rfl) ⟨Nat.zero_le _, Nat.zero_le _⟩ ?_
  refine g_if_ne hC dX12_fit_28 (tgt := 33) (by decide) (fun c28 => ?_) (fun c28 => ?_)
  · replace h := (if_neg c28).symm.trans h
    refine g_aload_n hC dX12_fit_33 rfl (q := 0) rfl ?_
    obtain ⟨r34, h34, h⟩ := oB_some h
    refine g_cV0 hC cv_X12_laysFit wd_2194 ⟨Nat.le_of_ble_eq_true rfl, Nat.le_of_ble_eq_true rfl⟩ rfl (by decide) dX12_fit_34 (As := []) (st := []) (ok_X12_laysFit hC.2.2.2.2.2.2.2.1 hW h34) rfl rfl (Nat.le_of_ble_eq_true rfl) ⟨Nat.zero_le _, Nat.zero_le _⟩ ?_
    refine g_aload_n hC dX12_fit_37 rfl (q := 0) rfl ?_
    refine g_iconst hC dX12_fit_38 (v := (0 : Int32)) (by decide) ?_
    refine g_iconst hC dX12_fit_39 (v := (0 : Int32)) (by decide) ?_
    obtain ⟨r40, h40, h⟩ := oB_some h
    refine g_cV1 hC cv_X12_fitOf wd_2202 ⟨Nat.le_of_ble_eq_true rfl, Nat.le_of_ble_eq_true rfl⟩ rfl (by decide) dX12_fit_40 (As := [.int (0 : Int32), .int (0 : Int32)]) (st := []) (ok_X12_fitOf hC.2.2.2.2.2.2.2.1 hW h40) rfl rfl (Nat.le_of_ble_eq_true rfl) ⟨Nat.zero_le _, Nat.zero_le _⟩ ?_
    refine g_istore_n hC dX12_fit_43 rfl rfl (by decide) (lv' := [(2, .int r40), (0, .ref (mB E + 75)), (1, .int v1)]) rfl ?_
    refine g_iload_n hC dX12_fit_44 rfl (q := 0) rfl ?_
    refine g_sipush hC dX12_fit_45 (v := (9999 : Int32)) (by decide) ?_
    refine g_ic_lt hC dX12_fit_48 (tgt := 54) (by decide) (fun c48 => ?_) (fun c48 => ?_)
    · replace h := (if_pos c48).symm.trans h
      refine g_iload_n hC dX12_fit_54 rfl (q := 2) rfl ?_
      refine g_iconst hC dX12_fit_55 (v := (-1 : Int32)) (by decide) ?_
      refine g_ic_ne hC dX12_fit_56 (tgt := 61) (by decide) (fun c56 => ?_) (fun c56 => ?_)
      · replace h := (if_neg c56).symm.trans h
        refine g_iconst hC dX12_fit_61 (v := (0 : Int32)) (by decide) ?_
        refine g_istore_n hC dX12_fit_62 rfl rfl (by decide) (lv' := [(3, .int (0 : Int32)), (2, .int r40), (0, .ref (mB E + 75)), (1, .int v1)]) rfl ?_
        refine g_iconst hC dX12_fit_63 (v := (-1 : Int32)) (by decide) ?_
        refine g_istore hC dX12_fit_64 rfl (by decide) (lv' := [(4, .int (-1 : Int32)), (3, .int (0 : Int32)), (2, .int r40), (0, .ref (mB E + 75)), (1, .int v1)]) rfl ?_
        refine g_iconst hC dX12_fit_66 (v := (0 : Int32)) (by decide) ?_
        refine g_istore hC dX12_fit_67 rfl (by decide) (lv' := [(5, .int (0 : Int32)), (4, .int (-1 : Int32)), (3, .int (0 : Int32)), (2, .int r40), (0, .ref (mB E + 75)), (1, .int v1)]) rfl ?_
        refine g_lv [4, 5, 2, 1, 0] rfl ?_
        exact wo_X12_fit_69 hC hW hE Fu (v1) ((0 : Int32)) ((-1 : Int32)) ((0 : Int32)) (r34) h
      · replace h := (if_pos c56).symm.trans h
        refine g_iload_n hC dX12_fit_59 rfl (q := 0) rfl ?_
        cases h
        exact g_iret hC hE rfl dX12_fit_60 (Nat.zero_le _) (Nat.zero_le _) ⟨rfl, rfl, rfl, rfl, rfl, rfl⟩
    · replace h := (if_neg c48).symm.trans h
      refine g_bipush hC dX12_fit_51 (v := (-2 : Int32)) (by decide) ?_
      cases h
      exact g_iret hC hE rfl dX12_fit_53 (Nat.zero_le _) (Nat.zero_le _) ⟨rfl, rfl, rfl, rfl, rfl, rfl⟩
  · replace h := (if_pos c28).symm.trans h
    refine g_iconst hC dX12_fit_31 (v := (0 : Int32)) (by decide) ?_
    cases h
    exact g_iret hC hE rfl dX12_fit_32 (Nat.zero_le _) (Nat.zero_le _) ⟨rfl, rfl, rfl, rfl, rfl, rfl⟩
noncomputable def b_X12_fit_23 (Fu : Nat)  (v1 : Int32) (I : mIT) : Option (Int32 × mIT) :=
  b_X12_fit_24 Fu v1 (0 : Int32) I
set_option maxRecDepth 20000 in
theorem bo_X12_fit_23 {X : mXT} {E : mEn} {Fu : Nat} {R : mRT} {L : mLT}  (hC : mC X E mX12_fit RX12 cX12_fit) (hW : mWd R)   {out : Int32 × mIT} (hE : mEd X E 0 0 (mSame (some (.int (out.1))) 106 1 (out.2) R L))  (v1 : Int32) (I : mIT) (h : b_X12_fit_23 Fu  v1 I = some out) : mG X E 23 [(0, .ref (mB E + 75)), (1, .int v1)] [.ref (mB E + 75)] 106 1 I R L 0 0 := by
  unfold b_X12_fit_23 at h
  refine g_iconst hC dX12_fit_23 (v := (0 : Int32)) (by decide) ?_
  exact bo_X12_fit_24 hC hW hE (v1) ((0 : Int32)) (I) h
noncomputable def f_X12_fit (Fu : Nat) (I : mIT) (v1 : Int32) : Option (Int32 × mIT) :=
  if v1 < (-1 : Int32) then (b_X12_fit_23 Fu v1 (mU I 75 0 (0 : Int32))) else (if ((mU I 75 0 (0 : Int32)) 75 4) ≤ v1 then (b_X12_fit_23 Fu v1 (mU I 75 0 (0 : Int32))) else (b_X12_fit_24 Fu v1 (1 : Int32) (mU I 75 0 (0 : Int32))))
set_option maxRecDepth 20000 in
theorem ok_X12_fit {l : Launch} {E : mEn} {Fu : Nat} {I : mIT} {R : mRT} {L : mLT} {v1 : Int32} (hst : l.stackTraces = false) (hW : mWd R)  {out : Int32 × mIT} (h : f_X12_fit Fu I v1 = some out) : mOk l E mX12_fit [.ref (mB E + 75), .int v1] 106 1 I R L 0 0 (mSame (some (.int (out.1))) 106 1 (out.2) R L) := by
  refine mOk_of hst (by decide) (Nat.le_of_ble_eq_true rfl) (fun X hC hE _ => ?_)
  have hC : mC X E mX12_fit RX12 cX12_fit := hC
  show mG X E 0 [(0, .ref (mB E + 75)), (1, .int v1)] [] 106 1 I R L 0 0
  unfold f_X12_fit at h
  refine g_aload_n hC dX12_fit_0 rfl (q := 0) rfl ?_
  refine g_iconst hC dX12_fit_1 (v := (0 : Int32)) (by decide) ?_
  refine g_puti hC fd_RX12_114 rfl (by decide) rfl dX12_fit_2 (nm_e ?_)
  refine g_aload_n hC dX12_fit_5 rfl (q := 0) rfl ?_
  refine g_iload_n hC dX12_fit_6 rfl (q := 1) rfl ?_
  refine g_iconst hC dX12_fit_7 (v := (-1 : Int32)) (by decide) ?_
  refine g_ic_lt hC dX12_fit_8 (tgt := 23) (by decide) (fun c8 => ?_) (fun c8 => ?_)
  · replace h := (if_pos c8).symm.trans h
    exact bo_X12_fit_23 hC hW hE (v1) ((mU I 75 0 (0 : Int32))) h
  · replace h := (if_neg c8).symm.trans h
    refine g_iload_n hC dX12_fit_11 rfl (q := 1) rfl ?_
    refine g_aload_n hC dX12_fit_12 rfl (q := 0) rfl ?_
    refine g_geti hC fd_RX12_295 rfl (by decide) (Or.inl rfl) dX12_fit_13 ?_
    refine g_ic_ge hC dX12_fit_16 (tgt := 23) (by decide) (fun c16 => ?_) (fun c16 => ?_)
    · replace h := (if_pos c16).symm.trans h
      exact bo_X12_fit_23 hC hW hE (v1) ((mU I 75 0 (0 : Int32))) h
    · replace h := (if_neg c16).symm.trans h
      refine g_iconst hC dX12_fit_19 (v := (1 : Int32)) (by decide) ?_
      refine g_goto hC dX12_fit_20 (tgt := 24) (by decide) ?_
      exact bo_X12_fit_24 hC hW hE (v1) ((1 : Int32)) ((mU I 75 0 (0 : Int32))) h
noncomputable def f_X12_forget (Fu : Nat) (I : mIT)  : Option (mIT) :=
  some (mU (mU I 75 0 (0 : Int32)) 75 55 (0 : Int32))
set_option maxRecDepth 20000 in
theorem ok_X12_forget {l : Launch} {E : mEn} {Fu : Nat} {I : mIT} {R : mRT} {L : mLT}  (hst : l.stackTraces = false) (hW : mWd R)  {out : mIT} (h : f_X12_forget Fu I  = some out) : mOk l E mX12_forget [.ref (mB E + 75)] 106 1 I R L 0 0 (mSame none 106 1 (out) R L) := by
  refine mOk_of hst (by decide) (Nat.le_of_ble_eq_true rfl) (fun X hC hE _ => ?_)
  have hC : mC X E mX12_forget RX12 cX12_forget := hC
  show mG X E 0 [(0, .ref (mB E + 75))] [] 106 1 I R L 0 0
  unfold f_X12_forget at h
  refine g_aload_n hC dX12_forget_0 rfl (q := 0) rfl ?_
  refine g_iconst hC dX12_forget_1 (v := (0 : Int32)) (by decide) ?_
  refine g_puti hC fd_RX12_114 rfl (by decide) rfl dX12_forget_2 (nm_e ?_)
  refine g_aload_n hC dX12_forget_5 rfl (q := 0) rfl ?_
  refine g_iconst hC dX12_forget_6 (v := (0 : Int32)) (by decide) ?_
  refine g_puti hC fd_RX12_308 rfl (by decide) rfl dX12_forget_7 (nm_e ?_)
  cases h
  exact g_vret hC hE rfl dX12_forget_10 (Nat.zero_le _) (Nat.zero_le _) ⟨rfl, rfl, rfl, rfl, rfl, rfl⟩
noncomputable def f_X12_noteWith (Fu : Nat) (I : mIT) (v1 : Int32) (v2 : Int32) : Option (Int32 × mIT) :=
  oB (f_X12_tries Fu I) (fun r1 => oG (inB ((64 : Int32) + v1) 106) (oG (inB ((64 : Int32) + v1) 106) (oB (f_X12_noteOf Fu (mU r1 89 (((64 : Int32) + v1)).toNatClampNeg ((r1 89 (((64 : Int32) + v1)).toNatClampNeg) + v2)) (53 : Int32) v1) (fun r21 => some (r21.1, r21.2)))))
set_option maxRecDepth 20000 in
theorem ok_X12_noteWith {l : Launch} {E : mEn} {Fu : Nat} {I : mIT} {R : mRT} {L : mLT} {v1 : Int32} {v2 : Int32} (hst : l.stackTraces = false) (hW : mWd R)  {out : Int32 × mIT} (h : f_X12_noteWith Fu I v1 v2 = some out) : mOk l E mX12_noteWith [.ref (mB E + 75), .int v1, .int v2] 106 1 I R L 0 0 (mSame (some (.int (out.1))) 106 1 (out.2) R L) := by
  refine mOk_of hst (by decide) (Nat.le_of_ble_eq_true rfl) (fun X hC hE _ => ?_)
  have hC : mC X E mX12_noteWith RX12 cX12_noteWith := hC
  show mG X E 0 [(0, .ref (mB E + 75)), (1, .int v1), (2, .int v2)] [] 106 1 I R L 0 0
  unfold f_X12_noteWith at h
  refine g_aload_n hC dX12_noteWith_0 rfl (q := 0) rfl ?_
  obtain ⟨r1, h1, h⟩ := oB_some h
  refine g_cV0 hC cv_X12_tries wd_2110 ⟨Nat.le_of_ble_eq_true rfl, Nat.le_of_ble_eq_true rfl⟩ rfl (by decide) dX12_noteWith_1 (As := []) (st := []) (ok_X12_tries hC.2.2.2.2.2.2.2.1 hW h1) rfl rfl (Nat.le_of_ble_eq_true rfl) ⟨Nat.zero_le _, Nat.zero_le _⟩ ?_
  refine g_aload_n hC dX12_noteWith_4 rfl (q := 0) rfl ?_
  refine g_getr hC fd_RX12_63 rfl (by decide) (C0 := "") (t0 := _) (Or.inr rfl) (rr_75_42 hW.1) dX12_noteWith_5 ?_
  refine g_bipush hC dX12_noteWith_8 (v := (64 : Int32)) (by decide) ?_
  refine g_iload_n hC dX12_noteWith_10 rfl (q := 1) rfl ?_
  refine g_iadd hC dX12_noteWith_11 ?_
  refine g_dup2 hC dX12_noteWith_12 rfl rfl ?_
  obtain ⟨g13, h⟩ := oG_some h
  refine g_iald hC rfl (by decide) (inB_in g13) dX12_noteWith_13 ?_
  refine g_iload_n hC dX12_noteWith_14 rfl (q := 2) rfl ?_
  refine g_iadd hC dX12_noteWith_15 ?_
  obtain ⟨g16, h⟩ := oG_some h
  refine g_iast hC rfl (by decide) (inB_in g16) dX12_noteWith_16 (nm_e ?_)
  refine g_aload_n hC dX12_noteWith_17 rfl (q := 0) rfl ?_
  refine g_bipush hC dX12_noteWith_18 (v := (53 : Int32)) (by decide) ?_
  refine g_iload_n hC dX12_noteWith_20 rfl (q := 1) rfl ?_
  obtain ⟨r21, h21, h⟩ := oB_some h
  refine g_cV1 hC cv_X12_noteOf wd_2012 ⟨Nat.le_of_ble_eq_true rfl, Nat.le_of_ble_eq_true rfl⟩ rfl (by decide) dX12_noteWith_21 (As := [.int (53 : Int32), .int v1]) (st := []) (ok_X12_noteOf hC.2.2.2.2.2.2.2.1 hW h21) rfl rfl (Nat.le_of_ble_eq_true rfl) ⟨Nat.zero_le _, Nat.zero_le _⟩ ?_
  cases h
  exact g_iret hC hE rfl dX12_noteWith_24 (Nat.zero_le _) (Nat.zero_le _) ⟨rfl, rfl, rfl, rfl, rfl, rfl⟩
noncomputable def b_X12_gains_14 (Fu : Nat) (k14_ : Int32 × Int32 × Int32 × Int32 × Int32 × Int32 × mIT → Option (Int32 × mIT)) (v2 : Int32) (v3 : Int32) (v4 : Int32) (v5 : Int32) (v6 : Int32) (v7 : Int32) (I : mIT) : Option (Int32 × mIT) :=
  if (I 75 4) ≤ v7 then (oB (f_X12_noteWith Fu I v2 v4) (fun r92 => if v5 = r92.1 then (some (((((4 : Int32) - v6) - (2 : Int32)) - v3), r92.2)) else (some (((((4 : Int32) - v6) - (0 : Int32)) - v3), r92.2)))) else (oG (inB v7 8) (if (I 78 (v7).toNatClampNeg) ≤ v5 then (oG (inB v7 8) (if v6 ≤ (v5 - (I 78 (v7).toNatClampNeg)) then (k14_ (v2, v3, v4, v5, v6, (v7 + (1 : Int32)), I)) else (k14_ (v2, v3, v4, v5, (v5 - (I 78 (v7).toNatClampNeg)), (v7 + (1 : Int32)), I)))) else (oG (inB v7 8) (if v6 ≤ ((I 78 (v7).toNatClampNeg) - v5) then (k14_ (v2, v3, v4, v5, v6, (v7 + (1 : Int32)), I)) else (k14_ (v2, v3, v4, v5, ((I 78 (v7).toNatClampNeg) - v5), (v7 + (1 : Int32)), I))))))
set_option maxRecDepth 20000 in
theorem bo_X12_gains_14 {X : mXT} {E : mEn} {Fu : Nat} {R : mRT} {L : mLT}  (hC : mC X E mX12_gains RX12 cX12_gains) (hW : mWd R)   {out : Int32 × mIT} (hE : mEd X E 0 0 (mSame (some (.int (out.1))) 106 1 (out.2) R L)) (k14_ : Int32 × Int32 × Int32 × Int32 × Int32 × Int32 × mIT → Option (Int32 × mIT)) (hk14_ : ∀ (v2 : Int32) (v3 : Int32) (v4 : Int32) (v5 : Int32) (v6 : Int32) (v7 : Int32) (I : mIT),  k14_ (v2, v3, v4, v5, v6, v7, I) = some out → mG X E 14 [(0, .ref (mB E + 75)), (2, .int v2), (3, .int v3), (4, .int v4), (5, .int v5), (6, .int v6), (7, .int v7)] [] 106 1 I R L 0 0) (v2 : Int32) (v3 : Int32) (v4 : Int32) (v5 : Int32) (v6 : Int32) (v7 : Int32) (I : mIT) (h : b_X12_gains_14 Fu k14_ v2 v3 v4 v5 v6 v7 I = some out) : mG X E 14 [(0, .ref (mB E + 75)), (2, .int v2), (3, .int v3), (4, .int v4), (5, .int v5), (6, .int v6), (7, .int v7)] [] 106 1 I R L 0 0 := by
  unfold b_X12_gains_14 at h
  refine g_iload hC dX12_gains_14 (q := 6) rfl ?_
  refine g_aload_n hC dX12_gains_16 rfl (q := 0) rfl ?_
  refine g_geti hC fd_RX12_295 rfl (by decide) (Or.inl rfl) dX12_gains_17 ?_
  refine g_ic_ge hC dX12_gains_20 (tgt := 82) (by decide) (fun c20 => ?_) (fun c20 => ?_)
  · replace h := (if_pos c20).symm.trans h
    refine g_iconst hC dX12_gains_82 (v := (4 : Int32)) (by decide) ?_
    refine g_iload hC dX12_gains_83 (q := 5) rfl ?_
    refine g_isub hC dX12_gains_85 ?_
    refine g_iload hC dX12_gains_86 (q := 4) rfl ?_
    refine g_aload_n hC dX12_gains_88 rfl (q := 0) rfl ?_
    refine g_iload_n hC dX12_gains_89 rfl (q := 1) rfl ?_
    refine g_iload hC dX12_gains_90 (q := 3) rfl ?_
    obtain ⟨r92, h92, h⟩ := oB_some h
    refine g_cV1 hC cv_X12_noteWith wd_2253 ⟨Nat.le_of_ble_eq_true rfl, Nat.le_of_ble_eq_true rfl⟩ rfl (by decide) dX12_gains_92 (As := [.int v2, .int v4]) (st := [.int v5, .int ((4 : Int32) - v6)]) (ok_X12_noteWith hC.2.2.2.2.2.2.2.1 hW h92) rfl rfl (Nat.le_of_ble_eq_true rfl) ⟨Nat.zero_le _, Nat.zero_le _⟩ ?_
    refine g_ic_ne hC dX12_gains_95 (tgt := 102) (by decide) (fun c95 => ?_) (fun c95 => ?_)
    · replace h := (if_neg c95).symm.trans h
      refine g_iconst hC dX12_gains_102 (v := (0 : Int32)) (by decide) ?_
      refine g_isub hC dX12_gains_103 ?_
      refine g_iload_n hC dX12_gains_104 rfl (q := 2) rfl ?_
      refine g_isub hC dX12_gains_105 ?_
      cases h
      exact g_iret hC hE rfl dX12_gains_106 (Nat.zero_le _) (Nat.zero_le _) ⟨rfl, rfl, rfl, rfl, rfl, rfl⟩
    · replace h := (if_pos c95).symm.trans h
      refine g_iconst hC dX12_gains_98 (v := (2 : Int32)) (by decide) ?_
      refine g_goto hC dX12_gains_99 (tgt := 103) (by decide) ?_
      refine g_isub hC dX12_gains_103 ?_
      refine g_iload_n hC dX12_gains_104 rfl (q := 2) rfl ?_
      refine g_isub hC dX12_gains_105 ?_
      cases h
      exact g_iret hC hE rfl dX12_gains_106 (Nat.zero_le _) (Nat.zero_le _) ⟨rfl, rfl, rfl, rfl, rfl, rfl⟩
  · replace h := (if_neg c20).symm.trans h
    refine g_iload hC dX12_gains_23 (q := 4) rfl ?_
    refine g_aload_n hC dX12_gains_25 rfl (q := 0) rfl ?_
    refine g_getr hC fd_RX12_26 rfl (by decide) (C0 := "") (t0 := _) (Or.inr rfl) (rr_75_10 hW.1) dX12_gains_26 ?_
    refine g_iload hC dX12_gains_29 (q := 6) rfl ?_
    obtain ⟨g31, h⟩ := oG_some h
    refine g_iald hC rfl (by decide) (inB_in g31) dX12_gains_31 ?_
    refine g_ic_ge hC dX12_gains_32 (tgt := 48) (by decide) (fun c32 => ?_) (fun c32 => ?_)
    · replace h := (if_pos c32).symm.trans h
      refine g_iload hC dX12_gains_48 (q := 4) rfl ?_
      refine g_aload_n hC dX12_gains_50 rfl (q := 0) rfl ?_
      refine g_getr hC fd_RX12_26 rfl (by decide) (C0 := "") (t0 := _) (Or.inr rfl) (rr_75_10 hW.1) dX12_gains_51 ?_
      refine g_iload hC dX12_gains_54 (q := 6) rfl ?_
      obtain ⟨g56, h⟩ := oG_some h
      refine g_iald hC rfl (by decide) (inB_in g56) dX12_gains_56 ?_
      refine g_isub hC dX12_gains_57 ?_
      refine g_istore hC dX12_gains_58 rfl (by decide) (lv' := [(8, .int (v5 - (I 78 (v7).toNatClampNeg))), (0, .ref (mB E + 75)), (2, .int v2), (3, .int v3), (4, .int v4), (5, .int v5), (6, .int v6), (7, .int v7)]) rfl ?_
      refine g_iload hC dX12_gains_60 (q := 0) rfl ?_
      refine g_iload hC dX12_gains_62 (q := 6) rfl ?_
      refine g_ic_ge hC dX12_gains_64 (tgt := 72) (by decide) (fun c64 => ?_) (fun c64 => ?_)
      · replace h := (if_pos c64).symm.trans h
        refine g_iload hC dX12_gains_72 (q := 6) rfl ?_
        refine g_istore hC dX12_gains_74 rfl (by decide) (lv' := [(6, .int v6), (8, .int (v5 - (I 78 (v7).toNatClampNeg))), (0, .ref (mB E + 75)), (2, .int v2), (3, .int v3), (4, .int v4), (5, .int v5), (7, .int v7)]) rfl ?_
        refine g_iinc hC dX12_gains_76 rfl (q := 7) rfl (w := (v7 + (1 : Int32))) rfl (by decide) (lv' := [(7, .int (v7 + (1 : Int32))), (6, .int v6), (8, .int (v5 - (I 78 (v7).toNatClampNeg))), (0, .ref (mB E + 75)), (2, .int v2), (3, .int v3), (4, .int v4), (5, .int v5)]) rfl ?_
        refine g_goto hC dX12_gains_79 (tgt := 14) (by decide) ?_
        refine g_lv [3, 4, 5, 6, 7, 1, 0] rfl ?_
        exact hk14_ v2 v3 v4 v5 v6 (v7 + (1 : Int32)) I h
      · replace h := (if_neg c64).symm.trans h
        refine g_iload hC dX12_gains_67 (q := 0) rfl ?_
        refine g_goto hC dX12_gains_69 (tgt := 74) (by decide) ?_
        refine g_istore hC dX12_gains_74 rfl (by decide) (lv' := [(6, .int (v5 - (I 78 (v7).toNatClampNeg))), (8, .int (v5 - (I 78 (v7).toNatClampNeg))), (0, .ref (mB E + 75)), (2, .int v2), (3, .int v3), (4, .int v4), (5, .int v5), (7, .int v7)]) rfl ?_
        refine g_iinc hC dX12_gains_76 rfl (q := 7) rfl (w := (v7 + (1 : Int32))) rfl (by decide) (lv' := [(7, .int (v7 + (1 : Int32))), (6, .int (v5 - (I 78 (v7).toNatClampNeg))), (8, .int (v5 - (I 78 (v7).toNatClampNeg))), (0, .ref (mB E + 75)), (2, .int v2), (3, .int v3), (4, .int v4), (5, .int v5)]) rfl ?_
        refine g_goto hC dX12_gains_79 (tgt := 14) (by decide) ?_
        refine g_lv [3, 4, 5, 6, 7, 1, 0] rfl ?_
        exact hk14_ v2 v3 v4 v5 (v5 - (I 78 (v7).toNatClampNeg)) (v7 + (1 : Int32)) I h
    · replace h := (if_neg c32).symm.trans h
      refine g_aload_n hC dX12_gains_35 rfl (q := 0) rfl ?_
      refine g_getr hC fd_RX12_26 rfl (by decide) (C0 := "") (t0 := _) (Or.inr rfl) (rr_75_10 hW.1) dX12_gains_36 ?_
      refine g_iload hC dX12_gains_39 (q := 6) rfl ?_
      obtain ⟨g41, h⟩ := oG_some h
      refine g_iald hC rfl (by decide) (inB_in g41) dX12_gains_41 ?_
      refine g_iload hC dX12_gains_42 (q := 4) rfl ?_
      refine g_isub hC dX12_gains_44 ?_
      refine g_goto hC dX12_gains_45 (tgt := 58) (by decide) ?_
      refine g_istore hC dX12_gains_58 rfl (by decide) (lv' := [(8, .int ((I 78 (v7).toNatClampNeg) - v5)), (0, .ref (mB E + 75)), (2, .int v2), (3, .int v3), (4, .int v4), (5, .int v5), (6, .int v6), (7, .int v7)]) rfl ?_
      refine g_iload hC dX12_gains_60 (q := 0) rfl ?_
      refine g_iload hC dX12_gains_62 (q := 6) rfl ?_
      refine g_ic_ge hC dX12_gains_64 (tgt := 72) (by decide) (fun c64 => ?_) (fun c64 => ?_)
      · replace h := (if_pos c64).symm.trans h
        refine g_iload hC dX12_gains_72 (q := 6) rfl ?_
        refine g_istore hC dX12_gains_74 rfl (by decide) (lv' := [(6, .int v6), (8, .int ((I 78 (v7).toNatClampNeg) - v5)), (0, .ref (mB E + 75)), (2, .int v2), (3, .int v3), (4, .int v4), (5, .int v5), (7, .int v7)]) rfl ?_
        refine g_iinc hC dX12_gains_76 rfl (q := 7) rfl (w := (v7 + (1 : Int32))) rfl (by decide) (lv' := [(7, .int (v7 + (1 : Int32))), (6, .int v6), (8, .int ((I 78 (v7).toNatClampNeg) - v5)), (0, .ref (mB E + 75)), (2, .int v2), (3, .int v3), (4, .int v4), (5, .int v5)]) rfl ?_
        refine g_goto hC dX12_gains_79 (tgt := 14) (by decide) ?_
        refine g_lv [3, 4, 5, 6, 7, 1, 0] rfl ?_
        exact hk14_ v2 v3 v4 v5 v6 (v7 + (1 : Int32)) I h
      · replace h := (if_neg c64).symm.trans h
        refine g_iload hC dX12_gains_67 (q := 0) rfl ?_
        refine g_goto hC dX12_gains_69 (tgt := 74) (by decide) ?_
        refine g_istore hC dX12_gains_74 rfl (by decide) (lv' := [(6, .int ((I 78 (v7).toNatClampNeg) - v5)), (8, .int ((I 78 (v7).toNatClampNeg) - v5)), (0, .ref (mB E + 75)), (2, .int v2), (3, .int v3), (4, .int v4), (5, .int v5), (7, .int v7)]) rfl ?_
        refine g_iinc hC dX12_gains_76 rfl (q := 7) rfl (w := (v7 + (1 : Int32))) rfl (by decide) (lv' := [(7, .int (v7 + (1 : Int32))), (6, .int ((I 78 (v7).toNatClampNeg) - v5)), (8, .int ((I 78 (v7).toNatClampNeg) - v5)), (0, .ref (mB E + 75)), (2, .int v2), (3, .int v3), (4, .int v4), (5, .int v5)]) rfl ?_
        refine g_goto hC dX12_gains_79 (tgt := 14) (by decide) ?_
        refine g_lv [3, 4, 5, 6, 7, 1, 0] rfl ?_
        exact hk14_ v2 v3 v4 v5 ((I 78 (v7).toNatClampNeg) - v5) (v7 + (1 : Int32)) I h
noncomputable def w_X12_gains_14 (Fu : Nat)  (N : Nat) (v2 : Int32) (v3 : Int32) (v4 : Int32) (v5 : Int32) (v6 : Int32) (v7 : Int32) (I : mIT) : Option (Int32 × mIT) :=
  loopF (fun self (s : Int32 × Int32 × Int32 × Int32 × Int32 × Int32 × mIT) => b_X12_gains_14 Fu self s.1 s.2.1 s.2.2.1 s.2.2.2.1 s.2.2.2.2.1 s.2.2.2.2.2.1 s.2.2.2.2.2.2) N (v2, v3, v4, v5, v6, v7, I)
theorem wo_X12_gains_14 {X : mXT} {E : mEn} {Fu : Nat} {R : mRT} {L : mLT}  (hC : mC X E mX12_gains RX12 cX12_gains) (hW : mWd R)   {out : Int32 × mIT} (hE : mEd X E 0 0 (mSame (some (.int (out.1))) 106 1 (out.2) R L))  (N : Nat) (v2 : Int32) (v3 : Int32) (v4 : Int32) (v5 : Int32) (v6 : Int32) (v7 : Int32) (I : mIT) (h : w_X12_gains_14 Fu  N v2 v3 v4 v5 v6 v7 I = some out) : mG X E 14 [(0, .ref (mB E + 75)), (2, .int v2), (3, .int v3), (4, .int v4), (5, .int v5), (6, .int v6), (7, .int v7)] [] 106 1 I R L 0 0 :=
  loopF_ok (Gd := fun s : Int32 × Int32 × Int32 × Int32 × Int32 × Int32 × mIT => mG X E 14 [(0, .ref (mB E + 75)), (2, .int s.1), (3, .int s.2.1), (4, .int s.2.2.1), (5, .int s.2.2.2.1), (6, .int s.2.2.2.2.1), (7, .int s.2.2.2.2.2.1)] [] 106 1 s.2.2.2.2.2.2 R L 0 0) (fun self hs s h => bo_X12_gains_14 hC hW hE self (fun v2 v3 v4 v5 v6 v7 I h => hs (v2, v3, v4, v5, v6, v7, I) h) s.1 s.2.1 s.2.2.1 s.2.2.2.1 s.2.2.2.2.1 s.2.2.2.2.2.1 s.2.2.2.2.2.2 h) N (v2, v3, v4, v5, v6, v7, I) h
noncomputable def f_X12_gains (Fu : Nat) (I : mIT) (v1 : Int32) (v2 : Int32) (v3 : Int32) (v4 : Int32) : Option (Int32 × mIT) :=
  oB (f_X12_noteWith Fu I v1 v3) (fun r3 => w_X12_gains_14 Fu Fu v2 v3 v4 r3.1 (4 : Int32) (0 : Int32) r3.2)
set_option maxRecDepth 20000 in
theorem ok_X12_gains {l : Launch} {E : mEn} {Fu : Nat} {I : mIT} {R : mRT} {L : mLT} {v1 : Int32} {v2 : Int32} {v3 : Int32} {v4 : Int32} (hst : l.stackTraces = false) (hW : mWd R)  {out : Int32 × mIT} (h : f_X12_gains Fu I v1 v2 v3 v4 = some out) : mOk l E mX12_gains [.ref (mB E + 75), .int v1, .int v2, .int v3, .int v4] 106 1 I R L 0 0 (mSame (some (.int (out.1))) 106 1 (out.2) R L) := by
  refine mOk_of hst (by decide) (Nat.le_of_ble_eq_true rfl) (fun X hC hE _ => ?_)
  have hC : mC X E mX12_gains RX12 cX12_gains := hC
  show mG X E 0 [(0, .ref (mB E + 75)), (1, .int v1), (2, .int v2), (3, .int v3), (4, .int v4)] [] 106 1 I R L 0 0
  unfold f_X12_gains at h
  refine g_aload_n hC dX12_gains_0 rfl (q := 0) rfl ?_
  refine g_iload_n hC dX12_gains_1 rfl (q := 1) rfl ?_
  refine g_iload_n hC dX12_gains_2 rfl (q := 3) rfl ?_
  obtain ⟨r3, h3, h⟩ := oB_some h
  refine g_cV1 hC cv_X12_noteWith wd_2253 ⟨Nat.le_of_ble_eq_true rfl, Nat.le_of_ble_eq_true rfl⟩ rfl (by decide) dX12_gains_3 (As := [.int v1, .int v3]) (st := []) (ok_X12_noteWith hC.2.2.2.2.2.2.2.1 hW h3) rfl rfl (Nat.le_of_ble_eq_true rfl) ⟨Nat.zero_le _, Nat.zero_le _⟩ ?_
  refine g_istore hC dX12_gains_6 rfl (by decide) (lv' := [(5, .int r3.1), (0, .ref (mB E + 75)), (1, .int v1), (2, .int v2), (3, .int v3), (4, .int v4)]) rfl ?_
  refine g_iconst hC dX12_gains_8 (v := (4 : Int32)) (by decide) ?_
  refine g_istore hC dX12_gains_9 rfl (by decide) (lv' := [(6, .int (4 : Int32)), (5, .int r3.1), (0, .ref (mB E + 75)), (1, .int v1), (2, .int v2), (3, .int v3), (4, .int v4)]) rfl ?_
  refine g_iconst hC dX12_gains_11 (v := (0 : Int32)) (by decide) ?_
  refine g_istore hC dX12_gains_12 rfl (by decide) (lv' := [(7, .int (0 : Int32)), (6, .int (4 : Int32)), (5, .int r3.1), (0, .ref (mB E + 75)), (1, .int v1), (2, .int v2), (3, .int v3), (4, .int v4)]) rfl ?_
  refine g_lv [3, 5, 6, 7, 2, 1, 0] rfl ?_
  exact wo_X12_gains_14 hC hW hE Fu (v2) (v3) (v4) (r3.1) ((4 : Int32)) ((0 : Int32)) (r3.2) h
noncomputable def b_X12_game_207 (Fu : Nat) (k107_ : Int32 × Int32 × Int32 × Int32 × Int32 × Int32 × Int32 × Int32 × mIT → Option (Int32 × mIT)) (v1 : Int32) (v2 : Int32) (v3 : Int32) (v4 : Int32) (v5 : Int32) (v6 : Int32) (v7 : Int32) (v8 : Int32) (v9 : Int32) (v10 : Int32) (I : mIT) : Option (Int32 × mIT) :=
  if v7 = (-1 : Int32) then (k107_ (v1, v2, v3, v4, v5, (v6 + (1 : Int32)), (((10 : Int32) * v9) + v10), (v8 + (1 : Int32)), I)) else (k107_ (v1, v2, v3, v4, v5, (v6 + (1 : Int32)), v7, (v8 + (1 : Int32)), I))
set_option maxRecDepth 20000 in
theorem bo_X12_game_207 {X : mXT} {E : mEn} {Fu : Nat} {R : mRT} {L : mLT}  (hC : mC X E mX12_game RX12 cX12_game) (hW : mWd R)   {out : Int32 × mIT} (hE : mEd X E 0 0 (mSame (some (.int (out.1))) 106 1 (out.2) R L)) (k107_ : Int32 × Int32 × Int32 × Int32 × Int32 × Int32 × Int32 × Int32 × mIT → Option (Int32 × mIT)) (hk107_ : ∀ (v1 : Int32) (v2 : Int32) (v3 : Int32) (v4 : Int32) (v5 : Int32) (v6 : Int32) (v7 : Int32) (v8 : Int32) (I : mIT),  k107_ (v1, v2, v3, v4, v5, v6, v7, v8, I) = some out → mG X E 107 [(0, .ref (mB E + 75)), (1, .int v1), (2, .int v2), (3, .int v3), (4, .int v4), (5, .int v5), (6, .int v6), (7, .int v7), (8, .int v8)] [] 106 1 I R L 0 0) (v1 : Int32) (v2 : Int32) (v3 : Int32) (v4 : Int32) (v5 : Int32) (v6 : Int32) (v7 : Int32) (v8 : Int32) (v9 : Int32) (v10 : Int32) (I : mIT) (h : b_X12_game_207 Fu k107_ v1 v2 v3 v4 v5 v6 v7 v8 v9 v10 I = some out) : mG X E 207 [(0, .ref (mB E + 75)), (1, .int v1), (2, .int v2), (3, .int v3), (4, .int v4), (5, .int v5), (6, .int v6), (7, .int v7), (8, .int v8), (9, .int v9), (10, .int v10)] [] 106 1 I R L 0 0 := by
  unfold b_X12_game_207 at h
  refine g_iinc hC dX12_game_207 rfl (q := 6) rfl (w := (v6 + (1 : Int32))) rfl (by decide) (lv' := [(6, .int (v6 + (1 : Int32))), (0, .ref (mB E + 75)), (1, .int v1), (2, .int v2), (3, .int v3), (4, .int v4), (5, .int v5), (7, .int v7), (8, .int v8), (9, .int v9), (10, .int v10)]) rfl ?_
  refine g_iload hC dX12_game_210 (q := 7) rfl ?_
  refine g_iconst hC dX12_game_212 (v := (-1 : Int32)) (by decide) ?_
  refine g_ic_ne hC dX12_game_213 (tgt := 226) (by decide) (fun c213 => ?_) (fun c213 => ?_)
  · replace h := (if_neg c213).symm.trans h
    refine g_iinc hC dX12_game_226 rfl (q := 8) rfl (w := (v8 + (1 : Int32))) rfl (by decide) (lv' := [(8, .int (v8 + (1 : Int32))), (6, .int (v6 + (1 : Int32))), (0, .ref (mB E + 75)), (1, .int v1), (2, .int v2), (3, .int v3), (4, .int v4), (5, .int v5), (7, .int v7), (9, .int v9), (10, .int v10)]) rfl ?_
    refine g_goto hC dX12_game_229 (tgt := 107) (by decide) ?_
    refine g_lv [2, 3, 4, 5, 6, 7, 1, 8, 0] rfl ?_
    exact hk107_ v1 v2 v3 v4 v5 (v6 + (1 : Int32)) v7 (v8 + (1 : Int32)) I h
  · replace h := (if_pos c213).symm.trans h
    refine g_bipush hC dX12_game_216 (v := (10 : Int32)) (by decide) ?_
    refine g_iload hC dX12_game_218 (q := 9) rfl ?_
    refine g_imul hC dX12_game_220 ?_
    refine g_iload hC dX12_game_221 (q := 10) rfl ?_
    refine g_iadd hC dX12_game_223 ?_
    refine g_istore hC dX12_game_224 rfl (by decide) (lv' := [(7, .int (((10 : Int32) * v9) + v10)), (6, .int (v6 + (1 : Int32))), (0, .ref (mB E + 75)), (1, .int v1), (2, .int v2), (3, .int v3), (4, .int v4), (5, .int v5), (8, .int v8), (9, .int v9), (10, .int v10)]) rfl ?_
    refine g_iinc hC dX12_game_226 rfl (q := 8) rfl (w := (v8 + (1 : Int32))) rfl (by decide) (lv' := [(8, .int (v8 + (1 : Int32))), (7, .int (((10 : Int32) * v9) + v10)), (6, .int (v6 + (1 : Int32))), (0, .ref (mB E + 75)), (1, .int v1), (2, .int v2), (3, .int v3), (4, .int v4), (5, .int v5), (9, .int v9), (10, .int v10)]) rfl ?_
    refine g_goto hC dX12_game_229 (tgt := 107) (by decide) ?_
    refine g_lv [3, 4, 5, 6, 7, 8, 2, 1, 0] rfl ?_
    exact hk107_ v1 v2 v3 v4 v5 (v6 + (1 : Int32)) (((10 : Int32) * v9) + v10) (v8 + (1 : Int32)) I h
noncomputable def b_X12_game_173 (Fu : Nat) (k107_ : Int32 × Int32 × Int32 × Int32 × Int32 × Int32 × Int32 × Int32 × mIT → Option (Int32 × mIT)) (v1 : Int32) (v2 : Int32) (v3 : Int32) (v4 : Int32) (v5 : Int32) (v6 : Int32) (v7 : Int32) (v8 : Int32) (v9 : Int32) (v10 : Int32) (I : mIT) : Option (Int32 × mIT) :=
  if v5 = (1 : Int32) then (oB (f_X12_gains Fu I v2 v1 ((1 : Int32) - v10) v9) (fun r188 => oB (f_X12_gains Fu r188.2 v2 v1 v10 v9) (fun r198 => if r188.1 ≤ r198.1 then (b_X12_game_207 Fu k107_ v1 v2 v3 v4 v5 v6 v7 v8 v9 v10 r198.2) else (k107_ (v1, v2, v3, v4, v5, v6, v7, (v8 + (1 : Int32)), r198.2))))) else (b_X12_game_207 Fu k107_ v1 v2 v3 v4 v5 v6 v7 v8 v9 v10 I)
set_option maxRecDepth 20000 in
theorem bo_X12_game_173 {X : mXT} {E : mEn} {Fu : Nat} {R : mRT} {L : mLT}  (hC : mC X E mX12_game RX12 cX12_game) (hW : mWd R)   {out : Int32 × mIT} (hE : mEd X E 0 0 (mSame (some (.int (out.1))) 106 1 (out.2) R L)) (k107_ : Int32 × Int32 × Int32 × Int32 × Int32 × Int32 × Int32 × Int32 × mIT → Option (Int32 × mIT)) (hk107_ : ∀ (v1 : Int32) (v2 : Int32) (v3 : Int32) (v4 : Int32) (v5 : Int32) (v6 : Int32) (v7 : Int32) (v8 : Int32) (I : mIT),  k107_ (v1, v2, v3, v4, v5, v6, v7, v8, I) = some out → mG X E 107 [(0, .ref (mB E + 75)), (1, .int v1), (2, .int v2), (3, .int v3), (4, .int v4), (5, .int v5), (6, .int v6), (7, .int v7), (8, .int v8)] [] 106 1 I R L 0 0) (v1 : Int32) (v2 : Int32) (v3 : Int32) (v4 : Int32) (v5 : Int32) (v6 : Int32) (v7 : Int32) (v8 : Int32) (v9 : Int32) (v10 : Int32) (I : mIT) (h : b_X12_game_173 Fu k107_ v1 v2 v3 v4 v5 v6 v7 v8 v9 v10 I = some out) : mG X E 173 [(0, .ref (mB E + 75)), (1, .int v1), (2, .int v2), (3, .int v3), (4, .int v4), (5, .int v5), (6, .int v6), (7, .int v7), (8, .int v8), (9, .int v9), (10, .int v10)] [] 106 1 I R L 0 0 := by
  unfold b_X12_game_173 at h
  refine g_iload hC dX12_game_173 (q := 5) rfl ?_
  refine g_iconst hC dX12_game_175 (v := (1 : Int32)) (by decide) ?_
  refine g_ic_ne hC dX12_game_176 (tgt := 207) (by decide) (fun c176 => ?_) (fun c176 => ?_)
  · replace h := (if_neg c176).symm.trans h
    exact bo_X12_game_207 hC hW hE k107_ hk107_ (v1) (v2) (v3) (v4) (v5) (v6) (v7) (v8) (v9) (v10) (I) h
  · replace h := (if_pos c176).symm.trans h
    refine g_aload_n hC dX12_game_179 rfl (q := 0) rfl ?_
    refine g_iload_n hC dX12_game_180 rfl (q := 2) rfl ?_
    refine g_iload_n hC dX12_game_181 rfl (q := 1) rfl ?_
    refine g_iconst hC dX12_game_182 (v := (1 : Int32)) (by decide) ?_
    refine g_iload hC dX12_game_183 (q := 10) rfl ?_
    refine g_isub hC dX12_game_185 ?_
    refine g_iload hC dX12_game_186 (q := 9) rfl ?_
    obtain ⟨r188, h188, h⟩ := oB_some h
    refine g_cV1 hC cv_X12_gains wd_2249 ⟨Nat.le_of_ble_eq_true rfl, Nat.le_of_ble_eq_true rfl⟩ rfl (by decide) dX12_game_188 (As := [.int v2, .int v1, .int ((1 : Int32) - v10), .int v9]) (st := []) (ok_X12_gains hC.2.2.2.2.2.2.2.1 hW h188) rfl rfl (Nat.le_of_ble_eq_true rfl) ⟨Nat.zero_le _, Nat.zero_le _⟩ ?_
    refine g_aload_n hC dX12_game_191 rfl (q := 0) rfl ?_
    refine g_iload_n hC dX12_game_192 rfl (q := 2) rfl ?_
    refine g_iload_n hC dX12_game_193 rfl (q := 1) rfl ?_
    refine g_iload hC dX12_game_194 (q := 10) rfl ?_
    refine g_iload hC dX12_game_196 (q := 9) rfl ?_
    obtain ⟨r198, h198, h⟩ := oB_some h
    refine g_cV1 hC cv_X12_gains wd_2249 ⟨Nat.le_of_ble_eq_true rfl, Nat.le_of_ble_eq_true rfl⟩ rfl (by decide) dX12_game_198 (As := [.int v2, .int v1, .int v10, .int v9]) (st := [.int r188.1]) (ok_X12_gains hC.2.2.2.2.2.2.2.1 hW h198) rfl rfl (Nat.le_of_ble_eq_true rfl) ⟨Nat.zero_le _, Nat.zero_le _⟩ ?_
    refine g_ic_le hC dX12_game_201 (tgt := 207) (by decide) (fun c201 => ?_) (fun c201 => ?_)
    · replace h := (if_pos c201).symm.trans h
      exact bo_X12_game_207 hC hW hE k107_ hk107_ (v1) (v2) (v3) (v4) (v5) (v6) (v7) (v8) (v9) (v10) (r198.2) h
    · replace h := (if_neg c201).symm.trans h
      refine g_goto hC dX12_game_204 (tgt := 226) (by decide) ?_
      refine g_iinc hC dX12_game_226 rfl (q := 8) rfl (w := (v8 + (1 : Int32))) rfl (by decide) (lv' := [(8, .int (v8 + (1 : Int32))), (0, .ref (mB E + 75)), (1, .int v1), (2, .int v2), (3, .int v3), (4, .int v4), (5, .int v5), (6, .int v6), (7, .int v7), (9, .int v9), (10, .int v10)]) rfl ?_
      refine g_goto hC dX12_game_229 (tgt := 107) (by decide) ?_
      refine g_lv [1, 2, 3, 4, 5, 6, 7, 8, 0] rfl ?_
      exact hk107_ v1 v2 v3 v4 v5 v6 v7 (v8 + (1 : Int32)) r198.2 h
noncomputable def b_X12_game_107 (Fu : Nat) (k107_ : Int32 × Int32 × Int32 × Int32 × Int32 × Int32 × Int32 × Int32 × mIT → Option (Int32 × mIT)) (v1 : Int32) (v2 : Int32) (v3 : Int32) (v4 : Int32) (v5 : Int32) (v6 : Int32) (v7 : Int32) (v8 : Int32) (I : mIT) : Option (Int32 × mIT) :=
  if (4 : Int32) ≤ v8 then (if v3 = 0 then (some (v6, I)) else (some (v7, I))) else (if v4 < (v8 / (2 : Int32)) then (k107_ (v1, v2, v3, v4, v5, v6, v7, (v8 + (1 : Int32)), I)) else (if (v8 - v8 / (2 : Int32) * (2 : Int32)) ≤ v5 then (if v4 = (1 : Int32) then (oB (f_X12_gains Fu I v1 v2 ((1 : Int32) - (v8 / (2 : Int32))) (v8 - v8 / (2 : Int32) * (2 : Int32))) (fun r157 => oB (f_X12_gains Fu r157.2 v1 v2 (v8 / (2 : Int32)) (v8 - v8 / (2 : Int32) * (2 : Int32))) (fun r167 => if r167.1 < r157.1 then (k107_ (v1, v2, v3, v4, v5, v6, v7, (v8 + (1 : Int32)), r167.2)) else (b_X12_game_173 Fu k107_ v1 v2 v3 v4 v5 v6 v7 v8 (v8 / (2 : Int32)) (v8 - v8 / (2 : Int32) * (2 : Int32)) r167.2)))) else (b_X12_game_173 Fu k107_ v1 v2 v3 v4 v5 v6 v7 v8 (v8 / (2 : Int32)) (v8 - v8 / (2 : Int32) * (2 : Int32)) I)) else (k107_ (v1, v2, v3, v4, v5, v6, v7, (v8 + (1 : Int32)), I))))
set_option maxRecDepth 20000 in
theorem bo_X12_game_107 {X : mXT} {E : mEn} {Fu : Nat} {R : mRT} {L : mLT}  (hC : mC X E mX12_game RX12 cX12_game) (hW : mWd R)   {out : Int32 × mIT} (hE : mEd X E 0 0 (mSame (some (.int (out.1))) 106 1 (out.2) R L)) (k107_ : Int32 × Int32 × Int32 × Int32 × Int32 × Int32 × Int32 × Int32 × mIT → Option (Int32 × mIT)) (hk107_ : ∀ (v1 : Int32) (v2 : Int32) (v3 : Int32) (v4 : Int32) (v5 : Int32) (v6 : Int32) (v7 : Int32) (v8 : Int32) (I : mIT),  k107_ (v1, v2, v3, v4, v5, v6, v7, v8, I) = some out → mG X E 107 [(0, .ref (mB E + 75)), (1, .int v1), (2, .int v2), (3, .int v3), (4, .int v4), (5, .int v5), (6, .int v6), (7, .int v7), (8, .int v8)] [] 106 1 I R L 0 0) (v1 : Int32) (v2 : Int32) (v3 : Int32) (v4 : Int32) (v5 : Int32) (v6 : Int32) (v7 : Int32) (v8 : Int32) (I : mIT) (h : b_X12_game_107 Fu k107_ v1 v2 v3 v4 v5 v6 v7 v8 I = some out) : mG X E 107 [(0, .ref (mB E + 75)), (1, .int v1), (2, .int v2), (3, .int v3), (4, .int v4), (5, .int v5), (6, .int v6), (7, .int v7), (8, .int v8)] [] 106 1 I R L 0 0 := by
  unfold b_X12_game_107 at h
  refine g_iload hC dX12_game_107 (q := 8) rfl ?_
  refine g_iconst hC dX12_game_109 (v := (4 : Int32)) (by decide) ?_
  refine g_ic_ge hC dX12_game_110 (tgt := 232) (by decide) (fun c110 => ?_) (fun c110 => ?_)
  · replace h := (if_pos c110).symm.trans h
    refine g_iload_n hC dX12_game_232 rfl (q := 3) rfl ?_
    refine g_if_ne hC dX12_game_233 (tgt := 241) (by decide) (fun c233 => ?_) (fun c233 => ?_)
    · replace h := (if_neg c233).symm.trans h
      refine g_iload hC dX12_game_241 (q := 7) rfl ?_
      cases h
      exact g_iret hC hE rfl dX12_game_243 (Nat.zero_le _) (Nat.zero_le _) ⟨rfl, rfl, rfl, rfl, rfl, rfl⟩
    · replace h := (if_pos c233).symm.trans h
      refine g_iload hC dX12_game_236 (q := 6) rfl ?_
      refine g_goto hC dX12_game_238 (tgt := 243) (by decide) ?_
      cases h
      exact g_iret hC hE rfl dX12_game_243 (Nat.zero_le _) (Nat.zero_le _) ⟨rfl, rfl, rfl, rfl, rfl, rfl⟩
  · replace h := (if_neg c110).symm.trans h
    refine g_iload hC dX12_game_113 (q := 8) rfl ?_
    refine g_iconst hC dX12_game_115 (v := (2 : Int32)) (by decide) ?_
    refine g_idiv hC dX12_game_116 (by decide) ?_
    refine g_istore hC dX12_game_117 rfl (by decide) (lv' := [(9, .int (v8 / (2 : Int32))), (0, .ref (mB E + 75)), (1, .int v1), (2, .int v2), (3, .int v3), (4, .int v4), (5, .int v5), (6, .int v6), (7, .int v7), (8, .int v8)]) rfl ?_
    refine g_iload hC dX12_game_119 (q := 9) rfl ?_
    refine g_iconst hC dX12_game_121 (v := (2 : Int32)) (by decide) ?_
    refine g_irem hC dX12_game_122 (by decide) ?_
    refine g_istore hC dX12_game_123 rfl (by decide) (lv' := [(10, .int (v8 - v8 / (2 : Int32) * (2 : Int32))), (9, .int (v8 / (2 : Int32))), (0, .ref (mB E + 75)), (1, .int v1), (2, .int v2), (3, .int v3), (4, .int v4), (5, .int v5), (6, .int v6), (7, .int v7), (8, .int v8)]) rfl ?_
    refine g_iload hC dX12_game_125 (q := 1) rfl ?_
    refine g_iload hC dX12_game_127 (q := 6) rfl ?_
    refine g_ic_gt hC dX12_game_129 (tgt := 226) (by decide) (fun c129 => ?_) (fun c129 => ?_)
    · replace h := (if_pos c129).symm.trans h
      refine g_iinc hC dX12_game_226 rfl (q := 10) rfl (w := (v8 + (1 : Int32))) rfl (by decide) (lv' := [(8, .int (v8 + (1 : Int32))), (10, .int (v8 - v8 / (2 : Int32) * (2 : Int32))), (9, .int (v8 / (2 : Int32))), (0, .ref (mB E + 75)), (1, .int v1), (2, .int v2), (3, .int v3), (4, .int v4), (5, .int v5), (6, .int v6), (7, .int v7)]) rfl ?_
      refine g_goto hC dX12_game_229 (tgt := 107) (by decide) ?_
      refine g_lv [3, 4, 5, 6, 7, 8, 9, 10, 0] rfl ?_
      exact hk107_ v1 v2 v3 v4 v5 v6 v7 (v8 + (1 : Int32)) I h
    · replace h := (if_neg c129).symm.trans h
      refine g_iload hC dX12_game_132 (q := 0) rfl ?_
      refine g_iload hC dX12_game_134 (q := 7) rfl ?_
      refine g_ic_le hC dX12_game_136 (tgt := 142) (by decide) (fun c136 => ?_) (fun c136 => ?_)
      · replace h := (if_pos c136).symm.trans h
        refine g_iload hC dX12_game_142 (q := 6) rfl ?_
        refine g_iconst hC dX12_game_144 (v := (1 : Int32)) (by decide) ?_
        refine g_ic_ne hC dX12_game_145 (tgt := 173) (by decide) (fun c145 => ?_) (fun c145 => ?_)
        · replace h := (if_neg c145).symm.trans h
          refine g_lv [2, 3, 4, 5, 6, 7, 8, 9, 10, 1, 0] rfl ?_
          exact bo_X12_game_173 hC hW hE k107_ hk107_ (v1) (v2) (v3) (v4) (v5) (v6) (v7) (v8) ((v8 / (2 : Int32))) ((v8 - v8 / (2 : Int32) * (2 : Int32))) (I) h
        · replace h := (if_pos c145).symm.trans h
          refine g_aload_n hC dX12_game_148 rfl (q := 2) rfl ?_
          refine g_iload_n hC dX12_game_149 rfl (q := 3) rfl ?_
          refine g_iload_n hC dX12_game_150 rfl (q := 4) rfl ?_
          refine g_iconst hC dX12_game_151 (v := (1 : Int32)) (by decide) ?_
          refine g_iload hC dX12_game_152 (q := 1) rfl ?_
          refine g_isub hC dX12_game_154 ?_
          refine g_iload hC dX12_game_155 (q := 0) rfl ?_
          obtain ⟨r157, h157, h⟩ := oB_some h
          refine g_cV1 hC cv_X12_gains wd_2249 ⟨Nat.le_of_ble_eq_true rfl, Nat.le_of_ble_eq_true rfl⟩ rfl (by decide) dX12_game_157 (As := [.int v1, .int v2, .int ((1 : Int32) - (v8 / (2 : Int32))), .int (v8 - v8 / (2 : Int32) * (2 : Int32))]) (st := []) (ok_X12_gains hC.2.2.2.2.2.2.2.1 hW h157) rfl rfl (Nat.le_of_ble_eq_true rfl) ⟨Nat.zero_le _, Nat.zero_le _⟩ ?_
          refine g_aload_n hC dX12_game_160 rfl (q := 2) rfl ?_
          refine g_iload_n hC dX12_game_161 rfl (q := 3) rfl ?_
          refine g_iload_n hC dX12_game_162 rfl (q := 4) rfl ?_
          refine g_iload hC dX12_game_163 (q := 1) rfl ?_
          refine g_iload hC dX12_game_165 (q := 0) rfl ?_
          obtain ⟨r167, h167, h⟩ := oB_some h
          refine g_cV1 hC cv_X12_gains wd_2249 ⟨Nat.le_of_ble_eq_true rfl, Nat.le_of_ble_eq_true rfl⟩ rfl (by decide) dX12_game_167 (As := [.int v1, .int v2, .int (v8 / (2 : Int32)), .int (v8 - v8 / (2 : Int32) * (2 : Int32))]) (st := [.int r157.1]) (ok_X12_gains hC.2.2.2.2.2.2.2.1 hW h167) rfl rfl (Nat.le_of_ble_eq_true rfl) ⟨Nat.zero_le _, Nat.zero_le _⟩ ?_
          refine g_ic_gt hC dX12_game_170 (tgt := 226) (by decide) (fun c170 => ?_) (fun c170 => ?_)
          · replace h := (if_pos c170).symm.trans h
            refine g_iinc hC dX12_game_226 rfl (q := 10) rfl (w := (v8 + (1 : Int32))) rfl (by decide) (lv' := [(8, .int (v8 + (1 : Int32))), (10, .int (v8 - v8 / (2 : Int32) * (2 : Int32))), (9, .int (v8 / (2 : Int32))), (0, .ref (mB E + 75)), (1, .int v1), (2, .int v2), (3, .int v3), (4, .int v4), (5, .int v5), (6, .int v6), (7, .int v7)]) rfl ?_
            refine g_goto hC dX12_game_229 (tgt := 107) (by decide) ?_
            refine g_lv [3, 4, 5, 6, 7, 8, 9, 10, 0] rfl ?_
            exact hk107_ v1 v2 v3 v4 v5 v6 v7 (v8 + (1 : Int32)) r167.2 h
          · replace h := (if_neg c170).symm.trans h
            refine g_lv [2, 3, 4, 5, 6, 7, 8, 9, 10, 1, 0] rfl ?_
            exact bo_X12_game_173 hC hW hE k107_ hk107_ (v1) (v2) (v3) (v4) (v5) (v6) (v7) (v8) ((v8 / (2 : Int32))) ((v8 - v8 / (2 : Int32) * (2 : Int32))) (r167.2) h
      · replace h := (if_neg c136).symm.trans h
        refine g_goto hC dX12_game_139 (tgt := 226) (by decide) ?_
        refine g_iinc hC dX12_game_226 rfl (q := 10) rfl (w := (v8 + (1 : Int32))) rfl (by decide) (lv' := [(8, .int (v8 + (1 : Int32))), (10, .int (v8 - v8 / (2 : Int32) * (2 : Int32))), (9, .int (v8 / (2 : Int32))), (0, .ref (mB E + 75)), (1, .int v1), (2, .int v2), (3, .int v3), (4, .int v4), (5, .int v5), (6, .int v6), (7, .int v7)]) rfl ?_
        refine g_goto hC dX12_game_229 (tgt := 107) (by decide) ?_
        refine g_lv [3, 4, 5, 6, 7, 8, 9, 10, 0] rfl ?_
        exact hk107_ v1 v2 v3 v4 v5 v6 v7 (v8 + (1 : Int32)) I h
noncomputable def w_X12_game_107 (Fu : Nat)  (N : Nat) (v1 : Int32) (v2 : Int32) (v3 : Int32) (v4 : Int32) (v5 : Int32) (v6 : Int32) (v7 : Int32) (v8 : Int32) (I : mIT) : Option (Int32 × mIT) :=
  loopF (fun self (s : Int32 × Int32 × Int32 × Int32 × Int32 × Int32 × Int32 × Int32 × mIT) => b_X12_game_107 Fu self s.1 s.2.1 s.2.2.1 s.2.2.2.1 s.2.2.2.2.1 s.2.2.2.2.2.1 s.2.2.2.2.2.2.1 s.2.2.2.2.2.2.2.1 s.2.2.2.2.2.2.2.2) N (v1, v2, v3, v4, v5, v6, v7, v8, I)
theorem wo_X12_game_107 {X : mXT} {E : mEn} {Fu : Nat} {R : mRT} {L : mLT}  (hC : mC X E mX12_game RX12 cX12_game) (hW : mWd R)   {out : Int32 × mIT} (hE : mEd X E 0 0 (mSame (some (.int (out.1))) 106 1 (out.2) R L))  (N : Nat) (v1 : Int32) (v2 : Int32) (v3 : Int32) (v4 : Int32) (v5 : Int32) (v6 : Int32) (v7 : Int32) (v8 : Int32) (I : mIT) (h : w_X12_game_107 Fu  N v1 v2 v3 v4 v5 v6 v7 v8 I = some out) : mG X E 107 [(0, .ref (mB E + 75)), (1, .int v1), (2, .int v2), (3, .int v3), (4, .int v4), (5, .int v5), (6, .int v6), (7, .int v7), (8, .int v8)] [] 106 1 I R L 0 0 :=
  loopF_ok (Gd := fun s : Int32 × Int32 × Int32 × Int32 × Int32 × Int32 × Int32 × Int32 × mIT => mG X E 107 [(0, .ref (mB E + 75)), (1, .int s.1), (2, .int s.2.1), (3, .int s.2.2.1), (4, .int s.2.2.2.1), (5, .int s.2.2.2.2.1), (6, .int s.2.2.2.2.2.1), (7, .int s.2.2.2.2.2.2.1), (8, .int s.2.2.2.2.2.2.2.1)] [] 106 1 s.2.2.2.2.2.2.2.2 R L 0 0) (fun self hs s h => bo_X12_game_107 hC hW hE self (fun v1 v2 v3 v4 v5 v6 v7 v8 I h => hs (v1, v2, v3, v4, v5, v6, v7, v8, I) h) s.1 s.2.1 s.2.2.1 s.2.2.2.1 s.2.2.2.2.1 s.2.2.2.2.2.1 s.2.2.2.2.2.2.1 s.2.2.2.2.2.2.2.1 s.2.2.2.2.2.2.2.2 h) N (v1, v2, v3, v4, v5, v6, v7, v8, I) h
noncomputable def b_X12_game_81 (Fu : Nat)  (v1 : Int32) (v2 : Int32) (v3 : Int32) (s0 : Int32) (I : mIT) : Option (Int32 × mIT) :=
  oB (f_X12_mayBe Fu I v2) (fun r85 => if r85 ≤ 0 then (w_X12_game_107 Fu Fu v1 v2 v3 s0 (0 : Int32) (0 : Int32) (-1 : Int32) (0 : Int32) I) else (w_X12_game_107 Fu Fu v1 v2 v3 s0 (1 : Int32) (0 : Int32) (-1 : Int32) (0 : Int32) I))
set_option maxRecDepth 20000 in
theorem bo_X12_game_81 {X : mXT} {E : mEn} {Fu : Nat} {R : mRT} {L : mLT}  (hC : mC X E mX12_game RX12 cX12_game) (hW : mWd R)   {out : Int32 × mIT} (hE : mEd X E 0 0 (mSame (some (.int (out.1))) 106 1 (out.2) R L))  (v1 : Int32) (v2 : Int32) (v3 : Int32) (s0 : Int32) (I : mIT) (h : b_X12_game_81 Fu  v1 v2 v3 s0 I = some out) : mG X E 81 [(0, .ref (mB E + 75)), (1, .int v1), (2, .int v2), (3, .int v3)] [.int s0] 106 1 I R L 0 0 := by
  unfold b_X12_game_81 at h
  refine g_istore hC dX12_game_81 rfl (by decide) (lv' := [(4, .int s0), (0, .ref (mB E + 75)), (1, .int v1), (2, .int v2), (3, .int v3)]) rfl ?_
  refine g_aload_n hC dX12_game_83 rfl (q := 1) rfl ?_
  refine g_iload_n hC dX12_game_84 rfl (q := 3) rfl ?_
  obtain ⟨r85, h85, h⟩ := oB_some h
  refine g_cV1 hC cv_X12_mayBe wd_2042 ⟨Nat.le_of_ble_eq_true rfl, Nat.le_of_ble_eq_true rfl⟩ rfl (by decide) dX12_game_85 (As := [.int v2]) (st := []) (ok_X12_mayBe hC.2.2.2.2.2.2.2.1 hW h85) rfl rfl (Nat.le_of_ble_eq_true rfl) ⟨Nat.zero_le _, Nat.zero_le _⟩ ?_
  refine g_if_le hC dX12_game_88 (tgt := 95) (by decide) (fun c88 => ?_) (fun c88 => ?_)
  · replace h := (if_pos c88).symm.trans h
    refine g_iconst hC dX12_game_95 (v := (0 : Int32)) (by decide) ?_
    refine g_istore hC dX12_game_96 rfl (by decide) (lv' := [(5, .int (0 : Int32)), (4, .int s0), (0, .ref (mB E + 75)), (1, .int v1), (2, .int v2), (3, .int v3)]) rfl ?_
    refine g_iconst hC dX12_game_98 (v := (0 : Int32)) (by decide) ?_
    refine g_istore hC dX12_game_99 rfl (by decide) (lv' := [(6, .int (0 : Int32)), (5, .int (0 : Int32)), (4, .int s0), (0, .ref (mB E + 75)), (1, .int v1), (2, .int v2), (3, .int v3)]) rfl ?_
    refine g_iconst hC dX12_game_101 (v := (-1 : Int32)) (by decide) ?_
    refine g_istore hC dX12_game_102 rfl (by decide) (lv' := [(7, .int (-1 : Int32)), (6, .int (0 : Int32)), (5, .int (0 : Int32)), (4, .int s0), (0, .ref (mB E + 75)), (1, .int v1), (2, .int v2), (3, .int v3)]) rfl ?_
    refine g_iconst hC dX12_game_104 (v := (0 : Int32)) (by decide) ?_
    refine g_istore hC dX12_game_105 rfl (by decide) (lv' := [(8, .int (0 : Int32)), (7, .int (-1 : Int32)), (6, .int (0 : Int32)), (5, .int (0 : Int32)), (4, .int s0), (0, .ref (mB E + 75)), (1, .int v1), (2, .int v2), (3, .int v3)]) rfl ?_
    refine g_lv [5, 6, 7, 8, 4, 3, 2, 1, 0] rfl ?_
    exact wo_X12_game_107 hC hW hE Fu (v1) (v2) (v3) (s0) ((0 : Int32)) ((0 : Int32)) ((-1 : Int32)) ((0 : Int32)) (I) h
  · replace h := (if_neg c88).symm.trans h
    refine g_iconst hC dX12_game_91 (v := (1 : Int32)) (by decide) ?_
    refine g_goto hC dX12_game_92 (tgt := 96) (by decide) ?_
    refine g_istore hC dX12_game_96 rfl (by decide) (lv' := [(5, .int (1 : Int32)), (4, .int s0), (0, .ref (mB E + 75)), (1, .int v1), (2, .int v2), (3, .int v3)]) rfl ?_
    refine g_iconst hC dX12_game_98 (v := (0 : Int32)) (by decide) ?_
    refine g_istore hC dX12_game_99 rfl (by decide) (lv' := [(6, .int (0 : Int32)), (5, .int (1 : Int32)), (4, .int s0), (0, .ref (mB E + 75)), (1, .int v1), (2, .int v2), (3, .int v3)]) rfl ?_
    refine g_iconst hC dX12_game_101 (v := (-1 : Int32)) (by decide) ?_
    refine g_istore hC dX12_game_102 rfl (by decide) (lv' := [(7, .int (-1 : Int32)), (6, .int (0 : Int32)), (5, .int (1 : Int32)), (4, .int s0), (0, .ref (mB E + 75)), (1, .int v1), (2, .int v2), (3, .int v3)]) rfl ?_
    refine g_iconst hC dX12_game_104 (v := (0 : Int32)) (by decide) ?_
    refine g_istore hC dX12_game_105 rfl (by decide) (lv' := [(8, .int (0 : Int32)), (7, .int (-1 : Int32)), (6, .int (0 : Int32)), (5, .int (1 : Int32)), (4, .int s0), (0, .ref (mB E + 75)), (1, .int v1), (2, .int v2), (3, .int v3)]) rfl ?_
    refine g_lv [5, 6, 7, 8, 4, 3, 2, 1, 0] rfl ?_
    exact wo_X12_game_107 hC hW hE Fu (v1) (v2) (v3) (s0) ((1 : Int32)) ((0 : Int32)) ((-1 : Int32)) ((0 : Int32)) (I) h
noncomputable def b_X12_game_59 (Fu : Nat)  (v1 : Int32) (v2 : Int32) (v3 : Int32) (s1 : Int32) (I : mIT) : Option (Int32 × mIT) :=
  oB (f_X12_right Fu I s1 (2 : Int32)) (fun r60 => if r60.1 = 0 then (some ((0 : Int32), r60.2)) else (oB (f_X12_mayBe Fu r60.2 v1) (fun r70 => if r70 ≤ 0 then (b_X12_game_81 Fu v1 v2 v3 (0 : Int32) r60.2) else (b_X12_game_81 Fu v1 v2 v3 (1 : Int32) r60.2))))
set_option maxRecDepth 20000 in
theorem bo_X12_game_59 {X : mXT} {E : mEn} {Fu : Nat} {R : mRT} {L : mLT}  (hC : mC X E mX12_game RX12 cX12_game) (hW : mWd R)   {out : Int32 × mIT} (hE : mEd X E 0 0 (mSame (some (.int (out.1))) 106 1 (out.2) R L))  (v1 : Int32) (v2 : Int32) (v3 : Int32) (s1 : Int32) (I : mIT) (h : b_X12_game_59 Fu  v1 v2 v3 s1 I = some out) : mG X E 59 [(0, .ref (mB E + 75)), (1, .int v1), (2, .int v2), (3, .int v3)] [.int s1, .ref (mB E + 75)] 106 1 I R L 0 0 := by
  unfold b_X12_game_59 at h
  refine g_iconst hC dX12_game_59 (v := (2 : Int32)) (by decide) ?_
  obtain ⟨r60, h60, h⟩ := oB_some h
  refine g_cV1 hC cv_X12_right wd_1851 ⟨Nat.le_of_ble_eq_true rfl, Nat.le_of_ble_eq_true rfl⟩ rfl (by decide) dX12_game_60 (As := [.int s1, .int (2 : Int32)]) (st := []) (ok_X12_right hC.2.2.2.2.2.2.2.1 hW h60) rfl rfl (Nat.le_of_ble_eq_true rfl) ⟨Nat.zero_le _, Nat.zero_le _⟩ ?_
  refine g_if_ne hC dX12_game_63 (tgt := 68) (by decide) (fun c63 => ?_) (fun c63 => ?_)
  · replace h := (if_neg c63).symm.trans h
    refine g_aload_n hC dX12_game_68 rfl (q := 0) rfl ?_
    refine g_iload_n hC dX12_game_69 rfl (q := 1) rfl ?_
    obtain ⟨r70, h70, h⟩ := oB_some h
    refine g_cV1 hC cv_X12_mayBe wd_2042 ⟨Nat.le_of_ble_eq_true rfl, Nat.le_of_ble_eq_true rfl⟩ rfl (by decide) dX12_game_70 (As := [.int v1]) (st := []) (ok_X12_mayBe hC.2.2.2.2.2.2.2.1 hW h70) rfl rfl (Nat.le_of_ble_eq_true rfl) ⟨Nat.zero_le _, Nat.zero_le _⟩ ?_
    refine g_if_le hC dX12_game_73 (tgt := 80) (by decide) (fun c73 => ?_) (fun c73 => ?_)
    · replace h := (if_pos c73).symm.trans h
      refine g_iconst hC dX12_game_80 (v := (0 : Int32)) (by decide) ?_
      exact bo_X12_game_81 hC hW hE (v1) (v2) (v3) ((0 : Int32)) (r60.2) h
    · replace h := (if_neg c73).symm.trans h
      refine g_iconst hC dX12_game_76 (v := (1 : Int32)) (by decide) ?_
      refine g_goto hC dX12_game_77 (tgt := 81) (by decide) ?_
      exact bo_X12_game_81 hC hW hE (v1) (v2) (v3) ((1 : Int32)) (r60.2) h
  · replace h := (if_pos c63).symm.trans h
    refine g_iconst hC dX12_game_66 (v := (0 : Int32)) (by decide) ?_
    cases h
    exact g_iret hC hE rfl dX12_game_67 (Nat.zero_le _) (Nat.zero_le _) ⟨rfl, rfl, rfl, rfl, rfl, rfl⟩
noncomputable def b_X12_game_58 (Fu : Nat)  (v1 : Int32) (v2 : Int32) (v3 : Int32) (I : mIT) : Option (Int32 × mIT) :=
  b_X12_game_59 Fu v1 v2 v3 (0 : Int32) I
set_option maxRecDepth 20000 in
theorem bo_X12_game_58 {X : mXT} {E : mEn} {Fu : Nat} {R : mRT} {L : mLT}  (hC : mC X E mX12_game RX12 cX12_game) (hW : mWd R)   {out : Int32 × mIT} (hE : mEd X E 0 0 (mSame (some (.int (out.1))) 106 1 (out.2) R L))  (v1 : Int32) (v2 : Int32) (v3 : Int32) (I : mIT) (h : b_X12_game_58 Fu  v1 v2 v3 I = some out) : mG X E 58 [(0, .ref (mB E + 75)), (1, .int v1), (2, .int v2), (3, .int v3)] [.ref (mB E + 75)] 106 1 I R L 0 0 := by
  unfold b_X12_game_58 at h
  refine g_iconst hC dX12_game_58 (v := (0 : Int32)) (by decide) ?_
  exact bo_X12_game_59 hC hW hE (v1) (v2) (v3) ((0 : Int32)) (I) h
noncomputable def f_X12_game (Fu : Nat) (I : mIT) (v1 : Int32) (v2 : Int32) (v3 : Int32) : Option (Int32 × mIT) :=
  oB (f_X12_isRoot Fu (mU I 75 0 (0 : Int32)) v1) (fun r7 => if r7.1 = 0 then (some ((0 : Int32), r7.2)) else (oB (f_X12_isRoot Fu r7.2 v2) (fun r15 => if r15.1 = 0 then (some ((0 : Int32), r15.2)) else (oB (f_X12_isWhat Fu r15.2 v3 (1 : Int32)) (fun r24 => if r24.1 = 0 then (some ((0 : Int32), r24.2)) else (if v1 = v2 then (b_X12_game_58 Fu v1 v2 v3 r24.2) else (oB (f_X12_hangs Fu r24.2 (0 : Int32) v1) (fun r39 => if r39 = 0 then (b_X12_game_58 Fu v1 v2 v3 r24.2) else (oB (f_X12_hangs Fu r24.2 (0 : Int32) v2) (fun r48 => if r48 = 0 then (b_X12_game_58 Fu v1 v2 v3 r24.2) else (b_X12_game_59 Fu v1 v2 v3 (1 : Int32) r24.2)))))))))))
set_option maxRecDepth 20000 in
theorem ok_X12_game {l : Launch} {E : mEn} {Fu : Nat} {I : mIT} {R : mRT} {L : mLT} {v1 : Int32} {v2 : Int32} {v3 : Int32} (hst : l.stackTraces = false) (hW : mWd R)  {out : Int32 × mIT} (h : f_X12_game Fu I v1 v2 v3 = some out) : mOk l E mX12_game [.ref (mB E + 75), .int v1, .int v2, .int v3] 106 1 I R L 0 0 (mSame (some (.int (out.1))) 106 1 (out.2) R L) := by
  refine mOk_of hst (by decide) (Nat.le_of_ble_eq_true rfl) (fun X hC hE _ => ?_)
  have hC : mC X E mX12_game RX12 cX12_game := hC
  show mG X E 0 [(0, .ref (mB E + 75)), (1, .int v1), (2, .int v2), (3, .int v3)] [] 106 1 I R L 0 0
  unfold f_X12_game at h
  refine g_aload_n hC dX12_game_0 rfl (q := 0) rfl ?_
  refine g_iconst hC dX12_game_1 (v := (0 : Int32)) (by decide) ?_
  refine g_puti hC fd_RX12_114 rfl (by decide) rfl dX12_game_2 (nm_e ?_)
  refine g_aload_n hC dX12_game_5 rfl (q := 0) rfl ?_
  refine g_iload_n hC dX12_game_6 rfl (q := 1) rfl ?_
  obtain ⟨r7, h7, h⟩ := oB_some h
  refine g_cV1 hC cv_X12_isRoot wd_2034 ⟨Nat.le_of_ble_eq_true rfl, Nat.le_of_ble_eq_true rfl⟩ rfl (by decide) dX12_game_7 (As := [.int v1]) (st := []) (ok_X12_isRoot hC.2.2.2.2.2.2.2.1 hW h7) rfl rfl (Nat.le_of_ble_eq_true rfl) ⟨Nat.zero_le _, Nat.zero_le _⟩ ?_
  refine g_if_eq hC dX12_game_10 (tgt := 66) (by decide) (fun c10 => ?_) (fun c10 => ?_)
  · replace h := (if_pos c10).symm.trans h
    refine g_iconst hC dX12_game_66 (v := (0 : Int32)) (by decide) ?_
    cases h
    exact g_iret hC hE rfl dX12_game_67 (Nat.zero_le _) (Nat.zero_le _) ⟨rfl, rfl, rfl, rfl, rfl, rfl⟩
  · replace h := (if_neg c10).symm.trans h
    refine g_aload_n hC dX12_game_13 rfl (q := 0) rfl ?_
    refine g_iload_n hC dX12_game_14 rfl (q := 2) rfl ?_
    obtain ⟨r15, h15, h⟩ := oB_some h
    refine g_cV1 hC cv_X12_isRoot wd_2034 ⟨Nat.le_of_ble_eq_true rfl, Nat.le_of_ble_eq_true rfl⟩ rfl (by decide) dX12_game_15 (As := [.int v2]) (st := []) (ok_X12_isRoot hC.2.2.2.2.2.2.2.1 hW h15) rfl rfl (Nat.le_of_ble_eq_true rfl) ⟨Nat.zero_le _, Nat.zero_le _⟩ ?_
    refine g_if_eq hC dX12_game_18 (tgt := 66) (by decide) (fun c18 => ?_) (fun c18 => ?_)
    · replace h := (if_pos c18).symm.trans h
      refine g_iconst hC dX12_game_66 (v := (0 : Int32)) (by decide) ?_
      cases h
      exact g_iret hC hE rfl dX12_game_67 (Nat.zero_le _) (Nat.zero_le _) ⟨rfl, rfl, rfl, rfl, rfl, rfl⟩
    · replace h := (if_neg c18).symm.trans h
      refine g_aload_n hC dX12_game_21 rfl (q := 0) rfl ?_
      refine g_iload_n hC dX12_game_22 rfl (q := 3) rfl ?_
      refine g_iconst hC dX12_game_23 (v := (1 : Int32)) (by decide) ?_
      obtain ⟨r24, h24, h⟩ := oB_some h
      refine g_cV1 hC cv_X12_isWhat wd_2038 ⟨Nat.le_of_ble_eq_true rfl, Nat.le_of_ble_eq_true rfl⟩ rfl (by decide) dX12_game_24 (As := [.int v3, .int (1 : Int32)]) (st := []) (ok_X12_isWhat hC.2.2.2.2.2.2.2.1 hW h24) rfl rfl (Nat.le_of_ble_eq_true rfl) ⟨Nat.zero_le _, Nat.zero_le _⟩ ?_
      refine g_if_eq hC dX12_game_27 (tgt := 66) (by decide) (fun c27 => ?_) (fun c27 => ?_)
      · replace h := (if_pos c27).symm.trans h
        refine g_iconst hC dX12_game_66 (v := (0 : Int32)) (by decide) ?_
        cases h
        exact g_iret hC hE rfl dX12_game_67 (Nat.zero_le _) (Nat.zero_le _) ⟨rfl, rfl, rfl, rfl, rfl, rfl⟩
      · replace h := (if_neg c27).symm.trans h
        refine g_aload_n hC dX12_game_30 rfl (q := 0) rfl ?_
        refine g_iload_n hC dX12_game_31 rfl (q := 1) rfl ?_
        refine g_iload_n hC dX12_game_32 rfl (q := 2) rfl ?_
        refine g_ic_eq hC dX12_game_33 (tgt := 58) (by decide) (fun c33 => ?_) (fun c33 => ?_)
        · replace h := (if_pos c33).symm.trans h
          exact bo_X12_game_58 hC hW hE (v1) (v2) (v3) (r24.2) h
        · replace h := (if_neg c33).symm.trans h
          refine g_aload_n hC dX12_game_36 rfl (q := 0) rfl ?_
          refine g_iconst hC dX12_game_37 (v := (0 : Int32)) (by decide) ?_
          refine g_iload_n hC dX12_game_38 rfl (q := 1) rfl ?_
          obtain ⟨r39, h39, h⟩ := oB_some h
          refine g_cV1 hC cv_X12_hangs wd_2004 ⟨Nat.le_of_ble_eq_true rfl, Nat.le_of_ble_eq_true rfl⟩ rfl (by decide) dX12_game_39 (As := [.int (0 : Int32), .int v1]) (st := [.ref (mB E + 75)]) (ok_X12_hangs hC.2.2.2.2.2.2.2.1 hW h39) rfl rfl (Nat.le_of_ble_eq_true rfl) ⟨Nat.zero_le _, Nat.zero_le _⟩ ?_
          refine g_if_eq hC dX12_game_42 (tgt := 58) (by decide) (fun c42 => ?_) (fun c42 => ?_)
          · replace h := (if_pos c42).symm.trans h
            exact bo_X12_game_58 hC hW hE (v1) (v2) (v3) (r24.2) h
          · replace h := (if_neg c42).symm.trans h
            refine g_aload_n hC dX12_game_45 rfl (q := 0) rfl ?_
            refine g_iconst hC dX12_game_46 (v := (0 : Int32)) (by decide) ?_
            refine g_iload_n hC dX12_game_47 rfl (q := 2) rfl ?_
            obtain ⟨r48, h48, h⟩ := oB_some h
            refine g_cV1 hC cv_X12_hangs wd_2004 ⟨Nat.le_of_ble_eq_true rfl, Nat.le_of_ble_eq_true rfl⟩ rfl (by decide) dX12_game_48 (As := [.int (0 : Int32), .int v2]) (st := [.ref (mB E + 75)]) (ok_X12_hangs hC.2.2.2.2.2.2.2.1 hW h48) rfl rfl (Nat.le_of_ble_eq_true rfl) ⟨Nat.zero_le _, Nat.zero_le _⟩ ?_
            refine g_if_eq hC dX12_game_51 (tgt := 58) (by decide) (fun c51 => ?_) (fun c51 => ?_)
            · replace h := (if_pos c51).symm.trans h
              exact bo_X12_game_58 hC hW hE (v1) (v2) (v3) (r24.2) h
            · replace h := (if_neg c51).symm.trans h
              refine g_iconst hC dX12_game_54 (v := (1 : Int32)) (by decide) ?_
              refine g_goto hC dX12_game_55 (tgt := 59) (by decide) ?_
              exact bo_X12_game_59 hC hW hE (v1) (v2) (v3) ((1 : Int32)) (r24.2) h
noncomputable def b_X12_softIn_6 (Fu : Nat) (k6_ : Int32 × Int32 × mIT → Option (Int32 × mIT)) (v1 : Int32) (v2 : Int32) (I : mIT) : Option (Int32 × mIT) :=
  if (60 : Int32) < v2 then (some ((9999 : Int32), I)) else (oG (inB ((74 : Int32) + v1) 106) (if (I 89 (((74 : Int32) + v1)).toNatClampNeg) < (I 75 3) then (oB (f_X12_dayGoes Fu I (53 : Int32)) (fun r33 => k6_ (v1, (v2 + (1 : Int32)), r33))) else (some (v2, I))))
set_option maxRecDepth 20000 in
theorem bo_X12_softIn_6 {X : mXT} {E : mEn} {Fu : Nat} {R : mRT} {L : mLT}  (hC : mC X E mX12_softIn RX12 cX12_softIn) (hW : mWd R)   {out : Int32 × mIT} (hE : mEd X E 0 0 (mSame (some (.int (out.1))) 106 1 (out.2) R L)) (k6_ : Int32 × Int32 × mIT → Option (Int32 × mIT)) (hk6_ : ∀ (v1 : Int32) (v2 : Int32) (I : mIT),  k6_ (v1, v2, I) = some out → mG X E 6 [(0, .ref (mB E + 75)), (1, .int v1), (2, .int v2)] [] 106 1 I R L 0 0) (v1 : Int32) (v2 : Int32) (I : mIT) (h : b_X12_softIn_6 Fu k6_ v1 v2 I = some out) : mG X E 6 [(0, .ref (mB E + 75)), (1, .int v1), (2, .int v2)] [] 106 1 I R L 0 0 := by
  unfold b_X12_softIn_6 at h
  refine g_iload_n hC dX12_softIn_6 rfl (q := 2) rfl ?_
  refine g_bipush hC dX12_softIn_7 (v := (60 : Int32)) (by decide) ?_
  refine g_ic_gt hC dX12_softIn_9 (tgt := 42) (by decide) (fun c9 => ?_) (fun c9 => ?_)
  · replace h := (if_pos c9).symm.trans h
    refine g_sipush hC dX12_softIn_42 (v := (9999 : Int32)) (by decide) ?_
    cases h
    exact g_iret hC hE rfl dX12_softIn_45 (Nat.zero_le _) (Nat.zero_le _) ⟨rfl, rfl, rfl, rfl, rfl, rfl⟩
  · replace h := (if_neg c9).symm.trans h
    refine g_aload_n hC dX12_softIn_12 rfl (q := 0) rfl ?_
    refine g_getr hC fd_RX12_63 rfl (by decide) (C0 := "") (t0 := _) (Or.inr rfl) (rr_75_42 hW.1) dX12_softIn_13 ?_
    refine g_bipush hC dX12_softIn_16 (v := (74 : Int32)) (by decide) ?_
    refine g_iload_n hC dX12_softIn_18 rfl (q := 1) rfl ?_
    refine g_iadd hC dX12_softIn_19 ?_
    obtain ⟨g20, h⟩ := oG_some h
    refine g_iald hC rfl (by decide) (inB_in g20) dX12_softIn_20 ?_
    refine g_aload_n hC dX12_softIn_21 rfl (q := 0) rfl ?_
    refine g_geti hC fd_RX12_7 rfl (by decide) (Or.inl rfl) dX12_softIn_22 ?_
    refine g_ic_lt hC dX12_softIn_25 (tgt := 30) (by decide) (fun c25 => ?_) (fun c25 => ?_)
    · replace h := (if_pos c25).symm.trans h
      refine g_aload_n hC dX12_softIn_30 rfl (q := 0) rfl ?_
      refine g_bipush hC dX12_softIn_31 (v := (53 : Int32)) (by decide) ?_
      obtain ⟨r33, h33, h⟩ := oB_some h
      refine g_cV0 hC cv_X12_dayGoes wd_2070 ⟨Nat.le_of_ble_eq_true rfl, Nat.le_of_ble_eq_true rfl⟩ rfl (by decide) dX12_softIn_33 (As := [.int (53 : Int32)]) (st := []) (ok_X12_dayGoes hC.2.2.2.2.2.2.2.1 hW h33) rfl rfl (Nat.le_of_ble_eq_true rfl) ⟨Nat.zero_le _, Nat.zero_le _⟩ ?_
      refine g_iinc hC dX12_softIn_36 rfl (q := 2) rfl (w := (v2 + (1 : Int32))) rfl (by decide) (lv' := [(2, .int (v2 + (1 : Int32))), (0, .ref (mB E + 75)), (1, .int v1)]) rfl ?_
      refine g_goto hC dX12_softIn_39 (tgt := 6) (by decide) ?_
      refine g_lv [1, 2, 0] rfl ?_
      exact hk6_ v1 (v2 + (1 : Int32)) r33 h
    · replace h := (if_neg c25).symm.trans h
      refine g_iload_n hC dX12_softIn_28 rfl (q := 2) rfl ?_
      cases h
      exact g_iret hC hE rfl dX12_softIn_29 (Nat.zero_le _) (Nat.zero_le _) ⟨rfl, rfl, rfl, rfl, rfl, rfl⟩
noncomputable def w_X12_softIn_6 (Fu : Nat)  (N : Nat) (v1 : Int32) (v2 : Int32) (I : mIT) : Option (Int32 × mIT) :=
  loopF (fun self (s : Int32 × Int32 × mIT) => b_X12_softIn_6 Fu self s.1 s.2.1 s.2.2) N (v1, v2, I)
theorem wo_X12_softIn_6 {X : mXT} {E : mEn} {Fu : Nat} {R : mRT} {L : mLT}  (hC : mC X E mX12_softIn RX12 cX12_softIn) (hW : mWd R)   {out : Int32 × mIT} (hE : mEd X E 0 0 (mSame (some (.int (out.1))) 106 1 (out.2) R L))  (N : Nat) (v1 : Int32) (v2 : Int32) (I : mIT) (h : w_X12_softIn_6 Fu  N v1 v2 I = some out) : mG X E 6 [(0, .ref (mB E + 75)), (1, .int v1), (2, .int v2)] [] 106 1 I R L 0 0 :=
  loopF_ok (Gd := fun s : Int32 × Int32 × mIT => mG X E 6 [(0, .ref (mB E + 75)), (1, .int s.1), (2, .int s.2.1)] [] 106 1 s.2.2 R L 0 0) (fun self hs s h => bo_X12_softIn_6 hC hW hE self (fun v1 v2 I h => hs (v1, v2, I) h) s.1 s.2.1 s.2.2 h) N (v1, v2, I) h
noncomputable def f_X12_softIn (Fu : Nat) (I : mIT) (v1 : Int32) : Option (Int32 × mIT) :=
  oB (f_X12_tries Fu I) (fun r1 => w_X12_softIn_6 Fu Fu v1 (0 : Int32) r1)
set_option maxRecDepth 20000 in
theorem ok_X12_softIn {l : Launch} {E : mEn} {Fu : Nat} {I : mIT} {R : mRT} {L : mLT} {v1 : Int32} (hst : l.stackTraces = false) (hW : mWd R)  {out : Int32 × mIT} (h : f_X12_softIn Fu I v1 = some out) : mOk l E mX12_softIn [.ref (mB E + 75), .int v1] 106 1 I R L 0 0 (mSame (some (.int (out.1))) 106 1 (out.2) R L) := by
  refine mOk_of hst (by decide) (Nat.le_of_ble_eq_true rfl) (fun X hC hE _ => ?_)
  have hC : mC X E mX12_softIn RX12 cX12_softIn := hC
  show mG X E 0 [(0, .ref (mB E + 75)), (1, .int v1)] [] 106 1 I R L 0 0
  unfold f_X12_softIn at h
  refine g_aload_n hC dX12_softIn_0 rfl (q := 0) rfl ?_
  obtain ⟨r1, h1, h⟩ := oB_some h
  refine g_cV0 hC cv_X12_tries wd_2110 ⟨Nat.le_of_ble_eq_true rfl, Nat.le_of_ble_eq_true rfl⟩ rfl (by decide) dX12_softIn_1 (As := []) (st := []) (ok_X12_tries hC.2.2.2.2.2.2.2.1 hW h1) rfl rfl (Nat.le_of_ble_eq_true rfl) ⟨Nat.zero_le _, Nat.zero_le _⟩ ?_
  refine g_iconst hC dX12_softIn_4 (v := (0 : Int32)) (by decide) ?_
  refine g_istore_n hC dX12_softIn_5 rfl rfl (by decide) (lv' := [(2, .int (0 : Int32)), (0, .ref (mB E + 75)), (1, .int v1)]) rfl ?_
  refine g_lv [1, 2, 0] rfl ?_
  exact wo_X12_softIn_6 hC hW hE Fu (v1) ((0 : Int32)) (r1) h
noncomputable def f_X12_goes (Fu : Nat) (I : mIT) (v1 : Int32) : Option (Int32 × mIT) :=
  oB (f_X12_isRoot Fu (mU I 75 0 (0 : Int32)) v1) (fun r7 => if r7.1 = 0 then (some ((0 : Int32), r7.2)) else (oB (f_X12_hangs Fu r7.2 (0 : Int32) v1) (fun r18 => if r18 = 0 then (if (9999 : Int32) = (9999 : Int32) then (some ((-1 : Int32), r7.2)) else (some ((9999 : Int32), r7.2))) else (oB (f_X12_softIn Fu r7.2 v1) (fun r26 => if r26.1 = (9999 : Int32) then (some ((-1 : Int32), r26.2)) else (some (r26.1, r26.2)))))))
set_option maxRecDepth 20000 in
theorem ok_X12_goes {l : Launch} {E : mEn} {Fu : Nat} {I : mIT} {R : mRT} {L : mLT} {v1 : Int32} (hst : l.stackTraces = false) (hW : mWd R)  {out : Int32 × mIT} (h : f_X12_goes Fu I v1 = some out) : mOk l E mX12_goes [.ref (mB E + 75), .int v1] 106 1 I R L 0 0 (mSame (some (.int (out.1))) 106 1 (out.2) R L) := by
  refine mOk_of hst (by decide) (Nat.le_of_ble_eq_true rfl) (fun X hC hE _ => ?_)
  have hC : mC X E mX12_goes RX12 cX12_goes := hC
  show mG X E 0 [(0, .ref (mB E + 75)), (1, .int v1)] [] 106 1 I R L 0 0
  unfold f_X12_goes at h
  refine g_aload_n hC dX12_goes_0 rfl (q := 0) rfl ?_
  refine g_iconst hC dX12_goes_1 (v := (0 : Int32)) (by decide) ?_
  refine g_puti hC fd_RX12_114 rfl (by decide) rfl dX12_goes_2 (nm_e ?_)
  refine g_aload_n hC dX12_goes_5 rfl (q := 0) rfl ?_
  refine g_iload_n hC dX12_goes_6 rfl (q := 1) rfl ?_
  obtain ⟨r7, h7, h⟩ := oB_some h
  refine g_cV1 hC cv_X12_isRoot wd_2034 ⟨Nat.le_of_ble_eq_true rfl, Nat.le_of_ble_eq_true rfl⟩ rfl (by decide) dX12_goes_7 (As := [.int v1]) (st := []) (ok_X12_isRoot hC.2.2.2.2.2.2.2.1 hW h7) rfl rfl (Nat.le_of_ble_eq_true rfl) ⟨Nat.zero_le _, Nat.zero_le _⟩ ?_
  refine g_if_ne hC dX12_goes_10 (tgt := 15) (by decide) (fun c10 => ?_) (fun c10 => ?_)
  · replace h := (if_neg c10).symm.trans h
    refine g_aload_n hC dX12_goes_15 rfl (q := 0) rfl ?_
    refine g_iconst hC dX12_goes_16 (v := (0 : Int32)) (by decide) ?_
    refine g_iload_n hC dX12_goes_17 rfl (q := 1) rfl ?_
    obtain ⟨r18, h18, h⟩ := oB_some h
    refine g_cV1 hC cv_X12_hangs wd_2004 ⟨Nat.le_of_ble_eq_true rfl, Nat.le_of_ble_eq_true rfl⟩ rfl (by decide) dX12_goes_18 (As := [.int (0 : Int32), .int v1]) (st := []) (ok_X12_hangs hC.2.2.2.2.2.2.2.1 hW h18) rfl rfl (Nat.le_of_ble_eq_true rfl) ⟨Nat.zero_le _, Nat.zero_le _⟩ ?_
    refine g_if_eq hC dX12_goes_21 (tgt := 32) (by decide) (fun c21 => ?_) (fun c21 => ?_)
    · replace h := (if_pos c21).symm.trans h
      refine g_sipush hC dX12_goes_32 (v := (9999 : Int32)) (by decide) ?_
      refine g_istore_n hC dX12_goes_35 rfl rfl (by decide) (lv' := [(2, .int (9999 : Int32)), (0, .ref (mB E + 75)), (1, .int v1)]) rfl ?_
      refine g_iload_n hC dX12_goes_36 rfl (q := 0) rfl ?_
      refine g_sipush hC dX12_goes_37 (v := (9999 : Int32)) (by decide) ?_
      refine g_ic_ne hC dX12_goes_40 (tgt := 47) (by decide) (fun c40 => ?_) (fun c40 => ?_)
      · replace h := (if_neg c40).symm.trans h
        refine g_iload_n hC dX12_goes_47 rfl (q := 0) rfl ?_
        cases h
        exact g_iret hC hE rfl dX12_goes_48 (Nat.zero_le _) (Nat.zero_le _) ⟨rfl, rfl, rfl, rfl, rfl, rfl⟩
      · replace h := (if_pos c40).symm.trans h
        refine g_iconst hC dX12_goes_43 (v := (-1 : Int32)) (by decide) ?_
        refine g_goto hC dX12_goes_44 (tgt := 48) (by decide) ?_
        cases h
        exact g_iret hC hE rfl dX12_goes_48 (Nat.zero_le _) (Nat.zero_le _) ⟨rfl, rfl, rfl, rfl, rfl, rfl⟩
    · replace h := (if_neg c21).symm.trans h
      refine g_aload_n hC dX12_goes_24 rfl (q := 0) rfl ?_
      refine g_iload_n hC dX12_goes_25 rfl (q := 1) rfl ?_
      obtain ⟨r26, h26, h⟩ := oB_some h
      refine g_cV1 hC cv_X12_softIn wd_2118 ⟨Nat.le_of_ble_eq_true rfl, Nat.le_of_ble_eq_true rfl⟩ rfl (by decide) dX12_goes_26 (As := [.int v1]) (st := []) (ok_X12_softIn hC.2.2.2.2.2.2.2.1 hW h26) rfl rfl (Nat.le_of_ble_eq_true rfl) ⟨Nat.zero_le _, Nat.zero_le _⟩ ?_
      refine g_goto hC dX12_goes_29 (tgt := 35) (by decide) ?_
      refine g_istore_n hC dX12_goes_35 rfl rfl (by decide) (lv' := [(2, .int r26.1), (0, .ref (mB E + 75)), (1, .int v1)]) rfl ?_
      refine g_iload_n hC dX12_goes_36 rfl (q := 0) rfl ?_
      refine g_sipush hC dX12_goes_37 (v := (9999 : Int32)) (by decide) ?_
      refine g_ic_ne hC dX12_goes_40 (tgt := 47) (by decide) (fun c40 => ?_) (fun c40 => ?_)
      · replace h := (if_neg c40).symm.trans h
        refine g_iload_n hC dX12_goes_47 rfl (q := 0) rfl ?_
        cases h
        exact g_iret hC hE rfl dX12_goes_48 (Nat.zero_le _) (Nat.zero_le _) ⟨rfl, rfl, rfl, rfl, rfl, rfl⟩
      · replace h := (if_pos c40).symm.trans h
        refine g_iconst hC dX12_goes_43 (v := (-1 : Int32)) (by decide) ?_
        refine g_goto hC dX12_goes_44 (tgt := 48) (by decide) ?_
        cases h
        exact g_iret hC hE rfl dX12_goes_48 (Nat.zero_le _) (Nat.zero_le _) ⟨rfl, rfl, rfl, rfl, rfl, rfl⟩
  · replace h := (if_pos c10).symm.trans h
    refine g_iconst hC dX12_goes_13 (v := (0 : Int32)) (by decide) ?_
    cases h
    exact g_iret hC hE rfl dX12_goes_14 (Nat.zero_le _) (Nat.zero_le _) ⟨rfl, rfl, rfl, rfl, rfl, rfl⟩
noncomputable def f_X12_isNote (Fu : Nat) (I : mIT) (v1 : Int32) : Option (Int32 × mIT) :=
  oB (f_X12_within Fu v1 (0 : Int32) (15 : Int32)) (fun r5 => oB (f_X12_right Fu I r5 (1 : Int32)) (fun r9 => oG (isB r9.1) (some (r9.1, r9.2))))
set_option maxRecDepth 20000 in
theorem ok_X12_isNote {l : Launch} {E : mEn} {Fu : Nat} {I : mIT} {R : mRT} {L : mLT} {v1 : Int32} (hst : l.stackTraces = false) (hW : mWd R)  {out : Int32 × mIT} (h : f_X12_isNote Fu I v1 = some out) : mOk l E mX12_isNote [.ref (mB E + 75), .int v1] 106 1 I R L 0 0 (mSame (some (.int (out.1))) 106 1 (out.2) R L) := by
  refine mOk_of hst (by decide) (Nat.le_of_ble_eq_true rfl) (fun X hC hE _ => ?_)
  have hC : mC X E mX12_isNote RX12 cX12_isNote := hC
  show mG X E 0 [(0, .ref (mB E + 75)), (1, .int v1)] [] 106 1 I R L 0 0
  unfold f_X12_isNote at h
  refine g_aload_n hC dX12_isNote_0 rfl (q := 0) rfl ?_
  refine g_iload_n hC dX12_isNote_1 rfl (q := 1) rfl ?_
  refine g_iconst hC dX12_isNote_2 (v := (0 : Int32)) (by decide) ?_
  refine g_bipush hC dX12_isNote_3 (v := (15 : Int32)) (by decide) ?_
  obtain ⟨r5, h5, h⟩ := oB_some h
  refine g_cS1 hC cs_X12_within wd_1915 ⟨Nat.le_of_ble_eq_true rfl, Nat.le_of_ble_eq_true rfl⟩ dX12_isNote_5 (As := [.int v1, .int (0 : Int32), .int (15 : Int32)]) (st := [.ref (mB E + 75)]) (ok_X12_within hC.2.2.2.2.2.2.2.1 hW h5) rfl rfl (Nat.le_of_ble_eq_true rfl) ⟨Nat.zero_le _, Nat.zero_le _⟩ ?_
  refine g_iconst hC dX12_isNote_8 (v := (1 : Int32)) (by decide) ?_
  obtain ⟨r9, h9, h⟩ := oB_some h
  refine g_cV1 hC cv_X12_right wd_1851 ⟨Nat.le_of_ble_eq_true rfl, Nat.le_of_ble_eq_true rfl⟩ rfl (by decide) dX12_isNote_9 (As := [.int r5, .int (1 : Int32)]) (st := []) (ok_X12_right hC.2.2.2.2.2.2.2.1 hW h9) rfl rfl (Nat.le_of_ble_eq_true rfl) ⟨Nat.zero_le _, Nat.zero_le _⟩ ?_
  obtain ⟨g12, h⟩ := oG_some h
  cases h
  exact g_zret hC (isB_or g12) hE rfl dX12_isNote_12 (Nat.zero_le _) (Nat.zero_le _) ⟨rfl, rfl, rfl, rfl, rfl, rfl⟩
noncomputable def b_X12_grown_44 (Fu : Nat) (k44_ : Int32 × Int32 × Int32 × mIT → Option (Int32 × mIT)) (v1 : Int32) (v2 : Int32) (v3 : Int32) (I : mIT) : Option (Int32 × mIT) :=
  if (60 : Int32) < v3 then (some ((-1 : Int32), I)) else (oB (f_X12_noteOf Fu I (53 : Int32) v1) (fun r54 => if r54.1 = v2 then (some (v3, r54.2)) else (oB (f_X12_dayGoes Fu r54.2 (53 : Int32)) (fun r66 => k44_ (v1, v2, (v3 + (1 : Int32)), r66)))))
set_option maxRecDepth 20000 in
theorem bo_X12_grown_44 {X : mXT} {E : mEn} {Fu : Nat} {R : mRT} {L : mLT}  (hC : mC X E mX12_grown RX12 cX12_grown) (hW : mWd R)   {out : Int32 × mIT} (hE : mEd X E 0 0 (mSame (some (.int (out.1))) 106 1 (out.2) R L)) (k44_ : Int32 × Int32 × Int32 × mIT → Option (Int32 × mIT)) (hk44_ : ∀ (v1 : Int32) (v2 : Int32) (v3 : Int32) (I : mIT),  k44_ (v1, v2, v3, I) = some out → mG X E 44 [(0, .ref (mB E + 75)), (1, .int v1), (2, .int v2), (3, .int v3)] [] 106 1 I R L 0 0) (v1 : Int32) (v2 : Int32) (v3 : Int32) (I : mIT) (h : b_X12_grown_44 Fu k44_ v1 v2 v3 I = some out) : mG X E 44 [(0, .ref (mB E + 75)), (1, .int v1), (2, .int v2), (3, .int v3)] [] 106 1 I R L 0 0 := by
  unfold b_X12_grown_44 at h
  refine g_iload_n hC dX12_grown_44 rfl (q := 3) rfl ?_
  refine g_bipush hC dX12_grown_45 (v := (60 : Int32)) (by decide) ?_
  refine g_ic_gt hC dX12_grown_47 (tgt := 75) (by decide) (fun c47 => ?_) (fun c47 => ?_)
  · replace h := (if_pos c47).symm.trans h
    refine g_iconst hC dX12_grown_75 (v := (-1 : Int32)) (by decide) ?_
    cases h
    exact g_iret hC hE rfl dX12_grown_76 (Nat.zero_le _) (Nat.zero_le _) ⟨rfl, rfl, rfl, rfl, rfl, rfl⟩
  · replace h := (if_neg c47).symm.trans h
    refine g_aload_n hC dX12_grown_50 rfl (q := 0) rfl ?_
    refine g_bipush hC dX12_grown_51 (v := (53 : Int32)) (by decide) ?_
    refine g_iload_n hC dX12_grown_53 rfl (q := 1) rfl ?_
    obtain ⟨r54, h54, h⟩ := oB_some h
    refine g_cV1 hC cv_X12_noteOf wd_2012 ⟨Nat.le_of_ble_eq_true rfl, Nat.le_of_ble_eq_true rfl⟩ rfl (by decide) dX12_grown_54 (As := [.int (53 : Int32), .int v1]) (st := []) (ok_X12_noteOf hC.2.2.2.2.2.2.2.1 hW h54) rfl rfl (Nat.le_of_ble_eq_true rfl) ⟨Nat.zero_le _, Nat.zero_le _⟩ ?_
    refine g_iload_n hC dX12_grown_57 rfl (q := 2) rfl ?_
    refine g_ic_ne hC dX12_grown_58 (tgt := 63) (by decide) (fun c58 => ?_) (fun c58 => ?_)
    · replace h := (if_neg c58).symm.trans h
      refine g_aload_n hC dX12_grown_63 rfl (q := 0) rfl ?_
      refine g_bipush hC dX12_grown_64 (v := (53 : Int32)) (by decide) ?_
      obtain ⟨r66, h66, h⟩ := oB_some h
      refine g_cV0 hC cv_X12_dayGoes wd_2070 ⟨Nat.le_of_ble_eq_true rfl, Nat.le_of_ble_eq_true rfl⟩ rfl (by decide) dX12_grown_66 (As := [.int (53 : Int32)]) (st := []) (ok_X12_dayGoes hC.2.2.2.2.2.2.2.1 hW h66) rfl rfl (Nat.le_of_ble_eq_true rfl) ⟨Nat.zero_le _, Nat.zero_le _⟩ ?_
      refine g_iinc hC dX12_grown_69 rfl (q := 3) rfl (w := (v3 + (1 : Int32))) rfl (by decide) (lv' := [(3, .int (v3 + (1 : Int32))), (0, .ref (mB E + 75)), (1, .int v1), (2, .int v2)]) rfl ?_
      refine g_goto hC dX12_grown_72 (tgt := 44) (by decide) ?_
      refine g_lv [1, 2, 3, 0] rfl ?_
      exact hk44_ v1 v2 (v3 + (1 : Int32)) r66 h
    · replace h := (if_pos c58).symm.trans h
      refine g_iload_n hC dX12_grown_61 rfl (q := 3) rfl ?_
      cases h
      exact g_iret hC hE rfl dX12_grown_62 (Nat.zero_le _) (Nat.zero_le _) ⟨rfl, rfl, rfl, rfl, rfl, rfl⟩
noncomputable def w_X12_grown_44 (Fu : Nat)  (N : Nat) (v1 : Int32) (v2 : Int32) (v3 : Int32) (I : mIT) : Option (Int32 × mIT) :=
  loopF (fun self (s : Int32 × Int32 × Int32 × mIT) => b_X12_grown_44 Fu self s.1 s.2.1 s.2.2.1 s.2.2.2) N (v1, v2, v3, I)
theorem wo_X12_grown_44 {X : mXT} {E : mEn} {Fu : Nat} {R : mRT} {L : mLT}  (hC : mC X E mX12_grown RX12 cX12_grown) (hW : mWd R)   {out : Int32 × mIT} (hE : mEd X E 0 0 (mSame (some (.int (out.1))) 106 1 (out.2) R L))  (N : Nat) (v1 : Int32) (v2 : Int32) (v3 : Int32) (I : mIT) (h : w_X12_grown_44 Fu  N v1 v2 v3 I = some out) : mG X E 44 [(0, .ref (mB E + 75)), (1, .int v1), (2, .int v2), (3, .int v3)] [] 106 1 I R L 0 0 :=
  loopF_ok (Gd := fun s : Int32 × Int32 × Int32 × mIT => mG X E 44 [(0, .ref (mB E + 75)), (1, .int s.1), (2, .int s.2.1), (3, .int s.2.2.1)] [] 106 1 s.2.2.2 R L 0 0) (fun self hs s h => bo_X12_grown_44 hC hW hE self (fun v1 v2 v3 I h => hs (v1, v2, v3, I) h) s.1 s.2.1 s.2.2.1 s.2.2.2 h) N (v1, v2, v3, I) h
noncomputable def f_X12_grown (Fu : Nat) (I : mIT) (v1 : Int32) (v2 : Int32) : Option (Int32 × mIT) :=
  oB (f_X12_isRoot Fu (mU I 75 0 (0 : Int32)) v1) (fun r7 => if r7.1 = 0 then (some ((0 : Int32), r7.2)) else (oB (f_X12_isNote Fu r7.2 v2) (fun r15 => if r15.1 = 0 then (some ((0 : Int32), r15.2)) else (oG (inB ((31 : Int32) + v1) 106) (if (r15.2 89 (((31 : Int32) + v1)).toNatClampNeg) = (-1 : Int32) then (oB (f_X12_tries Fu r15.2) (fun r39 => w_X12_grown_44 Fu Fu v1 v2 (0 : Int32) r39)) else (some ((-1 : Int32), r15.2)))))))
set_option maxRecDepth 20000 in
theorem ok_X12_grown {l : Launch} {E : mEn} {Fu : Nat} {I : mIT} {R : mRT} {L : mLT} {v1 : Int32} {v2 : Int32} (hst : l.stackTraces = false) (hW : mWd R)  {out : Int32 × mIT} (h : f_X12_grown Fu I v1 v2 = some out) : mOk l E mX12_grown [.ref (mB E + 75), .int v1, .int v2] 106 1 I R L 0 0 (mSame (some (.int (out.1))) 106 1 (out.2) R L) := by
  refine mOk_of hst (by decide) (Nat.le_of_ble_eq_true rfl) (fun X hC hE _ => ?_)
  have hC : mC X E mX12_grown RX12 cX12_grown := hC
  show mG X E 0 [(0, .ref (mB E + 75)), (1, .int v1), (2, .int v2)] [] 106 1 I R L 0 0
  unfold f_X12_grown at h
  refine g_aload_n hC dX12_grown_0 rfl (q := 0) rfl ?_
  refine g_iconst hC dX12_grown_1 (v := (0 : Int32)) (by decide) ?_
  refine g_puti hC fd_RX12_114 rfl (by decide) rfl dX12_grown_2 (nm_e ?_)
  refine g_aload_n hC dX12_grown_5 rfl (q := 0) rfl ?_
  refine g_iload_n hC dX12_grown_6 rfl (q := 1) rfl ?_
  obtain ⟨r7, h7, h⟩ := oB_some h
  refine g_cV1 hC cv_X12_isRoot wd_2034 ⟨Nat.le_of_ble_eq_true rfl, Nat.le_of_ble_eq_true rfl⟩ rfl (by decide) dX12_grown_7 (As := [.int v1]) (st := []) (ok_X12_isRoot hC.2.2.2.2.2.2.2.1 hW h7) rfl rfl (Nat.le_of_ble_eq_true rfl) ⟨Nat.zero_le _, Nat.zero_le _⟩ ?_
  refine g_if_eq hC dX12_grown_10 (tgt := 21) (by decide) (fun c10 => ?_) (fun c10 => ?_)
  · replace h := (if_pos c10).symm.trans h
    refine g_iconst hC dX12_grown_21 (v := (0 : Int32)) (by decide) ?_
    cases h
    exact g_iret hC hE rfl dX12_grown_22 (Nat.zero_le _) (Nat.zero_le _) ⟨rfl, rfl, rfl, rfl, rfl, rfl⟩
  · replace h := (if_neg c10).symm.trans h
    refine g_aload_n hC dX12_grown_13 rfl (q := 0) rfl ?_
    refine g_iload_n hC dX12_grown_14 rfl (q := 2) rfl ?_
    obtain ⟨r15, h15, h⟩ := oB_some h
    refine g_cV1 hC cv_X12_isNote wd_2274 ⟨Nat.le_of_ble_eq_true rfl, Nat.le_of_ble_eq_true rfl⟩ rfl (by decide) dX12_grown_15 (As := [.int v2]) (st := []) (ok_X12_isNote hC.2.2.2.2.2.2.2.1 hW h15) rfl rfl (Nat.le_of_ble_eq_true rfl) ⟨Nat.zero_le _, Nat.zero_le _⟩ ?_
    refine g_if_ne hC dX12_grown_18 (tgt := 23) (by decide) (fun c18 => ?_) (fun c18 => ?_)
    · replace h := (if_neg c18).symm.trans h
      refine g_aload_n hC dX12_grown_23 rfl (q := 0) rfl ?_
      refine g_getr hC fd_RX12_63 rfl (by decide) (C0 := "") (t0 := _) (Or.inr rfl) (rr_75_42 hW.1) dX12_grown_24 ?_
      refine g_bipush hC dX12_grown_27 (v := (31 : Int32)) (by decide) ?_
      refine g_iload_n hC dX12_grown_29 rfl (q := 1) rfl ?_
      refine g_iadd hC dX12_grown_30 ?_
      obtain ⟨g31, h⟩ := oG_some h
      refine g_iald hC rfl (by decide) (inB_in g31) dX12_grown_31 ?_
      refine g_iconst hC dX12_grown_32 (v := (-1 : Int32)) (by decide) ?_
      refine g_ic_eq hC dX12_grown_33 (tgt := 38) (by decide) (fun c33 => ?_) (fun c33 => ?_)
      · replace h := (if_pos c33).symm.trans h
        refine g_aload_n hC dX12_grown_38 rfl (q := 0) rfl ?_
        obtain ⟨r39, h39, h⟩ := oB_some h
        refine g_cV0 hC cv_X12_tries wd_2110 ⟨Nat.le_of_ble_eq_true rfl, Nat.le_of_ble_eq_true rfl⟩ rfl (by decide) dX12_grown_39 (As := []) (st := []) (ok_X12_tries hC.2.2.2.2.2.2.2.1 hW h39) rfl rfl (Nat.le_of_ble_eq_true rfl) ⟨Nat.zero_le _, Nat.zero_le _⟩ ?_
        refine g_iconst hC dX12_grown_42 (v := (0 : Int32)) (by decide) ?_
        refine g_istore_n hC dX12_grown_43 rfl rfl (by decide) (lv' := [(3, .int (0 : Int32)), (0, .ref (mB E + 75)), (1, .int v1), (2, .int v2)]) rfl ?_
        refine g_lv [1, 2, 3, 0] rfl ?_
        exact wo_X12_grown_44 hC hW hE Fu (v1) (v2) ((0 : Int32)) (r39) h
      · replace h := (if_neg c33).symm.trans h
        refine g_iconst hC dX12_grown_36 (v := (-1 : Int32)) (by decide) ?_
        cases h
        exact g_iret hC hE rfl dX12_grown_37 (Nat.zero_le _) (Nat.zero_le _) ⟨rfl, rfl, rfl, rfl, rfl, rfl⟩
    · replace h := (if_pos c18).symm.trans h
      refine g_iconst hC dX12_grown_21 (v := (0 : Int32)) (by decide) ?_
      cases h
      exact g_iret hC hE rfl dX12_grown_22 (Nat.zero_le _) (Nat.zero_le _) ⟨rfl, rfl, rfl, rfl, rfl, rfl⟩
noncomputable def f_X12_hang (Fu : Nat) (I : mIT) (v1 : Int32) (v2 : Int32) : Option (Int32 × mIT) :=
  oB (f_X12_isRoot Fu (mU I 75 0 (0 : Int32)) v1) (fun r7 => if r7.1 = 0 then (some ((0 : Int32), r7.2)) else (oB (f_X12_isWhat Fu r7.2 v2 (5 : Int32)) (fun r16 => if r16.1 = 0 then (some ((0 : Int32), r16.2)) else (oG (inB ((31 : Int32) + v1) 106) (if (r16.2 89 (((31 : Int32) + v1)).toNatClampNeg) = (-2 : Int32) then (oB (f_X12_refuses Fu r16.2 (1 : Int32)) (fun r49 => some ((r49.1 - (1 : Int32)), r49.2))) else (oB (f_X12_whereIn Fu r16.2 (0 : Int32) v2) (fun r41 => if r41 = 0 then (oB (f_X12_keeps Fu r16.2) (fun r56 => oG (inB ((31 : Int32) + v1) 106) (oG (inB ((31 : Int32) + v1) 106) (some ((r56 89 (((31 : Int32) + v1)).toNatClampNeg), (mU r56 89 (((31 : Int32) + v1)).toNatClampNeg v2)))))) else (oB (f_X12_refuses Fu r16.2 (1 : Int32)) (fun r49 => some ((r49.1 - (1 : Int32)), r49.2))))))))))
set_option maxRecDepth 20000 in
theorem ok_X12_hang {l : Launch} {E : mEn} {Fu : Nat} {I : mIT} {R : mRT} {L : mLT} {v1 : Int32} {v2 : Int32} (hst : l.stackTraces = false) (hW : mWd R)  {out : Int32 × mIT} (h : f_X12_hang Fu I v1 v2 = some out) : mOk l E mX12_hang [.ref (mB E + 75), .int v1, .int v2] 106 1 I R L 0 0 (mSame (some (.int (out.1))) 106 1 (out.2) R L) := by
  refine mOk_of hst (by decide) (Nat.le_of_ble_eq_true rfl) (fun X hC hE _ => ?_)
  have hC : mC X E mX12_hang RX12 cX12_hang := hC
  show mG X E 0 [(0, .ref (mB E + 75)), (1, .int v1), (2, .int v2)] [] 106 1 I R L 0 0
  unfold f_X12_hang at h
  refine g_aload_n hC dX12_hang_0 rfl (q := 0) rfl ?_
  refine g_iconst hC dX12_hang_1 (v := (0 : Int32)) (by decide) ?_
  refine g_puti hC fd_RX12_114 rfl (by decide) rfl dX12_hang_2 (nm_e ?_)
  refine g_aload_n hC dX12_hang_5 rfl (q := 0) rfl ?_
  refine g_iload_n hC dX12_hang_6 rfl (q := 1) rfl ?_
  obtain ⟨r7, h7, h⟩ := oB_some h
  refine g_cV1 hC cv_X12_isRoot wd_2034 ⟨Nat.le_of_ble_eq_true rfl, Nat.le_of_ble_eq_true rfl⟩ rfl (by decide) dX12_hang_7 (As := [.int v1]) (st := []) (ok_X12_isRoot hC.2.2.2.2.2.2.2.1 hW h7) rfl rfl (Nat.le_of_ble_eq_true rfl) ⟨Nat.zero_le _, Nat.zero_le _⟩ ?_
  refine g_if_eq hC dX12_hang_10 (tgt := 22) (by decide) (fun c10 => ?_) (fun c10 => ?_)
  · replace h := (if_pos c10).symm.trans h
    refine g_iconst hC dX12_hang_22 (v := (0 : Int32)) (by decide) ?_
    cases h
    exact g_iret hC hE rfl dX12_hang_23 (Nat.zero_le _) (Nat.zero_le _) ⟨rfl, rfl, rfl, rfl, rfl, rfl⟩
  · replace h := (if_neg c10).symm.trans h
    refine g_aload_n hC dX12_hang_13 rfl (q := 0) rfl ?_
    refine g_iload_n hC dX12_hang_14 rfl (q := 2) rfl ?_
    refine g_iconst hC dX12_hang_15 (v := (5 : Int32)) (by decide) ?_
    obtain ⟨r16, h16, h⟩ := oB_some h
    refine g_cV1 hC cv_X12_isWhat wd_2038 ⟨Nat.le_of_ble_eq_true rfl, Nat.le_of_ble_eq_true rfl⟩ rfl (by decide) dX12_hang_16 (As := [.int v2, .int (5 : Int32)]) (st := []) (ok_X12_isWhat hC.2.2.2.2.2.2.2.1 hW h16) rfl rfl (Nat.le_of_ble_eq_true rfl) ⟨Nat.zero_le _, Nat.zero_le _⟩ ?_
    refine g_if_ne hC dX12_hang_19 (tgt := 24) (by decide) (fun c19 => ?_) (fun c19 => ?_)
    · replace h := (if_neg c19).symm.trans h
      refine g_aload_n hC dX12_hang_24 rfl (q := 0) rfl ?_
      refine g_getr hC fd_RX12_63 rfl (by decide) (C0 := "") (t0 := _) (Or.inr rfl) (rr_75_42 hW.1) dX12_hang_25 ?_
      refine g_bipush hC dX12_hang_28 (v := (31 : Int32)) (by decide) ?_
      refine g_iload_n hC dX12_hang_30 rfl (q := 1) rfl ?_
      refine g_iadd hC dX12_hang_31 ?_
      obtain ⟨g32, h⟩ := oG_some h
      refine g_iald hC rfl (by decide) (inB_in g32) dX12_hang_32 ?_
      refine g_bipush hC dX12_hang_33 (v := (-2 : Int32)) (by decide) ?_
      refine g_ic_eq hC dX12_hang_35 (tgt := 47) (by decide) (fun c35 => ?_) (fun c35 => ?_)
      · replace h := (if_pos c35).symm.trans h
        refine g_aload_n hC dX12_hang_47 rfl (q := 0) rfl ?_
        refine g_iconst hC dX12_hang_48 (v := (1 : Int32)) (by decide) ?_
        obtain ⟨r49, h49, h⟩ := oB_some h
        refine g_cV1 hC cv_X12_refuses wd_2062 ⟨Nat.le_of_ble_eq_true rfl, Nat.le_of_ble_eq_true rfl⟩ rfl (by decide) dX12_hang_49 (As := [.int (1 : Int32)]) (st := []) (ok_X12_refuses hC.2.2.2.2.2.2.2.1 hW h49) rfl rfl (Nat.le_of_ble_eq_true rfl) ⟨Nat.zero_le _, Nat.zero_le _⟩ ?_
        refine g_iconst hC dX12_hang_52 (v := (1 : Int32)) (by decide) ?_
        refine g_isub hC dX12_hang_53 ?_
        cases h
        exact g_iret hC hE rfl dX12_hang_54 (Nat.zero_le _) (Nat.zero_le _) ⟨rfl, rfl, rfl, rfl, rfl, rfl⟩
      · replace h := (if_neg c35).symm.trans h
        refine g_aload_n hC dX12_hang_38 rfl (q := 0) rfl ?_
        refine g_iconst hC dX12_hang_39 (v := (0 : Int32)) (by decide) ?_
        refine g_iload_n hC dX12_hang_40 rfl (q := 2) rfl ?_
        obtain ⟨r41, h41, h⟩ := oB_some h
        refine g_cV1 hC cv_X12_whereIn wd_1988 ⟨Nat.le_of_ble_eq_true rfl, Nat.le_of_ble_eq_true rfl⟩ rfl (by decide) dX12_hang_41 (As := [.int (0 : Int32), .int v2]) (st := []) (ok_X12_whereIn hC.2.2.2.2.2.2.2.1 hW h41) rfl rfl (Nat.le_of_ble_eq_true rfl) ⟨Nat.zero_le _, Nat.zero_le _⟩ ?_
        refine g_if_eq hC dX12_hang_44 (tgt := 55) (by decide) (fun c44 => ?_) (fun c44 => ?_)
        · replace h := (if_pos c44).symm.trans h
          refine g_aload_n hC dX12_hang_55 rfl (q := 0) rfl ?_
          obtain ⟨r56, h56, h⟩ := oB_some h
          refine g_cV0 hC cv_X12_keeps wd_2066 ⟨Nat.le_of_ble_eq_true rfl, Nat.le_of_ble_eq_true rfl⟩ rfl (by decide) dX12_hang_56 (As := []) (st := []) (ok_X12_keeps hC.2.2.2.2.2.2.2.1 hW h56) rfl rfl (Nat.le_of_ble_eq_true rfl) ⟨Nat.zero_le _, Nat.zero_le _⟩ ?_
          refine g_aload_n hC dX12_hang_59 rfl (q := 0) rfl ?_
          refine g_getr hC fd_RX12_63 rfl (by decide) (C0 := "") (t0 := _) (Or.inr rfl) (rr_75_42 hW.1) dX12_hang_60 ?_
          refine g_bipush hC dX12_hang_63 (v := (31 : Int32)) (by decide) ?_
          refine g_iload_n hC dX12_hang_65 rfl (q := 1) rfl ?_
          refine g_iadd hC dX12_hang_66 ?_
          obtain ⟨g67, h⟩ := oG_some h
          refine g_iald hC rfl (by decide) (inB_in g67) dX12_hang_67 ?_
          refine g_istore_n hC dX12_hang_68 rfl rfl (by decide) (lv' := [(3, .int (r56 89 (((31 : Int32) + v1)).toNatClampNeg)), (0, .ref (mB E + 75)), (1, .int v1), (2, .int v2)]) rfl ?_
          refine g_aload_n hC dX12_hang_69 rfl (q := 1) rfl ?_
          refine g_getr hC fd_RX12_63 rfl (by decide) (C0 := "") (t0 := _) (Or.inr rfl) (rr_75_42 hW.1) dX12_hang_70 ?_
          refine g_bipush hC dX12_hang_73 (v := (31 : Int32)) (by decide) ?_
          refine g_iload_n hC dX12_hang_75 rfl (q := 2) rfl ?_
          refine g_iadd hC dX12_hang_76 ?_
          refine g_iload_n hC dX12_hang_77 rfl (q := 3) rfl ?_
          obtain ⟨g78, h⟩ := oG_some h
          refine g_iast hC rfl (by decide) (inB_in g78) dX12_hang_78 (nm_e ?_)
          refine g_iload_n hC dX12_hang_79 rfl (q := 0) rfl ?_
          cases h
          exact g_iret hC hE rfl dX12_hang_80 (Nat.zero_le _) (Nat.zero_le _) ⟨rfl, rfl, rfl, rfl, rfl, rfl⟩
        · replace h := (if_neg c44).symm.trans h
          refine g_aload_n hC dX12_hang_47 rfl (q := 0) rfl ?_
          refine g_iconst hC dX12_hang_48 (v := (1 : Int32)) (by decide) ?_
          obtain ⟨r49, h49, h⟩ := oB_some h
          refine g_cV1 hC cv_X12_refuses wd_2062 ⟨Nat.le_of_ble_eq_true rfl, Nat.le_of_ble_eq_true rfl⟩ rfl (by decide) dX12_hang_49 (As := [.int (1 : Int32)]) (st := []) (ok_X12_refuses hC.2.2.2.2.2.2.2.1 hW h49) rfl rfl (Nat.le_of_ble_eq_true rfl) ⟨Nat.zero_le _, Nat.zero_le _⟩ ?_
          refine g_iconst hC dX12_hang_52 (v := (1 : Int32)) (by decide) ?_
          refine g_isub hC dX12_hang_53 ?_
          cases h
          exact g_iret hC hE rfl dX12_hang_54 (Nat.zero_le _) (Nat.zero_le _) ⟨rfl, rfl, rfl, rfl, rfl, rfl⟩
    · replace h := (if_pos c19).symm.trans h
      refine g_iconst hC dX12_hang_22 (v := (0 : Int32)) (by decide) ?_
      cases h
      exact g_iret hC hE rfl dX12_hang_23 (Nat.zero_le _) (Nat.zero_le _) ⟨rfl, rfl, rfl, rfl, rfl, rfl⟩
noncomputable def b_X12_hangsThere_2 (Fu : Nat) (I : mIT) (k2_ : Int32 × Int32 → Option (Int32)) (v1 : Int32) (v2 : Int32) : Option (Int32) :=
  if (I 75 25) ≤ v2 then (some (0 : Int32)) else (oG (inB ((31 : Int32) + v2) 53) (if (I 85 (((31 : Int32) + v2)).toNatClampNeg) = v1 then (some (1 : Int32)) else (k2_ (v1, (v2 + (1 : Int32))))))
set_option maxRecDepth 20000 in
theorem bo_X12_hangsThere_2 {X : mXT} {E : mEn} {Fu : Nat} {I : mIT} {R : mRT} {L : mLT}  (hC : mC X E mX12_hangsThere RX12 cX12_hangsThere) (hW : mWd R)   {out : Int32} (hE : mEd X E 0 0 (mSame (some (.int (out))) 106 1 I R L)) (k2_ : Int32 × Int32 → Option (Int32)) (hk2_ : ∀ (v1 : Int32) (v2 : Int32),  k2_ (v1, v2) = some out → mG X E 2 [(0, .ref (mB E + 75)), (1, .int v1), (2, .int v2)] [] 106 1 I R L 0 0) (v1 : Int32) (v2 : Int32) (h : b_X12_hangsThere_2 Fu I k2_ v1 v2 = some out) : mG X E 2 [(0, .ref (mB E + 75)), (1, .int v1), (2, .int v2)] [] 106 1 I R L 0 0 := by
  unfold b_X12_hangsThere_2 at h
  refine g_iload_n hC dX12_hangsThere_2 rfl (q := 2) rfl ?_
  refine g_aload_n hC dX12_hangsThere_3 rfl (q := 0) rfl ?_
  refine g_geti hC fd_RX12_230 rfl (by decide) (Or.inl rfl) dX12_hangsThere_4 ?_
  refine g_ic_ge hC dX12_hangsThere_7 (tgt := 31) (by decide) (fun c7 => ?_) (fun c7 => ?_)
  · replace h := (if_pos c7).symm.trans h
    refine g_iconst hC dX12_hangsThere_31 (v := (0 : Int32)) (by decide) ?_
    cases h
    exact g_zret hC (by decide) hE rfl dX12_hangsThere_32 (Nat.zero_le _) (Nat.zero_le _) ⟨rfl, rfl, rfl, rfl, rfl, rfl⟩
  · replace h := (if_neg c7).symm.trans h
    refine g_aload_n hC dX12_hangsThere_10 rfl (q := 0) rfl ?_
    refine g_getr hC fd_RX12_50 rfl (by decide) (C0 := "") (t0 := _) (Or.inr rfl) (rr_75_38 hW.1) dX12_hangsThere_11 ?_
    refine g_bipush hC dX12_hangsThere_14 (v := (31 : Int32)) (by decide) ?_
    refine g_iload_n hC dX12_hangsThere_16 rfl (q := 2) rfl ?_
    refine g_iadd hC dX12_hangsThere_17 ?_
    obtain ⟨g18, h⟩ := oG_some h
    refine g_iald hC rfl (by decide) (inB_in g18) dX12_hangsThere_18 ?_
    refine g_iload_n hC dX12_hangsThere_19 rfl (q := 1) rfl ?_
    refine g_ic_ne hC dX12_hangsThere_20 (tgt := 25) (by decide) (fun c20 => ?_) (fun c20 => ?_)
    · replace h := (if_neg c20).symm.trans h
      refine g_iinc hC dX12_hangsThere_25 rfl (q := 2) rfl (w := (v2 + (1 : Int32))) rfl (by decide) (lv' := [(2, .int (v2 + (1 : Int32))), (0, .ref (mB E + 75)), (1, .int v1)]) rfl ?_
      refine g_goto hC dX12_hangsThere_28 (tgt := 2) (by decide) ?_
      refine g_lv [1, 2, 0] rfl ?_
      exact hk2_ v1 (v2 + (1 : Int32)) h
    · replace h := (if_pos c20).symm.trans h
      refine g_iconst hC dX12_hangsThere_23 (v := (1 : Int32)) (by decide) ?_
      cases h
      exact g_zret hC (by decide) hE rfl dX12_hangsThere_24 (Nat.zero_le _) (Nat.zero_le _) ⟨rfl, rfl, rfl, rfl, rfl, rfl⟩
noncomputable def w_X12_hangsThere_2 (Fu : Nat) (I : mIT)  (N : Nat) (v1 : Int32) (v2 : Int32) : Option (Int32) :=
  loopF (fun self (s : Int32 × Int32) => b_X12_hangsThere_2 Fu I self s.1 s.2) N (v1, v2)
theorem wo_X12_hangsThere_2 {X : mXT} {E : mEn} {Fu : Nat} {I : mIT} {R : mRT} {L : mLT}  (hC : mC X E mX12_hangsThere RX12 cX12_hangsThere) (hW : mWd R)   {out : Int32} (hE : mEd X E 0 0 (mSame (some (.int (out))) 106 1 I R L))  (N : Nat) (v1 : Int32) (v2 : Int32) (h : w_X12_hangsThere_2 Fu I  N v1 v2 = some out) : mG X E 2 [(0, .ref (mB E + 75)), (1, .int v1), (2, .int v2)] [] 106 1 I R L 0 0 :=
  loopF_ok (Gd := fun s : Int32 × Int32 => mG X E 2 [(0, .ref (mB E + 75)), (1, .int s.1), (2, .int s.2)] [] 106 1 I R L 0 0) (fun self hs s h => bo_X12_hangsThere_2 hC hW hE self (fun v1 v2 h => hs (v1, v2) h) s.1 s.2 h) N (v1, v2) h
noncomputable def f_X12_hangsThere (Fu : Nat) (I : mIT) (v1 : Int32) : Option (Int32) :=
  w_X12_hangsThere_2 Fu I Fu v1 (0 : Int32)
set_option maxRecDepth 20000 in
theorem ok_X12_hangsThere {l : Launch} {E : mEn} {Fu : Nat} {I : mIT} {R : mRT} {L : mLT} {v1 : Int32} (hst : l.stackTraces = false) (hW : mWd R)  {out : Int32} (h : f_X12_hangsThere Fu I v1 = some out) : mOk l E mX12_hangsThere [.ref (mB E + 75), .int v1] 106 1 I R L 0 0 (mSame (some (.int (out))) 106 1 I R L) := by
  refine mOk_of hst (by decide) (Nat.le_of_ble_eq_true rfl) (fun X hC hE _ => ?_)
  have hC : mC X E mX12_hangsThere RX12 cX12_hangsThere := hC
  show mG X E 0 [(0, .ref (mB E + 75)), (1, .int v1)] [] 106 1 I R L 0 0
  unfold f_X12_hangsThere at h
  refine g_iconst hC dX12_hangsThere_0 (v := (0 : Int32)) (by decide) ?_
  refine g_istore_n hC dX12_hangsThere_1 rfl rfl (by decide) (lv' := [(2, .int (0 : Int32)), (0, .ref (mB E + 75)), (1, .int v1)]) rfl ?_
  refine g_lv [1, 2, 0] rfl ?_
  exact wo_X12_hangsThere_2 hC hW hE Fu (v1) ((0 : Int32)) h
noncomputable def b_X12_happens_57 (Fu : Nat)  (v1 : Int32) (v2 : Int32) (I : mIT) : Option (mIT) :=
  if v1 = (1 : Int32) then (oB (f_X12_hangs Fu I (53 : Int32) v2) (fun r66 => if r66 = 0 then (some (I)) else (oG (inB ((74 : Int32) + v2) 106) (oB (f_X12_kept Fu ((I 89 (((74 : Int32) + v2)).toNatClampNeg) + (9 : Int32)) (0 : Int32) (99 : Int32)) (fun r95 => oG (inB ((74 : Int32) + v2) 106) (some (mU I 89 (((74 : Int32) + v2)).toNatClampNeg r95))))))) else (some (I))
set_option maxRecDepth 20000 in
theorem bo_X12_happens_57 {X : mXT} {E : mEn} {Fu : Nat} {R : mRT} {L : mLT}  (hC : mC X E mX12_happens RX12 cX12_happens) (hW : mWd R)   {out : mIT} (hE : mEd X E 0 0 (mSame none 106 1 (out) R L))  (v1 : Int32) (v2 : Int32) (I : mIT) (h : b_X12_happens_57 Fu  v1 v2 I = some out) : mG X E 57 [(0, .ref (mB E + 75)), (1, .int v1), (2, .int v2)] [] 106 1 I R L 0 0 := by
  unfold b_X12_happens_57 at h
  refine g_iload_n hC dX12_happens_57 rfl (q := 1) rfl ?_
  refine g_iconst hC dX12_happens_58 (v := (1 : Int32)) (by decide) ?_
  refine g_ic_ne hC dX12_happens_59 (tgt := 99) (by decide) (fun c59 => ?_) (fun c59 => ?_)
  · replace h := (if_neg c59).symm.trans h
    cases h
    exact g_vret hC hE rfl dX12_happens_99 (Nat.zero_le _) (Nat.zero_le _) ⟨rfl, rfl, rfl, rfl, rfl, rfl⟩
  · replace h := (if_pos c59).symm.trans h
    refine g_aload_n hC dX12_happens_62 rfl (q := 0) rfl ?_
    refine g_bipush hC dX12_happens_63 (v := (53 : Int32)) (by decide) ?_
    refine g_iload_n hC dX12_happens_65 rfl (q := 2) rfl ?_
    obtain ⟨r66, h66, h⟩ := oB_some h
    refine g_cV1 hC cv_X12_hangs wd_2004 ⟨Nat.le_of_ble_eq_true rfl, Nat.le_of_ble_eq_true rfl⟩ rfl (by decide) dX12_happens_66 (As := [.int (53 : Int32), .int v2]) (st := []) (ok_X12_hangs hC.2.2.2.2.2.2.2.1 hW h66) rfl rfl (Nat.le_of_ble_eq_true rfl) ⟨Nat.zero_le _, Nat.zero_le _⟩ ?_
    refine g_if_eq hC dX12_happens_69 (tgt := 99) (by decide) (fun c69 => ?_) (fun c69 => ?_)
    · replace h := (if_pos c69).symm.trans h
      cases h
      exact g_vret hC hE rfl dX12_happens_99 (Nat.zero_le _) (Nat.zero_le _) ⟨rfl, rfl, rfl, rfl, rfl, rfl⟩
    · replace h := (if_neg c69).symm.trans h
      refine g_aload_n hC dX12_happens_72 rfl (q := 0) rfl ?_
      refine g_getr hC fd_RX12_63 rfl (by decide) (C0 := "") (t0 := _) (Or.inr rfl) (rr_75_42 hW.1) dX12_happens_73 ?_
      refine g_bipush hC dX12_happens_76 (v := (74 : Int32)) (by decide) ?_
      refine g_iload_n hC dX12_happens_78 rfl (q := 2) rfl ?_
      refine g_iadd hC dX12_happens_79 ?_
      refine g_aload_n hC dX12_happens_80 rfl (q := 0) rfl ?_
      refine g_getr hC fd_RX12_63 rfl (by decide) (C0 := "") (t0 := _) (Or.inr rfl) (rr_75_42 hW.1) dX12_happens_81 ?_
      refine g_bipush hC dX12_happens_84 (v := (74 : Int32)) (by decide) ?_
      refine g_iload_n hC dX12_happens_86 rfl (q := 2) rfl ?_
      refine g_iadd hC dX12_happens_87 ?_
      obtain ⟨g88, h⟩ := oG_some h
      refine g_iald hC rfl (by decide) (inB_in g88) dX12_happens_88 ?_
      refine g_bipush hC dX12_happens_89 (v := (9 : Int32)) (by decide) ?_
      refine g_iadd hC dX12_happens_91 ?_
      refine g_iconst hC dX12_happens_92 (v := (0 : Int32)) (by decide) ?_
      refine g_bipush hC dX12_happens_93 (v := (99 : Int32)) (by decide) ?_
      obtain ⟨r95, h95, h⟩ := oB_some h
      refine g_cS1 hC cs_X12_kept wd_2016 ⟨Nat.le_of_ble_eq_true rfl, Nat.le_of_ble_eq_true rfl⟩ dX12_happens_95 (As := [.int ((I 89 (((74 : Int32) + v2)).toNatClampNeg) + (9 : Int32)), .int (0 : Int32), .int (99 : Int32)]) (st := [.int ((74 : Int32) + v2), .ref (mB E + 89)]) (ok_X12_kept hC.2.2.2.2.2.2.2.1 hW h95) rfl rfl (Nat.le_of_ble_eq_true rfl) ⟨Nat.zero_le _, Nat.zero_le _⟩ ?_
      obtain ⟨g98, h⟩ := oG_some h
      refine g_iast hC rfl (by decide) (inB_in g98) dX12_happens_98 (nm_e ?_)
      cases h
      exact g_vret hC hE rfl dX12_happens_99 (Nat.zero_le _) (Nat.zero_le _) ⟨rfl, rfl, rfl, rfl, rfl, rfl⟩
noncomputable def f_X12_happens (Fu : Nat) (I : mIT)  : Option (mIT) :=
  oB (f_X12_draw Fu I (8 : Int32)) (fun r3 => if (1 : Int32) < r3.1 then (some (r3.2)) else (if (r3.2 75 1) = 0 then (some (r3.2)) else (oB (f_X12_draw Fu r3.2 (r3.2 75 1)) (fun r25 => if r3.1 = 0 then (oG (inB ((84 : Int32) + r25.1) 106) (if (r25.2 89 (((84 : Int32) + r25.1)).toNatClampNeg) = (-1 : Int32) then (oG (inB ((84 : Int32) + r25.1) 106) (b_X12_happens_57 Fu r3.1 r25.1 (mU r25.2 89 (((84 : Int32) + r25.1)).toNatClampNeg (-2 : Int32)))) else (b_X12_happens_57 Fu r3.1 r25.1 r25.2))) else (b_X12_happens_57 Fu r3.1 r25.1 r25.2)))))
set_option maxRecDepth 20000 in
theorem ok_X12_happens {l : Launch} {E : mEn} {Fu : Nat} {I : mIT} {R : mRT} {L : mLT}  (hst : l.stackTraces = false) (hW : mWd R)  {out : mIT} (h : f_X12_happens Fu I  = some out) : mOk l E mX12_happens [.ref (mB E + 75)] 106 1 I R L 0 0 (mSame none 106 1 (out) R L) := by
  refine mOk_of hst (by decide) (Nat.le_of_ble_eq_true rfl) (fun X hC hE _ => ?_)
  have hC : mC X E mX12_happens RX12 cX12_happens := hC
  show mG X E 0 [(0, .ref (mB E + 75))] [] 106 1 I R L 0 0
  unfold f_X12_happens at h
  refine g_aload_n hC dX12_happens_0 rfl (q := 0) rfl ?_
  refine g_bipush hC dX12_happens_1 (v := (8 : Int32)) (by decide) ?_
  obtain ⟨r3, h3, h⟩ := oB_some h
  refine g_cV1 hC cv_X12_draw wd_2265 ⟨Nat.le_of_ble_eq_true rfl, Nat.le_of_ble_eq_true rfl⟩ rfl (by decide) dX12_happens_3 (As := [.int (8 : Int32)]) (st := []) (ok_X12_draw hC.2.2.2.2.2.2.2.1 hW h3) rfl rfl (Nat.le_of_ble_eq_true rfl) ⟨Nat.zero_le _, Nat.zero_le _⟩ ?_
  refine g_istore_n hC dX12_happens_6 rfl rfl (by decide) (lv' := [(1, .int r3.1), (0, .ref (mB E + 75))]) rfl ?_
  refine g_iload_n hC dX12_happens_7 rfl (q := 0) rfl ?_
  refine g_iconst hC dX12_happens_8 (v := (1 : Int32)) (by decide) ?_
  refine g_ic_gt hC dX12_happens_9 (tgt := 19) (by decide) (fun c9 => ?_) (fun c9 => ?_)
  · replace h := (if_pos c9).symm.trans h
    cases h
    exact g_vret hC hE rfl dX12_happens_19 (Nat.zero_le _) (Nat.zero_le _) ⟨rfl, rfl, rfl, rfl, rfl, rfl⟩
  · replace h := (if_neg c9).symm.trans h
    refine g_aload_n hC dX12_happens_12 rfl (q := 1) rfl ?_
    refine g_geti hC fd_RX12_289 rfl (by decide) (Or.inl rfl) dX12_happens_13 ?_
    refine g_if_ne hC dX12_happens_16 (tgt := 20) (by decide) (fun c16 => ?_) (fun c16 => ?_)
    · replace h := (if_neg c16).symm.trans h
      refine g_aload_n hC dX12_happens_20 rfl (q := 1) rfl ?_
      refine g_aload_n hC dX12_happens_21 rfl (q := 1) rfl ?_
      refine g_geti hC fd_RX12_289 rfl (by decide) (Or.inl rfl) dX12_happens_22 ?_
      obtain ⟨r25, h25, h⟩ := oB_some h
      refine g_cV1 hC cv_X12_draw wd_2265 ⟨Nat.le_of_ble_eq_true rfl, Nat.le_of_ble_eq_true rfl⟩ rfl (by decide) dX12_happens_25 (As := [.int (r3.2 75 1)]) (st := []) (ok_X12_draw hC.2.2.2.2.2.2.2.1 hW h25) rfl rfl (Nat.le_of_ble_eq_true rfl) ⟨Nat.zero_le _, Nat.zero_le _⟩ ?_
      refine g_istore_n hC dX12_happens_28 rfl rfl (by decide) (lv' := [(2, .int r25.1), (1, .int r3.1), (0, .ref (mB E + 75))]) rfl ?_
      refine g_iload_n hC dX12_happens_29 rfl (q := 1) rfl ?_
      refine g_if_ne hC dX12_happens_30 (tgt := 57) (by decide) (fun c30 => ?_) (fun c30 => ?_)
      · replace h := (if_neg c30).symm.trans h
        refine g_lv [2, 1, 0] rfl ?_
        exact bo_X12_happens_57 hC hW hE (r3.1) (r25.1) (r25.2) h
      · replace h := (if_pos c30).symm.trans h
        refine g_aload_n hC dX12_happens_33 rfl (q := 2) rfl ?_
        refine g_getr hC fd_RX12_63 rfl (by decide) (C0 := "") (t0 := _) (Or.inr rfl) (rr_75_42 hW.1) dX12_happens_34 ?_
        refine g_bipush hC dX12_happens_37 (v := (84 : Int32)) (by decide) ?_
        refine g_iload_n hC dX12_happens_39 rfl (q := 0) rfl ?_
        refine g_iadd hC dX12_happens_40 ?_
        obtain ⟨g41, h⟩ := oG_some h
        refine g_iald hC rfl (by decide) (inB_in g41) dX12_happens_41 ?_
        refine g_iconst hC dX12_happens_42 (v := (-1 : Int32)) (by decide) ?_
        refine g_ic_ne hC dX12_happens_43 (tgt := 57) (by decide) (fun c43 => ?_) (fun c43 => ?_)
        · replace h := (if_neg c43).symm.trans h
          refine g_lv [2, 1, 0] rfl ?_
          exact bo_X12_happens_57 hC hW hE (r3.1) (r25.1) (r25.2) h
        · replace h := (if_pos c43).symm.trans h
          refine g_aload_n hC dX12_happens_46 rfl (q := 2) rfl ?_
          refine g_getr hC fd_RX12_63 rfl (by decide) (C0 := "") (t0 := _) (Or.inr rfl) (rr_75_42 hW.1) dX12_happens_47 ?_
          refine g_bipush hC dX12_happens_50 (v := (84 : Int32)) (by decide) ?_
          refine g_iload_n hC dX12_happens_52 rfl (q := 0) rfl ?_
          refine g_iadd hC dX12_happens_53 ?_
          refine g_bipush hC dX12_happens_54 (v := (-2 : Int32)) (by decide) ?_
          obtain ⟨g56, h⟩ := oG_some h
          refine g_iast hC rfl (by decide) (inB_in g56) dX12_happens_56 (nm_e ?_)
          refine g_lv [2, 1, 0] rfl ?_
          exact bo_X12_happens_57 hC hW hE (r3.1) (r25.1) ((mU r25.2 89 (((84 : Int32) + r25.1)).toNatClampNeg (-2 : Int32))) h
    · replace h := (if_pos c16).symm.trans h
      cases h
      exact g_vret hC hE rfl dX12_happens_19 (Nat.zero_le _) (Nat.zero_le _) ⟨rfl, rfl, rfl, rfl, rfl, rfl⟩
noncomputable def f_X12_hear (Fu : Nat) (I : mIT) (v1 : Int32) (v2 : Int32) (v3 : Int32) : Option (Int32 × mIT) :=
  if ((mU I 75 0 (0 : Int32)) 75 55) = (8 : Int32) then (oB (f_X12_refuses Fu (mU I 75 0 (0 : Int32)) (2 : Int32)) (fun r36 => some (r36.1, r36.2))) else (oB (f_X12_within Fu v1 (0 : Int32) (30 : Int32)) (fun r18 => if r18 = 0 then (oB (f_X12_refuses Fu (mU I 75 0 (0 : Int32)) (2 : Int32)) (fun r36 => some (r36.1, r36.2))) else (oB (f_X12_within Fu v2 (0 : Int32) (15 : Int32)) (fun r28 => if r28 = 0 then (oB (f_X12_refuses Fu (mU I 75 0 (0 : Int32)) (2 : Int32)) (fun r36 => some (r36.1, r36.2))) else (oG (inB ((3 : Int32) * ((mU I 75 0 (0 : Int32)) 75 55)) 24) (oG (inB (((3 : Int32) * ((mU (mU I 75 0 (0 : Int32)) 99 (((3 : Int32) * ((mU I 75 0 (0 : Int32)) 75 55))).toNatClampNeg v1) 75 55)) + (1 : Int32)) 24) (if v3 = 0 then (oG (inB (((3 : Int32) * ((mU (mU (mU I 75 0 (0 : Int32)) 99 (((3 : Int32) * ((mU I 75 0 (0 : Int32)) 75 55))).toNatClampNeg v1) 99 ((((3 : Int32) * ((mU (mU I 75 0 (0 : Int32)) 99 (((3 : Int32) * ((mU I 75 0 (0 : Int32)) 75 55))).toNatClampNeg v1) 75 55)) + (1 : Int32))).toNatClampNeg v2) 75 55)) + (2 : Int32)) 24) (some (((mU (mU (mU (mU (mU I 75 0 (0 : Int32)) 99 (((3 : Int32) * ((mU I 75 0 (0 : Int32)) 75 55))).toNatClampNeg v1) 99 ((((3 : Int32) * ((mU (mU I 75 0 (0 : Int32)) 99 (((3 : Int32) * ((mU I 75 0 (0 : Int32)) 75 55))).toNatClampNeg v1) 75 55)) + (1 : Int32))).toNatClampNeg v2) 99 ((((3 : Int32) * ((mU (mU (mU I 75 0 (0 : Int32)) 99 (((3 : Int32) * ((mU I 75 0 (0 : Int32)) 75 55))).toNatClampNeg v1) 99 ((((3 : Int32) * ((mU (mU I 75 0 (0 : Int32)) 99 (((3 : Int32) * ((mU I 75 0 (0 : Int32)) 75 55))).toNatClampNeg v1) 75 55)) + (1 : Int32))).toNatClampNeg v2) 75 55)) + (2 : Int32))).toNatClampNeg (0 : Int32)) 75 55 (((mU (mU (mU (mU I 75 0 (0 : Int32)) 99 (((3 : Int32) * ((mU I 75 0 (0 : Int32)) 75 55))).toNatClampNeg v1) 99 ((((3 : Int32) * ((mU (mU I 75 0 (0 : Int32)) 99 (((3 : Int32) * ((mU I 75 0 (0 : Int32)) 75 55))).toNatClampNeg v1) 75 55)) + (1 : Int32))).toNatClampNeg v2) 99 ((((3 : Int32) * ((mU (mU (mU I 75 0 (0 : Int32)) 99 (((3 : Int32) * ((mU I 75 0 (0 : Int32)) 75 55))).toNatClampNeg v1) 99 ((((3 : Int32) * ((mU (mU I 75 0 (0 : Int32)) 99 (((3 : Int32) * ((mU I 75 0 (0 : Int32)) 75 55))).toNatClampNeg v1) 75 55)) + (1 : Int32))).toNatClampNeg v2) 75 55)) + (2 : Int32))).toNatClampNeg (0 : Int32)) 75 55) + (1 : Int32))) 75 55), (mU (mU (mU (mU (mU I 75 0 (0 : Int32)) 99 (((3 : Int32) * ((mU I 75 0 (0 : Int32)) 75 55))).toNatClampNeg v1) 99 ((((3 : Int32) * ((mU (mU I 75 0 (0 : Int32)) 99 (((3 : Int32) * ((mU I 75 0 (0 : Int32)) 75 55))).toNatClampNeg v1) 75 55)) + (1 : Int32))).toNatClampNeg v2) 99 ((((3 : Int32) * ((mU (mU (mU I 75 0 (0 : Int32)) 99 (((3 : Int32) * ((mU I 75 0 (0 : Int32)) 75 55))).toNatClampNeg v1) 99 ((((3 : Int32) * ((mU (mU I 75 0 (0 : Int32)) 99 (((3 : Int32) * ((mU I 75 0 (0 : Int32)) 75 55))).toNatClampNeg v1) 75 55)) + (1 : Int32))).toNatClampNeg v2) 75 55)) + (2 : Int32))).toNatClampNeg (0 : Int32)) 75 55 (((mU (mU (mU (mU I 75 0 (0 : Int32)) 99 (((3 : Int32) * ((mU I 75 0 (0 : Int32)) 75 55))).toNatClampNeg v1) 99 ((((3 : Int32) * ((mU (mU I 75 0 (0 : Int32)) 99 (((3 : Int32) * ((mU I 75 0 (0 : Int32)) 75 55))).toNatClampNeg v1) 75 55)) + (1 : Int32))).toNatClampNeg v2) 99 ((((3 : Int32) * ((mU (mU (mU I 75 0 (0 : Int32)) 99 (((3 : Int32) * ((mU I 75 0 (0 : Int32)) 75 55))).toNatClampNeg v1) 99 ((((3 : Int32) * ((mU (mU I 75 0 (0 : Int32)) 99 (((3 : Int32) * ((mU I 75 0 (0 : Int32)) 75 55))).toNatClampNeg v1) 75 55)) + (1 : Int32))).toNatClampNeg v2) 75 55)) + (2 : Int32))).toNatClampNeg (0 : Int32)) 75 55) + (1 : Int32)))))) else (oG (inB (((3 : Int32) * ((mU (mU (mU I 75 0 (0 : Int32)) 99 (((3 : Int32) * ((mU I 75 0 (0 : Int32)) 75 55))).toNatClampNeg v1) 99 ((((3 : Int32) * ((mU (mU I 75 0 (0 : Int32)) 99 (((3 : Int32) * ((mU I 75 0 (0 : Int32)) 75 55))).toNatClampNeg v1) 75 55)) + (1 : Int32))).toNatClampNeg v2) 75 55)) + (2 : Int32)) 24) (some (((mU (mU (mU (mU (mU I 75 0 (0 : Int32)) 99 (((3 : Int32) * ((mU I 75 0 (0 : Int32)) 75 55))).toNatClampNeg v1) 99 ((((3 : Int32) * ((mU (mU I 75 0 (0 : Int32)) 99 (((3 : Int32) * ((mU I 75 0 (0 : Int32)) 75 55))).toNatClampNeg v1) 75 55)) + (1 : Int32))).toNatClampNeg v2) 99 ((((3 : Int32) * ((mU (mU (mU I 75 0 (0 : Int32)) 99 (((3 : Int32) * ((mU I 75 0 (0 : Int32)) 75 55))).toNatClampNeg v1) 99 ((((3 : Int32) * ((mU (mU I 75 0 (0 : Int32)) 99 (((3 : Int32) * ((mU I 75 0 (0 : Int32)) 75 55))).toNatClampNeg v1) 75 55)) + (1 : Int32))).toNatClampNeg v2) 75 55)) + (2 : Int32))).toNatClampNeg (1 : Int32)) 75 55 (((mU (mU (mU (mU I 75 0 (0 : Int32)) 99 (((3 : Int32) * ((mU I 75 0 (0 : Int32)) 75 55))).toNatClampNeg v1) 99 ((((3 : Int32) * ((mU (mU I 75 0 (0 : Int32)) 99 (((3 : Int32) * ((mU I 75 0 (0 : Int32)) 75 55))).toNatClampNeg v1) 75 55)) + (1 : Int32))).toNatClampNeg v2) 99 ((((3 : Int32) * ((mU (mU (mU I 75 0 (0 : Int32)) 99 (((3 : Int32) * ((mU I 75 0 (0 : Int32)) 75 55))).toNatClampNeg v1) 99 ((((3 : Int32) * ((mU (mU I 75 0 (0 : Int32)) 99 (((3 : Int32) * ((mU I 75 0 (0 : Int32)) 75 55))).toNatClampNeg v1) 75 55)) + (1 : Int32))).toNatClampNeg v2) 75 55)) + (2 : Int32))).toNatClampNeg (1 : Int32)) 75 55) + (1 : Int32))) 75 55), (mU (mU (mU (mU (mU I 75 0 (0 : Int32)) 99 (((3 : Int32) * ((mU I 75 0 (0 : Int32)) 75 55))).toNatClampNeg v1) 99 ((((3 : Int32) * ((mU (mU I 75 0 (0 : Int32)) 99 (((3 : Int32) * ((mU I 75 0 (0 : Int32)) 75 55))).toNatClampNeg v1) 75 55)) + (1 : Int32))).toNatClampNeg v2) 99 ((((3 : Int32) * ((mU (mU (mU I 75 0 (0 : Int32)) 99 (((3 : Int32) * ((mU I 75 0 (0 : Int32)) 75 55))).toNatClampNeg v1) 99 ((((3 : Int32) * ((mU (mU I 75 0 (0 : Int32)) 99 (((3 : Int32) * ((mU I 75 0 (0 : Int32)) 75 55))).toNatClampNeg v1) 75 55)) + (1 : Int32))).toNatClampNeg v2) 75 55)) + (2 : Int32))).toNatClampNeg (1 : Int32)) 75 55 (((mU (mU (mU (mU I 75 0 (0 : Int32)) 99 (((3 : Int32) * ((mU I 75 0 (0 : Int32)) 75 55))).toNatClampNeg v1) 99 ((((3 : Int32) * ((mU (mU I 75 0 (0 : Int32)) 99 (((3 : Int32) * ((mU I 75 0 (0 : Int32)) 75 55))).toNatClampNeg v1) 75 55)) + (1 : Int32))).toNatClampNeg v2) 99 ((((3 : Int32) * ((mU (mU (mU I 75 0 (0 : Int32)) 99 (((3 : Int32) * ((mU I 75 0 (0 : Int32)) 75 55))).toNatClampNeg v1) 99 ((((3 : Int32) * ((mU (mU I 75 0 (0 : Int32)) 99 (((3 : Int32) * ((mU I 75 0 (0 : Int32)) 75 55))).toNatClampNeg v1) 75 55)) + (1 : Int32))).toNatClampNeg v2) 75 55)) + (2 : Int32))).toNatClampNeg (1 : Int32)) 75 55) + (1 : Int32)))))))))))))
set_option maxRecDepth 20000 in
theorem ok_X12_hear {l : Launch} {E : mEn} {Fu : Nat} {I : mIT} {R : mRT} {L : mLT} {v1 : Int32} {v2 : Int32} {v3 : Int32} (hst : l.stackTraces = false) (hW : mWd R)  {out : Int32 × mIT} (h : f_X12_hear Fu I v1 v2 v3 = some out) : mOk l E mX12_hear [.ref (mB E + 75), .int v1, .int v2, .int v3] 106 1 I R L 0 0 (mSame (some (.int (out.1))) 106 1 (out.2) R L) := by
  refine mOk_of hst (by decide) (Nat.le_of_ble_eq_true rfl) (fun X hC hE _ => ?_)
  have hC : mC X E mX12_hear RX12 cX12_hear := hC
  show mG X E 0 [(0, .ref (mB E + 75)), (1, .int v1), (2, .int v2), (3, .int v3)] [] 106 1 I R L 0 0
  unfold f_X12_hear at h
  refine g_aload_n hC dX12_hear_0 rfl (q := 0) rfl ?_
  refine g_iconst hC dX12_hear_1 (v := (0 : Int32)) (by decide) ?_
  refine g_puti hC fd_RX12_114 rfl (by decide) rfl dX12_hear_2 (nm_e ?_)
  refine g_aload_n hC dX12_hear_5 rfl (q := 0) rfl ?_
  refine g_geti hC fd_RX12_308 rfl (by decide) (Or.inl rfl) dX12_hear_6 ?_
  refine g_bipush hC dX12_hear_9 (v := (8 : Int32)) (by decide) ?_
  refine g_ic_eq hC dX12_hear_11 (tgt := 34) (by decide) (fun c11 => ?_) (fun c11 => ?_)
  · replace h := (if_pos c11).symm.trans h
    refine g_aload_n hC dX12_hear_34 rfl (q := 0) rfl ?_
    refine g_iconst hC dX12_hear_35 (v := (2 : Int32)) (by decide) ?_
    obtain ⟨r36, h36, h⟩ := oB_some h
    refine g_cV1 hC cv_X12_refuses wd_2062 ⟨Nat.le_of_ble_eq_true rfl, Nat.le_of_ble_eq_true rfl⟩ rfl (by decide) dX12_hear_36 (As := [.int (2 : Int32)]) (st := []) (ok_X12_refuses hC.2.2.2.2.2.2.2.1 hW h36) rfl rfl (Nat.le_of_ble_eq_true rfl) ⟨Nat.zero_le _, Nat.zero_le _⟩ ?_
    cases h
    exact g_iret hC hE rfl dX12_hear_39 (Nat.zero_le _) (Nat.zero_le _) ⟨rfl, rfl, rfl, rfl, rfl, rfl⟩
  · replace h := (if_neg c11).symm.trans h
    refine g_iload_n hC dX12_hear_14 rfl (q := 1) rfl ?_
    refine g_iconst hC dX12_hear_15 (v := (0 : Int32)) (by decide) ?_
    refine g_bipush hC dX12_hear_16 (v := (30 : Int32)) (by decide) ?_
    obtain ⟨r18, h18, h⟩ := oB_some h
    refine g_cS1 hC cs_X12_within wd_1915 ⟨Nat.le_of_ble_eq_true rfl, Nat.le_of_ble_eq_true rfl⟩ dX12_hear_18 (As := [.int v1, .int (0 : Int32), .int (30 : Int32)]) (st := []) (ok_X12_within hC.2.2.2.2.2.2.2.1 hW h18) rfl rfl (Nat.le_of_ble_eq_true rfl) ⟨Nat.zero_le _, Nat.zero_le _⟩ ?_
    refine g_if_eq hC dX12_hear_21 (tgt := 34) (by decide) (fun c21 => ?_) (fun c21 => ?_)
    · replace h := (if_pos c21).symm.trans h
      refine g_aload_n hC dX12_hear_34 rfl (q := 0) rfl ?_
      refine g_iconst hC dX12_hear_35 (v := (2 : Int32)) (by decide) ?_
      obtain ⟨r36, h36, h⟩ := oB_some h
      refine g_cV1 hC cv_X12_refuses wd_2062 ⟨Nat.le_of_ble_eq_true rfl, Nat.le_of_ble_eq_true rfl⟩ rfl (by decide) dX12_hear_36 (As := [.int (2 : Int32)]) (st := []) (ok_X12_refuses hC.2.2.2.2.2.2.2.1 hW h36) rfl rfl (Nat.le_of_ble_eq_true rfl) ⟨Nat.zero_le _, Nat.zero_le _⟩ ?_
      cases h
      exact g_iret hC hE rfl dX12_hear_39 (Nat.zero_le _) (Nat.zero_le _) ⟨rfl, rfl, rfl, rfl, rfl, rfl⟩
    · replace h := (if_neg c21).symm.trans h
      refine g_iload_n hC dX12_hear_24 rfl (q := 2) rfl ?_
      refine g_iconst hC dX12_hear_25 (v := (0 : Int32)) (by decide) ?_
      refine g_bipush hC dX12_hear_26 (v := (15 : Int32)) (by decide) ?_
      obtain ⟨r28, h28, h⟩ := oB_some h
      refine g_cS1 hC cs_X12_within wd_1915 ⟨Nat.le_of_ble_eq_true rfl, Nat.le_of_ble_eq_true rfl⟩ dX12_hear_28 (As := [.int v2, .int (0 : Int32), .int (15 : Int32)]) (st := []) (ok_X12_within hC.2.2.2.2.2.2.2.1 hW h28) rfl rfl (Nat.le_of_ble_eq_true rfl) ⟨Nat.zero_le _, Nat.zero_le _⟩ ?_
      refine g_if_ne hC dX12_hear_31 (tgt := 40) (by decide) (fun c31 => ?_) (fun c31 => ?_)
      · replace h := (if_neg c31).symm.trans h
        refine g_aload_n hC dX12_hear_40 rfl (q := 0) rfl ?_
        refine g_getr hC fd_RX12_96 rfl (by decide) (C0 := "") (t0 := _) (Or.inr rfl) (rr_75_56 hW.1) dX12_hear_41 ?_
        refine g_iconst hC dX12_hear_44 (v := (3 : Int32)) (by decide) ?_
        refine g_aload_n hC dX12_hear_45 rfl (q := 0) rfl ?_
        refine g_geti hC fd_RX12_308 rfl (by decide) (Or.inl rfl) dX12_hear_46 ?_
        refine g_imul hC dX12_hear_49 ?_
        refine g_iload_n hC dX12_hear_50 rfl (q := 1) rfl ?_
        obtain ⟨g51, h⟩ := oG_some h
        refine g_iast hC rfl (by decide) (inB_in g51) dX12_hear_51 (nm_e ?_)
        refine g_aload_n hC dX12_hear_52 rfl (q := 0) rfl ?_
        refine g_getr hC fd_RX12_96 rfl (by decide) (C0 := "") (t0 := _) (Or.inr rfl) (rr_75_56 hW.1) dX12_hear_53 ?_
        refine g_iconst hC dX12_hear_56 (v := (3 : Int32)) (by decide) ?_
        refine g_aload_n hC dX12_hear_57 rfl (q := 0) rfl ?_
        refine g_geti hC fd_RX12_308 rfl (by decide) (Or.inl rfl) dX12_hear_58 ?_
        refine g_imul hC dX12_hear_61 ?_
        refine g_iconst hC dX12_hear_62 (v := (1 : Int32)) (by decide) ?_
        refine g_iadd hC dX12_hear_63 ?_
        refine g_iload_n hC dX12_hear_64 rfl (q := 2) rfl ?_
        obtain ⟨g65, h⟩ := oG_some h
        refine g_iast hC rfl (by decide) (inB_in g65) dX12_hear_65 (nm_e ?_)
        refine g_aload_n hC dX12_hear_66 rfl (q := 0) rfl ?_
        refine g_getr hC fd_RX12_96 rfl (by decide) (C0 := "") (t0 := _) (Or.inr rfl) (rr_75_56 hW.1) dX12_hear_67 ?_
        refine g_iconst hC dX12_hear_70 (v := (3 : Int32)) (by decide) ?_
        refine g_aload_n hC dX12_hear_71 rfl (q := 0) rfl ?_
        refine g_geti hC fd_RX12_308 rfl (by decide) (Or.inl rfl) dX12_hear_72 ?_
        refine g_imul hC dX12_hear_75 ?_
        refine g_iconst hC dX12_hear_76 (v := (2 : Int32)) (by decide) ?_
        refine g_iadd hC dX12_hear_77 ?_
        refine g_iload_n hC dX12_hear_78 rfl (q := 3) rfl ?_
        refine g_if_eq hC dX12_hear_79 (tgt := 86) (by decide) (fun c79 => ?_) (fun c79 => ?_)
        · replace h := (if_pos c79).symm.trans h
          refine g_iconst hC dX12_hear_86 (v := (0 : Int32)) (by decide) ?_
          obtain ⟨g87, h⟩ := oG_some h
          refine g_iast hC rfl (by decide) (inB_in g87) dX12_hear_87 (nm_e ?_)
          refine g_aload_n hC dX12_hear_88 rfl (q := 0) rfl ?_
          refine g_dup hC dX12_hear_89 rfl ?_
          refine g_geti hC fd_RX12_308 rfl (by decide) (Or.inl rfl) dX12_hear_90 ?_
          refine g_iconst hC dX12_hear_93 (v := (1 : Int32)) (by decide) ?_
          refine g_iadd hC dX12_hear_94 ?_
          refine g_puti hC fd_RX12_308 rfl (by decide) rfl dX12_hear_95 (nm_e ?_)
          refine g_aload_n hC dX12_hear_98 rfl (q := 0) rfl ?_
          refine g_geti hC fd_RX12_308 rfl (by decide) (Or.inl rfl) dX12_hear_99 ?_
          cases h
          exact g_iret hC hE rfl dX12_hear_102 (Nat.zero_le _) (Nat.zero_le _) ⟨rfl, rfl, rfl, rfl, rfl, rfl⟩
        · replace h := (if_neg c79).symm.trans h
          refine g_iconst hC dX12_hear_82 (v := (1 : Int32)) (by decide) ?_
          refine g_goto hC dX12_hear_83 (tgt := 87) (by decide) ?_
          obtain ⟨g87, h⟩ := oG_some h
          refine g_iast hC rfl (by decide) (inB_in g87) dX12_hear_87 (nm_e ?_)
          refine g_aload_n hC dX12_hear_88 rfl (q := 0) rfl ?_
          refine g_dup hC dX12_hear_89 rfl ?_
          refine g_geti hC fd_RX12_308 rfl (by decide) (Or.inl rfl) dX12_hear_90 ?_
          refine g_iconst hC dX12_hear_93 (v := (1 : Int32)) (by decide) ?_
          refine g_iadd hC dX12_hear_94 ?_
          refine g_puti hC fd_RX12_308 rfl (by decide) rfl dX12_hear_95 (nm_e ?_)
          refine g_aload_n hC dX12_hear_98 rfl (q := 0) rfl ?_
          refine g_geti hC fd_RX12_308 rfl (by decide) (Or.inl rfl) dX12_hear_99 ?_
          cases h
          exact g_iret hC hE rfl dX12_hear_102 (Nat.zero_le _) (Nat.zero_le _) ⟨rfl, rfl, rfl, rfl, rfl, rfl⟩
      · replace h := (if_pos c31).symm.trans h
        refine g_aload_n hC dX12_hear_34 rfl (q := 0) rfl ?_
        refine g_iconst hC dX12_hear_35 (v := (2 : Int32)) (by decide) ?_
        obtain ⟨r36, h36, h⟩ := oB_some h
        refine g_cV1 hC cv_X12_refuses wd_2062 ⟨Nat.le_of_ble_eq_true rfl, Nat.le_of_ble_eq_true rfl⟩ rfl (by decide) dX12_hear_36 (As := [.int (2 : Int32)]) (st := []) (ok_X12_refuses hC.2.2.2.2.2.2.2.1 hW h36) rfl rfl (Nat.le_of_ble_eq_true rfl) ⟨Nat.zero_le _, Nat.zero_le _⟩ ?_
        cases h
        exact g_iret hC hE rfl dX12_hear_39 (Nat.zero_le _) (Nat.zero_le _) ⟨rfl, rfl, rfl, rfl, rfl, rfl⟩
noncomputable def f_X12_hollow (Fu : Nat) (I : mIT) (v1 : Int32) (v2 : Int32) : Option (Int32 × mIT) :=
  oB (f_X12_isRoot Fu (mU I 75 0 (0 : Int32)) v1) (fun r7 => if r7.1 = 0 then (some ((0 : Int32), r7.2)) else (oB (f_X12_mayBe Fu r7.2 v1) (fun r19 => oB (f_X12_within Fu v2 (1 : Int32) r19) (fun r22 => if r22 = 0 then (oB (f_X12_refuses Fu r7.2 (1 : Int32)) (fun r30 => some (r30.1, r30.2))) else (oB (f_X12_keeps Fu r7.2) (fun r35 => oG (inB ((11 : Int32) + v1) 106) (oG (inB ((11 : Int32) + v1) 106) (oB (f_X12_noteOf Fu (mU r35 89 (((11 : Int32) + v1)).toNatClampNeg ((r35 89 (((11 : Int32) + v1)).toNatClampNeg) + v2)) (0 : Int32) v1) (fun r54 => some (r54.1, r54.2))))))))))
set_option maxRecDepth 20000 in
theorem ok_X12_hollow {l : Launch} {E : mEn} {Fu : Nat} {I : mIT} {R : mRT} {L : mLT} {v1 : Int32} {v2 : Int32} (hst : l.stackTraces = false) (hW : mWd R)  {out : Int32 × mIT} (h : f_X12_hollow Fu I v1 v2 = some out) : mOk l E mX12_hollow [.ref (mB E + 75), .int v1, .int v2] 106 1 I R L 0 0 (mSame (some (.int (out.1))) 106 1 (out.2) R L) := by
  refine mOk_of hst (by decide) (Nat.le_of_ble_eq_true rfl) (fun X hC hE _ => ?_)
  have hC : mC X E mX12_hollow RX12 cX12_hollow := hC
  show mG X E 0 [(0, .ref (mB E + 75)), (1, .int v1), (2, .int v2)] [] 106 1 I R L 0 0
  unfold f_X12_hollow at h
  refine g_aload_n hC dX12_hollow_0 rfl (q := 0) rfl ?_
  refine g_iconst hC dX12_hollow_1 (v := (0 : Int32)) (by decide) ?_
  refine g_puti hC fd_RX12_114 rfl (by decide) rfl dX12_hollow_2 (nm_e ?_)
  refine g_aload_n hC dX12_hollow_5 rfl (q := 0) rfl ?_
  refine g_iload_n hC dX12_hollow_6 rfl (q := 1) rfl ?_
  obtain ⟨r7, h7, h⟩ := oB_some h
  refine g_cV1 hC cv_X12_isRoot wd_2034 ⟨Nat.le_of_ble_eq_true rfl, Nat.le_of_ble_eq_true rfl⟩ rfl (by decide) dX12_hollow_7 (As := [.int v1]) (st := []) (ok_X12_isRoot hC.2.2.2.2.2.2.2.1 hW h7) rfl rfl (Nat.le_of_ble_eq_true rfl) ⟨Nat.zero_le _, Nat.zero_le _⟩ ?_
  refine g_if_ne hC dX12_hollow_10 (tgt := 15) (by decide) (fun c10 => ?_) (fun c10 => ?_)
  · replace h := (if_neg c10).symm.trans h
    refine g_iload_n hC dX12_hollow_15 rfl (q := 2) rfl ?_
    refine g_iconst hC dX12_hollow_16 (v := (1 : Int32)) (by decide) ?_
    refine g_aload_n hC dX12_hollow_17 rfl (q := 0) rfl ?_
    refine g_iload_n hC dX12_hollow_18 rfl (q := 1) rfl ?_
    obtain ⟨r19, h19, h⟩ := oB_some h
    refine g_cV1 hC cv_X12_mayBe wd_2042 ⟨Nat.le_of_ble_eq_true rfl, Nat.le_of_ble_eq_true rfl⟩ rfl (by decide) dX12_hollow_19 (As := [.int v1]) (st := [.int (1 : Int32), .int v2]) (ok_X12_mayBe hC.2.2.2.2.2.2.2.1 hW h19) rfl rfl (Nat.le_of_ble_eq_true rfl) ⟨Nat.zero_le _, Nat.zero_le _⟩ ?_
    obtain ⟨r22, h22, h⟩ := oB_some h
    refine g_cS1 hC cs_X12_within wd_1915 ⟨Nat.le_of_ble_eq_true rfl, Nat.le_of_ble_eq_true rfl⟩ dX12_hollow_22 (As := [.int v2, .int (1 : Int32), .int r19]) (st := []) (ok_X12_within hC.2.2.2.2.2.2.2.1 hW h22) rfl rfl (Nat.le_of_ble_eq_true rfl) ⟨Nat.zero_le _, Nat.zero_le _⟩ ?_
    refine g_if_ne hC dX12_hollow_25 (tgt := 34) (by decide) (fun c25 => ?_) (fun c25 => ?_)
    · replace h := (if_neg c25).symm.trans h
      refine g_aload_n hC dX12_hollow_34 rfl (q := 0) rfl ?_
      obtain ⟨r35, h35, h⟩ := oB_some h
      refine g_cV0 hC cv_X12_keeps wd_2066 ⟨Nat.le_of_ble_eq_true rfl, Nat.le_of_ble_eq_true rfl⟩ rfl (by decide) dX12_hollow_35 (As := []) (st := []) (ok_X12_keeps hC.2.2.2.2.2.2.2.1 hW h35) rfl rfl (Nat.le_of_ble_eq_true rfl) ⟨Nat.zero_le _, Nat.zero_le _⟩ ?_
      refine g_aload_n hC dX12_hollow_38 rfl (q := 0) rfl ?_
      refine g_getr hC fd_RX12_63 rfl (by decide) (C0 := "") (t0 := _) (Or.inr rfl) (rr_75_42 hW.1) dX12_hollow_39 ?_
      refine g_bipush hC dX12_hollow_42 (v := (11 : Int32)) (by decide) ?_
      refine g_iload_n hC dX12_hollow_44 rfl (q := 1) rfl ?_
      refine g_iadd hC dX12_hollow_45 ?_
      refine g_dup2 hC dX12_hollow_46 rfl rfl ?_
      obtain ⟨g47, h⟩ := oG_some h
      refine g_iald hC rfl (by decide) (inB_in g47) dX12_hollow_47 ?_
      refine g_iload_n hC dX12_hollow_48 rfl (q := 2) rfl ?_
      refine g_iadd hC dX12_hollow_49 ?_
      obtain ⟨g50, h⟩ := oG_some h
      refine g_iast hC rfl (by decide) (inB_in g50) dX12_hollow_50 (nm_e ?_)
      refine g_aload_n hC dX12_hollow_51 rfl (q := 0) rfl ?_
      refine g_iconst hC dX12_hollow_52 (v := (0 : Int32)) (by decide) ?_
      refine g_iload_n hC dX12_hollow_53 rfl (q := 1) rfl ?_
      obtain ⟨r54, h54, h⟩ := oB_some h
      refine g_cV1 hC cv_X12_noteOf wd_2012 ⟨Nat.le_of_ble_eq_true rfl, Nat.le_of_ble_eq_true rfl⟩ rfl (by decide) dX12_hollow_54 (As := [.int (0 : Int32), .int v1]) (st := []) (ok_X12_noteOf hC.2.2.2.2.2.2.2.1 hW h54) rfl rfl (Nat.le_of_ble_eq_true rfl) ⟨Nat.zero_le _, Nat.zero_le _⟩ ?_
      cases h
      exact g_iret hC hE rfl dX12_hollow_57 (Nat.zero_le _) (Nat.zero_le _) ⟨rfl, rfl, rfl, rfl, rfl, rfl⟩
    · replace h := (if_pos c25).symm.trans h
      refine g_aload_n hC dX12_hollow_28 rfl (q := 0) rfl ?_
      refine g_iconst hC dX12_hollow_29 (v := (1 : Int32)) (by decide) ?_
      obtain ⟨r30, h30, h⟩ := oB_some h
      refine g_cV1 hC cv_X12_refuses wd_2062 ⟨Nat.le_of_ble_eq_true rfl, Nat.le_of_ble_eq_true rfl⟩ rfl (by decide) dX12_hollow_30 (As := [.int (1 : Int32)]) (st := []) (ok_X12_refuses hC.2.2.2.2.2.2.2.1 hW h30) rfl rfl (Nat.le_of_ble_eq_true rfl) ⟨Nat.zero_le _, Nat.zero_le _⟩ ?_
      cases h
      exact g_iret hC hE rfl dX12_hollow_33 (Nat.zero_le _) (Nat.zero_le _) ⟨rfl, rfl, rfl, rfl, rfl, rfl⟩
  · replace h := (if_pos c10).symm.trans h
    refine g_iconst hC dX12_hollow_13 (v := (0 : Int32)) (by decide) ?_
    cases h
    exact g_iret hC hE rfl dX12_hollow_14 (Nat.zero_le _) (Nat.zero_le _) ⟨rfl, rfl, rfl, rfl, rfl, rfl⟩
noncomputable def b_X12_hook_18 (Fu : Nat) (k18_ : Int32 × Int32 × mIT → Option (Int32 × mIT)) (v1 : Int32) (v2 : Int32) (I : mIT) : Option (Int32 × mIT) :=
  if (I 75 1) ≤ v2 then (some ((-1 : Int32), I)) else (oG (inB ((31 : Int32) + v2) 106) (if (I 89 (((31 : Int32) + v2)).toNatClampNeg) = v1 then (some (v2, I)) else (k18_ (v1, (v2 + (1 : Int32)), I))))
set_option maxRecDepth 20000 in
theorem bo_X12_hook_18 {X : mXT} {E : mEn} {Fu : Nat} {R : mRT} {L : mLT}  (hC : mC X E mX12_hook RX12 cX12_hook) (hW : mWd R)   {out : Int32 × mIT} (hE : mEd X E 0 0 (mSame (some (.int (out.1))) 106 1 (out.2) R L)) (k18_ : Int32 × Int32 × mIT → Option (Int32 × mIT)) (hk18_ : ∀ (v1 : Int32) (v2 : Int32) (I : mIT),  k18_ (v1, v2, I) = some out → mG X E 18 [(0, .ref (mB E + 75)), (1, .int v1), (2, .int v2)] [] 106 1 I R L 0 0) (v1 : Int32) (v2 : Int32) (I : mIT) (h : b_X12_hook_18 Fu k18_ v1 v2 I = some out) : mG X E 18 [(0, .ref (mB E + 75)), (1, .int v1), (2, .int v2)] [] 106 1 I R L 0 0 := by
  unfold b_X12_hook_18 at h
  refine g_iload_n hC dX12_hook_18 rfl (q := 2) rfl ?_
  refine g_aload_n hC dX12_hook_19 rfl (q := 0) rfl ?_
  refine g_geti hC fd_RX12_289 rfl (by decide) (Or.inl rfl) dX12_hook_20 ?_
  refine g_ic_ge hC dX12_hook_23 (tgt := 47) (by decide) (fun c23 => ?_) (fun c23 => ?_)
  · replace h := (if_pos c23).symm.trans h
    refine g_iconst hC dX12_hook_47 (v := (-1 : Int32)) (by decide) ?_
    cases h
    exact g_iret hC hE rfl dX12_hook_48 (Nat.zero_le _) (Nat.zero_le _) ⟨rfl, rfl, rfl, rfl, rfl, rfl⟩
  · replace h := (if_neg c23).symm.trans h
    refine g_aload_n hC dX12_hook_26 rfl (q := 0) rfl ?_
    refine g_getr hC fd_RX12_63 rfl (by decide) (C0 := "") (t0 := _) (Or.inr rfl) (rr_75_42 hW.1) dX12_hook_27 ?_
    refine g_bipush hC dX12_hook_30 (v := (31 : Int32)) (by decide) ?_
    refine g_iload_n hC dX12_hook_32 rfl (q := 2) rfl ?_
    refine g_iadd hC dX12_hook_33 ?_
    obtain ⟨g34, h⟩ := oG_some h
    refine g_iald hC rfl (by decide) (inB_in g34) dX12_hook_34 ?_
    refine g_iload_n hC dX12_hook_35 rfl (q := 1) rfl ?_
    refine g_ic_ne hC dX12_hook_36 (tgt := 41) (by decide) (fun c36 => ?_) (fun c36 => ?_)
    · replace h := (if_neg c36).symm.trans h
      refine g_iinc hC dX12_hook_41 rfl (q := 2) rfl (w := (v2 + (1 : Int32))) rfl (by decide) (lv' := [(2, .int (v2 + (1 : Int32))), (0, .ref (mB E + 75)), (1, .int v1)]) rfl ?_
      refine g_goto hC dX12_hook_44 (tgt := 18) (by decide) ?_
      refine g_lv [1, 2, 0] rfl ?_
      exact hk18_ v1 (v2 + (1 : Int32)) I h
    · replace h := (if_pos c36).symm.trans h
      refine g_iload_n hC dX12_hook_39 rfl (q := 2) rfl ?_
      cases h
      exact g_iret hC hE rfl dX12_hook_40 (Nat.zero_le _) (Nat.zero_le _) ⟨rfl, rfl, rfl, rfl, rfl, rfl⟩
noncomputable def w_X12_hook_18 (Fu : Nat)  (N : Nat) (v1 : Int32) (v2 : Int32) (I : mIT) : Option (Int32 × mIT) :=
  loopF (fun self (s : Int32 × Int32 × mIT) => b_X12_hook_18 Fu self s.1 s.2.1 s.2.2) N (v1, v2, I)
theorem wo_X12_hook_18 {X : mXT} {E : mEn} {Fu : Nat} {R : mRT} {L : mLT}  (hC : mC X E mX12_hook RX12 cX12_hook) (hW : mWd R)   {out : Int32 × mIT} (hE : mEd X E 0 0 (mSame (some (.int (out.1))) 106 1 (out.2) R L))  (N : Nat) (v1 : Int32) (v2 : Int32) (I : mIT) (h : w_X12_hook_18 Fu  N v1 v2 I = some out) : mG X E 18 [(0, .ref (mB E + 75)), (1, .int v1), (2, .int v2)] [] 106 1 I R L 0 0 :=
  loopF_ok (Gd := fun s : Int32 × Int32 × mIT => mG X E 18 [(0, .ref (mB E + 75)), (1, .int s.1), (2, .int s.2.1)] [] 106 1 s.2.2 R L 0 0) (fun self hs s h => bo_X12_hook_18 hC hW hE self (fun v1 v2 I h => hs (v1, v2, I) h) s.1 s.2.1 s.2.2 h) N (v1, v2, I) h
noncomputable def f_X12_hook (Fu : Nat) (I : mIT) (v1 : Int32) : Option (Int32 × mIT) :=
  oB (f_X12_isWhat Fu (mU I 75 0 (0 : Int32)) v1 (5 : Int32)) (fun r8 => if r8.1 = 0 then (some ((0 : Int32), r8.2)) else (w_X12_hook_18 Fu Fu v1 (0 : Int32) r8.2))
set_option maxRecDepth 20000 in
theorem ok_X12_hook {l : Launch} {E : mEn} {Fu : Nat} {I : mIT} {R : mRT} {L : mLT} {v1 : Int32} (hst : l.stackTraces = false) (hW : mWd R)  {out : Int32 × mIT} (h : f_X12_hook Fu I v1 = some out) : mOk l E mX12_hook [.ref (mB E + 75), .int v1] 106 1 I R L 0 0 (mSame (some (.int (out.1))) 106 1 (out.2) R L) := by
  refine mOk_of hst (by decide) (Nat.le_of_ble_eq_true rfl) (fun X hC hE _ => ?_)
  have hC : mC X E mX12_hook RX12 cX12_hook := hC
  show mG X E 0 [(0, .ref (mB E + 75)), (1, .int v1)] [] 106 1 I R L 0 0
  unfold f_X12_hook at h
  refine g_aload_n hC dX12_hook_0 rfl (q := 0) rfl ?_
  refine g_iconst hC dX12_hook_1 (v := (0 : Int32)) (by decide) ?_
  refine g_puti hC fd_RX12_114 rfl (by decide) rfl dX12_hook_2 (nm_e ?_)
  refine g_aload_n hC dX12_hook_5 rfl (q := 0) rfl ?_
  refine g_iload_n hC dX12_hook_6 rfl (q := 1) rfl ?_
  refine g_iconst hC dX12_hook_7 (v := (5 : Int32)) (by decide) ?_
  obtain ⟨r8, h8, h⟩ := oB_some h
  refine g_cV1 hC cv_X12_isWhat wd_2038 ⟨Nat.le_of_ble_eq_true rfl, Nat.le_of_ble_eq_true rfl⟩ rfl (by decide) dX12_hook_8 (As := [.int v1, .int (5 : Int32)]) (st := []) (ok_X12_isWhat hC.2.2.2.2.2.2.2.1 hW h8) rfl rfl (Nat.le_of_ble_eq_true rfl) ⟨Nat.zero_le _, Nat.zero_le _⟩ ?_
  refine g_if_ne hC dX12_hook_11 (tgt := 16) (by decide) (fun c11 => ?_) (fun c11 => ?_)
  · replace h := (if_neg c11).symm.trans h
    refine g_iconst hC dX12_hook_16 (v := (0 : Int32)) (by decide) ?_
    refine g_istore_n hC dX12_hook_17 rfl rfl (by decide) (lv' := [(2, .int (0 : Int32)), (0, .ref (mB E + 75)), (1, .int v1)]) rfl ?_
    refine g_lv [1, 2, 0] rfl ?_
    exact wo_X12_hook_18 hC hW hE Fu (v1) ((0 : Int32)) (r8.2) h
  · replace h := (if_pos c11).symm.trans h
    refine g_iconst hC dX12_hook_14 (v := (0 : Int32)) (by decide) ?_
    cases h
    exact g_iret hC hE rfl dX12_hook_15 (Nat.zero_le _) (Nat.zero_le _) ⟨rfl, rfl, rfl, rfl, rfl, rfl⟩
noncomputable def b_X12_image_28 (Fu : Nat) (k28_ : Int32 × mIT → Option (mIT)) (v1 : Int32) (I : mIT) : Option (mIT) :=
  if (53 : Int32) ≤ v1 then (oB (f_X12_copies Fu I 90 103) (fun r61 => oB (f_X12_copies Fu r61 99 104) (fun r73 => some (r73)))) else (oG (inB v1 106) (oG (inB v1 53) (k28_ ((v1 + (1 : Int32)), (mU I 102 (v1).toNatClampNeg (I 89 (v1).toNatClampNeg))))))
set_option maxRecDepth 20000 in
theorem bo_X12_image_28 {X : mXT} {E : mEn} {Fu : Nat} {R : mRT} {L : mLT}  (hC : mC X E mX12_image RX12 cX12_image) (hW : mWd R)   {out : mIT} (hE : mEd X E 0 0 (mSame none 106 1 (out) R L)) (k28_ : Int32 × mIT → Option (mIT)) (hk28_ : ∀ (v1 : Int32) (I : mIT),  k28_ (v1, I) = some out → mG X E 28 [(0, .ref (mB E + 75)), (1, .int v1)] [] 106 1 I R L 0 0) (v1 : Int32) (I : mIT) (h : b_X12_image_28 Fu k28_ v1 I = some out) : mG X E 28 [(0, .ref (mB E + 75)), (1, .int v1)] [] 106 1 I R L 0 0 := by
  unfold b_X12_image_28 at h
  refine g_iload_n hC dX12_image_28 rfl (q := 1) rfl ?_
  refine g_bipush hC dX12_image_29 (v := (53 : Int32)) (by decide) ?_
  refine g_ic_ge hC dX12_image_31 (tgt := 52) (by decide) (fun c31 => ?_) (fun c31 => ?_)
  · replace h := (if_pos c31).symm.trans h
    refine g_aload_n hC dX12_image_52 rfl (q := 0) rfl ?_
    refine g_aload_n hC dX12_image_53 rfl (q := 0) rfl ?_
    refine g_getr hC fd_RX12_66 rfl (by decide) (C0 := "") (t0 := _) (Or.inr rfl) (rr_75_43 hW.1) dX12_image_54 ?_
    refine g_aload_n hC dX12_image_57 rfl (q := 0) rfl ?_
    refine g_getr hC fd_RX12_108 rfl (by decide) (C0 := "") (t0 := _) (Or.inr rfl) (rr_75_64 hW.1) dX12_image_58 ?_
    obtain ⟨r61, h61, h⟩ := oB_some h
    refine g_cV0 hC cv_X12_copies wd_1968 ⟨Nat.le_of_ble_eq_true rfl, Nat.le_of_ble_eq_true rfl⟩ rfl (by decide) dX12_image_61 (As := [.ref (mB E + 90), .ref (mB E + 103)]) (st := []) (ok_X12_copies hC.2.2.2.2.2.2.2.1 hW ⟨rfl, (by decide)⟩ ⟨rfl, (by decide)⟩ h61) rfl rfl (Nat.le_of_ble_eq_true rfl) ⟨Nat.zero_le _, Nat.zero_le _⟩ ?_
    refine g_aload_n hC dX12_image_64 rfl (q := 0) rfl ?_
    refine g_aload_n hC dX12_image_65 rfl (q := 0) rfl ?_
    refine g_getr hC fd_RX12_96 rfl (by decide) (C0 := "") (t0 := _) (Or.inr rfl) (rr_75_56 hW.1) dX12_image_66 ?_
    refine g_aload_n hC dX12_image_69 rfl (q := 0) rfl ?_
    refine g_getr hC fd_RX12_111 rfl (by decide) (C0 := "") (t0 := _) (Or.inr rfl) (rr_75_65 hW.1) dX12_image_70 ?_
    obtain ⟨r73, h73, h⟩ := oB_some h
    refine g_cV0 hC cv_X12_copies wd_1968 ⟨Nat.le_of_ble_eq_true rfl, Nat.le_of_ble_eq_true rfl⟩ rfl (by decide) dX12_image_73 (As := [.ref (mB E + 99), .ref (mB E + 104)]) (st := []) (ok_X12_copies hC.2.2.2.2.2.2.2.1 hW ⟨rfl, (by decide)⟩ ⟨rfl, (by decide)⟩ h73) rfl rfl (Nat.le_of_ble_eq_true rfl) ⟨Nat.zero_le _, Nat.zero_le _⟩ ?_
    cases h
    exact g_vret hC hE rfl dX12_image_76 (Nat.zero_le _) (Nat.zero_le _) ⟨rfl, rfl, rfl, rfl, rfl, rfl⟩
  · replace h := (if_neg c31).symm.trans h
    refine g_aload_n hC dX12_image_34 rfl (q := 0) rfl ?_
    refine g_getr hC fd_RX12_105 rfl (by decide) (C0 := "") (t0 := _) (Or.inr rfl) (rr_75_63 hW.1) dX12_image_35 ?_
    refine g_iload_n hC dX12_image_38 rfl (q := 1) rfl ?_
    refine g_aload_n hC dX12_image_39 rfl (q := 0) rfl ?_
    refine g_getr hC fd_RX12_63 rfl (by decide) (C0 := "") (t0 := _) (Or.inr rfl) (rr_75_42 hW.1) dX12_image_40 ?_
    refine g_iload_n hC dX12_image_43 rfl (q := 1) rfl ?_
    obtain ⟨g44, h⟩ := oG_some h
    refine g_iald hC rfl (by decide) (inB_in g44) dX12_image_44 ?_
    obtain ⟨g45, h⟩ := oG_some h
    refine g_iast hC rfl (by decide) (inB_in g45) dX12_image_45 (nm_e ?_)
    refine g_iinc hC dX12_image_46 rfl (q := 1) rfl (w := (v1 + (1 : Int32))) rfl (by decide) (lv' := [(1, .int (v1 + (1 : Int32))), (0, .ref (mB E + 75))]) rfl ?_
    refine g_goto hC dX12_image_49 (tgt := 28) (by decide) ?_
    refine g_lv [1, 0] rfl ?_
    exact hk28_ (v1 + (1 : Int32)) (mU I 102 (v1).toNatClampNeg (I 89 (v1).toNatClampNeg)) h
noncomputable def w_X12_image_28 (Fu : Nat)  (N : Nat) (v1 : Int32) (I : mIT) : Option (mIT) :=
  loopF (fun self (s : Int32 × mIT) => b_X12_image_28 Fu self s.1 s.2) N (v1, I)
theorem wo_X12_image_28 {X : mXT} {E : mEn} {Fu : Nat} {R : mRT} {L : mLT}  (hC : mC X E mX12_image RX12 cX12_image) (hW : mWd R)   {out : mIT} (hE : mEd X E 0 0 (mSame none 106 1 (out) R L))  (N : Nat) (v1 : Int32) (I : mIT) (h : w_X12_image_28 Fu  N v1 I = some out) : mG X E 28 [(0, .ref (mB E + 75)), (1, .int v1)] [] 106 1 I R L 0 0 :=
  loopF_ok (Gd := fun s : Int32 × mIT => mG X E 28 [(0, .ref (mB E + 75)), (1, .int s.1)] [] 106 1 s.2 R L 0 0) (fun self hs s h => bo_X12_image_28 hC hW hE self (fun v1 I h => hs (v1, I) h) s.1 s.2 h) N (v1, I) h
noncomputable def f_X12_image (Fu : Nat) (I : mIT)  : Option (mIT) :=
  w_X12_image_28 Fu Fu (0 : Int32) (mU (mU (mU (mU I 75 0 (0 : Int32)) 75 60 (1 : Int32)) 75 61 ((mU (mU I 75 0 (0 : Int32)) 75 60 (1 : Int32)) 75 44)) 75 62 ((mU (mU (mU I 75 0 (0 : Int32)) 75 60 (1 : Int32)) 75 61 ((mU (mU I 75 0 (0 : Int32)) 75 60 (1 : Int32)) 75 44)) 75 55))
set_option maxRecDepth 20000 in
theorem ok_X12_image {l : Launch} {E : mEn} {Fu : Nat} {I : mIT} {R : mRT} {L : mLT}  (hst : l.stackTraces = false) (hW : mWd R)  {out : mIT} (h : f_X12_image Fu I  = some out) : mOk l E mX12_image [.ref (mB E + 75)] 106 1 I R L 0 0 (mSame none 106 1 (out) R L) := by
  refine mOk_of hst (by decide) (Nat.le_of_ble_eq_true rfl) (fun X hC hE _ => ?_)
  have hC : mC X E mX12_image RX12 cX12_image := hC
  show mG X E 0 [(0, .ref (mB E + 75))] [] 106 1 I R L 0 0
  unfold f_X12_image at h
  refine g_aload_n hC dX12_image_0 rfl (q := 0) rfl ?_
  refine g_iconst hC dX12_image_1 (v := (0 : Int32)) (by decide) ?_
  refine g_puti hC fd_RX12_114 rfl (by decide) rfl dX12_image_2 (nm_e ?_)
  refine g_aload_n hC dX12_image_5 rfl (q := 0) rfl ?_
  refine g_iconst hC dX12_image_6 (v := (1 : Int32)) (by decide) ?_
  refine g_putz hC (by decide) fd_RX12_311 rfl (by decide) rfl dX12_image_7 (nm_e ?_)
  refine g_aload_n hC dX12_image_10 rfl (q := 0) rfl ?_
  refine g_aload_n hC dX12_image_11 rfl (q := 0) rfl ?_
  refine g_geti hC fd_RX12_305 rfl (by decide) (Or.inl rfl) dX12_image_12 ?_
  refine g_puti hC fd_RX12_458 rfl (by decide) rfl dX12_image_15 (nm_e ?_)
  refine g_aload_n hC dX12_image_18 rfl (q := 0) rfl ?_
  refine g_aload_n hC dX12_image_19 rfl (q := 0) rfl ?_
  refine g_geti hC fd_RX12_308 rfl (by decide) (Or.inl rfl) dX12_image_20 ?_
  refine g_puti hC fd_RX12_461 rfl (by decide) rfl dX12_image_23 (nm_e ?_)
  refine g_iconst hC dX12_image_26 (v := (0 : Int32)) (by decide) ?_
  refine g_istore_n hC dX12_image_27 rfl rfl (by decide) (lv' := [(1, .int (0 : Int32)), (0, .ref (mB E + 75))]) rfl ?_
  refine g_lv [1, 0] rfl ?_
  exact wo_X12_image_28 hC hW hE Fu ((0 : Int32)) ((mU (mU (mU (mU I 75 0 (0 : Int32)) 75 60 (1 : Int32)) 75 61 ((mU (mU I 75 0 (0 : Int32)) 75 60 (1 : Int32)) 75 44)) 75 62 ((mU (mU (mU I 75 0 (0 : Int32)) 75 60 (1 : Int32)) 75 61 ((mU (mU I 75 0 (0 : Int32)) 75 60 (1 : Int32)) 75 44)) 75 55))) h
noncomputable def f_X12_isDays (Fu : Nat) (I : mIT) (v1 : Int32) (v2 : Int32) : Option (Int32 × mIT) :=
  oB (f_X12_within Fu v1 (0 : Int32) (60 : Int32)) (fun r5 => oB (f_X12_right Fu I r5 v2) (fun r9 => oG (isB r9.1) (some (r9.1, r9.2))))
set_option maxRecDepth 20000 in
theorem ok_X12_isDays {l : Launch} {E : mEn} {Fu : Nat} {I : mIT} {R : mRT} {L : mLT} {v1 : Int32} {v2 : Int32} (hst : l.stackTraces = false) (hW : mWd R)  {out : Int32 × mIT} (h : f_X12_isDays Fu I v1 v2 = some out) : mOk l E mX12_isDays [.ref (mB E + 75), .int v1, .int v2] 106 1 I R L 0 0 (mSame (some (.int (out.1))) 106 1 (out.2) R L) := by
  refine mOk_of hst (by decide) (Nat.le_of_ble_eq_true rfl) (fun X hC hE _ => ?_)
  have hC : mC X E mX12_isDays RX12 cX12_isDays := hC
  show mG X E 0 [(0, .ref (mB E + 75)), (1, .int v1), (2, .int v2)] [] 106 1 I R L 0 0
  unfold f_X12_isDays at h
  refine g_aload_n hC dX12_isDays_0 rfl (q := 0) rfl ?_
  refine g_iload_n hC dX12_isDays_1 rfl (q := 1) rfl ?_
  refine g_iconst hC dX12_isDays_2 (v := (0 : Int32)) (by decide) ?_
  refine g_bipush hC dX12_isDays_3 (v := (60 : Int32)) (by decide) ?_
  obtain ⟨r5, h5, h⟩ := oB_some h
  refine g_cS1 hC cs_X12_within wd_1915 ⟨Nat.le_of_ble_eq_true rfl, Nat.le_of_ble_eq_true rfl⟩ dX12_isDays_5 (As := [.int v1, .int (0 : Int32), .int (60 : Int32)]) (st := [.ref (mB E + 75)]) (ok_X12_within hC.2.2.2.2.2.2.2.1 hW h5) rfl rfl (Nat.le_of_ble_eq_true rfl) ⟨Nat.zero_le _, Nat.zero_le _⟩ ?_
  refine g_iload_n hC dX12_isDays_8 rfl (q := 2) rfl ?_
  obtain ⟨r9, h9, h⟩ := oB_some h
  refine g_cV1 hC cv_X12_right wd_1851 ⟨Nat.le_of_ble_eq_true rfl, Nat.le_of_ble_eq_true rfl⟩ rfl (by decide) dX12_isDays_9 (As := [.int r5, .int v2]) (st := []) (ok_X12_right hC.2.2.2.2.2.2.2.1 hW h9) rfl rfl (Nat.le_of_ble_eq_true rfl) ⟨Nat.zero_le _, Nat.zero_le _⟩ ?_
  obtain ⟨g12, h⟩ := oG_some h
  cases h
  exact g_zret hC (isB_or g12) hE rfl dX12_isDays_12 (Nat.zero_le _) (Nat.zero_le _) ⟨rfl, rfl, rfl, rfl, rfl, rfl⟩
noncomputable def b_X12_rowNumber_4 (Fu : Nat) (I : mIT) (k4_ : Int32 × Int32 × Int32 → Option (Int32)) (v1 : Int32) (v2 : Int32) (v3 : Int32) : Option (Int32) :=
  if v1 ≤ v3 then (some (v2)) else (oG (inB v3 6) (k4_ (v1, (((10 : Int32) * v2) + (I 95 (v3).toNatClampNeg)), (v3 + (1 : Int32)))))
set_option maxRecDepth 20000 in
theorem bo_X12_rowNumber_4 {X : mXT} {E : mEn} {Fu : Nat} {I : mIT} {R : mRT} {L : mLT}  (hC : mC X E mX12_rowNumber RX12 cX12_rowNumber) (hW : mWd R)   {out : Int32} (hE : mEd X E 0 0 (mSame (some (.int (out))) 106 1 I R L)) (k4_ : Int32 × Int32 × Int32 → Option (Int32)) (hk4_ : ∀ (v1 : Int32) (v2 : Int32) (v3 : Int32),  k4_ (v1, v2, v3) = some out → mG X E 4 [(0, .ref (mB E + 75)), (1, .int v1), (2, .int v2), (3, .int v3)] [] 106 1 I R L 0 0) (v1 : Int32) (v2 : Int32) (v3 : Int32) (h : b_X12_rowNumber_4 Fu I k4_ v1 v2 v3 = some out) : mG X E 4 [(0, .ref (mB E + 75)), (1, .int v1), (2, .int v2), (3, .int v3)] [] 106 1 I R L 0 0 := by
  unfold b_X12_rowNumber_4 at h
  refine g_iload_n hC dX12_rowNumber_4 rfl (q := 3) rfl ?_
  refine g_iload_n hC dX12_rowNumber_5 rfl (q := 1) rfl ?_
  refine g_ic_ge hC dX12_rowNumber_6 (tgt := 27) (by decide) (fun c6 => ?_) (fun c6 => ?_)
  · replace h := (if_pos c6).symm.trans h
    refine g_iload_n hC dX12_rowNumber_27 rfl (q := 2) rfl ?_
    cases h
    exact g_iret hC hE rfl dX12_rowNumber_28 (Nat.zero_le _) (Nat.zero_le _) ⟨rfl, rfl, rfl, rfl, rfl, rfl⟩
  · replace h := (if_neg c6).symm.trans h
    refine g_bipush hC dX12_rowNumber_9 (v := (10 : Int32)) (by decide) ?_
    refine g_iload_n hC dX12_rowNumber_11 rfl (q := 2) rfl ?_
    refine g_imul hC dX12_rowNumber_12 ?_
    refine g_aload_n hC dX12_rowNumber_13 rfl (q := 0) rfl ?_
    refine g_getr hC fd_RX12_84 rfl (by decide) (C0 := "") (t0 := _) (Or.inr rfl) (rr_75_50 hW.1) dX12_rowNumber_14 ?_
    refine g_iload_n hC dX12_rowNumber_17 rfl (q := 3) rfl ?_
    obtain ⟨g18, h⟩ := oG_some h
    refine g_iald hC rfl (by decide) (inB_in g18) dX12_rowNumber_18 ?_
    refine g_iadd hC dX12_rowNumber_19 ?_
    refine g_istore_n hC dX12_rowNumber_20 rfl rfl (by decide) (lv' := [(2, .int (((10 : Int32) * v2) + (I 95 (v3).toNatClampNeg))), (0, .ref (mB E + 75)), (1, .int v1), (3, .int v3)]) rfl ?_
    refine g_iinc hC dX12_rowNumber_21 rfl (q := 3) rfl (w := (v3 + (1 : Int32))) rfl (by decide) (lv' := [(3, .int (v3 + (1 : Int32))), (2, .int (((10 : Int32) * v2) + (I 95 (v3).toNatClampNeg))), (0, .ref (mB E + 75)), (1, .int v1)]) rfl ?_
    refine g_goto hC dX12_rowNumber_24 (tgt := 4) (by decide) ?_
    refine g_lv [2, 3, 1, 0] rfl ?_
    exact hk4_ v1 (((10 : Int32) * v2) + (I 95 (v3).toNatClampNeg)) (v3 + (1 : Int32)) h
noncomputable def w_X12_rowNumber_4 (Fu : Nat) (I : mIT)  (N : Nat) (v1 : Int32) (v2 : Int32) (v3 : Int32) : Option (Int32) :=
  loopF (fun self (s : Int32 × Int32 × Int32) => b_X12_rowNumber_4 Fu I self s.1 s.2.1 s.2.2) N (v1, v2, v3)
theorem wo_X12_rowNumber_4 {X : mXT} {E : mEn} {Fu : Nat} {I : mIT} {R : mRT} {L : mLT}  (hC : mC X E mX12_rowNumber RX12 cX12_rowNumber) (hW : mWd R)   {out : Int32} (hE : mEd X E 0 0 (mSame (some (.int (out))) 106 1 I R L))  (N : Nat) (v1 : Int32) (v2 : Int32) (v3 : Int32) (h : w_X12_rowNumber_4 Fu I  N v1 v2 v3 = some out) : mG X E 4 [(0, .ref (mB E + 75)), (1, .int v1), (2, .int v2), (3, .int v3)] [] 106 1 I R L 0 0 :=
  loopF_ok (Gd := fun s : Int32 × Int32 × Int32 => mG X E 4 [(0, .ref (mB E + 75)), (1, .int s.1), (2, .int s.2.1), (3, .int s.2.2)] [] 106 1 I R L 0 0) (fun self hs s h => bo_X12_rowNumber_4 hC hW hE self (fun v1 v2 v3 h => hs (v1, v2, v3) h) s.1 s.2.1 s.2.2 h) N (v1, v2, v3) h
noncomputable def f_X12_rowNumber (Fu : Nat) (I : mIT) (v1 : Int32) : Option (Int32) :=
  w_X12_rowNumber_4 Fu I Fu v1 (0 : Int32) (0 : Int32)
set_option maxRecDepth 20000 in
theorem ok_X12_rowNumber {l : Launch} {E : mEn} {Fu : Nat} {I : mIT} {R : mRT} {L : mLT} {v1 : Int32} (hst : l.stackTraces = false) (hW : mWd R)  {out : Int32} (h : f_X12_rowNumber Fu I v1 = some out) : mOk l E mX12_rowNumber [.ref (mB E + 75), .int v1] 106 1 I R L 0 0 (mSame (some (.int (out))) 106 1 I R L) := by
  refine mOk_of hst (by decide) (Nat.le_of_ble_eq_true rfl) (fun X hC hE _ => ?_)
  have hC : mC X E mX12_rowNumber RX12 cX12_rowNumber := hC
  show mG X E 0 [(0, .ref (mB E + 75)), (1, .int v1)] [] 106 1 I R L 0 0
  unfold f_X12_rowNumber at h
  refine g_iconst hC dX12_rowNumber_0 (v := (0 : Int32)) (by decide) ?_
  refine g_istore_n hC dX12_rowNumber_1 rfl rfl (by decide) (lv' := [(2, .int (0 : Int32)), (0, .ref (mB E + 75)), (1, .int v1)]) rfl ?_
  refine g_iconst hC dX12_rowNumber_2 (v := (0 : Int32)) (by decide) ?_
  refine g_istore_n hC dX12_rowNumber_3 rfl rfl (by decide) (lv' := [(3, .int (0 : Int32)), (2, .int (0 : Int32)), (0, .ref (mB E + 75)), (1, .int v1)]) rfl ?_
  refine g_lv [2, 3, 1, 0] rfl ?_
  exact wo_X12_rowNumber_4 hC hW hE Fu (v1) ((0 : Int32)) ((0 : Int32)) h
noncomputable def b_X12_lengthNow_77 (Fu : Nat) (k27_ : Int32 × Int32 × Int32 × Int32 × mIT → Option (Int32 × mIT)) (k77_ : Int32 × Int32 × Int32 × Int32 × Int32 × Int32 × mIT → Option (Int32 × mIT)) (v1 : Int32) (v2 : Int32) (v3 : Int32) (v4 : Int32) (v5 : Int32) (v6 : Int32) (I : mIT) : Option (Int32 × mIT) :=
  if v3 ≤ v6 then (oG (inB v3 1000) (k27_ (v1, v2, v3, v4, (mU I 96 (v3).toNatClampNeg v5)))) else (if v4 = 0 then (oG (inB v3 1000) (k27_ (v1, v2, v3, v4, (mU I 96 (v3).toNatClampNeg v5)))) else (if (I 75 52) = 0 then (oG (inB v6 1000) (if (I 96 (v6).toNatClampNeg) = v5 then (k77_ (v1, v2, v3, v4, v5, (v6 + (1 : Int32)), (mU I 75 52 (1 : Int32)))) else (k77_ (v1, v2, v3, v4, v5, (v6 + (1 : Int32)), (mU I 75 52 (0 : Int32)))))) else (k77_ (v1, v2, v3, v4, v5, (v6 + (1 : Int32)), (mU I 75 52 (1 : Int32))))))
set_option maxRecDepth 20000 in
theorem bo_X12_lengthNow_77 {X : mXT} {E : mEn} {Fu : Nat} {R : mRT} {L : mLT}  (hC : mC X E mX12_lengthNow RX12 cX12_lengthNow) (hW : mWd R)   {out : Int32 × mIT} (hE : mEd X E 0 0 (mSame (some (.int (out.1))) 106 1 (out.2) R L)) (k27_ : Int32 × Int32 × Int32 × Int32 × mIT → Option (Int32 × mIT)) (hk27_ : ∀ (v1 : Int32) (v2 : Int32) (v3 : Int32) (v4 : Int32) (I : mIT),  k27_ (v1, v2, v3, v4, I) = some out → mG X E 27 [(0, .ref (mB E + 75)), (1, .int v1), (2, .int v2), (3, .int v3), (4, .int v4)] [] 106 1 I R L 0 0) (k77_ : Int32 × Int32 × Int32 × Int32 × Int32 × Int32 × mIT → Option (Int32 × mIT)) (hk77_ : ∀ (v1 : Int32) (v2 : Int32) (v3 : Int32) (v4 : Int32) (v5 : Int32) (v6 : Int32) (I : mIT),  k77_ (v1, v2, v3, v4, v5, v6, I) = some out → mG X E 77 [(0, .ref (mB E + 75)), (1, .int v1), (2, .int v2), (3, .int v3), (4, .int v4), (5, .int v5), (6, .int v6)] [] 106 1 I R L 0 0) (v1 : Int32) (v2 : Int32) (v3 : Int32) (v4 : Int32) (v5 : Int32) (v6 : Int32) (I : mIT) (h : b_X12_lengthNow_77 Fu k27_ k77_ v1 v2 v3 v4 v5 v6 I = some out) : mG X E 77 [(0, .ref (mB E + 75)), (1, .int v1), (2, .int v2), (3, .int v3), (4, .int v4), (5, .int v5), (6, .int v6)] [] 106 1 I R L 0 0 := by
  unfold b_X12_lengthNow_77 at h
  refine g_iload hC dX12_lengthNow_77 (q := 6) rfl ?_
  refine g_iload_n hC dX12_lengthNow_79 rfl (q := 3) rfl ?_
  refine g_ic_ge hC dX12_lengthNow_80 (tgt := 122) (by decide) (fun c80 => ?_) (fun c80 => ?_)
  · replace h := (if_pos c80).symm.trans h
    refine g_aload_n hC dX12_lengthNow_122 rfl (q := 0) rfl ?_
    refine g_getr hC fd_RX12_87 rfl (by decide) (C0 := "") (t0 := _) (Or.inr rfl) (rr_75_51 hW.1) dX12_lengthNow_123 ?_
    refine g_iload_n hC dX12_lengthNow_126 rfl (q := 3) rfl ?_
    refine g_iload hC dX12_lengthNow_127 (q := 5) rfl ?_
    obtain ⟨g129, h⟩ := oG_some h
    refine g_iast hC rfl (by decide) (inB_in g129) dX12_lengthNow_129 (nm_e ?_)
    refine g_goto hC dX12_lengthNow_130 (tgt := 27) (by decide) ?_
    refine g_lv [0, 1, 2, 3, 4] rfl ?_
    exact hk27_ v1 v2 v3 v4 (mU I 96 (v3).toNatClampNeg v5) h
  · replace h := (if_neg c80).symm.trans h
    refine g_iload hC dX12_lengthNow_83 (q := 4) rfl ?_
    refine g_if_eq hC dX12_lengthNow_85 (tgt := 122) (by decide) (fun c85 => ?_) (fun c85 => ?_)
    · replace h := (if_pos c85).symm.trans h
      refine g_aload_n hC dX12_lengthNow_122 rfl (q := 0) rfl ?_
      refine g_getr hC fd_RX12_87 rfl (by decide) (C0 := "") (t0 := _) (Or.inr rfl) (rr_75_51 hW.1) dX12_lengthNow_123 ?_
      refine g_iload_n hC dX12_lengthNow_126 rfl (q := 3) rfl ?_
      refine g_iload hC dX12_lengthNow_127 (q := 5) rfl ?_
      obtain ⟨g129, h⟩ := oG_some h
      refine g_iast hC rfl (by decide) (inB_in g129) dX12_lengthNow_129 (nm_e ?_)
      refine g_goto hC dX12_lengthNow_130 (tgt := 27) (by decide) ?_
      refine g_lv [0, 1, 2, 3, 4] rfl ?_
      exact hk27_ v1 v2 v3 v4 (mU I 96 (v3).toNatClampNeg v5) h
    · replace h := (if_neg c85).symm.trans h
      refine g_aload_n hC dX12_lengthNow_88 rfl (q := 0) rfl ?_
      refine g_aload_n hC dX12_lengthNow_89 rfl (q := 0) rfl ?_
      refine g_geti hC fd_RX12_408 rfl (by decide) (Or.inr rfl) dX12_lengthNow_90 ?_
      refine g_if_ne hC dX12_lengthNow_93 (tgt := 108) (by decide) (fun c93 => ?_) (fun c93 => ?_)
      · replace h := (if_neg c93).symm.trans h
        refine g_iconst hC dX12_lengthNow_108 (v := (1 : Int32)) (by decide) ?_
        refine g_goto hC dX12_lengthNow_109 (tgt := 113) (by decide) ?_
        refine g_putz hC (by decide) fd_RX12_408 rfl (by decide) rfl dX12_lengthNow_113 (nm_e ?_)
        refine g_iinc hC dX12_lengthNow_116 rfl (q := 6) rfl (w := (v6 + (1 : Int32))) rfl (by decide) (lv' := [(6, .int (v6 + (1 : Int32))), (0, .ref (mB E + 75)), (1, .int v1), (2, .int v2), (3, .int v3), (4, .int v4), (5, .int v5)]) rfl ?_
        refine g_goto hC dX12_lengthNow_119 (tgt := 77) (by decide) ?_
        refine g_lv [1, 2, 3, 4, 5, 6, 0] rfl ?_
        exact hk77_ v1 v2 v3 v4 v5 (v6 + (1 : Int32)) (mU I 75 52 (1 : Int32)) h
      · replace h := (if_pos c93).symm.trans h
        refine g_aload_n hC dX12_lengthNow_96 rfl (q := 0) rfl ?_
        refine g_getr hC fd_RX12_87 rfl (by decide) (C0 := "") (t0 := _) (Or.inr rfl) (rr_75_51 hW.1) dX12_lengthNow_97 ?_
        refine g_iload hC dX12_lengthNow_100 (q := 6) rfl ?_
        obtain ⟨g102, h⟩ := oG_some h
        refine g_iald hC rfl (by decide) (inB_in g102) dX12_lengthNow_102 ?_
        refine g_iload hC dX12_lengthNow_103 (q := 5) rfl ?_
        refine g_ic_ne hC dX12_lengthNow_105 (tgt := 112) (by decide) (fun c105 => ?_) (fun c105 => ?_)
        · replace h := (if_neg c105).symm.trans h
          refine g_iconst hC dX12_lengthNow_112 (v := (0 : Int32)) (by decide) ?_
          refine g_putz hC (by decide) fd_RX12_408 rfl (by decide) rfl dX12_lengthNow_113 (nm_e ?_)
          refine g_iinc hC dX12_lengthNow_116 rfl (q := 6) rfl (w := (v6 + (1 : Int32))) rfl (by decide) (lv' := [(6, .int (v6 + (1 : Int32))), (0, .ref (mB E + 75)), (1, .int v1), (2, .int v2), (3, .int v3), (4, .int v4), (5, .int v5)]) rfl ?_
          refine g_goto hC dX12_lengthNow_119 (tgt := 77) (by decide) ?_
          refine g_lv [1, 2, 3, 4, 5, 6, 0] rfl ?_
          exact hk77_ v1 v2 v3 v4 v5 (v6 + (1 : Int32)) (mU I 75 52 (0 : Int32)) h
        · replace h := (if_pos c105).symm.trans h
          refine g_iconst hC dX12_lengthNow_108 (v := (1 : Int32)) (by decide) ?_
          refine g_goto hC dX12_lengthNow_109 (tgt := 113) (by decide) ?_
          refine g_putz hC (by decide) fd_RX12_408 rfl (by decide) rfl dX12_lengthNow_113 (nm_e ?_)
          refine g_iinc hC dX12_lengthNow_116 rfl (q := 6) rfl (w := (v6 + (1 : Int32))) rfl (by decide) (lv' := [(6, .int (v6 + (1 : Int32))), (0, .ref (mB E + 75)), (1, .int v1), (2, .int v2), (3, .int v3), (4, .int v4), (5, .int v5)]) rfl ?_
          refine g_goto hC dX12_lengthNow_119 (tgt := 77) (by decide) ?_
          refine g_lv [1, 2, 3, 4, 5, 6, 0] rfl ?_
          exact hk77_ v1 v2 v3 v4 v5 (v6 + (1 : Int32)) (mU I 75 52 (1 : Int32)) h
noncomputable def w_X12_lengthNow_77 (Fu : Nat) (k27_ : Int32 × Int32 × Int32 × Int32 × mIT → Option (Int32 × mIT)) (N : Nat) (v1 : Int32) (v2 : Int32) (v3 : Int32) (v4 : Int32) (v5 : Int32) (v6 : Int32) (I : mIT) : Option (Int32 × mIT) :=
  loopF (fun self (s : Int32 × Int32 × Int32 × Int32 × Int32 × Int32 × mIT) => b_X12_lengthNow_77 Fu k27_ self s.1 s.2.1 s.2.2.1 s.2.2.2.1 s.2.2.2.2.1 s.2.2.2.2.2.1 s.2.2.2.2.2.2) N (v1, v2, v3, v4, v5, v6, I)
theorem wo_X12_lengthNow_77 {X : mXT} {E : mEn} {Fu : Nat} {R : mRT} {L : mLT}  (hC : mC X E mX12_lengthNow RX12 cX12_lengthNow) (hW : mWd R)   {out : Int32 × mIT} (hE : mEd X E 0 0 (mSame (some (.int (out.1))) 106 1 (out.2) R L)) (k27_ : Int32 × Int32 × Int32 × Int32 × mIT → Option (Int32 × mIT)) (hk27_ : ∀ (v1 : Int32) (v2 : Int32) (v3 : Int32) (v4 : Int32) (I : mIT),  k27_ (v1, v2, v3, v4, I) = some out → mG X E 27 [(0, .ref (mB E + 75)), (1, .int v1), (2, .int v2), (3, .int v3), (4, .int v4)] [] 106 1 I R L 0 0) (N : Nat) (v1 : Int32) (v2 : Int32) (v3 : Int32) (v4 : Int32) (v5 : Int32) (v6 : Int32) (I : mIT) (h : w_X12_lengthNow_77 Fu k27_ N v1 v2 v3 v4 v5 v6 I = some out) : mG X E 77 [(0, .ref (mB E + 75)), (1, .int v1), (2, .int v2), (3, .int v3), (4, .int v4), (5, .int v5), (6, .int v6)] [] 106 1 I R L 0 0 :=
  loopF_ok (Gd := fun s : Int32 × Int32 × Int32 × Int32 × Int32 × Int32 × mIT => mG X E 77 [(0, .ref (mB E + 75)), (1, .int s.1), (2, .int s.2.1), (3, .int s.2.2.1), (4, .int s.2.2.2.1), (5, .int s.2.2.2.2.1), (6, .int s.2.2.2.2.2.1)] [] 106 1 s.2.2.2.2.2.2 R L 0 0) (fun self hs s h => bo_X12_lengthNow_77 hC hW hE k27_ hk27_ self (fun v1 v2 v3 v4 v5 v6 I h => hs (v1, v2, v3, v4, v5, v6, I) h) s.1 s.2.1 s.2.2.1 s.2.2.2.1 s.2.2.2.2.1 s.2.2.2.2.2.1 s.2.2.2.2.2.2 h) N (v1, v2, v3, v4, v5, v6, I) h
noncomputable def b_X12_lengthNow_27 (Fu : Nat) (k27_ : Int32 × Int32 × Int32 × Int32 × mIT → Option (Int32 × mIT)) (v1 : Int32) (v2 : Int32) (v3 : Int32) (v4 : Int32) (I : mIT) : Option (Int32 × mIT) :=
  if v4 = 0 then (some (v3, I)) else (oG ((I 75 5) != 0) (oG (inB ((41 : Int32) + (v3 - v3 / (I 75 5) * (I 75 5))) 106) (oB (f_X12_rings0 Fu I (I 89 (((41 : Int32) + (v3 - v3 / (I 75 5) * (I 75 5)))).toNatClampNeg) v1) (fun r48 => oB (f_X12_rowNumber Fu r48 v1) (fun r56 => if r56 = v2 then (w_X12_lengthNow_77 Fu k27_ Fu v1 v2 (v3 + (1 : Int32)) (0 : Int32) r56 (0 : Int32) r48) else (w_X12_lengthNow_77 Fu k27_ Fu v1 v2 (v3 + (1 : Int32)) (1 : Int32) r56 (0 : Int32) r48))))))
set_option maxRecDepth 20000 in
theorem bo_X12_lengthNow_27 {X : mXT} {E : mEn} {Fu : Nat} {R : mRT} {L : mLT}  (hC : mC X E mX12_lengthNow RX12 cX12_lengthNow) (hW : mWd R)   {out : Int32 × mIT} (hE : mEd X E 0 0 (mSame (some (.int (out.1))) 106 1 (out.2) R L)) (k27_ : Int32 × Int32 × Int32 × Int32 × mIT → Option (Int32 × mIT)) (hk27_ : ∀ (v1 : Int32) (v2 : Int32) (v3 : Int32) (v4 : Int32) (I : mIT),  k27_ (v1, v2, v3, v4, I) = some out → mG X E 27 [(0, .ref (mB E + 75)), (1, .int v1), (2, .int v2), (3, .int v3), (4, .int v4)] [] 106 1 I R L 0 0) (v1 : Int32) (v2 : Int32) (v3 : Int32) (v4 : Int32) (I : mIT) (h : b_X12_lengthNow_27 Fu k27_ v1 v2 v3 v4 I = some out) : mG X E 27 [(0, .ref (mB E + 75)), (1, .int v1), (2, .int v2), (3, .int v3), (4, .int v4)] [] 106 1 I R L 0 0 := by
  unfold b_X12_lengthNow_27 at h
  refine g_iload hC dX12_lengthNow_27 (q := 4) rfl ?_
  refine g_if_eq hC dX12_lengthNow_29 (tgt := 133) (by decide) (fun c29 => ?_) (fun c29 => ?_)
  · replace h := (if_pos c29).symm.trans h
    refine g_iload_n hC dX12_lengthNow_133 rfl (q := 3) rfl ?_
    cases h
    exact g_iret hC hE rfl dX12_lengthNow_134 (Nat.zero_le _) (Nat.zero_le _) ⟨rfl, rfl, rfl, rfl, rfl, rfl⟩
  · replace h := (if_neg c29).symm.trans h
    refine g_aload_n hC dX12_lengthNow_32 rfl (q := 0) rfl ?_
    refine g_aload_n hC dX12_lengthNow_33 rfl (q := 0) rfl ?_
    refine g_getr hC fd_RX12_63 rfl (by decide) (C0 := "") (t0 := _) (Or.inr rfl) (rr_75_42 hW.1) dX12_lengthNow_34 ?_
    refine g_bipush hC dX12_lengthNow_37 (v := (41 : Int32)) (by decide) ?_
    refine g_iload_n hC dX12_lengthNow_39 rfl (q := 3) rfl ?_
    refine g_aload_n hC dX12_lengthNow_40 rfl (q := 0) rfl ?_
    refine g_geti hC fd_RX12_298 rfl (by decide) (Or.inl rfl) dX12_lengthNow_41 ?_
    obtain ⟨g44, h⟩ := oG_some h
    refine g_irem hC dX12_lengthNow_44 (mNz g44) ?_
    refine g_iadd hC dX12_lengthNow_45 ?_
    obtain ⟨g46, h⟩ := oG_some h
    refine g_iald hC rfl (by decide) (inB_in g46) dX12_lengthNow_46 ?_
    refine g_iload_n hC dX12_lengthNow_47 rfl (q := 1) rfl ?_
    obtain ⟨r48, h48, h⟩ := oB_some h
    refine g_cV0 hC cv_X12_rings0 wd_2162 ⟨Nat.le_of_ble_eq_true rfl, Nat.le_of_ble_eq_true rfl⟩ rfl (by decide) dX12_lengthNow_48 (As := [.int (I 89 (((41 : Int32) + (v3 - v3 / (I 75 5) * (I 75 5)))).toNatClampNeg), .int v1]) (st := []) (ok_X12_rings0 hC.2.2.2.2.2.2.2.1 hW h48) rfl rfl (Nat.le_of_ble_eq_true rfl) ⟨Nat.zero_le _, Nat.zero_le _⟩ ?_
    refine g_iinc hC dX12_lengthNow_51 rfl (q := 3) rfl (w := (v3 + (1 : Int32))) rfl (by decide) (lv' := [(3, .int (v3 + (1 : Int32))), (0, .ref (mB E + 75)), (1, .int v1), (2, .int v2), (4, .int v4)]) rfl ?_
    refine g_aload_n hC dX12_lengthNow_54 rfl (q := 1) rfl ?_
    refine g_iload_n hC dX12_lengthNow_55 rfl (q := 2) rfl ?_
    obtain ⟨r56, h56, h⟩ := oB_some h
    refine g_cV1 hC cv_X12_rowNumber wd_2166 ⟨Nat.le_of_ble_eq_true rfl, Nat.le_of_ble_eq_true rfl⟩ rfl (by decide) dX12_lengthNow_56 (As := [.int v1]) (st := []) (ok_X12_rowNumber hC.2.2.2.2.2.2.2.1 hW h56) rfl rfl (Nat.le_of_ble_eq_true rfl) ⟨Nat.zero_le _, Nat.zero_le _⟩ ?_
    refine g_istore hC dX12_lengthNow_59 rfl (by decide) (lv' := [(5, .int r56), (3, .int (v3 + (1 : Int32))), (0, .ref (mB E + 75)), (1, .int v1), (2, .int v2), (4, .int v4)]) rfl ?_
    refine g_iload hC dX12_lengthNow_61 (q := 0) rfl ?_
    refine g_iload_n hC dX12_lengthNow_63 rfl (q := 4) rfl ?_
    refine g_ic_eq hC dX12_lengthNow_64 (tgt := 71) (by decide) (fun c64 => ?_) (fun c64 => ?_)
    · replace h := (if_pos c64).symm.trans h
      refine g_iconst hC dX12_lengthNow_71 (v := (0 : Int32)) (by decide) ?_
      refine g_istore hC dX12_lengthNow_72 rfl (by decide) (lv' := [(4, .int (0 : Int32)), (5, .int r56), (3, .int (v3 + (1 : Int32))), (0, .ref (mB E + 75)), (1, .int v1), (2, .int v2)]) rfl ?_
      refine g_iconst hC dX12_lengthNow_74 (v := (0 : Int32)) (by decide) ?_
      refine g_istore hC dX12_lengthNow_75 rfl (by decide) (lv' := [(6, .int (0 : Int32)), (4, .int (0 : Int32)), (5, .int r56), (3, .int (v3 + (1 : Int32))), (0, .ref (mB E + 75)), (1, .int v1), (2, .int v2)]) rfl ?_
      refine g_lv [4, 5, 6, 3, 1, 2, 0] rfl ?_
      exact wo_X12_lengthNow_77 hC hW hE k27_ hk27_ Fu (v1) (v2) ((v3 + (1 : Int32))) ((0 : Int32)) (r56) ((0 : Int32)) (r48) h
    · replace h := (if_neg c64).symm.trans h
      refine g_iconst hC dX12_lengthNow_67 (v := (1 : Int32)) (by decide) ?_
      refine g_goto hC dX12_lengthNow_68 (tgt := 72) (by decide) ?_
      refine g_istore hC dX12_lengthNow_72 rfl (by decide) (lv' := [(4, .int (1 : Int32)), (5, .int r56), (3, .int (v3 + (1 : Int32))), (0, .ref (mB E + 75)), (1, .int v1), (2, .int v2)]) rfl ?_
      refine g_iconst hC dX12_lengthNow_74 (v := (0 : Int32)) (by decide) ?_
      refine g_istore hC dX12_lengthNow_75 rfl (by decide) (lv' := [(6, .int (0 : Int32)), (4, .int (1 : Int32)), (5, .int r56), (3, .int (v3 + (1 : Int32))), (0, .ref (mB E + 75)), (1, .int v1), (2, .int v2)]) rfl ?_
      refine g_lv [4, 5, 6, 3, 1, 2, 0] rfl ?_
      exact wo_X12_lengthNow_77 hC hW hE k27_ hk27_ Fu (v1) (v2) ((v3 + (1 : Int32))) ((1 : Int32)) (r56) ((0 : Int32)) (r48) h
noncomputable def w_X12_lengthNow_27 (Fu : Nat)  (N : Nat) (v1 : Int32) (v2 : Int32) (v3 : Int32) (v4 : Int32) (I : mIT) : Option (Int32 × mIT) :=
  loopF (fun self (s : Int32 × Int32 × Int32 × Int32 × mIT) => b_X12_lengthNow_27 Fu self s.1 s.2.1 s.2.2.1 s.2.2.2.1 s.2.2.2.2) N (v1, v2, v3, v4, I)
theorem wo_X12_lengthNow_27 {X : mXT} {E : mEn} {Fu : Nat} {R : mRT} {L : mLT}  (hC : mC X E mX12_lengthNow RX12 cX12_lengthNow) (hW : mWd R)   {out : Int32 × mIT} (hE : mEd X E 0 0 (mSame (some (.int (out.1))) 106 1 (out.2) R L))  (N : Nat) (v1 : Int32) (v2 : Int32) (v3 : Int32) (v4 : Int32) (I : mIT) (h : w_X12_lengthNow_27 Fu  N v1 v2 v3 v4 I = some out) : mG X E 27 [(0, .ref (mB E + 75)), (1, .int v1), (2, .int v2), (3, .int v3), (4, .int v4)] [] 106 1 I R L 0 0 :=
  loopF_ok (Gd := fun s : Int32 × Int32 × Int32 × Int32 × mIT => mG X E 27 [(0, .ref (mB E + 75)), (1, .int s.1), (2, .int s.2.1), (3, .int s.2.2.1), (4, .int s.2.2.2.1)] [] 106 1 s.2.2.2.2 R L 0 0) (fun self hs s h => bo_X12_lengthNow_27 hC hW hE self (fun v1 v2 v3 v4 I h => hs (v1, v2, v3, v4, I) h) s.1 s.2.1 s.2.2.1 s.2.2.2.1 s.2.2.2.2 h) N (v1, v2, v3, v4, I) h
noncomputable def f_X12_lengthNow (Fu : Nat) (I : mIT) (v1 : Int32) : Option (Int32 × mIT) :=
  oB (f_X12_rounds Fu I) (fun r1 => oB (f_X12_rowNumber Fu (mU r1 75 52 (0 : Int32)) v1) (fun r11 => oG (inB (0 : Int32) 1000) (w_X12_lengthNow_27 Fu Fu v1 r11 (0 : Int32) (1 : Int32) (mU (mU r1 75 52 (0 : Int32)) 96 ((0 : Int32)).toNatClampNeg r11))))
set_option maxRecDepth 20000 in
theorem ok_X12_lengthNow {l : Launch} {E : mEn} {Fu : Nat} {I : mIT} {R : mRT} {L : mLT} {v1 : Int32} (hst : l.stackTraces = false) (hW : mWd R)  {out : Int32 × mIT} (h : f_X12_lengthNow Fu I v1 = some out) : mOk l E mX12_lengthNow [.ref (mB E + 75), .int v1] 106 1 I R L 0 0 (mSame (some (.int (out.1))) 106 1 (out.2) R L) := by
  refine mOk_of hst (by decide) (Nat.le_of_ble_eq_true rfl) (fun X hC hE _ => ?_)
  have hC : mC X E mX12_lengthNow RX12 cX12_lengthNow := hC
  show mG X E 0 [(0, .ref (mB E + 75)), (1, .int v1)] [] 106 1 I R L 0 0
  unfold f_X12_lengthNow at h
  refine g_aload_n hC dX12_lengthNow_0 rfl (q := 0) rfl ?_
  obtain ⟨r1, h1, h⟩ := oB_some h
  refine g_cV0 hC cv_X12_rounds wd_2158 ⟨Nat.le_of_ble_eq_true rfl, Nat.le_of_ble_eq_true rfl⟩ rfl (by decide) dX12_lengthNow_1 (As := []) (st := []) (ok_X12_rounds hC.2.2.2.2.2.2.2.1 hW h1) rfl rfl (Nat.le_of_ble_eq_true rfl) ⟨Nat.zero_le _, Nat.zero_le _⟩ ?_
  refine g_aload_n hC dX12_lengthNow_4 rfl (q := 0) rfl ?_
  refine g_iconst hC dX12_lengthNow_5 (v := (0 : Int32)) (by decide) ?_
  refine g_putz hC (by decide) fd_RX12_408 rfl (by decide) rfl dX12_lengthNow_6 (nm_e ?_)
  refine g_aload_n hC dX12_lengthNow_9 rfl (q := 0) rfl ?_
  refine g_iload_n hC dX12_lengthNow_10 rfl (q := 1) rfl ?_
  obtain ⟨r11, h11, h⟩ := oB_some h
  refine g_cV1 hC cv_X12_rowNumber wd_2166 ⟨Nat.le_of_ble_eq_true rfl, Nat.le_of_ble_eq_true rfl⟩ rfl (by decide) dX12_lengthNow_11 (As := [.int v1]) (st := []) (ok_X12_rowNumber hC.2.2.2.2.2.2.2.1 hW h11) rfl rfl (Nat.le_of_ble_eq_true rfl) ⟨Nat.zero_le _, Nat.zero_le _⟩ ?_
  refine g_istore_n hC dX12_lengthNow_14 rfl rfl (by decide) (lv' := [(2, .int r11), (0, .ref (mB E + 75)), (1, .int v1)]) rfl ?_
  refine g_aload_n hC dX12_lengthNow_15 rfl (q := 1) rfl ?_
  refine g_getr hC fd_RX12_87 rfl (by decide) (C0 := "") (t0 := _) (Or.inr rfl) (rr_75_51 hW.1) dX12_lengthNow_16 ?_
  refine g_iconst hC dX12_lengthNow_19 (v := (0 : Int32)) (by decide) ?_
  refine g_iload_n hC dX12_lengthNow_20 rfl (q := 0) rfl ?_
  obtain ⟨g21, h⟩ := oG_some h
  refine g_iast hC rfl (by decide) (inB_in g21) dX12_lengthNow_21 (nm_e ?_)
  refine g_iconst hC dX12_lengthNow_22 (v := (0 : Int32)) (by decide) ?_
  refine g_istore_n hC dX12_lengthNow_23 rfl rfl (by decide) (lv' := [(3, .int (0 : Int32)), (2, .int r11), (0, .ref (mB E + 75)), (1, .int v1)]) rfl ?_
  refine g_iconst hC dX12_lengthNow_24 (v := (1 : Int32)) (by decide) ?_
  refine g_istore hC dX12_lengthNow_25 rfl (by decide) (lv' := [(4, .int (1 : Int32)), (3, .int (0 : Int32)), (2, .int r11), (0, .ref (mB E + 75)), (1, .int v1)]) rfl ?_
  refine g_lv [3, 4, 2, 1, 0] rfl ?_
  exact wo_X12_lengthNow_27 hC hW hE Fu (v1) (r11) ((0 : Int32)) ((1 : Int32)) ((mU (mU r1 75 52 (0 : Int32)) 96 ((0 : Int32)).toNatClampNeg r11)) h
