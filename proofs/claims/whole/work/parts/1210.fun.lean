noncomputable def b_X12_spelled_84 (Fu : Nat)  (v6 : Int32) (v7 : Int64) : Option (Int64) :=
  if v6 = 0 then (some (v7)) else (some ((v7 <<< (((5 : Int32)).toInt64 &&& 63)) ||| (((v6 - (96 : Int32))).toInt64)))
set_option maxRecDepth 20000 in
theorem bo_X12_spelled_84 {X : mXT} {E : mEn} {Fu : Nat} {I : mIT} {R : mRT} {L : mLT}  (hC : mC X E mX12_spelled RX12 cX12_spelled) (hW : mWd R)   {out : Int64} (hE : mEd X E 0 0 (mSame (some (.long (out))) 106 1 I R L))  (v6 : Int32) (v7 : Int64) (h : b_X12_spelled_84 Fu  v6 v7 = some out) : mG X E 84 [(6, .int v6), (7, .long v7)] [] 106 1 I R L 0 0 := by
  unfold b_X12_spelled_84 at h
  refine g_iload hC dX12_spelled_84 (q := 0) rfl ?_
  refine g_if_eq hC dX12_spelled_86 (tgt := 102) (by decide) (fun c86 => ?_) (fun c86 => ?_)
  · replace h := (if_pos c86).symm.trans h
    refine g_lload hC dX12_spelled_102 (q := 1) rfl ?_
    cases h
    exact g_lret hC hE rfl dX12_spelled_104 (Nat.zero_le _) (Nat.zero_le _) ⟨rfl, rfl, rfl, rfl, rfl, rfl⟩
  · replace h := (if_neg c86).symm.trans h
    refine g_lload hC dX12_spelled_89 (q := 1) rfl ?_
    refine g_iconst hC dX12_spelled_91 (v := (5 : Int32)) (by decide) ?_
    refine g_lshl hC dX12_spelled_92 ?_
    refine g_iload hC dX12_spelled_93 (q := 0) rfl ?_
    refine g_bipush hC dX12_spelled_95 (v := (96 : Int32)) (by decide) ?_
    refine g_isub hC dX12_spelled_97 ?_
    refine g_i2l hC dX12_spelled_98 ?_
    refine g_lor hC dX12_spelled_99 ?_
    refine g_lstore hC dX12_spelled_100 rfl (by decide) (lv' := [(7, .long ((v7 <<< (((5 : Int32)).toInt64 &&& 63)) ||| (((v6 - (96 : Int32))).toInt64))), (6, .int v6)]) rfl ?_
    refine g_lload hC dX12_spelled_102 (q := 0) rfl ?_
    cases h
    exact g_lret hC hE rfl dX12_spelled_104 (Nat.zero_le _) (Nat.zero_le _) ⟨rfl, rfl, rfl, rfl, rfl, rfl⟩
noncomputable def b_X12_spelled_66 (Fu : Nat)  (v5 : Int32) (v6 : Int32) (v7 : Int64) : Option (Int64) :=
  if v5 = 0 then (b_X12_spelled_84 Fu v6 v7) else (b_X12_spelled_84 Fu v6 ((v7 <<< (((5 : Int32)).toInt64 &&& 63)) ||| (((v5 - (96 : Int32))).toInt64)))
set_option maxRecDepth 20000 in
theorem bo_X12_spelled_66 {X : mXT} {E : mEn} {Fu : Nat} {I : mIT} {R : mRT} {L : mLT}  (hC : mC X E mX12_spelled RX12 cX12_spelled) (hW : mWd R)   {out : Int64} (hE : mEd X E 0 0 (mSame (some (.long (out))) 106 1 I R L))  (v5 : Int32) (v6 : Int32) (v7 : Int64) (h : b_X12_spelled_66 Fu  v5 v6 v7 = some out) : mG X E 66 [(5, .int v5), (6, .int v6), (7, .long v7)] [] 106 1 I R L 0 0 := by
  unfold b_X12_spelled_66 at h
  refine g_iload hC dX12_spelled_66 (q := 0) rfl ?_
  refine g_if_eq hC dX12_spelled_68 (tgt := 84) (by decide) (fun c68 => ?_) (fun c68 => ?_)
  · replace h := (if_pos c68).symm.trans h
    refine g_lv [1, 2] rfl ?_
    exact bo_X12_spelled_84 hC hW hE (v6) (v7) h
  · replace h := (if_neg c68).symm.trans h
    refine g_lload hC dX12_spelled_71 (q := 2) rfl ?_
    refine g_iconst hC dX12_spelled_73 (v := (5 : Int32)) (by decide) ?_
    refine g_lshl hC dX12_spelled_74 ?_
    refine g_iload hC dX12_spelled_75 (q := 0) rfl ?_
    refine g_bipush hC dX12_spelled_77 (v := (96 : Int32)) (by decide) ?_
    refine g_isub hC dX12_spelled_79 ?_
    refine g_i2l hC dX12_spelled_80 ?_
    refine g_lor hC dX12_spelled_81 ?_
    refine g_lstore hC dX12_spelled_82 rfl (by decide) (lv' := [(7, .long ((v7 <<< (((5 : Int32)).toInt64 &&& 63)) ||| (((v5 - (96 : Int32))).toInt64))), (5, .int v5), (6, .int v6)]) rfl ?_
    refine g_lv [2, 0] rfl ?_
    exact bo_X12_spelled_84 hC hW hE (v6) (((v7 <<< (((5 : Int32)).toInt64 &&& 63)) ||| (((v5 - (96 : Int32))).toInt64))) h
noncomputable def b_X12_spelled_48 (Fu : Nat)  (v4 : Int32) (v5 : Int32) (v6 : Int32) (v7 : Int64) : Option (Int64) :=
  if v4 = 0 then (b_X12_spelled_66 Fu v5 v6 v7) else (b_X12_spelled_66 Fu v5 v6 ((v7 <<< (((5 : Int32)).toInt64 &&& 63)) ||| (((v4 - (96 : Int32))).toInt64)))
set_option maxRecDepth 20000 in
theorem bo_X12_spelled_48 {X : mXT} {E : mEn} {Fu : Nat} {I : mIT} {R : mRT} {L : mLT}  (hC : mC X E mX12_spelled RX12 cX12_spelled) (hW : mWd R)   {out : Int64} (hE : mEd X E 0 0 (mSame (some (.long (out))) 106 1 I R L))  (v4 : Int32) (v5 : Int32) (v6 : Int32) (v7 : Int64) (h : b_X12_spelled_48 Fu  v4 v5 v6 v7 = some out) : mG X E 48 [(4, .int v4), (5, .int v5), (6, .int v6), (7, .long v7)] [] 106 1 I R L 0 0 := by
  unfold b_X12_spelled_48 at h
  refine g_iload hC dX12_spelled_48 (q := 0) rfl ?_
  refine g_if_eq hC dX12_spelled_50 (tgt := 66) (by decide) (fun c50 => ?_) (fun c50 => ?_)
  · replace h := (if_pos c50).symm.trans h
    refine g_lv [1, 2, 3] rfl ?_
    exact bo_X12_spelled_66 hC hW hE (v5) (v6) (v7) h
  · replace h := (if_neg c50).symm.trans h
    refine g_lload hC dX12_spelled_53 (q := 3) rfl ?_
    refine g_iconst hC dX12_spelled_55 (v := (5 : Int32)) (by decide) ?_
    refine g_lshl hC dX12_spelled_56 ?_
    refine g_iload hC dX12_spelled_57 (q := 0) rfl ?_
    refine g_bipush hC dX12_spelled_59 (v := (96 : Int32)) (by decide) ?_
    refine g_isub hC dX12_spelled_61 ?_
    refine g_i2l hC dX12_spelled_62 ?_
    refine g_lor hC dX12_spelled_63 ?_
    refine g_lstore hC dX12_spelled_64 rfl (by decide) (lv' := [(7, .long ((v7 <<< (((5 : Int32)).toInt64 &&& 63)) ||| (((v4 - (96 : Int32))).toInt64))), (4, .int v4), (5, .int v5), (6, .int v6)]) rfl ?_
    refine g_lv [2, 3, 0] rfl ?_
    exact bo_X12_spelled_66 hC hW hE (v5) (v6) (((v7 <<< (((5 : Int32)).toInt64 &&& 63)) ||| (((v4 - (96 : Int32))).toInt64))) h
noncomputable def b_X12_spelled_32 (Fu : Nat)  (v3 : Int32) (v4 : Int32) (v5 : Int32) (v6 : Int32) (v7 : Int64) : Option (Int64) :=
  if v3 = 0 then (b_X12_spelled_48 Fu v4 v5 v6 v7) else (b_X12_spelled_48 Fu v4 v5 v6 ((v7 <<< (((5 : Int32)).toInt64 &&& 63)) ||| (((v3 - (96 : Int32))).toInt64)))
set_option maxRecDepth 20000 in
theorem bo_X12_spelled_32 {X : mXT} {E : mEn} {Fu : Nat} {I : mIT} {R : mRT} {L : mLT}  (hC : mC X E mX12_spelled RX12 cX12_spelled) (hW : mWd R)   {out : Int64} (hE : mEd X E 0 0 (mSame (some (.long (out))) 106 1 I R L))  (v3 : Int32) (v4 : Int32) (v5 : Int32) (v6 : Int32) (v7 : Int64) (h : b_X12_spelled_32 Fu  v3 v4 v5 v6 v7 = some out) : mG X E 32 [(3, .int v3), (4, .int v4), (5, .int v5), (6, .int v6), (7, .long v7)] [] 106 1 I R L 0 0 := by
  unfold b_X12_spelled_32 at h
  refine g_iload_n hC dX12_spelled_32 rfl (q := 0) rfl ?_
  refine g_if_eq hC dX12_spelled_33 (tgt := 48) (by decide) (fun c33 => ?_) (fun c33 => ?_)
  · replace h := (if_pos c33).symm.trans h
    refine g_lv [1, 2, 3, 4] rfl ?_
    exact bo_X12_spelled_48 hC hW hE (v4) (v5) (v6) (v7) h
  · replace h := (if_neg c33).symm.trans h
    refine g_lload hC dX12_spelled_36 (q := 4) rfl ?_
    refine g_iconst hC dX12_spelled_38 (v := (5 : Int32)) (by decide) ?_
    refine g_lshl hC dX12_spelled_39 ?_
    refine g_iload_n hC dX12_spelled_40 rfl (q := 0) rfl ?_
    refine g_bipush hC dX12_spelled_41 (v := (96 : Int32)) (by decide) ?_
    refine g_isub hC dX12_spelled_43 ?_
    refine g_i2l hC dX12_spelled_44 ?_
    refine g_lor hC dX12_spelled_45 ?_
    refine g_lstore hC dX12_spelled_46 rfl (by decide) (lv' := [(7, .long ((v7 <<< (((5 : Int32)).toInt64 &&& 63)) ||| (((v3 - (96 : Int32))).toInt64))), (3, .int v3), (4, .int v4), (5, .int v5), (6, .int v6)]) rfl ?_
    refine g_lv [2, 3, 4, 0] rfl ?_
    exact bo_X12_spelled_48 hC hW hE (v4) (v5) (v6) (((v7 <<< (((5 : Int32)).toInt64 &&& 63)) ||| (((v3 - (96 : Int32))).toInt64))) h
noncomputable def f_X12_spelled (Fu : Nat)  (v0 : Int32) (v1 : Int32) (v2 : Int32) (v3 : Int32) (v4 : Int32) (v5 : Int32) (v6 : Int32) : Option (Int64) :=
  if v2 = 0 then (b_X12_spelled_32 Fu v3 v4 v5 v6 (((((v0).toInt64) - (96 : Int64)) <<< (((5 : Int32)).toInt64 &&& 63)) ||| (((v1 - (96 : Int32))).toInt64))) else (b_X12_spelled_32 Fu v3 v4 v5 v6 (((((((v0).toInt64) - (96 : Int64)) <<< (((5 : Int32)).toInt64 &&& 63)) ||| (((v1 - (96 : Int32))).toInt64)) <<< (((5 : Int32)).toInt64 &&& 63)) ||| (((v2 - (96 : Int32))).toInt64)))
set_option maxRecDepth 20000 in
theorem ok_X12_spelled {l : Launch} {E : mEn} {Fu : Nat} {I : mIT} {R : mRT} {L : mLT} {v0 : Int32} {v1 : Int32} {v2 : Int32} {v3 : Int32} {v4 : Int32} {v5 : Int32} {v6 : Int32} (hst : l.stackTraces = false) (hW : mWd R)  {out : Int64} (h : f_X12_spelled Fu  v0 v1 v2 v3 v4 v5 v6 = some out) : mOk l E mX12_spelled [.int v0, .int v1, .int v2, .int v3, .int v4, .int v5, .int v6] 106 1 I R L 0 0 (mSame (some (.long (out))) 106 1 I R L) := by
  refine mOk_of hst (by decide) (Nat.le_of_ble_eq_true rfl) (fun X hC hE _ => ?_)
  have hC : mC X E mX12_spelled RX12 cX12_spelled := hC
  show mG X E 0 [(0, .int v0), (1, .int v1), (2, .int v2), (3, .int v3), (4, .int v4), (5, .int v5), (6, .int v6)] [] 106 1 I R L 0 0
  unfold f_X12_spelled at h
  refine g_iload_n hC dX12_spelled_0 rfl (q := 0) rfl ?_
  refine g_i2l hC dX12_spelled_1 ?_
  refine g_ldc2 hC dX12_spelled_2 wd_1887 ?_
  refine g_lsub hC dX12_spelled_5 ?_
  refine g_iconst hC dX12_spelled_6 (v := (5 : Int32)) (by decide) ?_
  refine g_lshl hC dX12_spelled_7 ?_
  refine g_iload_n hC dX12_spelled_8 rfl (q := 1) rfl ?_
  refine g_bipush hC dX12_spelled_9 (v := (96 : Int32)) (by decide) ?_
  refine g_isub hC dX12_spelled_11 ?_
  refine g_i2l hC dX12_spelled_12 ?_
  refine g_lor hC dX12_spelled_13 ?_
  refine g_lstore hC dX12_spelled_14 rfl (by decide) (lv' := [(7, .long (((((v0).toInt64) - (96 : Int64)) <<< (((5 : Int32)).toInt64 &&& 63)) ||| (((v1 - (96 : Int32))).toInt64))), (0, .int v0), (1, .int v1), (2, .int v2), (3, .int v3), (4, .int v4), (5, .int v5), (6, .int v6)]) rfl ?_
  refine g_iload_n hC dX12_spelled_16 rfl (q := 3) rfl ?_
  refine g_if_eq hC dX12_spelled_17 (tgt := 32) (by decide) (fun c17 => ?_) (fun c17 => ?_)
  · replace h := (if_pos c17).symm.trans h
    refine g_lv [4, 5, 6, 7, 0] rfl ?_
    exact bo_X12_spelled_32 hC hW hE (v3) (v4) (v5) (v6) ((((((v0).toInt64) - (96 : Int64)) <<< (((5 : Int32)).toInt64 &&& 63)) ||| (((v1 - (96 : Int32))).toInt64))) h
  · replace h := (if_neg c17).symm.trans h
    refine g_lload hC dX12_spelled_20 (q := 0) rfl ?_
    refine g_iconst hC dX12_spelled_22 (v := (5 : Int32)) (by decide) ?_
    refine g_lshl hC dX12_spelled_23 ?_
    refine g_iload_n hC dX12_spelled_24 rfl (q := 3) rfl ?_
    refine g_bipush hC dX12_spelled_25 (v := (96 : Int32)) (by decide) ?_
    refine g_isub hC dX12_spelled_27 ?_
    refine g_i2l hC dX12_spelled_28 ?_
    refine g_lor hC dX12_spelled_29 ?_
    refine g_lstore hC dX12_spelled_30 rfl (by decide) (lv' := [(7, .long (((((((v0).toInt64) - (96 : Int64)) <<< (((5 : Int32)).toInt64 &&& 63)) ||| (((v1 - (96 : Int32))).toInt64)) <<< (((5 : Int32)).toInt64 &&& 63)) ||| (((v2 - (96 : Int32))).toInt64))), (0, .int v0), (1, .int v1), (2, .int v2), (3, .int v3), (4, .int v4), (5, .int v5), (6, .int v6)]) rfl ?_
    refine g_lv [4, 5, 6, 7, 0] rfl ?_
    exact bo_X12_spelled_32 hC hW hE (v3) (v4) (v5) (v6) ((((((((v0).toInt64) - (96 : Int64)) <<< (((5 : Int32)).toInt64 &&& 63)) ||| (((v1 - (96 : Int32))).toInt64)) <<< (((5 : Int32)).toInt64 &&& 63)) ||| (((v2 - (96 : Int32))).toInt64))) h
noncomputable def f_X12_letters (Fu : Nat)  (v0 : Int32) : Option (Int64) :=
  if v0 = (0 : Int32) then (oB (f_X12_spelled Fu (115 : Int32) (105 : Int32) (122 : Int32) (101 : Int32) (0 : Int32) (0 : Int32) (0 : Int32)) (fun r99 => some (r99))) else if v0 = (1 : Int32) then (oB (f_X12_spelled Fu (104 : Int32) (111 : Int32) (108 : Int32) (108 : Int32) (111 : Int32) (119 : Int32) (0 : Int32)) (fun r116 => some (r116))) else if v0 = (2 : Int32) then (oB (f_X12_spelled Fu (107 : Int32) (105 : Int32) (110 : Int32) (100 : Int32) (0 : Int32) (0 : Int32) (0 : Int32)) (fun r131 => some (r131))) else if v0 = (3 : Int32) then (oB (f_X12_spelled Fu (115 : Int32) (111 : Int32) (102 : Int32) (116 : Int32) (0 : Int32) (0 : Int32) (0 : Int32)) (fun r146 => some (r146))) else if v0 = (4 : Int32) then (oB (f_X12_spelled Fu (119 : Int32) (101 : Int32) (97 : Int32) (116 : Int32) (104 : Int32) (101 : Int32) (114 : Int32)) (fun r164 => some (r164))) else if v0 = (5 : Int32) then (oB (f_X12_spelled Fu (100 : Int32) (97 : Int32) (121 : Int32) (0 : Int32) (0 : Int32) (0 : Int32) (0 : Int32)) (fun r178 => some (r178))) else if v0 = (6 : Int32) then (oB (f_X12_spelled Fu (104 : Int32) (117 : Int32) (110 : Int32) (103 : Int32) (0 : Int32) (0 : Int32) (0 : Int32)) (fun r193 => some (r193))) else if v0 = (7 : Int32) then (oB (f_X12_spelled Fu (116 : Int32) (117 : Int32) (114 : Int32) (110 : Int32) (105 : Int32) (112 : Int32) (0 : Int32)) (fun r210 => some (r210))) else if v0 = (8 : Int32) then (oB (f_X12_spelled Fu (115 : Int32) (119 : Int32) (101 : Int32) (100 : Int32) (101 : Int32) (0 : Int32) (0 : Int32)) (fun r226 => some (r226))) else if v0 = (9 : Int32) then (oB (f_X12_spelled Fu (109 : Int32) (97 : Int32) (110 : Int32) (103 : Int32) (111 : Int32) (108 : Int32) (100 : Int32)) (fun r244 => some (r244))) else if v0 = (10 : Int32) then (oB (f_X12_spelled Fu (98 : Int32) (101 : Int32) (101 : Int32) (116 : Int32) (0 : Int32) (0 : Int32) (0 : Int32)) (fun r259 => some (r259))) else if v0 = (11 : Int32) then (oB (f_X12_spelled Fu (108 : Int32) (97 : Int32) (115 : Int32) (116 : Int32) (115 : Int32) (0 : Int32) (0 : Int32)) (fun r275 => some (r275))) else if v0 = (12 : Int32) then (oB (f_X12_spelled Fu (116 : Int32) (117 : Int32) (110 : Int32) (101 : Int32) (0 : Int32) (0 : Int32) (0 : Int32)) (fun r290 => some (r290))) else if v0 = (13 : Int32) then (oB (f_X12_spelled Fu (109 : Int32) (101 : Int32) (116 : Int32) (104 : Int32) (111 : Int32) (100 : Int32) (0 : Int32)) (fun r307 => some (r307))) else if v0 = (14 : Int32) then (oB (f_X12_spelled Fu (110 : Int32) (111 : Int32) (116 : Int32) (101 : Int32) (0 : Int32) (0 : Int32) (0 : Int32)) (fun r322 => some (r322))) else if v0 = (15 : Int32) then (oB (f_X12_spelled Fu (103 : Int32) (114 : Int32) (111 : Int32) (119 : Int32) (115 : Int32) (0 : Int32) (0 : Int32)) (fun r338 => some (r338))) else if v0 = (16 : Int32) then (oB (f_X12_spelled Fu (97 : Int32) (110 : Int32) (100 : Int32) (0 : Int32) (0 : Int32) (0 : Int32) (0 : Int32)) (fun r352 => some (r352))) else if v0 = (17 : Int32) then (oB (f_X12_spelled Fu (111 : Int32) (114 : Int32) (0 : Int32) (0 : Int32) (0 : Int32) (0 : Int32) (0 : Int32)) (fun r365 => some (r365))) else (oB (f_X12_spelled Fu (110 : Int32) (111 : Int32) (116 : Int32) (0 : Int32) (0 : Int32) (0 : Int32) (0 : Int32)) (fun r379 => some (r379)))
set_option maxRecDepth 20000 in
theorem ok_X12_letters {l : Launch} {E : mEn} {Fu : Nat} {I : mIT} {R : mRT} {L : mLT} {v0 : Int32} (hst : l.stackTraces = false) (hW : mWd R)  {out : Int64} (h : f_X12_letters Fu  v0 = some out) : mOk l E mX12_letters [.int v0] 106 1 I R L 0 0 (mSame (some (.long (out))) 106 1 I R L) := by
  refine mOk_of hst (by decide) (Nat.le_of_ble_eq_true rfl) (fun X hC hE _ => ?_)
  have hC : mC X E mX12_letters RX12 cX12_letters := hC
  show mG X E 0 [(0, .int v0)] [] 106 1 I R L 0 0
  unfold f_X12_letters at h
  refine g_iload_n hC dX12_letters_0 rfl (q := 0) rfl ?_
  by_cases c1_0 : v0 = (0 : Int32)
  · replace h := (if_pos c1_0).symm.trans h
    refine g_tabI hC dX12_letters_1 (off := 87) (tgt := 88) (by rw [c1_0]; decide) (by rw [c1_0]; decide) (by rw [c1_0]; rfl) (by decide) ?_
    refine g_bipush hC dX12_letters_88 (v := (115 : Int32)) (by decide) ?_
    refine g_bipush hC dX12_letters_90 (v := (105 : Int32)) (by decide) ?_
    refine g_bipush hC dX12_letters_92 (v := (122 : Int32)) (by decide) ?_
    refine g_bipush hC dX12_letters_94 (v := (101 : Int32)) (by decide) ?_
    refine g_iconst hC dX12_letters_96 (v := (0 : Int32)) (by decide) ?_
    refine g_iconst hC dX12_letters_97 (v := (0 : Int32)) (by decide) ?_
    refine g_iconst hC dX12_letters_98 (v := (0 : Int32)) (by decide) ?_
    obtain ⟨r99, h99, h⟩ := oB_some h
    refine g_cS1 hC cs_X12_spelled wd_1884 ⟨Nat.le_of_ble_eq_true rfl, Nat.le_of_ble_eq_true rfl⟩ dX12_letters_99 (As := [.int (115 : Int32), .int (105 : Int32), .int (122 : Int32), .int (101 : Int32), .int (0 : Int32), .int (0 : Int32), .int (0 : Int32)]) (st := []) (ok_X12_spelled hC.2.2.2.2.2.2.2.1 hW h99) rfl rfl (Nat.le_of_ble_eq_true rfl) ⟨Nat.zero_le _, Nat.zero_le _⟩ ?_
    cases h
    exact g_lret hC hE rfl dX12_letters_102 (Nat.zero_le _) (Nat.zero_le _) ⟨rfl, rfl, rfl, rfl, rfl, rfl⟩
  replace h := (if_neg c1_0).symm.trans h
  by_cases c1_1 : v0 = (1 : Int32)
  · replace h := (if_pos c1_1).symm.trans h
    refine g_tabI hC dX12_letters_1 (off := 102) (tgt := 103) (by rw [c1_1]; decide) (by rw [c1_1]; decide) (by rw [c1_1]; rfl) (by decide) ?_
    refine g_bipush hC dX12_letters_103 (v := (104 : Int32)) (by decide) ?_
    refine g_bipush hC dX12_letters_105 (v := (111 : Int32)) (by decide) ?_
    refine g_bipush hC dX12_letters_107 (v := (108 : Int32)) (by decide) ?_
    refine g_bipush hC dX12_letters_109 (v := (108 : Int32)) (by decide) ?_
    refine g_bipush hC dX12_letters_111 (v := (111 : Int32)) (by decide) ?_
    refine g_bipush hC dX12_letters_113 (v := (119 : Int32)) (by decide) ?_
    refine g_iconst hC dX12_letters_115 (v := (0 : Int32)) (by decide) ?_
    obtain ⟨r116, h116, h⟩ := oB_some h
    refine g_cS1 hC cs_X12_spelled wd_1884 ⟨Nat.le_of_ble_eq_true rfl, Nat.le_of_ble_eq_true rfl⟩ dX12_letters_116 (As := [.int (104 : Int32), .int (111 : Int32), .int (108 : Int32), .int (108 : Int32), .int (111 : Int32), .int (119 : Int32), .int (0 : Int32)]) (st := []) (ok_X12_spelled hC.2.2.2.2.2.2.2.1 hW h116) rfl rfl (Nat.le_of_ble_eq_true rfl) ⟨Nat.zero_le _, Nat.zero_le _⟩ ?_
    cases h
    exact g_lret hC hE rfl dX12_letters_119 (Nat.zero_le _) (Nat.zero_le _) ⟨rfl, rfl, rfl, rfl, rfl, rfl⟩
  replace h := (if_neg c1_1).symm.trans h
  by_cases c1_2 : v0 = (2 : Int32)
  · replace h := (if_pos c1_2).symm.trans h
    refine g_tabI hC dX12_letters_1 (off := 119) (tgt := 120) (by rw [c1_2]; decide) (by rw [c1_2]; decide) (by rw [c1_2]; rfl) (by decide) ?_
    refine g_bipush hC dX12_letters_120 (v := (107 : Int32)) (by decide) ?_
    refine g_bipush hC dX12_letters_122 (v := (105 : Int32)) (by decide) ?_
    refine g_bipush hC dX12_letters_124 (v := (110 : Int32)) (by decide) ?_
    refine g_bipush hC dX12_letters_126 (v := (100 : Int32)) (by decide) ?_
    refine g_iconst hC dX12_letters_128 (v := (0 : Int32)) (by decide) ?_
    refine g_iconst hC dX12_letters_129 (v := (0 : Int32)) (by decide) ?_
    refine g_iconst hC dX12_letters_130 (v := (0 : Int32)) (by decide) ?_
    obtain ⟨r131, h131, h⟩ := oB_some h
    refine g_cS1 hC cs_X12_spelled wd_1884 ⟨Nat.le_of_ble_eq_true rfl, Nat.le_of_ble_eq_true rfl⟩ dX12_letters_131 (As := [.int (107 : Int32), .int (105 : Int32), .int (110 : Int32), .int (100 : Int32), .int (0 : Int32), .int (0 : Int32), .int (0 : Int32)]) (st := []) (ok_X12_spelled hC.2.2.2.2.2.2.2.1 hW h131) rfl rfl (Nat.le_of_ble_eq_true rfl) ⟨Nat.zero_le _, Nat.zero_le _⟩ ?_
    cases h
    exact g_lret hC hE rfl dX12_letters_134 (Nat.zero_le _) (Nat.zero_le _) ⟨rfl, rfl, rfl, rfl, rfl, rfl⟩
  replace h := (if_neg c1_2).symm.trans h
  by_cases c1_3 : v0 = (3 : Int32)
  · replace h := (if_pos c1_3).symm.trans h
    refine g_tabI hC dX12_letters_1 (off := 134) (tgt := 135) (by rw [c1_3]; decide) (by rw [c1_3]; decide) (by rw [c1_3]; rfl) (by decide) ?_
    refine g_bipush hC dX12_letters_135 (v := (115 : Int32)) (by decide) ?_
    refine g_bipush hC dX12_letters_137 (v := (111 : Int32)) (by decide) ?_
    refine g_bipush hC dX12_letters_139 (v := (102 : Int32)) (by decide) ?_
    refine g_bipush hC dX12_letters_141 (v := (116 : Int32)) (by decide) ?_
    refine g_iconst hC dX12_letters_143 (v := (0 : Int32)) (by decide) ?_
    refine g_iconst hC dX12_letters_144 (v := (0 : Int32)) (by decide) ?_
    refine g_iconst hC dX12_letters_145 (v := (0 : Int32)) (by decide) ?_
    obtain ⟨r146, h146, h⟩ := oB_some h
    refine g_cS1 hC cs_X12_spelled wd_1884 ⟨Nat.le_of_ble_eq_true rfl, Nat.le_of_ble_eq_true rfl⟩ dX12_letters_146 (As := [.int (115 : Int32), .int (111 : Int32), .int (102 : Int32), .int (116 : Int32), .int (0 : Int32), .int (0 : Int32), .int (0 : Int32)]) (st := []) (ok_X12_spelled hC.2.2.2.2.2.2.2.1 hW h146) rfl rfl (Nat.le_of_ble_eq_true rfl) ⟨Nat.zero_le _, Nat.zero_le _⟩ ?_
    cases h
    exact g_lret hC hE rfl dX12_letters_149 (Nat.zero_le _) (Nat.zero_le _) ⟨rfl, rfl, rfl, rfl, rfl, rfl⟩
  replace h := (if_neg c1_3).symm.trans h
  by_cases c1_4 : v0 = (4 : Int32)
  · replace h := (if_pos c1_4).symm.trans h
    refine g_tabI hC dX12_letters_1 (off := 149) (tgt := 150) (by rw [c1_4]; decide) (by rw [c1_4]; decide) (by rw [c1_4]; rfl) (by decide) ?_
    refine g_bipush hC dX12_letters_150 (v := (119 : Int32)) (by decide) ?_
    refine g_bipush hC dX12_letters_152 (v := (101 : Int32)) (by decide) ?_
    refine g_bipush hC dX12_letters_154 (v := (97 : Int32)) (by decide) ?_
    refine g_bipush hC dX12_letters_156 (v := (116 : Int32)) (by decide) ?_
    refine g_bipush hC dX12_letters_158 (v := (104 : Int32)) (by decide) ?_
    refine g_bipush hC dX12_letters_160 (v := (101 : Int32)) (by decide) ?_
    refine g_bipush hC dX12_letters_162 (v := (114 : Int32)) (by decide) ?_
    obtain ⟨r164, h164, h⟩ := oB_some h
    refine g_cS1 hC cs_X12_spelled wd_1884 ⟨Nat.le_of_ble_eq_true rfl, Nat.le_of_ble_eq_true rfl⟩ dX12_letters_164 (As := [.int (119 : Int32), .int (101 : Int32), .int (97 : Int32), .int (116 : Int32), .int (104 : Int32), .int (101 : Int32), .int (114 : Int32)]) (st := []) (ok_X12_spelled hC.2.2.2.2.2.2.2.1 hW h164) rfl rfl (Nat.le_of_ble_eq_true rfl) ⟨Nat.zero_le _, Nat.zero_le _⟩ ?_
    cases h
    exact g_lret hC hE rfl dX12_letters_167 (Nat.zero_le _) (Nat.zero_le _) ⟨rfl, rfl, rfl, rfl, rfl, rfl⟩
  replace h := (if_neg c1_4).symm.trans h
  by_cases c1_5 : v0 = (5 : Int32)
  · replace h := (if_pos c1_5).symm.trans h
    refine g_tabI hC dX12_letters_1 (off := 167) (tgt := 168) (by rw [c1_5]; decide) (by rw [c1_5]; decide) (by rw [c1_5]; rfl) (by decide) ?_
    refine g_bipush hC dX12_letters_168 (v := (100 : Int32)) (by decide) ?_
    refine g_bipush hC dX12_letters_170 (v := (97 : Int32)) (by decide) ?_
    refine g_bipush hC dX12_letters_172 (v := (121 : Int32)) (by decide) ?_
    refine g_iconst hC dX12_letters_174 (v := (0 : Int32)) (by decide) ?_
    refine g_iconst hC dX12_letters_175 (v := (0 : Int32)) (by decide) ?_
    refine g_iconst hC dX12_letters_176 (v := (0 : Int32)) (by decide) ?_
    refine g_iconst hC dX12_letters_177 (v := (0 : Int32)) (by decide) ?_
    obtain ⟨r178, h178, h⟩ := oB_some h
    refine g_cS1 hC cs_X12_spelled wd_1884 ⟨Nat.le_of_ble_eq_true rfl, Nat.le_of_ble_eq_true rfl⟩ dX12_letters_178 (As := [.int (100 : Int32), .int (97 : Int32), .int (121 : Int32), .int (0 : Int32), .int (0 : Int32), .int (0 : Int32), .int (0 : Int32)]) (st := []) (ok_X12_spelled hC.2.2.2.2.2.2.2.1 hW h178) rfl rfl (Nat.le_of_ble_eq_true rfl) ⟨Nat.zero_le _, Nat.zero_le _⟩ ?_
    cases h
    exact g_lret hC hE rfl dX12_letters_181 (Nat.zero_le _) (Nat.zero_le _) ⟨rfl, rfl, rfl, rfl, rfl, rfl⟩
  replace h := (if_neg c1_5).symm.trans h
  by_cases c1_6 : v0 = (6 : Int32)
  · replace h := (if_pos c1_6).symm.trans h
    refine g_tabI hC dX12_letters_1 (off := 181) (tgt := 182) (by rw [c1_6]; decide) (by rw [c1_6]; decide) (by rw [c1_6]; rfl) (by decide) ?_
    refine g_bipush hC dX12_letters_182 (v := (104 : Int32)) (by decide) ?_
    refine g_bipush hC dX12_letters_184 (v := (117 : Int32)) (by decide) ?_
    refine g_bipush hC dX12_letters_186 (v := (110 : Int32)) (by decide) ?_
    refine g_bipush hC dX12_letters_188 (v := (103 : Int32)) (by decide) ?_
    refine g_iconst hC dX12_letters_190 (v := (0 : Int32)) (by decide) ?_
    refine g_iconst hC dX12_letters_191 (v := (0 : Int32)) (by decide) ?_
    refine g_iconst hC dX12_letters_192 (v := (0 : Int32)) (by decide) ?_
    obtain ⟨r193, h193, h⟩ := oB_some h
    refine g_cS1 hC cs_X12_spelled wd_1884 ⟨Nat.le_of_ble_eq_true rfl, Nat.le_of_ble_eq_true rfl⟩ dX12_letters_193 (As := [.int (104 : Int32), .int (117 : Int32), .int (110 : Int32), .int (103 : Int32), .int (0 : Int32), .int (0 : Int32), .int (0 : Int32)]) (st := []) (ok_X12_spelled hC.2.2.2.2.2.2.2.1 hW h193) rfl rfl (Nat.le_of_ble_eq_true rfl) ⟨Nat.zero_le _, Nat.zero_le _⟩ ?_
    cases h
    exact g_lret hC hE rfl dX12_letters_196 (Nat.zero_le _) (Nat.zero_le _) ⟨rfl, rfl, rfl, rfl, rfl, rfl⟩
  replace h := (if_neg c1_6).symm.trans h
  by_cases c1_7 : v0 = (7 : Int32)
  · replace h := (if_pos c1_7).symm.trans h
    refine g_tabI hC dX12_letters_1 (off := 196) (tgt := 197) (by rw [c1_7]; decide) (by rw [c1_7]; decide) (by rw [c1_7]; rfl) (by decide) ?_
    refine g_bipush hC dX12_letters_197 (v := (116 : Int32)) (by decide) ?_
    refine g_bipush hC dX12_letters_199 (v := (117 : Int32)) (by decide) ?_
    refine g_bipush hC dX12_letters_201 (v := (114 : Int32)) (by decide) ?_
    refine g_bipush hC dX12_letters_203 (v := (110 : Int32)) (by decide) ?_
    refine g_bipush hC dX12_letters_205 (v := (105 : Int32)) (by decide) ?_
    refine g_bipush hC dX12_letters_207 (v := (112 : Int32)) (by decide) ?_
    refine g_iconst hC dX12_letters_209 (v := (0 : Int32)) (by decide) ?_
    obtain ⟨r210, h210, h⟩ := oB_some h
    refine g_cS1 hC cs_X12_spelled wd_1884 ⟨Nat.le_of_ble_eq_true rfl, Nat.le_of_ble_eq_true rfl⟩ dX12_letters_210 (As := [.int (116 : Int32), .int (117 : Int32), .int (114 : Int32), .int (110 : Int32), .int (105 : Int32), .int (112 : Int32), .int (0 : Int32)]) (st := []) (ok_X12_spelled hC.2.2.2.2.2.2.2.1 hW h210) rfl rfl (Nat.le_of_ble_eq_true rfl) ⟨Nat.zero_le _, Nat.zero_le _⟩ ?_
    cases h
    exact g_lret hC hE rfl dX12_letters_213 (Nat.zero_le _) (Nat.zero_le _) ⟨rfl, rfl, rfl, rfl, rfl, rfl⟩
  replace h := (if_neg c1_7).symm.trans h
  by_cases c1_8 : v0 = (8 : Int32)
  · replace h := (if_pos c1_8).symm.trans h
    refine g_tabI hC dX12_letters_1 (off := 213) (tgt := 214) (by rw [c1_8]; decide) (by rw [c1_8]; decide) (by rw [c1_8]; rfl) (by decide) ?_
    refine g_bipush hC dX12_letters_214 (v := (115 : Int32)) (by decide) ?_
    refine g_bipush hC dX12_letters_216 (v := (119 : Int32)) (by decide) ?_
    refine g_bipush hC dX12_letters_218 (v := (101 : Int32)) (by decide) ?_
    refine g_bipush hC dX12_letters_220 (v := (100 : Int32)) (by decide) ?_
    refine g_bipush hC dX12_letters_222 (v := (101 : Int32)) (by decide) ?_
    refine g_iconst hC dX12_letters_224 (v := (0 : Int32)) (by decide) ?_
    refine g_iconst hC dX12_letters_225 (v := (0 : Int32)) (by decide) ?_
    obtain ⟨r226, h226, h⟩ := oB_some h
    refine g_cS1 hC cs_X12_spelled wd_1884 ⟨Nat.le_of_ble_eq_true rfl, Nat.le_of_ble_eq_true rfl⟩ dX12_letters_226 (As := [.int (115 : Int32), .int (119 : Int32), .int (101 : Int32), .int (100 : Int32), .int (101 : Int32), .int (0 : Int32), .int (0 : Int32)]) (st := []) (ok_X12_spelled hC.2.2.2.2.2.2.2.1 hW h226) rfl rfl (Nat.le_of_ble_eq_true rfl) ⟨Nat.zero_le _, Nat.zero_le _⟩ ?_
    cases h
    exact g_lret hC hE rfl dX12_letters_229 (Nat.zero_le _) (Nat.zero_le _) ⟨rfl, rfl, rfl, rfl, rfl, rfl⟩
  replace h := (if_neg c1_8).symm.trans h
  by_cases c1_9 : v0 = (9 : Int32)
  · replace h := (if_pos c1_9).symm.trans h
    refine g_tabI hC dX12_letters_1 (off := 229) (tgt := 230) (by rw [c1_9]; decide) (by rw [c1_9]; decide) (by rw [c1_9]; rfl) (by decide) ?_
    refine g_bipush hC dX12_letters_230 (v := (109 : Int32)) (by decide) ?_
    refine g_bipush hC dX12_letters_232 (v := (97 : Int32)) (by decide) ?_
    refine g_bipush hC dX12_letters_234 (v := (110 : Int32)) (by decide) ?_
    refine g_bipush hC dX12_letters_236 (v := (103 : Int32)) (by decide) ?_
    refine g_bipush hC dX12_letters_238 (v := (111 : Int32)) (by decide) ?_
    refine g_bipush hC dX12_letters_240 (v := (108 : Int32)) (by decide) ?_
    refine g_bipush hC dX12_letters_242 (v := (100 : Int32)) (by decide) ?_
    obtain ⟨r244, h244, h⟩ := oB_some h
    refine g_cS1 hC cs_X12_spelled wd_1884 ⟨Nat.le_of_ble_eq_true rfl, Nat.le_of_ble_eq_true rfl⟩ dX12_letters_244 (As := [.int (109 : Int32), .int (97 : Int32), .int (110 : Int32), .int (103 : Int32), .int (111 : Int32), .int (108 : Int32), .int (100 : Int32)]) (st := []) (ok_X12_spelled hC.2.2.2.2.2.2.2.1 hW h244) rfl rfl (Nat.le_of_ble_eq_true rfl) ⟨Nat.zero_le _, Nat.zero_le _⟩ ?_
    cases h
    exact g_lret hC hE rfl dX12_letters_247 (Nat.zero_le _) (Nat.zero_le _) ⟨rfl, rfl, rfl, rfl, rfl, rfl⟩
  replace h := (if_neg c1_9).symm.trans h
  by_cases c1_10 : v0 = (10 : Int32)
  · replace h := (if_pos c1_10).symm.trans h
    refine g_tabI hC dX12_letters_1 (off := 247) (tgt := 248) (by rw [c1_10]; decide) (by rw [c1_10]; decide) (by rw [c1_10]; rfl) (by decide) ?_
    refine g_bipush hC dX12_letters_248 (v := (98 : Int32)) (by decide) ?_
    refine g_bipush hC dX12_letters_250 (v := (101 : Int32)) (by decide) ?_
    refine g_bipush hC dX12_letters_252 (v := (101 : Int32)) (by decide) ?_
    refine g_bipush hC dX12_letters_254 (v := (116 : Int32)) (by decide) ?_
    refine g_iconst hC dX12_letters_256 (v := (0 : Int32)) (by decide) ?_
    refine g_iconst hC dX12_letters_257 (v := (0 : Int32)) (by decide) ?_
    refine g_iconst hC dX12_letters_258 (v := (0 : Int32)) (by decide) ?_
    obtain ⟨r259, h259, h⟩ := oB_some h
    refine g_cS1 hC cs_X12_spelled wd_1884 ⟨Nat.le_of_ble_eq_true rfl, Nat.le_of_ble_eq_true rfl⟩ dX12_letters_259 (As := [.int (98 : Int32), .int (101 : Int32), .int (101 : Int32), .int (116 : Int32), .int (0 : Int32), .int (0 : Int32), .int (0 : Int32)]) (st := []) (ok_X12_spelled hC.2.2.2.2.2.2.2.1 hW h259) rfl rfl (Nat.le_of_ble_eq_true rfl) ⟨Nat.zero_le _, Nat.zero_le _⟩ ?_
    cases h
    exact g_lret hC hE rfl dX12_letters_262 (Nat.zero_le _) (Nat.zero_le _) ⟨rfl, rfl, rfl, rfl, rfl, rfl⟩
  replace h := (if_neg c1_10).symm.trans h
  by_cases c1_11 : v0 = (11 : Int32)
  · replace h := (if_pos c1_11).symm.trans h
    refine g_tabI hC dX12_letters_1 (off := 262) (tgt := 263) (by rw [c1_11]; decide) (by rw [c1_11]; decide) (by rw [c1_11]; rfl) (by decide) ?_
    refine g_bipush hC dX12_letters_263 (v := (108 : Int32)) (by decide) ?_
    refine g_bipush hC dX12_letters_265 (v := (97 : Int32)) (by decide) ?_
    refine g_bipush hC dX12_letters_267 (v := (115 : Int32)) (by decide) ?_
    refine g_bipush hC dX12_letters_269 (v := (116 : Int32)) (by decide) ?_
    refine g_bipush hC dX12_letters_271 (v := (115 : Int32)) (by decide) ?_
    refine g_iconst hC dX12_letters_273 (v := (0 : Int32)) (by decide) ?_
    refine g_iconst hC dX12_letters_274 (v := (0 : Int32)) (by decide) ?_
    obtain ⟨r275, h275, h⟩ := oB_some h
    refine g_cS1 hC cs_X12_spelled wd_1884 ⟨Nat.le_of_ble_eq_true rfl, Nat.le_of_ble_eq_true rfl⟩ dX12_letters_275 (As := [.int (108 : Int32), .int (97 : Int32), .int (115 : Int32), .int (116 : Int32), .int (115 : Int32), .int (0 : Int32), .int (0 : Int32)]) (st := []) (ok_X12_spelled hC.2.2.2.2.2.2.2.1 hW h275) rfl rfl (Nat.le_of_ble_eq_true rfl) ⟨Nat.zero_le _, Nat.zero_le _⟩ ?_
    cases h
    exact g_lret hC hE rfl dX12_letters_278 (Nat.zero_le _) (Nat.zero_le _) ⟨rfl, rfl, rfl, rfl, rfl, rfl⟩
  replace h := (if_neg c1_11).symm.trans h
  by_cases c1_12 : v0 = (12 : Int32)
  · replace h := (if_pos c1_12).symm.trans h
    refine g_tabI hC dX12_letters_1 (off := 278) (tgt := 279) (by rw [c1_12]; decide) (by rw [c1_12]; decide) (by rw [c1_12]; rfl) (by decide) ?_
    refine g_bipush hC dX12_letters_279 (v := (116 : Int32)) (by decide) ?_
    refine g_bipush hC dX12_letters_281 (v := (117 : Int32)) (by decide) ?_
    refine g_bipush hC dX12_letters_283 (v := (110 : Int32)) (by decide) ?_
    refine g_bipush hC dX12_letters_285 (v := (101 : Int32)) (by decide) ?_
    refine g_iconst hC dX12_letters_287 (v := (0 : Int32)) (by decide) ?_
    refine g_iconst hC dX12_letters_288 (v := (0 : Int32)) (by decide) ?_
    refine g_iconst hC dX12_letters_289 (v := (0 : Int32)) (by decide) ?_
    obtain ⟨r290, h290, h⟩ := oB_some h
    refine g_cS1 hC cs_X12_spelled wd_1884 ⟨Nat.le_of_ble_eq_true rfl, Nat.le_of_ble_eq_true rfl⟩ dX12_letters_290 (As := [.int (116 : Int32), .int (117 : Int32), .int (110 : Int32), .int (101 : Int32), .int (0 : Int32), .int (0 : Int32), .int (0 : Int32)]) (st := []) (ok_X12_spelled hC.2.2.2.2.2.2.2.1 hW h290) rfl rfl (Nat.le_of_ble_eq_true rfl) ⟨Nat.zero_le _, Nat.zero_le _⟩ ?_
    cases h
    exact g_lret hC hE rfl dX12_letters_293 (Nat.zero_le _) (Nat.zero_le _) ⟨rfl, rfl, rfl, rfl, rfl, rfl⟩
  replace h := (if_neg c1_12).symm.trans h
  by_cases c1_13 : v0 = (13 : Int32)
  · replace h := (if_pos c1_13).symm.trans h
    refine g_tabI hC dX12_letters_1 (off := 293) (tgt := 294) (by rw [c1_13]; decide) (by rw [c1_13]; decide) (by rw [c1_13]; rfl) (by decide) ?_
    refine g_bipush hC dX12_letters_294 (v := (109 : Int32)) (by decide) ?_
    refine g_bipush hC dX12_letters_296 (v := (101 : Int32)) (by decide) ?_
    refine g_bipush hC dX12_letters_298 (v := (116 : Int32)) (by decide) ?_
    refine g_bipush hC dX12_letters_300 (v := (104 : Int32)) (by decide) ?_
    refine g_bipush hC dX12_letters_302 (v := (111 : Int32)) (by decide) ?_
    refine g_bipush hC dX12_letters_304 (v := (100 : Int32)) (by decide) ?_
    refine g_iconst hC dX12_letters_306 (v := (0 : Int32)) (by decide) ?_
    obtain ⟨r307, h307, h⟩ := oB_some h
    refine g_cS1 hC cs_X12_spelled wd_1884 ⟨Nat.le_of_ble_eq_true rfl, Nat.le_of_ble_eq_true rfl⟩ dX12_letters_307 (As := [.int (109 : Int32), .int (101 : Int32), .int (116 : Int32), .int (104 : Int32), .int (111 : Int32), .int (100 : Int32), .int (0 : Int32)]) (st := []) (ok_X12_spelled hC.2.2.2.2.2.2.2.1 hW h307) rfl rfl (Nat.le_of_ble_eq_true rfl) ⟨Nat.zero_le _, Nat.zero_le _⟩ ?_
    cases h
    exact g_lret hC hE rfl dX12_letters_310 (Nat.zero_le _) (Nat.zero_le _) ⟨rfl, rfl, rfl, rfl, rfl, rfl⟩
  replace h := (if_neg c1_13).symm.trans h
  by_cases c1_14 : v0 = (14 : Int32)
  · replace h := (if_pos c1_14).symm.trans h
    refine g_tabI hC dX12_letters_1 (off := 310) (tgt := 311) (by rw [c1_14]; decide) (by rw [c1_14]; decide) (by rw [c1_14]; rfl) (by decide) ?_
    refine g_bipush hC dX12_letters_311 (v := (110 : Int32)) (by decide) ?_
    refine g_bipush hC dX12_letters_313 (v := (111 : Int32)) (by decide) ?_
    refine g_bipush hC dX12_letters_315 (v := (116 : Int32)) (by decide) ?_
    refine g_bipush hC dX12_letters_317 (v := (101 : Int32)) (by decide) ?_
    refine g_iconst hC dX12_letters_319 (v := (0 : Int32)) (by decide) ?_
    refine g_iconst hC dX12_letters_320 (v := (0 : Int32)) (by decide) ?_
    refine g_iconst hC dX12_letters_321 (v := (0 : Int32)) (by decide) ?_
    obtain ⟨r322, h322, h⟩ := oB_some h
    refine g_cS1 hC cs_X12_spelled wd_1884 ⟨Nat.le_of_ble_eq_true rfl, Nat.le_of_ble_eq_true rfl⟩ dX12_letters_322 (As := [.int (110 : Int32), .int (111 : Int32), .int (116 : Int32), .int (101 : Int32), .int (0 : Int32), .int (0 : Int32), .int (0 : Int32)]) (st := []) (ok_X12_spelled hC.2.2.2.2.2.2.2.1 hW h322) rfl rfl (Nat.le_of_ble_eq_true rfl) ⟨Nat.zero_le _, Nat.zero_le _⟩ ?_
    cases h
    exact g_lret hC hE rfl dX12_letters_325 (Nat.zero_le _) (Nat.zero_le _) ⟨rfl, rfl, rfl, rfl, rfl, rfl⟩
  replace h := (if_neg c1_14).symm.trans h
  by_cases c1_15 : v0 = (15 : Int32)
  · replace h := (if_pos c1_15).symm.trans h
    refine g_tabI hC dX12_letters_1 (off := 325) (tgt := 326) (by rw [c1_15]; decide) (by rw [c1_15]; decide) (by rw [c1_15]; rfl) (by decide) ?_
    refine g_bipush hC dX12_letters_326 (v := (103 : Int32)) (by decide) ?_
    refine g_bipush hC dX12_letters_328 (v := (114 : Int32)) (by decide) ?_
    refine g_bipush hC dX12_letters_330 (v := (111 : Int32)) (by decide) ?_
    refine g_bipush hC dX12_letters_332 (v := (119 : Int32)) (by decide) ?_
    refine g_bipush hC dX12_letters_334 (v := (115 : Int32)) (by decide) ?_
    refine g_iconst hC dX12_letters_336 (v := (0 : Int32)) (by decide) ?_
    refine g_iconst hC dX12_letters_337 (v := (0 : Int32)) (by decide) ?_
    obtain ⟨r338, h338, h⟩ := oB_some h
    refine g_cS1 hC cs_X12_spelled wd_1884 ⟨Nat.le_of_ble_eq_true rfl, Nat.le_of_ble_eq_true rfl⟩ dX12_letters_338 (As := [.int (103 : Int32), .int (114 : Int32), .int (111 : Int32), .int (119 : Int32), .int (115 : Int32), .int (0 : Int32), .int (0 : Int32)]) (st := []) (ok_X12_spelled hC.2.2.2.2.2.2.2.1 hW h338) rfl rfl (Nat.le_of_ble_eq_true rfl) ⟨Nat.zero_le _, Nat.zero_le _⟩ ?_
    cases h
    exact g_lret hC hE rfl dX12_letters_341 (Nat.zero_le _) (Nat.zero_le _) ⟨rfl, rfl, rfl, rfl, rfl, rfl⟩
  replace h := (if_neg c1_15).symm.trans h
  by_cases c1_16 : v0 = (16 : Int32)
  · replace h := (if_pos c1_16).symm.trans h
    refine g_tabI hC dX12_letters_1 (off := 341) (tgt := 342) (by rw [c1_16]; decide) (by rw [c1_16]; decide) (by rw [c1_16]; rfl) (by decide) ?_
    refine g_bipush hC dX12_letters_342 (v := (97 : Int32)) (by decide) ?_
    refine g_bipush hC dX12_letters_344 (v := (110 : Int32)) (by decide) ?_
    refine g_bipush hC dX12_letters_346 (v := (100 : Int32)) (by decide) ?_
    refine g_iconst hC dX12_letters_348 (v := (0 : Int32)) (by decide) ?_
    refine g_iconst hC dX12_letters_349 (v := (0 : Int32)) (by decide) ?_
    refine g_iconst hC dX12_letters_350 (v := (0 : Int32)) (by decide) ?_
    refine g_iconst hC dX12_letters_351 (v := (0 : Int32)) (by decide) ?_
    obtain ⟨r352, h352, h⟩ := oB_some h
    refine g_cS1 hC cs_X12_spelled wd_1884 ⟨Nat.le_of_ble_eq_true rfl, Nat.le_of_ble_eq_true rfl⟩ dX12_letters_352 (As := [.int (97 : Int32), .int (110 : Int32), .int (100 : Int32), .int (0 : Int32), .int (0 : Int32), .int (0 : Int32), .int (0 : Int32)]) (st := []) (ok_X12_spelled hC.2.2.2.2.2.2.2.1 hW h352) rfl rfl (Nat.le_of_ble_eq_true rfl) ⟨Nat.zero_le _, Nat.zero_le _⟩ ?_
    cases h
    exact g_lret hC hE rfl dX12_letters_355 (Nat.zero_le _) (Nat.zero_le _) ⟨rfl, rfl, rfl, rfl, rfl, rfl⟩
  replace h := (if_neg c1_16).symm.trans h
  by_cases c1_17 : v0 = (17 : Int32)
  · replace h := (if_pos c1_17).symm.trans h
    refine g_tabI hC dX12_letters_1 (off := 355) (tgt := 356) (by rw [c1_17]; decide) (by rw [c1_17]; decide) (by rw [c1_17]; rfl) (by decide) ?_
    refine g_bipush hC dX12_letters_356 (v := (111 : Int32)) (by decide) ?_
    refine g_bipush hC dX12_letters_358 (v := (114 : Int32)) (by decide) ?_
    refine g_iconst hC dX12_letters_360 (v := (0 : Int32)) (by decide) ?_
    refine g_iconst hC dX12_letters_361 (v := (0 : Int32)) (by decide) ?_
    refine g_iconst hC dX12_letters_362 (v := (0 : Int32)) (by decide) ?_
    refine g_iconst hC dX12_letters_363 (v := (0 : Int32)) (by decide) ?_
    refine g_iconst hC dX12_letters_364 (v := (0 : Int32)) (by decide) ?_
    obtain ⟨r365, h365, h⟩ := oB_some h
    refine g_cS1 hC cs_X12_spelled wd_1884 ⟨Nat.le_of_ble_eq_true rfl, Nat.le_of_ble_eq_true rfl⟩ dX12_letters_365 (As := [.int (111 : Int32), .int (114 : Int32), .int (0 : Int32), .int (0 : Int32), .int (0 : Int32), .int (0 : Int32), .int (0 : Int32)]) (st := []) (ok_X12_spelled hC.2.2.2.2.2.2.2.1 hW h365) rfl rfl (Nat.le_of_ble_eq_true rfl) ⟨Nat.zero_le _, Nat.zero_le _⟩ ?_
    cases h
    exact g_lret hC hE rfl dX12_letters_368 (Nat.zero_le _) (Nat.zero_le _) ⟨rfl, rfl, rfl, rfl, rfl, rfl⟩
  replace h := (if_neg c1_17).symm.trans h
  refine g_tabO hC dX12_letters_1 (sw_out (fun j hj1 hj2 => ?_)) (tgt := 369) (by decide) ?_
  · rcases (show j = 0 ∨ j = 1 ∨ j = 2 ∨ j = 3 ∨ j = 4 ∨ j = 5 ∨ j = 6 ∨ j = 7 ∨ j = 8 ∨ j = 9 ∨ j = 10 ∨ j = 11 ∨ j = 12 ∨ j = 13 ∨ j = 14 ∨ j = 15 ∨ j = 16 ∨ j = 17 by omega) with rfl | rfl | rfl | rfl | rfl | rfl | rfl | rfl | rfl | rfl | rfl | rfl | rfl | rfl | rfl | rfl | rfl | rfl <;> assumption
  refine g_bipush hC dX12_letters_369 (v := (110 : Int32)) (by decide) ?_
  refine g_bipush hC dX12_letters_371 (v := (111 : Int32)) (by decide) ?_
  refine g_bipush hC dX12_letters_373 (v := (116 : Int32)) (by decide) ?_
  refine g_iconst hC dX12_letters_375 (v := (0 : Int32)) (by decide) ?_
  refine g_iconst hC dX12_letters_376 (v := (0 : Int32)) (by decide) ?_
  refine g_iconst hC dX12_letters_377 (v := (0 : Int32)) (by decide) ?_
  refine g_iconst hC dX12_letters_378 (v := (0 : Int32)) (by decide) ?_
  obtain ⟨r379, h379, h⟩ := oB_some h
  refine g_cS1 hC cs_X12_spelled wd_1884 ⟨Nat.le_of_ble_eq_true rfl, Nat.le_of_ble_eq_true rfl⟩ dX12_letters_379 (As := [.int (110 : Int32), .int (111 : Int32), .int (116 : Int32), .int (0 : Int32), .int (0 : Int32), .int (0 : Int32), .int (0 : Int32)]) (st := []) (ok_X12_spelled hC.2.2.2.2.2.2.2.1 hW h379) rfl rfl (Nat.le_of_ble_eq_true rfl) ⟨Nat.zero_le _, Nat.zero_le _⟩ ?_
  cases h
  exact g_lret hC hE rfl dX12_letters_382 (Nat.zero_le _) (Nat.zero_le _) ⟨rfl, rfl, rfl, rfl, rfl, rfl⟩
noncomputable def b_X12_knownWord_21 (Fu : Nat) (I : mIT) (L : mLT) (k21_ : Int32 → Option (Int32)) (v1 : Int32) : Option (Int32) :=
  if (19 : Int32) ≤ v1 then (some (-1 : Int32)) else (oB (f_X12_letters Fu v1) (fun r28 => if (lg_cmp r28 (L 75 24)) = 0 then (some (v1)) else (k21_ (v1 + (1 : Int32)))))
set_option maxRecDepth 20000 in
theorem bo_X12_knownWord_21 {X : mXT} {E : mEn} {Fu : Nat} {I : mIT} {R : mRT} {L : mLT}  (hC : mC X E mX12_knownWord RX12 cX12_knownWord) (hW : mWd R)   {out : Int32} (hE : mEd X E 0 0 (mSame (some (.int (out))) 106 1 I R L)) (k21_ : Int32 → Option (Int32)) (hk21_ : ∀ (v1 : Int32),  k21_ v1 = some out → mG X E 21 [(0, .ref (mB E + 75)), (1, .int v1)] [] 106 1 I R L 0 0) (v1 : Int32) (h : b_X12_knownWord_21 Fu I L k21_ v1 = some out) : mG X E 21 [(0, .ref (mB E + 75)), (1, .int v1)] [] 106 1 I R L 0 0 := by
  unfold b_X12_knownWord_21 at h
  refine g_iload_n hC dX12_knownWord_21 rfl (q := 1) rfl ?_
  refine g_bipush hC dX12_knownWord_22 (v := (19 : Int32)) (by decide) ?_
  refine g_ic_ge hC dX12_knownWord_24 (tgt := 47) (by decide) (fun c24 => ?_) (fun c24 => ?_)
  · replace h := (if_pos c24).symm.trans h
    refine g_iconst hC dX12_knownWord_47 (v := (-1 : Int32)) (by decide) ?_
    cases h
    exact g_iret hC hE rfl dX12_knownWord_48 (Nat.zero_le _) (Nat.zero_le _) ⟨rfl, rfl, rfl, rfl, rfl, rfl⟩
  · replace h := (if_neg c24).symm.trans h
    refine g_iload_n hC dX12_knownWord_27 rfl (q := 1) rfl ?_
    obtain ⟨r28, h28, h⟩ := oB_some h
    refine g_cS1 hC cs_X12_letters wd_1881 ⟨Nat.le_of_ble_eq_true rfl, Nat.le_of_ble_eq_true rfl⟩ dX12_knownWord_28 (As := [.int v1]) (st := []) (ok_X12_letters hC.2.2.2.2.2.2.2.1 hW h28) rfl rfl (Nat.le_of_ble_eq_true rfl) ⟨Nat.zero_le _, Nat.zero_le _⟩ ?_
    refine g_aload_n hC dX12_knownWord_31 rfl (q := 0) rfl ?_
    refine g_getl hC fd_RX12_137 rfl (by decide) rfl dX12_knownWord_32 ?_
    refine g_lcmp hC dX12_knownWord_35 ?_
    refine g_if_ne hC dX12_knownWord_36 (tgt := 41) (by decide) (fun c36 => ?_) (fun c36 => ?_)
    · replace h := (if_neg c36).symm.trans h
      refine g_iinc hC dX12_knownWord_41 rfl (q := 1) rfl (w := (v1 + (1 : Int32))) rfl (by decide) (lv' := [(1, .int (v1 + (1 : Int32))), (0, .ref (mB E + 75))]) rfl ?_
      refine g_goto hC dX12_knownWord_44 (tgt := 21) (by decide) ?_
      refine g_lv [1, 0] rfl ?_
      exact hk21_ (v1 + (1 : Int32)) h
    · replace h := (if_pos c36).symm.trans h
      refine g_iload_n hC dX12_knownWord_39 rfl (q := 1) rfl ?_
      cases h
      exact g_iret hC hE rfl dX12_knownWord_40 (Nat.zero_le _) (Nat.zero_le _) ⟨rfl, rfl, rfl, rfl, rfl, rfl⟩
noncomputable def w_X12_knownWord_21 (Fu : Nat) (I : mIT) (L : mLT)  (N : Nat) (v1 : Int32) : Option (Int32) :=
  loopF (fun self (s : Int32) => b_X12_knownWord_21 Fu I L self s) N v1
theorem wo_X12_knownWord_21 {X : mXT} {E : mEn} {Fu : Nat} {I : mIT} {R : mRT} {L : mLT}  (hC : mC X E mX12_knownWord RX12 cX12_knownWord) (hW : mWd R)   {out : Int32} (hE : mEd X E 0 0 (mSame (some (.int (out))) 106 1 I R L))  (N : Nat) (v1 : Int32) (h : w_X12_knownWord_21 Fu I L  N v1 = some out) : mG X E 21 [(0, .ref (mB E + 75)), (1, .int v1)] [] 106 1 I R L 0 0 :=
  loopF_ok (Gd := fun s : Int32 => mG X E 21 [(0, .ref (mB E + 75)), (1, .int s)] [] 106 1 I R L 0 0) (fun self hs s h => bo_X12_knownWord_21 hC hW hE self (fun v1 h => hs v1 h) s h) N v1 h
noncomputable def f_X12_knownWord (Fu : Nat) (I : mIT) (L : mLT)  : Option (Int32) :=
  if (I 75 19) = (1 : Int32) then (if (I 75 21) ≤ (7 : Int32) then (w_X12_knownWord_21 Fu I L Fu (0 : Int32)) else (some (-1 : Int32))) else (some (-1 : Int32))
set_option maxRecDepth 20000 in
theorem ok_X12_knownWord {l : Launch} {E : mEn} {Fu : Nat} {I : mIT} {R : mRT} {L : mLT}  (hst : l.stackTraces = false) (hW : mWd R)  {out : Int32} (h : f_X12_knownWord Fu I L  = some out) : mOk l E mX12_knownWord [.ref (mB E + 75)] 106 1 I R L 0 0 (mSame (some (.int (out))) 106 1 I R L) := by
  refine mOk_of hst (by decide) (Nat.le_of_ble_eq_true rfl) (fun X hC hE _ => ?_)
  have hC : mC X E mX12_knownWord RX12 cX12_knownWord := hC
  show mG X E 0 [(0, .ref (mB E + 75))] [] 106 1 I R L 0 0
  unfold f_X12_knownWord at h
  refine g_aload_n hC dX12_knownWord_0 rfl (q := 0) rfl ?_
  refine g_geti hC fd_RX12_147 rfl (by decide) (Or.inl rfl) dX12_knownWord_1 ?_
  refine g_iconst hC dX12_knownWord_4 (v := (1 : Int32)) (by decide) ?_
  refine g_ic_ne hC dX12_knownWord_5 (tgt := 17) (by decide) (fun c5 => ?_) (fun c5 => ?_)
  · replace h := (if_neg c5).symm.trans h
    refine g_iconst hC dX12_knownWord_17 (v := (-1 : Int32)) (by decide) ?_
    cases h
    exact g_iret hC hE rfl dX12_knownWord_18 (Nat.zero_le _) (Nat.zero_le _) ⟨rfl, rfl, rfl, rfl, rfl, rfl⟩
  · replace h := (if_pos c5).symm.trans h
    refine g_aload_n hC dX12_knownWord_8 rfl (q := 0) rfl ?_
    refine g_geti hC fd_RX12_157 rfl (by decide) (Or.inl rfl) dX12_knownWord_9 ?_
    refine g_bipush hC dX12_knownWord_12 (v := (7 : Int32)) (by decide) ?_
    refine g_ic_le hC dX12_knownWord_14 (tgt := 19) (by decide) (fun c14 => ?_) (fun c14 => ?_)
    · replace h := (if_pos c14).symm.trans h
      refine g_iconst hC dX12_knownWord_19 (v := (0 : Int32)) (by decide) ?_
      refine g_istore_n hC dX12_knownWord_20 rfl rfl (by decide) (lv' := [(1, .int (0 : Int32)), (0, .ref (mB E + 75))]) rfl ?_
      refine g_lv [1, 0] rfl ?_
      exact wo_X12_knownWord_21 hC hW hE Fu ((0 : Int32)) h
    · replace h := (if_neg c14).symm.trans h
      refine g_iconst hC dX12_knownWord_17 (v := (-1 : Int32)) (by decide) ?_
      cases h
      exact g_iret hC hE rfl dX12_knownWord_18 (Nat.zero_le _) (Nat.zero_le _) ⟨rfl, rfl, rfl, rfl, rfl, rfl⟩
noncomputable def f_X12_waitsFor (Fu : Nat) (I : mIT) (v1 : Int32) : Option (mIT) :=
  oG (inB (I 75 33) 950) (some (mU (mU I 87 ((I 75 33)).toNatClampNeg v1) 75 33 (((mU I 87 ((I 75 33)).toNatClampNeg v1) 75 33) + (1 : Int32))))
set_option maxRecDepth 20000 in
theorem ok_X12_waitsFor {l : Launch} {E : mEn} {Fu : Nat} {I : mIT} {R : mRT} {L : mLT} {v1 : Int32} (hst : l.stackTraces = false) (hW : mWd R)  {out : mIT} (h : f_X12_waitsFor Fu I v1 = some out) : mOk l E mX12_waitsFor [.ref (mB E + 75), .int v1] 106 1 I R L 0 0 (mSame none 106 1 (out) R L) := by
  refine mOk_of hst (by decide) (Nat.le_of_ble_eq_true rfl) (fun X hC hE _ => ?_)
  have hC : mC X E mX12_waitsFor RX12 cX12_waitsFor := hC
  show mG X E 0 [(0, .ref (mB E + 75)), (1, .int v1)] [] 106 1 I R L 0 0
  unfold f_X12_waitsFor at h
  refine g_aload_n hC dX12_waitsFor_0 rfl (q := 0) rfl ?_
  refine g_getr hC fd_RX12_56 rfl (by decide) (C0 := "") (t0 := _) (Or.inr rfl) (rr_75_40 hW.1) dX12_waitsFor_1 ?_
  refine g_aload_n hC dX12_waitsFor_4 rfl (q := 0) rfl ?_
  refine g_geti hC fd_RX12_186 rfl (by decide) (Or.inl rfl) dX12_waitsFor_5 ?_
  refine g_iload_n hC dX12_waitsFor_8 rfl (q := 1) rfl ?_
  obtain ⟨g9, h⟩ := oG_some h
  refine g_iast hC rfl (by decide) (inB_in g9) dX12_waitsFor_9 (nm_e ?_)
  refine g_aload_n hC dX12_waitsFor_10 rfl (q := 0) rfl ?_
  refine g_dup hC dX12_waitsFor_11 rfl ?_
  refine g_geti hC fd_RX12_186 rfl (by decide) (Or.inl rfl) dX12_waitsFor_12 ?_
  refine g_iconst hC dX12_waitsFor_15 (v := (1 : Int32)) (by decide) ?_
  refine g_iadd hC dX12_waitsFor_16 ?_
  refine g_puti hC fd_RX12_186 rfl (by decide) rfl dX12_waitsFor_17 (nm_e ?_)
  cases h
  exact g_vret hC hE rfl dX12_waitsFor_20 (Nat.zero_le _) (Nat.zero_le _) ⟨rfl, rfl, rfl, rfl, rfl, rfl⟩
noncomputable def b_X12_part_73 (Fu : Nat)  (v1 : Int32) (I : mIT) (L : mLT) : Option (mIT × mLT) :=
  oB (f_X12_puts Fu I (2 : Int32)) (fun r75 => oB (f_X12_puts Fu r75 v1) (fun r80 => oB (f_X12_isGood Fu r80) (fun r92 => if r92 = 0 then (some (r80, L)) else (oB (f_X12_reads Fu r80 L) (fun r99 => some (r99.1, r99.2))))))
set_option maxRecDepth 20000 in
theorem bo_X12_part_73 {X : mXT} {E : mEn} {Fu : Nat} {R : mRT}  (hC : mC X E mX12_part RX12 cX12_part) (hW : mWd R)   {out : mIT × mLT} (hE : mEd X E 0 0 (mSame none 106 1 (out.1) R (out.2)))  (v1 : Int32) (I : mIT) (L : mLT) (h : b_X12_part_73 Fu  v1 I L = some out) : mG X E 73 [(0, .ref (mB E + 75)), (1, .int v1)] [] 106 1 I R L 0 0 := by
  unfold b_X12_part_73 at h
  refine g_aload_n hC dX12_part_73 rfl (q := 0) rfl ?_
  refine g_iconst hC dX12_part_74 (v := (2 : Int32)) (by decide) ?_
  obtain ⟨r75, h75, h⟩ := oB_some h
  refine g_cV0 hC cv_X12_puts wd_1942 ⟨Nat.le_of_ble_eq_true rfl, Nat.le_of_ble_eq_true rfl⟩ rfl (by decide) dX12_part_75 (As := [.int (2 : Int32)]) (st := []) (ok_X12_puts hC.2.2.2.2.2.2.2.1 hW h75) rfl rfl (Nat.le_of_ble_eq_true rfl) ⟨Nat.zero_le _, Nat.zero_le _⟩ ?_
  refine g_aload_n hC dX12_part_78 rfl (q := 0) rfl ?_
  refine g_iload_n hC dX12_part_79 rfl (q := 1) rfl ?_
  obtain ⟨r80, h80, h⟩ := oB_some h
  refine g_cV0 hC cv_X12_puts wd_1942 ⟨Nat.le_of_ble_eq_true rfl, Nat.le_of_ble_eq_true rfl⟩ rfl (by decide) dX12_part_80 (As := [.int v1]) (st := []) (ok_X12_puts hC.2.2.2.2.2.2.2.1 hW h80) rfl rfl (Nat.le_of_ble_eq_true rfl) ⟨Nat.zero_le _, Nat.zero_le _⟩ ?_
  refine g_goto hC dX12_part_83 (tgt := 91) (by decide) ?_
  refine g_aload_n hC dX12_part_91 rfl (q := 0) rfl ?_
  obtain ⟨r92, h92, h⟩ := oB_some h
  refine g_cV1 hC cv_X12_isGood wd_1869 ⟨Nat.le_of_ble_eq_true rfl, Nat.le_of_ble_eq_true rfl⟩ rfl (by decide) dX12_part_92 (As := []) (st := []) (ok_X12_isGood hC.2.2.2.2.2.2.2.1 hW h92) rfl rfl (Nat.le_of_ble_eq_true rfl) ⟨Nat.zero_le _, Nat.zero_le _⟩ ?_
  refine g_if_eq hC dX12_part_95 (tgt := 102) (by decide) (fun c95 => ?_) (fun c95 => ?_)
  · replace h := (if_pos c95).symm.trans h
    cases h
    exact g_vret hC hE rfl dX12_part_102 (Nat.zero_le _) (Nat.zero_le _) ⟨rfl, rfl, rfl, rfl, rfl, rfl⟩
  · replace h := (if_neg c95).symm.trans h
    refine g_aload_n hC dX12_part_98 rfl (q := 0) rfl ?_
    obtain ⟨r99, h99, h⟩ := oB_some h
    refine g_cV0 hC cv_X12_reads wd_1855 ⟨Nat.le_of_ble_eq_true rfl, Nat.le_of_ble_eq_true rfl⟩ rfl (by decide) dX12_part_99 (As := []) (st := []) (ok_X12_reads hC.2.2.2.2.2.2.2.1 hW h99) rfl rfl (Nat.le_of_ble_eq_true rfl) ⟨Nat.zero_le _, Nat.zero_le _⟩ ?_
    cases h
    exact g_vret hC hE rfl dX12_part_102 (Nat.zero_le _) (Nat.zero_le _) ⟨rfl, rfl, rfl, rfl, rfl, rfl⟩
noncomputable def b_X12_part_68 (Fu : Nat)  (v1 : Int32) (I : mIT) (L : mLT) : Option (mIT × mLT) :=
  oB (f_X12_wrong Fu I (3 : Int32)) (fun r70 => b_X12_part_73 Fu v1 r70 L)
set_option maxRecDepth 20000 in
theorem bo_X12_part_68 {X : mXT} {E : mEn} {Fu : Nat} {R : mRT}  (hC : mC X E mX12_part RX12 cX12_part) (hW : mWd R)   {out : mIT × mLT} (hE : mEd X E 0 0 (mSame none 106 1 (out.1) R (out.2)))  (v1 : Int32) (I : mIT) (L : mLT) (h : b_X12_part_68 Fu  v1 I L = some out) : mG X E 68 [(0, .ref (mB E + 75)), (1, .int v1)] [] 106 1 I R L 0 0 := by
  unfold b_X12_part_68 at h
  refine g_aload_n hC dX12_part_68 rfl (q := 0) rfl ?_
  refine g_iconst hC dX12_part_69 (v := (3 : Int32)) (by decide) ?_
  obtain ⟨r70, h70, h⟩ := oB_some h
  refine g_cV0 hC cv_X12_wrong wd_1892 ⟨Nat.le_of_ble_eq_true rfl, Nat.le_of_ble_eq_true rfl⟩ rfl (by decide) dX12_part_70 (As := [.int (3 : Int32)]) (st := []) (ok_X12_wrong hC.2.2.2.2.2.2.2.1 hW h70) rfl rfl (Nat.le_of_ble_eq_true rfl) ⟨Nat.zero_le _, Nat.zero_le _⟩ ?_
  exact bo_X12_part_73 hC hW hE (v1) (r70) (L) h
noncomputable def b_X12_part_29 (Fu : Nat)  (I : mIT) (L : mLT) : Option (mIT × mLT) :=
  oB (f_X12_puts Fu I (1 : Int32)) (fun r31 => oB (f_X12_puts Fu r31 (r31 75 22)) (fun r39 => oB (f_X12_isGood Fu r39) (fun r92 => if r92 = 0 then (some (r39, L)) else (oB (f_X12_reads Fu r39 L) (fun r99 => some (r99.1, r99.2))))))
set_option maxRecDepth 20000 in
theorem bo_X12_part_29 {X : mXT} {E : mEn} {Fu : Nat} {R : mRT}  (hC : mC X E mX12_part RX12 cX12_part) (hW : mWd R)   {out : mIT × mLT} (hE : mEd X E 0 0 (mSame none 106 1 (out.1) R (out.2)))  (I : mIT) (L : mLT) (h : b_X12_part_29 Fu  I L = some out) : mG X E 29 [(0, .ref (mB E + 75))] [] 106 1 I R L 0 0 := by
  unfold b_X12_part_29 at h
  refine g_aload_n hC dX12_part_29 rfl (q := 0) rfl ?_
  refine g_iconst hC dX12_part_30 (v := (1 : Int32)) (by decide) ?_
  obtain ⟨r31, h31, h⟩ := oB_some h
  refine g_cV0 hC cv_X12_puts wd_1942 ⟨Nat.le_of_ble_eq_true rfl, Nat.le_of_ble_eq_true rfl⟩ rfl (by decide) dX12_part_31 (As := [.int (1 : Int32)]) (st := []) (ok_X12_puts hC.2.2.2.2.2.2.2.1 hW h31) rfl rfl (Nat.le_of_ble_eq_true rfl) ⟨Nat.zero_le _, Nat.zero_le _⟩ ?_
  refine g_aload_n hC dX12_part_34 rfl (q := 0) rfl ?_
  refine g_aload_n hC dX12_part_35 rfl (q := 0) rfl ?_
  refine g_geti hC fd_RX12_141 rfl (by decide) (Or.inl rfl) dX12_part_36 ?_
  obtain ⟨r39, h39, h⟩ := oB_some h
  refine g_cV0 hC cv_X12_puts wd_1942 ⟨Nat.le_of_ble_eq_true rfl, Nat.le_of_ble_eq_true rfl⟩ rfl (by decide) dX12_part_39 (As := [.int (r31 75 22)]) (st := []) (ok_X12_puts hC.2.2.2.2.2.2.2.1 hW h39) rfl rfl (Nat.le_of_ble_eq_true rfl) ⟨Nat.zero_le _, Nat.zero_le _⟩ ?_
  refine g_goto hC dX12_part_42 (tgt := 91) (by decide) ?_
  refine g_aload_n hC dX12_part_91 rfl (q := 0) rfl ?_
  obtain ⟨r92, h92, h⟩ := oB_some h
  refine g_cV1 hC cv_X12_isGood wd_1869 ⟨Nat.le_of_ble_eq_true rfl, Nat.le_of_ble_eq_true rfl⟩ rfl (by decide) dX12_part_92 (As := []) (st := []) (ok_X12_isGood hC.2.2.2.2.2.2.2.1 hW h92) rfl rfl (Nat.le_of_ble_eq_true rfl) ⟨Nat.zero_le _, Nat.zero_le _⟩ ?_
  refine g_if_eq hC dX12_part_95 (tgt := 102) (by decide) (fun c95 => ?_) (fun c95 => ?_)
  · replace h := (if_pos c95).symm.trans h
    cases h
    exact g_vret hC hE rfl dX12_part_102 (Nat.zero_le _) (Nat.zero_le _) ⟨rfl, rfl, rfl, rfl, rfl, rfl⟩
  · replace h := (if_neg c95).symm.trans h
    refine g_aload_n hC dX12_part_98 rfl (q := 0) rfl ?_
    obtain ⟨r99, h99, h⟩ := oB_some h
    refine g_cV0 hC cv_X12_reads wd_1855 ⟨Nat.le_of_ble_eq_true rfl, Nat.le_of_ble_eq_true rfl⟩ rfl (by decide) dX12_part_99 (As := []) (st := []) (ok_X12_reads hC.2.2.2.2.2.2.2.1 hW h99) rfl rfl (Nat.le_of_ble_eq_true rfl) ⟨Nat.zero_le _, Nat.zero_le _⟩ ?_
    cases h
    exact g_vret hC hE rfl dX12_part_102 (Nat.zero_le _) (Nat.zero_le _) ⟨rfl, rfl, rfl, rfl, rfl, rfl⟩
noncomputable def f_X12_part (Fu : Nat) (I : mIT) (L : mLT)  : Option (mIT × mLT) :=
  oB (f_X12_isGood Fu I) (fun r1 => if r1 = 0 then (some (I, L)) else (if (I 75 19) = (2 : Int32) then (if (I 75 21) ≤ (4 : Int32) then (b_X12_part_29 Fu I L) else (oB (f_X12_wrong Fu I (2 : Int32)) (fun r26 => b_X12_part_29 Fu r26 L))) else (if (I 75 19) = (1 : Int32) then (oB (f_X12_knownWord Fu I L) (fun r54 => if r54 < 0 then (b_X12_part_68 Fu r54 I L) else (if r54 ≤ (6 : Int32) then (b_X12_part_73 Fu r54 I L) else (b_X12_part_68 Fu r54 I L)))) else (oB (f_X12_wrong Fu I (1 : Int32)) (fun r88 => oB (f_X12_isGood Fu r88) (fun r92 => if r92 = 0 then (some (r88, L)) else (oB (f_X12_reads Fu r88 L) (fun r99 => some (r99.1, r99.2)))))))))
set_option maxRecDepth 20000 in
theorem ok_X12_part {l : Launch} {E : mEn} {Fu : Nat} {I : mIT} {R : mRT} {L : mLT}  (hst : l.stackTraces = false) (hW : mWd R)  {out : mIT × mLT} (h : f_X12_part Fu I L  = some out) : mOk l E mX12_part [.ref (mB E + 75)] 106 1 I R L 0 0 (mSame none 106 1 (out.1) R (out.2)) := by
  refine mOk_of hst (by decide) (Nat.le_of_ble_eq_true rfl) (fun X hC hE _ => ?_)
  have hC : mC X E mX12_part RX12 cX12_part := hC
  show mG X E 0 [(0, .ref (mB E + 75))] [] 106 1 I R L 0 0
  unfold f_X12_part at h
  refine g_aload_n hC dX12_part_0 rfl (q := 0) rfl ?_
  obtain ⟨r1, h1, h⟩ := oB_some h
  refine g_cV1 hC cv_X12_isGood wd_1869 ⟨Nat.le_of_ble_eq_true rfl, Nat.le_of_ble_eq_true rfl⟩ rfl (by decide) dX12_part_1 (As := []) (st := []) (ok_X12_isGood hC.2.2.2.2.2.2.2.1 hW h1) rfl rfl (Nat.le_of_ble_eq_true rfl) ⟨Nat.zero_le _, Nat.zero_le _⟩ ?_
  refine g_if_ne hC dX12_part_4 (tgt := 8) (by decide) (fun c4 => ?_) (fun c4 => ?_)
  · replace h := (if_neg c4).symm.trans h
    refine g_aload_n hC dX12_part_8 rfl (q := 0) rfl ?_
    refine g_geti hC fd_RX12_147 rfl (by decide) (Or.inl rfl) dX12_part_9 ?_
    refine g_iconst hC dX12_part_12 (v := (2 : Int32)) (by decide) ?_
    refine g_ic_ne hC dX12_part_13 (tgt := 45) (by decide) (fun c13 => ?_) (fun c13 => ?_)
    · replace h := (if_neg c13).symm.trans h
      refine g_aload_n hC dX12_part_45 rfl (q := 0) rfl ?_
      refine g_geti hC fd_RX12_147 rfl (by decide) (Or.inl rfl) dX12_part_46 ?_
      refine g_iconst hC dX12_part_49 (v := (1 : Int32)) (by decide) ?_
      refine g_ic_ne hC dX12_part_50 (tgt := 86) (by decide) (fun c50 => ?_) (fun c50 => ?_)
      · replace h := (if_neg c50).symm.trans h
        refine g_aload_n hC dX12_part_86 rfl (q := 0) rfl ?_
        refine g_iconst hC dX12_part_87 (v := (1 : Int32)) (by decide) ?_
        obtain ⟨r88, h88, h⟩ := oB_some h
        refine g_cV0 hC cv_X12_wrong wd_1892 ⟨Nat.le_of_ble_eq_true rfl, Nat.le_of_ble_eq_true rfl⟩ rfl (by decide) dX12_part_88 (As := [.int (1 : Int32)]) (st := []) (ok_X12_wrong hC.2.2.2.2.2.2.2.1 hW h88) rfl rfl (Nat.le_of_ble_eq_true rfl) ⟨Nat.zero_le _, Nat.zero_le _⟩ ?_
        refine g_aload_n hC dX12_part_91 rfl (q := 0) rfl ?_
        obtain ⟨r92, h92, h⟩ := oB_some h
        refine g_cV1 hC cv_X12_isGood wd_1869 ⟨Nat.le_of_ble_eq_true rfl, Nat.le_of_ble_eq_true rfl⟩ rfl (by decide) dX12_part_92 (As := []) (st := []) (ok_X12_isGood hC.2.2.2.2.2.2.2.1 hW h92) rfl rfl (Nat.le_of_ble_eq_true rfl) ⟨Nat.zero_le _, Nat.zero_le _⟩ ?_
        refine g_if_eq hC dX12_part_95 (tgt := 102) (by decide) (fun c95 => ?_) (fun c95 => ?_)
        · replace h := (if_pos c95).symm.trans h
          cases h
          exact g_vret hC hE rfl dX12_part_102 (Nat.zero_le _) (Nat.zero_le _) ⟨rfl, rfl, rfl, rfl, rfl, rfl⟩
        · replace h := (if_neg c95).symm.trans h
          refine g_aload_n hC dX12_part_98 rfl (q := 0) rfl ?_
          obtain ⟨r99, h99, h⟩ := oB_some h
          refine g_cV0 hC cv_X12_reads wd_1855 ⟨Nat.le_of_ble_eq_true rfl, Nat.le_of_ble_eq_true rfl⟩ rfl (by decide) dX12_part_99 (As := []) (st := []) (ok_X12_reads hC.2.2.2.2.2.2.2.1 hW h99) rfl rfl (Nat.le_of_ble_eq_true rfl) ⟨Nat.zero_le _, Nat.zero_le _⟩ ?_
          cases h
          exact g_vret hC hE rfl dX12_part_102 (Nat.zero_le _) (Nat.zero_le _) ⟨rfl, rfl, rfl, rfl, rfl, rfl⟩
      · replace h := (if_pos c50).symm.trans h
        refine g_aload_n hC dX12_part_53 rfl (q := 0) rfl ?_
        obtain ⟨r54, h54, h⟩ := oB_some h
        refine g_cV1 hC cv_X12_knownWord wd_1877 ⟨Nat.le_of_ble_eq_true rfl, Nat.le_of_ble_eq_true rfl⟩ rfl (by decide) dX12_part_54 (As := []) (st := []) (ok_X12_knownWord hC.2.2.2.2.2.2.2.1 hW h54) rfl rfl (Nat.le_of_ble_eq_true rfl) ⟨Nat.zero_le _, Nat.zero_le _⟩ ?_
        refine g_istore_n hC dX12_part_57 rfl rfl (by decide) (lv' := [(1, .int r54), (0, .ref (mB E + 75))]) rfl ?_
        refine g_iload_n hC dX12_part_58 rfl (q := 0) rfl ?_
        refine g_if_lt hC dX12_part_59 (tgt := 68) (by decide) (fun c59 => ?_) (fun c59 => ?_)
        · replace h := (if_pos c59).symm.trans h
          refine g_lv [1, 0] rfl ?_
          exact bo_X12_part_68 hC hW hE (r54) (I) (L) h
        · replace h := (if_neg c59).symm.trans h
          refine g_iload_n hC dX12_part_62 rfl (q := 0) rfl ?_
          refine g_bipush hC dX12_part_63 (v := (6 : Int32)) (by decide) ?_
          refine g_ic_le hC dX12_part_65 (tgt := 73) (by decide) (fun c65 => ?_) (fun c65 => ?_)
          · replace h := (if_pos c65).symm.trans h
            refine g_lv [1, 0] rfl ?_
            exact bo_X12_part_73 hC hW hE (r54) (I) (L) h
          · replace h := (if_neg c65).symm.trans h
            refine g_lv [1, 0] rfl ?_
            exact bo_X12_part_68 hC hW hE (r54) (I) (L) h
    · replace h := (if_pos c13).symm.trans h
      refine g_aload_n hC dX12_part_16 rfl (q := 0) rfl ?_
      refine g_geti hC fd_RX12_157 rfl (by decide) (Or.inl rfl) dX12_part_17 ?_
      refine g_iconst hC dX12_part_20 (v := (4 : Int32)) (by decide) ?_
      refine g_ic_le hC dX12_part_21 (tgt := 29) (by decide) (fun c21 => ?_) (fun c21 => ?_)
      · replace h := (if_pos c21).symm.trans h
        exact bo_X12_part_29 hC hW hE (I) (L) h
      · replace h := (if_neg c21).symm.trans h
        refine g_aload_n hC dX12_part_24 rfl (q := 0) rfl ?_
        refine g_iconst hC dX12_part_25 (v := (2 : Int32)) (by decide) ?_
        obtain ⟨r26, h26, h⟩ := oB_some h
        refine g_cV0 hC cv_X12_wrong wd_1892 ⟨Nat.le_of_ble_eq_true rfl, Nat.le_of_ble_eq_true rfl⟩ rfl (by decide) dX12_part_26 (As := [.int (2 : Int32)]) (st := []) (ok_X12_wrong hC.2.2.2.2.2.2.2.1 hW h26) rfl rfl (Nat.le_of_ble_eq_true rfl) ⟨Nat.zero_le _, Nat.zero_le _⟩ ?_
        exact bo_X12_part_29 hC hW hE (r26) (L) h
  · replace h := (if_pos c4).symm.trans h
    cases h
    exact g_vret hC hE rfl dX12_part_7 (Nat.zero_le _) (Nat.zero_le _) ⟨rfl, rfl, rfl, rfl, rfl, rfl⟩
noncomputable def b_X12_operand_96 (Fu : Nat) (k4_ : Int32 × Int32 × mIT × mLT → Option (mIT × mLT)) (v2 : Int32) (s0 : Int32) (I : mIT) (L : mLT) : Option (mIT × mLT) :=
  if s0 = 0 then (k4_ (v2, s0, I, L)) else (oB (f_X12_waitsFor Fu I (14 : Int32)) (fun r104 => oB (f_X12_reads Fu r104 L) (fun r108 => oB (f_X12_deeper Fu r108.1) (fun r112 => k4_ ((1 : Int32), s0, r112, r108.2)))))
set_option maxRecDepth 20000 in
theorem bo_X12_operand_96 {X : mXT} {E : mEn} {Fu : Nat} {R : mRT}  (hC : mC X E mX12_operand RX12 cX12_operand) (hW : mWd R)   {out : mIT × mLT} (hE : mEd X E 0 0 (mSame none 106 1 (out.1) R (out.2))) (k4_ : Int32 × Int32 × mIT × mLT → Option (mIT × mLT)) (hk4_ : ∀ (v2 : Int32) (v3 : Int32) (I : mIT) (L : mLT),  k4_ (v2, v3, I, L) = some out → mG X E 4 [(0, .ref (mB E + 75)), (2, .int v2), (3, .int v3)] [] 106 1 I R L 0 0) (v2 : Int32) (s0 : Int32) (I : mIT) (L : mLT) (h : b_X12_operand_96 Fu k4_ v2 s0 I L = some out) : mG X E 96 [(0, .ref (mB E + 75)), (2, .int v2)] [.int s0] 106 1 I R L 0 0 := by
  unfold b_X12_operand_96 at h
  refine g_istore_n hC dX12_operand_96 rfl rfl (by decide) (lv' := [(3, .int s0), (0, .ref (mB E + 75)), (2, .int v2)]) rfl ?_
  refine g_iload_n hC dX12_operand_97 rfl (q := 0) rfl ?_
  refine g_if_eq hC dX12_operand_98 (tgt := 117) (by decide) (fun c98 => ?_) (fun c98 => ?_)
  · replace h := (if_pos c98).symm.trans h
    refine g_goto hC dX12_operand_117 (tgt := 4) (by decide) ?_
    refine g_lv [1, 2, 0] rfl ?_
    exact hk4_ v2 s0 I L h
  · replace h := (if_neg c98).symm.trans h
    refine g_aload_n hC dX12_operand_101 rfl (q := 1) rfl ?_
    refine g_bipush hC dX12_operand_102 (v := (14 : Int32)) (by decide) ?_
    obtain ⟨r104, h104, h⟩ := oB_some h
    refine g_cV0 hC cv_X12_waitsFor wd_1934 ⟨Nat.le_of_ble_eq_true rfl, Nat.le_of_ble_eq_true rfl⟩ rfl (by decide) dX12_operand_104 (As := [.int (14 : Int32)]) (st := []) (ok_X12_waitsFor hC.2.2.2.2.2.2.2.1 hW h104) rfl rfl (Nat.le_of_ble_eq_true rfl) ⟨Nat.zero_le _, Nat.zero_le _⟩ ?_
    refine g_aload_n hC dX12_operand_107 rfl (q := 1) rfl ?_
    obtain ⟨r108, h108, h⟩ := oB_some h
    refine g_cV0 hC cv_X12_reads wd_1855 ⟨Nat.le_of_ble_eq_true rfl, Nat.le_of_ble_eq_true rfl⟩ rfl (by decide) dX12_operand_108 (As := []) (st := []) (ok_X12_reads hC.2.2.2.2.2.2.2.1 hW h108) rfl rfl (Nat.le_of_ble_eq_true rfl) ⟨Nat.zero_le _, Nat.zero_le _⟩ ?_
    refine g_aload_n hC dX12_operand_111 rfl (q := 1) rfl ?_
    obtain ⟨r112, h112, h⟩ := oB_some h
    refine g_cV0 hC cv_X12_deeper wd_1922 ⟨Nat.le_of_ble_eq_true rfl, Nat.le_of_ble_eq_true rfl⟩ rfl (by decide) dX12_operand_112 (As := []) (st := []) (ok_X12_deeper hC.2.2.2.2.2.2.2.1 hW h112) rfl rfl (Nat.le_of_ble_eq_true rfl) ⟨Nat.zero_le _, Nat.zero_le _⟩ ?_
    refine g_iconst hC dX12_operand_115 (v := (1 : Int32)) (by decide) ?_
    refine g_istore_n hC dX12_operand_116 rfl rfl (by decide) (lv' := [(2, .int (1 : Int32)), (3, .int s0), (0, .ref (mB E + 75))]) rfl ?_
    refine g_goto hC dX12_operand_117 (tgt := 4) (by decide) ?_
    refine g_lv [2, 0, 1] rfl ?_
    exact hk4_ (1 : Int32) s0 r112 r108.2 h
noncomputable def b_X12_operand_95 (Fu : Nat) (k4_ : Int32 × Int32 × mIT × mLT → Option (mIT × mLT)) (v2 : Int32) (I : mIT) (L : mLT) : Option (mIT × mLT) :=
  b_X12_operand_96 Fu k4_ v2 (0 : Int32) I L
set_option maxRecDepth 20000 in
theorem bo_X12_operand_95 {X : mXT} {E : mEn} {Fu : Nat} {R : mRT}  (hC : mC X E mX12_operand RX12 cX12_operand) (hW : mWd R)   {out : mIT × mLT} (hE : mEd X E 0 0 (mSame none 106 1 (out.1) R (out.2))) (k4_ : Int32 × Int32 × mIT × mLT → Option (mIT × mLT)) (hk4_ : ∀ (v2 : Int32) (v3 : Int32) (I : mIT) (L : mLT),  k4_ (v2, v3, I, L) = some out → mG X E 4 [(0, .ref (mB E + 75)), (2, .int v2), (3, .int v3)] [] 106 1 I R L 0 0) (v2 : Int32) (I : mIT) (L : mLT) (h : b_X12_operand_95 Fu k4_ v2 I L = some out) : mG X E 95 [(0, .ref (mB E + 75)), (2, .int v2)] [] 106 1 I R L 0 0 := by
  unfold b_X12_operand_95 at h
  refine g_iconst hC dX12_operand_95 (v := (0 : Int32)) (by decide) ?_
  exact bo_X12_operand_96 hC hW hE k4_ hk4_ (v2) ((0 : Int32)) (I) (L) h
noncomputable def b_X12_operand_75 (Fu : Nat) (k4_ : Int32 × Int32 × mIT × mLT → Option (mIT × mLT)) (v2 : Int32) (I : mIT) (L : mLT) : Option (mIT × mLT) :=
  oB (f_X12_isGood Fu I) (fun r76 => if r76 = 0 then (b_X12_operand_95 Fu k4_ v2 I L) else (oB (f_X12_isSign Fu I (40 : Int32)) (fun r85 => if r85 = 0 then (b_X12_operand_95 Fu k4_ v2 I L) else (b_X12_operand_96 Fu k4_ v2 (1 : Int32) I L))))
set_option maxRecDepth 20000 in
theorem bo_X12_operand_75 {X : mXT} {E : mEn} {Fu : Nat} {R : mRT}  (hC : mC X E mX12_operand RX12 cX12_operand) (hW : mWd R)   {out : mIT × mLT} (hE : mEd X E 0 0 (mSame none 106 1 (out.1) R (out.2))) (k4_ : Int32 × Int32 × mIT × mLT → Option (mIT × mLT)) (hk4_ : ∀ (v2 : Int32) (v3 : Int32) (I : mIT) (L : mLT),  k4_ (v2, v3, I, L) = some out → mG X E 4 [(0, .ref (mB E + 75)), (2, .int v2), (3, .int v3)] [] 106 1 I R L 0 0) (v2 : Int32) (I : mIT) (L : mLT) (h : b_X12_operand_75 Fu k4_ v2 I L = some out) : mG X E 75 [(0, .ref (mB E + 75)), (2, .int v2)] [] 106 1 I R L 0 0 := by
  unfold b_X12_operand_75 at h
  refine g_aload_n hC dX12_operand_75 rfl (q := 0) rfl ?_
  obtain ⟨r76, h76, h⟩ := oB_some h
  refine g_cV1 hC cv_X12_isGood wd_1869 ⟨Nat.le_of_ble_eq_true rfl, Nat.le_of_ble_eq_true rfl⟩ rfl (by decide) dX12_operand_76 (As := []) (st := []) (ok_X12_isGood hC.2.2.2.2.2.2.2.1 hW h76) rfl rfl (Nat.le_of_ble_eq_true rfl) ⟨Nat.zero_le _, Nat.zero_le _⟩ ?_
  refine g_if_eq hC dX12_operand_79 (tgt := 95) (by decide) (fun c79 => ?_) (fun c79 => ?_)
  · replace h := (if_pos c79).symm.trans h
    exact bo_X12_operand_95 hC hW hE k4_ hk4_ (v2) (I) (L) h
  · replace h := (if_neg c79).symm.trans h
    refine g_aload_n hC dX12_operand_82 rfl (q := 0) rfl ?_
    refine g_bipush hC dX12_operand_83 (v := (40 : Int32)) (by decide) ?_
    obtain ⟨r85, h85, h⟩ := oB_some h
    refine g_cV1 hC cv_X12_isSign wd_1926 ⟨Nat.le_of_ble_eq_true rfl, Nat.le_of_ble_eq_true rfl⟩ rfl (by decide) dX12_operand_85 (As := [.int (40 : Int32)]) (st := []) (ok_X12_isSign hC.2.2.2.2.2.2.2.1 hW h85) rfl rfl (Nat.le_of_ble_eq_true rfl) ⟨Nat.zero_le _, Nat.zero_le _⟩ ?_
    refine g_if_eq hC dX12_operand_88 (tgt := 95) (by decide) (fun c88 => ?_) (fun c88 => ?_)
    · replace h := (if_pos c88).symm.trans h
      exact bo_X12_operand_95 hC hW hE k4_ hk4_ (v2) (I) (L) h
    · replace h := (if_neg c88).symm.trans h
      refine g_iconst hC dX12_operand_91 (v := (1 : Int32)) (by decide) ?_
      refine g_goto hC dX12_operand_92 (tgt := 96) (by decide) ?_
      exact bo_X12_operand_96 hC hW hE k4_ hk4_ (v2) ((1 : Int32)) (I) (L) h
noncomputable def b_X12_operand_50 (Fu : Nat) (k4_ : Int32 × Int32 × mIT × mLT → Option (mIT × mLT)) (k18_ : Int32 × Int32 × mIT × mLT → Option (mIT × mLT)) (v2 : Int32) (v4 : Int32) (I : mIT) (L : mLT) : Option (mIT × mLT) :=
  oB (f_X12_isGood Fu I) (fun r54 => if r54 = 0 then (k18_ (v2, (v4 + (1 : Int32)), I, L)) else (oB (f_X12_waitsFor Fu I (3 : Int32)) (fun r65 => oB (f_X12_reads Fu r65 L) (fun r69 => k18_ (v2, (v4 + (1 : Int32)), r69.1, r69.2)))))
set_option maxRecDepth 20000 in
theorem bo_X12_operand_50 {X : mXT} {E : mEn} {Fu : Nat} {R : mRT}  (hC : mC X E mX12_operand RX12 cX12_operand) (hW : mWd R)   {out : mIT × mLT} (hE : mEd X E 0 0 (mSame none 106 1 (out.1) R (out.2))) (k4_ : Int32 × Int32 × mIT × mLT → Option (mIT × mLT)) (hk4_ : ∀ (v2 : Int32) (v3 : Int32) (I : mIT) (L : mLT),  k4_ (v2, v3, I, L) = some out → mG X E 4 [(0, .ref (mB E + 75)), (2, .int v2), (3, .int v3)] [] 106 1 I R L 0 0) (k18_ : Int32 × Int32 × mIT × mLT → Option (mIT × mLT)) (hk18_ : ∀ (v2 : Int32) (v4 : Int32) (I : mIT) (L : mLT),  k18_ (v2, v4, I, L) = some out → mG X E 18 [(0, .ref (mB E + 75)), (2, .int v2), (4, .int v4)] [] 106 1 I R L 0 0) (v2 : Int32) (v4 : Int32) (I : mIT) (L : mLT) (h : b_X12_operand_50 Fu k4_ k18_ v2 v4 I L = some out) : mG X E 50 [(0, .ref (mB E + 75)), (2, .int v2), (4, .int v4)] [] 106 1 I R L 0 0 := by
  unfold b_X12_operand_50 at h
  refine g_iinc hC dX12_operand_50 rfl (q := 2) rfl (w := (v4 + (1 : Int32))) rfl (by decide) (lv' := [(4, .int (v4 + (1 : Int32))), (0, .ref (mB E + 75)), (2, .int v2)]) rfl ?_
  refine g_aload_n hC dX12_operand_53 rfl (q := 1) rfl ?_
  obtain ⟨r54, h54, h⟩ := oB_some h
  refine g_cV1 hC cv_X12_isGood wd_1869 ⟨Nat.le_of_ble_eq_true rfl, Nat.le_of_ble_eq_true rfl⟩ rfl (by decide) dX12_operand_54 (As := []) (st := []) (ok_X12_isGood hC.2.2.2.2.2.2.2.1 hW h54) rfl rfl (Nat.le_of_ble_eq_true rfl) ⟨Nat.zero_le _, Nat.zero_le _⟩ ?_
  refine g_if_ne hC dX12_operand_57 (tgt := 63) (by decide) (fun c57 => ?_) (fun c57 => ?_)
  · replace h := (if_neg c57).symm.trans h
    refine g_aload_n hC dX12_operand_63 rfl (q := 1) rfl ?_
    refine g_iconst hC dX12_operand_64 (v := (3 : Int32)) (by decide) ?_
    obtain ⟨r65, h65, h⟩ := oB_some h
    refine g_cV0 hC cv_X12_waitsFor wd_1934 ⟨Nat.le_of_ble_eq_true rfl, Nat.le_of_ble_eq_true rfl⟩ rfl (by decide) dX12_operand_65 (As := [.int (3 : Int32)]) (st := []) (ok_X12_waitsFor hC.2.2.2.2.2.2.2.1 hW h65) rfl rfl (Nat.le_of_ble_eq_true rfl) ⟨Nat.zero_le _, Nat.zero_le _⟩ ?_
    refine g_aload_n hC dX12_operand_68 rfl (q := 1) rfl ?_
    obtain ⟨r69, h69, h⟩ := oB_some h
    refine g_cV0 hC cv_X12_reads wd_1855 ⟨Nat.le_of_ble_eq_true rfl, Nat.le_of_ble_eq_true rfl⟩ rfl (by decide) dX12_operand_69 (As := []) (st := []) (ok_X12_reads hC.2.2.2.2.2.2.2.1 hW h69) rfl rfl (Nat.le_of_ble_eq_true rfl) ⟨Nat.zero_le _, Nat.zero_le _⟩ ?_
    refine g_goto hC dX12_operand_72 (tgt := 18) (by decide) ?_
    refine g_lv [1, 2, 0] rfl ?_
    exact hk18_ v2 (v4 + (1 : Int32)) r69.1 r69.2 h
  · replace h := (if_pos c57).symm.trans h
    refine g_goto hC dX12_operand_60 (tgt := 18) (by decide) ?_
    refine g_lv [1, 2, 0] rfl ?_
    exact hk18_ v2 (v4 + (1 : Int32)) I L h
noncomputable def b_X12_operand_18 (Fu : Nat) (k4_ : Int32 × Int32 × mIT × mLT → Option (mIT × mLT)) (k18_ : Int32 × Int32 × mIT × mLT → Option (mIT × mLT)) (v2 : Int32) (v4 : Int32) (I : mIT) (L : mLT) : Option (mIT × mLT) :=
  oB (f_X12_isGood Fu I) (fun r19 => if r19 = 0 then (b_X12_operand_75 Fu k4_ v2 I L) else (if v2 = 0 then (b_X12_operand_75 Fu k4_ v2 I L) else (oB (f_X12_knownWord Fu I L) (fun r30 => if r30 = (18 : Int32) then (if v4 = (6 : Int32) then (oB (f_X12_wrong Fu I (2 : Int32)) (fun r47 => b_X12_operand_50 Fu k4_ k18_ v2 v4 r47 L)) else (b_X12_operand_50 Fu k4_ k18_ v2 v4 I L)) else (b_X12_operand_75 Fu k4_ v2 I L)))))
set_option maxRecDepth 20000 in
theorem bo_X12_operand_18 {X : mXT} {E : mEn} {Fu : Nat} {R : mRT}  (hC : mC X E mX12_operand RX12 cX12_operand) (hW : mWd R)   {out : mIT × mLT} (hE : mEd X E 0 0 (mSame none 106 1 (out.1) R (out.2))) (k4_ : Int32 × Int32 × mIT × mLT → Option (mIT × mLT)) (hk4_ : ∀ (v2 : Int32) (v3 : Int32) (I : mIT) (L : mLT),  k4_ (v2, v3, I, L) = some out → mG X E 4 [(0, .ref (mB E + 75)), (2, .int v2), (3, .int v3)] [] 106 1 I R L 0 0) (k18_ : Int32 × Int32 × mIT × mLT → Option (mIT × mLT)) (hk18_ : ∀ (v2 : Int32) (v4 : Int32) (I : mIT) (L : mLT),  k18_ (v2, v4, I, L) = some out → mG X E 18 [(0, .ref (mB E + 75)), (2, .int v2), (4, .int v4)] [] 106 1 I R L 0 0) (v2 : Int32) (v4 : Int32) (I : mIT) (L : mLT) (h : b_X12_operand_18 Fu k4_ k18_ v2 v4 I L = some out) : mG X E 18 [(0, .ref (mB E + 75)), (2, .int v2), (4, .int v4)] [] 106 1 I R L 0 0 := by
  unfold b_X12_operand_18 at h
  refine g_aload_n hC dX12_operand_18 rfl (q := 0) rfl ?_
  obtain ⟨r19, h19, h⟩ := oB_some h
  refine g_cV1 hC cv_X12_isGood wd_1869 ⟨Nat.le_of_ble_eq_true rfl, Nat.le_of_ble_eq_true rfl⟩ rfl (by decide) dX12_operand_19 (As := []) (st := []) (ok_X12_isGood hC.2.2.2.2.2.2.2.1 hW h19) rfl rfl (Nat.le_of_ble_eq_true rfl) ⟨Nat.zero_le _, Nat.zero_le _⟩ ?_
  refine g_if_eq hC dX12_operand_22 (tgt := 75) (by decide) (fun c22 => ?_) (fun c22 => ?_)
  · replace h := (if_pos c22).symm.trans h
    refine g_lv [0, 1] rfl ?_
    exact bo_X12_operand_75 hC hW hE k4_ hk4_ (v2) (I) (L) h
  · replace h := (if_neg c22).symm.trans h
    refine g_iload_n hC dX12_operand_25 rfl (q := 1) rfl ?_
    refine g_if_eq hC dX12_operand_26 (tgt := 75) (by decide) (fun c26 => ?_) (fun c26 => ?_)
    · replace h := (if_pos c26).symm.trans h
      refine g_lv [0, 1] rfl ?_
      exact bo_X12_operand_75 hC hW hE k4_ hk4_ (v2) (I) (L) h
    · replace h := (if_neg c26).symm.trans h
      refine g_aload_n hC dX12_operand_29 rfl (q := 0) rfl ?_
      obtain ⟨r30, h30, h⟩ := oB_some h
      refine g_cV1 hC cv_X12_knownWord wd_1877 ⟨Nat.le_of_ble_eq_true rfl, Nat.le_of_ble_eq_true rfl⟩ rfl (by decide) dX12_operand_30 (As := []) (st := []) (ok_X12_knownWord hC.2.2.2.2.2.2.2.1 hW h30) rfl rfl (Nat.le_of_ble_eq_true rfl) ⟨Nat.zero_le _, Nat.zero_le _⟩ ?_
      refine g_bipush hC dX12_operand_33 (v := (18 : Int32)) (by decide) ?_
      refine g_ic_ne hC dX12_operand_35 (tgt := 75) (by decide) (fun c35 => ?_) (fun c35 => ?_)
      · replace h := (if_neg c35).symm.trans h
        refine g_lv [0, 1] rfl ?_
        exact bo_X12_operand_75 hC hW hE k4_ hk4_ (v2) (I) (L) h
      · replace h := (if_pos c35).symm.trans h
        refine g_iload hC dX12_operand_38 (q := 2) rfl ?_
        refine g_bipush hC dX12_operand_40 (v := (6 : Int32)) (by decide) ?_
        refine g_ic_ne hC dX12_operand_42 (tgt := 50) (by decide) (fun c42 => ?_) (fun c42 => ?_)
        · replace h := (if_neg c42).symm.trans h
          exact bo_X12_operand_50 hC hW hE k4_ hk4_ k18_ hk18_ (v2) (v4) (I) (L) h
        · replace h := (if_pos c42).symm.trans h
          refine g_aload_n hC dX12_operand_45 rfl (q := 0) rfl ?_
          refine g_iconst hC dX12_operand_46 (v := (2 : Int32)) (by decide) ?_
          obtain ⟨r47, h47, h⟩ := oB_some h
          refine g_cV0 hC cv_X12_wrong wd_1892 ⟨Nat.le_of_ble_eq_true rfl, Nat.le_of_ble_eq_true rfl⟩ rfl (by decide) dX12_operand_47 (As := [.int (2 : Int32)]) (st := []) (ok_X12_wrong hC.2.2.2.2.2.2.2.1 hW h47) rfl rfl (Nat.le_of_ble_eq_true rfl) ⟨Nat.zero_le _, Nat.zero_le _⟩ ?_
          exact bo_X12_operand_50 hC hW hE k4_ hk4_ k18_ hk18_ (v2) (v4) (r47) (L) h
noncomputable def w_X12_operand_18 (Fu : Nat) (k4_ : Int32 × Int32 × mIT × mLT → Option (mIT × mLT)) (N : Nat) (v2 : Int32) (v4 : Int32) (I : mIT) (L : mLT) : Option (mIT × mLT) :=
  loopF (fun self (s : Int32 × Int32 × mIT × mLT) => b_X12_operand_18 Fu k4_ self s.1 s.2.1 s.2.2.1 s.2.2.2) N (v2, v4, I, L)
theorem wo_X12_operand_18 {X : mXT} {E : mEn} {Fu : Nat} {R : mRT}  (hC : mC X E mX12_operand RX12 cX12_operand) (hW : mWd R)   {out : mIT × mLT} (hE : mEd X E 0 0 (mSame none 106 1 (out.1) R (out.2))) (k4_ : Int32 × Int32 × mIT × mLT → Option (mIT × mLT)) (hk4_ : ∀ (v2 : Int32) (v3 : Int32) (I : mIT) (L : mLT),  k4_ (v2, v3, I, L) = some out → mG X E 4 [(0, .ref (mB E + 75)), (2, .int v2), (3, .int v3)] [] 106 1 I R L 0 0) (N : Nat) (v2 : Int32) (v4 : Int32) (I : mIT) (L : mLT) (h : w_X12_operand_18 Fu k4_ N v2 v4 I L = some out) : mG X E 18 [(0, .ref (mB E + 75)), (2, .int v2), (4, .int v4)] [] 106 1 I R L 0 0 :=
  loopF_ok (Gd := fun s : Int32 × Int32 × mIT × mLT => mG X E 18 [(0, .ref (mB E + 75)), (2, .int s.1), (4, .int s.2.1)] [] 106 1 s.2.2.1 R s.2.2.2 0 0) (fun self hs s h => bo_X12_operand_18 hC hW hE k4_ hk4_ self (fun v2 v4 I L h => hs (v2, v4, I, L) h) s.1 s.2.1 s.2.2.1 s.2.2.2 h) N (v2, v4, I, L) h
noncomputable def b_X12_operand_4 (Fu : Nat) (k4_ : Int32 × Int32 × mIT × mLT → Option (mIT × mLT)) (v2 : Int32) (v3 : Int32) (I : mIT) (L : mLT) : Option (mIT × mLT) :=
  if v3 = 0 then (oB (f_X12_part Fu I L) (fun r121 => some (r121.1, r121.2))) else (oB (f_X12_isGood Fu I) (fun r9 => if r9 = 0 then (oB (f_X12_part Fu I L) (fun r121 => some (r121.1, r121.2))) else (w_X12_operand_18 Fu k4_ Fu v2 (0 : Int32) I L)))
set_option maxRecDepth 20000 in
theorem bo_X12_operand_4 {X : mXT} {E : mEn} {Fu : Nat} {R : mRT}  (hC : mC X E mX12_operand RX12 cX12_operand) (hW : mWd R)   {out : mIT × mLT} (hE : mEd X E 0 0 (mSame none 106 1 (out.1) R (out.2))) (k4_ : Int32 × Int32 × mIT × mLT → Option (mIT × mLT)) (hk4_ : ∀ (v2 : Int32) (v3 : Int32) (I : mIT) (L : mLT),  k4_ (v2, v3, I, L) = some out → mG X E 4 [(0, .ref (mB E + 75)), (2, .int v2), (3, .int v3)] [] 106 1 I R L 0 0) (v2 : Int32) (v3 : Int32) (I : mIT) (L : mLT) (h : b_X12_operand_4 Fu k4_ v2 v3 I L = some out) : mG X E 4 [(0, .ref (mB E + 75)), (2, .int v2), (3, .int v3)] [] 106 1 I R L 0 0 := by
  unfold b_X12_operand_4 at h
  refine g_iload_n hC dX12_operand_4 rfl (q := 2) rfl ?_
  refine g_if_eq hC dX12_operand_5 (tgt := 120) (by decide) (fun c5 => ?_) (fun c5 => ?_)
  · replace h := (if_pos c5).symm.trans h
    refine g_aload_n hC dX12_operand_120 rfl (q := 0) rfl ?_
    obtain ⟨r121, h121, h⟩ := oB_some h
    refine g_cV0 hC cv_X12_part wd_1938 ⟨Nat.le_of_ble_eq_true rfl, Nat.le_of_ble_eq_true rfl⟩ rfl (by decide) dX12_operand_121 (As := []) (st := []) (ok_X12_part hC.2.2.2.2.2.2.2.1 hW h121) rfl rfl (Nat.le_of_ble_eq_true rfl) ⟨Nat.zero_le _, Nat.zero_le _⟩ ?_
    cases h
    exact g_vret hC hE rfl dX12_operand_124 (Nat.zero_le _) (Nat.zero_le _) ⟨rfl, rfl, rfl, rfl, rfl, rfl⟩
  · replace h := (if_neg c5).symm.trans h
    refine g_aload_n hC dX12_operand_8 rfl (q := 0) rfl ?_
    obtain ⟨r9, h9, h⟩ := oB_some h
    refine g_cV1 hC cv_X12_isGood wd_1869 ⟨Nat.le_of_ble_eq_true rfl, Nat.le_of_ble_eq_true rfl⟩ rfl (by decide) dX12_operand_9 (As := []) (st := []) (ok_X12_isGood hC.2.2.2.2.2.2.2.1 hW h9) rfl rfl (Nat.le_of_ble_eq_true rfl) ⟨Nat.zero_le _, Nat.zero_le _⟩ ?_
    refine g_if_eq hC dX12_operand_12 (tgt := 120) (by decide) (fun c12 => ?_) (fun c12 => ?_)
    · replace h := (if_pos c12).symm.trans h
      refine g_aload_n hC dX12_operand_120 rfl (q := 0) rfl ?_
      obtain ⟨r121, h121, h⟩ := oB_some h
      refine g_cV0 hC cv_X12_part wd_1938 ⟨Nat.le_of_ble_eq_true rfl, Nat.le_of_ble_eq_true rfl⟩ rfl (by decide) dX12_operand_121 (As := []) (st := []) (ok_X12_part hC.2.2.2.2.2.2.2.1 hW h121) rfl rfl (Nat.le_of_ble_eq_true rfl) ⟨Nat.zero_le _, Nat.zero_le _⟩ ?_
      cases h
      exact g_vret hC hE rfl dX12_operand_124 (Nat.zero_le _) (Nat.zero_le _) ⟨rfl, rfl, rfl, rfl, rfl, rfl⟩
    · replace h := (if_neg c12).symm.trans h
      refine g_iconst hC dX12_operand_15 (v := (0 : Int32)) (by decide) ?_
      refine g_istore hC dX12_operand_16 rfl (by decide) (lv' := [(4, .int (0 : Int32)), (0, .ref (mB E + 75)), (2, .int v2), (3, .int v3)]) rfl ?_
      refine g_lv [1, 2, 0] rfl ?_
      exact wo_X12_operand_18 hC hW hE k4_ hk4_ Fu (v2) ((0 : Int32)) (I) (L) h
noncomputable def w_X12_operand_4 (Fu : Nat)  (N : Nat) (v2 : Int32) (v3 : Int32) (I : mIT) (L : mLT) : Option (mIT × mLT) :=
  loopF (fun self (s : Int32 × Int32 × mIT × mLT) => b_X12_operand_4 Fu self s.1 s.2.1 s.2.2.1 s.2.2.2) N (v2, v3, I, L)
theorem wo_X12_operand_4 {X : mXT} {E : mEn} {Fu : Nat} {R : mRT}  (hC : mC X E mX12_operand RX12 cX12_operand) (hW : mWd R)   {out : mIT × mLT} (hE : mEd X E 0 0 (mSame none 106 1 (out.1) R (out.2)))  (N : Nat) (v2 : Int32) (v3 : Int32) (I : mIT) (L : mLT) (h : w_X12_operand_4 Fu  N v2 v3 I L = some out) : mG X E 4 [(0, .ref (mB E + 75)), (2, .int v2), (3, .int v3)] [] 106 1 I R L 0 0 :=
  loopF_ok (Gd := fun s : Int32 × Int32 × mIT × mLT => mG X E 4 [(0, .ref (mB E + 75)), (2, .int s.1), (3, .int s.2.1)] [] 106 1 s.2.2.1 R s.2.2.2 0 0) (fun self hs s h => bo_X12_operand_4 hC hW hE self (fun v2 v3 I L h => hs (v2, v3, I, L) h) s.1 s.2.1 s.2.2.1 s.2.2.2 h) N (v2, v3, I, L) h
noncomputable def f_X12_operand (Fu : Nat) (I : mIT) (L : mLT) (v1 : Int32) : Option (mIT × mLT) :=
  w_X12_operand_4 Fu Fu v1 (1 : Int32) I L
set_option maxRecDepth 20000 in
theorem ok_X12_operand {l : Launch} {E : mEn} {Fu : Nat} {I : mIT} {R : mRT} {L : mLT} {v1 : Int32} (hst : l.stackTraces = false) (hW : mWd R)  {out : mIT × mLT} (h : f_X12_operand Fu I L v1 = some out) : mOk l E mX12_operand [.ref (mB E + 75), .int v1] 106 1 I R L 0 0 (mSame none 106 1 (out.1) R (out.2)) := by
  refine mOk_of hst (by decide) (Nat.le_of_ble_eq_true rfl) (fun X hC hE _ => ?_)
  have hC : mC X E mX12_operand RX12 cX12_operand := hC
  show mG X E 0 [(0, .ref (mB E + 75)), (1, .int v1)] [] 106 1 I R L 0 0
  unfold f_X12_operand at h
  refine g_iload_n hC dX12_operand_0 rfl (q := 1) rfl ?_
  refine g_istore_n hC dX12_operand_1 rfl rfl (by decide) (lv' := [(2, .int v1), (0, .ref (mB E + 75)), (1, .int v1)]) rfl ?_
  refine g_iconst hC dX12_operand_2 (v := (1 : Int32)) (by decide) ?_
  refine g_istore_n hC dX12_operand_3 rfl rfl (by decide) (lv' := [(3, .int (1 : Int32)), (2, .int v1), (0, .ref (mB E + 75)), (1, .int v1)]) rfl ?_
  refine g_lv [2, 1, 0] rfl ?_
  exact wo_X12_operand_4 hC hW hE Fu (v1) ((1 : Int32)) (I) (L) h
noncomputable def b_X12_isOpened_7 (Fu : Nat) (I : mIT) (k7_ : Int32 → Option (Int32)) (v1 : Int32) : Option (Int32) :=
  if v1 < 0 then (if v1 < 0 then (some (0 : Int32)) else (some (1 : Int32))) else (oG (inB v1 950) (oB (f_X12_isOpen Fu (I 87 (v1).toNatClampNeg)) (fun r17 => if r17 = 0 then (k7_ (v1 + (-1 : Int32))) else (if v1 < 0 then (some (0 : Int32)) else (some (1 : Int32))))))
set_option maxRecDepth 20000 in
theorem bo_X12_isOpened_7 {X : mXT} {E : mEn} {Fu : Nat} {I : mIT} {R : mRT} {L : mLT}  (hC : mC X E mX12_isOpened RX12 cX12_isOpened) (hW : mWd R)   {out : Int32} (hE : mEd X E 0 0 (mSame (some (.int (out))) 106 1 I R L)) (k7_ : Int32 → Option (Int32)) (hk7_ : ∀ (v1 : Int32),  k7_ v1 = some out → mG X E 7 [(0, .ref (mB E + 75)), (1, .int v1)] [] 106 1 I R L 0 0) (v1 : Int32) (h : b_X12_isOpened_7 Fu I k7_ v1 = some out) : mG X E 7 [(0, .ref (mB E + 75)), (1, .int v1)] [] 106 1 I R L 0 0 := by
  unfold b_X12_isOpened_7 at h
  refine g_iload_n hC dX12_isOpened_7 rfl (q := 1) rfl ?_
  refine g_if_lt hC dX12_isOpened_8 (tgt := 29) (by decide) (fun c8 => ?_) (fun c8 => ?_)
  · replace h := (if_pos c8).symm.trans h
    refine g_iload_n hC dX12_isOpened_29 rfl (q := 1) rfl ?_
    refine g_if_lt hC dX12_isOpened_30 (tgt := 37) (by decide) (fun c30 => ?_) (fun c30 => ?_)
    · replace h := (if_pos c30).symm.trans h
      refine g_iconst hC dX12_isOpened_37 (v := (0 : Int32)) (by decide) ?_
      cases h
      exact g_zret hC (by decide) hE rfl dX12_isOpened_38 (Nat.zero_le _) (Nat.zero_le _) ⟨rfl, rfl, rfl, rfl, rfl, rfl⟩
    · replace h := (if_neg c30).symm.trans h
      refine g_iconst hC dX12_isOpened_33 (v := (1 : Int32)) (by decide) ?_
      refine g_goto hC dX12_isOpened_34 (tgt := 38) (by decide) ?_
      cases h
      exact g_zret hC (by decide) hE rfl dX12_isOpened_38 (Nat.zero_le _) (Nat.zero_le _) ⟨rfl, rfl, rfl, rfl, rfl, rfl⟩
  · replace h := (if_neg c8).symm.trans h
    refine g_aload_n hC dX12_isOpened_11 rfl (q := 0) rfl ?_
    refine g_getr hC fd_RX12_56 rfl (by decide) (C0 := "") (t0 := _) (Or.inr rfl) (rr_75_40 hW.1) dX12_isOpened_12 ?_
    refine g_iload_n hC dX12_isOpened_15 rfl (q := 1) rfl ?_
    obtain ⟨g16, h⟩ := oG_some h
    refine g_iald hC rfl (by decide) (inB_in g16) dX12_isOpened_16 ?_
    obtain ⟨r17, h17, h⟩ := oB_some h
    refine g_cS1 hC cs_X12_isOpen wd_1950 ⟨Nat.le_of_ble_eq_true rfl, Nat.le_of_ble_eq_true rfl⟩ dX12_isOpened_17 (As := [.int (I 87 (v1).toNatClampNeg)]) (st := []) (ok_X12_isOpen hC.2.2.2.2.2.2.2.1 hW h17) rfl rfl (Nat.le_of_ble_eq_true rfl) ⟨Nat.zero_le _, Nat.zero_le _⟩ ?_
    refine g_if_ne hC dX12_isOpened_20 (tgt := 29) (by decide) (fun c20 => ?_) (fun c20 => ?_)
    · replace h := (if_neg c20).symm.trans h
      refine g_iload_n hC dX12_isOpened_29 rfl (q := 1) rfl ?_
      refine g_if_lt hC dX12_isOpened_30 (tgt := 37) (by decide) (fun c30 => ?_) (fun c30 => ?_)
      · replace h := (if_pos c30).symm.trans h
        refine g_iconst hC dX12_isOpened_37 (v := (0 : Int32)) (by decide) ?_
        cases h
        exact g_zret hC (by decide) hE rfl dX12_isOpened_38 (Nat.zero_le _) (Nat.zero_le _) ⟨rfl, rfl, rfl, rfl, rfl, rfl⟩
      · replace h := (if_neg c30).symm.trans h
        refine g_iconst hC dX12_isOpened_33 (v := (1 : Int32)) (by decide) ?_
        refine g_goto hC dX12_isOpened_34 (tgt := 38) (by decide) ?_
        cases h
        exact g_zret hC (by decide) hE rfl dX12_isOpened_38 (Nat.zero_le _) (Nat.zero_le _) ⟨rfl, rfl, rfl, rfl, rfl, rfl⟩
    · replace h := (if_pos c20).symm.trans h
      refine g_iinc hC dX12_isOpened_23 rfl (q := 1) rfl (w := (v1 + (-1 : Int32))) rfl (by decide) (lv' := [(1, .int (v1 + (-1 : Int32))), (0, .ref (mB E + 75))]) rfl ?_
      refine g_goto hC dX12_isOpened_26 (tgt := 7) (by decide) ?_
      refine g_lv [1, 0] rfl ?_
      exact hk7_ (v1 + (-1 : Int32)) h
noncomputable def w_X12_isOpened_7 (Fu : Nat) (I : mIT)  (N : Nat) (v1 : Int32) : Option (Int32) :=
  loopF (fun self (s : Int32) => b_X12_isOpened_7 Fu I self s) N v1
theorem wo_X12_isOpened_7 {X : mXT} {E : mEn} {Fu : Nat} {I : mIT} {R : mRT} {L : mLT}  (hC : mC X E mX12_isOpened RX12 cX12_isOpened) (hW : mWd R)   {out : Int32} (hE : mEd X E 0 0 (mSame (some (.int (out))) 106 1 I R L))  (N : Nat) (v1 : Int32) (h : w_X12_isOpened_7 Fu I  N v1 = some out) : mG X E 7 [(0, .ref (mB E + 75)), (1, .int v1)] [] 106 1 I R L 0 0 :=
  loopF_ok (Gd := fun s : Int32 => mG X E 7 [(0, .ref (mB E + 75)), (1, .int s)] [] 106 1 I R L 0 0) (fun self hs s h => bo_X12_isOpened_7 hC hW hE self (fun v1 h => hs v1 h) s h) N v1 h
noncomputable def f_X12_isOpened (Fu : Nat) (I : mIT)  : Option (Int32) :=
  w_X12_isOpened_7 Fu I Fu ((I 75 33) - (1 : Int32))
set_option maxRecDepth 20000 in
theorem ok_X12_isOpened {l : Launch} {E : mEn} {Fu : Nat} {I : mIT} {R : mRT} {L : mLT}  (hst : l.stackTraces = false) (hW : mWd R)  {out : Int32} (h : f_X12_isOpened Fu I  = some out) : mOk l E mX12_isOpened [.ref (mB E + 75)] 106 1 I R L 0 0 (mSame (some (.int (out))) 106 1 I R L) := by
  refine mOk_of hst (by decide) (Nat.le_of_ble_eq_true rfl) (fun X hC hE _ => ?_)
  have hC : mC X E mX12_isOpened RX12 cX12_isOpened := hC
  show mG X E 0 [(0, .ref (mB E + 75))] [] 106 1 I R L 0 0
  unfold f_X12_isOpened at h
  refine g_aload_n hC dX12_isOpened_0 rfl (q := 0) rfl ?_
  refine g_geti hC fd_RX12_186 rfl (by decide) (Or.inl rfl) dX12_isOpened_1 ?_
  refine g_iconst hC dX12_isOpened_4 (v := (1 : Int32)) (by decide) ?_
  refine g_isub hC dX12_isOpened_5 ?_
  refine g_istore_n hC dX12_isOpened_6 rfl rfl (by decide) (lv' := [(1, .int ((I 75 33) - (1 : Int32))), (0, .ref (mB E + 75))]) rfl ?_
  refine g_lv [1, 0] rfl ?_
  exact wo_X12_isOpened_7 hC hW hE Fu (((I 75 33) - (1 : Int32))) h
noncomputable def b_X12_expression_325 (Fu : Nat)  (I : mIT) (L : mLT) : Option (mIT × mLT) :=
  oB (f_X12_isGood Fu I) (fun r326 => if r326 = 0 then (oB (f_X12_drops Fu I (0 : Int32)) (fun r347 => oB (f_X12_puts Fu r347 (0 : Int32)) (fun r352 => some (r352, L)))) else (if (I 75 34) ≤ (1 : Int32) then (oB (f_X12_drops Fu I (0 : Int32)) (fun r347 => oB (f_X12_puts Fu r347 (0 : Int32)) (fun r352 => some (r352, L)))) else (oB (f_X12_wrong Fu I (1 : Int32)) (fun r342 => oB (f_X12_drops Fu r342 (0 : Int32)) (fun r347 => oB (f_X12_puts Fu r347 (0 : Int32)) (fun r352 => some (r352, L)))))))
set_option maxRecDepth 20000 in
theorem bo_X12_expression_325 {X : mXT} {E : mEn} {Fu : Nat} {R : mRT}  (hC : mC X E mX12_expression RX12 cX12_expression) (hW : mWd R)   {out : mIT × mLT} (hE : mEd X E 0 0 (mSame none 106 1 (out.1) R (out.2)))  (I : mIT) (L : mLT) (h : b_X12_expression_325 Fu  I L = some out) : mG X E 325 [(0, .ref (mB E + 75))] [] 106 1 I R L 0 0 := by
  unfold b_X12_expression_325 at h
  refine g_aload_n hC dX12_expression_325 rfl (q := 0) rfl ?_
  obtain ⟨r326, h326, h⟩ := oB_some h
  refine g_cV1 hC cv_X12_isGood wd_1869 ⟨Nat.le_of_ble_eq_true rfl, Nat.le_of_ble_eq_true rfl⟩ rfl (by decide) dX12_expression_326 (As := []) (st := []) (ok_X12_isGood hC.2.2.2.2.2.2.2.1 hW h326) rfl rfl (Nat.le_of_ble_eq_true rfl) ⟨Nat.zero_le _, Nat.zero_le _⟩ ?_
  refine g_if_eq hC dX12_expression_329 (tgt := 345) (by decide) (fun c329 => ?_) (fun c329 => ?_)
  · replace h := (if_pos c329).symm.trans h
    refine g_aload_n hC dX12_expression_345 rfl (q := 0) rfl ?_
    refine g_iconst hC dX12_expression_346 (v := (0 : Int32)) (by decide) ?_
    obtain ⟨r347, h347, h⟩ := oB_some h
    refine g_cV0 hC cv_X12_drops wd_1946 ⟨Nat.le_of_ble_eq_true rfl, Nat.le_of_ble_eq_true rfl⟩ rfl (by decide) dX12_expression_347 (As := [.int (0 : Int32)]) (st := []) (ok_X12_drops hC.2.2.2.2.2.2.2.1 hW h347) rfl rfl (Nat.le_of_ble_eq_true rfl) ⟨Nat.zero_le _, Nat.zero_le _⟩ ?_
    refine g_aload_n hC dX12_expression_350 rfl (q := 0) rfl ?_
    refine g_iconst hC dX12_expression_351 (v := (0 : Int32)) (by decide) ?_
    obtain ⟨r352, h352, h⟩ := oB_some h
    refine g_cV0 hC cv_X12_puts wd_1942 ⟨Nat.le_of_ble_eq_true rfl, Nat.le_of_ble_eq_true rfl⟩ rfl (by decide) dX12_expression_352 (As := [.int (0 : Int32)]) (st := []) (ok_X12_puts hC.2.2.2.2.2.2.2.1 hW h352) rfl rfl (Nat.le_of_ble_eq_true rfl) ⟨Nat.zero_le _, Nat.zero_le _⟩ ?_
    cases h
    exact g_vret hC hE rfl dX12_expression_355 (Nat.zero_le _) (Nat.zero_le _) ⟨rfl, rfl, rfl, rfl, rfl, rfl⟩
  · replace h := (if_neg c329).symm.trans h
    refine g_aload_n hC dX12_expression_332 rfl (q := 0) rfl ?_
    refine g_geti hC fd_RX12_202 rfl (by decide) (Or.inl rfl) dX12_expression_333 ?_
    refine g_iconst hC dX12_expression_336 (v := (1 : Int32)) (by decide) ?_
    refine g_ic_le hC dX12_expression_337 (tgt := 345) (by decide) (fun c337 => ?_) (fun c337 => ?_)
    · replace h := (if_pos c337).symm.trans h
      refine g_aload_n hC dX12_expression_345 rfl (q := 0) rfl ?_
      refine g_iconst hC dX12_expression_346 (v := (0 : Int32)) (by decide) ?_
      obtain ⟨r347, h347, h⟩ := oB_some h
      refine g_cV0 hC cv_X12_drops wd_1946 ⟨Nat.le_of_ble_eq_true rfl, Nat.le_of_ble_eq_true rfl⟩ rfl (by decide) dX12_expression_347 (As := [.int (0 : Int32)]) (st := []) (ok_X12_drops hC.2.2.2.2.2.2.2.1 hW h347) rfl rfl (Nat.le_of_ble_eq_true rfl) ⟨Nat.zero_le _, Nat.zero_le _⟩ ?_
      refine g_aload_n hC dX12_expression_350 rfl (q := 0) rfl ?_
      refine g_iconst hC dX12_expression_351 (v := (0 : Int32)) (by decide) ?_
      obtain ⟨r352, h352, h⟩ := oB_some h
      refine g_cV0 hC cv_X12_puts wd_1942 ⟨Nat.le_of_ble_eq_true rfl, Nat.le_of_ble_eq_true rfl⟩ rfl (by decide) dX12_expression_352 (As := [.int (0 : Int32)]) (st := []) (ok_X12_puts hC.2.2.2.2.2.2.2.1 hW h352) rfl rfl (Nat.le_of_ble_eq_true rfl) ⟨Nat.zero_le _, Nat.zero_le _⟩ ?_
      cases h
      exact g_vret hC hE rfl dX12_expression_355 (Nat.zero_le _) (Nat.zero_le _) ⟨rfl, rfl, rfl, rfl, rfl, rfl⟩
    · replace h := (if_neg c337).symm.trans h
      refine g_aload_n hC dX12_expression_340 rfl (q := 0) rfl ?_
      refine g_iconst hC dX12_expression_341 (v := (1 : Int32)) (by decide) ?_
      obtain ⟨r342, h342, h⟩ := oB_some h
      refine g_cV0 hC cv_X12_wrong wd_1892 ⟨Nat.le_of_ble_eq_true rfl, Nat.le_of_ble_eq_true rfl⟩ rfl (by decide) dX12_expression_342 (As := [.int (1 : Int32)]) (st := []) (ok_X12_wrong hC.2.2.2.2.2.2.2.1 hW h342) rfl rfl (Nat.le_of_ble_eq_true rfl) ⟨Nat.zero_le _, Nat.zero_le _⟩ ?_
      refine g_aload_n hC dX12_expression_345 rfl (q := 0) rfl ?_
      refine g_iconst hC dX12_expression_346 (v := (0 : Int32)) (by decide) ?_
      obtain ⟨r347, h347, h⟩ := oB_some h
      refine g_cV0 hC cv_X12_drops wd_1946 ⟨Nat.le_of_ble_eq_true rfl, Nat.le_of_ble_eq_true rfl⟩ rfl (by decide) dX12_expression_347 (As := [.int (0 : Int32)]) (st := []) (ok_X12_drops hC.2.2.2.2.2.2.2.1 hW h347) rfl rfl (Nat.le_of_ble_eq_true rfl) ⟨Nat.zero_le _, Nat.zero_le _⟩ ?_
      refine g_aload_n hC dX12_expression_350 rfl (q := 0) rfl ?_
      refine g_iconst hC dX12_expression_351 (v := (0 : Int32)) (by decide) ?_
      obtain ⟨r352, h352, h⟩ := oB_some h
      refine g_cV0 hC cv_X12_puts wd_1942 ⟨Nat.le_of_ble_eq_true rfl, Nat.le_of_ble_eq_true rfl⟩ rfl (by decide) dX12_expression_352 (As := [.int (0 : Int32)]) (st := []) (ok_X12_puts hC.2.2.2.2.2.2.2.1 hW h352) rfl rfl (Nat.le_of_ble_eq_true rfl) ⟨Nat.zero_le _, Nat.zero_le _⟩ ?_
      cases h
      exact g_vret hC hE rfl dX12_expression_355 (Nat.zero_le _) (Nat.zero_le _) ⟨rfl, rfl, rfl, rfl, rfl, rfl⟩
noncomputable def b_X12_expression_259 (Fu : Nat) (k29_ : Int32 × mIT × mLT → Option (mIT × mLT)) (v1 : Int32) (I : mIT) (L : mLT) : Option (mIT × mLT) :=
  oB (f_X12_drops Fu I (6 : Int32)) (fun r262 => oB (f_X12_isSign Fu r262 (42 : Int32)) (fun r269 => if r269 = 0 then (oB (f_X12_waitsFor Fu r262 (11 : Int32)) (fun r282 => oB (f_X12_reads Fu r282 L) (fun r286 => oB (f_X12_operand Fu r286.1 r286.2 (0 : Int32)) (fun r291 => k29_ (v1, r291.1, r291.2))))) else (oB (f_X12_waitsFor Fu r262 (10 : Int32)) (fun r282 => oB (f_X12_reads Fu r282 L) (fun r286 => oB (f_X12_operand Fu r286.1 r286.2 (0 : Int32)) (fun r291 => k29_ (v1, r291.1, r291.2)))))))
set_option maxRecDepth 20000 in
theorem bo_X12_expression_259 {X : mXT} {E : mEn} {Fu : Nat} {R : mRT}  (hC : mC X E mX12_expression RX12 cX12_expression) (hW : mWd R)   {out : mIT × mLT} (hE : mEd X E 0 0 (mSame none 106 1 (out.1) R (out.2))) (k29_ : Int32 × mIT × mLT → Option (mIT × mLT)) (hk29_ : ∀ (v1 : Int32) (I : mIT) (L : mLT),  k29_ (v1, I, L) = some out → mG X E 29 [(0, .ref (mB E + 75)), (1, .int v1)] [] 106 1 I R L 0 0) (v1 : Int32) (I : mIT) (L : mLT) (h : b_X12_expression_259 Fu k29_ v1 I L = some out) : mG X E 259 [(0, .ref (mB E + 75)), (1, .int v1)] [] 106 1 I R L 0 0 := by
  unfold b_X12_expression_259 at h
  refine g_aload_n hC dX12_expression_259 rfl (q := 0) rfl ?_
  refine g_bipush hC dX12_expression_260 (v := (6 : Int32)) (by decide) ?_
  obtain ⟨r262, h262, h⟩ := oB_some h
  refine g_cV0 hC cv_X12_drops wd_1946 ⟨Nat.le_of_ble_eq_true rfl, Nat.le_of_ble_eq_true rfl⟩ rfl (by decide) dX12_expression_262 (As := [.int (6 : Int32)]) (st := []) (ok_X12_drops hC.2.2.2.2.2.2.2.1 hW h262) rfl rfl (Nat.le_of_ble_eq_true rfl) ⟨Nat.zero_le _, Nat.zero_le _⟩ ?_
  refine g_aload_n hC dX12_expression_265 rfl (q := 0) rfl ?_
  refine g_aload_n hC dX12_expression_266 rfl (q := 0) rfl ?_
  refine g_bipush hC dX12_expression_267 (v := (42 : Int32)) (by decide) ?_
  obtain ⟨r269, h269, h⟩ := oB_some h
  refine g_cV1 hC cv_X12_isSign wd_1926 ⟨Nat.le_of_ble_eq_true rfl, Nat.le_of_ble_eq_true rfl⟩ rfl (by decide) dX12_expression_269 (As := [.int (42 : Int32)]) (st := [.ref (mB E + 75)]) (ok_X12_isSign hC.2.2.2.2.2.2.2.1 hW h269) rfl rfl (Nat.le_of_ble_eq_true rfl) ⟨Nat.zero_le _, Nat.zero_le _⟩ ?_
  refine g_if_eq hC dX12_expression_272 (tgt := 280) (by decide) (fun c272 => ?_) (fun c272 => ?_)
  · replace h := (if_pos c272).symm.trans h
    refine g_bipush hC dX12_expression_280 (v := (11 : Int32)) (by decide) ?_
    obtain ⟨r282, h282, h⟩ := oB_some h
    refine g_cV0 hC cv_X12_waitsFor wd_1934 ⟨Nat.le_of_ble_eq_true rfl, Nat.le_of_ble_eq_true rfl⟩ rfl (by decide) dX12_expression_282 (As := [.int (11 : Int32)]) (st := []) (ok_X12_waitsFor hC.2.2.2.2.2.2.2.1 hW h282) rfl rfl (Nat.le_of_ble_eq_true rfl) ⟨Nat.zero_le _, Nat.zero_le _⟩ ?_
    refine g_aload_n hC dX12_expression_285 rfl (q := 0) rfl ?_
    obtain ⟨r286, h286, h⟩ := oB_some h
    refine g_cV0 hC cv_X12_reads wd_1855 ⟨Nat.le_of_ble_eq_true rfl, Nat.le_of_ble_eq_true rfl⟩ rfl (by decide) dX12_expression_286 (As := []) (st := []) (ok_X12_reads hC.2.2.2.2.2.2.2.1 hW h286) rfl rfl (Nat.le_of_ble_eq_true rfl) ⟨Nat.zero_le _, Nat.zero_le _⟩ ?_
    refine g_aload_n hC dX12_expression_289 rfl (q := 0) rfl ?_
    refine g_iconst hC dX12_expression_290 (v := (0 : Int32)) (by decide) ?_
    obtain ⟨r291, h291, h⟩ := oB_some h
    refine g_cV0 hC cv_X12_operand wd_1930 ⟨Nat.le_of_ble_eq_true rfl, Nat.le_of_ble_eq_true rfl⟩ rfl (by decide) dX12_expression_291 (As := [.int (0 : Int32)]) (st := []) (ok_X12_operand hC.2.2.2.2.2.2.2.1 hW h291) rfl rfl (Nat.le_of_ble_eq_true rfl) ⟨Nat.zero_le _, Nat.zero_le _⟩ ?_
    refine g_goto hC dX12_expression_294 (tgt := 322) (by decide) ?_
    refine g_goto hC dX12_expression_322 (tgt := 29) (by decide) ?_
    exact hk29_ v1 r291.1 r291.2 h
  · replace h := (if_neg c272).symm.trans h
    refine g_bipush hC dX12_expression_275 (v := (10 : Int32)) (by decide) ?_
    refine g_goto hC dX12_expression_277 (tgt := 282) (by decide) ?_
    obtain ⟨r282, h282, h⟩ := oB_some h
    refine g_cV0 hC cv_X12_waitsFor wd_1934 ⟨Nat.le_of_ble_eq_true rfl, Nat.le_of_ble_eq_true rfl⟩ rfl (by decide) dX12_expression_282 (As := [.int (10 : Int32)]) (st := []) (ok_X12_waitsFor hC.2.2.2.2.2.2.2.1 hW h282) rfl rfl (Nat.le_of_ble_eq_true rfl) ⟨Nat.zero_le _, Nat.zero_le _⟩ ?_
    refine g_aload_n hC dX12_expression_285 rfl (q := 0) rfl ?_
    obtain ⟨r286, h286, h⟩ := oB_some h
    refine g_cV0 hC cv_X12_reads wd_1855 ⟨Nat.le_of_ble_eq_true rfl, Nat.le_of_ble_eq_true rfl⟩ rfl (by decide) dX12_expression_286 (As := []) (st := []) (ok_X12_reads hC.2.2.2.2.2.2.2.1 hW h286) rfl rfl (Nat.le_of_ble_eq_true rfl) ⟨Nat.zero_le _, Nat.zero_le _⟩ ?_
    refine g_aload_n hC dX12_expression_289 rfl (q := 0) rfl ?_
    refine g_iconst hC dX12_expression_290 (v := (0 : Int32)) (by decide) ?_
    obtain ⟨r291, h291, h⟩ := oB_some h
    refine g_cV0 hC cv_X12_operand wd_1930 ⟨Nat.le_of_ble_eq_true rfl, Nat.le_of_ble_eq_true rfl⟩ rfl (by decide) dX12_expression_291 (As := [.int (0 : Int32)]) (st := []) (ok_X12_operand hC.2.2.2.2.2.2.2.1 hW h291) rfl rfl (Nat.le_of_ble_eq_true rfl) ⟨Nat.zero_le _, Nat.zero_le _⟩ ?_
    refine g_goto hC dX12_expression_294 (tgt := 322) (by decide) ?_
    refine g_goto hC dX12_expression_322 (tgt := 29) (by decide) ?_
    exact hk29_ v1 r291.1 r291.2 h
noncomputable def b_X12_expression_204 (Fu : Nat) (k29_ : Int32 × mIT × mLT → Option (mIT × mLT)) (v1 : Int32) (I : mIT) (L : mLT) : Option (mIT × mLT) :=
  oB (f_X12_drops Fu I (5 : Int32)) (fun r206 => oB (f_X12_isSign Fu r206 (43 : Int32)) (fun r213 => if r213 = 0 then (oB (f_X12_waitsFor Fu r206 (9 : Int32)) (fun r226 => oB (f_X12_reads Fu r226 L) (fun r230 => oB (f_X12_operand Fu r230.1 r230.2 (0 : Int32)) (fun r235 => k29_ (v1, r235.1, r235.2))))) else (oB (f_X12_waitsFor Fu r206 (8 : Int32)) (fun r226 => oB (f_X12_reads Fu r226 L) (fun r230 => oB (f_X12_operand Fu r230.1 r230.2 (0 : Int32)) (fun r235 => k29_ (v1, r235.1, r235.2)))))))
set_option maxRecDepth 20000 in
theorem bo_X12_expression_204 {X : mXT} {E : mEn} {Fu : Nat} {R : mRT}  (hC : mC X E mX12_expression RX12 cX12_expression) (hW : mWd R)   {out : mIT × mLT} (hE : mEd X E 0 0 (mSame none 106 1 (out.1) R (out.2))) (k29_ : Int32 × mIT × mLT → Option (mIT × mLT)) (hk29_ : ∀ (v1 : Int32) (I : mIT) (L : mLT),  k29_ (v1, I, L) = some out → mG X E 29 [(0, .ref (mB E + 75)), (1, .int v1)] [] 106 1 I R L 0 0) (v1 : Int32) (I : mIT) (L : mLT) (h : b_X12_expression_204 Fu k29_ v1 I L = some out) : mG X E 204 [(0, .ref (mB E + 75)), (1, .int v1)] [] 106 1 I R L 0 0 := by
  unfold b_X12_expression_204 at h
  refine g_aload_n hC dX12_expression_204 rfl (q := 0) rfl ?_
  refine g_iconst hC dX12_expression_205 (v := (5 : Int32)) (by decide) ?_
  obtain ⟨r206, h206, h⟩ := oB_some h
  refine g_cV0 hC cv_X12_drops wd_1946 ⟨Nat.le_of_ble_eq_true rfl, Nat.le_of_ble_eq_true rfl⟩ rfl (by decide) dX12_expression_206 (As := [.int (5 : Int32)]) (st := []) (ok_X12_drops hC.2.2.2.2.2.2.2.1 hW h206) rfl rfl (Nat.le_of_ble_eq_true rfl) ⟨Nat.zero_le _, Nat.zero_le _⟩ ?_
  refine g_aload_n hC dX12_expression_209 rfl (q := 0) rfl ?_
  refine g_aload_n hC dX12_expression_210 rfl (q := 0) rfl ?_
  refine g_bipush hC dX12_expression_211 (v := (43 : Int32)) (by decide) ?_
  obtain ⟨r213, h213, h⟩ := oB_some h
  refine g_cV1 hC cv_X12_isSign wd_1926 ⟨Nat.le_of_ble_eq_true rfl, Nat.le_of_ble_eq_true rfl⟩ rfl (by decide) dX12_expression_213 (As := [.int (43 : Int32)]) (st := [.ref (mB E + 75)]) (ok_X12_isSign hC.2.2.2.2.2.2.2.1 hW h213) rfl rfl (Nat.le_of_ble_eq_true rfl) ⟨Nat.zero_le _, Nat.zero_le _⟩ ?_
  refine g_if_eq hC dX12_expression_216 (tgt := 224) (by decide) (fun c216 => ?_) (fun c216 => ?_)
  · replace h := (if_pos c216).symm.trans h
    refine g_bipush hC dX12_expression_224 (v := (9 : Int32)) (by decide) ?_
    obtain ⟨r226, h226, h⟩ := oB_some h
    refine g_cV0 hC cv_X12_waitsFor wd_1934 ⟨Nat.le_of_ble_eq_true rfl, Nat.le_of_ble_eq_true rfl⟩ rfl (by decide) dX12_expression_226 (As := [.int (9 : Int32)]) (st := []) (ok_X12_waitsFor hC.2.2.2.2.2.2.2.1 hW h226) rfl rfl (Nat.le_of_ble_eq_true rfl) ⟨Nat.zero_le _, Nat.zero_le _⟩ ?_
    refine g_aload_n hC dX12_expression_229 rfl (q := 0) rfl ?_
    obtain ⟨r230, h230, h⟩ := oB_some h
    refine g_cV0 hC cv_X12_reads wd_1855 ⟨Nat.le_of_ble_eq_true rfl, Nat.le_of_ble_eq_true rfl⟩ rfl (by decide) dX12_expression_230 (As := []) (st := []) (ok_X12_reads hC.2.2.2.2.2.2.2.1 hW h230) rfl rfl (Nat.le_of_ble_eq_true rfl) ⟨Nat.zero_le _, Nat.zero_le _⟩ ?_
    refine g_aload_n hC dX12_expression_233 rfl (q := 0) rfl ?_
    refine g_iconst hC dX12_expression_234 (v := (0 : Int32)) (by decide) ?_
    obtain ⟨r235, h235, h⟩ := oB_some h
    refine g_cV0 hC cv_X12_operand wd_1930 ⟨Nat.le_of_ble_eq_true rfl, Nat.le_of_ble_eq_true rfl⟩ rfl (by decide) dX12_expression_235 (As := [.int (0 : Int32)]) (st := []) (ok_X12_operand hC.2.2.2.2.2.2.2.1 hW h235) rfl rfl (Nat.le_of_ble_eq_true rfl) ⟨Nat.zero_le _, Nat.zero_le _⟩ ?_
    refine g_goto hC dX12_expression_238 (tgt := 322) (by decide) ?_
    refine g_goto hC dX12_expression_322 (tgt := 29) (by decide) ?_
    exact hk29_ v1 r235.1 r235.2 h
  · replace h := (if_neg c216).symm.trans h
    refine g_bipush hC dX12_expression_219 (v := (8 : Int32)) (by decide) ?_
    refine g_goto hC dX12_expression_221 (tgt := 226) (by decide) ?_
    obtain ⟨r226, h226, h⟩ := oB_some h
    refine g_cV0 hC cv_X12_waitsFor wd_1934 ⟨Nat.le_of_ble_eq_true rfl, Nat.le_of_ble_eq_true rfl⟩ rfl (by decide) dX12_expression_226 (As := [.int (8 : Int32)]) (st := []) (ok_X12_waitsFor hC.2.2.2.2.2.2.2.1 hW h226) rfl rfl (Nat.le_of_ble_eq_true rfl) ⟨Nat.zero_le _, Nat.zero_le _⟩ ?_
    refine g_aload_n hC dX12_expression_229 rfl (q := 0) rfl ?_
    obtain ⟨r230, h230, h⟩ := oB_some h
    refine g_cV0 hC cv_X12_reads wd_1855 ⟨Nat.le_of_ble_eq_true rfl, Nat.le_of_ble_eq_true rfl⟩ rfl (by decide) dX12_expression_230 (As := []) (st := []) (ok_X12_reads hC.2.2.2.2.2.2.2.1 hW h230) rfl rfl (Nat.le_of_ble_eq_true rfl) ⟨Nat.zero_le _, Nat.zero_le _⟩ ?_
    refine g_aload_n hC dX12_expression_233 rfl (q := 0) rfl ?_
    refine g_iconst hC dX12_expression_234 (v := (0 : Int32)) (by decide) ?_
    obtain ⟨r235, h235, h⟩ := oB_some h
    refine g_cV0 hC cv_X12_operand wd_1930 ⟨Nat.le_of_ble_eq_true rfl, Nat.le_of_ble_eq_true rfl⟩ rfl (by decide) dX12_expression_235 (As := [.int (0 : Int32)]) (st := []) (ok_X12_operand hC.2.2.2.2.2.2.2.1 hW h235) rfl rfl (Nat.le_of_ble_eq_true rfl) ⟨Nat.zero_le _, Nat.zero_le _⟩ ?_
    refine g_goto hC dX12_expression_238 (tgt := 322) (by decide) ?_
    refine g_goto hC dX12_expression_322 (tgt := 29) (by decide) ?_
    exact hk29_ v1 r235.1 r235.2 h
noncomputable def b_X12_expression_186 (Fu : Nat) (k29_ : Int32 × mIT × mLT → Option (mIT × mLT)) (v1 : Int32) (I : mIT) (L : mLT) : Option (mIT × mLT) :=
  oB (f_X12_isSign Fu I (43 : Int32)) (fun r189 => if r189 = 0 then (oB (f_X12_isSign Fu I (45 : Int32)) (fun r198 => if r198 = 0 then (oB (f_X12_isSign Fu I (42 : Int32)) (fun r244 => if r244 = 0 then (oB (f_X12_isSign Fu I (47 : Int32)) (fun r253 => if r253 = 0 then (oB (f_X12_isSign Fu I (41 : Int32)) (fun r300 => if r300 = 0 then (k29_ ((0 : Int32), I, L)) else (oB (f_X12_isOpened Fu I) (fun r307 => if r307 = 0 then (k29_ ((0 : Int32), I, L)) else (oB (f_X12_closes Fu I L) (fun r314 => k29_ (v1, r314.1, r314.2))))))) else (b_X12_expression_259 Fu k29_ v1 I L))) else (b_X12_expression_259 Fu k29_ v1 I L))) else (b_X12_expression_204 Fu k29_ v1 I L))) else (b_X12_expression_204 Fu k29_ v1 I L))
set_option maxRecDepth 20000 in
theorem bo_X12_expression_186 {X : mXT} {E : mEn} {Fu : Nat} {R : mRT}  (hC : mC X E mX12_expression RX12 cX12_expression) (hW : mWd R)   {out : mIT × mLT} (hE : mEd X E 0 0 (mSame none 106 1 (out.1) R (out.2))) (k29_ : Int32 × mIT × mLT → Option (mIT × mLT)) (hk29_ : ∀ (v1 : Int32) (I : mIT) (L : mLT),  k29_ (v1, I, L) = some out → mG X E 29 [(0, .ref (mB E + 75)), (1, .int v1)] [] 106 1 I R L 0 0) (v1 : Int32) (I : mIT) (L : mLT) (h : b_X12_expression_186 Fu k29_ v1 I L = some out) : mG X E 186 [(0, .ref (mB E + 75)), (1, .int v1)] [] 106 1 I R L 0 0 := by
  unfold b_X12_expression_186 at h
  refine g_aload_n hC dX12_expression_186 rfl (q := 0) rfl ?_
  refine g_bipush hC dX12_expression_187 (v := (43 : Int32)) (by decide) ?_
  obtain ⟨r189, h189, h⟩ := oB_some h
  refine g_cV1 hC cv_X12_isSign wd_1926 ⟨Nat.le_of_ble_eq_true rfl, Nat.le_of_ble_eq_true rfl⟩ rfl (by decide) dX12_expression_189 (As := [.int (43 : Int32)]) (st := []) (ok_X12_isSign hC.2.2.2.2.2.2.2.1 hW h189) rfl rfl (Nat.le_of_ble_eq_true rfl) ⟨Nat.zero_le _, Nat.zero_le _⟩ ?_
  refine g_if_ne hC dX12_expression_192 (tgt := 204) (by decide) (fun c192 => ?_) (fun c192 => ?_)
  · replace h := (if_neg c192).symm.trans h
    exact bo_X12_expression_204 hC hW hE k29_ hk29_ (v1) (I) (L) h
  · replace h := (if_pos c192).symm.trans h
    refine g_aload_n hC dX12_expression_195 rfl (q := 0) rfl ?_
    refine g_bipush hC dX12_expression_196 (v := (45 : Int32)) (by decide) ?_
    obtain ⟨r198, h198, h⟩ := oB_some h
    refine g_cV1 hC cv_X12_isSign wd_1926 ⟨Nat.le_of_ble_eq_true rfl, Nat.le_of_ble_eq_true rfl⟩ rfl (by decide) dX12_expression_198 (As := [.int (45 : Int32)]) (st := []) (ok_X12_isSign hC.2.2.2.2.2.2.2.1 hW h198) rfl rfl (Nat.le_of_ble_eq_true rfl) ⟨Nat.zero_le _, Nat.zero_le _⟩ ?_
    refine g_if_eq hC dX12_expression_201 (tgt := 241) (by decide) (fun c201 => ?_) (fun c201 => ?_)
    · replace h := (if_pos c201).symm.trans h
      refine g_aload_n hC dX12_expression_241 rfl (q := 0) rfl ?_
      refine g_bipush hC dX12_expression_242 (v := (42 : Int32)) (by decide) ?_
      obtain ⟨r244, h244, h⟩ := oB_some h
      refine g_cV1 hC cv_X12_isSign wd_1926 ⟨Nat.le_of_ble_eq_true rfl, Nat.le_of_ble_eq_true rfl⟩ rfl (by decide) dX12_expression_244 (As := [.int (42 : Int32)]) (st := []) (ok_X12_isSign hC.2.2.2.2.2.2.2.1 hW h244) rfl rfl (Nat.le_of_ble_eq_true rfl) ⟨Nat.zero_le _, Nat.zero_le _⟩ ?_
      refine g_if_ne hC dX12_expression_247 (tgt := 259) (by decide) (fun c247 => ?_) (fun c247 => ?_)
      · replace h := (if_neg c247).symm.trans h
        exact bo_X12_expression_259 hC hW hE k29_ hk29_ (v1) (I) (L) h
      · replace h := (if_pos c247).symm.trans h
        refine g_aload_n hC dX12_expression_250 rfl (q := 0) rfl ?_
        refine g_bipush hC dX12_expression_251 (v := (47 : Int32)) (by decide) ?_
        obtain ⟨r253, h253, h⟩ := oB_some h
        refine g_cV1 hC cv_X12_isSign wd_1926 ⟨Nat.le_of_ble_eq_true rfl, Nat.le_of_ble_eq_true rfl⟩ rfl (by decide) dX12_expression_253 (As := [.int (47 : Int32)]) (st := []) (ok_X12_isSign hC.2.2.2.2.2.2.2.1 hW h253) rfl rfl (Nat.le_of_ble_eq_true rfl) ⟨Nat.zero_le _, Nat.zero_le _⟩ ?_
        refine g_if_eq hC dX12_expression_256 (tgt := 297) (by decide) (fun c256 => ?_) (fun c256 => ?_)
        · replace h := (if_pos c256).symm.trans h
          refine g_aload_n hC dX12_expression_297 rfl (q := 0) rfl ?_
          refine g_bipush hC dX12_expression_298 (v := (41 : Int32)) (by decide) ?_
          obtain ⟨r300, h300, h⟩ := oB_some h
          refine g_cV1 hC cv_X12_isSign wd_1926 ⟨Nat.le_of_ble_eq_true rfl, Nat.le_of_ble_eq_true rfl⟩ rfl (by decide) dX12_expression_300 (As := [.int (41 : Int32)]) (st := []) (ok_X12_isSign hC.2.2.2.2.2.2.2.1 hW h300) rfl rfl (Nat.le_of_ble_eq_true rfl) ⟨Nat.zero_le _, Nat.zero_le _⟩ ?_
          refine g_if_eq hC dX12_expression_303 (tgt := 320) (by decide) (fun c303 => ?_) (fun c303 => ?_)
          · replace h := (if_pos c303).symm.trans h
            refine g_iconst hC dX12_expression_320 (v := (0 : Int32)) (by decide) ?_
            refine g_istore_n hC dX12_expression_321 rfl rfl (by decide) (lv' := [(1, .int (0 : Int32)), (0, .ref (mB E + 75))]) rfl ?_
            refine g_goto hC dX12_expression_322 (tgt := 29) (by decide) ?_
            refine g_lv [1, 0] rfl ?_
            exact hk29_ (0 : Int32) I L h
          · replace h := (if_neg c303).symm.trans h
            refine g_aload_n hC dX12_expression_306 rfl (q := 0) rfl ?_
            obtain ⟨r307, h307, h⟩ := oB_some h
            refine g_cV1 hC cv_X12_isOpened wd_1956 ⟨Nat.le_of_ble_eq_true rfl, Nat.le_of_ble_eq_true rfl⟩ rfl (by decide) dX12_expression_307 (As := []) (st := []) (ok_X12_isOpened hC.2.2.2.2.2.2.2.1 hW h307) rfl rfl (Nat.le_of_ble_eq_true rfl) ⟨Nat.zero_le _, Nat.zero_le _⟩ ?_
            refine g_if_eq hC dX12_expression_310 (tgt := 320) (by decide) (fun c310 => ?_) (fun c310 => ?_)
            · replace h := (if_pos c310).symm.trans h
              refine g_iconst hC dX12_expression_320 (v := (0 : Int32)) (by decide) ?_
              refine g_istore_n hC dX12_expression_321 rfl rfl (by decide) (lv' := [(1, .int (0 : Int32)), (0, .ref (mB E + 75))]) rfl ?_
              refine g_goto hC dX12_expression_322 (tgt := 29) (by decide) ?_
              refine g_lv [1, 0] rfl ?_
              exact hk29_ (0 : Int32) I L h
            · replace h := (if_neg c310).symm.trans h
              refine g_aload_n hC dX12_expression_313 rfl (q := 0) rfl ?_
              obtain ⟨r314, h314, h⟩ := oB_some h
              refine g_cV0 hC cv_X12_closes wd_1960 ⟨Nat.le_of_ble_eq_true rfl, Nat.le_of_ble_eq_true rfl⟩ rfl (by decide) dX12_expression_314 (As := []) (st := []) (ok_X12_closes hC.2.2.2.2.2.2.2.1 hW h314) rfl rfl (Nat.le_of_ble_eq_true rfl) ⟨Nat.zero_le _, Nat.zero_le _⟩ ?_
              refine g_goto hC dX12_expression_317 (tgt := 322) (by decide) ?_
              refine g_goto hC dX12_expression_322 (tgt := 29) (by decide) ?_
              exact hk29_ v1 r314.1 r314.2 h
        · replace h := (if_neg c256).symm.trans h
          exact bo_X12_expression_259 hC hW hE k29_ hk29_ (v1) (I) (L) h
    · replace h := (if_neg c201).symm.trans h
      exact bo_X12_expression_204 hC hW hE k29_ hk29_ (v1) (I) (L) h
noncomputable def b_X12_expression_161 (Fu : Nat) (k29_ : Int32 × mIT × mLT → Option (mIT × mLT)) (v1 : Int32) (s1 : Int32) (I : mIT) (L : mLT) : Option (mIT × mLT) :=
  oB (f_X12_waitsFor Fu I s1) (fun r161 => oG (inB (r161 75 34) 9) (oB (f_X12_reads Fu (mU r161 88 ((r161 75 34)).toNatClampNeg (vp_nar .boolean (1 : Int32))) L) (fun r175 => oB (f_X12_operand Fu r175.1 r175.2 (0 : Int32)) (fun r180 => k29_ (v1, r180.1, r180.2)))))
set_option maxRecDepth 20000 in
theorem bo_X12_expression_161 {X : mXT} {E : mEn} {Fu : Nat} {R : mRT}  (hC : mC X E mX12_expression RX12 cX12_expression) (hW : mWd R)   {out : mIT × mLT} (hE : mEd X E 0 0 (mSame none 106 1 (out.1) R (out.2))) (k29_ : Int32 × mIT × mLT → Option (mIT × mLT)) (hk29_ : ∀ (v1 : Int32) (I : mIT) (L : mLT),  k29_ (v1, I, L) = some out → mG X E 29 [(0, .ref (mB E + 75)), (1, .int v1)] [] 106 1 I R L 0 0) (v1 : Int32) (s1 : Int32) (I : mIT) (L : mLT) (h : b_X12_expression_161 Fu k29_ v1 s1 I L = some out) : mG X E 161 [(0, .ref (mB E + 75)), (1, .int v1)] [.int s1, .ref (mB E + 75)] 106 1 I R L 0 0 := by
  unfold b_X12_expression_161 at h
  obtain ⟨r161, h161, h⟩ := oB_some h
  refine g_cV0 hC cv_X12_waitsFor wd_1934 ⟨Nat.le_of_ble_eq_true rfl, Nat.le_of_ble_eq_true rfl⟩ rfl (by decide) dX12_expression_161 (As := [.int s1]) (st := []) (ok_X12_waitsFor hC.2.2.2.2.2.2.2.1 hW h161) rfl rfl (Nat.le_of_ble_eq_true rfl) ⟨Nat.zero_le _, Nat.zero_le _⟩ ?_
  refine g_aload_n hC dX12_expression_164 rfl (q := 0) rfl ?_
  refine g_getr hC fd_RX12_59 rfl (by decide) (C0 := "") (t0 := _) (Or.inr rfl) (rr_75_41 hW.1) dX12_expression_165 ?_
  refine g_aload_n hC dX12_expression_168 rfl (q := 0) rfl ?_
  refine g_geti hC fd_RX12_202 rfl (by decide) (Or.inl rfl) dX12_expression_169 ?_
  refine g_iconst hC dX12_expression_172 (v := (1 : Int32)) (by decide) ?_
  obtain ⟨g173, h⟩ := oG_some h
  refine g_zast hC rfl (by decide) (inB_in g173) dX12_expression_173 (nm_e ?_)
  refine g_aload_n hC dX12_expression_174 rfl (q := 0) rfl ?_
  obtain ⟨r175, h175, h⟩ := oB_some h
  refine g_cV0 hC cv_X12_reads wd_1855 ⟨Nat.le_of_ble_eq_true rfl, Nat.le_of_ble_eq_true rfl⟩ rfl (by decide) dX12_expression_175 (As := []) (st := []) (ok_X12_reads hC.2.2.2.2.2.2.2.1 hW h175) rfl rfl (Nat.le_of_ble_eq_true rfl) ⟨Nat.zero_le _, Nat.zero_le _⟩ ?_
  refine g_aload_n hC dX12_expression_178 rfl (q := 0) rfl ?_
  refine g_iconst hC dX12_expression_179 (v := (0 : Int32)) (by decide) ?_
  obtain ⟨r180, h180, h⟩ := oB_some h
  refine g_cV0 hC cv_X12_operand wd_1930 ⟨Nat.le_of_ble_eq_true rfl, Nat.le_of_ble_eq_true rfl⟩ rfl (by decide) dX12_expression_180 (As := [.int (0 : Int32)]) (st := []) (ok_X12_operand hC.2.2.2.2.2.2.2.1 hW h180) rfl rfl (Nat.le_of_ble_eq_true rfl) ⟨Nat.zero_le _, Nat.zero_le _⟩ ?_
  refine g_goto hC dX12_expression_183 (tgt := 322) (by decide) ?_
  refine g_goto hC dX12_expression_322 (tgt := 29) (by decide) ?_
  exact hk29_ v1 r180.1 r180.2 h
noncomputable def b_X12_expression_127 (Fu : Nat) (k29_ : Int32 × mIT × mLT → Option (mIT × mLT)) (v1 : Int32) (I : mIT) (L : mLT) : Option (mIT × mLT) :=
  oG (inB (I 75 34) 9) (if (I 88 ((I 75 34)).toNatClampNeg) = 0 then (oB (f_X12_drops Fu I (4 : Int32)) (fun r141 => oB (f_X12_isSign Fu r141 (60 : Int32)) (fun r148 => if r148 = 0 then (b_X12_expression_161 Fu k29_ v1 (7 : Int32) r141 L) else (b_X12_expression_161 Fu k29_ v1 (6 : Int32) r141 L)))) else (b_X12_expression_186 Fu k29_ v1 I L))
set_option maxRecDepth 20000 in
theorem bo_X12_expression_127 {X : mXT} {E : mEn} {Fu : Nat} {R : mRT}  (hC : mC X E mX12_expression RX12 cX12_expression) (hW : mWd R)   {out : mIT × mLT} (hE : mEd X E 0 0 (mSame none 106 1 (out.1) R (out.2))) (k29_ : Int32 × mIT × mLT → Option (mIT × mLT)) (hk29_ : ∀ (v1 : Int32) (I : mIT) (L : mLT),  k29_ (v1, I, L) = some out → mG X E 29 [(0, .ref (mB E + 75)), (1, .int v1)] [] 106 1 I R L 0 0) (v1 : Int32) (I : mIT) (L : mLT) (h : b_X12_expression_127 Fu k29_ v1 I L = some out) : mG X E 127 [(0, .ref (mB E + 75)), (1, .int v1)] [] 106 1 I R L 0 0 := by
  unfold b_X12_expression_127 at h
  refine g_aload_n hC dX12_expression_127 rfl (q := 0) rfl ?_
  refine g_getr hC fd_RX12_59 rfl (by decide) (C0 := "") (t0 := _) (Or.inr rfl) (rr_75_41 hW.1) dX12_expression_128 ?_
  refine g_aload_n hC dX12_expression_131 rfl (q := 0) rfl ?_
  refine g_geti hC fd_RX12_202 rfl (by decide) (Or.inl rfl) dX12_expression_132 ?_
  obtain ⟨g135, h⟩ := oG_some h
  refine g_zald hC rfl (by decide) (inB_in g135) dX12_expression_135 ?_
  refine g_if_ne hC dX12_expression_136 (tgt := 186) (by decide) (fun c136 => ?_) (fun c136 => ?_)
  · replace h := (if_neg c136).symm.trans h
    exact bo_X12_expression_186 hC hW hE k29_ hk29_ (v1) (I) (L) h
  · replace h := (if_pos c136).symm.trans h
    refine g_aload_n hC dX12_expression_139 rfl (q := 0) rfl ?_
    refine g_iconst hC dX12_expression_140 (v := (4 : Int32)) (by decide) ?_
    obtain ⟨r141, h141, h⟩ := oB_some h
    refine g_cV0 hC cv_X12_drops wd_1946 ⟨Nat.le_of_ble_eq_true rfl, Nat.le_of_ble_eq_true rfl⟩ rfl (by decide) dX12_expression_141 (As := [.int (4 : Int32)]) (st := []) (ok_X12_drops hC.2.2.2.2.2.2.2.1 hW h141) rfl rfl (Nat.le_of_ble_eq_true rfl) ⟨Nat.zero_le _, Nat.zero_le _⟩ ?_
    refine g_aload_n hC dX12_expression_144 rfl (q := 0) rfl ?_
    refine g_aload_n hC dX12_expression_145 rfl (q := 0) rfl ?_
    refine g_bipush hC dX12_expression_146 (v := (60 : Int32)) (by decide) ?_
    obtain ⟨r148, h148, h⟩ := oB_some h
    refine g_cV1 hC cv_X12_isSign wd_1926 ⟨Nat.le_of_ble_eq_true rfl, Nat.le_of_ble_eq_true rfl⟩ rfl (by decide) dX12_expression_148 (As := [.int (60 : Int32)]) (st := [.ref (mB E + 75)]) (ok_X12_isSign hC.2.2.2.2.2.2.2.1 hW h148) rfl rfl (Nat.le_of_ble_eq_true rfl) ⟨Nat.zero_le _, Nat.zero_le _⟩ ?_
    refine g_if_eq hC dX12_expression_151 (tgt := 159) (by decide) (fun c151 => ?_) (fun c151 => ?_)
    · replace h := (if_pos c151).symm.trans h
      refine g_bipush hC dX12_expression_159 (v := (7 : Int32)) (by decide) ?_
      exact bo_X12_expression_161 hC hW hE k29_ hk29_ (v1) ((7 : Int32)) (r141) (L) h
    · replace h := (if_neg c151).symm.trans h
      refine g_bipush hC dX12_expression_154 (v := (6 : Int32)) (by decide) ?_
      refine g_goto hC dX12_expression_156 (tgt := 161) (by decide) ?_
      exact bo_X12_expression_161 hC hW hE k29_ hk29_ (v1) ((6 : Int32)) (r141) (L) h
noncomputable def b_X12_expression_84 (Fu : Nat) (k29_ : Int32 × mIT × mLT → Option (mIT × mLT)) (v1 : Int32) (s1 : Int32) (I : mIT) (L : mLT) : Option (mIT × mLT) :=
  oB (f_X12_waitsFor Fu I s1) (fun r84 => oG (inB (r84 75 34) 9) (oB (f_X12_reads Fu (mU r84 88 ((r84 75 34)).toNatClampNeg (vp_nar .boolean (0 : Int32))) L) (fun r98 => oB (f_X12_operand Fu r98.1 r98.2 (1 : Int32)) (fun r103 => k29_ (v1, r103.1, r103.2)))))
set_option maxRecDepth 20000 in
theorem bo_X12_expression_84 {X : mXT} {E : mEn} {Fu : Nat} {R : mRT}  (hC : mC X E mX12_expression RX12 cX12_expression) (hW : mWd R)   {out : mIT × mLT} (hE : mEd X E 0 0 (mSame none 106 1 (out.1) R (out.2))) (k29_ : Int32 × mIT × mLT → Option (mIT × mLT)) (hk29_ : ∀ (v1 : Int32) (I : mIT) (L : mLT),  k29_ (v1, I, L) = some out → mG X E 29 [(0, .ref (mB E + 75)), (1, .int v1)] [] 106 1 I R L 0 0) (v1 : Int32) (s1 : Int32) (I : mIT) (L : mLT) (h : b_X12_expression_84 Fu k29_ v1 s1 I L = some out) : mG X E 84 [(0, .ref (mB E + 75)), (1, .int v1)] [.int s1, .ref (mB E + 75)] 106 1 I R L 0 0 := by
  unfold b_X12_expression_84 at h
  obtain ⟨r84, h84, h⟩ := oB_some h
  refine g_cV0 hC cv_X12_waitsFor wd_1934 ⟨Nat.le_of_ble_eq_true rfl, Nat.le_of_ble_eq_true rfl⟩ rfl (by decide) dX12_expression_84 (As := [.int s1]) (st := []) (ok_X12_waitsFor hC.2.2.2.2.2.2.2.1 hW h84) rfl rfl (Nat.le_of_ble_eq_true rfl) ⟨Nat.zero_le _, Nat.zero_le _⟩ ?_
  refine g_aload_n hC dX12_expression_87 rfl (q := 0) rfl ?_
  refine g_getr hC fd_RX12_59 rfl (by decide) (C0 := "") (t0 := _) (Or.inr rfl) (rr_75_41 hW.1) dX12_expression_88 ?_
  refine g_aload_n hC dX12_expression_91 rfl (q := 0) rfl ?_
  refine g_geti hC fd_RX12_202 rfl (by decide) (Or.inl rfl) dX12_expression_92 ?_
  refine g_iconst hC dX12_expression_95 (v := (0 : Int32)) (by decide) ?_
  obtain ⟨g96, h⟩ := oG_some h
  refine g_zast hC rfl (by decide) (inB_in g96) dX12_expression_96 (nm_e ?_)
  refine g_aload_n hC dX12_expression_97 rfl (q := 0) rfl ?_
  obtain ⟨r98, h98, h⟩ := oB_some h
  refine g_cV0 hC cv_X12_reads wd_1855 ⟨Nat.le_of_ble_eq_true rfl, Nat.le_of_ble_eq_true rfl⟩ rfl (by decide) dX12_expression_98 (As := []) (st := []) (ok_X12_reads hC.2.2.2.2.2.2.2.1 hW h98) rfl rfl (Nat.le_of_ble_eq_true rfl) ⟨Nat.zero_le _, Nat.zero_le _⟩ ?_
  refine g_aload_n hC dX12_expression_101 rfl (q := 0) rfl ?_
  refine g_iconst hC dX12_expression_102 (v := (1 : Int32)) (by decide) ?_
  obtain ⟨r103, h103, h⟩ := oB_some h
  refine g_cV0 hC cv_X12_operand wd_1930 ⟨Nat.le_of_ble_eq_true rfl, Nat.le_of_ble_eq_true rfl⟩ rfl (by decide) dX12_expression_103 (As := [.int (1 : Int32)]) (st := []) (ok_X12_operand hC.2.2.2.2.2.2.2.1 hW h103) rfl rfl (Nat.le_of_ble_eq_true rfl) ⟨Nat.zero_le _, Nat.zero_le _⟩ ?_
  refine g_goto hC dX12_expression_106 (tgt := 322) (by decide) ?_
  refine g_goto hC dX12_expression_322 (tgt := 29) (by decide) ?_
  exact hk29_ v1 r103.1 r103.2 h
noncomputable def b_X12_expression_69 (Fu : Nat) (k29_ : Int32 × mIT × mLT → Option (mIT × mLT)) (v1 : Int32) (v2 : Int32) (s1 : Int32) (I : mIT) (L : mLT) : Option (mIT × mLT) :=
  oB (f_X12_drops Fu I s1) (fun r69 => if v2 = (16 : Int32) then (b_X12_expression_84 Fu k29_ v1 (4 : Int32) r69 L) else (b_X12_expression_84 Fu k29_ v1 (5 : Int32) r69 L))
set_option maxRecDepth 20000 in
theorem bo_X12_expression_69 {X : mXT} {E : mEn} {Fu : Nat} {R : mRT}  (hC : mC X E mX12_expression RX12 cX12_expression) (hW : mWd R)   {out : mIT × mLT} (hE : mEd X E 0 0 (mSame none 106 1 (out.1) R (out.2))) (k29_ : Int32 × mIT × mLT → Option (mIT × mLT)) (hk29_ : ∀ (v1 : Int32) (I : mIT) (L : mLT),  k29_ (v1, I, L) = some out → mG X E 29 [(0, .ref (mB E + 75)), (1, .int v1)] [] 106 1 I R L 0 0) (v1 : Int32) (v2 : Int32) (s1 : Int32) (I : mIT) (L : mLT) (h : b_X12_expression_69 Fu k29_ v1 v2 s1 I L = some out) : mG X E 69 [(0, .ref (mB E + 75)), (1, .int v1), (2, .int v2)] [.int s1, .ref (mB E + 75)] 106 1 I R L 0 0 := by
  unfold b_X12_expression_69 at h
  obtain ⟨r69, h69, h⟩ := oB_some h
  refine g_cV0 hC cv_X12_drops wd_1946 ⟨Nat.le_of_ble_eq_true rfl, Nat.le_of_ble_eq_true rfl⟩ rfl (by decide) dX12_expression_69 (As := [.int s1]) (st := []) (ok_X12_drops hC.2.2.2.2.2.2.2.1 hW h69) rfl rfl (Nat.le_of_ble_eq_true rfl) ⟨Nat.zero_le _, Nat.zero_le _⟩ ?_
  refine g_aload_n hC dX12_expression_72 rfl (q := 0) rfl ?_
  refine g_iload_n hC dX12_expression_73 rfl (q := 2) rfl ?_
  refine g_bipush hC dX12_expression_74 (v := (16 : Int32)) (by decide) ?_
  refine g_ic_ne hC dX12_expression_76 (tgt := 83) (by decide) (fun c76 => ?_) (fun c76 => ?_)
  · replace h := (if_neg c76).symm.trans h
    refine g_iconst hC dX12_expression_83 (v := (5 : Int32)) (by decide) ?_
    refine g_lv [0, 1] rfl ?_
    exact bo_X12_expression_84 hC hW hE k29_ hk29_ (v1) ((5 : Int32)) (r69) (L) h
  · replace h := (if_pos c76).symm.trans h
    refine g_iconst hC dX12_expression_79 (v := (4 : Int32)) (by decide) ?_
    refine g_goto hC dX12_expression_80 (tgt := 84) (by decide) ?_
    refine g_lv [0, 1] rfl ?_
    exact bo_X12_expression_84 hC hW hE k29_ hk29_ (v1) ((4 : Int32)) (r69) (L) h
noncomputable def b_X12_expression_57 (Fu : Nat) (k29_ : Int32 × mIT × mLT → Option (mIT × mLT)) (v1 : Int32) (v2 : Int32) (I : mIT) (L : mLT) : Option (mIT × mLT) :=
  if v2 = (16 : Int32) then (b_X12_expression_69 Fu k29_ v1 v2 (2 : Int32) I L) else (b_X12_expression_69 Fu k29_ v1 v2 (1 : Int32) I L)
set_option maxRecDepth 20000 in
theorem bo_X12_expression_57 {X : mXT} {E : mEn} {Fu : Nat} {R : mRT}  (hC : mC X E mX12_expression RX12 cX12_expression) (hW : mWd R)   {out : mIT × mLT} (hE : mEd X E 0 0 (mSame none 106 1 (out.1) R (out.2))) (k29_ : Int32 × mIT × mLT → Option (mIT × mLT)) (hk29_ : ∀ (v1 : Int32) (I : mIT) (L : mLT),  k29_ (v1, I, L) = some out → mG X E 29 [(0, .ref (mB E + 75)), (1, .int v1)] [] 106 1 I R L 0 0) (v1 : Int32) (v2 : Int32) (I : mIT) (L : mLT) (h : b_X12_expression_57 Fu k29_ v1 v2 I L = some out) : mG X E 57 [(0, .ref (mB E + 75)), (1, .int v1), (2, .int v2)] [] 106 1 I R L 0 0 := by
  unfold b_X12_expression_57 at h
  refine g_aload_n hC dX12_expression_57 rfl (q := 0) rfl ?_
  refine g_iload_n hC dX12_expression_58 rfl (q := 2) rfl ?_
  refine g_bipush hC dX12_expression_59 (v := (16 : Int32)) (by decide) ?_
  refine g_ic_ne hC dX12_expression_61 (tgt := 68) (by decide) (fun c61 => ?_) (fun c61 => ?_)
  · replace h := (if_neg c61).symm.trans h
    refine g_iconst hC dX12_expression_68 (v := (1 : Int32)) (by decide) ?_
    exact bo_X12_expression_69 hC hW hE k29_ hk29_ (v1) (v2) ((1 : Int32)) (I) (L) h
  · replace h := (if_pos c61).symm.trans h
    refine g_iconst hC dX12_expression_64 (v := (2 : Int32)) (by decide) ?_
    refine g_goto hC dX12_expression_65 (tgt := 69) (by decide) ?_
    exact bo_X12_expression_69 hC hW hE k29_ hk29_ (v1) (v2) ((2 : Int32)) (I) (L) h
noncomputable def b_X12_expression_29 (Fu : Nat) (k29_ : Int32 × mIT × mLT → Option (mIT × mLT)) (v1 : Int32) (I : mIT) (L : mLT) : Option (mIT × mLT) :=
  if v1 = 0 then (b_X12_expression_325 Fu I L) else (oB (f_X12_isGood Fu I) (fun r34 => if r34 = 0 then (b_X12_expression_325 Fu I L) else (oB (f_X12_knownWord Fu I L) (fun r41 => if r41 = (16 : Int32) then (b_X12_expression_57 Fu k29_ v1 r41 I L) else (if r41 = (17 : Int32) then (b_X12_expression_57 Fu k29_ v1 r41 I L) else (oB (f_X12_isSign Fu I (60 : Int32)) (fun r112 => if r112 = 0 then (oB (f_X12_isSign Fu I (61 : Int32)) (fun r121 => if r121 = 0 then (b_X12_expression_186 Fu k29_ v1 I L) else (b_X12_expression_127 Fu k29_ v1 I L))) else (b_X12_expression_127 Fu k29_ v1 I L))))))))
set_option maxRecDepth 20000 in
theorem bo_X12_expression_29 {X : mXT} {E : mEn} {Fu : Nat} {R : mRT}  (hC : mC X E mX12_expression RX12 cX12_expression) (hW : mWd R)   {out : mIT × mLT} (hE : mEd X E 0 0 (mSame none 106 1 (out.1) R (out.2))) (k29_ : Int32 × mIT × mLT → Option (mIT × mLT)) (hk29_ : ∀ (v1 : Int32) (I : mIT) (L : mLT),  k29_ (v1, I, L) = some out → mG X E 29 [(0, .ref (mB E + 75)), (1, .int v1)] [] 106 1 I R L 0 0) (v1 : Int32) (I : mIT) (L : mLT) (h : b_X12_expression_29 Fu k29_ v1 I L = some out) : mG X E 29 [(0, .ref (mB E + 75)), (1, .int v1)] [] 106 1 I R L 0 0 := by
  unfold b_X12_expression_29 at h
  refine g_iload_n hC dX12_expression_29 rfl (q := 1) rfl ?_
  refine g_if_eq hC dX12_expression_30 (tgt := 325) (by decide) (fun c30 => ?_) (fun c30 => ?_)
  · replace h := (if_pos c30).symm.trans h
    refine g_lv [0] rfl ?_
    exact bo_X12_expression_325 hC hW hE (I) (L) h
  · replace h := (if_neg c30).symm.trans h
    refine g_aload_n hC dX12_expression_33 rfl (q := 0) rfl ?_
    obtain ⟨r34, h34, h⟩ := oB_some h
    refine g_cV1 hC cv_X12_isGood wd_1869 ⟨Nat.le_of_ble_eq_true rfl, Nat.le_of_ble_eq_true rfl⟩ rfl (by decide) dX12_expression_34 (As := []) (st := []) (ok_X12_isGood hC.2.2.2.2.2.2.2.1 hW h34) rfl rfl (Nat.le_of_ble_eq_true rfl) ⟨Nat.zero_le _, Nat.zero_le _⟩ ?_
    refine g_if_eq hC dX12_expression_37 (tgt := 325) (by decide) (fun c37 => ?_) (fun c37 => ?_)
    · replace h := (if_pos c37).symm.trans h
      refine g_lv [0] rfl ?_
      exact bo_X12_expression_325 hC hW hE (I) (L) h
    · replace h := (if_neg c37).symm.trans h
      refine g_aload_n hC dX12_expression_40 rfl (q := 0) rfl ?_
      obtain ⟨r41, h41, h⟩ := oB_some h
      refine g_cV1 hC cv_X12_knownWord wd_1877 ⟨Nat.le_of_ble_eq_true rfl, Nat.le_of_ble_eq_true rfl⟩ rfl (by decide) dX12_expression_41 (As := []) (st := []) (ok_X12_knownWord hC.2.2.2.2.2.2.2.1 hW h41) rfl rfl (Nat.le_of_ble_eq_true rfl) ⟨Nat.zero_le _, Nat.zero_le _⟩ ?_
      refine g_istore_n hC dX12_expression_44 rfl rfl (by decide) (lv' := [(2, .int r41), (0, .ref (mB E + 75)), (1, .int v1)]) rfl ?_
      refine g_iload_n hC dX12_expression_45 rfl (q := 0) rfl ?_
      refine g_bipush hC dX12_expression_46 (v := (16 : Int32)) (by decide) ?_
      refine g_ic_eq hC dX12_expression_48 (tgt := 57) (by decide) (fun c48 => ?_) (fun c48 => ?_)
      · replace h := (if_pos c48).symm.trans h
        refine g_lv [1, 2, 0] rfl ?_
        exact bo_X12_expression_57 hC hW hE k29_ hk29_ (v1) (r41) (I) (L) h
      · replace h := (if_neg c48).symm.trans h
        refine g_iload_n hC dX12_expression_51 rfl (q := 0) rfl ?_
        refine g_bipush hC dX12_expression_52 (v := (17 : Int32)) (by decide) ?_
        refine g_ic_ne hC dX12_expression_54 (tgt := 109) (by decide) (fun c54 => ?_) (fun c54 => ?_)
        · replace h := (if_neg c54).symm.trans h
          refine g_aload_n hC dX12_expression_109 rfl (q := 1) rfl ?_
          refine g_bipush hC dX12_expression_110 (v := (60 : Int32)) (by decide) ?_
          obtain ⟨r112, h112, h⟩ := oB_some h
          refine g_cV1 hC cv_X12_isSign wd_1926 ⟨Nat.le_of_ble_eq_true rfl, Nat.le_of_ble_eq_true rfl⟩ rfl (by decide) dX12_expression_112 (As := [.int (60 : Int32)]) (st := []) (ok_X12_isSign hC.2.2.2.2.2.2.2.1 hW h112) rfl rfl (Nat.le_of_ble_eq_true rfl) ⟨Nat.zero_le _, Nat.zero_le _⟩ ?_
          refine g_if_ne hC dX12_expression_115 (tgt := 127) (by decide) (fun c115 => ?_) (fun c115 => ?_)
          · replace h := (if_neg c115).symm.trans h
            refine g_lv [1, 2] rfl ?_
            exact bo_X12_expression_127 hC hW hE k29_ hk29_ (v1) (I) (L) h
          · replace h := (if_pos c115).symm.trans h
            refine g_aload_n hC dX12_expression_118 rfl (q := 1) rfl ?_
            refine g_bipush hC dX12_expression_119 (v := (61 : Int32)) (by decide) ?_
            obtain ⟨r121, h121, h⟩ := oB_some h
            refine g_cV1 hC cv_X12_isSign wd_1926 ⟨Nat.le_of_ble_eq_true rfl, Nat.le_of_ble_eq_true rfl⟩ rfl (by decide) dX12_expression_121 (As := [.int (61 : Int32)]) (st := []) (ok_X12_isSign hC.2.2.2.2.2.2.2.1 hW h121) rfl rfl (Nat.le_of_ble_eq_true rfl) ⟨Nat.zero_le _, Nat.zero_le _⟩ ?_
            refine g_if_eq hC dX12_expression_124 (tgt := 186) (by decide) (fun c124 => ?_) (fun c124 => ?_)
            · replace h := (if_pos c124).symm.trans h
              refine g_lv [1, 2] rfl ?_
              exact bo_X12_expression_186 hC hW hE k29_ hk29_ (v1) (I) (L) h
            · replace h := (if_neg c124).symm.trans h
              refine g_lv [1, 2] rfl ?_
              exact bo_X12_expression_127 hC hW hE k29_ hk29_ (v1) (I) (L) h
        · replace h := (if_pos c54).symm.trans h
          refine g_lv [1, 2, 0] rfl ?_
          exact bo_X12_expression_57 hC hW hE k29_ hk29_ (v1) (r41) (I) (L) h
noncomputable def w_X12_expression_29 (Fu : Nat)  (N : Nat) (v1 : Int32) (I : mIT) (L : mLT) : Option (mIT × mLT) :=
  loopF (fun self (s : Int32 × mIT × mLT) => b_X12_expression_29 Fu self s.1 s.2.1 s.2.2) N (v1, I, L)
theorem wo_X12_expression_29 {X : mXT} {E : mEn} {Fu : Nat} {R : mRT}  (hC : mC X E mX12_expression RX12 cX12_expression) (hW : mWd R)   {out : mIT × mLT} (hE : mEd X E 0 0 (mSame none 106 1 (out.1) R (out.2)))  (N : Nat) (v1 : Int32) (I : mIT) (L : mLT) (h : w_X12_expression_29 Fu  N v1 I L = some out) : mG X E 29 [(0, .ref (mB E + 75)), (1, .int v1)] [] 106 1 I R L 0 0 :=
  loopF_ok (Gd := fun s : Int32 × mIT × mLT => mG X E 29 [(0, .ref (mB E + 75)), (1, .int s.1)] [] 106 1 s.2.1 R s.2.2 0 0) (fun self hs s h => bo_X12_expression_29 hC hW hE self (fun v1 I L h => hs (v1, I, L) h) s.1 s.2.1 s.2.2 h) N (v1, I, L) h
noncomputable def f_X12_expression (Fu : Nat) (I : mIT) (L : mLT)  : Option (mIT × mLT) :=
  oB (f_X12_isGood Fu I) (fun r1 => if r1 = 0 then (some (I, L)) else (oB (f_X12_deeper Fu (mU (mU I 75 33 (0 : Int32)) 75 34 (0 : Int32))) (fun r19 => oB (f_X12_operand Fu r19 L (1 : Int32)) (fun r24 => w_X12_expression_29 Fu Fu (1 : Int32) r24.1 r24.2))))
set_option maxRecDepth 20000 in
theorem ok_X12_expression {l : Launch} {E : mEn} {Fu : Nat} {I : mIT} {R : mRT} {L : mLT}  (hst : l.stackTraces = false) (hW : mWd R)  {out : mIT × mLT} (h : f_X12_expression Fu I L  = some out) : mOk l E mX12_expression [.ref (mB E + 75)] 106 1 I R L 0 0 (mSame none 106 1 (out.1) R (out.2)) := by
  refine mOk_of hst (by decide) (Nat.le_of_ble_eq_true rfl) (fun X hC hE _ => ?_)
  have hC : mC X E mX12_expression RX12 cX12_expression := hC
  show mG X E 0 [(0, .ref (mB E + 75))] [] 106 1 I R L 0 0
  unfold f_X12_expression at h
  refine g_aload_n hC dX12_expression_0 rfl (q := 0) rfl ?_
  obtain ⟨r1, h1, h⟩ := oB_some h
  refine g_cV1 hC cv_X12_isGood wd_1869 ⟨Nat.le_of_ble_eq_true rfl, Nat.le_of_ble_eq_true rfl⟩ rfl (by decide) dX12_expression_1 (As := []) (st := []) (ok_X12_isGood hC.2.2.2.2.2.2.2.1 hW h1) rfl rfl (Nat.le_of_ble_eq_true rfl) ⟨Nat.zero_le _, Nat.zero_le _⟩ ?_
  refine g_if_ne hC dX12_expression_4 (tgt := 8) (by decide) (fun c4 => ?_) (fun c4 => ?_)
  · replace h := (if_neg c4).symm.trans h
    refine g_aload_n hC dX12_expression_8 rfl (q := 0) rfl ?_
    refine g_iconst hC dX12_expression_9 (v := (0 : Int32)) (by decide) ?_
    refine g_puti hC fd_RX12_186 rfl (by decide) rfl dX12_expression_10 (nm_e ?_)
    refine g_aload_n hC dX12_expression_13 rfl (q := 0) rfl ?_
    refine g_iconst hC dX12_expression_14 (v := (0 : Int32)) (by decide) ?_
    refine g_puti hC fd_RX12_202 rfl (by decide) rfl dX12_expression_15 (nm_e ?_)
    refine g_aload_n hC dX12_expression_18 rfl (q := 0) rfl ?_
    obtain ⟨r19, h19, h⟩ := oB_some h
    refine g_cV0 hC cv_X12_deeper wd_1922 ⟨Nat.le_of_ble_eq_true rfl, Nat.le_of_ble_eq_true rfl⟩ rfl (by decide) dX12_expression_19 (As := []) (st := []) (ok_X12_deeper hC.2.2.2.2.2.2.2.1 hW h19) rfl rfl (Nat.le_of_ble_eq_true rfl) ⟨Nat.zero_le _, Nat.zero_le _⟩ ?_
    refine g_aload_n hC dX12_expression_22 rfl (q := 0) rfl ?_
    refine g_iconst hC dX12_expression_23 (v := (1 : Int32)) (by decide) ?_
    obtain ⟨r24, h24, h⟩ := oB_some h
    refine g_cV0 hC cv_X12_operand wd_1930 ⟨Nat.le_of_ble_eq_true rfl, Nat.le_of_ble_eq_true rfl⟩ rfl (by decide) dX12_expression_24 (As := [.int (1 : Int32)]) (st := []) (ok_X12_operand hC.2.2.2.2.2.2.2.1 hW h24) rfl rfl (Nat.le_of_ble_eq_true rfl) ⟨Nat.zero_le _, Nat.zero_le _⟩ ?_
    refine g_iconst hC dX12_expression_27 (v := (1 : Int32)) (by decide) ?_
    refine g_istore_n hC dX12_expression_28 rfl rfl (by decide) (lv' := [(1, .int (1 : Int32)), (0, .ref (mB E + 75))]) rfl ?_
    refine g_lv [1, 0] rfl ?_
    exact wo_X12_expression_29 hC hW hE Fu ((1 : Int32)) (r24.1) (r24.2) h
  · replace h := (if_pos c4).symm.trans h
    cases h
    exact g_vret hC hE rfl dX12_expression_7 (Nat.zero_le _) (Nat.zero_le _) ⟨rfl, rfl, rfl, rfl, rfl, rfl⟩
noncomputable def f_X12_fault (Fu : Nat) (I : mIT)  : Option (Int32 × mIT) :=
  some (((mU I 75 0 (0 : Int32)) 75 15), (mU I 75 0 (0 : Int32)))
set_option maxRecDepth 20000 in
theorem ok_X12_fault {l : Launch} {E : mEn} {Fu : Nat} {I : mIT} {R : mRT} {L : mLT}  (hst : l.stackTraces = false) (hW : mWd R)  {out : Int32 × mIT} (h : f_X12_fault Fu I  = some out) : mOk l E mX12_fault [.ref (mB E + 75)] 106 1 I R L 0 0 (mSame (some (.int (out.1))) 106 1 (out.2) R L) := by
  refine mOk_of hst (by decide) (Nat.le_of_ble_eq_true rfl) (fun X hC hE _ => ?_)
  have hC : mC X E mX12_fault RX12 cX12_fault := hC
  show mG X E 0 [(0, .ref (mB E + 75))] [] 106 1 I R L 0 0
  unfold f_X12_fault at h
  refine g_aload_n hC dX12_fault_0 rfl (q := 0) rfl ?_
  refine g_iconst hC dX12_fault_1 (v := (0 : Int32)) (by decide) ?_
  refine g_puti hC fd_RX12_114 rfl (by decide) rfl dX12_fault_2 (nm_e ?_)
  refine g_aload_n hC dX12_fault_5 rfl (q := 0) rfl ?_
  refine g_geti hC fd_RX12_35 rfl (by decide) (Or.inl rfl) dX12_fault_6 ?_
  cases h
  exact g_iret hC hE rfl dX12_fault_9 (Nat.zero_le _) (Nat.zero_le _) ⟨rfl, rfl, rfl, rfl, rfl, rfl⟩
noncomputable def b_X12_lays_3 (Fu : Nat) (k3_ : Int32 × Int32 × mIT → Option (mIT)) (v1 : Int32) (v2 : Int32) (I : mIT) : Option (mIT) :=
  if v2 < 0 then (some (I)) else (oG (inB (I 75 13) 700) (k3_ (v1, (v2 + (-8 : Int32)), (mU (mU I 80 ((I 75 13)).toNatClampNeg ((v1 >>> (v2 &&& 31)) &&& (255 : Int32))) 75 13 (((mU I 80 ((I 75 13)).toNatClampNeg ((v1 >>> (v2 &&& 31)) &&& (255 : Int32))) 75 13) + (1 : Int32))))))
set_option maxRecDepth 20000 in
theorem bo_X12_lays_3 {X : mXT} {E : mEn} {Fu : Nat} {R : mRT} {L : mLT}  (hC : mC X E mX12_lays RX12 cX12_lays) (hW : mWd R)   {out : mIT} (hE : mEd X E 0 0 (mSame none 106 1 (out) R L)) (k3_ : Int32 × Int32 × mIT → Option (mIT)) (hk3_ : ∀ (v1 : Int32) (v2 : Int32) (I : mIT),  k3_ (v1, v2, I) = some out → mG X E 3 [(0, .ref (mB E + 75)), (1, .int v1), (2, .int v2)] [] 106 1 I R L 0 0) (v1 : Int32) (v2 : Int32) (I : mIT) (h : b_X12_lays_3 Fu k3_ v1 v2 I = some out) : mG X E 3 [(0, .ref (mB E + 75)), (1, .int v1), (2, .int v2)] [] 106 1 I R L 0 0 := by
  unfold b_X12_lays_3 at h
  refine g_iload_n hC dX12_lays_3 rfl (q := 2) rfl ?_
  refine g_if_lt hC dX12_lays_4 (tgt := 39) (by decide) (fun c4 => ?_) (fun c4 => ?_)
  · replace h := (if_pos c4).symm.trans h
    cases h
    exact g_vret hC hE rfl dX12_lays_39 (Nat.zero_le _) (Nat.zero_le _) ⟨rfl, rfl, rfl, rfl, rfl, rfl⟩
  · replace h := (if_neg c4).symm.trans h
    refine g_aload_n hC dX12_lays_7 rfl (q := 0) rfl ?_
    refine g_getr hC fd_RX12_32 rfl (by decide) (C0 := "") (t0 := _) (Or.inr rfl) (rr_75_12 hW.1) dX12_lays_8 ?_
    refine g_aload_n hC dX12_lays_11 rfl (q := 0) rfl ?_
    refine g_geti hC fd_RX12_117 rfl (by decide) (Or.inl rfl) dX12_lays_12 ?_
    refine g_iload_n hC dX12_lays_15 rfl (q := 1) rfl ?_
    refine g_iload_n hC dX12_lays_16 rfl (q := 2) rfl ?_
    refine g_ishr hC dX12_lays_17 ?_
    refine g_sipush hC dX12_lays_18 (v := (255 : Int32)) (by decide) ?_
    refine g_iand hC dX12_lays_21 ?_
    obtain ⟨g22, h⟩ := oG_some h
    refine g_iast hC rfl (by decide) (inB_in g22) dX12_lays_22 (nm_e ?_)
    refine g_aload_n hC dX12_lays_23 rfl (q := 0) rfl ?_
    refine g_dup hC dX12_lays_24 rfl ?_
    refine g_geti hC fd_RX12_117 rfl (by decide) (Or.inl rfl) dX12_lays_25 ?_
    refine g_iconst hC dX12_lays_28 (v := (1 : Int32)) (by decide) ?_
    refine g_iadd hC dX12_lays_29 ?_
    refine g_puti hC fd_RX12_117 rfl (by decide) rfl dX12_lays_30 (nm_e ?_)
    refine g_iinc hC dX12_lays_33 rfl (q := 2) rfl (w := (v2 + (-8 : Int32))) rfl (by decide) (lv' := [(2, .int (v2 + (-8 : Int32))), (0, .ref (mB E + 75)), (1, .int v1)]) rfl ?_
    refine g_goto hC dX12_lays_36 (tgt := 3) (by decide) ?_
    refine g_lv [1, 2, 0] rfl ?_
    exact hk3_ v1 (v2 + (-8 : Int32)) (mU (mU I 80 ((I 75 13)).toNatClampNeg ((v1 >>> (v2 &&& 31)) &&& (255 : Int32))) 75 13 (((mU I 80 ((I 75 13)).toNatClampNeg ((v1 >>> (v2 &&& 31)) &&& (255 : Int32))) 75 13) + (1 : Int32))) h
noncomputable def w_X12_lays_3 (Fu : Nat)  (N : Nat) (v1 : Int32) (v2 : Int32) (I : mIT) : Option (mIT) :=
  loopF (fun self (s : Int32 × Int32 × mIT) => b_X12_lays_3 Fu self s.1 s.2.1 s.2.2) N (v1, v2, I)
theorem wo_X12_lays_3 {X : mXT} {E : mEn} {Fu : Nat} {R : mRT} {L : mLT}  (hC : mC X E mX12_lays RX12 cX12_lays) (hW : mWd R)   {out : mIT} (hE : mEd X E 0 0 (mSame none 106 1 (out) R L))  (N : Nat) (v1 : Int32) (v2 : Int32) (I : mIT) (h : w_X12_lays_3 Fu  N v1 v2 I = some out) : mG X E 3 [(0, .ref (mB E + 75)), (1, .int v1), (2, .int v2)] [] 106 1 I R L 0 0 :=
  loopF_ok (Gd := fun s : Int32 × Int32 × mIT => mG X E 3 [(0, .ref (mB E + 75)), (1, .int s.1), (2, .int s.2.1)] [] 106 1 s.2.2 R L 0 0) (fun self hs s h => bo_X12_lays_3 hC hW hE self (fun v1 v2 I h => hs (v1, v2, I) h) s.1 s.2.1 s.2.2 h) N (v1, v2, I) h
noncomputable def f_X12_lays (Fu : Nat) (I : mIT) (v1 : Int32) : Option (mIT) :=
  w_X12_lays_3 Fu Fu v1 (24 : Int32) I
set_option maxRecDepth 20000 in
theorem ok_X12_lays {l : Launch} {E : mEn} {Fu : Nat} {I : mIT} {R : mRT} {L : mLT} {v1 : Int32} (hst : l.stackTraces = false) (hW : mWd R)  {out : mIT} (h : f_X12_lays Fu I v1 = some out) : mOk l E mX12_lays [.ref (mB E + 75), .int v1] 106 1 I R L 0 0 (mSame none 106 1 (out) R L) := by
  refine mOk_of hst (by decide) (Nat.le_of_ble_eq_true rfl) (fun X hC hE _ => ?_)
  have hC : mC X E mX12_lays RX12 cX12_lays := hC
  show mG X E 0 [(0, .ref (mB E + 75)), (1, .int v1)] [] 106 1 I R L 0 0
  unfold f_X12_lays at h
  refine g_bipush hC dX12_lays_0 (v := (24 : Int32)) (by decide) ?_
  refine g_istore_n hC dX12_lays_2 rfl rfl (by decide) (lv' := [(2, .int (24 : Int32)), (0, .ref (mB E + 75)), (1, .int v1)]) rfl ?_
  refine g_lv [1, 2, 0] rfl ?_
  exact wo_X12_lays_3 hC hW hE Fu (v1) ((24 : Int32)) (I) h
noncomputable def f_X12_feed (Fu : Nat) (I : mIT) (v1 : Int32) (v2 : Int32) (v3 : Int32) (v4 : Int32) (v5 : Int32) : Option (Int32 × mIT) :=
  if (((mU I 75 0 (0 : Int32)) 75 13) + (20 : Int32)) ≤ (700 : Int32) then (oB (f_X12_lays Fu (mU I 75 0 (0 : Int32)) v1) (fun r22 => oB (f_X12_lays Fu r22 v2) (fun r27 => oB (f_X12_lays Fu r27 v3) (fun r32 => oB (f_X12_lays Fu r32 v4) (fun r38 => oB (f_X12_lays Fu r38 v5) (fun r44 => some ((r44 75 13), r44))))))) else (some ((-1 : Int32), (mU I 75 0 (0 : Int32))))
set_option maxRecDepth 20000 in
theorem ok_X12_feed {l : Launch} {E : mEn} {Fu : Nat} {I : mIT} {R : mRT} {L : mLT} {v1 : Int32} {v2 : Int32} {v3 : Int32} {v4 : Int32} {v5 : Int32} (hst : l.stackTraces = false) (hW : mWd R)  {out : Int32 × mIT} (h : f_X12_feed Fu I v1 v2 v3 v4 v5 = some out) : mOk l E mX12_feed [.ref (mB E + 75), .int v1, .int v2, .int v3, .int v4, .int v5] 106 1 I R L 0 0 (mSame (some (.int (out.1))) 106 1 (out.2) R L) := by
  refine mOk_of hst (by decide) (Nat.le_of_ble_eq_true rfl) (fun X hC hE _ => ?_)
  have hC : mC X E mX12_feed RX12 cX12_feed := hC
  show mG X E 0 [(0, .ref (mB E + 75)), (1, .int v1), (2, .int v2), (3, .int v3), (4, .int v4), (5, .int v5)] [] 106 1 I R L 0 0
  unfold f_X12_feed at h
  refine g_aload_n hC dX12_feed_0 rfl (q := 0) rfl ?_
  refine g_iconst hC dX12_feed_1 (v := (0 : Int32)) (by decide) ?_
  refine g_puti hC fd_RX12_114 rfl (by decide) rfl dX12_feed_2 (nm_e ?_)
  refine g_aload_n hC dX12_feed_5 rfl (q := 0) rfl ?_
  refine g_geti hC fd_RX12_117 rfl (by decide) (Or.inl rfl) dX12_feed_6 ?_
  refine g_bipush hC dX12_feed_9 (v := (20 : Int32)) (by decide) ?_
  refine g_iadd hC dX12_feed_11 ?_
  refine g_sipush hC dX12_feed_12 (v := (700 : Int32)) (by decide) ?_
  refine g_ic_le hC dX12_feed_15 (tgt := 20) (by decide) (fun c15 => ?_) (fun c15 => ?_)
  · replace h := (if_pos c15).symm.trans h
    refine g_aload_n hC dX12_feed_20 rfl (q := 0) rfl ?_
    refine g_iload_n hC dX12_feed_21 rfl (q := 1) rfl ?_
    obtain ⟨r22, h22, h⟩ := oB_some h
    refine g_cV0 hC cv_X12_lays wd_1843 ⟨Nat.le_of_ble_eq_true rfl, Nat.le_of_ble_eq_true rfl⟩ rfl (by decide) dX12_feed_22 (As := [.int v1]) (st := []) (ok_X12_lays hC.2.2.2.2.2.2.2.1 hW h22) rfl rfl (Nat.le_of_ble_eq_true rfl) ⟨Nat.zero_le _, Nat.zero_le _⟩ ?_
    refine g_aload_n hC dX12_feed_25 rfl (q := 0) rfl ?_
    refine g_iload_n hC dX12_feed_26 rfl (q := 2) rfl ?_
    obtain ⟨r27, h27, h⟩ := oB_some h
    refine g_cV0 hC cv_X12_lays wd_1843 ⟨Nat.le_of_ble_eq_true rfl, Nat.le_of_ble_eq_true rfl⟩ rfl (by decide) dX12_feed_27 (As := [.int v2]) (st := []) (ok_X12_lays hC.2.2.2.2.2.2.2.1 hW h27) rfl rfl (Nat.le_of_ble_eq_true rfl) ⟨Nat.zero_le _, Nat.zero_le _⟩ ?_
    refine g_aload_n hC dX12_feed_30 rfl (q := 0) rfl ?_
    refine g_iload_n hC dX12_feed_31 rfl (q := 3) rfl ?_
    obtain ⟨r32, h32, h⟩ := oB_some h
    refine g_cV0 hC cv_X12_lays wd_1843 ⟨Nat.le_of_ble_eq_true rfl, Nat.le_of_ble_eq_true rfl⟩ rfl (by decide) dX12_feed_32 (As := [.int v3]) (st := []) (ok_X12_lays hC.2.2.2.2.2.2.2.1 hW h32) rfl rfl (Nat.le_of_ble_eq_true rfl) ⟨Nat.zero_le _, Nat.zero_le _⟩ ?_
    refine g_aload_n hC dX12_feed_35 rfl (q := 0) rfl ?_
    refine g_iload hC dX12_feed_36 (q := 4) rfl ?_
    obtain ⟨r38, h38, h⟩ := oB_some h
    refine g_cV0 hC cv_X12_lays wd_1843 ⟨Nat.le_of_ble_eq_true rfl, Nat.le_of_ble_eq_true rfl⟩ rfl (by decide) dX12_feed_38 (As := [.int v4]) (st := []) (ok_X12_lays hC.2.2.2.2.2.2.2.1 hW h38) rfl rfl (Nat.le_of_ble_eq_true rfl) ⟨Nat.zero_le _, Nat.zero_le _⟩ ?_
    refine g_aload_n hC dX12_feed_41 rfl (q := 0) rfl ?_
    refine g_iload hC dX12_feed_42 (q := 5) rfl ?_
    obtain ⟨r44, h44, h⟩ := oB_some h
    refine g_cV0 hC cv_X12_lays wd_1843 ⟨Nat.le_of_ble_eq_true rfl, Nat.le_of_ble_eq_true rfl⟩ rfl (by decide) dX12_feed_44 (As := [.int v5]) (st := []) (ok_X12_lays hC.2.2.2.2.2.2.2.1 hW h44) rfl rfl (Nat.le_of_ble_eq_true rfl) ⟨Nat.zero_le _, Nat.zero_le _⟩ ?_
    refine g_aload_n hC dX12_feed_47 rfl (q := 0) rfl ?_
    refine g_geti hC fd_RX12_117 rfl (by decide) (Or.inl rfl) dX12_feed_48 ?_
    cases h
    exact g_iret hC hE rfl dX12_feed_51 (Nat.zero_le _) (Nat.zero_le _) ⟨rfl, rfl, rfl, rfl, rfl, rfl⟩
  · replace h := (if_neg c15).symm.trans h
    refine g_iconst hC dX12_feed_18 (v := (-1 : Int32)) (by decide) ?_
    cases h
    exact g_iret hC hE rfl dX12_feed_19 (Nat.zero_le _) (Nat.zero_le _) ⟨rfl, rfl, rfl, rfl, rfl, rfl⟩
noncomputable def f_X12_fitOf (Fu : Nat) (I : mIT) (v1 : Int32) (v2 : Int32) : Option (Int32) :=
  if v1 = (I 75 4) then (some (0 : Int32)) else (oG (inB (((1024 : Int32) * v1) + v2) 9216) (some (I 98 ((((1024 : Int32) * v1) + v2)).toNatClampNeg)))
set_option maxRecDepth 20000 in
theorem ok_X12_fitOf {l : Launch} {E : mEn} {Fu : Nat} {I : mIT} {R : mRT} {L : mLT} {v1 : Int32} {v2 : Int32} (hst : l.stackTraces = false) (hW : mWd R)  {out : Int32} (h : f_X12_fitOf Fu I v1 v2 = some out) : mOk l E mX12_fitOf [.ref (mB E + 75), .int v1, .int v2] 106 1 I R L 0 0 (mSame (some (.int (out))) 106 1 I R L) := by
  refine mOk_of hst (by decide) (Nat.le_of_ble_eq_true rfl) (fun X hC hE _ => ?_)
  have hC : mC X E mX12_fitOf RX12 cX12_fitOf := hC
  show mG X E 0 [(0, .ref (mB E + 75)), (1, .int v1), (2, .int v2)] [] 106 1 I R L 0 0
  unfold f_X12_fitOf at h
  refine g_iload_n hC dX12_fitOf_0 rfl (q := 1) rfl ?_
  refine g_aload_n hC dX12_fitOf_1 rfl (q := 0) rfl ?_
  refine g_geti hC fd_RX12_295 rfl (by decide) (Or.inl rfl) dX12_fitOf_2 ?_
  refine g_ic_ne hC dX12_fitOf_5 (tgt := 12) (by decide) (fun c5 => ?_) (fun c5 => ?_)
  · replace h := (if_neg c5).symm.trans h
    refine g_aload_n hC dX12_fitOf_12 rfl (q := 0) rfl ?_
    refine g_getr hC fd_RX12_93 rfl (by decide) (C0 := "") (t0 := _) (Or.inr rfl) (rr_75_54 hW.1) dX12_fitOf_13 ?_
    refine g_sipush hC dX12_fitOf_16 (v := (1024 : Int32)) (by decide) ?_
    refine g_iload_n hC dX12_fitOf_19 rfl (q := 1) rfl ?_
    refine g_imul hC dX12_fitOf_20 ?_
    refine g_iload_n hC dX12_fitOf_21 rfl (q := 2) rfl ?_
    refine g_iadd hC dX12_fitOf_22 ?_
    obtain ⟨g23, h⟩ := oG_some h
    refine g_iald hC rfl (by decide) (inB_in g23) dX12_fitOf_23 ?_
    cases h
    exact g_iret hC hE rfl dX12_fitOf_24 (Nat.zero_le _) (Nat.zero_le _) ⟨rfl, rfl, rfl, rfl, rfl, rfl⟩
  · replace h := (if_pos c5).symm.trans h
    refine g_iconst hC dX12_fitOf_8 (v := (0 : Int32)) (by decide) ?_
    refine g_goto hC dX12_fitOf_9 (tgt := 24) (by decide) ?_
    cases h
    exact g_iret hC hE rfl dX12_fitOf_24 (Nat.zero_le _) (Nat.zero_le _) ⟨rfl, rfl, rfl, rfl, rfl, rfl⟩
noncomputable def b_X12_laysFit_84 (Fu : Nat) (k61_ : Int32 × mIT → Option (mIT)) (k67_ : Int32 × Int32 × mIT → Option (mIT)) (k84_ : Int32 × Int32 × Int32 × Int32 × mIT → Option (mIT)) (v1 : Int32) (v2 : Int32) (v3 : Int32) (v4 : Int32) (I : mIT) : Option (mIT) :=
  if (I 75 1) ≤ v4 then (oG (inB (((1024 : Int32) * v1) + v2) 9216) (k67_ (v1, (v2 + (1 : Int32)), (mU I 98 ((((1024 : Int32) * v1) + v2)).toNatClampNeg v3)))) else (if ((v2 >>> (v4 &&& 31)) &&& (1 : Int32)) = (1 : Int32) then (if v3 ≤ (9999 : Int32) then (k84_ (v1, v2, v3, (v4 + (1 : Int32)), I)) else (k84_ (v1, v2, (9999 : Int32), (v4 + (1 : Int32)), I))) else (oG (inB (((10 : Int32) * v1) + v4) 80) (oB (f_X12_fitOf Fu I (v1 + (1 : Int32)) (v2 ||| ((1 : Int32) <<< (v4 &&& 31)))) (fun r131 => if v3 ≤ ((I 97 ((((10 : Int32) * v1) + v4)).toNatClampNeg) + r131) then (k84_ (v1, v2, v3, (v4 + (1 : Int32)), I)) else (k84_ (v1, v2, ((I 97 ((((10 : Int32) * v1) + v4)).toNatClampNeg) + r131), (v4 + (1 : Int32)), I))))))
set_option maxRecDepth 20000 in
theorem bo_X12_laysFit_84 {X : mXT} {E : mEn} {Fu : Nat} {R : mRT} {L : mLT}  (hC : mC X E mX12_laysFit RX12 cX12_laysFit) (hW : mWd R)   {out : mIT} (hE : mEd X E 0 0 (mSame none 106 1 (out) R L)) (k61_ : Int32 × mIT → Option (mIT)) (hk61_ : ∀ (v1 : Int32) (I : mIT),  k61_ (v1, I) = some out → mG X E 61 [(0, .ref (mB E + 75)), (1, .int v1)] [] 106 1 I R L 0 0) (k67_ : Int32 × Int32 × mIT → Option (mIT)) (hk67_ : ∀ (v1 : Int32) (v2 : Int32) (I : mIT),  k67_ (v1, v2, I) = some out → mG X E 67 [(0, .ref (mB E + 75)), (1, .int v1), (2, .int v2)] [] 106 1 I R L 0 0) (k84_ : Int32 × Int32 × Int32 × Int32 × mIT → Option (mIT)) (hk84_ : ∀ (v1 : Int32) (v2 : Int32) (v3 : Int32) (v4 : Int32) (I : mIT),  k84_ (v1, v2, v3, v4, I) = some out → mG X E 84 [(0, .ref (mB E + 75)), (1, .int v1), (2, .int v2), (3, .int v3), (4, .int v4)] [] 106 1 I R L 0 0) (v1 : Int32) (v2 : Int32) (v3 : Int32) (v4 : Int32) (I : mIT) (h : b_X12_laysFit_84 Fu k61_ k67_ k84_ v1 v2 v3 v4 I = some out) : mG X E 84 [(0, .ref (mB E + 75)), (1, .int v1), (2, .int v2), (3, .int v3), (4, .int v4)] [] 106 1 I R L 0 0 := by
  unfold b_X12_laysFit_84 at h
  refine g_iload hC dX12_laysFit_84 (q := 4) rfl ?_
  refine g_aload_n hC dX12_laysFit_86 rfl (q := 0) rfl ?_
  refine g_geti hC fd_RX12_289 rfl (by decide) (Or.inl rfl) dX12_laysFit_87 ?_
  refine g_ic_ge hC dX12_laysFit_90 (tgt := 156) (by decide) (fun c90 => ?_) (fun c90 => ?_)
  · replace h := (if_pos c90).symm.trans h
    refine g_aload_n hC dX12_laysFit_156 rfl (q := 0) rfl ?_
    refine g_getr hC fd_RX12_93 rfl (by decide) (C0 := "") (t0 := _) (Or.inr rfl) (rr_75_54 hW.1) dX12_laysFit_157 ?_
    refine g_sipush hC dX12_laysFit_160 (v := (1024 : Int32)) (by decide) ?_
    refine g_iload_n hC dX12_laysFit_163 rfl (q := 1) rfl ?_
    refine g_imul hC dX12_laysFit_164 ?_
    refine g_iload_n hC dX12_laysFit_165 rfl (q := 2) rfl ?_
    refine g_iadd hC dX12_laysFit_166 ?_
    refine g_iload_n hC dX12_laysFit_167 rfl (q := 3) rfl ?_
    obtain ⟨g168, h⟩ := oG_some h
    refine g_iast hC rfl (by decide) (inB_in g168) dX12_laysFit_168 (nm_e ?_)
    refine g_iinc hC dX12_laysFit_169 rfl (q := 2) rfl (w := (v2 + (1 : Int32))) rfl (by decide) (lv' := [(2, .int (v2 + (1 : Int32))), (0, .ref (mB E + 75)), (1, .int v1), (3, .int v3), (4, .int v4)]) rfl ?_
    refine g_goto hC dX12_laysFit_172 (tgt := 67) (by decide) ?_
    refine g_lv [1, 2, 0] rfl ?_
    exact hk67_ v1 (v2 + (1 : Int32)) (mU I 98 ((((1024 : Int32) * v1) + v2)).toNatClampNeg v3) h
  · replace h := (if_neg c90).symm.trans h
    refine g_iload_n hC dX12_laysFit_93 rfl (q := 2) rfl ?_
    refine g_iload hC dX12_laysFit_94 (q := 4) rfl ?_
    refine g_ishr hC dX12_laysFit_96 ?_
    refine g_iconst hC dX12_laysFit_97 (v := (1 : Int32)) (by decide) ?_
    refine g_iand hC dX12_laysFit_98 ?_
    refine g_iconst hC dX12_laysFit_99 (v := (1 : Int32)) (by decide) ?_
    refine g_ic_ne hC dX12_laysFit_100 (tgt := 109) (by decide) (fun c100 => ?_) (fun c100 => ?_)
    · replace h := (if_neg c100).symm.trans h
      refine g_aload_n hC dX12_laysFit_109 rfl (q := 0) rfl ?_
      refine g_getr hC fd_RX12_90 rfl (by decide) (C0 := "") (t0 := _) (Or.inr rfl) (rr_75_53 hW.1) dX12_laysFit_110 ?_
      refine g_bipush hC dX12_laysFit_113 (v := (10 : Int32)) (by decide) ?_
      refine g_iload_n hC dX12_laysFit_115 rfl (q := 1) rfl ?_
      refine g_imul hC dX12_laysFit_116 ?_
      refine g_iload hC dX12_laysFit_117 (q := 4) rfl ?_
      refine g_iadd hC dX12_laysFit_119 ?_
      obtain ⟨g120, h⟩ := oG_some h
      refine g_iald hC rfl (by decide) (inB_in g120) dX12_laysFit_120 ?_
      refine g_aload_n hC dX12_laysFit_121 rfl (q := 0) rfl ?_
      refine g_iload_n hC dX12_laysFit_122 rfl (q := 1) rfl ?_
      refine g_iconst hC dX12_laysFit_123 (v := (1 : Int32)) (by decide) ?_
      refine g_iadd hC dX12_laysFit_124 ?_
      refine g_iload_n hC dX12_laysFit_125 rfl (q := 2) rfl ?_
      refine g_iconst hC dX12_laysFit_126 (v := (1 : Int32)) (by decide) ?_
      refine g_iload hC dX12_laysFit_127 (q := 4) rfl ?_
      refine g_ishl hC dX12_laysFit_129 ?_
      refine g_ior hC dX12_laysFit_130 ?_
      obtain ⟨r131, h131, h⟩ := oB_some h
      refine g_cV1 hC cv_X12_fitOf wd_2202 ⟨Nat.le_of_ble_eq_true rfl, Nat.le_of_ble_eq_true rfl⟩ rfl (by decide) dX12_laysFit_131 (As := [.int (v1 + (1 : Int32)), .int (v2 ||| ((1 : Int32) <<< (v4 &&& 31)))]) (st := [.int (I 97 ((((10 : Int32) * v1) + v4)).toNatClampNeg)]) (ok_X12_fitOf hC.2.2.2.2.2.2.2.1 hW h131) rfl rfl (Nat.le_of_ble_eq_true rfl) ⟨Nat.zero_le _, Nat.zero_le _⟩ ?_
      refine g_iadd hC dX12_laysFit_134 ?_
      refine g_istore hC dX12_laysFit_135 rfl (by decide) (lv' := [(5, .int ((I 97 ((((10 : Int32) * v1) + v4)).toNatClampNeg) + r131)), (0, .ref (mB E + 75)), (1, .int v1), (2, .int v2), (3, .int v3), (4, .int v4)]) rfl ?_
      refine g_iload hC dX12_laysFit_137 (q := 0) rfl ?_
      refine g_iload_n hC dX12_laysFit_139 rfl (q := 4) rfl ?_
      refine g_ic_ge hC dX12_laysFit_140 (tgt := 148) (by decide) (fun c140 => ?_) (fun c140 => ?_)
      · replace h := (if_pos c140).symm.trans h
        refine g_iload_n hC dX12_laysFit_148 rfl (q := 4) rfl ?_
        refine g_istore_n hC dX12_laysFit_149 rfl rfl (by decide) (lv' := [(3, .int v3), (5, .int ((I 97 ((((10 : Int32) * v1) + v4)).toNatClampNeg) + r131)), (0, .ref (mB E + 75)), (1, .int v1), (2, .int v2), (4, .int v4)]) rfl ?_
        refine g_iinc hC dX12_laysFit_150 rfl (q := 5) rfl (w := (v4 + (1 : Int32))) rfl (by decide) (lv' := [(4, .int (v4 + (1 : Int32))), (3, .int v3), (5, .int ((I 97 ((((10 : Int32) * v1) + v4)).toNatClampNeg) + r131)), (0, .ref (mB E + 75)), (1, .int v1), (2, .int v2)]) rfl ?_
        refine g_goto hC dX12_laysFit_153 (tgt := 84) (by decide) ?_
        refine g_lv [3, 4, 5, 1, 0] rfl ?_
        exact hk84_ v1 v2 v3 (v4 + (1 : Int32)) I h
      · replace h := (if_neg c140).symm.trans h
        refine g_iload hC dX12_laysFit_143 (q := 0) rfl ?_
        refine g_goto hC dX12_laysFit_145 (tgt := 149) (by decide) ?_
        refine g_istore_n hC dX12_laysFit_149 rfl rfl (by decide) (lv' := [(3, .int ((I 97 ((((10 : Int32) * v1) + v4)).toNatClampNeg) + r131)), (5, .int ((I 97 ((((10 : Int32) * v1) + v4)).toNatClampNeg) + r131)), (0, .ref (mB E + 75)), (1, .int v1), (2, .int v2), (4, .int v4)]) rfl ?_
        refine g_iinc hC dX12_laysFit_150 rfl (q := 5) rfl (w := (v4 + (1 : Int32))) rfl (by decide) (lv' := [(4, .int (v4 + (1 : Int32))), (3, .int ((I 97 ((((10 : Int32) * v1) + v4)).toNatClampNeg) + r131)), (5, .int ((I 97 ((((10 : Int32) * v1) + v4)).toNatClampNeg) + r131)), (0, .ref (mB E + 75)), (1, .int v1), (2, .int v2)]) rfl ?_
        refine g_goto hC dX12_laysFit_153 (tgt := 84) (by decide) ?_
        refine g_lv [3, 4, 5, 1, 0] rfl ?_
        exact hk84_ v1 v2 ((I 97 ((((10 : Int32) * v1) + v4)).toNatClampNeg) + r131) (v4 + (1 : Int32)) I h
    · replace h := (if_pos c100).symm.trans h
      refine g_sipush hC dX12_laysFit_103 (v := (9999 : Int32)) (by decide) ?_
      refine g_goto hC dX12_laysFit_106 (tgt := 135) (by decide) ?_
      refine g_istore hC dX12_laysFit_135 rfl (by decide) (lv' := [(5, .int (9999 : Int32)), (0, .ref (mB E + 75)), (1, .int v1), (2, .int v2), (3, .int v3), (4, .int v4)]) rfl ?_
      refine g_iload hC dX12_laysFit_137 (q := 0) rfl ?_
      refine g_iload_n hC dX12_laysFit_139 rfl (q := 4) rfl ?_
      refine g_ic_ge hC dX12_laysFit_140 (tgt := 148) (by decide) (fun c140 => ?_) (fun c140 => ?_)
      · replace h := (if_pos c140).symm.trans h
        refine g_iload_n hC dX12_laysFit_148 rfl (q := 4) rfl ?_
        refine g_istore_n hC dX12_laysFit_149 rfl rfl (by decide) (lv' := [(3, .int v3), (5, .int (9999 : Int32)), (0, .ref (mB E + 75)), (1, .int v1), (2, .int v2), (4, .int v4)]) rfl ?_
        refine g_iinc hC dX12_laysFit_150 rfl (q := 5) rfl (w := (v4 + (1 : Int32))) rfl (by decide) (lv' := [(4, .int (v4 + (1 : Int32))), (3, .int v3), (5, .int (9999 : Int32)), (0, .ref (mB E + 75)), (1, .int v1), (2, .int v2)]) rfl ?_
        refine g_goto hC dX12_laysFit_153 (tgt := 84) (by decide) ?_
        refine g_lv [3, 4, 5, 1, 0] rfl ?_
        exact hk84_ v1 v2 v3 (v4 + (1 : Int32)) I h
      · replace h := (if_neg c140).symm.trans h
        refine g_iload hC dX12_laysFit_143 (q := 0) rfl ?_
        refine g_goto hC dX12_laysFit_145 (tgt := 149) (by decide) ?_
        refine g_istore_n hC dX12_laysFit_149 rfl rfl (by decide) (lv' := [(3, .int (9999 : Int32)), (5, .int (9999 : Int32)), (0, .ref (mB E + 75)), (1, .int v1), (2, .int v2), (4, .int v4)]) rfl ?_
        refine g_iinc hC dX12_laysFit_150 rfl (q := 5) rfl (w := (v4 + (1 : Int32))) rfl (by decide) (lv' := [(4, .int (v4 + (1 : Int32))), (3, .int (9999 : Int32)), (5, .int (9999 : Int32)), (0, .ref (mB E + 75)), (1, .int v1), (2, .int v2)]) rfl ?_
        refine g_goto hC dX12_laysFit_153 (tgt := 84) (by decide) ?_
        refine g_lv [3, 4, 5, 1, 0] rfl ?_
        exact hk84_ v1 v2 (9999 : Int32) (v4 + (1 : Int32)) I h
noncomputable def w_X12_laysFit_84 (Fu : Nat) (k61_ : Int32 × mIT → Option (mIT)) (k67_ : Int32 × Int32 × mIT → Option (mIT)) (N : Nat) (v1 : Int32) (v2 : Int32) (v3 : Int32) (v4 : Int32) (I : mIT) : Option (mIT) :=
  loopF (fun self (s : Int32 × Int32 × Int32 × Int32 × mIT) => b_X12_laysFit_84 Fu k61_ k67_ self s.1 s.2.1 s.2.2.1 s.2.2.2.1 s.2.2.2.2) N (v1, v2, v3, v4, I)
theorem wo_X12_laysFit_84 {X : mXT} {E : mEn} {Fu : Nat} {R : mRT} {L : mLT}  (hC : mC X E mX12_laysFit RX12 cX12_laysFit) (hW : mWd R)   {out : mIT} (hE : mEd X E 0 0 (mSame none 106 1 (out) R L)) (k61_ : Int32 × mIT → Option (mIT)) (hk61_ : ∀ (v1 : Int32) (I : mIT),  k61_ (v1, I) = some out → mG X E 61 [(0, .ref (mB E + 75)), (1, .int v1)] [] 106 1 I R L 0 0) (k67_ : Int32 × Int32 × mIT → Option (mIT)) (hk67_ : ∀ (v1 : Int32) (v2 : Int32) (I : mIT),  k67_ (v1, v2, I) = some out → mG X E 67 [(0, .ref (mB E + 75)), (1, .int v1), (2, .int v2)] [] 106 1 I R L 0 0) (N : Nat) (v1 : Int32) (v2 : Int32) (v3 : Int32) (v4 : Int32) (I : mIT) (h : w_X12_laysFit_84 Fu k61_ k67_ N v1 v2 v3 v4 I = some out) : mG X E 84 [(0, .ref (mB E + 75)), (1, .int v1), (2, .int v2), (3, .int v3), (4, .int v4)] [] 106 1 I R L 0 0 :=
  loopF_ok (Gd := fun s : Int32 × Int32 × Int32 × Int32 × mIT => mG X E 84 [(0, .ref (mB E + 75)), (1, .int s.1), (2, .int s.2.1), (3, .int s.2.2.1), (4, .int s.2.2.2.1)] [] 106 1 s.2.2.2.2 R L 0 0) (fun self hs s h => bo_X12_laysFit_84 hC hW hE k61_ hk61_ k67_ hk67_ self (fun v1 v2 v3 v4 I h => hs (v1, v2, v3, v4, I) h) s.1 s.2.1 s.2.2.1 s.2.2.2.1 s.2.2.2.2 h) N (v1, v2, v3, v4, I) h
noncomputable def b_X12_laysFit_67 (Fu : Nat) (k61_ : Int32 × mIT → Option (mIT)) (k67_ : Int32 × Int32 × mIT → Option (mIT)) (v1 : Int32) (v2 : Int32) (I : mIT) : Option (mIT) :=
  if ((1 : Int32) <<< ((I 75 1) &&& 31)) ≤ v2 then (k61_ ((v1 + (-1 : Int32)), I)) else (w_X12_laysFit_84 Fu k61_ k67_ Fu v1 v2 (9999 : Int32) (0 : Int32) I)
set_option maxRecDepth 20000 in
theorem bo_X12_laysFit_67 {X : mXT} {E : mEn} {Fu : Nat} {R : mRT} {L : mLT}  (hC : mC X E mX12_laysFit RX12 cX12_laysFit) (hW : mWd R)   {out : mIT} (hE : mEd X E 0 0 (mSame none 106 1 (out) R L)) (k61_ : Int32 × mIT → Option (mIT)) (hk61_ : ∀ (v1 : Int32) (I : mIT),  k61_ (v1, I) = some out → mG X E 61 [(0, .ref (mB E + 75)), (1, .int v1)] [] 106 1 I R L 0 0) (k67_ : Int32 × Int32 × mIT → Option (mIT)) (hk67_ : ∀ (v1 : Int32) (v2 : Int32) (I : mIT),  k67_ (v1, v2, I) = some out → mG X E 67 [(0, .ref (mB E + 75)), (1, .int v1), (2, .int v2)] [] 106 1 I R L 0 0) (v1 : Int32) (v2 : Int32) (I : mIT) (h : b_X12_laysFit_67 Fu k61_ k67_ v1 v2 I = some out) : mG X E 67 [(0, .ref (mB E + 75)), (1, .int v1), (2, .int v2)] [] 106 1 I R L 0 0 := by
  unfold b_X12_laysFit_67 at h
  refine g_iload_n hC dX12_laysFit_67 rfl (q := 2) rfl ?_
  refine g_iconst hC dX12_laysFit_68 (v := (1 : Int32)) (by decide) ?_
  refine g_aload_n hC dX12_laysFit_69 rfl (q := 0) rfl ?_
  refine g_geti hC fd_RX12_289 rfl (by decide) (Or.inl rfl) dX12_laysFit_70 ?_
  refine g_ishl hC dX12_laysFit_73 ?_
  refine g_ic_ge hC dX12_laysFit_74 (tgt := 175) (by decide) (fun c74 => ?_) (fun c74 => ?_)
  · replace h := (if_pos c74).symm.trans h
    refine g_iinc hC dX12_laysFit_175 rfl (q := 1) rfl (w := (v1 + (-1 : Int32))) rfl (by decide) (lv' := [(1, .int (v1 + (-1 : Int32))), (0, .ref (mB E + 75)), (2, .int v2)]) rfl ?_
    refine g_goto hC dX12_laysFit_178 (tgt := 61) (by decide) ?_
    refine g_lv [1, 0] rfl ?_
    exact hk61_ (v1 + (-1 : Int32)) I h
  · replace h := (if_neg c74).symm.trans h
    refine g_sipush hC dX12_laysFit_77 (v := (9999 : Int32)) (by decide) ?_
    refine g_istore_n hC dX12_laysFit_80 rfl rfl (by decide) (lv' := [(3, .int (9999 : Int32)), (0, .ref (mB E + 75)), (1, .int v1), (2, .int v2)]) rfl ?_
    refine g_iconst hC dX12_laysFit_81 (v := (0 : Int32)) (by decide) ?_
    refine g_istore hC dX12_laysFit_82 rfl (by decide) (lv' := [(4, .int (0 : Int32)), (3, .int (9999 : Int32)), (0, .ref (mB E + 75)), (1, .int v1), (2, .int v2)]) rfl ?_
    refine g_lv [2, 3, 4, 1, 0] rfl ?_
    exact wo_X12_laysFit_84 hC hW hE k61_ hk61_ k67_ hk67_ Fu (v1) (v2) ((9999 : Int32)) ((0 : Int32)) (I) h
noncomputable def w_X12_laysFit_67 (Fu : Nat) (k61_ : Int32 × mIT → Option (mIT)) (N : Nat) (v1 : Int32) (v2 : Int32) (I : mIT) : Option (mIT) :=
  loopF (fun self (s : Int32 × Int32 × mIT) => b_X12_laysFit_67 Fu k61_ self s.1 s.2.1 s.2.2) N (v1, v2, I)
theorem wo_X12_laysFit_67 {X : mXT} {E : mEn} {Fu : Nat} {R : mRT} {L : mLT}  (hC : mC X E mX12_laysFit RX12 cX12_laysFit) (hW : mWd R)   {out : mIT} (hE : mEd X E 0 0 (mSame none 106 1 (out) R L)) (k61_ : Int32 × mIT → Option (mIT)) (hk61_ : ∀ (v1 : Int32) (I : mIT),  k61_ (v1, I) = some out → mG X E 61 [(0, .ref (mB E + 75)), (1, .int v1)] [] 106 1 I R L 0 0) (N : Nat) (v1 : Int32) (v2 : Int32) (I : mIT) (h : w_X12_laysFit_67 Fu k61_ N v1 v2 I = some out) : mG X E 67 [(0, .ref (mB E + 75)), (1, .int v1), (2, .int v2)] [] 106 1 I R L 0 0 :=
  loopF_ok (Gd := fun s : Int32 × Int32 × mIT => mG X E 67 [(0, .ref (mB E + 75)), (1, .int s.1), (2, .int s.2.1)] [] 106 1 s.2.2 R L 0 0) (fun self hs s h => bo_X12_laysFit_67 hC hW hE k61_ hk61_ self (fun v1 v2 I h => hs (v1, v2, I) h) s.1 s.2.1 s.2.2 h) N (v1, v2, I) h
noncomputable def b_X12_laysFit_61 (Fu : Nat) (k61_ : Int32 × mIT → Option (mIT)) (v1 : Int32) (I : mIT) : Option (mIT) :=
  if v1 < 0 then (some (I)) else (w_X12_laysFit_67 Fu k61_ Fu v1 (0 : Int32) I)
set_option maxRecDepth 20000 in
theorem bo_X12_laysFit_61 {X : mXT} {E : mEn} {Fu : Nat} {R : mRT} {L : mLT}  (hC : mC X E mX12_laysFit RX12 cX12_laysFit) (hW : mWd R)   {out : mIT} (hE : mEd X E 0 0 (mSame none 106 1 (out) R L)) (k61_ : Int32 × mIT → Option (mIT)) (hk61_ : ∀ (v1 : Int32) (I : mIT),  k61_ (v1, I) = some out → mG X E 61 [(0, .ref (mB E + 75)), (1, .int v1)] [] 106 1 I R L 0 0) (v1 : Int32) (I : mIT) (h : b_X12_laysFit_61 Fu k61_ v1 I = some out) : mG X E 61 [(0, .ref (mB E + 75)), (1, .int v1)] [] 106 1 I R L 0 0 := by
  unfold b_X12_laysFit_61 at h
  refine g_iload_n hC dX12_laysFit_61 rfl (q := 1) rfl ?_
  refine g_if_lt hC dX12_laysFit_62 (tgt := 181) (by decide) (fun c62 => ?_) (fun c62 => ?_)
  · replace h := (if_pos c62).symm.trans h
    cases h
    exact g_vret hC hE rfl dX12_laysFit_181 (Nat.zero_le _) (Nat.zero_le _) ⟨rfl, rfl, rfl, rfl, rfl, rfl⟩
  · replace h := (if_neg c62).symm.trans h
    refine g_iconst hC dX12_laysFit_65 (v := (0 : Int32)) (by decide) ?_
    refine g_istore_n hC dX12_laysFit_66 rfl rfl (by decide) (lv' := [(2, .int (0 : Int32)), (0, .ref (mB E + 75)), (1, .int v1)]) rfl ?_
    refine g_lv [1, 2, 0] rfl ?_
    exact wo_X12_laysFit_67 hC hW hE k61_ hk61_ Fu (v1) ((0 : Int32)) (I) h
noncomputable def w_X12_laysFit_61 (Fu : Nat)  (N : Nat) (v1 : Int32) (I : mIT) : Option (mIT) :=
  loopF (fun self (s : Int32 × mIT) => b_X12_laysFit_61 Fu self s.1 s.2) N (v1, I)
theorem wo_X12_laysFit_61 {X : mXT} {E : mEn} {Fu : Nat} {R : mRT} {L : mLT}  (hC : mC X E mX12_laysFit RX12 cX12_laysFit) (hW : mWd R)   {out : mIT} (hE : mEd X E 0 0 (mSame none 106 1 (out) R L))  (N : Nat) (v1 : Int32) (I : mIT) (h : w_X12_laysFit_61 Fu  N v1 I = some out) : mG X E 61 [(0, .ref (mB E + 75)), (1, .int v1)] [] 106 1 I R L 0 0 :=
  loopF_ok (Gd := fun s : Int32 × mIT => mG X E 61 [(0, .ref (mB E + 75)), (1, .int s.1)] [] 106 1 s.2 R L 0 0) (fun self hs s h => bo_X12_laysFit_61 hC hW hE self (fun v1 I h => hs (v1, I) h) s.1 s.2 h) N (v1, I) h
noncomputable def b_X12_laysFit_12 (Fu : Nat) (k2_ : Int32 × mIT → Option (mIT)) (k12_ : Int32 × Int32 × mIT → Option (mIT)) (v1 : Int32) (v2 : Int32) (I : mIT) : Option (mIT) :=
  if (I 75 1) ≤ v2 then (k2_ ((v1 + (1 : Int32)), I)) else (oG (inB v1 8) (oB (f_X12_costOf Fu I v2 (I 78 (v1).toNatClampNeg)) (fun r38 => oG (inB (((10 : Int32) * v1) + v2) 80) (k12_ (v1, (v2 + (1 : Int32)), (mU r38.2 97 ((((10 : Int32) * v1) + v2)).toNatClampNeg r38.1))))))
set_option maxRecDepth 20000 in
theorem bo_X12_laysFit_12 {X : mXT} {E : mEn} {Fu : Nat} {R : mRT} {L : mLT}  (hC : mC X E mX12_laysFit RX12 cX12_laysFit) (hW : mWd R)   {out : mIT} (hE : mEd X E 0 0 (mSame none 106 1 (out) R L)) (k2_ : Int32 × mIT → Option (mIT)) (hk2_ : ∀ (v1 : Int32) (I : mIT),  k2_ (v1, I) = some out → mG X E 2 [(0, .ref (mB E + 75)), (1, .int v1)] [] 106 1 I R L 0 0) (k12_ : Int32 × Int32 × mIT → Option (mIT)) (hk12_ : ∀ (v1 : Int32) (v2 : Int32) (I : mIT),  k12_ (v1, v2, I) = some out → mG X E 12 [(0, .ref (mB E + 75)), (1, .int v1), (2, .int v2)] [] 106 1 I R L 0 0) (v1 : Int32) (v2 : Int32) (I : mIT) (h : b_X12_laysFit_12 Fu k2_ k12_ v1 v2 I = some out) : mG X E 12 [(0, .ref (mB E + 75)), (1, .int v1), (2, .int v2)] [] 106 1 I R L 0 0 := by
  unfold b_X12_laysFit_12 at h
  refine g_iload_n hC dX12_laysFit_12 rfl (q := 2) rfl ?_
  refine g_aload_n hC dX12_laysFit_13 rfl (q := 0) rfl ?_
  refine g_geti hC fd_RX12_289 rfl (by decide) (Or.inl rfl) dX12_laysFit_14 ?_
  refine g_ic_ge hC dX12_laysFit_17 (tgt := 48) (by decide) (fun c17 => ?_) (fun c17 => ?_)
  · replace h := (if_pos c17).symm.trans h
    refine g_iinc hC dX12_laysFit_48 rfl (q := 1) rfl (w := (v1 + (1 : Int32))) rfl (by decide) (lv' := [(1, .int (v1 + (1 : Int32))), (0, .ref (mB E + 75)), (2, .int v2)]) rfl ?_
    refine g_goto hC dX12_laysFit_51 (tgt := 2) (by decide) ?_
    refine g_lv [1, 0] rfl ?_
    exact hk2_ (v1 + (1 : Int32)) I h
  · replace h := (if_neg c17).symm.trans h
    refine g_aload_n hC dX12_laysFit_20 rfl (q := 0) rfl ?_
    refine g_getr hC fd_RX12_90 rfl (by decide) (C0 := "") (t0 := _) (Or.inr rfl) (rr_75_53 hW.1) dX12_laysFit_21 ?_
    refine g_bipush hC dX12_laysFit_24 (v := (10 : Int32)) (by decide) ?_
    refine g_iload_n hC dX12_laysFit_26 rfl (q := 1) rfl ?_
    refine g_imul hC dX12_laysFit_27 ?_
    refine g_iload_n hC dX12_laysFit_28 rfl (q := 2) rfl ?_
    refine g_iadd hC dX12_laysFit_29 ?_
    refine g_aload_n hC dX12_laysFit_30 rfl (q := 0) rfl ?_
    refine g_iload_n hC dX12_laysFit_31 rfl (q := 2) rfl ?_
    refine g_aload_n hC dX12_laysFit_32 rfl (q := 0) rfl ?_
    refine g_getr hC fd_RX12_26 rfl (by decide) (C0 := "") (t0 := _) (Or.inr rfl) (rr_75_10 hW.1) dX12_laysFit_33 ?_
    refine g_iload_n hC dX12_laysFit_36 rfl (q := 1) rfl ?_
    obtain ⟨g37, h⟩ := oG_some h
    refine g_iald hC rfl (by decide) (inB_in g37) dX12_laysFit_37 ?_
    obtain ⟨r38, h38, h⟩ := oB_some h
    refine g_cV1 hC cv_X12_costOf wd_2198 ⟨Nat.le_of_ble_eq_true rfl, Nat.le_of_ble_eq_true rfl⟩ rfl (by decide) dX12_laysFit_38 (As := [.int v2, .int (I 78 (v1).toNatClampNeg)]) (st := [.int (((10 : Int32) * v1) + v2), .ref (mB E + 97)]) (ok_X12_costOf hC.2.2.2.2.2.2.2.1 hW h38) rfl rfl (Nat.le_of_ble_eq_true rfl) ⟨Nat.zero_le _, Nat.zero_le _⟩ ?_
    obtain ⟨g41, h⟩ := oG_some h
    refine g_iast hC rfl (by decide) (inB_in g41) dX12_laysFit_41 (nm_e ?_)
    refine g_iinc hC dX12_laysFit_42 rfl (q := 2) rfl (w := (v2 + (1 : Int32))) rfl (by decide) (lv' := [(2, .int (v2 + (1 : Int32))), (0, .ref (mB E + 75)), (1, .int v1)]) rfl ?_
    refine g_goto hC dX12_laysFit_45 (tgt := 12) (by decide) ?_
    refine g_lv [1, 2, 0] rfl ?_
    exact hk12_ v1 (v2 + (1 : Int32)) (mU r38.2 97 ((((10 : Int32) * v1) + v2)).toNatClampNeg r38.1) h
noncomputable def w_X12_laysFit_12 (Fu : Nat) (k2_ : Int32 × mIT → Option (mIT)) (N : Nat) (v1 : Int32) (v2 : Int32) (I : mIT) : Option (mIT) :=
  loopF (fun self (s : Int32 × Int32 × mIT) => b_X12_laysFit_12 Fu k2_ self s.1 s.2.1 s.2.2) N (v1, v2, I)
theorem wo_X12_laysFit_12 {X : mXT} {E : mEn} {Fu : Nat} {R : mRT} {L : mLT}  (hC : mC X E mX12_laysFit RX12 cX12_laysFit) (hW : mWd R)   {out : mIT} (hE : mEd X E 0 0 (mSame none 106 1 (out) R L)) (k2_ : Int32 × mIT → Option (mIT)) (hk2_ : ∀ (v1 : Int32) (I : mIT),  k2_ (v1, I) = some out → mG X E 2 [(0, .ref (mB E + 75)), (1, .int v1)] [] 106 1 I R L 0 0) (N : Nat) (v1 : Int32) (v2 : Int32) (I : mIT) (h : w_X12_laysFit_12 Fu k2_ N v1 v2 I = some out) : mG X E 12 [(0, .ref (mB E + 75)), (1, .int v1), (2, .int v2)] [] 106 1 I R L 0 0 :=
  loopF_ok (Gd := fun s : Int32 × Int32 × mIT => mG X E 12 [(0, .ref (mB E + 75)), (1, .int s.1), (2, .int s.2.1)] [] 106 1 s.2.2 R L 0 0) (fun self hs s h => bo_X12_laysFit_12 hC hW hE k2_ hk2_ self (fun v1 v2 I h => hs (v1, v2, I) h) s.1 s.2.1 s.2.2 h) N (v1, v2, I) h
noncomputable def b_X12_laysFit_2 (Fu : Nat) (k2_ : Int32 × mIT → Option (mIT)) (v1 : Int32) (I : mIT) : Option (mIT) :=
  if (I 75 4) ≤ v1 then (w_X12_laysFit_61 Fu Fu ((I 75 4) - (1 : Int32)) I) else (w_X12_laysFit_12 Fu k2_ Fu v1 (0 : Int32) I)
set_option maxRecDepth 20000 in
theorem bo_X12_laysFit_2 {X : mXT} {E : mEn} {Fu : Nat} {R : mRT} {L : mLT}  (hC : mC X E mX12_laysFit RX12 cX12_laysFit) (hW : mWd R)   {out : mIT} (hE : mEd X E 0 0 (mSame none 106 1 (out) R L)) (k2_ : Int32 × mIT → Option (mIT)) (hk2_ : ∀ (v1 : Int32) (I : mIT),  k2_ (v1, I) = some out → mG X E 2 [(0, .ref (mB E + 75)), (1, .int v1)] [] 106 1 I R L 0 0) (v1 : Int32) (I : mIT) (h : b_X12_laysFit_2 Fu k2_ v1 I = some out) : mG X E 2 [(0, .ref (mB E + 75)), (1, .int v1)] [] 106 1 I R L 0 0 := by
  unfold b_X12_laysFit_2 at h
  refine g_iload_n hC dX12_laysFit_2 rfl (q := 1) rfl ?_
  refine g_aload_n hC dX12_laysFit_3 rfl (q := 0) rfl ?_
  refine g_geti hC fd_RX12_295 rfl (by decide) (Or.inl rfl) dX12_laysFit_4 ?_
  refine g_ic_ge hC dX12_laysFit_7 (tgt := 54) (by decide) (fun c7 => ?_) (fun c7 => ?_)
  · replace h := (if_pos c7).symm.trans h
    refine g_aload_n hC dX12_laysFit_54 rfl (q := 0) rfl ?_
    refine g_geti hC fd_RX12_295 rfl (by decide) (Or.inl rfl) dX12_laysFit_55 ?_
    refine g_iconst hC dX12_laysFit_58 (v := (1 : Int32)) (by decide) ?_
    refine g_isub hC dX12_laysFit_59 ?_
    refine g_istore_n hC dX12_laysFit_60 rfl rfl (by decide) (lv' := [(1, .int ((I 75 4) - (1 : Int32))), (0, .ref (mB E + 75))]) rfl ?_
    refine g_lv [1, 0] rfl ?_
    exact wo_X12_laysFit_61 hC hW hE Fu (((I 75 4) - (1 : Int32))) (I) h
  · replace h := (if_neg c7).symm.trans h
    refine g_iconst hC dX12_laysFit_10 (v := (0 : Int32)) (by decide) ?_
    refine g_istore_n hC dX12_laysFit_11 rfl rfl (by decide) (lv' := [(2, .int (0 : Int32)), (0, .ref (mB E + 75)), (1, .int v1)]) rfl ?_
    refine g_lv [1, 2, 0] rfl ?_
    exact wo_X12_laysFit_12 hC hW hE k2_ hk2_ Fu (v1) ((0 : Int32)) (I) h
noncomputable def w_X12_laysFit_2 (Fu : Nat)  (N : Nat) (v1 : Int32) (I : mIT) : Option (mIT) :=
  loopF (fun self (s : Int32 × mIT) => b_X12_laysFit_2 Fu self s.1 s.2) N (v1, I)
theorem wo_X12_laysFit_2 {X : mXT} {E : mEn} {Fu : Nat} {R : mRT} {L : mLT}  (hC : mC X E mX12_laysFit RX12 cX12_laysFit) (hW : mWd R)   {out : mIT} (hE : mEd X E 0 0 (mSame none 106 1 (out) R L))  (N : Nat) (v1 : Int32) (I : mIT) (h : w_X12_laysFit_2 Fu  N v1 I = some out) : mG X E 2 [(0, .ref (mB E + 75)), (1, .int v1)] [] 106 1 I R L 0 0 :=
  loopF_ok (Gd := fun s : Int32 × mIT => mG X E 2 [(0, .ref (mB E + 75)), (1, .int s.1)] [] 106 1 s.2 R L 0 0) (fun self hs s h => bo_X12_laysFit_2 hC hW hE self (fun v1 I h => hs (v1, I) h) s.1 s.2 h) N (v1, I) h
noncomputable def f_X12_laysFit (Fu : Nat) (I : mIT)  : Option (mIT) :=
  w_X12_laysFit_2 Fu Fu (0 : Int32) I
set_option maxRecDepth 20000 in
theorem ok_X12_laysFit {l : Launch} {E : mEn} {Fu : Nat} {I : mIT} {R : mRT} {L : mLT}  (hst : l.stackTraces = false) (hW : mWd R)  {out : mIT} (h : f_X12_laysFit Fu I  = some out) : mOk l E mX12_laysFit [.ref (mB E + 75)] 106 1 I R L 0 0 (mSame none 106 1 (out) R L) := by
  refine mOk_of hst (by decide) (Nat.le_of_ble_eq_true rfl) (fun X hC hE _ => ?_)
  have hC : mC X E mX12_laysFit RX12 cX12_laysFit := hC
  show mG X E 0 [(0, .ref (mB E + 75))] [] 106 1 I R L 0 0
  unfold f_X12_laysFit at h
  refine g_iconst hC dX12_laysFit_0 (v := (0 : Int32)) (by decide) ?_
  refine g_istore_n hC dX12_laysFit_1 rfl rfl (by decide) (lv' := [(1, .int (0 : Int32)), (0, .ref (mB E + 75))]) rfl ?_
  refine g_lv [1, 0] rfl ?_
  exact wo_X12_laysFit_2 hC hW hE Fu ((0 : Int32)) (I) h
