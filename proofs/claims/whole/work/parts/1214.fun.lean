noncomputable def f_X12_thrown (Fu : Nat) (I : mIT)  : Option (Int32) :=
  some (I 75 0)
set_option maxRecDepth 20000 in
theorem ok_X12_thrown {l : Launch} {E : mEn} {Fu : Nat} {I : mIT} {R : mRT} {L : mLT}  (hst : l.stackTraces = false) (hW : mWd R)  {out : Int32} (h : f_X12_thrown Fu I  = some out) : mOk l E mX12_thrown [.ref (mB E + 75)] 106 1 I R L 0 0 (mSame (some (.int (out))) 106 1 I R L) := by
  refine mOk_of hst (by decide) (Nat.le_of_ble_eq_true rfl) (fun X hC hE _ => ?_)
  have hC : mC X E mX12_thrown RX12 cX12_thrown := hC
  show mG X E 0 [(0, .ref (mB E + 75))] [] 106 1 I R L 0 0
  unfold f_X12_thrown at h
  refine g_aload_n hC dX12_thrown_0 rfl (q := 0) rfl ?_
  refine g_geti hC fd_RX12_114 rfl (by decide) (Or.inl rfl) dX12_thrown_1 ?_
  cases h
  exact g_iret hC hE rfl dX12_thrown_4 (Nat.zero_le _) (Nat.zero_le _) ⟨rfl, rfl, rfl, rfl, rfl, rfl⟩
noncomputable def b_X12_tower_270 (Fu : Nat) (k270_ : Int32 × mIT × mLT → Option (Int32 × mIT × mLT)) (v2 : Int32) (I : mIT) (L : mLT) : Option (Int32 × mIT × mLT) :=
  if (53 : Int32) ≤ v2 then (some ((0 : Int32), (mU (mU (mU I 75 44 (0 : Int32)) 75 55 (0 : Int32)) 75 60 (0 : Int32)), L)) else (oG (inB v2 53) (oG (inB v2 106) (k270_ ((v2 + (1 : Int32)), (mU I 89 (v2).toNatClampNeg (I 85 (v2).toNatClampNeg)), L))))
set_option maxRecDepth 20000 in
theorem bo_X12_tower_270 {X : mXT} {E : mEn} {Fu : Nat} {R : mRT}  (hC : mC X E mX12_tower RX12 cX12_tower) (hW : mWd R)   {out : Int32 × mIT × mLT} (hE : mEd X E 0 0 (mSame (some (.int (out.1))) 106 1 (out.2.1) R (out.2.2))) (k270_ : Int32 × mIT × mLT → Option (Int32 × mIT × mLT)) (hk270_ : ∀ (v2 : Int32) (I : mIT) (L : mLT),  k270_ (v2, I, L) = some out → mG X E 270 [(0, .ref (mB E + 75)), (2, .int v2)] [] 106 1 I R L 0 0) (v2 : Int32) (I : mIT) (L : mLT) (h : b_X12_tower_270 Fu k270_ v2 I L = some out) : mG X E 270 [(0, .ref (mB E + 75)), (2, .int v2)] [] 106 1 I R L 0 0 := by
  unfold b_X12_tower_270 at h
  refine g_iload_n hC dX12_tower_270 rfl (q := 1) rfl ?_
  refine g_bipush hC dX12_tower_271 (v := (53 : Int32)) (by decide) ?_
  refine g_ic_ge hC dX12_tower_273 (tgt := 294) (by decide) (fun c273 => ?_) (fun c273 => ?_)
  · replace h := (if_pos c273).symm.trans h
    refine g_aload_n hC dX12_tower_294 rfl (q := 0) rfl ?_
    refine g_iconst hC dX12_tower_295 (v := (0 : Int32)) (by decide) ?_
    refine g_puti hC fd_RX12_305 rfl (by decide) rfl dX12_tower_296 (nm_e ?_)
    refine g_aload_n hC dX12_tower_299 rfl (q := 0) rfl ?_
    refine g_iconst hC dX12_tower_300 (v := (0 : Int32)) (by decide) ?_
    refine g_puti hC fd_RX12_308 rfl (by decide) rfl dX12_tower_301 (nm_e ?_)
    refine g_aload_n hC dX12_tower_304 rfl (q := 0) rfl ?_
    refine g_iconst hC dX12_tower_305 (v := (0 : Int32)) (by decide) ?_
    refine g_putz hC (by decide) fd_RX12_311 rfl (by decide) rfl dX12_tower_306 (nm_e ?_)
    refine g_iconst hC dX12_tower_309 (v := (0 : Int32)) (by decide) ?_
    cases h
    exact g_iret hC hE rfl dX12_tower_310 (Nat.zero_le _) (Nat.zero_le _) ⟨rfl, rfl, rfl, rfl, rfl, rfl⟩
  · replace h := (if_neg c273).symm.trans h
    refine g_aload_n hC dX12_tower_276 rfl (q := 0) rfl ?_
    refine g_getr hC fd_RX12_63 rfl (by decide) (C0 := "") (t0 := _) (Or.inr rfl) (rr_75_42 hW.1) dX12_tower_277 ?_
    refine g_iload_n hC dX12_tower_280 rfl (q := 1) rfl ?_
    refine g_aload_n hC dX12_tower_281 rfl (q := 0) rfl ?_
    refine g_getr hC fd_RX12_50 rfl (by decide) (C0 := "") (t0 := _) (Or.inr rfl) (rr_75_38 hW.1) dX12_tower_282 ?_
    refine g_iload_n hC dX12_tower_285 rfl (q := 1) rfl ?_
    obtain ⟨g286, h⟩ := oG_some h
    refine g_iald hC rfl (by decide) (inB_in g286) dX12_tower_286 ?_
    obtain ⟨g287, h⟩ := oG_some h
    refine g_iast hC rfl (by decide) (inB_in g287) dX12_tower_287 (nm_e ?_)
    refine g_iinc hC dX12_tower_288 rfl (q := 1) rfl (w := (v2 + (1 : Int32))) rfl (by decide) (lv' := [(2, .int (v2 + (1 : Int32))), (0, .ref (mB E + 75))]) rfl ?_
    refine g_goto hC dX12_tower_291 (tgt := 270) (by decide) ?_
    refine g_lv [1, 0] rfl ?_
    exact hk270_ (v2 + (1 : Int32)) (mU I 89 (v2).toNatClampNeg (I 85 (v2).toNatClampNeg)) L h
noncomputable def w_X12_tower_270 (Fu : Nat)  (N : Nat) (v2 : Int32) (I : mIT) (L : mLT) : Option (Int32 × mIT × mLT) :=
  loopF (fun self (s : Int32 × mIT × mLT) => b_X12_tower_270 Fu self s.1 s.2.1 s.2.2) N (v2, I, L)
theorem wo_X12_tower_270 {X : mXT} {E : mEn} {Fu : Nat} {R : mRT}  (hC : mC X E mX12_tower RX12 cX12_tower) (hW : mWd R)   {out : Int32 × mIT × mLT} (hE : mEd X E 0 0 (mSame (some (.int (out.1))) 106 1 (out.2.1) R (out.2.2)))  (N : Nat) (v2 : Int32) (I : mIT) (L : mLT) (h : w_X12_tower_270 Fu  N v2 I L = some out) : mG X E 270 [(0, .ref (mB E + 75)), (2, .int v2)] [] 106 1 I R L 0 0 :=
  loopF_ok (Gd := fun s : Int32 × mIT × mLT => mG X E 270 [(0, .ref (mB E + 75)), (2, .int s.1)] [] 106 1 s.2.1 R s.2.2 0 0) (fun self hs s h => bo_X12_tower_270 hC hW hE self (fun v2 I L h => hs (v2, I, L) h) s.1 s.2.1 s.2.2 h) N (v2, I, L) h
noncomputable def b_X12_tower_185 (Fu : Nat)  (s1 : Int32) (I : mIT) (L : mLT) : Option (Int32 × mIT × mLT) :=
  oB (f_X12_copies Fu (mU (mU (mU (mU (mU I 75 3 s1) 75 4 ((mU I 75 3 s1) 75 28)) 75 5 ((mU (mU I 75 3 s1) 75 4 ((mU I 75 3 s1) 75 28)) 75 29)) 75 6 ((mU (mU (mU I 75 3 s1) 75 4 ((mU I 75 3 s1) 75 28)) 75 5 ((mU (mU I 75 3 s1) 75 4 ((mU I 75 3 s1) 75 28)) 75 29)) 75 30)) 75 7 ((mU (mU (mU (mU I 75 3 s1) 75 4 ((mU I 75 3 s1) 75 28)) 75 5 ((mU (mU I 75 3 s1) 75 4 ((mU I 75 3 s1) 75 28)) 75 29)) 75 6 ((mU (mU (mU I 75 3 s1) 75 4 ((mU I 75 3 s1) 75 28)) 75 5 ((mU (mU I 75 3 s1) 75 4 ((mU I 75 3 s1) 75 28)) 75 29)) 75 30)) 75 31)) 82 76) (fun r229 => oB (f_X12_copies Fu r229 83 77) (fun r241 => oB (f_X12_copies Fu r241 84 78) (fun r253 => oB (f_X12_copies Fu r253 86 79) (fun r265 => w_X12_tower_270 Fu Fu (0 : Int32) r265 L))))
set_option maxRecDepth 20000 in
theorem bo_X12_tower_185 {X : mXT} {E : mEn} {Fu : Nat} {R : mRT}  (hC : mC X E mX12_tower RX12 cX12_tower) (hW : mWd R)   {out : Int32 × mIT × mLT} (hE : mEd X E 0 0 (mSame (some (.int (out.1))) 106 1 (out.2.1) R (out.2.2)))  (s1 : Int32) (I : mIT) (L : mLT) (h : b_X12_tower_185 Fu  s1 I L = some out) : mG X E 185 [(0, .ref (mB E + 75))] [.int s1, .ref (mB E + 75)] 106 1 I R L 0 0 := by
  unfold b_X12_tower_185 at h
  refine g_puti hC fd_RX12_7 rfl (by decide) rfl dX12_tower_185 (nm_e ?_)
  refine g_aload_n hC dX12_tower_188 rfl (q := 0) rfl ?_
  refine g_aload_n hC dX12_tower_189 rfl (q := 0) rfl ?_
  refine g_geti hC fd_RX12_264 rfl (by decide) (Or.inl rfl) dX12_tower_190 ?_
  refine g_puti hC fd_RX12_295 rfl (by decide) rfl dX12_tower_193 (nm_e ?_)
  refine g_aload_n hC dX12_tower_196 rfl (q := 0) rfl ?_
  refine g_aload_n hC dX12_tower_197 rfl (q := 0) rfl ?_
  refine g_geti hC fd_RX12_267 rfl (by decide) (Or.inl rfl) dX12_tower_198 ?_
  refine g_puti hC fd_RX12_298 rfl (by decide) rfl dX12_tower_201 (nm_e ?_)
  refine g_aload_n hC dX12_tower_204 rfl (q := 0) rfl ?_
  refine g_aload_n hC dX12_tower_205 rfl (q := 0) rfl ?_
  refine g_geti hC fd_RX12_270 rfl (by decide) (Or.inl rfl) dX12_tower_206 ?_
  refine g_puti hC fd_RX12_13 rfl (by decide) rfl dX12_tower_209 (nm_e ?_)
  refine g_aload_n hC dX12_tower_212 rfl (q := 0) rfl ?_
  refine g_aload_n hC dX12_tower_213 rfl (q := 0) rfl ?_
  refine g_geti hC fd_RX12_276 rfl (by decide) (Or.inl rfl) dX12_tower_214 ?_
  refine g_puti hC fd_RX12_16 rfl (by decide) rfl dX12_tower_217 (nm_e ?_)
  refine g_aload_n hC dX12_tower_220 rfl (q := 0) rfl ?_
  refine g_aload_n hC dX12_tower_221 rfl (q := 0) rfl ?_
  refine g_getr hC fd_RX12_41 rfl (by decide) (C0 := "") (t0 := _) (Or.inr rfl) (rr_75_35 hW.1) dX12_tower_222 ?_
  refine g_aload_n hC dX12_tower_225 rfl (q := 0) rfl ?_
  refine g_getr hC fd_RX12_19 rfl (by decide) (C0 := "") (t0 := _) (Or.inr rfl) (rr_75_8 hW.1) dX12_tower_226 ?_
  obtain ⟨r229, h229, h⟩ := oB_some h
  refine g_cV0 hC cv_X12_copies wd_1968 ⟨Nat.le_of_ble_eq_true rfl, Nat.le_of_ble_eq_true rfl⟩ rfl (by decide) dX12_tower_229 (As := [.ref (mB E + 82), .ref (mB E + 76)]) (st := []) (ok_X12_copies hC.2.2.2.2.2.2.2.1 hW ⟨rfl, (by decide)⟩ ⟨rfl, (by decide)⟩ h229) rfl rfl (Nat.le_of_ble_eq_true rfl) ⟨Nat.zero_le _, Nat.zero_le _⟩ ?_
  refine g_aload_n hC dX12_tower_232 rfl (q := 0) rfl ?_
  refine g_aload_n hC dX12_tower_233 rfl (q := 0) rfl ?_
  refine g_getr hC fd_RX12_44 rfl (by decide) (C0 := "") (t0 := _) (Or.inr rfl) (rr_75_36 hW.1) dX12_tower_234 ?_
  refine g_aload_n hC dX12_tower_237 rfl (q := 0) rfl ?_
  refine g_getr hC fd_RX12_23 rfl (by decide) (C0 := "") (t0 := _) (Or.inr rfl) (rr_75_9 hW.1) dX12_tower_238 ?_
  obtain ⟨r241, h241, h⟩ := oB_some h
  refine g_cV0 hC cv_X12_copies wd_1968 ⟨Nat.le_of_ble_eq_true rfl, Nat.le_of_ble_eq_true rfl⟩ rfl (by decide) dX12_tower_241 (As := [.ref (mB E + 83), .ref (mB E + 77)]) (st := []) (ok_X12_copies hC.2.2.2.2.2.2.2.1 hW ⟨rfl, (by decide)⟩ ⟨rfl, (by decide)⟩ h241) rfl rfl (Nat.le_of_ble_eq_true rfl) ⟨Nat.zero_le _, Nat.zero_le _⟩ ?_
  refine g_aload_n hC dX12_tower_244 rfl (q := 0) rfl ?_
  refine g_aload_n hC dX12_tower_245 rfl (q := 0) rfl ?_
  refine g_getr hC fd_RX12_47 rfl (by decide) (C0 := "") (t0 := _) (Or.inr rfl) (rr_75_37 hW.1) dX12_tower_246 ?_
  refine g_aload_n hC dX12_tower_249 rfl (q := 0) rfl ?_
  refine g_getr hC fd_RX12_26 rfl (by decide) (C0 := "") (t0 := _) (Or.inr rfl) (rr_75_10 hW.1) dX12_tower_250 ?_
  obtain ⟨r253, h253, h⟩ := oB_some h
  refine g_cV0 hC cv_X12_copies wd_1968 ⟨Nat.le_of_ble_eq_true rfl, Nat.le_of_ble_eq_true rfl⟩ rfl (by decide) dX12_tower_253 (As := [.ref (mB E + 84), .ref (mB E + 78)]) (st := []) (ok_X12_copies hC.2.2.2.2.2.2.2.1 hW ⟨rfl, (by decide)⟩ ⟨rfl, (by decide)⟩ h253) rfl rfl (Nat.le_of_ble_eq_true rfl) ⟨Nat.zero_le _, Nat.zero_le _⟩ ?_
  refine g_aload_n hC dX12_tower_256 rfl (q := 0) rfl ?_
  refine g_aload_n hC dX12_tower_257 rfl (q := 0) rfl ?_
  refine g_getr hC fd_RX12_53 rfl (by decide) (C0 := "") (t0 := _) (Or.inr rfl) (rr_75_39 hW.1) dX12_tower_258 ?_
  refine g_aload_n hC dX12_tower_261 rfl (q := 0) rfl ?_
  refine g_getr hC fd_RX12_29 rfl (by decide) (C0 := "") (t0 := _) (Or.inr rfl) (rr_75_11 hW.1) dX12_tower_262 ?_
  obtain ⟨r265, h265, h⟩ := oB_some h
  refine g_cV0 hC cv_X12_copies wd_1968 ⟨Nat.le_of_ble_eq_true rfl, Nat.le_of_ble_eq_true rfl⟩ rfl (by decide) dX12_tower_265 (As := [.ref (mB E + 86), .ref (mB E + 79)]) (st := []) (ok_X12_copies hC.2.2.2.2.2.2.2.1 hW ⟨rfl, (by decide)⟩ ⟨rfl, (by decide)⟩ h265) rfl rfl (Nat.le_of_ble_eq_true rfl) ⟨Nat.zero_le _, Nat.zero_le _⟩ ?_
  refine g_iconst hC dX12_tower_268 (v := (0 : Int32)) (by decide) ?_
  refine g_istore_n hC dX12_tower_269 rfl rfl (by decide) (lv' := [(2, .int (0 : Int32)), (0, .ref (mB E + 75))]) rfl ?_
  refine g_lv [1, 0] rfl ?_
  exact wo_X12_tower_270 hC hW hE Fu ((0 : Int32)) (r265) (L) h
noncomputable def b_X12_tower_129 (Fu : Nat)  (I : mIT) (L : mLT) : Option (Int32 × mIT × mLT) :=
  oB (f_X12_isGood Fu I) (fun r130 => if r130 = 0 then (oG (inB (0 : Int32) 3) (oG (inB (0 : Int32) 3) (some (((mU I 81 ((0 : Int32)).toNatClampNeg ((I 81 ((0 : Int32)).toNatClampNeg) + (1 : Int32))) 75 14), (mU I 81 ((0 : Int32)).toNatClampNeg ((I 81 ((0 : Int32)).toNatClampNeg) + (1 : Int32))), L)))) else (if ((mU (mU I 75 1 (I 75 25)) 75 2 ((mU I 75 1 (I 75 25)) 75 26)) 75 27) = (-1 : Int32) then (b_X12_tower_185 Fu (20 : Int32) (mU (mU I 75 1 (I 75 25)) 75 2 ((mU I 75 1 (I 75 25)) 75 26)) L) else (b_X12_tower_185 Fu ((mU (mU I 75 1 (I 75 25)) 75 2 ((mU I 75 1 (I 75 25)) 75 26)) 75 27) (mU (mU I 75 1 (I 75 25)) 75 2 ((mU I 75 1 (I 75 25)) 75 26)) L)))
set_option maxRecDepth 20000 in
theorem bo_X12_tower_129 {X : mXT} {E : mEn} {Fu : Nat} {R : mRT}  (hC : mC X E mX12_tower RX12 cX12_tower) (hW : mWd R)   {out : Int32 × mIT × mLT} (hE : mEd X E 0 0 (mSame (some (.int (out.1))) 106 1 (out.2.1) R (out.2.2)))  (I : mIT) (L : mLT) (h : b_X12_tower_129 Fu  I L = some out) : mG X E 129 [(0, .ref (mB E + 75))] [] 106 1 I R L 0 0 := by
  unfold b_X12_tower_129 at h
  refine g_aload_n hC dX12_tower_129 rfl (q := 0) rfl ?_
  obtain ⟨r130, h130, h⟩ := oB_some h
  refine g_cV1 hC cv_X12_isGood wd_1869 ⟨Nat.le_of_ble_eq_true rfl, Nat.le_of_ble_eq_true rfl⟩ rfl (by decide) dX12_tower_130 (As := []) (st := []) (ok_X12_isGood hC.2.2.2.2.2.2.2.1 hW h130) rfl rfl (Nat.le_of_ble_eq_true rfl) ⟨Nat.zero_le _, Nat.zero_le _⟩ ?_
  refine g_if_ne hC dX12_tower_133 (tgt := 151) (by decide) (fun c133 => ?_) (fun c133 => ?_)
  · replace h := (if_neg c133).symm.trans h
    refine g_aload_n hC dX12_tower_151 rfl (q := 0) rfl ?_
    refine g_aload_n hC dX12_tower_152 rfl (q := 0) rfl ?_
    refine g_geti hC fd_RX12_230 rfl (by decide) (Or.inl rfl) dX12_tower_153 ?_
    refine g_puti hC fd_RX12_289 rfl (by decide) rfl dX12_tower_156 (nm_e ?_)
    refine g_aload_n hC dX12_tower_159 rfl (q := 0) rfl ?_
    refine g_aload_n hC dX12_tower_160 rfl (q := 0) rfl ?_
    refine g_geti hC fd_RX12_250 rfl (by decide) (Or.inl rfl) dX12_tower_161 ?_
    refine g_puti hC fd_RX12_292 rfl (by decide) rfl dX12_tower_164 (nm_e ?_)
    refine g_aload_n hC dX12_tower_167 rfl (q := 0) rfl ?_
    refine g_aload_n hC dX12_tower_168 rfl (q := 0) rfl ?_
    refine g_geti hC fd_RX12_261 rfl (by decide) (Or.inl rfl) dX12_tower_169 ?_
    refine g_iconst hC dX12_tower_172 (v := (-1 : Int32)) (by decide) ?_
    refine g_ic_ne hC dX12_tower_173 (tgt := 181) (by decide) (fun c173 => ?_) (fun c173 => ?_)
    · replace h := (if_neg c173).symm.trans h
      refine g_aload_n hC dX12_tower_181 rfl (q := 0) rfl ?_
      refine g_geti hC fd_RX12_261 rfl (by decide) (Or.inl rfl) dX12_tower_182 ?_
      exact bo_X12_tower_185 hC hW hE (((mU (mU I 75 1 (I 75 25)) 75 2 ((mU I 75 1 (I 75 25)) 75 26)) 75 27)) ((mU (mU I 75 1 (I 75 25)) 75 2 ((mU I 75 1 (I 75 25)) 75 26))) (L) h
    · replace h := (if_pos c173).symm.trans h
      refine g_bipush hC dX12_tower_176 (v := (20 : Int32)) (by decide) ?_
      refine g_goto hC dX12_tower_178 (tgt := 185) (by decide) ?_
      exact bo_X12_tower_185 hC hW hE ((20 : Int32)) ((mU (mU I 75 1 (I 75 25)) 75 2 ((mU I 75 1 (I 75 25)) 75 26))) (L) h
  · replace h := (if_pos c133).symm.trans h
    refine g_aload_n hC dX12_tower_136 rfl (q := 0) rfl ?_
    refine g_getr hC fd_RX12_38 rfl (by decide) (C0 := "") (t0 := _) (Or.inr rfl) (rr_75_16 hW.1) dX12_tower_137 ?_
    refine g_iconst hC dX12_tower_140 (v := (0 : Int32)) (by decide) ?_
    refine g_dup2 hC dX12_tower_141 rfl rfl ?_
    obtain ⟨g142, h⟩ := oG_some h
    refine g_iald hC rfl (by decide) (inB_in g142) dX12_tower_142 ?_
    refine g_iconst hC dX12_tower_143 (v := (1 : Int32)) (by decide) ?_
    refine g_iadd hC dX12_tower_144 ?_
    obtain ⟨g145, h⟩ := oG_some h
    refine g_iast hC rfl (by decide) (inB_in g145) dX12_tower_145 (nm_e ?_)
    refine g_aload_n hC dX12_tower_146 rfl (q := 0) rfl ?_
    refine g_geti hC fd_RX12_170 rfl (by decide) (Or.inl rfl) dX12_tower_147 ?_
    cases h
    exact g_iret hC hE rfl dX12_tower_150 (Nat.zero_le _) (Nat.zero_le _) ⟨rfl, rfl, rfl, rfl, rfl, rfl⟩
noncomputable def b_X12_tower_108 (Fu : Nat) (k108_ : mIT × mLT → Option (Int32 × mIT × mLT)) (I : mIT) (L : mLT) : Option (Int32 × mIT × mLT) :=
  oB (f_X12_isGood Fu I) (fun r109 => if r109 = 0 then (b_X12_tower_129 Fu I L) else (if (I 75 19) = 0 then (b_X12_tower_129 Fu I L) else (oB (f_X12_line Fu I L) (fun r123 => k108_ (r123.1, r123.2)))))
set_option maxRecDepth 20000 in
theorem bo_X12_tower_108 {X : mXT} {E : mEn} {Fu : Nat} {R : mRT}  (hC : mC X E mX12_tower RX12 cX12_tower) (hW : mWd R)   {out : Int32 × mIT × mLT} (hE : mEd X E 0 0 (mSame (some (.int (out.1))) 106 1 (out.2.1) R (out.2.2))) (k108_ : mIT × mLT → Option (Int32 × mIT × mLT)) (hk108_ : ∀ (I : mIT) (L : mLT),  k108_ (I, L) = some out → mG X E 108 [(0, .ref (mB E + 75))] [] 106 1 I R L 0 0) (I : mIT) (L : mLT) (h : b_X12_tower_108 Fu k108_ I L = some out) : mG X E 108 [(0, .ref (mB E + 75))] [] 106 1 I R L 0 0 := by
  unfold b_X12_tower_108 at h
  refine g_aload_n hC dX12_tower_108 rfl (q := 0) rfl ?_
  obtain ⟨r109, h109, h⟩ := oB_some h
  refine g_cV1 hC cv_X12_isGood wd_1869 ⟨Nat.le_of_ble_eq_true rfl, Nat.le_of_ble_eq_true rfl⟩ rfl (by decide) dX12_tower_109 (As := []) (st := []) (ok_X12_isGood hC.2.2.2.2.2.2.2.1 hW h109) rfl rfl (Nat.le_of_ble_eq_true rfl) ⟨Nat.zero_le _, Nat.zero_le _⟩ ?_
  refine g_if_eq hC dX12_tower_112 (tgt := 129) (by decide) (fun c112 => ?_) (fun c112 => ?_)
  · replace h := (if_pos c112).symm.trans h
    exact bo_X12_tower_129 hC hW hE (I) (L) h
  · replace h := (if_neg c112).symm.trans h
    refine g_aload_n hC dX12_tower_115 rfl (q := 0) rfl ?_
    refine g_geti hC fd_RX12_147 rfl (by decide) (Or.inl rfl) dX12_tower_116 ?_
    refine g_if_eq hC dX12_tower_119 (tgt := 129) (by decide) (fun c119 => ?_) (fun c119 => ?_)
    · replace h := (if_pos c119).symm.trans h
      exact bo_X12_tower_129 hC hW hE (I) (L) h
    · replace h := (if_neg c119).symm.trans h
      refine g_aload_n hC dX12_tower_122 rfl (q := 0) rfl ?_
      obtain ⟨r123, h123, h⟩ := oB_some h
      refine g_cV0 hC cv_X12_line wd_1873 ⟨Nat.le_of_ble_eq_true rfl, Nat.le_of_ble_eq_true rfl⟩ rfl (by decide) dX12_tower_123 (As := []) (st := []) (ok_X12_line hC.2.2.2.2.2.2.2.1 hW h123) rfl rfl (Nat.le_of_ble_eq_true rfl) ⟨Nat.zero_le _, Nat.zero_le _⟩ ?_
      refine g_goto hC dX12_tower_126 (tgt := 108) (by decide) ?_
      exact hk108_ r123.1 r123.2 h
noncomputable def w_X12_tower_108 (Fu : Nat)  (N : Nat) (I : mIT) (L : mLT) : Option (Int32 × mIT × mLT) :=
  loopF (fun self (s : mIT × mLT) => b_X12_tower_108 Fu self s.1 s.2) N (I, L)
theorem wo_X12_tower_108 {X : mXT} {E : mEn} {Fu : Nat} {R : mRT}  (hC : mC X E mX12_tower RX12 cX12_tower) (hW : mWd R)   {out : Int32 × mIT × mLT} (hE : mEd X E 0 0 (mSame (some (.int (out.1))) 106 1 (out.2.1) R (out.2.2)))  (N : Nat) (I : mIT) (L : mLT) (h : w_X12_tower_108 Fu  N I L = some out) : mG X E 108 [(0, .ref (mB E + 75))] [] 106 1 I R L 0 0 :=
  loopF_ok (Gd := fun s : mIT × mLT => mG X E 108 [(0, .ref (mB E + 75))] [] 106 1 s.1 R s.2 0 0) (fun self hs s h => bo_X12_tower_108 hC hW hE self (fun I L h => hs (I, L) h) s.1 s.2 h) N (I, L) h
noncomputable def b_X12_tower_23 (Fu : Nat)  (v1 : Int32) (s1 : Int32) (I : mIT) (L : mLT) : Option (Int32 × mIT × mLT) :=
  oB (f_X12_right Fu I s1 (1 : Int32)) (fun r24 => if r24.1 = 0 then (some ((0 : Int32), r24.2, L)) else (oG (inB (0 : Int32) 53) (oB (f_X12_reads Fu (mU (mU (mU (mU (mU (mU (mU (mU (mU (mU (mU (mU (mU (mU r24.2 75 13 (0 : Int32)) 75 15 (-1 : Int32)) 75 14 (0 : Int32)) 75 17 v1) 75 18 (0 : Int32)) 75 25 (0 : Int32)) 75 26 (0 : Int32)) 75 27 (-1 : Int32)) 75 28 (0 : Int32)) 75 29 (0 : Int32)) 75 30 (-1 : Int32)) 75 31 (-1 : Int32)) 85 ((0 : Int32)).toNatClampNeg (0 : Int32)) 75 32 (0 : Int32)) L) (fun r105 => w_X12_tower_108 Fu Fu r105.1 r105.2))))
set_option maxRecDepth 20000 in
theorem bo_X12_tower_23 {X : mXT} {E : mEn} {Fu : Nat} {R : mRT}  (hC : mC X E mX12_tower RX12 cX12_tower) (hW : mWd R)   {out : Int32 × mIT × mLT} (hE : mEd X E 0 0 (mSame (some (.int (out.1))) 106 1 (out.2.1) R (out.2.2)))  (v1 : Int32) (s1 : Int32) (I : mIT) (L : mLT) (h : b_X12_tower_23 Fu  v1 s1 I L = some out) : mG X E 23 [(0, .ref (mB E + 75)), (1, .int v1)] [.int s1, .ref (mB E + 75)] 106 1 I R L 0 0 := by
  unfold b_X12_tower_23 at h
  refine g_iconst hC dX12_tower_23 (v := (1 : Int32)) (by decide) ?_
  obtain ⟨r24, h24, h⟩ := oB_some h
  refine g_cV1 hC cv_X12_right wd_1851 ⟨Nat.le_of_ble_eq_true rfl, Nat.le_of_ble_eq_true rfl⟩ rfl (by decide) dX12_tower_24 (As := [.int s1, .int (1 : Int32)]) (st := []) (ok_X12_right hC.2.2.2.2.2.2.2.1 hW h24) rfl rfl (Nat.le_of_ble_eq_true rfl) ⟨Nat.zero_le _, Nat.zero_le _⟩ ?_
  refine g_if_ne hC dX12_tower_27 (tgt := 32) (by decide) (fun c27 => ?_) (fun c27 => ?_)
  · replace h := (if_neg c27).symm.trans h
    refine g_aload_n hC dX12_tower_32 rfl (q := 0) rfl ?_
    refine g_iconst hC dX12_tower_33 (v := (0 : Int32)) (by decide) ?_
    refine g_puti hC fd_RX12_117 rfl (by decide) rfl dX12_tower_34 (nm_e ?_)
    refine g_aload_n hC dX12_tower_37 rfl (q := 0) rfl ?_
    refine g_iconst hC dX12_tower_38 (v := (-1 : Int32)) (by decide) ?_
    refine g_puti hC fd_RX12_35 rfl (by decide) rfl dX12_tower_39 (nm_e ?_)
    refine g_aload_n hC dX12_tower_42 rfl (q := 0) rfl ?_
    refine g_iconst hC dX12_tower_43 (v := (0 : Int32)) (by decide) ?_
    refine g_puti hC fd_RX12_170 rfl (by decide) rfl dX12_tower_44 (nm_e ?_)
    refine g_aload_n hC dX12_tower_47 rfl (q := 0) rfl ?_
    refine g_iload_n hC dX12_tower_48 rfl (q := 1) rfl ?_
    refine g_puti hC fd_RX12_124 rfl (by decide) rfl dX12_tower_49 (nm_e ?_)
    refine g_aload_n hC dX12_tower_52 rfl (q := 0) rfl ?_
    refine g_iconst hC dX12_tower_53 (v := (0 : Int32)) (by decide) ?_
    refine g_puti hC fd_RX12_127 rfl (by decide) rfl dX12_tower_54 (nm_e ?_)
    refine g_aload_n hC dX12_tower_57 rfl (q := 0) rfl ?_
    refine g_iconst hC dX12_tower_58 (v := (0 : Int32)) (by decide) ?_
    refine g_puti hC fd_RX12_230 rfl (by decide) rfl dX12_tower_59 (nm_e ?_)
    refine g_aload_n hC dX12_tower_62 rfl (q := 0) rfl ?_
    refine g_iconst hC dX12_tower_63 (v := (0 : Int32)) (by decide) ?_
    refine g_puti hC fd_RX12_250 rfl (by decide) rfl dX12_tower_64 (nm_e ?_)
    refine g_aload_n hC dX12_tower_67 rfl (q := 0) rfl ?_
    refine g_iconst hC dX12_tower_68 (v := (-1 : Int32)) (by decide) ?_
    refine g_puti hC fd_RX12_261 rfl (by decide) rfl dX12_tower_69 (nm_e ?_)
    refine g_aload_n hC dX12_tower_72 rfl (q := 0) rfl ?_
    refine g_iconst hC dX12_tower_73 (v := (0 : Int32)) (by decide) ?_
    refine g_puti hC fd_RX12_264 rfl (by decide) rfl dX12_tower_74 (nm_e ?_)
    refine g_aload_n hC dX12_tower_77 rfl (q := 0) rfl ?_
    refine g_iconst hC dX12_tower_78 (v := (0 : Int32)) (by decide) ?_
    refine g_puti hC fd_RX12_267 rfl (by decide) rfl dX12_tower_79 (nm_e ?_)
    refine g_aload_n hC dX12_tower_82 rfl (q := 0) rfl ?_
    refine g_iconst hC dX12_tower_83 (v := (-1 : Int32)) (by decide) ?_
    refine g_puti hC fd_RX12_270 rfl (by decide) rfl dX12_tower_84 (nm_e ?_)
    refine g_aload_n hC dX12_tower_87 rfl (q := 0) rfl ?_
    refine g_iconst hC dX12_tower_88 (v := (-1 : Int32)) (by decide) ?_
    refine g_puti hC fd_RX12_276 rfl (by decide) rfl dX12_tower_89 (nm_e ?_)
    refine g_aload_n hC dX12_tower_92 rfl (q := 0) rfl ?_
    refine g_getr hC fd_RX12_50 rfl (by decide) (C0 := "") (t0 := _) (Or.inr rfl) (rr_75_38 hW.1) dX12_tower_93 ?_
    refine g_iconst hC dX12_tower_96 (v := (0 : Int32)) (by decide) ?_
    refine g_iconst hC dX12_tower_97 (v := (0 : Int32)) (by decide) ?_
    obtain ⟨g98, h⟩ := oG_some h
    refine g_iast hC rfl (by decide) (inB_in g98) dX12_tower_98 (nm_e ?_)
    refine g_aload_n hC dX12_tower_99 rfl (q := 0) rfl ?_
    refine g_iconst hC dX12_tower_100 (v := (0 : Int32)) (by decide) ?_
    refine g_puti hC fd_RX12_183 rfl (by decide) rfl dX12_tower_101 (nm_e ?_)
    refine g_aload_n hC dX12_tower_104 rfl (q := 0) rfl ?_
    obtain ⟨r105, h105, h⟩ := oB_some h
    refine g_cV0 hC cv_X12_reads wd_1855 ⟨Nat.le_of_ble_eq_true rfl, Nat.le_of_ble_eq_true rfl⟩ rfl (by decide) dX12_tower_105 (As := []) (st := []) (ok_X12_reads hC.2.2.2.2.2.2.2.1 hW h105) rfl rfl (Nat.le_of_ble_eq_true rfl) ⟨Nat.zero_le _, Nat.zero_le _⟩ ?_
    refine g_lv [0] rfl ?_
    exact wo_X12_tower_108 hC hW hE Fu (r105.1) (r105.2) h
  · replace h := (if_pos c27).symm.trans h
    refine g_iconst hC dX12_tower_30 (v := (0 : Int32)) (by decide) ?_
    cases h
    exact g_iret hC hE rfl dX12_tower_31 (Nat.zero_le _) (Nat.zero_le _) ⟨rfl, rfl, rfl, rfl, rfl, rfl⟩
noncomputable def b_X12_tower_22 (Fu : Nat)  (v1 : Int32) (I : mIT) (L : mLT) : Option (Int32 × mIT × mLT) :=
  b_X12_tower_23 Fu v1 (0 : Int32) I L
set_option maxRecDepth 20000 in
theorem bo_X12_tower_22 {X : mXT} {E : mEn} {Fu : Nat} {R : mRT}  (hC : mC X E mX12_tower RX12 cX12_tower) (hW : mWd R)   {out : Int32 × mIT × mLT} (hE : mEd X E 0 0 (mSame (some (.int (out.1))) 106 1 (out.2.1) R (out.2.2)))  (v1 : Int32) (I : mIT) (L : mLT) (h : b_X12_tower_22 Fu  v1 I L = some out) : mG X E 22 [(0, .ref (mB E + 75)), (1, .int v1)] [.ref (mB E + 75)] 106 1 I R L 0 0 := by
  unfold b_X12_tower_22 at h
  refine g_iconst hC dX12_tower_22 (v := (0 : Int32)) (by decide) ?_
  exact bo_X12_tower_23 hC hW hE (v1) ((0 : Int32)) (I) (L) h
noncomputable def f_X12_tower (Fu : Nat) (I : mIT) (L : mLT) (v1 : Int32) : Option (Int32 × mIT × mLT) :=
  if v1 < 0 then (b_X12_tower_22 Fu v1 (mU I 75 0 (0 : Int32)) L) else (if ((mU I 75 0 (0 : Int32)) 75 13) < v1 then (b_X12_tower_22 Fu v1 (mU I 75 0 (0 : Int32)) L) else (b_X12_tower_23 Fu v1 (1 : Int32) (mU I 75 0 (0 : Int32)) L))
set_option maxRecDepth 20000 in
theorem ok_X12_tower {l : Launch} {E : mEn} {Fu : Nat} {I : mIT} {R : mRT} {L : mLT} {v1 : Int32} (hst : l.stackTraces = false) (hW : mWd R)  {out : Int32 × mIT × mLT} (h : f_X12_tower Fu I L v1 = some out) : mOk l E mX12_tower [.ref (mB E + 75), .int v1] 106 1 I R L 0 0 (mSame (some (.int (out.1))) 106 1 (out.2.1) R (out.2.2)) := by
  refine mOk_of hst (by decide) (Nat.le_of_ble_eq_true rfl) (fun X hC hE _ => ?_)
  have hC : mC X E mX12_tower RX12 cX12_tower := hC
  show mG X E 0 [(0, .ref (mB E + 75)), (1, .int v1)] [] 106 1 I R L 0 0
  unfold f_X12_tower at h
  refine g_aload_n hC dX12_tower_0 rfl (q := 0) rfl ?_
  refine g_iconst hC dX12_tower_1 (v := (0 : Int32)) (by decide) ?_
  refine g_puti hC fd_RX12_114 rfl (by decide) rfl dX12_tower_2 (nm_e ?_)
  refine g_aload_n hC dX12_tower_5 rfl (q := 0) rfl ?_
  refine g_iload_n hC dX12_tower_6 rfl (q := 1) rfl ?_
  refine g_if_lt hC dX12_tower_7 (tgt := 22) (by decide) (fun c7 => ?_) (fun c7 => ?_)
  · replace h := (if_pos c7).symm.trans h
    exact bo_X12_tower_22 hC hW hE (v1) ((mU I 75 0 (0 : Int32))) (L) h
  · replace h := (if_neg c7).symm.trans h
    refine g_iload_n hC dX12_tower_10 rfl (q := 1) rfl ?_
    refine g_aload_n hC dX12_tower_11 rfl (q := 0) rfl ?_
    refine g_geti hC fd_RX12_117 rfl (by decide) (Or.inl rfl) dX12_tower_12 ?_
    refine g_ic_gt hC dX12_tower_15 (tgt := 22) (by decide) (fun c15 => ?_) (fun c15 => ?_)
    · replace h := (if_pos c15).symm.trans h
      exact bo_X12_tower_22 hC hW hE (v1) ((mU I 75 0 (0 : Int32))) (L) h
    · replace h := (if_neg c15).symm.trans h
      refine g_iconst hC dX12_tower_18 (v := (1 : Int32)) (by decide) ?_
      refine g_goto hC dX12_tower_19 (tgt := 23) (by decide) ?_
      exact bo_X12_tower_23 hC hW hE (v1) ((1 : Int32)) ((mU I 75 0 (0 : Int32))) (L) h
noncomputable def b_X12_towers_89 (Fu : Nat) (k89_ : Int32 × Int32 × Int32 × Int32 × mIT → Option (Int32 × mIT)) (v3 : Int32) (v4 : Int32) (v5 : Int32) (v6 : Int32) (I : mIT) : Option (Int32 × mIT) :=
  if (I 75 1) ≤ v6 then (if v3 = 0 then (oB (f_X12_soundingIn Fu I (53 : Int32)) (fun r141 => oB (f_X12_bits Fu r141) (fun r144 => some (r144, I)))) else (if v3 = (1 : Int32) then (oB (f_X12_whereIn Fu I (53 : Int32) (-2 : Int32)) (fun r160 => oB (f_X12_bits Fu r160) (fun r163 => some (r163, I)))) else (some (v5, I)))) else (if ((v4 >>> (v6 &&& 31)) &&& (1 : Int32)) = (1 : Int32) then (oG (inB ((54 : Int32) + v6) 106) (k89_ (v3, v4, (v5 + (I 89 (((54 : Int32) + v6)).toNatClampNeg)), (v6 + (1 : Int32)), I))) else (k89_ (v3, v4, (v5 + (0 : Int32)), (v6 + (1 : Int32)), I)))
set_option maxRecDepth 20000 in
theorem bo_X12_towers_89 {X : mXT} {E : mEn} {Fu : Nat} {R : mRT} {L : mLT}  (hC : mC X E mX12_towers RX12 cX12_towers) (hW : mWd R)   {out : Int32 × mIT} (hE : mEd X E 0 0 (mSame (some (.int (out.1))) 106 1 (out.2) R L)) (k89_ : Int32 × Int32 × Int32 × Int32 × mIT → Option (Int32 × mIT)) (hk89_ : ∀ (v3 : Int32) (v4 : Int32) (v5 : Int32) (v6 : Int32) (I : mIT),  k89_ (v3, v4, v5, v6, I) = some out → mG X E 89 [(0, .ref (mB E + 75)), (3, .int v3), (4, .int v4), (5, .int v5), (6, .int v6)] [] 106 1 I R L 0 0) (v3 : Int32) (v4 : Int32) (v5 : Int32) (v6 : Int32) (I : mIT) (h : b_X12_towers_89 Fu k89_ v3 v4 v5 v6 I = some out) : mG X E 89 [(0, .ref (mB E + 75)), (3, .int v3), (4, .int v4), (5, .int v5), (6, .int v6)] [] 106 1 I R L 0 0 := by
  unfold b_X12_towers_89 at h
  refine g_iload hC dX12_towers_89 (q := 4) rfl ?_
  refine g_aload_n hC dX12_towers_91 rfl (q := 0) rfl ?_
  refine g_geti hC fd_RX12_289 rfl (by decide) (Or.inl rfl) dX12_towers_92 ?_
  refine g_ic_ge hC dX12_towers_95 (tgt := 134) (by decide) (fun c95 => ?_) (fun c95 => ?_)
  · replace h := (if_pos c95).symm.trans h
    refine g_iload_n hC dX12_towers_134 rfl (q := 1) rfl ?_
    refine g_if_ne hC dX12_towers_135 (tgt := 150) (by decide) (fun c135 => ?_) (fun c135 => ?_)
    · replace h := (if_neg c135).symm.trans h
      refine g_iload_n hC dX12_towers_150 rfl (q := 1) rfl ?_
      refine g_iconst hC dX12_towers_151 (v := (1 : Int32)) (by decide) ?_
      refine g_ic_ne hC dX12_towers_152 (tgt := 169) (by decide) (fun c152 => ?_) (fun c152 => ?_)
      · replace h := (if_neg c152).symm.trans h
        refine g_iload hC dX12_towers_169 (q := 3) rfl ?_
        cases h
        exact g_iret hC hE rfl dX12_towers_171 (Nat.zero_le _) (Nat.zero_le _) ⟨rfl, rfl, rfl, rfl, rfl, rfl⟩
      · replace h := (if_pos c152).symm.trans h
        refine g_aload_n hC dX12_towers_155 rfl (q := 0) rfl ?_
        refine g_bipush hC dX12_towers_156 (v := (53 : Int32)) (by decide) ?_
        refine g_bipush hC dX12_towers_158 (v := (-2 : Int32)) (by decide) ?_
        obtain ⟨r160, h160, h⟩ := oB_some h
        refine g_cV1 hC cv_X12_whereIn wd_1988 ⟨Nat.le_of_ble_eq_true rfl, Nat.le_of_ble_eq_true rfl⟩ rfl (by decide) dX12_towers_160 (As := [.int (53 : Int32), .int (-2 : Int32)]) (st := []) (ok_X12_whereIn hC.2.2.2.2.2.2.2.1 hW h160) rfl rfl (Nat.le_of_ble_eq_true rfl) ⟨Nat.zero_le _, Nat.zero_le _⟩ ?_
        obtain ⟨r163, h163, h⟩ := oB_some h
        refine g_cS1 hC cs_X12_bits wd_2210 ⟨Nat.le_of_ble_eq_true rfl, Nat.le_of_ble_eq_true rfl⟩ dX12_towers_163 (As := [.int r160]) (st := []) (ok_X12_bits hC.2.2.2.2.2.2.2.1 hW h163) rfl rfl (Nat.le_of_ble_eq_true rfl) ⟨Nat.zero_le _, Nat.zero_le _⟩ ?_
        refine g_goto hC dX12_towers_166 (tgt := 171) (by decide) ?_
        cases h
        exact g_iret hC hE rfl dX12_towers_171 (Nat.zero_le _) (Nat.zero_le _) ⟨rfl, rfl, rfl, rfl, rfl, rfl⟩
    · replace h := (if_pos c135).symm.trans h
      refine g_aload_n hC dX12_towers_138 rfl (q := 0) rfl ?_
      refine g_bipush hC dX12_towers_139 (v := (53 : Int32)) (by decide) ?_
      obtain ⟨r141, h141, h⟩ := oB_some h
      refine g_cV1 hC cv_X12_soundingIn wd_1996 ⟨Nat.le_of_ble_eq_true rfl, Nat.le_of_ble_eq_true rfl⟩ rfl (by decide) dX12_towers_141 (As := [.int (53 : Int32)]) (st := []) (ok_X12_soundingIn hC.2.2.2.2.2.2.2.1 hW h141) rfl rfl (Nat.le_of_ble_eq_true rfl) ⟨Nat.zero_le _, Nat.zero_le _⟩ ?_
      obtain ⟨r144, h144, h⟩ := oB_some h
      refine g_cS1 hC cs_X12_bits wd_2210 ⟨Nat.le_of_ble_eq_true rfl, Nat.le_of_ble_eq_true rfl⟩ dX12_towers_144 (As := [.int r141]) (st := []) (ok_X12_bits hC.2.2.2.2.2.2.2.1 hW h144) rfl rfl (Nat.le_of_ble_eq_true rfl) ⟨Nat.zero_le _, Nat.zero_le _⟩ ?_
      refine g_goto hC dX12_towers_147 (tgt := 171) (by decide) ?_
      cases h
      exact g_iret hC hE rfl dX12_towers_171 (Nat.zero_le _) (Nat.zero_le _) ⟨rfl, rfl, rfl, rfl, rfl, rfl⟩
  · replace h := (if_neg c95).symm.trans h
    refine g_iload hC dX12_towers_98 (q := 3) rfl ?_
    refine g_iload hC dX12_towers_100 (q := 2) rfl ?_
    refine g_iload hC dX12_towers_102 (q := 4) rfl ?_
    refine g_ishr hC dX12_towers_104 ?_
    refine g_iconst hC dX12_towers_105 (v := (1 : Int32)) (by decide) ?_
    refine g_iand hC dX12_towers_106 ?_
    refine g_iconst hC dX12_towers_107 (v := (1 : Int32)) (by decide) ?_
    refine g_ic_ne hC dX12_towers_108 (tgt := 124) (by decide) (fun c108 => ?_) (fun c108 => ?_)
    · replace h := (if_neg c108).symm.trans h
      refine g_iconst hC dX12_towers_124 (v := (0 : Int32)) (by decide) ?_
      refine g_iadd hC dX12_towers_125 ?_
      refine g_istore hC dX12_towers_126 rfl (by decide) (lv' := [(5, .int (v5 + (0 : Int32))), (0, .ref (mB E + 75)), (3, .int v3), (4, .int v4), (6, .int v6)]) rfl ?_
      refine g_iinc hC dX12_towers_128 rfl (q := 4) rfl (w := (v6 + (1 : Int32))) rfl (by decide) (lv' := [(6, .int (v6 + (1 : Int32))), (5, .int (v5 + (0 : Int32))), (0, .ref (mB E + 75)), (3, .int v3), (4, .int v4)]) rfl ?_
      refine g_goto hC dX12_towers_131 (tgt := 89) (by decide) ?_
      refine g_lv [2, 3, 4, 1, 0] rfl ?_
      exact hk89_ v3 v4 (v5 + (0 : Int32)) (v6 + (1 : Int32)) I h
    · replace h := (if_pos c108).symm.trans h
      refine g_aload_n hC dX12_towers_111 rfl (q := 0) rfl ?_
      refine g_getr hC fd_RX12_63 rfl (by decide) (C0 := "") (t0 := _) (Or.inr rfl) (rr_75_42 hW.1) dX12_towers_112 ?_
      refine g_bipush hC dX12_towers_115 (v := (54 : Int32)) (by decide) ?_
      refine g_iload hC dX12_towers_117 (q := 4) rfl ?_
      refine g_iadd hC dX12_towers_119 ?_
      obtain ⟨g120, h⟩ := oG_some h
      refine g_iald hC rfl (by decide) (inB_in g120) dX12_towers_120 ?_
      refine g_goto hC dX12_towers_121 (tgt := 125) (by decide) ?_
      refine g_iadd hC dX12_towers_125 ?_
      refine g_istore hC dX12_towers_126 rfl (by decide) (lv' := [(5, .int (v5 + (I 89 (((54 : Int32) + v6)).toNatClampNeg))), (0, .ref (mB E + 75)), (3, .int v3), (4, .int v4), (6, .int v6)]) rfl ?_
      refine g_iinc hC dX12_towers_128 rfl (q := 4) rfl (w := (v6 + (1 : Int32))) rfl (by decide) (lv' := [(6, .int (v6 + (1 : Int32))), (5, .int (v5 + (I 89 (((54 : Int32) + v6)).toNatClampNeg))), (0, .ref (mB E + 75)), (3, .int v3), (4, .int v4)]) rfl ?_
      refine g_goto hC dX12_towers_131 (tgt := 89) (by decide) ?_
      refine g_lv [2, 3, 4, 1, 0] rfl ?_
      exact hk89_ v3 v4 (v5 + (I 89 (((54 : Int32) + v6)).toNatClampNeg)) (v6 + (1 : Int32)) I h
noncomputable def w_X12_towers_89 (Fu : Nat)  (N : Nat) (v3 : Int32) (v4 : Int32) (v5 : Int32) (v6 : Int32) (I : mIT) : Option (Int32 × mIT) :=
  loopF (fun self (s : Int32 × Int32 × Int32 × Int32 × mIT) => b_X12_towers_89 Fu self s.1 s.2.1 s.2.2.1 s.2.2.2.1 s.2.2.2.2) N (v3, v4, v5, v6, I)
theorem wo_X12_towers_89 {X : mXT} {E : mEn} {Fu : Nat} {R : mRT} {L : mLT}  (hC : mC X E mX12_towers RX12 cX12_towers) (hW : mWd R)   {out : Int32 × mIT} (hE : mEd X E 0 0 (mSame (some (.int (out.1))) 106 1 (out.2) R L))  (N : Nat) (v3 : Int32) (v4 : Int32) (v5 : Int32) (v6 : Int32) (I : mIT) (h : w_X12_towers_89 Fu  N v3 v4 v5 v6 I = some out) : mG X E 89 [(0, .ref (mB E + 75)), (3, .int v3), (4, .int v4), (5, .int v5), (6, .int v6)] [] 106 1 I R L 0 0 :=
  loopF_ok (Gd := fun s : Int32 × Int32 × Int32 × Int32 × mIT => mG X E 89 [(0, .ref (mB E + 75)), (3, .int s.1), (4, .int s.2.1), (5, .int s.2.2.1), (6, .int s.2.2.2.1)] [] 106 1 s.2.2.2.2 R L 0 0) (fun self hs s h => bo_X12_towers_89 hC hW hE self (fun v3 v4 v5 v6 I h => hs (v3, v4, v5, v6, I) h) s.1 s.2.1 s.2.2.1 s.2.2.2.1 s.2.2.2.2 h) N (v3, v4, v5, v6, I) h
noncomputable def b_X12_towers_37 (Fu : Nat) (k37_ : Int32 × Int32 × Int32 × mIT → Option (Int32 × mIT)) (v2 : Int32) (v3 : Int32) (v4 : Int32) (I : mIT) : Option (Int32 × mIT) :=
  if v2 ≤ v4 then (oB (f_X12_whereIn Fu (mU I 75 47 (-1 : Int32)) (53 : Int32) (-1 : Int32)) (fun r78 => w_X12_towers_89 Fu Fu v3 r78 (0 : Int32) (0 : Int32) (mU I 75 47 (-1 : Int32)))) else (oB (f_X12_happens Fu I) (fun r44 => oB (f_X12_draw Fu r44 (10 : Int32)) (fun r51 => oB (f_X12_dayGoes Fu (mU r51.2 75 47 r51.1) (53 : Int32)) (fun r60 => k37_ (v2, v3, (v4 + (1 : Int32)), r60)))))
set_option maxRecDepth 20000 in
theorem bo_X12_towers_37 {X : mXT} {E : mEn} {Fu : Nat} {R : mRT} {L : mLT}  (hC : mC X E mX12_towers RX12 cX12_towers) (hW : mWd R)   {out : Int32 × mIT} (hE : mEd X E 0 0 (mSame (some (.int (out.1))) 106 1 (out.2) R L)) (k37_ : Int32 × Int32 × Int32 × mIT → Option (Int32 × mIT)) (hk37_ : ∀ (v2 : Int32) (v3 : Int32) (v4 : Int32) (I : mIT),  k37_ (v2, v3, v4, I) = some out → mG X E 37 [(0, .ref (mB E + 75)), (2, .int v2), (3, .int v3), (4, .int v4)] [] 106 1 I R L 0 0) (v2 : Int32) (v3 : Int32) (v4 : Int32) (I : mIT) (h : b_X12_towers_37 Fu k37_ v2 v3 v4 I = some out) : mG X E 37 [(0, .ref (mB E + 75)), (2, .int v2), (3, .int v3), (4, .int v4)] [] 106 1 I R L 0 0 := by
  unfold b_X12_towers_37 at h
  refine g_iload hC dX12_towers_37 (q := 3) rfl ?_
  refine g_iload_n hC dX12_towers_39 rfl (q := 1) rfl ?_
  refine g_ic_ge hC dX12_towers_40 (tgt := 69) (by decide) (fun c40 => ?_) (fun c40 => ?_)
  · replace h := (if_pos c40).symm.trans h
    refine g_aload_n hC dX12_towers_69 rfl (q := 0) rfl ?_
    refine g_iconst hC dX12_towers_70 (v := (-1 : Int32)) (by decide) ?_
    refine g_puti hC fd_RX12_75 rfl (by decide) rfl dX12_towers_71 (nm_e ?_)
    refine g_aload_n hC dX12_towers_74 rfl (q := 0) rfl ?_
    refine g_bipush hC dX12_towers_75 (v := (53 : Int32)) (by decide) ?_
    refine g_iconst hC dX12_towers_77 (v := (-1 : Int32)) (by decide) ?_
    obtain ⟨r78, h78, h⟩ := oB_some h
    refine g_cV1 hC cv_X12_whereIn wd_1988 ⟨Nat.le_of_ble_eq_true rfl, Nat.le_of_ble_eq_true rfl⟩ rfl (by decide) dX12_towers_78 (As := [.int (53 : Int32), .int (-1 : Int32)]) (st := []) (ok_X12_whereIn hC.2.2.2.2.2.2.2.1 hW h78) rfl rfl (Nat.le_of_ble_eq_true rfl) ⟨Nat.zero_le _, Nat.zero_le _⟩ ?_
    refine g_istore hC dX12_towers_81 rfl (by decide) (lv' := [(4, .int r78), (0, .ref (mB E + 75)), (2, .int v2), (3, .int v3)]) rfl ?_
    refine g_iconst hC dX12_towers_83 (v := (0 : Int32)) (by decide) ?_
    refine g_istore hC dX12_towers_84 rfl (by decide) (lv' := [(5, .int (0 : Int32)), (4, .int r78), (0, .ref (mB E + 75)), (2, .int v2), (3, .int v3)]) rfl ?_
    refine g_iconst hC dX12_towers_86 (v := (0 : Int32)) (by decide) ?_
    refine g_istore hC dX12_towers_87 rfl (by decide) (lv' := [(6, .int (0 : Int32)), (5, .int (0 : Int32)), (4, .int r78), (0, .ref (mB E + 75)), (2, .int v2), (3, .int v3)]) rfl ?_
    refine g_lv [3, 5, 2, 1, 0] rfl ?_
    exact wo_X12_towers_89 hC hW hE Fu (v3) (r78) ((0 : Int32)) ((0 : Int32)) ((mU I 75 47 (-1 : Int32))) h
  · replace h := (if_neg c40).symm.trans h
    refine g_aload_n hC dX12_towers_43 rfl (q := 0) rfl ?_
    obtain ⟨r44, h44, h⟩ := oB_some h
    refine g_cV0 hC cv_X12_happens wd_2261 ⟨Nat.le_of_ble_eq_true rfl, Nat.le_of_ble_eq_true rfl⟩ rfl (by decide) dX12_towers_44 (As := []) (st := []) (ok_X12_happens hC.2.2.2.2.2.2.2.1 hW h44) rfl rfl (Nat.le_of_ble_eq_true rfl) ⟨Nat.zero_le _, Nat.zero_le _⟩ ?_
    refine g_aload_n hC dX12_towers_47 rfl (q := 0) rfl ?_
    refine g_aload_n hC dX12_towers_48 rfl (q := 0) rfl ?_
    refine g_bipush hC dX12_towers_49 (v := (10 : Int32)) (by decide) ?_
    obtain ⟨r51, h51, h⟩ := oB_some h
    refine g_cV1 hC cv_X12_draw wd_2265 ⟨Nat.le_of_ble_eq_true rfl, Nat.le_of_ble_eq_true rfl⟩ rfl (by decide) dX12_towers_51 (As := [.int (10 : Int32)]) (st := [.ref (mB E + 75)]) (ok_X12_draw hC.2.2.2.2.2.2.2.1 hW h51) rfl rfl (Nat.le_of_ble_eq_true rfl) ⟨Nat.zero_le _, Nat.zero_le _⟩ ?_
    refine g_puti hC fd_RX12_75 rfl (by decide) rfl dX12_towers_54 (nm_e ?_)
    refine g_aload_n hC dX12_towers_57 rfl (q := 0) rfl ?_
    refine g_bipush hC dX12_towers_58 (v := (53 : Int32)) (by decide) ?_
    obtain ⟨r60, h60, h⟩ := oB_some h
    refine g_cV0 hC cv_X12_dayGoes wd_2070 ⟨Nat.le_of_ble_eq_true rfl, Nat.le_of_ble_eq_true rfl⟩ rfl (by decide) dX12_towers_60 (As := [.int (53 : Int32)]) (st := []) (ok_X12_dayGoes hC.2.2.2.2.2.2.2.1 hW h60) rfl rfl (Nat.le_of_ble_eq_true rfl) ⟨Nat.zero_le _, Nat.zero_le _⟩ ?_
    refine g_iinc hC dX12_towers_63 rfl (q := 3) rfl (w := (v4 + (1 : Int32))) rfl (by decide) (lv' := [(4, .int (v4 + (1 : Int32))), (0, .ref (mB E + 75)), (2, .int v2), (3, .int v3)]) rfl ?_
    refine g_goto hC dX12_towers_66 (tgt := 37) (by decide) ?_
    refine g_lv [1, 2, 3, 0] rfl ?_
    exact hk37_ v2 v3 (v4 + (1 : Int32)) r60 h
noncomputable def w_X12_towers_37 (Fu : Nat)  (N : Nat) (v2 : Int32) (v3 : Int32) (v4 : Int32) (I : mIT) : Option (Int32 × mIT) :=
  loopF (fun self (s : Int32 × Int32 × Int32 × mIT) => b_X12_towers_37 Fu self s.1 s.2.1 s.2.2.1 s.2.2.2) N (v2, v3, v4, I)
theorem wo_X12_towers_37 {X : mXT} {E : mEn} {Fu : Nat} {R : mRT} {L : mLT}  (hC : mC X E mX12_towers RX12 cX12_towers) (hW : mWd R)   {out : Int32 × mIT} (hE : mEd X E 0 0 (mSame (some (.int (out.1))) 106 1 (out.2) R L))  (N : Nat) (v2 : Int32) (v3 : Int32) (v4 : Int32) (I : mIT) (h : w_X12_towers_37 Fu  N v2 v3 v4 I = some out) : mG X E 37 [(0, .ref (mB E + 75)), (2, .int v2), (3, .int v3), (4, .int v4)] [] 106 1 I R L 0 0 :=
  loopF_ok (Gd := fun s : Int32 × Int32 × Int32 × mIT => mG X E 37 [(0, .ref (mB E + 75)), (2, .int s.1), (3, .int s.2.1), (4, .int s.2.2.1)] [] 106 1 s.2.2.2 R L 0 0) (fun self hs s h => bo_X12_towers_37 hC hW hE self (fun v2 v3 v4 I h => hs (v2, v3, v4, I) h) s.1 s.2.1 s.2.2.1 s.2.2.2 h) N (v2, v3, v4, I) h
noncomputable def f_X12_towers (Fu : Nat) (I : mIT) (v1 : Int32) (v2 : Int32) (v3 : Int32) : Option (Int32 × mIT) :=
  oB (f_X12_isWhat Fu (mU I 75 0 (0 : Int32)) v3 (2 : Int32)) (fun r8 => if r8.1 = 0 then (some ((0 : Int32), r8.2)) else (oB (f_X12_isDays Fu r8.2 v2 (2 : Int32)) (fun r17 => if r17.1 = 0 then (some ((0 : Int32), r17.2)) else (oB (f_X12_tries Fu r17.2) (fun r26 => w_X12_towers_37 Fu Fu v2 v3 (0 : Int32) (mU r26 75 59 v1))))))
set_option maxRecDepth 20000 in
theorem ok_X12_towers {l : Launch} {E : mEn} {Fu : Nat} {I : mIT} {R : mRT} {L : mLT} {v1 : Int32} {v2 : Int32} {v3 : Int32} (hst : l.stackTraces = false) (hW : mWd R)  {out : Int32 × mIT} (h : f_X12_towers Fu I v1 v2 v3 = some out) : mOk l E mX12_towers [.ref (mB E + 75), .int v1, .int v2, .int v3] 106 1 I R L 0 0 (mSame (some (.int (out.1))) 106 1 (out.2) R L) := by
  refine mOk_of hst (by decide) (Nat.le_of_ble_eq_true rfl) (fun X hC hE _ => ?_)
  have hC : mC X E mX12_towers RX12 cX12_towers := hC
  show mG X E 0 [(0, .ref (mB E + 75)), (1, .int v1), (2, .int v2), (3, .int v3)] [] 106 1 I R L 0 0
  unfold f_X12_towers at h
  refine g_aload_n hC dX12_towers_0 rfl (q := 0) rfl ?_
  refine g_iconst hC dX12_towers_1 (v := (0 : Int32)) (by decide) ?_
  refine g_puti hC fd_RX12_114 rfl (by decide) rfl dX12_towers_2 (nm_e ?_)
  refine g_aload_n hC dX12_towers_5 rfl (q := 0) rfl ?_
  refine g_iload_n hC dX12_towers_6 rfl (q := 3) rfl ?_
  refine g_iconst hC dX12_towers_7 (v := (2 : Int32)) (by decide) ?_
  obtain ⟨r8, h8, h⟩ := oB_some h
  refine g_cV1 hC cv_X12_isWhat wd_2038 ⟨Nat.le_of_ble_eq_true rfl, Nat.le_of_ble_eq_true rfl⟩ rfl (by decide) dX12_towers_8 (As := [.int v3, .int (2 : Int32)]) (st := []) (ok_X12_isWhat hC.2.2.2.2.2.2.2.1 hW h8) rfl rfl (Nat.le_of_ble_eq_true rfl) ⟨Nat.zero_le _, Nat.zero_le _⟩ ?_
  refine g_if_eq hC dX12_towers_11 (tgt := 23) (by decide) (fun c11 => ?_) (fun c11 => ?_)
  · replace h := (if_pos c11).symm.trans h
    refine g_iconst hC dX12_towers_23 (v := (0 : Int32)) (by decide) ?_
    cases h
    exact g_iret hC hE rfl dX12_towers_24 (Nat.zero_le _) (Nat.zero_le _) ⟨rfl, rfl, rfl, rfl, rfl, rfl⟩
  · replace h := (if_neg c11).symm.trans h
    refine g_aload_n hC dX12_towers_14 rfl (q := 0) rfl ?_
    refine g_iload_n hC dX12_towers_15 rfl (q := 2) rfl ?_
    refine g_iconst hC dX12_towers_16 (v := (2 : Int32)) (by decide) ?_
    obtain ⟨r17, h17, h⟩ := oB_some h
    refine g_cV1 hC cv_X12_isDays wd_2102 ⟨Nat.le_of_ble_eq_true rfl, Nat.le_of_ble_eq_true rfl⟩ rfl (by decide) dX12_towers_17 (As := [.int v2, .int (2 : Int32)]) (st := []) (ok_X12_isDays hC.2.2.2.2.2.2.2.1 hW h17) rfl rfl (Nat.le_of_ble_eq_true rfl) ⟨Nat.zero_le _, Nat.zero_le _⟩ ?_
    refine g_if_ne hC dX12_towers_20 (tgt := 25) (by decide) (fun c20 => ?_) (fun c20 => ?_)
    · replace h := (if_neg c20).symm.trans h
      refine g_aload_n hC dX12_towers_25 rfl (q := 0) rfl ?_
      obtain ⟨r26, h26, h⟩ := oB_some h
      refine g_cV0 hC cv_X12_tries wd_2110 ⟨Nat.le_of_ble_eq_true rfl, Nat.le_of_ble_eq_true rfl⟩ rfl (by decide) dX12_towers_26 (As := []) (st := []) (ok_X12_tries hC.2.2.2.2.2.2.2.1 hW h26) rfl rfl (Nat.le_of_ble_eq_true rfl) ⟨Nat.zero_le _, Nat.zero_le _⟩ ?_
      refine g_aload_n hC dX12_towers_29 rfl (q := 0) rfl ?_
      refine g_iload_n hC dX12_towers_30 rfl (q := 1) rfl ?_
      refine g_puti hC fd_RX12_442 rfl (by decide) rfl dX12_towers_31 (nm_e ?_)
      refine g_iconst hC dX12_towers_34 (v := (0 : Int32)) (by decide) ?_
      refine g_istore hC dX12_towers_35 rfl (by decide) (lv' := [(4, .int (0 : Int32)), (0, .ref (mB E + 75)), (1, .int v1), (2, .int v2), (3, .int v3)]) rfl ?_
      refine g_lv [1, 3, 4, 0] rfl ?_
      exact wo_X12_towers_37 hC hW hE Fu (v2) (v3) ((0 : Int32)) ((mU r26 75 59 v1)) h
    · replace h := (if_pos c20).symm.trans h
      refine g_iconst hC dX12_towers_23 (v := (0 : Int32)) (by decide) ?_
      cases h
      exact g_iret hC hE rfl dX12_towers_24 (Nat.zero_le _) (Nat.zero_le _) ⟨rfl, rfl, rfl, rfl, rfl, rfl⟩
noncomputable def b_X12_tune_22 (Fu : Nat)  (v1 : Int32) (I : mIT) : Option (Int32 × mIT) :=
  oB (f_X12_right Fu I (0 : Int32) (1 : Int32)) (fun r24 => if r24.1 = 0 then (some ((0 : Int32), r24.2)) else (oG (inB v1 8) (some ((r24.2 78 (v1).toNatClampNeg), r24.2))))
set_option maxRecDepth 20000 in
theorem bo_X12_tune_22 {X : mXT} {E : mEn} {Fu : Nat} {R : mRT} {L : mLT}  (hC : mC X E mX12_tune RX12 cX12_tune) (hW : mWd R)   {out : Int32 × mIT} (hE : mEd X E 0 0 (mSame (some (.int (out.1))) 106 1 (out.2) R L))  (v1 : Int32) (I : mIT) (h : b_X12_tune_22 Fu  v1 I = some out) : mG X E 22 [(0, .ref (mB E + 75)), (1, .int v1)] [.ref (mB E + 75)] 106 1 I R L 0 0 := by
  unfold b_X12_tune_22 at h
  refine g_iconst hC dX12_tune_22 (v := (0 : Int32)) (by decide) ?_
  refine g_iconst hC dX12_tune_23 (v := (1 : Int32)) (by decide) ?_
  obtain ⟨r24, h24, h⟩ := oB_some h
  refine g_cV1 hC cv_X12_right wd_1851 ⟨Nat.le_of_ble_eq_true rfl, Nat.le_of_ble_eq_true rfl⟩ rfl (by decide) dX12_tune_24 (As := [.int (0 : Int32), .int (1 : Int32)]) (st := []) (ok_X12_right hC.2.2.2.2.2.2.2.1 hW h24) rfl rfl (Nat.le_of_ble_eq_true rfl) ⟨Nat.zero_le _, Nat.zero_le _⟩ ?_
  refine g_if_eq hC dX12_tune_27 (tgt := 39) (by decide) (fun c27 => ?_) (fun c27 => ?_)
  · replace h := (if_pos c27).symm.trans h
    refine g_iconst hC dX12_tune_39 (v := (0 : Int32)) (by decide) ?_
    cases h
    exact g_iret hC hE rfl dX12_tune_40 (Nat.zero_le _) (Nat.zero_le _) ⟨rfl, rfl, rfl, rfl, rfl, rfl⟩
  · replace h := (if_neg c27).symm.trans h
    refine g_aload_n hC dX12_tune_30 rfl (q := 0) rfl ?_
    refine g_getr hC fd_RX12_26 rfl (by decide) (C0 := "") (t0 := _) (Or.inr rfl) (rr_75_10 hW.1) dX12_tune_31 ?_
    refine g_iload_n hC dX12_tune_34 rfl (q := 1) rfl ?_
    obtain ⟨g35, h⟩ := oG_some h
    refine g_iald hC rfl (by decide) (inB_in g35) dX12_tune_35 ?_
    refine g_goto hC dX12_tune_36 (tgt := 40) (by decide) ?_
    cases h
    exact g_iret hC hE rfl dX12_tune_40 (Nat.zero_le _) (Nat.zero_le _) ⟨rfl, rfl, rfl, rfl, rfl, rfl⟩
noncomputable def f_X12_tune (Fu : Nat) (I : mIT) (v1 : Int32) : Option (Int32 × mIT) :=
  if v1 < 0 then (b_X12_tune_22 Fu v1 (mU I 75 0 (0 : Int32))) else (if ((mU I 75 0 (0 : Int32)) 75 4) ≤ v1 then (b_X12_tune_22 Fu v1 (mU I 75 0 (0 : Int32))) else (oB (f_X12_right Fu (mU I 75 0 (0 : Int32)) (1 : Int32) (1 : Int32)) (fun r24 => if r24.1 = 0 then (some ((0 : Int32), r24.2)) else (oG (inB v1 8) (some ((r24.2 78 (v1).toNatClampNeg), r24.2))))))
set_option maxRecDepth 20000 in
theorem ok_X12_tune {l : Launch} {E : mEn} {Fu : Nat} {I : mIT} {R : mRT} {L : mLT} {v1 : Int32} (hst : l.stackTraces = false) (hW : mWd R)  {out : Int32 × mIT} (h : f_X12_tune Fu I v1 = some out) : mOk l E mX12_tune [.ref (mB E + 75), .int v1] 106 1 I R L 0 0 (mSame (some (.int (out.1))) 106 1 (out.2) R L) := by
  refine mOk_of hst (by decide) (Nat.le_of_ble_eq_true rfl) (fun X hC hE _ => ?_)
  have hC : mC X E mX12_tune RX12 cX12_tune := hC
  show mG X E 0 [(0, .ref (mB E + 75)), (1, .int v1)] [] 106 1 I R L 0 0
  unfold f_X12_tune at h
  refine g_aload_n hC dX12_tune_0 rfl (q := 0) rfl ?_
  refine g_iconst hC dX12_tune_1 (v := (0 : Int32)) (by decide) ?_
  refine g_puti hC fd_RX12_114 rfl (by decide) rfl dX12_tune_2 (nm_e ?_)
  refine g_aload_n hC dX12_tune_5 rfl (q := 0) rfl ?_
  refine g_iload_n hC dX12_tune_6 rfl (q := 1) rfl ?_
  refine g_if_lt hC dX12_tune_7 (tgt := 22) (by decide) (fun c7 => ?_) (fun c7 => ?_)
  · replace h := (if_pos c7).symm.trans h
    exact bo_X12_tune_22 hC hW hE (v1) ((mU I 75 0 (0 : Int32))) h
  · replace h := (if_neg c7).symm.trans h
    refine g_iload_n hC dX12_tune_10 rfl (q := 1) rfl ?_
    refine g_aload_n hC dX12_tune_11 rfl (q := 0) rfl ?_
    refine g_geti hC fd_RX12_295 rfl (by decide) (Or.inl rfl) dX12_tune_12 ?_
    refine g_ic_ge hC dX12_tune_15 (tgt := 22) (by decide) (fun c15 => ?_) (fun c15 => ?_)
    · replace h := (if_pos c15).symm.trans h
      exact bo_X12_tune_22 hC hW hE (v1) ((mU I 75 0 (0 : Int32))) h
    · replace h := (if_neg c15).symm.trans h
      refine g_iconst hC dX12_tune_18 (v := (1 : Int32)) (by decide) ?_
      refine g_goto hC dX12_tune_19 (tgt := 23) (by decide) ?_
      refine g_iconst hC dX12_tune_23 (v := (1 : Int32)) (by decide) ?_
      obtain ⟨r24, h24, h⟩ := oB_some h
      refine g_cV1 hC cv_X12_right wd_1851 ⟨Nat.le_of_ble_eq_true rfl, Nat.le_of_ble_eq_true rfl⟩ rfl (by decide) dX12_tune_24 (As := [.int (1 : Int32), .int (1 : Int32)]) (st := []) (ok_X12_right hC.2.2.2.2.2.2.2.1 hW h24) rfl rfl (Nat.le_of_ble_eq_true rfl) ⟨Nat.zero_le _, Nat.zero_le _⟩ ?_
      refine g_if_eq hC dX12_tune_27 (tgt := 39) (by decide) (fun c27 => ?_) (fun c27 => ?_)
      · replace h := (if_pos c27).symm.trans h
        refine g_iconst hC dX12_tune_39 (v := (0 : Int32)) (by decide) ?_
        cases h
        exact g_iret hC hE rfl dX12_tune_40 (Nat.zero_le _) (Nat.zero_le _) ⟨rfl, rfl, rfl, rfl, rfl, rfl⟩
      · replace h := (if_neg c27).symm.trans h
        refine g_aload_n hC dX12_tune_30 rfl (q := 0) rfl ?_
        refine g_getr hC fd_RX12_26 rfl (by decide) (C0 := "") (t0 := _) (Or.inr rfl) (rr_75_10 hW.1) dX12_tune_31 ?_
        refine g_iload_n hC dX12_tune_34 rfl (q := 1) rfl ?_
        obtain ⟨g35, h⟩ := oG_some h
        refine g_iald hC rfl (by decide) (inB_in g35) dX12_tune_35 ?_
        refine g_goto hC dX12_tune_36 (tgt := 40) (by decide) ?_
        cases h
        exact g_iret hC hE rfl dX12_tune_40 (Nat.zero_le _) (Nat.zero_le _) ⟨rfl, rfl, rfl, rfl, rfl, rfl⟩
noncomputable def b_X12_undo_26 (Fu : Nat) (k26_ : Int32 × mIT → Option (Int32 × mIT)) (v1 : Int32) (I : mIT) : Option (Int32 × mIT) :=
  if (53 : Int32) ≤ v1 then (some ((I 75 44), I)) else (oG (inB (((53 : Int32) * (I 75 44)) + v1) 2120) (oG (inB v1 106) (k26_ ((v1 + (1 : Int32)), (mU I 89 (v1).toNatClampNeg (I 90 ((((53 : Int32) * (I 75 44)) + v1)).toNatClampNeg))))))
set_option maxRecDepth 20000 in
theorem bo_X12_undo_26 {X : mXT} {E : mEn} {Fu : Nat} {R : mRT} {L : mLT}  (hC : mC X E mX12_undo RX12 cX12_undo) (hW : mWd R)   {out : Int32 × mIT} (hE : mEd X E 0 0 (mSame (some (.int (out.1))) 106 1 (out.2) R L)) (k26_ : Int32 × mIT → Option (Int32 × mIT)) (hk26_ : ∀ (v1 : Int32) (I : mIT),  k26_ (v1, I) = some out → mG X E 26 [(0, .ref (mB E + 75)), (1, .int v1)] [] 106 1 I R L 0 0) (v1 : Int32) (I : mIT) (h : b_X12_undo_26 Fu k26_ v1 I = some out) : mG X E 26 [(0, .ref (mB E + 75)), (1, .int v1)] [] 106 1 I R L 0 0 := by
  unfold b_X12_undo_26 at h
  refine g_iload_n hC dX12_undo_26 rfl (q := 1) rfl ?_
  refine g_bipush hC dX12_undo_27 (v := (53 : Int32)) (by decide) ?_
  refine g_ic_ge hC dX12_undo_29 (tgt := 58) (by decide) (fun c29 => ?_) (fun c29 => ?_)
  · replace h := (if_pos c29).symm.trans h
    refine g_aload_n hC dX12_undo_58 rfl (q := 0) rfl ?_
    refine g_geti hC fd_RX12_305 rfl (by decide) (Or.inl rfl) dX12_undo_59 ?_
    cases h
    exact g_iret hC hE rfl dX12_undo_62 (Nat.zero_le _) (Nat.zero_le _) ⟨rfl, rfl, rfl, rfl, rfl, rfl⟩
  · replace h := (if_neg c29).symm.trans h
    refine g_aload_n hC dX12_undo_32 rfl (q := 0) rfl ?_
    refine g_getr hC fd_RX12_63 rfl (by decide) (C0 := "") (t0 := _) (Or.inr rfl) (rr_75_42 hW.1) dX12_undo_33 ?_
    refine g_iload_n hC dX12_undo_36 rfl (q := 1) rfl ?_
    refine g_aload_n hC dX12_undo_37 rfl (q := 0) rfl ?_
    refine g_getr hC fd_RX12_66 rfl (by decide) (C0 := "") (t0 := _) (Or.inr rfl) (rr_75_43 hW.1) dX12_undo_38 ?_
    refine g_bipush hC dX12_undo_41 (v := (53 : Int32)) (by decide) ?_
    refine g_aload_n hC dX12_undo_43 rfl (q := 0) rfl ?_
    refine g_geti hC fd_RX12_305 rfl (by decide) (Or.inl rfl) dX12_undo_44 ?_
    refine g_imul hC dX12_undo_47 ?_
    refine g_iload_n hC dX12_undo_48 rfl (q := 1) rfl ?_
    refine g_iadd hC dX12_undo_49 ?_
    obtain ⟨g50, h⟩ := oG_some h
    refine g_iald hC rfl (by decide) (inB_in g50) dX12_undo_50 ?_
    obtain ⟨g51, h⟩ := oG_some h
    refine g_iast hC rfl (by decide) (inB_in g51) dX12_undo_51 (nm_e ?_)
    refine g_iinc hC dX12_undo_52 rfl (q := 1) rfl (w := (v1 + (1 : Int32))) rfl (by decide) (lv' := [(1, .int (v1 + (1 : Int32))), (0, .ref (mB E + 75))]) rfl ?_
    refine g_goto hC dX12_undo_55 (tgt := 26) (by decide) ?_
    refine g_lv [1, 0] rfl ?_
    exact hk26_ (v1 + (1 : Int32)) (mU I 89 (v1).toNatClampNeg (I 90 ((((53 : Int32) * (I 75 44)) + v1)).toNatClampNeg)) h
noncomputable def w_X12_undo_26 (Fu : Nat)  (N : Nat) (v1 : Int32) (I : mIT) : Option (Int32 × mIT) :=
  loopF (fun self (s : Int32 × mIT) => b_X12_undo_26 Fu self s.1 s.2) N (v1, I)
theorem wo_X12_undo_26 {X : mXT} {E : mEn} {Fu : Nat} {R : mRT} {L : mLT}  (hC : mC X E mX12_undo RX12 cX12_undo) (hW : mWd R)   {out : Int32 × mIT} (hE : mEd X E 0 0 (mSame (some (.int (out.1))) 106 1 (out.2) R L))  (N : Nat) (v1 : Int32) (I : mIT) (h : w_X12_undo_26 Fu  N v1 I = some out) : mG X E 26 [(0, .ref (mB E + 75)), (1, .int v1)] [] 106 1 I R L 0 0 :=
  loopF_ok (Gd := fun s : Int32 × mIT => mG X E 26 [(0, .ref (mB E + 75)), (1, .int s.1)] [] 106 1 s.2 R L 0 0) (fun self hs s h => bo_X12_undo_26 hC hW hE self (fun v1 I h => hs (v1, I) h) s.1 s.2 h) N (v1, I) h
noncomputable def f_X12_undo (Fu : Nat) (I : mIT)  : Option (Int32 × mIT) :=
  if ((mU I 75 0 (0 : Int32)) 75 44) = 0 then (some ((-1 : Int32), (mU I 75 0 (0 : Int32)))) else (w_X12_undo_26 Fu Fu (0 : Int32) (mU (mU I 75 0 (0 : Int32)) 75 44 (((mU I 75 0 (0 : Int32)) 75 44) - (1 : Int32))))
set_option maxRecDepth 20000 in
theorem ok_X12_undo {l : Launch} {E : mEn} {Fu : Nat} {I : mIT} {R : mRT} {L : mLT}  (hst : l.stackTraces = false) (hW : mWd R)  {out : Int32 × mIT} (h : f_X12_undo Fu I  = some out) : mOk l E mX12_undo [.ref (mB E + 75)] 106 1 I R L 0 0 (mSame (some (.int (out.1))) 106 1 (out.2) R L) := by
  refine mOk_of hst (by decide) (Nat.le_of_ble_eq_true rfl) (fun X hC hE _ => ?_)
  have hC : mC X E mX12_undo RX12 cX12_undo := hC
  show mG X E 0 [(0, .ref (mB E + 75))] [] 106 1 I R L 0 0
  unfold f_X12_undo at h
  refine g_aload_n hC dX12_undo_0 rfl (q := 0) rfl ?_
  refine g_iconst hC dX12_undo_1 (v := (0 : Int32)) (by decide) ?_
  refine g_puti hC fd_RX12_114 rfl (by decide) rfl dX12_undo_2 (nm_e ?_)
  refine g_aload_n hC dX12_undo_5 rfl (q := 0) rfl ?_
  refine g_geti hC fd_RX12_305 rfl (by decide) (Or.inl rfl) dX12_undo_6 ?_
  refine g_if_ne hC dX12_undo_9 (tgt := 14) (by decide) (fun c9 => ?_) (fun c9 => ?_)
  · replace h := (if_neg c9).symm.trans h
    refine g_aload_n hC dX12_undo_14 rfl (q := 0) rfl ?_
    refine g_dup hC dX12_undo_15 rfl ?_
    refine g_geti hC fd_RX12_305 rfl (by decide) (Or.inl rfl) dX12_undo_16 ?_
    refine g_iconst hC dX12_undo_19 (v := (1 : Int32)) (by decide) ?_
    refine g_isub hC dX12_undo_20 ?_
    refine g_puti hC fd_RX12_305 rfl (by decide) rfl dX12_undo_21 (nm_e ?_)
    refine g_iconst hC dX12_undo_24 (v := (0 : Int32)) (by decide) ?_
    refine g_istore_n hC dX12_undo_25 rfl rfl (by decide) (lv' := [(1, .int (0 : Int32)), (0, .ref (mB E + 75))]) rfl ?_
    refine g_lv [1, 0] rfl ?_
    exact wo_X12_undo_26 hC hW hE Fu ((0 : Int32)) ((mU (mU I 75 0 (0 : Int32)) 75 44 (((mU I 75 0 (0 : Int32)) 75 44) - (1 : Int32)))) h
  · replace h := (if_pos c9).symm.trans h
    refine g_iconst hC dX12_undo_12 (v := (-1 : Int32)) (by decide) ?_
    cases h
    exact g_iret hC hE rfl dX12_undo_13 (Nat.zero_le _) (Nat.zero_le _) ⟨rfl, rfl, rfl, rfl, rfl, rfl⟩
noncomputable def b_X12_without_34 (Fu : Nat) (k34_ : Int32 × Int32 × mIT → Option (Int32 × mIT)) (v2 : Int32) (v3 : Int32) (I : mIT) : Option (Int32 × mIT) :=
  if (60 : Int32) < v3 then (some (v2, I)) else (oB (f_X12_notesIn Fu I (53 : Int32)) (fun r44 => oB (f_X12_hasTune Fu r44.2 r44.1) (fun r47 => if r47 = 0 then (oB (f_X12_dayGoes Fu r44.2 (53 : Int32)) (fun r62 => k34_ (v2, (v3 + (1 : Int32)), r62))) else (oB (f_X12_dayGoes Fu r44.2 (53 : Int32)) (fun r62 => k34_ (v3, (v3 + (1 : Int32)), r62))))))
set_option maxRecDepth 20000 in
theorem bo_X12_without_34 {X : mXT} {E : mEn} {Fu : Nat} {R : mRT} {L : mLT}  (hC : mC X E mX12_without RX12 cX12_without) (hW : mWd R)   {out : Int32 × mIT} (hE : mEd X E 0 0 (mSame (some (.int (out.1))) 106 1 (out.2) R L)) (k34_ : Int32 × Int32 × mIT → Option (Int32 × mIT)) (hk34_ : ∀ (v2 : Int32) (v3 : Int32) (I : mIT),  k34_ (v2, v3, I) = some out → mG X E 34 [(0, .ref (mB E + 75)), (2, .int v2), (3, .int v3)] [] 106 1 I R L 0 0) (v2 : Int32) (v3 : Int32) (I : mIT) (h : b_X12_without_34 Fu k34_ v2 v3 I = some out) : mG X E 34 [(0, .ref (mB E + 75)), (2, .int v2), (3, .int v3)] [] 106 1 I R L 0 0 := by
  unfold b_X12_without_34 at h
  refine g_iload_n hC dX12_without_34 rfl (q := 2) rfl ?_
  refine g_bipush hC dX12_without_35 (v := (60 : Int32)) (by decide) ?_
  refine g_ic_gt hC dX12_without_37 (tgt := 71) (by decide) (fun c37 => ?_) (fun c37 => ?_)
  · replace h := (if_pos c37).symm.trans h
    refine g_iload_n hC dX12_without_71 rfl (q := 1) rfl ?_
    cases h
    exact g_iret hC hE rfl dX12_without_72 (Nat.zero_le _) (Nat.zero_le _) ⟨rfl, rfl, rfl, rfl, rfl, rfl⟩
  · replace h := (if_neg c37).symm.trans h
    refine g_aload_n hC dX12_without_40 rfl (q := 0) rfl ?_
    refine g_aload_n hC dX12_without_41 rfl (q := 0) rfl ?_
    refine g_bipush hC dX12_without_42 (v := (53 : Int32)) (by decide) ?_
    obtain ⟨r44, h44, h⟩ := oB_some h
    refine g_cV1 hC cv_X12_notesIn wd_2008 ⟨Nat.le_of_ble_eq_true rfl, Nat.le_of_ble_eq_true rfl⟩ rfl (by decide) dX12_without_44 (As := [.int (53 : Int32)]) (st := [.ref (mB E + 75)]) (ok_X12_notesIn hC.2.2.2.2.2.2.2.1 hW h44) rfl rfl (Nat.le_of_ble_eq_true rfl) ⟨Nat.zero_le _, Nat.zero_le _⟩ ?_
    obtain ⟨r47, h47, h⟩ := oB_some h
    refine g_cV1 hC cv_X12_hasTune wd_2126 ⟨Nat.le_of_ble_eq_true rfl, Nat.le_of_ble_eq_true rfl⟩ rfl (by decide) dX12_without_47 (As := [.int r44.1]) (st := []) (ok_X12_hasTune hC.2.2.2.2.2.2.2.1 hW h47) rfl rfl (Nat.le_of_ble_eq_true rfl) ⟨Nat.zero_le _, Nat.zero_le _⟩ ?_
    refine g_if_eq hC dX12_without_50 (tgt := 57) (by decide) (fun c50 => ?_) (fun c50 => ?_)
    · replace h := (if_pos c50).symm.trans h
      refine g_iload_n hC dX12_without_57 rfl (q := 1) rfl ?_
      refine g_istore_n hC dX12_without_58 rfl rfl (by decide) (lv' := [(2, .int v2), (0, .ref (mB E + 75)), (3, .int v3)]) rfl ?_
      refine g_aload_n hC dX12_without_59 rfl (q := 1) rfl ?_
      refine g_bipush hC dX12_without_60 (v := (53 : Int32)) (by decide) ?_
      obtain ⟨r62, h62, h⟩ := oB_some h
      refine g_cV0 hC cv_X12_dayGoes wd_2070 ⟨Nat.le_of_ble_eq_true rfl, Nat.le_of_ble_eq_true rfl⟩ rfl (by decide) dX12_without_62 (As := [.int (53 : Int32)]) (st := []) (ok_X12_dayGoes hC.2.2.2.2.2.2.2.1 hW h62) rfl rfl (Nat.le_of_ble_eq_true rfl) ⟨Nat.zero_le _, Nat.zero_le _⟩ ?_
      refine g_iinc hC dX12_without_65 rfl (q := 2) rfl (w := (v3 + (1 : Int32))) rfl (by decide) (lv' := [(3, .int (v3 + (1 : Int32))), (2, .int v2), (0, .ref (mB E + 75))]) rfl ?_
      refine g_goto hC dX12_without_68 (tgt := 34) (by decide) ?_
      refine g_lv [2, 1, 0] rfl ?_
      exact hk34_ v2 (v3 + (1 : Int32)) r62 h
    · replace h := (if_neg c50).symm.trans h
      refine g_iload_n hC dX12_without_53 rfl (q := 2) rfl ?_
      refine g_goto hC dX12_without_54 (tgt := 58) (by decide) ?_
      refine g_istore_n hC dX12_without_58 rfl rfl (by decide) (lv' := [(2, .int v3), (0, .ref (mB E + 75)), (3, .int v3)]) rfl ?_
      refine g_aload_n hC dX12_without_59 rfl (q := 1) rfl ?_
      refine g_bipush hC dX12_without_60 (v := (53 : Int32)) (by decide) ?_
      obtain ⟨r62, h62, h⟩ := oB_some h
      refine g_cV0 hC cv_X12_dayGoes wd_2070 ⟨Nat.le_of_ble_eq_true rfl, Nat.le_of_ble_eq_true rfl⟩ rfl (by decide) dX12_without_62 (As := [.int (53 : Int32)]) (st := []) (ok_X12_dayGoes hC.2.2.2.2.2.2.2.1 hW h62) rfl rfl (Nat.le_of_ble_eq_true rfl) ⟨Nat.zero_le _, Nat.zero_le _⟩ ?_
      refine g_iinc hC dX12_without_65 rfl (q := 2) rfl (w := (v3 + (1 : Int32))) rfl (by decide) (lv' := [(3, .int (v3 + (1 : Int32))), (2, .int v3), (0, .ref (mB E + 75))]) rfl ?_
      refine g_goto hC dX12_without_68 (tgt := 34) (by decide) ?_
      refine g_lv [2, 1, 0] rfl ?_
      exact hk34_ v3 (v3 + (1 : Int32)) r62 h
noncomputable def w_X12_without_34 (Fu : Nat)  (N : Nat) (v2 : Int32) (v3 : Int32) (I : mIT) : Option (Int32 × mIT) :=
  loopF (fun self (s : Int32 × Int32 × mIT) => b_X12_without_34 Fu self s.1 s.2.1 s.2.2) N (v2, v3, I)
theorem wo_X12_without_34 {X : mXT} {E : mEn} {Fu : Nat} {R : mRT} {L : mLT}  (hC : mC X E mX12_without RX12 cX12_without) (hW : mWd R)   {out : Int32 × mIT} (hE : mEd X E 0 0 (mSame (some (.int (out.1))) 106 1 (out.2) R L))  (N : Nat) (v2 : Int32) (v3 : Int32) (I : mIT) (h : w_X12_without_34 Fu  N v2 v3 I = some out) : mG X E 34 [(0, .ref (mB E + 75)), (2, .int v2), (3, .int v3)] [] 106 1 I R L 0 0 :=
  loopF_ok (Gd := fun s : Int32 × Int32 × mIT => mG X E 34 [(0, .ref (mB E + 75)), (2, .int s.1), (3, .int s.2.1)] [] 106 1 s.2.2 R L 0 0) (fun self hs s h => bo_X12_without_34 hC hW hE self (fun v2 v3 I h => hs (v2, v3, I) h) s.1 s.2.1 s.2.2 h) N (v2, v3, I) h
noncomputable def f_X12_without (Fu : Nat) (I : mIT) (v1 : Int32) : Option (Int32 × mIT) :=
  oB (f_X12_isRoot Fu (mU I 75 0 (0 : Int32)) v1) (fun r7 => if r7.1 = 0 then (some ((0 : Int32), r7.2)) else (oB (f_X12_tries Fu r7.2) (fun r18 => oG (inB ((84 : Int32) + v1) 106) (w_X12_without_34 Fu Fu (-1 : Int32) (0 : Int32) (mU r18 89 (((84 : Int32) + v1)).toNatClampNeg (-2 : Int32))))))
set_option maxRecDepth 20000 in
theorem ok_X12_without {l : Launch} {E : mEn} {Fu : Nat} {I : mIT} {R : mRT} {L : mLT} {v1 : Int32} (hst : l.stackTraces = false) (hW : mWd R)  {out : Int32 × mIT} (h : f_X12_without Fu I v1 = some out) : mOk l E mX12_without [.ref (mB E + 75), .int v1] 106 1 I R L 0 0 (mSame (some (.int (out.1))) 106 1 (out.2) R L) := by
  refine mOk_of hst (by decide) (Nat.le_of_ble_eq_true rfl) (fun X hC hE _ => ?_)
  have hC : mC X E mX12_without RX12 cX12_without := hC
  show mG X E 0 [(0, .ref (mB E + 75)), (1, .int v1)] [] 106 1 I R L 0 0
  unfold f_X12_without at h
  refine g_aload_n hC dX12_without_0 rfl (q := 0) rfl ?_
  refine g_iconst hC dX12_without_1 (v := (0 : Int32)) (by decide) ?_
  refine g_puti hC fd_RX12_114 rfl (by decide) rfl dX12_without_2 (nm_e ?_)
  refine g_aload_n hC dX12_without_5 rfl (q := 0) rfl ?_
  refine g_iload_n hC dX12_without_6 rfl (q := 1) rfl ?_
  obtain ⟨r7, h7, h⟩ := oB_some h
  refine g_cV1 hC cv_X12_isRoot wd_2034 ⟨Nat.le_of_ble_eq_true rfl, Nat.le_of_ble_eq_true rfl⟩ rfl (by decide) dX12_without_7 (As := [.int v1]) (st := []) (ok_X12_isRoot hC.2.2.2.2.2.2.2.1 hW h7) rfl rfl (Nat.le_of_ble_eq_true rfl) ⟨Nat.zero_le _, Nat.zero_le _⟩ ?_
  refine g_if_ne hC dX12_without_10 (tgt := 15) (by decide) (fun c10 => ?_) (fun c10 => ?_)
  · replace h := (if_neg c10).symm.trans h
    refine g_iconst hC dX12_without_15 (v := (-1 : Int32)) (by decide) ?_
    refine g_istore_n hC dX12_without_16 rfl rfl (by decide) (lv' := [(2, .int (-1 : Int32)), (0, .ref (mB E + 75)), (1, .int v1)]) rfl ?_
    refine g_aload_n hC dX12_without_17 rfl (q := 1) rfl ?_
    obtain ⟨r18, h18, h⟩ := oB_some h
    refine g_cV0 hC cv_X12_tries wd_2110 ⟨Nat.le_of_ble_eq_true rfl, Nat.le_of_ble_eq_true rfl⟩ rfl (by decide) dX12_without_18 (As := []) (st := []) (ok_X12_tries hC.2.2.2.2.2.2.2.1 hW h18) rfl rfl (Nat.le_of_ble_eq_true rfl) ⟨Nat.zero_le _, Nat.zero_le _⟩ ?_
    refine g_aload_n hC dX12_without_21 rfl (q := 1) rfl ?_
    refine g_getr hC fd_RX12_63 rfl (by decide) (C0 := "") (t0 := _) (Or.inr rfl) (rr_75_42 hW.1) dX12_without_22 ?_
    refine g_bipush hC dX12_without_25 (v := (84 : Int32)) (by decide) ?_
    refine g_iload_n hC dX12_without_27 rfl (q := 2) rfl ?_
    refine g_iadd hC dX12_without_28 ?_
    refine g_bipush hC dX12_without_29 (v := (-2 : Int32)) (by decide) ?_
    obtain ⟨g31, h⟩ := oG_some h
    refine g_iast hC rfl (by decide) (inB_in g31) dX12_without_31 (nm_e ?_)
    refine g_iconst hC dX12_without_32 (v := (0 : Int32)) (by decide) ?_
    refine g_istore_n hC dX12_without_33 rfl rfl (by decide) (lv' := [(3, .int (0 : Int32)), (2, .int (-1 : Int32)), (0, .ref (mB E + 75)), (1, .int v1)]) rfl ?_
    refine g_lv [2, 1, 0] rfl ?_
    exact wo_X12_without_34 hC hW hE Fu ((-1 : Int32)) ((0 : Int32)) ((mU r18 89 (((84 : Int32) + v1)).toNatClampNeg (-2 : Int32))) h
  · replace h := (if_pos c10).symm.trans h
    refine g_iconst hC dX12_without_13 (v := (0 : Int32)) (by decide) ?_
    cases h
    exact g_iret hC hE rfl dX12_without_14 (Nat.zero_le _) (Nat.zero_le _) ⟨rfl, rfl, rfl, rfl, rfl, rfl⟩
