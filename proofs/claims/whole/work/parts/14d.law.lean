def mLaw : mMt := (x, code, 7, some .boolean, 15, 570)
theorem lg_same (a : Int64) : lg_cmp a a = 0 := by
  unfold lg_cmp
  rw [if_neg (Int64.lt_irrefl), if_pos rfl]
section LAWR
variable {X : mXT} {E : mEn} {M : mMt} {own : String} {cc : ByteArray} {pc : Nat} {lv : List (Nat × Value)} {st : List Value} {n x : Nat} {I : mIT} {R : mRT} {L : mLT} {k z : Nat}
theorem g_scr (hC : mC X E M own cc) {b Ln : Nat} {xs : Nat → Int32} (hX : va_X b Ln xs X.2.2.2.1 E.2.2.1 ∧ b < mB E) {i : Int32} (hi : vp_in i Ln) (hd : decode cc pc = .ok (.iaload, 1)) (kk : mG X E (pc + 1) lv (.int (xs i.toNatClampNeg) :: st) n x I R L k z) : mG X E pc lv (.int i :: .ref b :: st) n x I R L k z := by
  intro ls H locs hl hR ho
  obtain ⟨⟨scr, h1, h2, h3, h4, h5⟩, hb⟩ := hX
  have hlt : i.toNatClampNeg < Ln := Nat.not_le.mp fun q => hi (Or.inr q)
  exact W.iald (v := .int (xs i.toNatClampNeg)) hC.1.1 hC.1.2 (by rw [hR.2.1 b hb]; exact h1) h2 h3 (by rw [h4]; exact hi) (by rw [h5 _ hlt]) rfl rfl hd (kk ls H locs hl hR ho)
theorem g_scl (hC : mC X E M own cc) {b Ln : Nat} {xs : Nat → Int32} (hX : va_X b Ln xs X.2.2.2.1 E.2.2.1 ∧ b < mB E) (hd : decode cc pc = .ok (.arraylength, 1)) (kk : mG X E (pc + 1) lv (.int (Int32.ofNat Ln) :: st) n x I R L k z) : mG X E pc lv (.ref b :: st) n x I R L k z := by
  intro ls H locs hl hR ho
  obtain ⟨⟨scr, h1, h2, h3, h4, h5⟩, hb⟩ := hX
  exact W.alen (n := Int32.ofNat Ln) hC.1.1 hC.1.2 (by rw [hR.2.1 b hb]; exact h1) h2 (by rw [h4]) rfl rfl hd (kk ls H locs hl hR ho)
theorem g_cW (hC : mC X E M own cc) (hN : va_Nc "java/lang/IllegalArgumentException" "java/util/NoSuchElementException" X.2.2.2.1) {M2 : mMt} {hh : List (Nat × Nat × Nat × Nat)} {w : Value} {n1 x1 : Nat} {I1 : mIT} {R1 : mRT} {L1 : mLT} {idx na : Nat} {As st0 : List Value} (hcd : Cond.codeWith M2.1 M2.2.1 M2.2.2.1 M2.2.2.2.1 hh ∈ tbG) (hini : Cond.initialized M2.1.cls ∈ tbG) (hstt : Cond.static M2.1 ∈ tbG) (hlk : Cond.methodLink own idx M2.1 ∈ tbG) (hd3 : M2.1.cls ≠ "java/lang/invoke/MethodHandle" ∧ M2.1.cls ≠ "java/lang/invoke/VarHandle" ∧ (parseMethodDescriptor M2.1.desc).map (fun d => d.parameters.length) = some na) (hro : mRo M M2) (hd : decode cc pc = .ok (.invokestatic idx, 3)) (hO : mOw X.2.1 E M2 hh As n x I R L 1 6 (mSame (some w) n1 x1 I1 R1 L1)) (hA : As.length = na) (hst : st0 = As.reverse ++ st) (hs8 : (st.map fun v => v.category).sum ≤ 8) (hmc : k + 1 ≤ X.2.2.2.2.2.2.2.2.2.2.1.1 ∧ z + 6 ≤ X.2.2.2.2.2.2.2.2.2.2.1.2) (kk : mG X E (pc + 3) lv (w :: st) n1 x1 I1 R1 L1 (k + 1) (z + 6)) : mG X E pc lv st0 n x I R L k z := by
  intro ls H locs hl hR ho
  have hg : GoodIn tbG (va_wsS own idx M2.1 (mWw M2 hh)) := fun w hw => by
    have key : ∀ w ∈ tbG, w ∈ tbG ∧ _ := fun w h => ⟨h, good_of_word (List.mem_filter.mp h).2⟩
    simp only [va_wsS, mWw, List.cons_append, List.nil_append, List.mem_cons] at hw
    rcases hw with rfl | rfl | rfl | rfl | h
    · exact key _ hlk
    · exact key _ hstt
    · exact key _ hini
    · exact key _ hcd
    · exact key _ h
  have hbl : FrameBlind (mPw E As n x I R L) := fun a U g mk q => ⟨mBl a U g mk q.1, va_Nc.moved (u := U) (U := U.calling g mk a) (State.WarmedH.refl U).alike q.2⟩
  refine mz_gox (vx_runSX (As := As) (rest := st) ⟨hC.1.1, hC.1.2, hC.2.1.1, hC.2.1.2, hC.2.2.1⟩ hO (vx_cwSW na hC.2.2.1 hg rfl rfl rfl hd3 (by rw [hC.2.2.2.2.2.1]; exact hro)) ⟨hbl, fun U hU hW => ⟨⟨rfl, by rw [hU]; exact hR, hC.2.2.2.1.warm hW⟩, va_Nc.moved hW.alike hN⟩⟩ rfl hA (by rw [hl.1, hC.2.2.2.2.2.1]) hst (lv_room hs8) hd hmc) ho (fun r n' x' I' R' L' H1 locs1 hp h1 h2 => ?_) (fun en q9 ce n' x' I' R' L' H1 locs1 hp h1 h2 hc1 hc2 hc3 => hp.elim)
  obtain ⟨rfl, rfl, rfl, rfl, rfl, rfl⟩ := hp
  exact kk ls H1 locs1 hl h1 h2
theorem g_top {v w : Int32} (e : v = w) (kk : mG X E pc lv (.int w :: st) n x I R L k z) : mG X E pc lv (.int v :: st) n x I R L k z := by
  subst e
  exact kk
end LAWR
def st_feed (Fu : Nat) (I : mIT) (R : mRT) (L : mLT) (a1 : Int32) (a2 : Int32) (a3 : Int32) (a4 : Int32) (a5 : Int32) (P : mIT → mRT → mLT → Prop) : Prop := ∃ o, f_X11_feed Fu I a1 a2 a3 a4 a5 = some o ∧ ∃ o2, f_X12_feed Fu o.2 a1 a2 a3 a4 a5 = some o2 ∧ o.1 = o2.1 ∧ P o2.2 R L
set_option maxRecDepth 20000 in
theorem lc_feed {X : mXT} {E : mEn} (hC : mC X E mLaw RL code) (hN : va_Nc "java/lang/IllegalArgumentException" "java/util/NoSuchElementException" X.2.2.2.1) (hr : X.2.2.2.2.2.2.2.2.2.2.1 = (1147, 45333)) {b Ln : Nat} {xs : Nat → Int32} (hX : va_X b Ln xs X.2.2.2.1 E.2.2.1 ∧ b < mB E) {i : Int32} {Fu : Nat} {I : mIT} {R : mRT} {L : mLT} {k z : Nat} (hW : mWd R) (hk : k + 1 ≤ 1147 ∧ z + 6 ≤ 45333) {a1 : Int32} (hi1 : vp_in (i + 1) Ln) (ha1 : a1 = xs (i + 1).toNatClampNeg) {a2 : Int32} (hi2 : vp_in (i + 2) Ln) (ha2 : a2 = xs (i + 2).toNatClampNeg) {a3 : Int32} (hi3 : vp_in (i + 3) Ln) (ha3 : a3 = xs (i + 3).toNatClampNeg) {a4 : Int32} (hi4 : vp_in (i + 4) Ln) (ha4 : a4 = xs (i + 4).toNatClampNeg) {a5 : Int32} (hi5 : vp_in (i + 5) Ln) (ha5 : a5 = xs (i + 5).toNatClampNeg) {P : mIT → mRT → mLT → Prop} (hP : st_feed Fu I R L a1 a2 a3 a4 a5 P) (kk : ∀ (I' : mIT) (R' : mRT) (L' : mLT), P I' R' L' → mG X E 2418 [(0, .ref b), (1, .ref (mB E + 0)), (2, .ref (mB E + 75)), (3, .ref (mB E + 105)), (4, .int i)] [] 106 1 I' R' L' (k + 1) (z + 6)) : mG X E 240 [(0, .ref b), (1, .ref (mB E + 0)), (2, .ref (mB E + 75)), (3, .ref (mB E + 105)), (4, .int i)] [] 106 1 I R L k z := by
  obtain ⟨o, h1, o2, h2, hP⟩ := hP
  refine g_aload_n hC dL_law_240 (i := 1) rfl (q := 1) rfl ?_
  refine g_aload_n hC dL_law_241 (i := 0) rfl (q := 0) rfl ?_
  refine g_iload hC dL_law_242 (q := 4) rfl ?_
  refine g_iconst hC dL_law_244 (v := (1 : Int32)) (by decide) ?_
  refine g_iadd hC dL_law_245 ?_
  refine g_scr hC hX hi1 dL_law_246 ?_
  rw [← ha1]
  refine g_aload_n hC dL_law_247 (i := 0) rfl (q := 0) rfl ?_
  refine g_iload hC dL_law_248 (q := 4) rfl ?_
  refine g_iconst hC dL_law_250 (v := (2 : Int32)) (by decide) ?_
  refine g_iadd hC dL_law_251 ?_
  refine g_scr hC hX hi2 dL_law_252 ?_
  rw [← ha2]
  refine g_aload_n hC dL_law_253 (i := 0) rfl (q := 0) rfl ?_
  refine g_iload hC dL_law_254 (q := 4) rfl ?_
  refine g_iconst hC dL_law_256 (v := (3 : Int32)) (by decide) ?_
  refine g_iadd hC dL_law_257 ?_
  refine g_scr hC hX hi3 dL_law_258 ?_
  rw [← ha3]
  refine g_aload_n hC dL_law_259 (i := 0) rfl (q := 0) rfl ?_
  refine g_iload hC dL_law_260 (q := 4) rfl ?_
  refine g_iconst hC dL_law_262 (v := (4 : Int32)) (by decide) ?_
  refine g_iadd hC dL_law_263 ?_
  refine g_scr hC hX hi4 dL_law_264 ?_
  rw [← ha4]
  refine g_aload_n hC dL_law_265 (i := 0) rfl (q := 0) rfl ?_
  refine g_iload hC dL_law_266 (q := 4) rfl ?_
  refine g_iconst hC dL_law_268 (v := (5 : Int32)) (by decide) ?_
  refine g_iadd hC dL_law_269 ?_
  refine g_scr hC hX hi5 dL_law_270 ?_
  rw [← ha5]
  refine g_cV1 hC cv_X11_feed wd_519 ⟨Nat.le_of_ble_eq_true rfl, Nat.le_of_ble_eq_true rfl⟩ rfl (by decide) dL_law_271 (As := [.int a1, .int a2, .int a3, .int a4, .int a5]) (st := []) (ok_X11_feed hC.2.2.2.2.2.2.2.1 hW h1) rfl rfl (Nat.le_of_ble_eq_true rfl) (by rw [hr]; exact ⟨Nat.le_trans (Nat.le_add_right _ _) hk.1, Nat.le_trans (Nat.le_add_right _ _) hk.2⟩) ?_
  refine g_aload_n hC dL_law_274 (i := 2) rfl (q := 2) rfl ?_
  refine g_aload_n hC dL_law_275 (i := 0) rfl (q := 0) rfl ?_
  refine g_iload hC dL_law_276 (q := 4) rfl ?_
  refine g_iconst hC dL_law_278 (v := (1 : Int32)) (by decide) ?_
  refine g_iadd hC dL_law_279 ?_
  refine g_scr hC hX hi1 dL_law_280 ?_
  rw [← ha1]
  refine g_aload_n hC dL_law_281 (i := 0) rfl (q := 0) rfl ?_
  refine g_iload hC dL_law_282 (q := 4) rfl ?_
  refine g_iconst hC dL_law_284 (v := (2 : Int32)) (by decide) ?_
  refine g_iadd hC dL_law_285 ?_
  refine g_scr hC hX hi2 dL_law_286 ?_
  rw [← ha2]
  refine g_aload_n hC dL_law_287 (i := 0) rfl (q := 0) rfl ?_
  refine g_iload hC dL_law_288 (q := 4) rfl ?_
  refine g_iconst hC dL_law_290 (v := (3 : Int32)) (by decide) ?_
  refine g_iadd hC dL_law_291 ?_
  refine g_scr hC hX hi3 dL_law_292 ?_
  rw [← ha3]
  refine g_aload_n hC dL_law_293 (i := 0) rfl (q := 0) rfl ?_
  refine g_iload hC dL_law_294 (q := 4) rfl ?_
  refine g_iconst hC dL_law_296 (v := (4 : Int32)) (by decide) ?_
  refine g_iadd hC dL_law_297 ?_
  refine g_scr hC hX hi4 dL_law_298 ?_
  rw [← ha4]
  refine g_aload_n hC dL_law_299 (i := 0) rfl (q := 0) rfl ?_
  refine g_iload hC dL_law_300 (q := 4) rfl ?_
  refine g_iconst hC dL_law_302 (v := (5 : Int32)) (by decide) ?_
  refine g_iadd hC dL_law_303 ?_
  refine g_scr hC hX hi5 dL_law_304 ?_
  rw [← ha5]
  refine g_cV1 hC cv_X12_feed wd_1839 ⟨Nat.le_of_ble_eq_true rfl, Nat.le_of_ble_eq_true rfl⟩ rfl (by decide) dL_law_305 (As := [.int a1, .int a2, .int a3, .int a4, .int a5]) (st := [.int o.1]) (ok_X12_feed hC.2.2.2.2.2.2.2.1 hW h2) rfl rfl (Nat.le_of_ble_eq_true rfl) (by rw [hr]; exact ⟨Nat.le_trans (Nat.le_add_right _ _) hk.1, Nat.le_trans (Nat.le_add_right _ _) hk.2⟩) ?_
  refine g_ic_eq hC dL_law_308 (tgt := 2418) (by decide) (fun _ => ?_) (fun ne => absurd hP.1 ne)
  refine g_wid (Nat.le_add_right _ 1) (Nat.le_add_right _ 6) ?_
  exact kk _ _ _ hP.2
def st_tower (Fu : Nat) (I : mIT) (R : mRT) (L : mLT) (a1 : Int32) (P : mIT → mRT → mLT → Prop) : Prop := (∃ o, f_X11_tower Fu R I a1 = some (.inl o) ∧ mWd o.2.2 ∧ ∃ o2, f_X12_tower Fu o.2.1 (mUL L 105 0 (o.1).toInt64) a1 = some o2 ∧ f_X12_thrown Fu o2.2.1 = some 0 ∧ o.1 = o2.1 ∧ o2.2.2 105 0 = (o.1).toInt64 ∧ P o2.2.1 o.2.2 o2.2.2) ∨ (∃ q, f_X11_tower Fu R I a1 = some (.inr q) ∧ ∃ o2, f_X12_tower Fu q.2 L a1 = some o2 ∧ (q.1 = 2 ∧ f_X12_thrown Fu o2.2.1 = some 1) ∧ P o2.2.1 R o2.2.2)
set_option maxRecDepth 20000 in
theorem lc_tower {X : mXT} {E : mEn} (hC : mC X E mLaw RL code) (hN : va_Nc "java/lang/IllegalArgumentException" "java/util/NoSuchElementException" X.2.2.2.1) (hr : X.2.2.2.2.2.2.2.2.2.2.1 = (1147, 45333)) {b Ln : Nat} {xs : Nat → Int32} (hX : va_X b Ln xs X.2.2.2.1 E.2.2.1 ∧ b < mB E) {i : Int32} {Fu : Nat} {I : mIT} {R : mRT} {L : mLT} {k z : Nat} (hW : mWd R) (hk : k + 1 ≤ 1147 ∧ z + 6 ≤ 45333) {a1 : Int32} (hi1 : vp_in (i + 1) Ln) (ha1 : a1 = xs (i + 1).toNatClampNeg) {P : mIT → mRT → mLT → Prop} (hP : st_tower Fu I R L a1 P) (kk : ∀ (I' : mIT) (R' : mRT) (L' : mLT), P I' R' L' → mG X E 2418 [(0, .ref b), (1, .ref (mB E + 0)), (2, .ref (mB E + 75)), (3, .ref (mB E + 105)), (4, .int i)] [] 106 1 I' R' L' (k + 1) (z + 6)) : mG X E 313 [(0, .ref b), (1, .ref (mB E + 0)), (2, .ref (mB E + 75)), (3, .ref (mB E + 105)), (4, .int i)] [] 106 1 I R L k z := by
  rcases hP with ⟨o, h1, hW2, o2, h2, h3, h4, h5, hP⟩ | ⟨q, h1, o2, h2, h3, hP⟩
  · refine g_aload_n hC dL_law_313 (i := 1) rfl (q := 1) rfl ?_
    refine g_aload_n hC dL_law_314 (i := 0) rfl (q := 0) rfl ?_
    refine g_iload hC dL_law_315 (q := 4) rfl ?_
    refine g_iconst hC dL_law_317 (v := (1 : Int32)) (by decide) ?_
    refine g_iadd hC dL_law_318 ?_
    refine g_scr hC hX hi1 dL_law_319 ?_
    rw [← ha1]
    refine g_aload_n hC dL_law_320 (i := 3) rfl (q := 3) rfl ?_
    refine g_cW hC hN (M2 := mL_tower) (na := 3) wd_836 wd_126 wd_835 wd_834 ⟨by decide, by decide, by decide⟩ ⟨Nat.le_of_ble_eq_true rfl, Nat.le_of_ble_eq_true rfl⟩ dL_law_321 (As := [.ref (mB E + 0), .int a1, .ref (mB E + 105)]) (st := []) (ow_tower_r hC.2.2.2.2.2.2.2.1 hW h1) rfl rfl (Nat.le_of_ble_eq_true rfl) (by rw [hr]; exact hk) ?_
    have hW := hW2
    refine g_istore hC dL_law_324 rfl (by decide) (lv' := [(5, .int (0 : Int32)), (0, .ref b), (1, .ref (mB E + 0)), (2, .ref (mB E + 75)), (3, .ref (mB E + 105)), (4, .int i)]) rfl ?_
    refine g_aload_n hC dL_law_326 (i := 2) rfl (q := 3) rfl ?_
    refine g_aload_n hC dL_law_327 (i := 0) rfl (q := 1) rfl ?_
    refine g_iload hC dL_law_328 (q := 5) rfl ?_
    refine g_iconst hC dL_law_330 (v := (1 : Int32)) (by decide) ?_
    refine g_iadd hC dL_law_331 ?_
    refine g_scr hC hX hi1 dL_law_332 ?_
    rw [← ha1]
    refine g_cV1 hC cv_X12_tower wd_1847 ⟨Nat.le_of_ble_eq_true rfl, Nat.le_of_ble_eq_true rfl⟩ rfl (by decide) dL_law_333 (As := [.int a1]) (st := []) (ok_X12_tower hC.2.2.2.2.2.2.2.1 hW h2) rfl rfl (Nat.le_of_ble_eq_true rfl) (by rw [hr]; exact hk) ?_
    refine g_istore hC dL_law_336 rfl (by decide) (lv' := [(6, .int o2.1), (5, .int (0 : Int32)), (0, .ref b), (1, .ref (mB E + 0)), (2, .ref (mB E + 75)), (3, .ref (mB E + 105)), (4, .int i)]) rfl ?_
    refine g_aload_n hC dL_law_338 (i := 2) rfl (q := 4) rfl ?_
    refine g_cV1 hC cv_X12_thrown wd_1835 ⟨Nat.le_of_ble_eq_true rfl, Nat.le_of_ble_eq_true rfl⟩ rfl (by decide) dL_law_339 (As := []) (st := []) (ok_X12_thrown hC.2.2.2.2.2.2.2.1 hW h3) rfl rfl (Nat.le_of_ble_eq_true rfl) (by rw [hr]; exact hk) ?_
    refine g_iload hC dL_law_342 (q := 1) rfl ?_
    refine g_ic_eq hC dL_law_344 (tgt := 349) (by decide) (fun _ => ?_) (fun ne => absurd rfl ne)
    refine g_iload hC dL_law_349 (q := 1) rfl ?_
    refine g_if_ne hC dL_law_351 (tgt := 366) (by decide) (fun ne => absurd rfl ne) (fun _ => ?_)
    refine g_aload_n hC dL_law_354 (i := 3) rfl (q := 5) rfl ?_
    refine g_iconst hC dL_law_355 (v := (0 : Int32)) (by decide) ?_
    refine g_lald hC (len := 1) rfl (by decide) (inB_in (by decide)) dL_law_356 ?_
    refine g_iload hC dL_law_357 (q := 0) rfl ?_
    refine g_i2l hC dL_law_359 ?_
    refine g_lcmp hC dL_law_360 ?_
    have hcmp : o2.2.2 105 (0 : Int32).toNatClampNeg = (o2.1).toInt64 := h5.trans (by rw [h4])
    refine g_if_eq hC dL_law_361 (tgt := 366) (by decide) (fun _ => ?_) (fun ne => absurd (by rw [hcmp]; exact lg_same _) ne)
    refine g_goto hC dL_law_366 (tgt := 2418) (by decide) ?_
    refine g_lv [2, 3, 4, 5, 6] rfl ?_
    exact kk _ _ _ hP
  · obtain ⟨q0, I1⟩ := q
    obtain ⟨hq, h3⟩ := h3
    replace hq : q0 = 2 := hq
    subst hq
    refine g_aload_n hC dL_law_313 (i := 1) rfl (q := 1) rfl ?_
    refine g_aload_n hC dL_law_314 (i := 0) rfl (q := 0) rfl ?_
    refine g_iload hC dL_law_315 (q := 4) rfl ?_
    refine g_iconst hC dL_law_317 (v := (1 : Int32)) (by decide) ?_
    refine g_iadd hC dL_law_318 ?_
    refine g_scr hC hX hi1 dL_law_319 ?_
    rw [← ha1]
    refine g_aload_n hC dL_law_320 (i := 3) rfl (q := 3) rfl ?_
    refine g_cW hC hN (M2 := mL_tower) (na := 3) wd_836 wd_126 wd_835 wd_834 ⟨by decide, by decide, by decide⟩ ⟨Nat.le_of_ble_eq_true rfl, Nat.le_of_ble_eq_true rfl⟩ dL_law_321 (As := [.ref (mB E + 0), .int a1, .ref (mB E + 105)]) (st := []) (ow_tower_t2 hC.2.2.2.2.2.2.2.1 hW h1) rfl rfl (Nat.le_of_ble_eq_true rfl) (by rw [hr]; exact hk) ?_
    refine g_istore hC dL_law_324 rfl (by decide) (lv' := [(5, .int (1 : Int32)), (0, .ref b), (1, .ref (mB E + 0)), (2, .ref (mB E + 75)), (3, .ref (mB E + 105)), (4, .int i)]) rfl ?_
    refine g_aload_n hC dL_law_326 (i := 2) rfl (q := 3) rfl ?_
    refine g_aload_n hC dL_law_327 (i := 0) rfl (q := 1) rfl ?_
    refine g_iload hC dL_law_328 (q := 5) rfl ?_
    refine g_iconst hC dL_law_330 (v := (1 : Int32)) (by decide) ?_
    refine g_iadd hC dL_law_331 ?_
    refine g_scr hC hX hi1 dL_law_332 ?_
    rw [← ha1]
    refine g_cV1 hC cv_X12_tower wd_1847 ⟨Nat.le_of_ble_eq_true rfl, Nat.le_of_ble_eq_true rfl⟩ rfl (by decide) dL_law_333 (As := [.int a1]) (st := []) (ok_X12_tower hC.2.2.2.2.2.2.2.1 hW h2) rfl rfl (Nat.le_of_ble_eq_true rfl) (by rw [hr]; exact hk) ?_
    refine g_istore hC dL_law_336 rfl (by decide) (lv' := [(6, .int o2.1), (5, .int (1 : Int32)), (0, .ref b), (1, .ref (mB E + 0)), (2, .ref (mB E + 75)), (3, .ref (mB E + 105)), (4, .int i)]) rfl ?_
    refine g_aload_n hC dL_law_338 (i := 2) rfl (q := 4) rfl ?_
    refine g_cV1 hC cv_X12_thrown wd_1835 ⟨Nat.le_of_ble_eq_true rfl, Nat.le_of_ble_eq_true rfl⟩ rfl (by decide) dL_law_339 (As := []) (st := []) (ok_X12_thrown hC.2.2.2.2.2.2.2.1 hW h3) rfl rfl (Nat.le_of_ble_eq_true rfl) (by rw [hr]; exact hk) ?_
    refine g_iload hC dL_law_342 (q := 1) rfl ?_
    refine g_ic_eq hC dL_law_344 (tgt := 349) (by decide) (fun _ => ?_) (fun ne => absurd rfl ne)
    refine g_iload hC dL_law_349 (q := 1) rfl ?_
    refine g_if_ne hC dL_law_351 (tgt := 366) (by decide) (fun _ => ?_) (fun e => absurd e (by decide))
    refine g_goto hC dL_law_366 (tgt := 2418) (by decide) ?_
    refine g_lv [2, 3, 4, 5, 6] rfl ?_
    exact kk _ _ _ hP
def st_fault (Fu : Nat) (I : mIT) (R : mRT) (L : mLT)  (P : mIT → mRT → mLT → Prop) : Prop := ∃ o, f_X11_fault Fu I = some o ∧ ∃ o2, f_X12_fault Fu I = some o2 ∧ o = o2.1 ∧ P o2.2 R L
set_option maxRecDepth 20000 in
theorem lc_fault {X : mXT} {E : mEn} (hC : mC X E mLaw RL code) (hN : va_Nc "java/lang/IllegalArgumentException" "java/util/NoSuchElementException" X.2.2.2.1) (hr : X.2.2.2.2.2.2.2.2.2.2.1 = (1147, 45333)) {b Ln : Nat} {xs : Nat → Int32} (hX : va_X b Ln xs X.2.2.2.1 E.2.2.1 ∧ b < mB E) {i : Int32} {Fu : Nat} {I : mIT} {R : mRT} {L : mLT} {k z : Nat} (hW : mWd R) (hk : k + 1 ≤ 1147 ∧ z + 6 ≤ 45333)  {P : mIT → mRT → mLT → Prop} (hP : st_fault Fu I R L  P) (kk : ∀ (I' : mIT) (R' : mRT) (L' : mLT), P I' R' L' → mG X E 2418 [(0, .ref b), (1, .ref (mB E + 0)), (2, .ref (mB E + 75)), (3, .ref (mB E + 105)), (4, .int i)] [] 106 1 I' R' L' (k + 1) (z + 6)) : mG X E 369 [(0, .ref b), (1, .ref (mB E + 0)), (2, .ref (mB E + 75)), (3, .ref (mB E + 105)), (4, .int i)] [] 106 1 I R L k z := by
  obtain ⟨o, h1, o2, h2, hP⟩ := hP
  refine g_aload_n hC dL_law_369 (i := 1) rfl (q := 1) rfl ?_
  refine g_cV1 hC cv_X11_fault wd_531 ⟨Nat.le_of_ble_eq_true rfl, Nat.le_of_ble_eq_true rfl⟩ rfl (by decide) dL_law_370 (As := []) (st := []) (ok_X11_fault hC.2.2.2.2.2.2.2.1 hW h1) rfl rfl (Nat.le_of_ble_eq_true rfl) (by rw [hr]; exact ⟨Nat.le_trans (Nat.le_add_right _ _) hk.1, Nat.le_trans (Nat.le_add_right _ _) hk.2⟩) ?_
  refine g_aload_n hC dL_law_373 (i := 2) rfl (q := 2) rfl ?_
  refine g_cV1 hC cv_X12_fault wd_1972 ⟨Nat.le_of_ble_eq_true rfl, Nat.le_of_ble_eq_true rfl⟩ rfl (by decide) dL_law_374 (As := []) (st := [.int o]) (ok_X12_fault hC.2.2.2.2.2.2.2.1 hW h2) rfl rfl (Nat.le_of_ble_eq_true rfl) (by rw [hr]; exact ⟨Nat.le_trans (Nat.le_add_right _ _) hk.1, Nat.le_trans (Nat.le_add_right _ _) hk.2⟩) ?_
  refine g_ic_eq hC dL_law_377 (tgt := 2418) (by decide) (fun _ => ?_) (fun ne => absurd hP.1 ne)
  refine g_wid (Nat.le_add_right _ 1) (Nat.le_add_right _ 6) ?_
  exact kk _ _ _ hP.2
def st_count (Fu : Nat) (I : mIT) (R : mRT) (L : mLT) (a1 : Int32) (P : mIT → mRT → mLT → Prop) : Prop := (∃ o, f_X11_count Fu R I a1 = some (.inl o) ∧ ∃ o2, f_X12_count Fu o.2 a1 = some o2 ∧ f_X12_thrown Fu o2.2 = some 0 ∧ o.1 = o2.1 ∧ P o2.2 R (mUL L 105 0 (o.1).toInt64)) ∨ (∃ q, f_X11_count Fu R I a1 = some (.inr q) ∧ ∃ o2, f_X12_count Fu q.2 a1 = some o2 ∧ (q.1 = 1 ∧ f_X12_thrown Fu o2.2 = some 1) ∧ P o2.2 R L)
set_option maxRecDepth 20000 in
theorem lc_count {X : mXT} {E : mEn} (hC : mC X E mLaw RL code) (hN : va_Nc "java/lang/IllegalArgumentException" "java/util/NoSuchElementException" X.2.2.2.1) (hr : X.2.2.2.2.2.2.2.2.2.2.1 = (1147, 45333)) {b Ln : Nat} {xs : Nat → Int32} (hX : va_X b Ln xs X.2.2.2.1 E.2.2.1 ∧ b < mB E) {i : Int32} {Fu : Nat} {I : mIT} {R : mRT} {L : mLT} {k z : Nat} (hW : mWd R) (hk : k + 1 ≤ 1147 ∧ z + 6 ≤ 45333) {a1 : Int32} (hi1 : vp_in (i + 1) Ln) (ha1 : a1 = xs (i + 1).toNatClampNeg) {P : mIT → mRT → mLT → Prop} (hP : st_count Fu I R L a1 P) (kk : ∀ (I' : mIT) (R' : mRT) (L' : mLT), P I' R' L' → mG X E 2418 [(0, .ref b), (1, .ref (mB E + 0)), (2, .ref (mB E + 75)), (3, .ref (mB E + 105)), (4, .int i)] [] 106 1 I' R' L' (k + 1) (z + 6)) : mG X E 382 [(0, .ref b), (1, .ref (mB E + 0)), (2, .ref (mB E + 75)), (3, .ref (mB E + 105)), (4, .int i)] [] 106 1 I R L k z := by
  rcases hP with ⟨o, h1, o2, h2, h3, h4, hP⟩ | ⟨q, h1, o2, h2, h3, hP⟩
  · refine g_aload_n hC dL_law_382 (i := 1) rfl (q := 1) rfl ?_
    refine g_aload_n hC dL_law_383 (i := 0) rfl (q := 0) rfl ?_
    refine g_iload hC dL_law_384 (q := 4) rfl ?_
    refine g_iconst hC dL_law_386 (v := (1 : Int32)) (by decide) ?_
    refine g_iadd hC dL_law_387 ?_
    refine g_scr hC hX hi1 dL_law_388 ?_
    rw [← ha1]
    refine g_aload_n hC dL_law_389 (i := 3) rfl (q := 3) rfl ?_
    refine g_cW hC hN (M2 := mL_count) (na := 3) wd_1140 wd_126 wd_1139 wd_1138 ⟨by decide, by decide, by decide⟩ ⟨Nat.le_of_ble_eq_true rfl, Nat.le_of_ble_eq_true rfl⟩ dL_law_390 (As := [.ref (mB E + 0), .int a1, .ref (mB E + 105)]) (st := []) (ow_count_r hC.2.2.2.2.2.2.2.1 hW h1) rfl rfl (Nat.le_of_ble_eq_true rfl) (by rw [hr]; exact hk) ?_
    refine g_istore hC dL_law_393 rfl (by decide) (lv' := [(5, .int (0 : Int32)), (0, .ref b), (1, .ref (mB E + 0)), (2, .ref (mB E + 75)), (3, .ref (mB E + 105)), (4, .int i)]) rfl ?_
    refine g_aload_n hC dL_law_395 (i := 2) rfl (q := 3) rfl ?_
    refine g_aload_n hC dL_law_396 (i := 0) rfl (q := 1) rfl ?_
    refine g_iload hC dL_law_397 (q := 5) rfl ?_
    refine g_iconst hC dL_law_399 (v := (1 : Int32)) (by decide) ?_
    refine g_iadd hC dL_law_400 ?_
    refine g_scr hC hX hi1 dL_law_401 ?_
    rw [← ha1]
    refine g_cV1 hC cv_X12_count wd_1980 ⟨Nat.le_of_ble_eq_true rfl, Nat.le_of_ble_eq_true rfl⟩ rfl (by decide) dL_law_402 (As := [.int a1]) (st := []) (ok_X12_count hC.2.2.2.2.2.2.2.1 hW h2) rfl rfl (Nat.le_of_ble_eq_true rfl) (by rw [hr]; exact hk) ?_
    refine g_istore hC dL_law_405 rfl (by decide) (lv' := [(6, .int o2.1), (5, .int (0 : Int32)), (0, .ref b), (1, .ref (mB E + 0)), (2, .ref (mB E + 75)), (3, .ref (mB E + 105)), (4, .int i)]) rfl ?_
    refine g_aload_n hC dL_law_407 (i := 2) rfl (q := 4) rfl ?_
    refine g_cV1 hC cv_X12_thrown wd_1835 ⟨Nat.le_of_ble_eq_true rfl, Nat.le_of_ble_eq_true rfl⟩ rfl (by decide) dL_law_408 (As := []) (st := []) (ok_X12_thrown hC.2.2.2.2.2.2.2.1 hW h3) rfl rfl (Nat.le_of_ble_eq_true rfl) (by rw [hr]; exact hk) ?_
    refine g_iload hC dL_law_411 (q := 1) rfl ?_
    refine g_ic_eq hC dL_law_413 (tgt := 418) (by decide) (fun _ => ?_) (fun ne => absurd rfl ne)
    refine g_iload hC dL_law_418 (q := 1) rfl ?_
    refine g_if_ne hC dL_law_420 (tgt := 435) (by decide) (fun ne => absurd rfl ne) (fun _ => ?_)
    refine g_aload_n hC dL_law_423 (i := 3) rfl (q := 5) rfl ?_
    refine g_iconst hC dL_law_424 (v := (0 : Int32)) (by decide) ?_
    refine g_lald hC (len := 1) rfl (by decide) (inB_in (by decide)) dL_law_425 ?_
    refine g_iload hC dL_law_426 (q := 0) rfl ?_
    refine g_i2l hC dL_law_428 ?_
    refine g_lcmp hC dL_law_429 ?_
    have hcmp : (mUL L 105 0 (o.1).toInt64) 105 (0 : Int32).toNatClampNeg = (o2.1).toInt64 := (show mUL _ 105 0 _ 105 0 = _ from by simp only [mUL, and_self, if_true]; rw [h4])
    refine g_if_eq hC dL_law_430 (tgt := 435) (by decide) (fun _ => ?_) (fun ne => absurd (by rw [hcmp]; exact lg_same _) ne)
    refine g_goto hC dL_law_435 (tgt := 2418) (by decide) ?_
    refine g_lv [2, 3, 4, 5, 6] rfl ?_
    exact kk _ _ _ hP
  · obtain ⟨q0, I1⟩ := q
    obtain ⟨hq, h3⟩ := h3
    replace hq : q0 = 1 := hq
    subst hq
    refine g_aload_n hC dL_law_382 (i := 1) rfl (q := 1) rfl ?_
    refine g_aload_n hC dL_law_383 (i := 0) rfl (q := 0) rfl ?_
    refine g_iload hC dL_law_384 (q := 4) rfl ?_
    refine g_iconst hC dL_law_386 (v := (1 : Int32)) (by decide) ?_
    refine g_iadd hC dL_law_387 ?_
    refine g_scr hC hX hi1 dL_law_388 ?_
    rw [← ha1]
    refine g_aload_n hC dL_law_389 (i := 3) rfl (q := 3) rfl ?_
    refine g_cW hC hN (M2 := mL_count) (na := 3) wd_1140 wd_126 wd_1139 wd_1138 ⟨by decide, by decide, by decide⟩ ⟨Nat.le_of_ble_eq_true rfl, Nat.le_of_ble_eq_true rfl⟩ dL_law_390 (As := [.ref (mB E + 0), .int a1, .ref (mB E + 105)]) (st := []) (ow_count_t1 hC.2.2.2.2.2.2.2.1 hW h1) rfl rfl (Nat.le_of_ble_eq_true rfl) (by rw [hr]; exact hk) ?_
    refine g_istore hC dL_law_393 rfl (by decide) (lv' := [(5, .int (1 : Int32)), (0, .ref b), (1, .ref (mB E + 0)), (2, .ref (mB E + 75)), (3, .ref (mB E + 105)), (4, .int i)]) rfl ?_
    refine g_aload_n hC dL_law_395 (i := 2) rfl (q := 3) rfl ?_
    refine g_aload_n hC dL_law_396 (i := 0) rfl (q := 1) rfl ?_
    refine g_iload hC dL_law_397 (q := 5) rfl ?_
    refine g_iconst hC dL_law_399 (v := (1 : Int32)) (by decide) ?_
    refine g_iadd hC dL_law_400 ?_
    refine g_scr hC hX hi1 dL_law_401 ?_
    rw [← ha1]
    refine g_cV1 hC cv_X12_count wd_1980 ⟨Nat.le_of_ble_eq_true rfl, Nat.le_of_ble_eq_true rfl⟩ rfl (by decide) dL_law_402 (As := [.int a1]) (st := []) (ok_X12_count hC.2.2.2.2.2.2.2.1 hW h2) rfl rfl (Nat.le_of_ble_eq_true rfl) (by rw [hr]; exact hk) ?_
    refine g_istore hC dL_law_405 rfl (by decide) (lv' := [(6, .int o2.1), (5, .int (1 : Int32)), (0, .ref b), (1, .ref (mB E + 0)), (2, .ref (mB E + 75)), (3, .ref (mB E + 105)), (4, .int i)]) rfl ?_
    refine g_aload_n hC dL_law_407 (i := 2) rfl (q := 4) rfl ?_
    refine g_cV1 hC cv_X12_thrown wd_1835 ⟨Nat.le_of_ble_eq_true rfl, Nat.le_of_ble_eq_true rfl⟩ rfl (by decide) dL_law_408 (As := []) (st := []) (ok_X12_thrown hC.2.2.2.2.2.2.2.1 hW h3) rfl rfl (Nat.le_of_ble_eq_true rfl) (by rw [hr]; exact hk) ?_
    refine g_iload hC dL_law_411 (q := 1) rfl ?_
    refine g_ic_eq hC dL_law_413 (tgt := 418) (by decide) (fun _ => ?_) (fun ne => absurd rfl ne)
    refine g_iload hC dL_law_418 (q := 1) rfl ?_
    refine g_if_ne hC dL_law_420 (tgt := 435) (by decide) (fun _ => ?_) (fun e => absurd e (by decide))
    refine g_goto hC dL_law_435 (tgt := 2418) (by decide) ?_
    refine g_lv [2, 3, 4, 5, 6] rfl ?_
    exact kk _ _ _ hP
def st_root (Fu : Nat) (I : mIT) (R : mRT) (L : mLT) (a1 : Int32) (a2 : Int32) (P : mIT → mRT → mLT → Prop) : Prop := (∃ o, f_X11_root Fu R I a1 a2 = some (.inl o) ∧ ∃ o2, f_X12_root Fu o.2 a1 a2 = some o2 ∧ f_X12_thrown Fu o2.2 = some 0 ∧ o.1 = o2.1 ∧ P o2.2 R (mUL L 105 0 (o.1).toInt64)) ∨ (∃ q, f_X11_root Fu R I a1 a2 = some (.inr q) ∧ ∃ o2, f_X12_root Fu q.2 a1 a2 = some o2 ∧ (q.1 = 1 ∧ f_X12_thrown Fu o2.2 = some 1) ∧ P o2.2 R L)
set_option maxRecDepth 20000 in
theorem lc_root {X : mXT} {E : mEn} (hC : mC X E mLaw RL code) (hN : va_Nc "java/lang/IllegalArgumentException" "java/util/NoSuchElementException" X.2.2.2.1) (hr : X.2.2.2.2.2.2.2.2.2.2.1 = (1147, 45333)) {b Ln : Nat} {xs : Nat → Int32} (hX : va_X b Ln xs X.2.2.2.1 E.2.2.1 ∧ b < mB E) {i : Int32} {Fu : Nat} {I : mIT} {R : mRT} {L : mLT} {k z : Nat} (hW : mWd R) (hk : k + 1 ≤ 1147 ∧ z + 6 ≤ 45333) {a1 : Int32} (hi1 : vp_in (i + 1) Ln) (ha1 : a1 = xs (i + 1).toNatClampNeg) {a2 : Int32} (hi2 : vp_in (i + 2) Ln) (ha2 : a2 = xs (i + 2).toNatClampNeg) {P : mIT → mRT → mLT → Prop} (hP : st_root Fu I R L a1 a2 P) (kk : ∀ (I' : mIT) (R' : mRT) (L' : mLT), P I' R' L' → mG X E 2418 [(0, .ref b), (1, .ref (mB E + 0)), (2, .ref (mB E + 75)), (3, .ref (mB E + 105)), (4, .int i)] [] 106 1 I' R' L' (k + 1) (z + 6)) : mG X E 438 [(0, .ref b), (1, .ref (mB E + 0)), (2, .ref (mB E + 75)), (3, .ref (mB E + 105)), (4, .int i)] [] 106 1 I R L k z := by
  rcases hP with ⟨o, h1, o2, h2, h3, h4, hP⟩ | ⟨q, h1, o2, h2, h3, hP⟩
  · refine g_aload_n hC dL_law_438 (i := 1) rfl (q := 1) rfl ?_
    refine g_aload_n hC dL_law_439 (i := 0) rfl (q := 0) rfl ?_
    refine g_iload hC dL_law_440 (q := 4) rfl ?_
    refine g_iconst hC dL_law_442 (v := (1 : Int32)) (by decide) ?_
    refine g_iadd hC dL_law_443 ?_
    refine g_scr hC hX hi1 dL_law_444 ?_
    rw [← ha1]
    refine g_aload_n hC dL_law_445 (i := 0) rfl (q := 0) rfl ?_
    refine g_iload hC dL_law_446 (q := 4) rfl ?_
    refine g_iconst hC dL_law_448 (v := (2 : Int32)) (by decide) ?_
    refine g_iadd hC dL_law_449 ?_
    refine g_scr hC hX hi2 dL_law_450 ?_
    rw [← ha2]
    refine g_aload_n hC dL_law_451 (i := 3) rfl (q := 3) rfl ?_
    refine g_cW hC hN (M2 := mL_root) (na := 4) wd_1178 wd_126 wd_1177 wd_1176 ⟨by decide, by decide, by decide⟩ ⟨Nat.le_of_ble_eq_true rfl, Nat.le_of_ble_eq_true rfl⟩ dL_law_452 (As := [.ref (mB E + 0), .int a1, .int a2, .ref (mB E + 105)]) (st := []) (ow_root_r hC.2.2.2.2.2.2.2.1 hW h1) rfl rfl (Nat.le_of_ble_eq_true rfl) (by rw [hr]; exact hk) ?_
    refine g_istore hC dL_law_455 rfl (by decide) (lv' := [(5, .int (0 : Int32)), (0, .ref b), (1, .ref (mB E + 0)), (2, .ref (mB E + 75)), (3, .ref (mB E + 105)), (4, .int i)]) rfl ?_
    refine g_aload_n hC dL_law_457 (i := 2) rfl (q := 3) rfl ?_
    refine g_aload_n hC dL_law_458 (i := 0) rfl (q := 1) rfl ?_
    refine g_iload hC dL_law_459 (q := 5) rfl ?_
    refine g_iconst hC dL_law_461 (v := (1 : Int32)) (by decide) ?_
    refine g_iadd hC dL_law_462 ?_
    refine g_scr hC hX hi1 dL_law_463 ?_
    rw [← ha1]
    refine g_aload_n hC dL_law_464 (i := 0) rfl (q := 1) rfl ?_
    refine g_iload hC dL_law_465 (q := 5) rfl ?_
    refine g_iconst hC dL_law_467 (v := (2 : Int32)) (by decide) ?_
    refine g_iadd hC dL_law_468 ?_
    refine g_scr hC hX hi2 dL_law_469 ?_
    rw [← ha2]
    refine g_cV1 hC cv_X12_root wd_2030 ⟨Nat.le_of_ble_eq_true rfl, Nat.le_of_ble_eq_true rfl⟩ rfl (by decide) dL_law_470 (As := [.int a1, .int a2]) (st := []) (ok_X12_root hC.2.2.2.2.2.2.2.1 hW h2) rfl rfl (Nat.le_of_ble_eq_true rfl) (by rw [hr]; exact hk) ?_
    refine g_istore hC dL_law_473 rfl (by decide) (lv' := [(6, .int o2.1), (5, .int (0 : Int32)), (0, .ref b), (1, .ref (mB E + 0)), (2, .ref (mB E + 75)), (3, .ref (mB E + 105)), (4, .int i)]) rfl ?_
    refine g_aload_n hC dL_law_475 (i := 2) rfl (q := 4) rfl ?_
    refine g_cV1 hC cv_X12_thrown wd_1835 ⟨Nat.le_of_ble_eq_true rfl, Nat.le_of_ble_eq_true rfl⟩ rfl (by decide) dL_law_476 (As := []) (st := []) (ok_X12_thrown hC.2.2.2.2.2.2.2.1 hW h3) rfl rfl (Nat.le_of_ble_eq_true rfl) (by rw [hr]; exact hk) ?_
    refine g_iload hC dL_law_479 (q := 1) rfl ?_
    refine g_ic_eq hC dL_law_481 (tgt := 486) (by decide) (fun _ => ?_) (fun ne => absurd rfl ne)
    refine g_iload hC dL_law_486 (q := 1) rfl ?_
    refine g_if_ne hC dL_law_488 (tgt := 503) (by decide) (fun ne => absurd rfl ne) (fun _ => ?_)
    refine g_aload_n hC dL_law_491 (i := 3) rfl (q := 5) rfl ?_
    refine g_iconst hC dL_law_492 (v := (0 : Int32)) (by decide) ?_
    refine g_lald hC (len := 1) rfl (by decide) (inB_in (by decide)) dL_law_493 ?_
    refine g_iload hC dL_law_494 (q := 0) rfl ?_
    refine g_i2l hC dL_law_496 ?_
    refine g_lcmp hC dL_law_497 ?_
    have hcmp : (mUL L 105 0 (o.1).toInt64) 105 (0 : Int32).toNatClampNeg = (o2.1).toInt64 := (show mUL _ 105 0 _ 105 0 = _ from by simp only [mUL, and_self, if_true]; rw [h4])
    refine g_if_eq hC dL_law_498 (tgt := 503) (by decide) (fun _ => ?_) (fun ne => absurd (by rw [hcmp]; exact lg_same _) ne)
    refine g_goto hC dL_law_503 (tgt := 2418) (by decide) ?_
    refine g_lv [2, 3, 4, 5, 6] rfl ?_
    exact kk _ _ _ hP
  · obtain ⟨q0, I1⟩ := q
    obtain ⟨hq, h3⟩ := h3
    replace hq : q0 = 1 := hq
    subst hq
    refine g_aload_n hC dL_law_438 (i := 1) rfl (q := 1) rfl ?_
    refine g_aload_n hC dL_law_439 (i := 0) rfl (q := 0) rfl ?_
    refine g_iload hC dL_law_440 (q := 4) rfl ?_
    refine g_iconst hC dL_law_442 (v := (1 : Int32)) (by decide) ?_
    refine g_iadd hC dL_law_443 ?_
    refine g_scr hC hX hi1 dL_law_444 ?_
    rw [← ha1]
    refine g_aload_n hC dL_law_445 (i := 0) rfl (q := 0) rfl ?_
    refine g_iload hC dL_law_446 (q := 4) rfl ?_
    refine g_iconst hC dL_law_448 (v := (2 : Int32)) (by decide) ?_
    refine g_iadd hC dL_law_449 ?_
    refine g_scr hC hX hi2 dL_law_450 ?_
    rw [← ha2]
    refine g_aload_n hC dL_law_451 (i := 3) rfl (q := 3) rfl ?_
    refine g_cW hC hN (M2 := mL_root) (na := 4) wd_1178 wd_126 wd_1177 wd_1176 ⟨by decide, by decide, by decide⟩ ⟨Nat.le_of_ble_eq_true rfl, Nat.le_of_ble_eq_true rfl⟩ dL_law_452 (As := [.ref (mB E + 0), .int a1, .int a2, .ref (mB E + 105)]) (st := []) (ow_root_t1 hC.2.2.2.2.2.2.2.1 hW h1) rfl rfl (Nat.le_of_ble_eq_true rfl) (by rw [hr]; exact hk) ?_
    refine g_istore hC dL_law_455 rfl (by decide) (lv' := [(5, .int (1 : Int32)), (0, .ref b), (1, .ref (mB E + 0)), (2, .ref (mB E + 75)), (3, .ref (mB E + 105)), (4, .int i)]) rfl ?_
    refine g_aload_n hC dL_law_457 (i := 2) rfl (q := 3) rfl ?_
    refine g_aload_n hC dL_law_458 (i := 0) rfl (q := 1) rfl ?_
    refine g_iload hC dL_law_459 (q := 5) rfl ?_
    refine g_iconst hC dL_law_461 (v := (1 : Int32)) (by decide) ?_
    refine g_iadd hC dL_law_462 ?_
    refine g_scr hC hX hi1 dL_law_463 ?_
    rw [← ha1]
    refine g_aload_n hC dL_law_464 (i := 0) rfl (q := 1) rfl ?_
    refine g_iload hC dL_law_465 (q := 5) rfl ?_
    refine g_iconst hC dL_law_467 (v := (2 : Int32)) (by decide) ?_
    refine g_iadd hC dL_law_468 ?_
    refine g_scr hC hX hi2 dL_law_469 ?_
    rw [← ha2]
    refine g_cV1 hC cv_X12_root wd_2030 ⟨Nat.le_of_ble_eq_true rfl, Nat.le_of_ble_eq_true rfl⟩ rfl (by decide) dL_law_470 (As := [.int a1, .int a2]) (st := []) (ok_X12_root hC.2.2.2.2.2.2.2.1 hW h2) rfl rfl (Nat.le_of_ble_eq_true rfl) (by rw [hr]; exact hk) ?_
    refine g_istore hC dL_law_473 rfl (by decide) (lv' := [(6, .int o2.1), (5, .int (1 : Int32)), (0, .ref b), (1, .ref (mB E + 0)), (2, .ref (mB E + 75)), (3, .ref (mB E + 105)), (4, .int i)]) rfl ?_
    refine g_aload_n hC dL_law_475 (i := 2) rfl (q := 4) rfl ?_
    refine g_cV1 hC cv_X12_thrown wd_1835 ⟨Nat.le_of_ble_eq_true rfl, Nat.le_of_ble_eq_true rfl⟩ rfl (by decide) dL_law_476 (As := []) (st := []) (ok_X12_thrown hC.2.2.2.2.2.2.2.1 hW h3) rfl rfl (Nat.le_of_ble_eq_true rfl) (by rw [hr]; exact hk) ?_
    refine g_iload hC dL_law_479 (q := 1) rfl ?_
    refine g_ic_eq hC dL_law_481 (tgt := 486) (by decide) (fun _ => ?_) (fun ne => absurd rfl ne)
    refine g_iload hC dL_law_486 (q := 1) rfl ?_
    refine g_if_ne hC dL_law_488 (tgt := 503) (by decide) (fun _ => ?_) (fun e => absurd e (by decide))
    refine g_goto hC dL_law_503 (tgt := 2418) (by decide) ?_
    refine g_lv [2, 3, 4, 5, 6] rfl ?_
    exact kk _ _ _ hP
def st_hook (Fu : Nat) (I : mIT) (R : mRT) (L : mLT) (a1 : Int32) (P : mIT → mRT → mLT → Prop) : Prop := (∃ o, f_X11_hook Fu R I a1 = some (.inl o) ∧ ∃ o2, f_X12_hook Fu I a1 = some o2 ∧ f_X12_thrown Fu o2.2 = some 0 ∧ o = o2.1 ∧ P o2.2 R (mUL L 105 0 (o).toInt64)) ∨ (∃ q, f_X11_hook Fu R I a1 = some (.inr q) ∧ ∃ o2, f_X12_hook Fu q.2 a1 = some o2 ∧ (q.1 = 1 ∧ f_X12_thrown Fu o2.2 = some 1) ∧ P o2.2 R L)
set_option maxRecDepth 20000 in
theorem lc_hook {X : mXT} {E : mEn} (hC : mC X E mLaw RL code) (hN : va_Nc "java/lang/IllegalArgumentException" "java/util/NoSuchElementException" X.2.2.2.1) (hr : X.2.2.2.2.2.2.2.2.2.2.1 = (1147, 45333)) {b Ln : Nat} {xs : Nat → Int32} (hX : va_X b Ln xs X.2.2.2.1 E.2.2.1 ∧ b < mB E) {i : Int32} {Fu : Nat} {I : mIT} {R : mRT} {L : mLT} {k z : Nat} (hW : mWd R) (hk : k + 1 ≤ 1147 ∧ z + 6 ≤ 45333) {a1 : Int32} (hi1 : vp_in (i + 1) Ln) (ha1 : a1 = xs (i + 1).toNatClampNeg) {P : mIT → mRT → mLT → Prop} (hP : st_hook Fu I R L a1 P) (kk : ∀ (I' : mIT) (R' : mRT) (L' : mLT), P I' R' L' → mG X E 2418 [(0, .ref b), (1, .ref (mB E + 0)), (2, .ref (mB E + 75)), (3, .ref (mB E + 105)), (4, .int i)] [] 106 1 I' R' L' (k + 1) (z + 6)) : mG X E 506 [(0, .ref b), (1, .ref (mB E + 0)), (2, .ref (mB E + 75)), (3, .ref (mB E + 105)), (4, .int i)] [] 106 1 I R L k z := by
  rcases hP with ⟨o, h1, o2, h2, h3, h4, hP⟩ | ⟨q, h1, o2, h2, h3, hP⟩
  · refine g_aload_n hC dL_law_506 (i := 1) rfl (q := 1) rfl ?_
    refine g_aload_n hC dL_law_507 (i := 0) rfl (q := 0) rfl ?_
    refine g_iload hC dL_law_508 (q := 4) rfl ?_
    refine g_iconst hC dL_law_510 (v := (1 : Int32)) (by decide) ?_
    refine g_iadd hC dL_law_511 ?_
    refine g_scr hC hX hi1 dL_law_512 ?_
    rw [← ha1]
    refine g_aload_n hC dL_law_513 (i := 3) rfl (q := 3) rfl ?_
    refine g_cW hC hN (M2 := mL_hook) (na := 3) wd_1200 wd_126 wd_1199 wd_1198 ⟨by decide, by decide, by decide⟩ ⟨Nat.le_of_ble_eq_true rfl, Nat.le_of_ble_eq_true rfl⟩ dL_law_514 (As := [.ref (mB E + 0), .int a1, .ref (mB E + 105)]) (st := []) (ow_hook_r hC.2.2.2.2.2.2.2.1 hW h1) rfl rfl (Nat.le_of_ble_eq_true rfl) (by rw [hr]; exact hk) ?_
    refine g_istore hC dL_law_517 rfl (by decide) (lv' := [(5, .int (0 : Int32)), (0, .ref b), (1, .ref (mB E + 0)), (2, .ref (mB E + 75)), (3, .ref (mB E + 105)), (4, .int i)]) rfl ?_
    refine g_aload_n hC dL_law_519 (i := 2) rfl (q := 3) rfl ?_
    refine g_aload_n hC dL_law_520 (i := 0) rfl (q := 1) rfl ?_
    refine g_iload hC dL_law_521 (q := 5) rfl ?_
    refine g_iconst hC dL_law_523 (v := (1 : Int32)) (by decide) ?_
    refine g_iadd hC dL_law_524 ?_
    refine g_scr hC hX hi1 dL_law_525 ?_
    rw [← ha1]
    refine g_cV1 hC cv_X12_hook wd_2046 ⟨Nat.le_of_ble_eq_true rfl, Nat.le_of_ble_eq_true rfl⟩ rfl (by decide) dL_law_526 (As := [.int a1]) (st := []) (ok_X12_hook hC.2.2.2.2.2.2.2.1 hW h2) rfl rfl (Nat.le_of_ble_eq_true rfl) (by rw [hr]; exact hk) ?_
    refine g_istore hC dL_law_529 rfl (by decide) (lv' := [(6, .int o2.1), (5, .int (0 : Int32)), (0, .ref b), (1, .ref (mB E + 0)), (2, .ref (mB E + 75)), (3, .ref (mB E + 105)), (4, .int i)]) rfl ?_
    refine g_aload_n hC dL_law_531 (i := 2) rfl (q := 4) rfl ?_
    refine g_cV1 hC cv_X12_thrown wd_1835 ⟨Nat.le_of_ble_eq_true rfl, Nat.le_of_ble_eq_true rfl⟩ rfl (by decide) dL_law_532 (As := []) (st := []) (ok_X12_thrown hC.2.2.2.2.2.2.2.1 hW h3) rfl rfl (Nat.le_of_ble_eq_true rfl) (by rw [hr]; exact hk) ?_
    refine g_iload hC dL_law_535 (q := 1) rfl ?_
    refine g_ic_eq hC dL_law_537 (tgt := 542) (by decide) (fun _ => ?_) (fun ne => absurd rfl ne)
    refine g_iload hC dL_law_542 (q := 1) rfl ?_
    refine g_if_ne hC dL_law_544 (tgt := 559) (by decide) (fun ne => absurd rfl ne) (fun _ => ?_)
    refine g_aload_n hC dL_law_547 (i := 3) rfl (q := 5) rfl ?_
    refine g_iconst hC dL_law_548 (v := (0 : Int32)) (by decide) ?_
    refine g_lald hC (len := 1) rfl (by decide) (inB_in (by decide)) dL_law_549 ?_
    refine g_iload hC dL_law_550 (q := 0) rfl ?_
    refine g_i2l hC dL_law_552 ?_
    refine g_lcmp hC dL_law_553 ?_
    have hcmp : (mUL L 105 0 (o).toInt64) 105 (0 : Int32).toNatClampNeg = (o2.1).toInt64 := (show mUL _ 105 0 _ 105 0 = _ from by simp only [mUL, and_self, if_true]; rw [h4])
    refine g_if_eq hC dL_law_554 (tgt := 559) (by decide) (fun _ => ?_) (fun ne => absurd (by rw [hcmp]; exact lg_same _) ne)
    refine g_goto hC dL_law_559 (tgt := 2418) (by decide) ?_
    refine g_lv [2, 3, 4, 5, 6] rfl ?_
    exact kk _ _ _ hP
  · obtain ⟨q0, I1⟩ := q
    obtain ⟨hq, h3⟩ := h3
    replace hq : q0 = 1 := hq
    subst hq
    refine g_aload_n hC dL_law_506 (i := 1) rfl (q := 1) rfl ?_
    refine g_aload_n hC dL_law_507 (i := 0) rfl (q := 0) rfl ?_
    refine g_iload hC dL_law_508 (q := 4) rfl ?_
    refine g_iconst hC dL_law_510 (v := (1 : Int32)) (by decide) ?_
    refine g_iadd hC dL_law_511 ?_
    refine g_scr hC hX hi1 dL_law_512 ?_
    rw [← ha1]
    refine g_aload_n hC dL_law_513 (i := 3) rfl (q := 3) rfl ?_
    refine g_cW hC hN (M2 := mL_hook) (na := 3) wd_1200 wd_126 wd_1199 wd_1198 ⟨by decide, by decide, by decide⟩ ⟨Nat.le_of_ble_eq_true rfl, Nat.le_of_ble_eq_true rfl⟩ dL_law_514 (As := [.ref (mB E + 0), .int a1, .ref (mB E + 105)]) (st := []) (ow_hook_t1 hC.2.2.2.2.2.2.2.1 hW h1) rfl rfl (Nat.le_of_ble_eq_true rfl) (by rw [hr]; exact hk) ?_
    refine g_istore hC dL_law_517 rfl (by decide) (lv' := [(5, .int (1 : Int32)), (0, .ref b), (1, .ref (mB E + 0)), (2, .ref (mB E + 75)), (3, .ref (mB E + 105)), (4, .int i)]) rfl ?_
    refine g_aload_n hC dL_law_519 (i := 2) rfl (q := 3) rfl ?_
    refine g_aload_n hC dL_law_520 (i := 0) rfl (q := 1) rfl ?_
    refine g_iload hC dL_law_521 (q := 5) rfl ?_
    refine g_iconst hC dL_law_523 (v := (1 : Int32)) (by decide) ?_
    refine g_iadd hC dL_law_524 ?_
    refine g_scr hC hX hi1 dL_law_525 ?_
    rw [← ha1]
    refine g_cV1 hC cv_X12_hook wd_2046 ⟨Nat.le_of_ble_eq_true rfl, Nat.le_of_ble_eq_true rfl⟩ rfl (by decide) dL_law_526 (As := [.int a1]) (st := []) (ok_X12_hook hC.2.2.2.2.2.2.2.1 hW h2) rfl rfl (Nat.le_of_ble_eq_true rfl) (by rw [hr]; exact hk) ?_
    refine g_istore hC dL_law_529 rfl (by decide) (lv' := [(6, .int o2.1), (5, .int (1 : Int32)), (0, .ref b), (1, .ref (mB E + 0)), (2, .ref (mB E + 75)), (3, .ref (mB E + 105)), (4, .int i)]) rfl ?_
    refine g_aload_n hC dL_law_531 (i := 2) rfl (q := 4) rfl ?_
    refine g_cV1 hC cv_X12_thrown wd_1835 ⟨Nat.le_of_ble_eq_true rfl, Nat.le_of_ble_eq_true rfl⟩ rfl (by decide) dL_law_532 (As := []) (st := []) (ok_X12_thrown hC.2.2.2.2.2.2.2.1 hW h3) rfl rfl (Nat.le_of_ble_eq_true rfl) (by rw [hr]; exact hk) ?_
    refine g_iload hC dL_law_535 (q := 1) rfl ?_
    refine g_ic_eq hC dL_law_537 (tgt := 542) (by decide) (fun _ => ?_) (fun ne => absurd rfl ne)
    refine g_iload hC dL_law_542 (q := 1) rfl ?_
    refine g_if_ne hC dL_law_544 (tgt := 559) (by decide) (fun _ => ?_) (fun e => absurd e (by decide))
    refine g_goto hC dL_law_559 (tgt := 2418) (by decide) ?_
    refine g_lv [2, 3, 4, 5, 6] rfl ?_
    exact kk _ _ _ hP
def st_tune (Fu : Nat) (I : mIT) (R : mRT) (L : mLT) (a1 : Int32) (P : mIT → mRT → mLT → Prop) : Prop := (∃ o, f_X11_tune Fu R I a1 = some (.inl o) ∧ ∃ o2, f_X12_tune Fu I a1 = some o2 ∧ f_X12_thrown Fu o2.2 = some 0 ∧ o = o2.1 ∧ P o2.2 R (mUL L 105 0 (o).toInt64)) ∨ (∃ q, f_X11_tune Fu R I a1 = some (.inr q) ∧ ∃ o2, f_X12_tune Fu q.2 a1 = some o2 ∧ (q.1 = 1 ∧ f_X12_thrown Fu o2.2 = some 1) ∧ P o2.2 R L)
set_option maxRecDepth 20000 in
theorem lc_tune {X : mXT} {E : mEn} (hC : mC X E mLaw RL code) (hN : va_Nc "java/lang/IllegalArgumentException" "java/util/NoSuchElementException" X.2.2.2.1) (hr : X.2.2.2.2.2.2.2.2.2.2.1 = (1147, 45333)) {b Ln : Nat} {xs : Nat → Int32} (hX : va_X b Ln xs X.2.2.2.1 E.2.2.1 ∧ b < mB E) {i : Int32} {Fu : Nat} {I : mIT} {R : mRT} {L : mLT} {k z : Nat} (hW : mWd R) (hk : k + 1 ≤ 1147 ∧ z + 6 ≤ 45333) {a1 : Int32} (hi1 : vp_in (i + 1) Ln) (ha1 : a1 = xs (i + 1).toNatClampNeg) {P : mIT → mRT → mLT → Prop} (hP : st_tune Fu I R L a1 P) (kk : ∀ (I' : mIT) (R' : mRT) (L' : mLT), P I' R' L' → mG X E 2418 [(0, .ref b), (1, .ref (mB E + 0)), (2, .ref (mB E + 75)), (3, .ref (mB E + 105)), (4, .int i)] [] 106 1 I' R' L' (k + 1) (z + 6)) : mG X E 562 [(0, .ref b), (1, .ref (mB E + 0)), (2, .ref (mB E + 75)), (3, .ref (mB E + 105)), (4, .int i)] [] 106 1 I R L k z := by
  rcases hP with ⟨o, h1, o2, h2, h3, h4, hP⟩ | ⟨q, h1, o2, h2, h3, hP⟩
  · refine g_aload_n hC dL_law_562 (i := 1) rfl (q := 1) rfl ?_
    refine g_aload_n hC dL_law_563 (i := 0) rfl (q := 0) rfl ?_
    refine g_iload hC dL_law_564 (q := 4) rfl ?_
    refine g_iconst hC dL_law_566 (v := (1 : Int32)) (by decide) ?_
    refine g_iadd hC dL_law_567 ?_
    refine g_scr hC hX hi1 dL_law_568 ?_
    rw [← ha1]
    refine g_aload_n hC dL_law_569 (i := 3) rfl (q := 3) rfl ?_
    refine g_cW hC hN (M2 := mL_tune) (na := 3) wd_1213 wd_126 wd_1212 wd_1211 ⟨by decide, by decide, by decide⟩ ⟨Nat.le_of_ble_eq_true rfl, Nat.le_of_ble_eq_true rfl⟩ dL_law_570 (As := [.ref (mB E + 0), .int a1, .ref (mB E + 105)]) (st := []) (ow_tune_r hC.2.2.2.2.2.2.2.1 hW h1) rfl rfl (Nat.le_of_ble_eq_true rfl) (by rw [hr]; exact hk) ?_
    refine g_istore hC dL_law_573 rfl (by decide) (lv' := [(5, .int (0 : Int32)), (0, .ref b), (1, .ref (mB E + 0)), (2, .ref (mB E + 75)), (3, .ref (mB E + 105)), (4, .int i)]) rfl ?_
    refine g_aload_n hC dL_law_575 (i := 2) rfl (q := 3) rfl ?_
    refine g_aload_n hC dL_law_576 (i := 0) rfl (q := 1) rfl ?_
    refine g_iload hC dL_law_577 (q := 5) rfl ?_
    refine g_iconst hC dL_law_579 (v := (1 : Int32)) (by decide) ?_
    refine g_iadd hC dL_law_580 ?_
    refine g_scr hC hX hi1 dL_law_581 ?_
    rw [← ha1]
    refine g_cV1 hC cv_X12_tune wd_2050 ⟨Nat.le_of_ble_eq_true rfl, Nat.le_of_ble_eq_true rfl⟩ rfl (by decide) dL_law_582 (As := [.int a1]) (st := []) (ok_X12_tune hC.2.2.2.2.2.2.2.1 hW h2) rfl rfl (Nat.le_of_ble_eq_true rfl) (by rw [hr]; exact hk) ?_
    refine g_istore hC dL_law_585 rfl (by decide) (lv' := [(6, .int o2.1), (5, .int (0 : Int32)), (0, .ref b), (1, .ref (mB E + 0)), (2, .ref (mB E + 75)), (3, .ref (mB E + 105)), (4, .int i)]) rfl ?_
    refine g_aload_n hC dL_law_587 (i := 2) rfl (q := 4) rfl ?_
    refine g_cV1 hC cv_X12_thrown wd_1835 ⟨Nat.le_of_ble_eq_true rfl, Nat.le_of_ble_eq_true rfl⟩ rfl (by decide) dL_law_588 (As := []) (st := []) (ok_X12_thrown hC.2.2.2.2.2.2.2.1 hW h3) rfl rfl (Nat.le_of_ble_eq_true rfl) (by rw [hr]; exact hk) ?_
    refine g_iload hC dL_law_591 (q := 1) rfl ?_
    refine g_ic_eq hC dL_law_593 (tgt := 598) (by decide) (fun _ => ?_) (fun ne => absurd rfl ne)
    refine g_iload hC dL_law_598 (q := 1) rfl ?_
    refine g_if_ne hC dL_law_600 (tgt := 615) (by decide) (fun ne => absurd rfl ne) (fun _ => ?_)
    refine g_aload_n hC dL_law_603 (i := 3) rfl (q := 5) rfl ?_
    refine g_iconst hC dL_law_604 (v := (0 : Int32)) (by decide) ?_
    refine g_lald hC (len := 1) rfl (by decide) (inB_in (by decide)) dL_law_605 ?_
    refine g_iload hC dL_law_606 (q := 0) rfl ?_
    refine g_i2l hC dL_law_608 ?_
    refine g_lcmp hC dL_law_609 ?_
    have hcmp : (mUL L 105 0 (o).toInt64) 105 (0 : Int32).toNatClampNeg = (o2.1).toInt64 := (show mUL _ 105 0 _ 105 0 = _ from by simp only [mUL, and_self, if_true]; rw [h4])
    refine g_if_eq hC dL_law_610 (tgt := 615) (by decide) (fun _ => ?_) (fun ne => absurd (by rw [hcmp]; exact lg_same _) ne)
    refine g_goto hC dL_law_615 (tgt := 2418) (by decide) ?_
    refine g_lv [2, 3, 4, 5, 6] rfl ?_
    exact kk _ _ _ hP
  · obtain ⟨q0, I1⟩ := q
    obtain ⟨hq, h3⟩ := h3
    replace hq : q0 = 1 := hq
    subst hq
    refine g_aload_n hC dL_law_562 (i := 1) rfl (q := 1) rfl ?_
    refine g_aload_n hC dL_law_563 (i := 0) rfl (q := 0) rfl ?_
    refine g_iload hC dL_law_564 (q := 4) rfl ?_
    refine g_iconst hC dL_law_566 (v := (1 : Int32)) (by decide) ?_
    refine g_iadd hC dL_law_567 ?_
    refine g_scr hC hX hi1 dL_law_568 ?_
    rw [← ha1]
    refine g_aload_n hC dL_law_569 (i := 3) rfl (q := 3) rfl ?_
    refine g_cW hC hN (M2 := mL_tune) (na := 3) wd_1213 wd_126 wd_1212 wd_1211 ⟨by decide, by decide, by decide⟩ ⟨Nat.le_of_ble_eq_true rfl, Nat.le_of_ble_eq_true rfl⟩ dL_law_570 (As := [.ref (mB E + 0), .int a1, .ref (mB E + 105)]) (st := []) (ow_tune_t1 hC.2.2.2.2.2.2.2.1 hW h1) rfl rfl (Nat.le_of_ble_eq_true rfl) (by rw [hr]; exact hk) ?_
    refine g_istore hC dL_law_573 rfl (by decide) (lv' := [(5, .int (1 : Int32)), (0, .ref b), (1, .ref (mB E + 0)), (2, .ref (mB E + 75)), (3, .ref (mB E + 105)), (4, .int i)]) rfl ?_
    refine g_aload_n hC dL_law_575 (i := 2) rfl (q := 3) rfl ?_
    refine g_aload_n hC dL_law_576 (i := 0) rfl (q := 1) rfl ?_
    refine g_iload hC dL_law_577 (q := 5) rfl ?_
    refine g_iconst hC dL_law_579 (v := (1 : Int32)) (by decide) ?_
    refine g_iadd hC dL_law_580 ?_
    refine g_scr hC hX hi1 dL_law_581 ?_
    rw [← ha1]
    refine g_cV1 hC cv_X12_tune wd_2050 ⟨Nat.le_of_ble_eq_true rfl, Nat.le_of_ble_eq_true rfl⟩ rfl (by decide) dL_law_582 (As := [.int a1]) (st := []) (ok_X12_tune hC.2.2.2.2.2.2.2.1 hW h2) rfl rfl (Nat.le_of_ble_eq_true rfl) (by rw [hr]; exact hk) ?_
    refine g_istore hC dL_law_585 rfl (by decide) (lv' := [(6, .int o2.1), (5, .int (1 : Int32)), (0, .ref b), (1, .ref (mB E + 0)), (2, .ref (mB E + 75)), (3, .ref (mB E + 105)), (4, .int i)]) rfl ?_
    refine g_aload_n hC dL_law_587 (i := 2) rfl (q := 4) rfl ?_
    refine g_cV1 hC cv_X12_thrown wd_1835 ⟨Nat.le_of_ble_eq_true rfl, Nat.le_of_ble_eq_true rfl⟩ rfl (by decide) dL_law_588 (As := []) (st := []) (ok_X12_thrown hC.2.2.2.2.2.2.2.1 hW h3) rfl rfl (Nat.le_of_ble_eq_true rfl) (by rw [hr]; exact hk) ?_
    refine g_iload hC dL_law_591 (q := 1) rfl ?_
    refine g_ic_eq hC dL_law_593 (tgt := 598) (by decide) (fun _ => ?_) (fun ne => absurd rfl ne)
    refine g_iload hC dL_law_598 (q := 1) rfl ?_
    refine g_if_ne hC dL_law_600 (tgt := 615) (by decide) (fun _ => ?_) (fun e => absurd e (by decide))
    refine g_goto hC dL_law_615 (tgt := 2418) (by decide) ?_
    refine g_lv [2, 3, 4, 5, 6] rfl ?_
    exact kk _ _ _ hP
def st_change (Fu : Nat) (I : mIT) (R : mRT) (L : mLT) (a1 : Int32) (P : mIT → mRT → mLT → Prop) : Prop := (∃ o, f_X11_change Fu R I a1 = some (.inl o) ∧ ∃ o2, f_X12_change Fu I a1 = some o2 ∧ f_X12_thrown Fu o2.2 = some 0 ∧ o = o2.1 ∧ P o2.2 R (mUL L 105 0 (o).toInt64)) ∨ (∃ q, f_X11_change Fu R I a1 = some (.inr q) ∧ ∃ o2, f_X12_change Fu q.2 a1 = some o2 ∧ (q.1 = 1 ∧ f_X12_thrown Fu o2.2 = some 1) ∧ P o2.2 R L)
set_option maxRecDepth 20000 in
theorem lc_change {X : mXT} {E : mEn} (hC : mC X E mLaw RL code) (hN : va_Nc "java/lang/IllegalArgumentException" "java/util/NoSuchElementException" X.2.2.2.1) (hr : X.2.2.2.2.2.2.2.2.2.2.1 = (1147, 45333)) {b Ln : Nat} {xs : Nat → Int32} (hX : va_X b Ln xs X.2.2.2.1 E.2.2.1 ∧ b < mB E) {i : Int32} {Fu : Nat} {I : mIT} {R : mRT} {L : mLT} {k z : Nat} (hW : mWd R) (hk : k + 1 ≤ 1147 ∧ z + 6 ≤ 45333) {a1 : Int32} (hi1 : vp_in (i + 1) Ln) (ha1 : a1 = xs (i + 1).toNatClampNeg) {P : mIT → mRT → mLT → Prop} (hP : st_change Fu I R L a1 P) (kk : ∀ (I' : mIT) (R' : mRT) (L' : mLT), P I' R' L' → mG X E 2418 [(0, .ref b), (1, .ref (mB E + 0)), (2, .ref (mB E + 75)), (3, .ref (mB E + 105)), (4, .int i)] [] 106 1 I' R' L' (k + 1) (z + 6)) : mG X E 618 [(0, .ref b), (1, .ref (mB E + 0)), (2, .ref (mB E + 75)), (3, .ref (mB E + 105)), (4, .int i)] [] 106 1 I R L k z := by
  rcases hP with ⟨o, h1, o2, h2, h3, h4, hP⟩ | ⟨q, h1, o2, h2, h3, hP⟩
  · refine g_aload_n hC dL_law_618 (i := 1) rfl (q := 1) rfl ?_
    refine g_aload_n hC dL_law_619 (i := 0) rfl (q := 0) rfl ?_
    refine g_iload hC dL_law_620 (q := 4) rfl ?_
    refine g_iconst hC dL_law_622 (v := (1 : Int32)) (by decide) ?_
    refine g_iadd hC dL_law_623 ?_
    refine g_scr hC hX hi1 dL_law_624 ?_
    rw [← ha1]
    refine g_aload_n hC dL_law_625 (i := 3) rfl (q := 3) rfl ?_
    refine g_cW hC hN (M2 := mL_change) (na := 3) wd_1225 wd_126 wd_1224 wd_1223 ⟨by decide, by decide, by decide⟩ ⟨Nat.le_of_ble_eq_true rfl, Nat.le_of_ble_eq_true rfl⟩ dL_law_626 (As := [.ref (mB E + 0), .int a1, .ref (mB E + 105)]) (st := []) (ow_change_r hC.2.2.2.2.2.2.2.1 hW h1) rfl rfl (Nat.le_of_ble_eq_true rfl) (by rw [hr]; exact hk) ?_
    refine g_istore hC dL_law_629 rfl (by decide) (lv' := [(5, .int (0 : Int32)), (0, .ref b), (1, .ref (mB E + 0)), (2, .ref (mB E + 75)), (3, .ref (mB E + 105)), (4, .int i)]) rfl ?_
    refine g_aload_n hC dL_law_631 (i := 2) rfl (q := 3) rfl ?_
    refine g_aload_n hC dL_law_632 (i := 0) rfl (q := 1) rfl ?_
    refine g_iload hC dL_law_633 (q := 5) rfl ?_
    refine g_iconst hC dL_law_635 (v := (1 : Int32)) (by decide) ?_
    refine g_iadd hC dL_law_636 ?_
    refine g_scr hC hX hi1 dL_law_637 ?_
    rw [← ha1]
    refine g_cV1 hC cv_X12_change wd_2054 ⟨Nat.le_of_ble_eq_true rfl, Nat.le_of_ble_eq_true rfl⟩ rfl (by decide) dL_law_638 (As := [.int a1]) (st := []) (ok_X12_change hC.2.2.2.2.2.2.2.1 hW h2) rfl rfl (Nat.le_of_ble_eq_true rfl) (by rw [hr]; exact hk) ?_
    refine g_istore hC dL_law_641 rfl (by decide) (lv' := [(6, .int o2.1), (5, .int (0 : Int32)), (0, .ref b), (1, .ref (mB E + 0)), (2, .ref (mB E + 75)), (3, .ref (mB E + 105)), (4, .int i)]) rfl ?_
    refine g_aload_n hC dL_law_643 (i := 2) rfl (q := 4) rfl ?_
    refine g_cV1 hC cv_X12_thrown wd_1835 ⟨Nat.le_of_ble_eq_true rfl, Nat.le_of_ble_eq_true rfl⟩ rfl (by decide) dL_law_644 (As := []) (st := []) (ok_X12_thrown hC.2.2.2.2.2.2.2.1 hW h3) rfl rfl (Nat.le_of_ble_eq_true rfl) (by rw [hr]; exact hk) ?_
    refine g_iload hC dL_law_647 (q := 1) rfl ?_
    refine g_ic_eq hC dL_law_649 (tgt := 654) (by decide) (fun _ => ?_) (fun ne => absurd rfl ne)
    refine g_iload hC dL_law_654 (q := 1) rfl ?_
    refine g_if_ne hC dL_law_656 (tgt := 671) (by decide) (fun ne => absurd rfl ne) (fun _ => ?_)
    refine g_aload_n hC dL_law_659 (i := 3) rfl (q := 5) rfl ?_
    refine g_iconst hC dL_law_660 (v := (0 : Int32)) (by decide) ?_
    refine g_lald hC (len := 1) rfl (by decide) (inB_in (by decide)) dL_law_661 ?_
    refine g_iload hC dL_law_662 (q := 0) rfl ?_
    refine g_i2l hC dL_law_664 ?_
    refine g_lcmp hC dL_law_665 ?_
    have hcmp : (mUL L 105 0 (o).toInt64) 105 (0 : Int32).toNatClampNeg = (o2.1).toInt64 := (show mUL _ 105 0 _ 105 0 = _ from by simp only [mUL, and_self, if_true]; rw [h4])
    refine g_if_eq hC dL_law_666 (tgt := 671) (by decide) (fun _ => ?_) (fun ne => absurd (by rw [hcmp]; exact lg_same _) ne)
    refine g_goto hC dL_law_671 (tgt := 2418) (by decide) ?_
    refine g_lv [2, 3, 4, 5, 6] rfl ?_
    exact kk _ _ _ hP
  · obtain ⟨q0, I1⟩ := q
    obtain ⟨hq, h3⟩ := h3
    replace hq : q0 = 1 := hq
    subst hq
    refine g_aload_n hC dL_law_618 (i := 1) rfl (q := 1) rfl ?_
    refine g_aload_n hC dL_law_619 (i := 0) rfl (q := 0) rfl ?_
    refine g_iload hC dL_law_620 (q := 4) rfl ?_
    refine g_iconst hC dL_law_622 (v := (1 : Int32)) (by decide) ?_
    refine g_iadd hC dL_law_623 ?_
    refine g_scr hC hX hi1 dL_law_624 ?_
    rw [← ha1]
    refine g_aload_n hC dL_law_625 (i := 3) rfl (q := 3) rfl ?_
    refine g_cW hC hN (M2 := mL_change) (na := 3) wd_1225 wd_126 wd_1224 wd_1223 ⟨by decide, by decide, by decide⟩ ⟨Nat.le_of_ble_eq_true rfl, Nat.le_of_ble_eq_true rfl⟩ dL_law_626 (As := [.ref (mB E + 0), .int a1, .ref (mB E + 105)]) (st := []) (ow_change_t1 hC.2.2.2.2.2.2.2.1 hW h1) rfl rfl (Nat.le_of_ble_eq_true rfl) (by rw [hr]; exact hk) ?_
    refine g_istore hC dL_law_629 rfl (by decide) (lv' := [(5, .int (1 : Int32)), (0, .ref b), (1, .ref (mB E + 0)), (2, .ref (mB E + 75)), (3, .ref (mB E + 105)), (4, .int i)]) rfl ?_
    refine g_aload_n hC dL_law_631 (i := 2) rfl (q := 3) rfl ?_
    refine g_aload_n hC dL_law_632 (i := 0) rfl (q := 1) rfl ?_
    refine g_iload hC dL_law_633 (q := 5) rfl ?_
    refine g_iconst hC dL_law_635 (v := (1 : Int32)) (by decide) ?_
    refine g_iadd hC dL_law_636 ?_
    refine g_scr hC hX hi1 dL_law_637 ?_
    rw [← ha1]
    refine g_cV1 hC cv_X12_change wd_2054 ⟨Nat.le_of_ble_eq_true rfl, Nat.le_of_ble_eq_true rfl⟩ rfl (by decide) dL_law_638 (As := [.int a1]) (st := []) (ok_X12_change hC.2.2.2.2.2.2.2.1 hW h2) rfl rfl (Nat.le_of_ble_eq_true rfl) (by rw [hr]; exact hk) ?_
    refine g_istore hC dL_law_641 rfl (by decide) (lv' := [(6, .int o2.1), (5, .int (1 : Int32)), (0, .ref b), (1, .ref (mB E + 0)), (2, .ref (mB E + 75)), (3, .ref (mB E + 105)), (4, .int i)]) rfl ?_
    refine g_aload_n hC dL_law_643 (i := 2) rfl (q := 4) rfl ?_
    refine g_cV1 hC cv_X12_thrown wd_1835 ⟨Nat.le_of_ble_eq_true rfl, Nat.le_of_ble_eq_true rfl⟩ rfl (by decide) dL_law_644 (As := []) (st := []) (ok_X12_thrown hC.2.2.2.2.2.2.2.1 hW h3) rfl rfl (Nat.le_of_ble_eq_true rfl) (by rw [hr]; exact hk) ?_
    refine g_iload hC dL_law_647 (q := 1) rfl ?_
    refine g_ic_eq hC dL_law_649 (tgt := 654) (by decide) (fun _ => ?_) (fun ne => absurd rfl ne)
    refine g_iload hC dL_law_654 (q := 1) rfl ?_
    refine g_if_ne hC dL_law_656 (tgt := 671) (by decide) (fun _ => ?_) (fun e => absurd e (by decide))
    refine g_goto hC dL_law_671 (tgt := 2418) (by decide) ?_
    refine g_lv [2, 3, 4, 5, 6] rfl ?_
    exact kk _ _ _ hP
def st_days (Fu : Nat) (I : mIT) (R : mRT) (L : mLT) (a1 : Int32) (P : mIT → mRT → mLT → Prop) : Prop := ∃ o, f_X11_days Fu R I a1 = some o ∧ ∃ o2, f_X12_days Fu o.2 a1 = some o2 ∧ o.1 = o2.1 ∧ P o2.2 R L
set_option maxRecDepth 20000 in
theorem lc_days {X : mXT} {E : mEn} (hC : mC X E mLaw RL code) (hN : va_Nc "java/lang/IllegalArgumentException" "java/util/NoSuchElementException" X.2.2.2.1) (hr : X.2.2.2.2.2.2.2.2.2.2.1 = (1147, 45333)) {b Ln : Nat} {xs : Nat → Int32} (hX : va_X b Ln xs X.2.2.2.1 E.2.2.1 ∧ b < mB E) {i : Int32} {Fu : Nat} {I : mIT} {R : mRT} {L : mLT} {k z : Nat} (hW : mWd R) (hk : k + 1 ≤ 1147 ∧ z + 6 ≤ 45333) {a1 : Int32} (hi1 : vp_in (i + 1) Ln) (ha1 : a1 = xs (i + 1).toNatClampNeg) {P : mIT → mRT → mLT → Prop} (hP : st_days Fu I R L a1 P) (kk : ∀ (I' : mIT) (R' : mRT) (L' : mLT), P I' R' L' → mG X E 2418 [(0, .ref b), (1, .ref (mB E + 0)), (2, .ref (mB E + 75)), (3, .ref (mB E + 105)), (4, .int i)] [] 106 1 I' R' L' (k + 1) (z + 6)) : mG X E 674 [(0, .ref b), (1, .ref (mB E + 0)), (2, .ref (mB E + 75)), (3, .ref (mB E + 105)), (4, .int i)] [] 106 1 I R L k z := by
  obtain ⟨o, h1, o2, h2, hP⟩ := hP
  refine g_aload_n hC dL_law_674 (i := 1) rfl (q := 1) rfl ?_
  refine g_aload_n hC dL_law_675 (i := 0) rfl (q := 0) rfl ?_
  refine g_iload hC dL_law_676 (q := 4) rfl ?_
  refine g_iconst hC dL_law_678 (v := (1 : Int32)) (by decide) ?_
  refine g_iadd hC dL_law_679 ?_
  refine g_scr hC hX hi1 dL_law_680 ?_
  rw [← ha1]
  refine g_cV1 hC cv_X11_days wd_535 ⟨Nat.le_of_ble_eq_true rfl, Nat.le_of_ble_eq_true rfl⟩ rfl (by decide) dL_law_681 (As := [.int a1]) (st := []) (ok_X11_days hC.2.2.2.2.2.2.2.1 hW h1) rfl rfl (Nat.le_of_ble_eq_true rfl) (by rw [hr]; exact ⟨Nat.le_trans (Nat.le_add_right _ _) hk.1, Nat.le_trans (Nat.le_add_right _ _) hk.2⟩) ?_
  refine g_aload_n hC dL_law_684 (i := 2) rfl (q := 2) rfl ?_
  refine g_aload_n hC dL_law_685 (i := 0) rfl (q := 0) rfl ?_
  refine g_iload hC dL_law_686 (q := 4) rfl ?_
  refine g_iconst hC dL_law_688 (v := (1 : Int32)) (by decide) ?_
  refine g_iadd hC dL_law_689 ?_
  refine g_scr hC hX hi1 dL_law_690 ?_
  rw [← ha1]
  refine g_cV1 hC cv_X12_days wd_2058 ⟨Nat.le_of_ble_eq_true rfl, Nat.le_of_ble_eq_true rfl⟩ rfl (by decide) dL_law_691 (As := [.int a1]) (st := [.int o.1]) (ok_X12_days hC.2.2.2.2.2.2.2.1 hW h2) rfl rfl (Nat.le_of_ble_eq_true rfl) (by rw [hr]; exact ⟨Nat.le_trans (Nat.le_add_right _ _) hk.1, Nat.le_trans (Nat.le_add_right _ _) hk.2⟩) ?_
  refine g_ic_eq hC dL_law_694 (tgt := 2418) (by decide) (fun _ => ?_) (fun ne => absurd hP.1 ne)
  refine g_wid (Nat.le_add_right _ 1) (Nat.le_add_right _ 6) ?_
  exact kk _ _ _ hP.2
def st_hang (Fu : Nat) (I : mIT) (R : mRT) (L : mLT) (a1 : Int32) (a2 : Int32) (P : mIT → mRT → mLT → Prop) : Prop := (∃ o, f_X11_hang Fu R I a1 a2 = some (.inl o) ∧ ∃ o2, f_X12_hang Fu o.2 a1 a2 = some o2 ∧ f_X12_thrown Fu o2.2 = some 0 ∧ o.1 = o2.1 ∧ P o2.2 R (mUL L 105 0 (o.1).toInt64)) ∨ (∃ q, f_X11_hang Fu R I a1 a2 = some (.inr q) ∧ ∃ o2, f_X12_hang Fu q.2 a1 a2 = some o2 ∧ (q.1 = 1 ∧ f_X12_thrown Fu o2.2 = some 1) ∧ P o2.2 R L)
set_option maxRecDepth 20000 in
theorem lc_hang {X : mXT} {E : mEn} (hC : mC X E mLaw RL code) (hN : va_Nc "java/lang/IllegalArgumentException" "java/util/NoSuchElementException" X.2.2.2.1) (hr : X.2.2.2.2.2.2.2.2.2.2.1 = (1147, 45333)) {b Ln : Nat} {xs : Nat → Int32} (hX : va_X b Ln xs X.2.2.2.1 E.2.2.1 ∧ b < mB E) {i : Int32} {Fu : Nat} {I : mIT} {R : mRT} {L : mLT} {k z : Nat} (hW : mWd R) (hk : k + 1 ≤ 1147 ∧ z + 6 ≤ 45333) {a1 : Int32} (hi1 : vp_in (i + 1) Ln) (ha1 : a1 = xs (i + 1).toNatClampNeg) {a2 : Int32} (hi2 : vp_in (i + 2) Ln) (ha2 : a2 = xs (i + 2).toNatClampNeg) {P : mIT → mRT → mLT → Prop} (hP : st_hang Fu I R L a1 a2 P) (kk : ∀ (I' : mIT) (R' : mRT) (L' : mLT), P I' R' L' → mG X E 2418 [(0, .ref b), (1, .ref (mB E + 0)), (2, .ref (mB E + 75)), (3, .ref (mB E + 105)), (4, .int i)] [] 106 1 I' R' L' (k + 1) (z + 6)) : mG X E 699 [(0, .ref b), (1, .ref (mB E + 0)), (2, .ref (mB E + 75)), (3, .ref (mB E + 105)), (4, .int i)] [] 106 1 I R L k z := by
  rcases hP with ⟨o, h1, o2, h2, h3, h4, hP⟩ | ⟨q, h1, o2, h2, h3, hP⟩
  · refine g_aload_n hC dL_law_699 (i := 1) rfl (q := 1) rfl ?_
    refine g_aload_n hC dL_law_700 (i := 0) rfl (q := 0) rfl ?_
    refine g_iload hC dL_law_701 (q := 4) rfl ?_
    refine g_iconst hC dL_law_703 (v := (1 : Int32)) (by decide) ?_
    refine g_iadd hC dL_law_704 ?_
    refine g_scr hC hX hi1 dL_law_705 ?_
    rw [← ha1]
    refine g_aload_n hC dL_law_706 (i := 0) rfl (q := 0) rfl ?_
    refine g_iload hC dL_law_707 (q := 4) rfl ?_
    refine g_iconst hC dL_law_709 (v := (2 : Int32)) (by decide) ?_
    refine g_iadd hC dL_law_710 ?_
    refine g_scr hC hX hi2 dL_law_711 ?_
    rw [← ha2]
    refine g_aload_n hC dL_law_712 (i := 3) rfl (q := 3) rfl ?_
    refine g_cW hC hN (M2 := mL_hang) (na := 4) wd_1238 wd_126 wd_1237 wd_1236 ⟨by decide, by decide, by decide⟩ ⟨Nat.le_of_ble_eq_true rfl, Nat.le_of_ble_eq_true rfl⟩ dL_law_713 (As := [.ref (mB E + 0), .int a1, .int a2, .ref (mB E + 105)]) (st := []) (ow_hang_r hC.2.2.2.2.2.2.2.1 hW h1) rfl rfl (Nat.le_of_ble_eq_true rfl) (by rw [hr]; exact hk) ?_
    refine g_istore hC dL_law_716 rfl (by decide) (lv' := [(5, .int (0 : Int32)), (0, .ref b), (1, .ref (mB E + 0)), (2, .ref (mB E + 75)), (3, .ref (mB E + 105)), (4, .int i)]) rfl ?_
    refine g_aload_n hC dL_law_718 (i := 2) rfl (q := 3) rfl ?_
    refine g_aload_n hC dL_law_719 (i := 0) rfl (q := 1) rfl ?_
    refine g_iload hC dL_law_720 (q := 5) rfl ?_
    refine g_iconst hC dL_law_722 (v := (1 : Int32)) (by decide) ?_
    refine g_iadd hC dL_law_723 ?_
    refine g_scr hC hX hi1 dL_law_724 ?_
    rw [← ha1]
    refine g_aload_n hC dL_law_725 (i := 0) rfl (q := 1) rfl ?_
    refine g_iload hC dL_law_726 (q := 5) rfl ?_
    refine g_iconst hC dL_law_728 (v := (2 : Int32)) (by decide) ?_
    refine g_iadd hC dL_law_729 ?_
    refine g_scr hC hX hi2 dL_law_730 ?_
    rw [← ha2]
    refine g_cV1 hC cv_X12_hang wd_2078 ⟨Nat.le_of_ble_eq_true rfl, Nat.le_of_ble_eq_true rfl⟩ rfl (by decide) dL_law_731 (As := [.int a1, .int a2]) (st := []) (ok_X12_hang hC.2.2.2.2.2.2.2.1 hW h2) rfl rfl (Nat.le_of_ble_eq_true rfl) (by rw [hr]; exact hk) ?_
    refine g_istore hC dL_law_734 rfl (by decide) (lv' := [(6, .int o2.1), (5, .int (0 : Int32)), (0, .ref b), (1, .ref (mB E + 0)), (2, .ref (mB E + 75)), (3, .ref (mB E + 105)), (4, .int i)]) rfl ?_
    refine g_aload_n hC dL_law_736 (i := 2) rfl (q := 4) rfl ?_
    refine g_cV1 hC cv_X12_thrown wd_1835 ⟨Nat.le_of_ble_eq_true rfl, Nat.le_of_ble_eq_true rfl⟩ rfl (by decide) dL_law_737 (As := []) (st := []) (ok_X12_thrown hC.2.2.2.2.2.2.2.1 hW h3) rfl rfl (Nat.le_of_ble_eq_true rfl) (by rw [hr]; exact hk) ?_
    refine g_iload hC dL_law_740 (q := 1) rfl ?_
    refine g_ic_eq hC dL_law_742 (tgt := 747) (by decide) (fun _ => ?_) (fun ne => absurd rfl ne)
    refine g_iload hC dL_law_747 (q := 1) rfl ?_
    refine g_if_ne hC dL_law_749 (tgt := 764) (by decide) (fun ne => absurd rfl ne) (fun _ => ?_)
    refine g_aload_n hC dL_law_752 (i := 3) rfl (q := 5) rfl ?_
    refine g_iconst hC dL_law_753 (v := (0 : Int32)) (by decide) ?_
    refine g_lald hC (len := 1) rfl (by decide) (inB_in (by decide)) dL_law_754 ?_
    refine g_iload hC dL_law_755 (q := 0) rfl ?_
    refine g_i2l hC dL_law_757 ?_
    refine g_lcmp hC dL_law_758 ?_
    have hcmp : (mUL L 105 0 (o.1).toInt64) 105 (0 : Int32).toNatClampNeg = (o2.1).toInt64 := (show mUL _ 105 0 _ 105 0 = _ from by simp only [mUL, and_self, if_true]; rw [h4])
    refine g_if_eq hC dL_law_759 (tgt := 764) (by decide) (fun _ => ?_) (fun ne => absurd (by rw [hcmp]; exact lg_same _) ne)
    refine g_goto hC dL_law_764 (tgt := 2418) (by decide) ?_
    refine g_lv [2, 3, 4, 5, 6] rfl ?_
    exact kk _ _ _ hP
  · obtain ⟨q0, I1⟩ := q
    obtain ⟨hq, h3⟩ := h3
    replace hq : q0 = 1 := hq
    subst hq
    refine g_aload_n hC dL_law_699 (i := 1) rfl (q := 1) rfl ?_
    refine g_aload_n hC dL_law_700 (i := 0) rfl (q := 0) rfl ?_
    refine g_iload hC dL_law_701 (q := 4) rfl ?_
    refine g_iconst hC dL_law_703 (v := (1 : Int32)) (by decide) ?_
    refine g_iadd hC dL_law_704 ?_
    refine g_scr hC hX hi1 dL_law_705 ?_
    rw [← ha1]
    refine g_aload_n hC dL_law_706 (i := 0) rfl (q := 0) rfl ?_
    refine g_iload hC dL_law_707 (q := 4) rfl ?_
    refine g_iconst hC dL_law_709 (v := (2 : Int32)) (by decide) ?_
    refine g_iadd hC dL_law_710 ?_
    refine g_scr hC hX hi2 dL_law_711 ?_
    rw [← ha2]
    refine g_aload_n hC dL_law_712 (i := 3) rfl (q := 3) rfl ?_
    refine g_cW hC hN (M2 := mL_hang) (na := 4) wd_1238 wd_126 wd_1237 wd_1236 ⟨by decide, by decide, by decide⟩ ⟨Nat.le_of_ble_eq_true rfl, Nat.le_of_ble_eq_true rfl⟩ dL_law_713 (As := [.ref (mB E + 0), .int a1, .int a2, .ref (mB E + 105)]) (st := []) (ow_hang_t1 hC.2.2.2.2.2.2.2.1 hW h1) rfl rfl (Nat.le_of_ble_eq_true rfl) (by rw [hr]; exact hk) ?_
    refine g_istore hC dL_law_716 rfl (by decide) (lv' := [(5, .int (1 : Int32)), (0, .ref b), (1, .ref (mB E + 0)), (2, .ref (mB E + 75)), (3, .ref (mB E + 105)), (4, .int i)]) rfl ?_
    refine g_aload_n hC dL_law_718 (i := 2) rfl (q := 3) rfl ?_
    refine g_aload_n hC dL_law_719 (i := 0) rfl (q := 1) rfl ?_
    refine g_iload hC dL_law_720 (q := 5) rfl ?_
    refine g_iconst hC dL_law_722 (v := (1 : Int32)) (by decide) ?_
    refine g_iadd hC dL_law_723 ?_
    refine g_scr hC hX hi1 dL_law_724 ?_
    rw [← ha1]
    refine g_aload_n hC dL_law_725 (i := 0) rfl (q := 1) rfl ?_
    refine g_iload hC dL_law_726 (q := 5) rfl ?_
    refine g_iconst hC dL_law_728 (v := (2 : Int32)) (by decide) ?_
    refine g_iadd hC dL_law_729 ?_
    refine g_scr hC hX hi2 dL_law_730 ?_
    rw [← ha2]
    refine g_cV1 hC cv_X12_hang wd_2078 ⟨Nat.le_of_ble_eq_true rfl, Nat.le_of_ble_eq_true rfl⟩ rfl (by decide) dL_law_731 (As := [.int a1, .int a2]) (st := []) (ok_X12_hang hC.2.2.2.2.2.2.2.1 hW h2) rfl rfl (Nat.le_of_ble_eq_true rfl) (by rw [hr]; exact hk) ?_
    refine g_istore hC dL_law_734 rfl (by decide) (lv' := [(6, .int o2.1), (5, .int (1 : Int32)), (0, .ref b), (1, .ref (mB E + 0)), (2, .ref (mB E + 75)), (3, .ref (mB E + 105)), (4, .int i)]) rfl ?_
    refine g_aload_n hC dL_law_736 (i := 2) rfl (q := 4) rfl ?_
    refine g_cV1 hC cv_X12_thrown wd_1835 ⟨Nat.le_of_ble_eq_true rfl, Nat.le_of_ble_eq_true rfl⟩ rfl (by decide) dL_law_737 (As := []) (st := []) (ok_X12_thrown hC.2.2.2.2.2.2.2.1 hW h3) rfl rfl (Nat.le_of_ble_eq_true rfl) (by rw [hr]; exact hk) ?_
    refine g_iload hC dL_law_740 (q := 1) rfl ?_
    refine g_ic_eq hC dL_law_742 (tgt := 747) (by decide) (fun _ => ?_) (fun ne => absurd rfl ne)
    refine g_iload hC dL_law_747 (q := 1) rfl ?_
    refine g_if_ne hC dL_law_749 (tgt := 764) (by decide) (fun _ => ?_) (fun e => absurd e (by decide))
    refine g_goto hC dL_law_764 (tgt := 2418) (by decide) ?_
    refine g_lv [2, 3, 4, 5, 6] rfl ?_
    exact kk _ _ _ hP
def st_take (Fu : Nat) (I : mIT) (R : mRT) (L : mLT) (a1 : Int32) (P : mIT → mRT → mLT → Prop) : Prop := (∃ o, f_X11_take Fu R I a1 = some (.inl o) ∧ ∃ o2, f_X12_take Fu o.2 a1 = some o2 ∧ f_X12_thrown Fu o2.2 = some 0 ∧ o.1 = o2.1 ∧ P o2.2 R (mUL L 105 0 (o.1).toInt64)) ∨ (∃ q, f_X11_take Fu R I a1 = some (.inr q) ∧ ∃ o2, f_X12_take Fu q.2 a1 = some o2 ∧ (q.1 = 1 ∧ f_X12_thrown Fu o2.2 = some 1) ∧ P o2.2 R L)
set_option maxRecDepth 20000 in
theorem lc_take {X : mXT} {E : mEn} (hC : mC X E mLaw RL code) (hN : va_Nc "java/lang/IllegalArgumentException" "java/util/NoSuchElementException" X.2.2.2.1) (hr : X.2.2.2.2.2.2.2.2.2.2.1 = (1147, 45333)) {b Ln : Nat} {xs : Nat → Int32} (hX : va_X b Ln xs X.2.2.2.1 E.2.2.1 ∧ b < mB E) {i : Int32} {Fu : Nat} {I : mIT} {R : mRT} {L : mLT} {k z : Nat} (hW : mWd R) (hk : k + 1 ≤ 1147 ∧ z + 6 ≤ 45333) {a1 : Int32} (hi1 : vp_in (i + 1) Ln) (ha1 : a1 = xs (i + 1).toNatClampNeg) {P : mIT → mRT → mLT → Prop} (hP : st_take Fu I R L a1 P) (kk : ∀ (I' : mIT) (R' : mRT) (L' : mLT), P I' R' L' → mG X E 2418 [(0, .ref b), (1, .ref (mB E + 0)), (2, .ref (mB E + 75)), (3, .ref (mB E + 105)), (4, .int i)] [] 106 1 I' R' L' (k + 1) (z + 6)) : mG X E 767 [(0, .ref b), (1, .ref (mB E + 0)), (2, .ref (mB E + 75)), (3, .ref (mB E + 105)), (4, .int i)] [] 106 1 I R L k z := by
  rcases hP with ⟨o, h1, o2, h2, h3, h4, hP⟩ | ⟨q, h1, o2, h2, h3, hP⟩
  · refine g_aload_n hC dL_law_767 (i := 1) rfl (q := 1) rfl ?_
    refine g_aload_n hC dL_law_768 (i := 0) rfl (q := 0) rfl ?_
    refine g_iload hC dL_law_769 (q := 4) rfl ?_
    refine g_iconst hC dL_law_771 (v := (1 : Int32)) (by decide) ?_
    refine g_iadd hC dL_law_772 ?_
    refine g_scr hC hX hi1 dL_law_773 ?_
    rw [← ha1]
    refine g_aload_n hC dL_law_774 (i := 3) rfl (q := 3) rfl ?_
    refine g_cW hC hN (M2 := mL_take) (na := 3) wd_1249 wd_126 wd_1248 wd_1247 ⟨by decide, by decide, by decide⟩ ⟨Nat.le_of_ble_eq_true rfl, Nat.le_of_ble_eq_true rfl⟩ dL_law_775 (As := [.ref (mB E + 0), .int a1, .ref (mB E + 105)]) (st := []) (ow_take_r hC.2.2.2.2.2.2.2.1 hW h1) rfl rfl (Nat.le_of_ble_eq_true rfl) (by rw [hr]; exact hk) ?_
    refine g_istore hC dL_law_778 rfl (by decide) (lv' := [(5, .int (0 : Int32)), (0, .ref b), (1, .ref (mB E + 0)), (2, .ref (mB E + 75)), (3, .ref (mB E + 105)), (4, .int i)]) rfl ?_
    refine g_aload_n hC dL_law_780 (i := 2) rfl (q := 3) rfl ?_
    refine g_aload_n hC dL_law_781 (i := 0) rfl (q := 1) rfl ?_
    refine g_iload hC dL_law_782 (q := 5) rfl ?_
    refine g_iconst hC dL_law_784 (v := (1 : Int32)) (by decide) ?_
    refine g_iadd hC dL_law_785 ?_
    refine g_scr hC hX hi1 dL_law_786 ?_
    rw [← ha1]
    refine g_cV1 hC cv_X12_take wd_2082 ⟨Nat.le_of_ble_eq_true rfl, Nat.le_of_ble_eq_true rfl⟩ rfl (by decide) dL_law_787 (As := [.int a1]) (st := []) (ok_X12_take hC.2.2.2.2.2.2.2.1 hW h2) rfl rfl (Nat.le_of_ble_eq_true rfl) (by rw [hr]; exact hk) ?_
    refine g_istore hC dL_law_790 rfl (by decide) (lv' := [(6, .int o2.1), (5, .int (0 : Int32)), (0, .ref b), (1, .ref (mB E + 0)), (2, .ref (mB E + 75)), (3, .ref (mB E + 105)), (4, .int i)]) rfl ?_
    refine g_aload_n hC dL_law_792 (i := 2) rfl (q := 4) rfl ?_
    refine g_cV1 hC cv_X12_thrown wd_1835 ⟨Nat.le_of_ble_eq_true rfl, Nat.le_of_ble_eq_true rfl⟩ rfl (by decide) dL_law_793 (As := []) (st := []) (ok_X12_thrown hC.2.2.2.2.2.2.2.1 hW h3) rfl rfl (Nat.le_of_ble_eq_true rfl) (by rw [hr]; exact hk) ?_
    refine g_iload hC dL_law_796 (q := 1) rfl ?_
    refine g_ic_eq hC dL_law_798 (tgt := 803) (by decide) (fun _ => ?_) (fun ne => absurd rfl ne)
    refine g_iload hC dL_law_803 (q := 1) rfl ?_
    refine g_if_ne hC dL_law_805 (tgt := 820) (by decide) (fun ne => absurd rfl ne) (fun _ => ?_)
    refine g_aload_n hC dL_law_808 (i := 3) rfl (q := 5) rfl ?_
    refine g_iconst hC dL_law_809 (v := (0 : Int32)) (by decide) ?_
    refine g_lald hC (len := 1) rfl (by decide) (inB_in (by decide)) dL_law_810 ?_
    refine g_iload hC dL_law_811 (q := 0) rfl ?_
    refine g_i2l hC dL_law_813 ?_
    refine g_lcmp hC dL_law_814 ?_
    have hcmp : (mUL L 105 0 (o.1).toInt64) 105 (0 : Int32).toNatClampNeg = (o2.1).toInt64 := (show mUL _ 105 0 _ 105 0 = _ from by simp only [mUL, and_self, if_true]; rw [h4])
    refine g_if_eq hC dL_law_815 (tgt := 820) (by decide) (fun _ => ?_) (fun ne => absurd (by rw [hcmp]; exact lg_same _) ne)
    refine g_goto hC dL_law_820 (tgt := 2418) (by decide) ?_
    refine g_lv [2, 3, 4, 5, 6] rfl ?_
    exact kk _ _ _ hP
  · obtain ⟨q0, I1⟩ := q
    obtain ⟨hq, h3⟩ := h3
    replace hq : q0 = 1 := hq
    subst hq
    refine g_aload_n hC dL_law_767 (i := 1) rfl (q := 1) rfl ?_
    refine g_aload_n hC dL_law_768 (i := 0) rfl (q := 0) rfl ?_
    refine g_iload hC dL_law_769 (q := 4) rfl ?_
    refine g_iconst hC dL_law_771 (v := (1 : Int32)) (by decide) ?_
    refine g_iadd hC dL_law_772 ?_
    refine g_scr hC hX hi1 dL_law_773 ?_
    rw [← ha1]
    refine g_aload_n hC dL_law_774 (i := 3) rfl (q := 3) rfl ?_
    refine g_cW hC hN (M2 := mL_take) (na := 3) wd_1249 wd_126 wd_1248 wd_1247 ⟨by decide, by decide, by decide⟩ ⟨Nat.le_of_ble_eq_true rfl, Nat.le_of_ble_eq_true rfl⟩ dL_law_775 (As := [.ref (mB E + 0), .int a1, .ref (mB E + 105)]) (st := []) (ow_take_t1 hC.2.2.2.2.2.2.2.1 hW h1) rfl rfl (Nat.le_of_ble_eq_true rfl) (by rw [hr]; exact hk) ?_
    refine g_istore hC dL_law_778 rfl (by decide) (lv' := [(5, .int (1 : Int32)), (0, .ref b), (1, .ref (mB E + 0)), (2, .ref (mB E + 75)), (3, .ref (mB E + 105)), (4, .int i)]) rfl ?_
    refine g_aload_n hC dL_law_780 (i := 2) rfl (q := 3) rfl ?_
    refine g_aload_n hC dL_law_781 (i := 0) rfl (q := 1) rfl ?_
    refine g_iload hC dL_law_782 (q := 5) rfl ?_
    refine g_iconst hC dL_law_784 (v := (1 : Int32)) (by decide) ?_
    refine g_iadd hC dL_law_785 ?_
    refine g_scr hC hX hi1 dL_law_786 ?_
    rw [← ha1]
    refine g_cV1 hC cv_X12_take wd_2082 ⟨Nat.le_of_ble_eq_true rfl, Nat.le_of_ble_eq_true rfl⟩ rfl (by decide) dL_law_787 (As := [.int a1]) (st := []) (ok_X12_take hC.2.2.2.2.2.2.2.1 hW h2) rfl rfl (Nat.le_of_ble_eq_true rfl) (by rw [hr]; exact hk) ?_
    refine g_istore hC dL_law_790 rfl (by decide) (lv' := [(6, .int o2.1), (5, .int (1 : Int32)), (0, .ref b), (1, .ref (mB E + 0)), (2, .ref (mB E + 75)), (3, .ref (mB E + 105)), (4, .int i)]) rfl ?_
    refine g_aload_n hC dL_law_792 (i := 2) rfl (q := 4) rfl ?_
    refine g_cV1 hC cv_X12_thrown wd_1835 ⟨Nat.le_of_ble_eq_true rfl, Nat.le_of_ble_eq_true rfl⟩ rfl (by decide) dL_law_793 (As := []) (st := []) (ok_X12_thrown hC.2.2.2.2.2.2.2.1 hW h3) rfl rfl (Nat.le_of_ble_eq_true rfl) (by rw [hr]; exact hk) ?_
    refine g_iload hC dL_law_796 (q := 1) rfl ?_
    refine g_ic_eq hC dL_law_798 (tgt := 803) (by decide) (fun _ => ?_) (fun ne => absurd rfl ne)
    refine g_iload hC dL_law_803 (q := 1) rfl ?_
    refine g_if_ne hC dL_law_805 (tgt := 820) (by decide) (fun _ => ?_) (fun e => absurd e (by decide))
    refine g_goto hC dL_law_820 (tgt := 2418) (by decide) ?_
    refine g_lv [2, 3, 4, 5, 6] rfl ?_
    exact kk _ _ _ hP
def st_hollow (Fu : Nat) (I : mIT) (R : mRT) (L : mLT) (a1 : Int32) (a2 : Int32) (P : mIT → mRT → mLT → Prop) : Prop := (∃ o, f_X11_hollow Fu R I a1 a2 = some (.inl o) ∧ ∃ o2, f_X12_hollow Fu o.2 a1 a2 = some o2 ∧ f_X12_thrown Fu o2.2 = some 0 ∧ o.1 = o2.1 ∧ P o2.2 R (mUL L 105 0 (o.1).toInt64)) ∨ (∃ q, f_X11_hollow Fu R I a1 a2 = some (.inr q) ∧ ∃ o2, f_X12_hollow Fu q.2 a1 a2 = some o2 ∧ (q.1 = 1 ∧ f_X12_thrown Fu o2.2 = some 1) ∧ P o2.2 R L)
set_option maxRecDepth 20000 in
theorem lc_hollow {X : mXT} {E : mEn} (hC : mC X E mLaw RL code) (hN : va_Nc "java/lang/IllegalArgumentException" "java/util/NoSuchElementException" X.2.2.2.1) (hr : X.2.2.2.2.2.2.2.2.2.2.1 = (1147, 45333)) {b Ln : Nat} {xs : Nat → Int32} (hX : va_X b Ln xs X.2.2.2.1 E.2.2.1 ∧ b < mB E) {i : Int32} {Fu : Nat} {I : mIT} {R : mRT} {L : mLT} {k z : Nat} (hW : mWd R) (hk : k + 1 ≤ 1147 ∧ z + 6 ≤ 45333) {a1 : Int32} (hi1 : vp_in (i + 1) Ln) (ha1 : a1 = xs (i + 1).toNatClampNeg) {a2 : Int32} (hi2 : vp_in (i + 2) Ln) (ha2 : a2 = xs (i + 2).toNatClampNeg) {P : mIT → mRT → mLT → Prop} (hP : st_hollow Fu I R L a1 a2 P) (kk : ∀ (I' : mIT) (R' : mRT) (L' : mLT), P I' R' L' → mG X E 2418 [(0, .ref b), (1, .ref (mB E + 0)), (2, .ref (mB E + 75)), (3, .ref (mB E + 105)), (4, .int i)] [] 106 1 I' R' L' (k + 1) (z + 6)) : mG X E 823 [(0, .ref b), (1, .ref (mB E + 0)), (2, .ref (mB E + 75)), (3, .ref (mB E + 105)), (4, .int i)] [] 106 1 I R L k z := by
  rcases hP with ⟨o, h1, o2, h2, h3, h4, hP⟩ | ⟨q, h1, o2, h2, h3, hP⟩
  · refine g_aload_n hC dL_law_823 (i := 1) rfl (q := 1) rfl ?_
    refine g_aload_n hC dL_law_824 (i := 0) rfl (q := 0) rfl ?_
    refine g_iload hC dL_law_825 (q := 4) rfl ?_
    refine g_iconst hC dL_law_827 (v := (1 : Int32)) (by decide) ?_
    refine g_iadd hC dL_law_828 ?_
    refine g_scr hC hX hi1 dL_law_829 ?_
    rw [← ha1]
    refine g_aload_n hC dL_law_830 (i := 0) rfl (q := 0) rfl ?_
    refine g_iload hC dL_law_831 (q := 4) rfl ?_
    refine g_iconst hC dL_law_833 (v := (2 : Int32)) (by decide) ?_
    refine g_iadd hC dL_law_834 ?_
    refine g_scr hC hX hi2 dL_law_835 ?_
    rw [← ha2]
    refine g_aload_n hC dL_law_836 (i := 3) rfl (q := 3) rfl ?_
    refine g_cW hC hN (M2 := mL_hollow) (na := 4) wd_1256 wd_126 wd_1255 wd_1254 ⟨by decide, by decide, by decide⟩ ⟨Nat.le_of_ble_eq_true rfl, Nat.le_of_ble_eq_true rfl⟩ dL_law_837 (As := [.ref (mB E + 0), .int a1, .int a2, .ref (mB E + 105)]) (st := []) (ow_hollow_r hC.2.2.2.2.2.2.2.1 hW h1) rfl rfl (Nat.le_of_ble_eq_true rfl) (by rw [hr]; exact hk) ?_
    refine g_istore hC dL_law_840 rfl (by decide) (lv' := [(5, .int (0 : Int32)), (0, .ref b), (1, .ref (mB E + 0)), (2, .ref (mB E + 75)), (3, .ref (mB E + 105)), (4, .int i)]) rfl ?_
    refine g_aload_n hC dL_law_842 (i := 2) rfl (q := 3) rfl ?_
    refine g_aload_n hC dL_law_843 (i := 0) rfl (q := 1) rfl ?_
    refine g_iload hC dL_law_844 (q := 5) rfl ?_
    refine g_iconst hC dL_law_846 (v := (1 : Int32)) (by decide) ?_
    refine g_iadd hC dL_law_847 ?_
    refine g_scr hC hX hi1 dL_law_848 ?_
    rw [← ha1]
    refine g_aload_n hC dL_law_849 (i := 0) rfl (q := 1) rfl ?_
    refine g_iload hC dL_law_850 (q := 5) rfl ?_
    refine g_iconst hC dL_law_852 (v := (2 : Int32)) (by decide) ?_
    refine g_iadd hC dL_law_853 ?_
    refine g_scr hC hX hi2 dL_law_854 ?_
    rw [← ha2]
    refine g_cV1 hC cv_X12_hollow wd_2086 ⟨Nat.le_of_ble_eq_true rfl, Nat.le_of_ble_eq_true rfl⟩ rfl (by decide) dL_law_855 (As := [.int a1, .int a2]) (st := []) (ok_X12_hollow hC.2.2.2.2.2.2.2.1 hW h2) rfl rfl (Nat.le_of_ble_eq_true rfl) (by rw [hr]; exact hk) ?_
    refine g_istore hC dL_law_858 rfl (by decide) (lv' := [(6, .int o2.1), (5, .int (0 : Int32)), (0, .ref b), (1, .ref (mB E + 0)), (2, .ref (mB E + 75)), (3, .ref (mB E + 105)), (4, .int i)]) rfl ?_
    refine g_aload_n hC dL_law_860 (i := 2) rfl (q := 4) rfl ?_
    refine g_cV1 hC cv_X12_thrown wd_1835 ⟨Nat.le_of_ble_eq_true rfl, Nat.le_of_ble_eq_true rfl⟩ rfl (by decide) dL_law_861 (As := []) (st := []) (ok_X12_thrown hC.2.2.2.2.2.2.2.1 hW h3) rfl rfl (Nat.le_of_ble_eq_true rfl) (by rw [hr]; exact hk) ?_
    refine g_iload hC dL_law_864 (q := 1) rfl ?_
    refine g_ic_eq hC dL_law_866 (tgt := 871) (by decide) (fun _ => ?_) (fun ne => absurd rfl ne)
    refine g_iload hC dL_law_871 (q := 1) rfl ?_
    refine g_if_ne hC dL_law_873 (tgt := 888) (by decide) (fun ne => absurd rfl ne) (fun _ => ?_)
    refine g_aload_n hC dL_law_876 (i := 3) rfl (q := 5) rfl ?_
    refine g_iconst hC dL_law_877 (v := (0 : Int32)) (by decide) ?_
    refine g_lald hC (len := 1) rfl (by decide) (inB_in (by decide)) dL_law_878 ?_
    refine g_iload hC dL_law_879 (q := 0) rfl ?_
    refine g_i2l hC dL_law_881 ?_
    refine g_lcmp hC dL_law_882 ?_
    have hcmp : (mUL L 105 0 (o.1).toInt64) 105 (0 : Int32).toNatClampNeg = (o2.1).toInt64 := (show mUL _ 105 0 _ 105 0 = _ from by simp only [mUL, and_self, if_true]; rw [h4])
    refine g_if_eq hC dL_law_883 (tgt := 888) (by decide) (fun _ => ?_) (fun ne => absurd (by rw [hcmp]; exact lg_same _) ne)
    refine g_goto hC dL_law_888 (tgt := 2418) (by decide) ?_
    refine g_lv [2, 3, 4, 5, 6] rfl ?_
    exact kk _ _ _ hP
  · obtain ⟨q0, I1⟩ := q
    obtain ⟨hq, h3⟩ := h3
    replace hq : q0 = 1 := hq
    subst hq
    refine g_aload_n hC dL_law_823 (i := 1) rfl (q := 1) rfl ?_
    refine g_aload_n hC dL_law_824 (i := 0) rfl (q := 0) rfl ?_
    refine g_iload hC dL_law_825 (q := 4) rfl ?_
    refine g_iconst hC dL_law_827 (v := (1 : Int32)) (by decide) ?_
    refine g_iadd hC dL_law_828 ?_
    refine g_scr hC hX hi1 dL_law_829 ?_
    rw [← ha1]
    refine g_aload_n hC dL_law_830 (i := 0) rfl (q := 0) rfl ?_
    refine g_iload hC dL_law_831 (q := 4) rfl ?_
    refine g_iconst hC dL_law_833 (v := (2 : Int32)) (by decide) ?_
    refine g_iadd hC dL_law_834 ?_
    refine g_scr hC hX hi2 dL_law_835 ?_
    rw [← ha2]
    refine g_aload_n hC dL_law_836 (i := 3) rfl (q := 3) rfl ?_
    refine g_cW hC hN (M2 := mL_hollow) (na := 4) wd_1256 wd_126 wd_1255 wd_1254 ⟨by decide, by decide, by decide⟩ ⟨Nat.le_of_ble_eq_true rfl, Nat.le_of_ble_eq_true rfl⟩ dL_law_837 (As := [.ref (mB E + 0), .int a1, .int a2, .ref (mB E + 105)]) (st := []) (ow_hollow_t1 hC.2.2.2.2.2.2.2.1 hW h1) rfl rfl (Nat.le_of_ble_eq_true rfl) (by rw [hr]; exact hk) ?_
    refine g_istore hC dL_law_840 rfl (by decide) (lv' := [(5, .int (1 : Int32)), (0, .ref b), (1, .ref (mB E + 0)), (2, .ref (mB E + 75)), (3, .ref (mB E + 105)), (4, .int i)]) rfl ?_
    refine g_aload_n hC dL_law_842 (i := 2) rfl (q := 3) rfl ?_
    refine g_aload_n hC dL_law_843 (i := 0) rfl (q := 1) rfl ?_
    refine g_iload hC dL_law_844 (q := 5) rfl ?_
    refine g_iconst hC dL_law_846 (v := (1 : Int32)) (by decide) ?_
    refine g_iadd hC dL_law_847 ?_
    refine g_scr hC hX hi1 dL_law_848 ?_
    rw [← ha1]
    refine g_aload_n hC dL_law_849 (i := 0) rfl (q := 1) rfl ?_
    refine g_iload hC dL_law_850 (q := 5) rfl ?_
    refine g_iconst hC dL_law_852 (v := (2 : Int32)) (by decide) ?_
    refine g_iadd hC dL_law_853 ?_
    refine g_scr hC hX hi2 dL_law_854 ?_
    rw [← ha2]
    refine g_cV1 hC cv_X12_hollow wd_2086 ⟨Nat.le_of_ble_eq_true rfl, Nat.le_of_ble_eq_true rfl⟩ rfl (by decide) dL_law_855 (As := [.int a1, .int a2]) (st := []) (ok_X12_hollow hC.2.2.2.2.2.2.2.1 hW h2) rfl rfl (Nat.le_of_ble_eq_true rfl) (by rw [hr]; exact hk) ?_
    refine g_istore hC dL_law_858 rfl (by decide) (lv' := [(6, .int o2.1), (5, .int (1 : Int32)), (0, .ref b), (1, .ref (mB E + 0)), (2, .ref (mB E + 75)), (3, .ref (mB E + 105)), (4, .int i)]) rfl ?_
    refine g_aload_n hC dL_law_860 (i := 2) rfl (q := 4) rfl ?_
    refine g_cV1 hC cv_X12_thrown wd_1835 ⟨Nat.le_of_ble_eq_true rfl, Nat.le_of_ble_eq_true rfl⟩ rfl (by decide) dL_law_861 (As := []) (st := []) (ok_X12_thrown hC.2.2.2.2.2.2.2.1 hW h3) rfl rfl (Nat.le_of_ble_eq_true rfl) (by rw [hr]; exact hk) ?_
    refine g_iload hC dL_law_864 (q := 1) rfl ?_
    refine g_ic_eq hC dL_law_866 (tgt := 871) (by decide) (fun _ => ?_) (fun ne => absurd rfl ne)
    refine g_iload hC dL_law_871 (q := 1) rfl ?_
    refine g_if_ne hC dL_law_873 (tgt := 888) (by decide) (fun _ => ?_) (fun e => absurd e (by decide))
    refine g_goto hC dL_law_888 (tgt := 2418) (by decide) ?_
    refine g_lv [2, 3, 4, 5, 6] rfl ?_
    exact kk _ _ _ hP
def st_eat (Fu : Nat) (I : mIT) (R : mRT) (L : mLT) (a1 : Int32) (P : mIT → mRT → mLT → Prop) : Prop := (∃ o, f_X11_eat Fu R I a1 = some (.inl o) ∧ ∃ o2, f_X12_eat Fu o.2 a1 = some o2 ∧ f_X12_thrown Fu o2.2 = some 0 ∧ o.1 = o2.1 ∧ P o2.2 R (mUL L 105 0 (if o.1 = 0 then 0 else 1 : Int64))) ∨ (∃ q, f_X11_eat Fu R I a1 = some (.inr q) ∧ ∃ o2, f_X12_eat Fu q.2 a1 = some o2 ∧ (q.1 = 1 ∧ f_X12_thrown Fu o2.2 = some 1) ∧ P o2.2 R L)
set_option maxRecDepth 20000 in
theorem lc_eat {X : mXT} {E : mEn} (hC : mC X E mLaw RL code) (hN : va_Nc "java/lang/IllegalArgumentException" "java/util/NoSuchElementException" X.2.2.2.1) (hr : X.2.2.2.2.2.2.2.2.2.2.1 = (1147, 45333)) {b Ln : Nat} {xs : Nat → Int32} (hX : va_X b Ln xs X.2.2.2.1 E.2.2.1 ∧ b < mB E) {i : Int32} {Fu : Nat} {I : mIT} {R : mRT} {L : mLT} {k z : Nat} (hW : mWd R) (hk : k + 1 ≤ 1147 ∧ z + 6 ≤ 45333) {a1 : Int32} (hi1 : vp_in (i + 1) Ln) (ha1 : a1 = xs (i + 1).toNatClampNeg) {P : mIT → mRT → mLT → Prop} (hP : st_eat Fu I R L a1 P) (kk : ∀ (I' : mIT) (R' : mRT) (L' : mLT), P I' R' L' → mG X E 2418 [(0, .ref b), (1, .ref (mB E + 0)), (2, .ref (mB E + 75)), (3, .ref (mB E + 105)), (4, .int i)] [] 106 1 I' R' L' (k + 1) (z + 6)) : mG X E 891 [(0, .ref b), (1, .ref (mB E + 0)), (2, .ref (mB E + 75)), (3, .ref (mB E + 105)), (4, .int i)] [] 106 1 I R L k z := by
  rcases hP with ⟨o, h1, o2, h2, h3, h4, hP⟩ | ⟨q, h1, o2, h2, h3, hP⟩
  · refine g_aload_n hC dL_law_891 (i := 1) rfl (q := 1) rfl ?_
    refine g_aload_n hC dL_law_892 (i := 0) rfl (q := 0) rfl ?_
    refine g_iload hC dL_law_893 (q := 4) rfl ?_
    refine g_iconst hC dL_law_895 (v := (1 : Int32)) (by decide) ?_
    refine g_iadd hC dL_law_896 ?_
    refine g_scr hC hX hi1 dL_law_897 ?_
    rw [← ha1]
    refine g_aload_n hC dL_law_898 (i := 3) rfl (q := 3) rfl ?_
    refine g_cW hC hN (M2 := mL_eat) (na := 3) wd_1267 wd_126 wd_1266 wd_1265 ⟨by decide, by decide, by decide⟩ ⟨Nat.le_of_ble_eq_true rfl, Nat.le_of_ble_eq_true rfl⟩ dL_law_899 (As := [.ref (mB E + 0), .int a1, .ref (mB E + 105)]) (st := []) (ow_eat_r hC.2.2.2.2.2.2.2.1 hW h1) rfl rfl (Nat.le_of_ble_eq_true rfl) (by rw [hr]; exact hk) ?_
    refine g_istore hC dL_law_902 rfl (by decide) (lv' := [(5, .int (0 : Int32)), (0, .ref b), (1, .ref (mB E + 0)), (2, .ref (mB E + 75)), (3, .ref (mB E + 105)), (4, .int i)]) rfl ?_
    refine g_aload_n hC dL_law_904 (i := 2) rfl (q := 3) rfl ?_
    refine g_aload_n hC dL_law_905 (i := 0) rfl (q := 1) rfl ?_
    refine g_iload hC dL_law_906 (q := 5) rfl ?_
    refine g_iconst hC dL_law_908 (v := (1 : Int32)) (by decide) ?_
    refine g_iadd hC dL_law_909 ?_
    refine g_scr hC hX hi1 dL_law_910 ?_
    rw [← ha1]
    refine g_cV1 hC cv_X12_eat wd_2090 ⟨Nat.le_of_ble_eq_true rfl, Nat.le_of_ble_eq_true rfl⟩ rfl (by decide) dL_law_911 (As := [.int a1]) (st := []) (ok_X12_eat hC.2.2.2.2.2.2.2.1 hW h2) rfl rfl (Nat.le_of_ble_eq_true rfl) (by rw [hr]; exact hk) ?_
    refine g_istore hC dL_law_914 rfl (by decide) (lv' := [(6, .int o2.1), (5, .int (0 : Int32)), (0, .ref b), (1, .ref (mB E + 0)), (2, .ref (mB E + 75)), (3, .ref (mB E + 105)), (4, .int i)]) rfl ?_
    refine g_aload_n hC dL_law_916 (i := 2) rfl (q := 4) rfl ?_
    refine g_cV1 hC cv_X12_thrown wd_1835 ⟨Nat.le_of_ble_eq_true rfl, Nat.le_of_ble_eq_true rfl⟩ rfl (by decide) dL_law_917 (As := []) (st := []) (ok_X12_thrown hC.2.2.2.2.2.2.2.1 hW h3) rfl rfl (Nat.le_of_ble_eq_true rfl) (by rw [hr]; exact hk) ?_
    refine g_iload hC dL_law_920 (q := 1) rfl ?_
    refine g_ic_eq hC dL_law_922 (tgt := 927) (by decide) (fun _ => ?_) (fun ne => absurd rfl ne)
    refine g_iload hC dL_law_927 (q := 1) rfl ?_
    refine g_if_ne hC dL_law_929 (tgt := 951) (by decide) (fun ne => absurd rfl ne) (fun _ => ?_)
    refine g_aload_n hC dL_law_932 (i := 3) rfl (q := 5) rfl ?_
    refine g_iconst hC dL_law_933 (v := (0 : Int32)) (by decide) ?_
    refine g_lald hC (len := 1) rfl (by decide) (inB_in (by decide)) dL_law_934 ?_
    refine g_iload hC dL_law_935 (q := 0) rfl ?_
    refine g_if_eq hC dL_law_937 (tgt := 944) (by decide) (fun cb => ?_) (fun cb => ?_)
    · refine g_lconst hC dL_law_944 (v := 0) (by decide) ?_
      refine g_lcmp hC dL_law_945 ?_
      have hcmp : (mUL L 105 0 (if o.1 = 0 then 0 else 1 : Int64)) 105 (0 : Int32).toNatClampNeg = (0 : Int64) := (show mUL _ 105 0 _ 105 0 = _ from by simp only [mUL, and_self, if_true]; exact if_pos (h4.trans cb))
      refine g_if_eq hC dL_law_946 (tgt := 951) (by decide) (fun _ => ?_) (fun ne => absurd (by rw [hcmp]; exact lg_same _) ne)
      refine g_goto hC dL_law_951 (tgt := 2418) (by decide) ?_
      refine g_lv [2, 3, 4, 5, 6] rfl ?_
      exact kk _ _ _ hP
    · refine g_lconst hC dL_law_940 (v := 1) (by decide) ?_
      refine g_goto hC dL_law_941 (tgt := 945) (by decide) ?_
      refine g_lcmp hC dL_law_945 ?_
      have hcmp : (mUL L 105 0 (if o.1 = 0 then 0 else 1 : Int64)) 105 (0 : Int32).toNatClampNeg = (1 : Int64) := (show mUL _ 105 0 _ 105 0 = _ from by simp only [mUL, and_self, if_true]; exact if_neg (fun e => cb (h4.symm.trans e)))
      refine g_if_eq hC dL_law_946 (tgt := 951) (by decide) (fun _ => ?_) (fun ne => absurd (by rw [hcmp]; exact lg_same _) ne)
      refine g_goto hC dL_law_951 (tgt := 2418) (by decide) ?_
      refine g_lv [2, 3, 4, 5, 6] rfl ?_
      exact kk _ _ _ hP
  · obtain ⟨q0, I1⟩ := q
    obtain ⟨hq, h3⟩ := h3
    replace hq : q0 = 1 := hq
    subst hq
    refine g_aload_n hC dL_law_891 (i := 1) rfl (q := 1) rfl ?_
    refine g_aload_n hC dL_law_892 (i := 0) rfl (q := 0) rfl ?_
    refine g_iload hC dL_law_893 (q := 4) rfl ?_
    refine g_iconst hC dL_law_895 (v := (1 : Int32)) (by decide) ?_
    refine g_iadd hC dL_law_896 ?_
    refine g_scr hC hX hi1 dL_law_897 ?_
    rw [← ha1]
    refine g_aload_n hC dL_law_898 (i := 3) rfl (q := 3) rfl ?_
    refine g_cW hC hN (M2 := mL_eat) (na := 3) wd_1267 wd_126 wd_1266 wd_1265 ⟨by decide, by decide, by decide⟩ ⟨Nat.le_of_ble_eq_true rfl, Nat.le_of_ble_eq_true rfl⟩ dL_law_899 (As := [.ref (mB E + 0), .int a1, .ref (mB E + 105)]) (st := []) (ow_eat_t1 hC.2.2.2.2.2.2.2.1 hW h1) rfl rfl (Nat.le_of_ble_eq_true rfl) (by rw [hr]; exact hk) ?_
    refine g_istore hC dL_law_902 rfl (by decide) (lv' := [(5, .int (1 : Int32)), (0, .ref b), (1, .ref (mB E + 0)), (2, .ref (mB E + 75)), (3, .ref (mB E + 105)), (4, .int i)]) rfl ?_
    refine g_aload_n hC dL_law_904 (i := 2) rfl (q := 3) rfl ?_
    refine g_aload_n hC dL_law_905 (i := 0) rfl (q := 1) rfl ?_
    refine g_iload hC dL_law_906 (q := 5) rfl ?_
    refine g_iconst hC dL_law_908 (v := (1 : Int32)) (by decide) ?_
    refine g_iadd hC dL_law_909 ?_
    refine g_scr hC hX hi1 dL_law_910 ?_
    rw [← ha1]
    refine g_cV1 hC cv_X12_eat wd_2090 ⟨Nat.le_of_ble_eq_true rfl, Nat.le_of_ble_eq_true rfl⟩ rfl (by decide) dL_law_911 (As := [.int a1]) (st := []) (ok_X12_eat hC.2.2.2.2.2.2.2.1 hW h2) rfl rfl (Nat.le_of_ble_eq_true rfl) (by rw [hr]; exact hk) ?_
    refine g_istore hC dL_law_914 rfl (by decide) (lv' := [(6, .int o2.1), (5, .int (1 : Int32)), (0, .ref b), (1, .ref (mB E + 0)), (2, .ref (mB E + 75)), (3, .ref (mB E + 105)), (4, .int i)]) rfl ?_
    refine g_aload_n hC dL_law_916 (i := 2) rfl (q := 4) rfl ?_
    refine g_cV1 hC cv_X12_thrown wd_1835 ⟨Nat.le_of_ble_eq_true rfl, Nat.le_of_ble_eq_true rfl⟩ rfl (by decide) dL_law_917 (As := []) (st := []) (ok_X12_thrown hC.2.2.2.2.2.2.2.1 hW h3) rfl rfl (Nat.le_of_ble_eq_true rfl) (by rw [hr]; exact hk) ?_
    refine g_iload hC dL_law_920 (q := 1) rfl ?_
    refine g_ic_eq hC dL_law_922 (tgt := 927) (by decide) (fun _ => ?_) (fun ne => absurd rfl ne)
    refine g_iload hC dL_law_927 (q := 1) rfl ?_
    refine g_if_ne hC dL_law_929 (tgt := 951) (by decide) (fun _ => ?_) (fun e => absurd e (by decide))
    refine g_goto hC dL_law_951 (tgt := 2418) (by decide) ?_
    refine g_lv [2, 3, 4, 5, 6] rfl ?_
    exact kk _ _ _ hP
def st_alter (Fu : Nat) (I : mIT) (R : mRT) (L : mLT) (a1 : Int32) (a2 : Int32) (P : mIT → mRT → mLT → Prop) : Prop := (∃ o, f_X11_alter Fu R I a1 a2 = some (.inl o) ∧ ∃ o2, f_X12_alter Fu o.2 a1 a2 = some o2 ∧ f_X12_thrown Fu o2.2 = some 0 ∧ o.1 = o2.1 ∧ P o2.2 R (mUL L 105 0 (o.1).toInt64)) ∨ (∃ q, f_X11_alter Fu R I a1 a2 = some (.inr q) ∧ ∃ o2, f_X12_alter Fu q.2 a1 a2 = some o2 ∧ (q.1 = 1 ∧ f_X12_thrown Fu o2.2 = some 1) ∧ P o2.2 R L)
set_option maxRecDepth 20000 in
theorem lc_alter {X : mXT} {E : mEn} (hC : mC X E mLaw RL code) (hN : va_Nc "java/lang/IllegalArgumentException" "java/util/NoSuchElementException" X.2.2.2.1) (hr : X.2.2.2.2.2.2.2.2.2.2.1 = (1147, 45333)) {b Ln : Nat} {xs : Nat → Int32} (hX : va_X b Ln xs X.2.2.2.1 E.2.2.1 ∧ b < mB E) {i : Int32} {Fu : Nat} {I : mIT} {R : mRT} {L : mLT} {k z : Nat} (hW : mWd R) (hk : k + 1 ≤ 1147 ∧ z + 6 ≤ 45333) {a1 : Int32} (hi1 : vp_in (i + 1) Ln) (ha1 : a1 = xs (i + 1).toNatClampNeg) {a2 : Int32} (hi2 : vp_in (i + 2) Ln) (ha2 : a2 = xs (i + 2).toNatClampNeg) {P : mIT → mRT → mLT → Prop} (hP : st_alter Fu I R L a1 a2 P) (kk : ∀ (I' : mIT) (R' : mRT) (L' : mLT), P I' R' L' → mG X E 2418 [(0, .ref b), (1, .ref (mB E + 0)), (2, .ref (mB E + 75)), (3, .ref (mB E + 105)), (4, .int i)] [] 106 1 I' R' L' (k + 1) (z + 6)) : mG X E 954 [(0, .ref b), (1, .ref (mB E + 0)), (2, .ref (mB E + 75)), (3, .ref (mB E + 105)), (4, .int i)] [] 106 1 I R L k z := by
  rcases hP with ⟨o, h1, o2, h2, h3, h4, hP⟩ | ⟨q, h1, o2, h2, h3, hP⟩
  · refine g_aload_n hC dL_law_954 (i := 1) rfl (q := 1) rfl ?_
    refine g_aload_n hC dL_law_955 (i := 0) rfl (q := 0) rfl ?_
    refine g_iload hC dL_law_956 (q := 4) rfl ?_
    refine g_iconst hC dL_law_958 (v := (1 : Int32)) (by decide) ?_
    refine g_iadd hC dL_law_959 ?_
    refine g_scr hC hX hi1 dL_law_960 ?_
    rw [← ha1]
    refine g_aload_n hC dL_law_961 (i := 0) rfl (q := 0) rfl ?_
    refine g_iload hC dL_law_962 (q := 4) rfl ?_
    refine g_iconst hC dL_law_964 (v := (2 : Int32)) (by decide) ?_
    refine g_iadd hC dL_law_965 ?_
    refine g_scr hC hX hi2 dL_law_966 ?_
    rw [← ha2]
    refine g_aload_n hC dL_law_967 (i := 3) rfl (q := 3) rfl ?_
    refine g_cW hC hN (M2 := mL_alter) (na := 4) wd_1274 wd_126 wd_1273 wd_1272 ⟨by decide, by decide, by decide⟩ ⟨Nat.le_of_ble_eq_true rfl, Nat.le_of_ble_eq_true rfl⟩ dL_law_968 (As := [.ref (mB E + 0), .int a1, .int a2, .ref (mB E + 105)]) (st := []) (ow_alter_r hC.2.2.2.2.2.2.2.1 hW h1) rfl rfl (Nat.le_of_ble_eq_true rfl) (by rw [hr]; exact hk) ?_
    refine g_istore hC dL_law_971 rfl (by decide) (lv' := [(5, .int (0 : Int32)), (0, .ref b), (1, .ref (mB E + 0)), (2, .ref (mB E + 75)), (3, .ref (mB E + 105)), (4, .int i)]) rfl ?_
    refine g_aload_n hC dL_law_973 (i := 2) rfl (q := 3) rfl ?_
    refine g_aload_n hC dL_law_974 (i := 0) rfl (q := 1) rfl ?_
    refine g_iload hC dL_law_975 (q := 5) rfl ?_
    refine g_iconst hC dL_law_977 (v := (1 : Int32)) (by decide) ?_
    refine g_iadd hC dL_law_978 ?_
    refine g_scr hC hX hi1 dL_law_979 ?_
    rw [← ha1]
    refine g_aload_n hC dL_law_980 (i := 0) rfl (q := 1) rfl ?_
    refine g_iload hC dL_law_981 (q := 5) rfl ?_
    refine g_iconst hC dL_law_983 (v := (2 : Int32)) (by decide) ?_
    refine g_iadd hC dL_law_984 ?_
    refine g_scr hC hX hi2 dL_law_985 ?_
    rw [← ha2]
    refine g_cV1 hC cv_X12_alter wd_2094 ⟨Nat.le_of_ble_eq_true rfl, Nat.le_of_ble_eq_true rfl⟩ rfl (by decide) dL_law_986 (As := [.int a1, .int a2]) (st := []) (ok_X12_alter hC.2.2.2.2.2.2.2.1 hW h2) rfl rfl (Nat.le_of_ble_eq_true rfl) (by rw [hr]; exact hk) ?_
    refine g_istore hC dL_law_989 rfl (by decide) (lv' := [(6, .int o2.1), (5, .int (0 : Int32)), (0, .ref b), (1, .ref (mB E + 0)), (2, .ref (mB E + 75)), (3, .ref (mB E + 105)), (4, .int i)]) rfl ?_
    refine g_aload_n hC dL_law_991 (i := 2) rfl (q := 4) rfl ?_
    refine g_cV1 hC cv_X12_thrown wd_1835 ⟨Nat.le_of_ble_eq_true rfl, Nat.le_of_ble_eq_true rfl⟩ rfl (by decide) dL_law_992 (As := []) (st := []) (ok_X12_thrown hC.2.2.2.2.2.2.2.1 hW h3) rfl rfl (Nat.le_of_ble_eq_true rfl) (by rw [hr]; exact hk) ?_
    refine g_iload hC dL_law_995 (q := 1) rfl ?_
    refine g_ic_eq hC dL_law_997 (tgt := 1002) (by decide) (fun _ => ?_) (fun ne => absurd rfl ne)
    refine g_iload hC dL_law_1002 (q := 1) rfl ?_
    refine g_if_ne hC dL_law_1004 (tgt := 1019) (by decide) (fun ne => absurd rfl ne) (fun _ => ?_)
    refine g_aload_n hC dL_law_1007 (i := 3) rfl (q := 5) rfl ?_
    refine g_iconst hC dL_law_1008 (v := (0 : Int32)) (by decide) ?_
    refine g_lald hC (len := 1) rfl (by decide) (inB_in (by decide)) dL_law_1009 ?_
    refine g_iload hC dL_law_1010 (q := 0) rfl ?_
    refine g_i2l hC dL_law_1012 ?_
    refine g_lcmp hC dL_law_1013 ?_
    have hcmp : (mUL L 105 0 (o.1).toInt64) 105 (0 : Int32).toNatClampNeg = (o2.1).toInt64 := (show mUL _ 105 0 _ 105 0 = _ from by simp only [mUL, and_self, if_true]; rw [h4])
    refine g_if_eq hC dL_law_1014 (tgt := 1019) (by decide) (fun _ => ?_) (fun ne => absurd (by rw [hcmp]; exact lg_same _) ne)
    refine g_goto hC dL_law_1019 (tgt := 2418) (by decide) ?_
    refine g_lv [2, 3, 4, 5, 6] rfl ?_
    exact kk _ _ _ hP
  · obtain ⟨q0, I1⟩ := q
    obtain ⟨hq, h3⟩ := h3
    replace hq : q0 = 1 := hq
    subst hq
    refine g_aload_n hC dL_law_954 (i := 1) rfl (q := 1) rfl ?_
    refine g_aload_n hC dL_law_955 (i := 0) rfl (q := 0) rfl ?_
    refine g_iload hC dL_law_956 (q := 4) rfl ?_
    refine g_iconst hC dL_law_958 (v := (1 : Int32)) (by decide) ?_
    refine g_iadd hC dL_law_959 ?_
    refine g_scr hC hX hi1 dL_law_960 ?_
    rw [← ha1]
    refine g_aload_n hC dL_law_961 (i := 0) rfl (q := 0) rfl ?_
    refine g_iload hC dL_law_962 (q := 4) rfl ?_
    refine g_iconst hC dL_law_964 (v := (2 : Int32)) (by decide) ?_
    refine g_iadd hC dL_law_965 ?_
    refine g_scr hC hX hi2 dL_law_966 ?_
    rw [← ha2]
    refine g_aload_n hC dL_law_967 (i := 3) rfl (q := 3) rfl ?_
    refine g_cW hC hN (M2 := mL_alter) (na := 4) wd_1274 wd_126 wd_1273 wd_1272 ⟨by decide, by decide, by decide⟩ ⟨Nat.le_of_ble_eq_true rfl, Nat.le_of_ble_eq_true rfl⟩ dL_law_968 (As := [.ref (mB E + 0), .int a1, .int a2, .ref (mB E + 105)]) (st := []) (ow_alter_t1 hC.2.2.2.2.2.2.2.1 hW h1) rfl rfl (Nat.le_of_ble_eq_true rfl) (by rw [hr]; exact hk) ?_
    refine g_istore hC dL_law_971 rfl (by decide) (lv' := [(5, .int (1 : Int32)), (0, .ref b), (1, .ref (mB E + 0)), (2, .ref (mB E + 75)), (3, .ref (mB E + 105)), (4, .int i)]) rfl ?_
    refine g_aload_n hC dL_law_973 (i := 2) rfl (q := 3) rfl ?_
    refine g_aload_n hC dL_law_974 (i := 0) rfl (q := 1) rfl ?_
    refine g_iload hC dL_law_975 (q := 5) rfl ?_
    refine g_iconst hC dL_law_977 (v := (1 : Int32)) (by decide) ?_
    refine g_iadd hC dL_law_978 ?_
    refine g_scr hC hX hi1 dL_law_979 ?_
    rw [← ha1]
    refine g_aload_n hC dL_law_980 (i := 0) rfl (q := 1) rfl ?_
    refine g_iload hC dL_law_981 (q := 5) rfl ?_
    refine g_iconst hC dL_law_983 (v := (2 : Int32)) (by decide) ?_
    refine g_iadd hC dL_law_984 ?_
    refine g_scr hC hX hi2 dL_law_985 ?_
    rw [← ha2]
    refine g_cV1 hC cv_X12_alter wd_2094 ⟨Nat.le_of_ble_eq_true rfl, Nat.le_of_ble_eq_true rfl⟩ rfl (by decide) dL_law_986 (As := [.int a1, .int a2]) (st := []) (ok_X12_alter hC.2.2.2.2.2.2.2.1 hW h2) rfl rfl (Nat.le_of_ble_eq_true rfl) (by rw [hr]; exact hk) ?_
    refine g_istore hC dL_law_989 rfl (by decide) (lv' := [(6, .int o2.1), (5, .int (1 : Int32)), (0, .ref b), (1, .ref (mB E + 0)), (2, .ref (mB E + 75)), (3, .ref (mB E + 105)), (4, .int i)]) rfl ?_
    refine g_aload_n hC dL_law_991 (i := 2) rfl (q := 4) rfl ?_
    refine g_cV1 hC cv_X12_thrown wd_1835 ⟨Nat.le_of_ble_eq_true rfl, Nat.le_of_ble_eq_true rfl⟩ rfl (by decide) dL_law_992 (As := []) (st := []) (ok_X12_thrown hC.2.2.2.2.2.2.2.1 hW h3) rfl rfl (Nat.le_of_ble_eq_true rfl) (by rw [hr]; exact hk) ?_
    refine g_iload hC dL_law_995 (q := 1) rfl ?_
    refine g_ic_eq hC dL_law_997 (tgt := 1002) (by decide) (fun _ => ?_) (fun ne => absurd rfl ne)
    refine g_iload hC dL_law_1002 (q := 1) rfl ?_
    refine g_if_ne hC dL_law_1004 (tgt := 1019) (by decide) (fun _ => ?_) (fun e => absurd e (by decide))
    refine g_goto hC dL_law_1019 (tgt := 2418) (by decide) ?_
    refine g_lv [2, 3, 4, 5, 6] rfl ?_
    exact kk _ _ _ hP
def st_undo (Fu : Nat) (I : mIT) (R : mRT) (L : mLT)  (P : mIT → mRT → mLT → Prop) : Prop := ∃ o, f_X11_undo Fu I = some o ∧ ∃ o2, f_X12_undo Fu o.2 = some o2 ∧ o.1 = o2.1 ∧ P o2.2 R L
set_option maxRecDepth 20000 in
theorem lc_undo {X : mXT} {E : mEn} (hC : mC X E mLaw RL code) (hN : va_Nc "java/lang/IllegalArgumentException" "java/util/NoSuchElementException" X.2.2.2.1) (hr : X.2.2.2.2.2.2.2.2.2.2.1 = (1147, 45333)) {b Ln : Nat} {xs : Nat → Int32} (hX : va_X b Ln xs X.2.2.2.1 E.2.2.1 ∧ b < mB E) {i : Int32} {Fu : Nat} {I : mIT} {R : mRT} {L : mLT} {k z : Nat} (hW : mWd R) (hk : k + 1 ≤ 1147 ∧ z + 6 ≤ 45333)  {P : mIT → mRT → mLT → Prop} (hP : st_undo Fu I R L  P) (kk : ∀ (I' : mIT) (R' : mRT) (L' : mLT), P I' R' L' → mG X E 2418 [(0, .ref b), (1, .ref (mB E + 0)), (2, .ref (mB E + 75)), (3, .ref (mB E + 105)), (4, .int i)] [] 106 1 I' R' L' (k + 1) (z + 6)) : mG X E 1022 [(0, .ref b), (1, .ref (mB E + 0)), (2, .ref (mB E + 75)), (3, .ref (mB E + 105)), (4, .int i)] [] 106 1 I R L k z := by
  obtain ⟨o, h1, o2, h2, hP⟩ := hP
  refine g_aload_n hC dL_law_1022 (i := 1) rfl (q := 1) rfl ?_
  refine g_cV1 hC cv_X11_undo wd_644 ⟨Nat.le_of_ble_eq_true rfl, Nat.le_of_ble_eq_true rfl⟩ rfl (by decide) dL_law_1023 (As := []) (st := []) (ok_X11_undo hC.2.2.2.2.2.2.2.1 hW h1) rfl rfl (Nat.le_of_ble_eq_true rfl) (by rw [hr]; exact ⟨Nat.le_trans (Nat.le_add_right _ _) hk.1, Nat.le_trans (Nat.le_add_right _ _) hk.2⟩) ?_
  refine g_aload_n hC dL_law_1026 (i := 2) rfl (q := 2) rfl ?_
  refine g_cV1 hC cv_X12_undo wd_1976 ⟨Nat.le_of_ble_eq_true rfl, Nat.le_of_ble_eq_true rfl⟩ rfl (by decide) dL_law_1027 (As := []) (st := [.int o.1]) (ok_X12_undo hC.2.2.2.2.2.2.2.1 hW h2) rfl rfl (Nat.le_of_ble_eq_true rfl) (by rw [hr]; exact ⟨Nat.le_trans (Nat.le_add_right _ _) hk.1, Nat.le_trans (Nat.le_add_right _ _) hk.2⟩) ?_
  refine g_ic_eq hC dL_law_1030 (tgt := 2418) (by decide) (fun _ => ?_) (fun ne => absurd hP.1 ne)
  refine g_wid (Nat.le_add_right _ 1) (Nat.le_add_right _ 6) ?_
  exact kk _ _ _ hP.2
def st_then (Fu : Nat) (I : mIT) (R : mRT) (L : mLT) (a1 : Int32) (a2 : Int32) (P : mIT → mRT → mLT → Prop) : Prop := (∃ o, f_X11_then Fu R I a1 a2 = some (.inl o) ∧ ∃ o2, f_X12_then Fu o.2 a1 a2 = some o2 ∧ f_X12_thrown Fu o2.2 = some 0 ∧ o.1 = o2.1 ∧ P o2.2 R (mUL L 105 0 (o.1).toInt64)) ∨ (∃ q, f_X11_then Fu R I a1 a2 = some (.inr q) ∧ ∃ o2, f_X12_then Fu q.2 a1 a2 = some o2 ∧ (q.1 = 1 ∧ f_X12_thrown Fu o2.2 = some 1 ∨ q.1 = 2 ∧ f_X12_thrown Fu o2.2 = some 2) ∧ P o2.2 R L)
set_option maxRecDepth 20000 in
theorem lc_then {X : mXT} {E : mEn} (hC : mC X E mLaw RL code) (hN : va_Nc "java/lang/IllegalArgumentException" "java/util/NoSuchElementException" X.2.2.2.1) (hr : X.2.2.2.2.2.2.2.2.2.2.1 = (1147, 45333)) {b Ln : Nat} {xs : Nat → Int32} (hX : va_X b Ln xs X.2.2.2.1 E.2.2.1 ∧ b < mB E) {i : Int32} {Fu : Nat} {I : mIT} {R : mRT} {L : mLT} {k z : Nat} (hW : mWd R) (hk : k + 1 ≤ 1147 ∧ z + 6 ≤ 45333) {a1 : Int32} (hi1 : vp_in (i + 1) Ln) (ha1 : a1 = xs (i + 1).toNatClampNeg) {a2 : Int32} (hi2 : vp_in (i + 2) Ln) (ha2 : a2 = xs (i + 2).toNatClampNeg) {P : mIT → mRT → mLT → Prop} (hP : st_then Fu I R L a1 a2 P) (kk : ∀ (I' : mIT) (R' : mRT) (L' : mLT), P I' R' L' → mG X E 2418 [(0, .ref b), (1, .ref (mB E + 0)), (2, .ref (mB E + 75)), (3, .ref (mB E + 105)), (4, .int i)] [] 106 1 I' R' L' (k + 1) (z + 6)) : mG X E 1035 [(0, .ref b), (1, .ref (mB E + 0)), (2, .ref (mB E + 75)), (3, .ref (mB E + 105)), (4, .int i)] [] 106 1 I R L k z := by
  rcases hP with ⟨o, h1, o2, h2, h3, h4, hP⟩ | ⟨q, h1, o2, h2, h3, hP⟩
  · refine g_aload_n hC dL_law_1035 (i := 1) rfl (q := 1) rfl ?_
    refine g_aload_n hC dL_law_1036 (i := 0) rfl (q := 0) rfl ?_
    refine g_iload hC dL_law_1037 (q := 4) rfl ?_
    refine g_iconst hC dL_law_1039 (v := (1 : Int32)) (by decide) ?_
    refine g_iadd hC dL_law_1040 ?_
    refine g_scr hC hX hi1 dL_law_1041 ?_
    rw [← ha1]
    refine g_aload_n hC dL_law_1042 (i := 0) rfl (q := 0) rfl ?_
    refine g_iload hC dL_law_1043 (q := 4) rfl ?_
    refine g_iconst hC dL_law_1045 (v := (2 : Int32)) (by decide) ?_
    refine g_iadd hC dL_law_1046 ?_
    refine g_scr hC hX hi2 dL_law_1047 ?_
    rw [← ha2]
    refine g_aload_n hC dL_law_1048 (i := 3) rfl (q := 3) rfl ?_
    refine g_cW hC hN (M2 := mL_then) (na := 4) wd_1283 wd_126 wd_1282 wd_1281 ⟨by decide, by decide, by decide⟩ ⟨Nat.le_of_ble_eq_true rfl, Nat.le_of_ble_eq_true rfl⟩ dL_law_1049 (As := [.ref (mB E + 0), .int a1, .int a2, .ref (mB E + 105)]) (st := []) (ow_then_r hC.2.2.2.2.2.2.2.1 hW h1) rfl rfl (Nat.le_of_ble_eq_true rfl) (by rw [hr]; exact hk) ?_
    refine g_istore hC dL_law_1052 rfl (by decide) (lv' := [(5, .int (0 : Int32)), (0, .ref b), (1, .ref (mB E + 0)), (2, .ref (mB E + 75)), (3, .ref (mB E + 105)), (4, .int i)]) rfl ?_
    refine g_aload_n hC dL_law_1054 (i := 2) rfl (q := 3) rfl ?_
    refine g_aload_n hC dL_law_1055 (i := 0) rfl (q := 1) rfl ?_
    refine g_iload hC dL_law_1056 (q := 5) rfl ?_
    refine g_iconst hC dL_law_1058 (v := (1 : Int32)) (by decide) ?_
    refine g_iadd hC dL_law_1059 ?_
    refine g_scr hC hX hi1 dL_law_1060 ?_
    rw [← ha1]
    refine g_aload_n hC dL_law_1061 (i := 0) rfl (q := 1) rfl ?_
    refine g_iload hC dL_law_1062 (q := 5) rfl ?_
    refine g_iconst hC dL_law_1064 (v := (2 : Int32)) (by decide) ?_
    refine g_iadd hC dL_law_1065 ?_
    refine g_scr hC hX hi2 dL_law_1066 ?_
    rw [← ha2]
    refine g_cV1 hC cv_X12_then wd_2098 ⟨Nat.le_of_ble_eq_true rfl, Nat.le_of_ble_eq_true rfl⟩ rfl (by decide) dL_law_1067 (As := [.int a1, .int a2]) (st := []) (ok_X12_then hC.2.2.2.2.2.2.2.1 hW h2) rfl rfl (Nat.le_of_ble_eq_true rfl) (by rw [hr]; exact hk) ?_
    refine g_istore hC dL_law_1070 rfl (by decide) (lv' := [(6, .int o2.1), (5, .int (0 : Int32)), (0, .ref b), (1, .ref (mB E + 0)), (2, .ref (mB E + 75)), (3, .ref (mB E + 105)), (4, .int i)]) rfl ?_
    refine g_aload_n hC dL_law_1072 (i := 2) rfl (q := 4) rfl ?_
    refine g_cV1 hC cv_X12_thrown wd_1835 ⟨Nat.le_of_ble_eq_true rfl, Nat.le_of_ble_eq_true rfl⟩ rfl (by decide) dL_law_1073 (As := []) (st := []) (ok_X12_thrown hC.2.2.2.2.2.2.2.1 hW h3) rfl rfl (Nat.le_of_ble_eq_true rfl) (by rw [hr]; exact hk) ?_
    refine g_iload hC dL_law_1076 (q := 1) rfl ?_
    refine g_ic_eq hC dL_law_1078 (tgt := 1083) (by decide) (fun _ => ?_) (fun ne => absurd rfl ne)
    refine g_iload hC dL_law_1083 (q := 1) rfl ?_
    refine g_if_ne hC dL_law_1085 (tgt := 1100) (by decide) (fun ne => absurd rfl ne) (fun _ => ?_)
    refine g_aload_n hC dL_law_1088 (i := 3) rfl (q := 5) rfl ?_
    refine g_iconst hC dL_law_1089 (v := (0 : Int32)) (by decide) ?_
    refine g_lald hC (len := 1) rfl (by decide) (inB_in (by decide)) dL_law_1090 ?_
    refine g_iload hC dL_law_1091 (q := 0) rfl ?_
    refine g_i2l hC dL_law_1093 ?_
    refine g_lcmp hC dL_law_1094 ?_
    have hcmp : (mUL L 105 0 (o.1).toInt64) 105 (0 : Int32).toNatClampNeg = (o2.1).toInt64 := (show mUL _ 105 0 _ 105 0 = _ from by simp only [mUL, and_self, if_true]; rw [h4])
    refine g_if_eq hC dL_law_1095 (tgt := 1100) (by decide) (fun _ => ?_) (fun ne => absurd (by rw [hcmp]; exact lg_same _) ne)
    refine g_goto hC dL_law_1100 (tgt := 2418) (by decide) ?_
    refine g_lv [2, 3, 4, 5, 6] rfl ?_
    exact kk _ _ _ hP
  · obtain ⟨q0, I1⟩ := q
    rcases h3 with ⟨hq, h3⟩ | ⟨hq, h3⟩
    · replace hq : q0 = 1 := hq
      subst hq
      refine g_aload_n hC dL_law_1035 (i := 1) rfl (q := 1) rfl ?_
      refine g_aload_n hC dL_law_1036 (i := 0) rfl (q := 0) rfl ?_
      refine g_iload hC dL_law_1037 (q := 4) rfl ?_
      refine g_iconst hC dL_law_1039 (v := (1 : Int32)) (by decide) ?_
      refine g_iadd hC dL_law_1040 ?_
      refine g_scr hC hX hi1 dL_law_1041 ?_
      rw [← ha1]
      refine g_aload_n hC dL_law_1042 (i := 0) rfl (q := 0) rfl ?_
      refine g_iload hC dL_law_1043 (q := 4) rfl ?_
      refine g_iconst hC dL_law_1045 (v := (2 : Int32)) (by decide) ?_
      refine g_iadd hC dL_law_1046 ?_
      refine g_scr hC hX hi2 dL_law_1047 ?_
      rw [← ha2]
      refine g_aload_n hC dL_law_1048 (i := 3) rfl (q := 3) rfl ?_
      refine g_cW hC hN (M2 := mL_then) (na := 4) wd_1283 wd_126 wd_1282 wd_1281 ⟨by decide, by decide, by decide⟩ ⟨Nat.le_of_ble_eq_true rfl, Nat.le_of_ble_eq_true rfl⟩ dL_law_1049 (As := [.ref (mB E + 0), .int a1, .int a2, .ref (mB E + 105)]) (st := []) (ow_then_t1 hC.2.2.2.2.2.2.2.1 hW h1) rfl rfl (Nat.le_of_ble_eq_true rfl) (by rw [hr]; exact hk) ?_
      refine g_istore hC dL_law_1052 rfl (by decide) (lv' := [(5, .int (1 : Int32)), (0, .ref b), (1, .ref (mB E + 0)), (2, .ref (mB E + 75)), (3, .ref (mB E + 105)), (4, .int i)]) rfl ?_
      refine g_aload_n hC dL_law_1054 (i := 2) rfl (q := 3) rfl ?_
      refine g_aload_n hC dL_law_1055 (i := 0) rfl (q := 1) rfl ?_
      refine g_iload hC dL_law_1056 (q := 5) rfl ?_
      refine g_iconst hC dL_law_1058 (v := (1 : Int32)) (by decide) ?_
      refine g_iadd hC dL_law_1059 ?_
      refine g_scr hC hX hi1 dL_law_1060 ?_
      rw [← ha1]
      refine g_aload_n hC dL_law_1061 (i := 0) rfl (q := 1) rfl ?_
      refine g_iload hC dL_law_1062 (q := 5) rfl ?_
      refine g_iconst hC dL_law_1064 (v := (2 : Int32)) (by decide) ?_
      refine g_iadd hC dL_law_1065 ?_
      refine g_scr hC hX hi2 dL_law_1066 ?_
      rw [← ha2]
      refine g_cV1 hC cv_X12_then wd_2098 ⟨Nat.le_of_ble_eq_true rfl, Nat.le_of_ble_eq_true rfl⟩ rfl (by decide) dL_law_1067 (As := [.int a1, .int a2]) (st := []) (ok_X12_then hC.2.2.2.2.2.2.2.1 hW h2) rfl rfl (Nat.le_of_ble_eq_true rfl) (by rw [hr]; exact hk) ?_
      refine g_istore hC dL_law_1070 rfl (by decide) (lv' := [(6, .int o2.1), (5, .int (1 : Int32)), (0, .ref b), (1, .ref (mB E + 0)), (2, .ref (mB E + 75)), (3, .ref (mB E + 105)), (4, .int i)]) rfl ?_
      refine g_aload_n hC dL_law_1072 (i := 2) rfl (q := 4) rfl ?_
      refine g_cV1 hC cv_X12_thrown wd_1835 ⟨Nat.le_of_ble_eq_true rfl, Nat.le_of_ble_eq_true rfl⟩ rfl (by decide) dL_law_1073 (As := []) (st := []) (ok_X12_thrown hC.2.2.2.2.2.2.2.1 hW h3) rfl rfl (Nat.le_of_ble_eq_true rfl) (by rw [hr]; exact hk) ?_
      refine g_iload hC dL_law_1076 (q := 1) rfl ?_
      refine g_ic_eq hC dL_law_1078 (tgt := 1083) (by decide) (fun _ => ?_) (fun ne => absurd rfl ne)
      refine g_iload hC dL_law_1083 (q := 1) rfl ?_
      refine g_if_ne hC dL_law_1085 (tgt := 1100) (by decide) (fun _ => ?_) (fun e => absurd e (by decide))
      refine g_goto hC dL_law_1100 (tgt := 2418) (by decide) ?_
      refine g_lv [2, 3, 4, 5, 6] rfl ?_
      exact kk _ _ _ hP
    · replace hq : q0 = 2 := hq
      subst hq
      refine g_aload_n hC dL_law_1035 (i := 1) rfl (q := 1) rfl ?_
      refine g_aload_n hC dL_law_1036 (i := 0) rfl (q := 0) rfl ?_
      refine g_iload hC dL_law_1037 (q := 4) rfl ?_
      refine g_iconst hC dL_law_1039 (v := (1 : Int32)) (by decide) ?_
      refine g_iadd hC dL_law_1040 ?_
      refine g_scr hC hX hi1 dL_law_1041 ?_
      rw [← ha1]
      refine g_aload_n hC dL_law_1042 (i := 0) rfl (q := 0) rfl ?_
      refine g_iload hC dL_law_1043 (q := 4) rfl ?_
      refine g_iconst hC dL_law_1045 (v := (2 : Int32)) (by decide) ?_
      refine g_iadd hC dL_law_1046 ?_
      refine g_scr hC hX hi2 dL_law_1047 ?_
      rw [← ha2]
      refine g_aload_n hC dL_law_1048 (i := 3) rfl (q := 3) rfl ?_
      refine g_cW hC hN (M2 := mL_then) (na := 4) wd_1283 wd_126 wd_1282 wd_1281 ⟨by decide, by decide, by decide⟩ ⟨Nat.le_of_ble_eq_true rfl, Nat.le_of_ble_eq_true rfl⟩ dL_law_1049 (As := [.ref (mB E + 0), .int a1, .int a2, .ref (mB E + 105)]) (st := []) (ow_then_t2 hC.2.2.2.2.2.2.2.1 hW h1) rfl rfl (Nat.le_of_ble_eq_true rfl) (by rw [hr]; exact hk) ?_
      refine g_istore hC dL_law_1052 rfl (by decide) (lv' := [(5, .int (2 : Int32)), (0, .ref b), (1, .ref (mB E + 0)), (2, .ref (mB E + 75)), (3, .ref (mB E + 105)), (4, .int i)]) rfl ?_
      refine g_aload_n hC dL_law_1054 (i := 2) rfl (q := 3) rfl ?_
      refine g_aload_n hC dL_law_1055 (i := 0) rfl (q := 1) rfl ?_
      refine g_iload hC dL_law_1056 (q := 5) rfl ?_
      refine g_iconst hC dL_law_1058 (v := (1 : Int32)) (by decide) ?_
      refine g_iadd hC dL_law_1059 ?_
      refine g_scr hC hX hi1 dL_law_1060 ?_
      rw [← ha1]
      refine g_aload_n hC dL_law_1061 (i := 0) rfl (q := 1) rfl ?_
      refine g_iload hC dL_law_1062 (q := 5) rfl ?_
      refine g_iconst hC dL_law_1064 (v := (2 : Int32)) (by decide) ?_
      refine g_iadd hC dL_law_1065 ?_
      refine g_scr hC hX hi2 dL_law_1066 ?_
      rw [← ha2]
      refine g_cV1 hC cv_X12_then wd_2098 ⟨Nat.le_of_ble_eq_true rfl, Nat.le_of_ble_eq_true rfl⟩ rfl (by decide) dL_law_1067 (As := [.int a1, .int a2]) (st := []) (ok_X12_then hC.2.2.2.2.2.2.2.1 hW h2) rfl rfl (Nat.le_of_ble_eq_true rfl) (by rw [hr]; exact hk) ?_
      refine g_istore hC dL_law_1070 rfl (by decide) (lv' := [(6, .int o2.1), (5, .int (2 : Int32)), (0, .ref b), (1, .ref (mB E + 0)), (2, .ref (mB E + 75)), (3, .ref (mB E + 105)), (4, .int i)]) rfl ?_
      refine g_aload_n hC dL_law_1072 (i := 2) rfl (q := 4) rfl ?_
      refine g_cV1 hC cv_X12_thrown wd_1835 ⟨Nat.le_of_ble_eq_true rfl, Nat.le_of_ble_eq_true rfl⟩ rfl (by decide) dL_law_1073 (As := []) (st := []) (ok_X12_thrown hC.2.2.2.2.2.2.2.1 hW h3) rfl rfl (Nat.le_of_ble_eq_true rfl) (by rw [hr]; exact hk) ?_
      refine g_iload hC dL_law_1076 (q := 1) rfl ?_
      refine g_ic_eq hC dL_law_1078 (tgt := 1083) (by decide) (fun _ => ?_) (fun ne => absurd rfl ne)
      refine g_iload hC dL_law_1083 (q := 1) rfl ?_
      refine g_if_ne hC dL_law_1085 (tgt := 1100) (by decide) (fun _ => ?_) (fun e => absurd e (by decide))
      refine g_goto hC dL_law_1100 (tgt := 2418) (by decide) ?_
      refine g_lv [2, 3, 4, 5, 6] rfl ?_
      exact kk _ _ _ hP
def st_goes (Fu : Nat) (I : mIT) (R : mRT) (L : mLT) (a1 : Int32) (P : mIT → mRT → mLT → Prop) : Prop := (∃ o, f_X11_goes Fu R I a1 = some (.inl o) ∧ ∃ o2, f_X12_goes Fu o.2 a1 = some o2 ∧ f_X12_thrown Fu o2.2 = some 0 ∧ o.1 = o2.1 ∧ P o2.2 R (mUL L 105 0 (o.1).toInt64)) ∨ (∃ q, f_X11_goes Fu R I a1 = some (.inr q) ∧ ∃ o2, f_X12_goes Fu q.2 a1 = some o2 ∧ (q.1 = 1 ∧ f_X12_thrown Fu o2.2 = some 1) ∧ P o2.2 R L)
set_option maxRecDepth 20000 in
theorem lc_goes {X : mXT} {E : mEn} (hC : mC X E mLaw RL code) (hN : va_Nc "java/lang/IllegalArgumentException" "java/util/NoSuchElementException" X.2.2.2.1) (hr : X.2.2.2.2.2.2.2.2.2.2.1 = (1147, 45333)) {b Ln : Nat} {xs : Nat → Int32} (hX : va_X b Ln xs X.2.2.2.1 E.2.2.1 ∧ b < mB E) {i : Int32} {Fu : Nat} {I : mIT} {R : mRT} {L : mLT} {k z : Nat} (hW : mWd R) (hk : k + 1 ≤ 1147 ∧ z + 6 ≤ 45333) {a1 : Int32} (hi1 : vp_in (i + 1) Ln) (ha1 : a1 = xs (i + 1).toNatClampNeg) {P : mIT → mRT → mLT → Prop} (hP : st_goes Fu I R L a1 P) (kk : ∀ (I' : mIT) (R' : mRT) (L' : mLT), P I' R' L' → mG X E 2418 [(0, .ref b), (1, .ref (mB E + 0)), (2, .ref (mB E + 75)), (3, .ref (mB E + 105)), (4, .int i)] [] 106 1 I' R' L' (k + 1) (z + 6)) : mG X E 1103 [(0, .ref b), (1, .ref (mB E + 0)), (2, .ref (mB E + 75)), (3, .ref (mB E + 105)), (4, .int i)] [] 106 1 I R L k z := by
  rcases hP with ⟨o, h1, o2, h2, h3, h4, hP⟩ | ⟨q, h1, o2, h2, h3, hP⟩
  · refine g_aload_n hC dL_law_1103 (i := 1) rfl (q := 1) rfl ?_
    refine g_aload_n hC dL_law_1104 (i := 0) rfl (q := 0) rfl ?_
    refine g_iload hC dL_law_1105 (q := 4) rfl ?_
    refine g_iconst hC dL_law_1107 (v := (1 : Int32)) (by decide) ?_
    refine g_iadd hC dL_law_1108 ?_
    refine g_scr hC hX hi1 dL_law_1109 ?_
    rw [← ha1]
    refine g_aload_n hC dL_law_1110 (i := 3) rfl (q := 3) rfl ?_
    refine g_cW hC hN (M2 := mL_goes) (na := 3) wd_1296 wd_126 wd_1295 wd_1294 ⟨by decide, by decide, by decide⟩ ⟨Nat.le_of_ble_eq_true rfl, Nat.le_of_ble_eq_true rfl⟩ dL_law_1111 (As := [.ref (mB E + 0), .int a1, .ref (mB E + 105)]) (st := []) (ow_goes_r hC.2.2.2.2.2.2.2.1 hW h1) rfl rfl (Nat.le_of_ble_eq_true rfl) (by rw [hr]; exact hk) ?_
    refine g_istore hC dL_law_1114 rfl (by decide) (lv' := [(5, .int (0 : Int32)), (0, .ref b), (1, .ref (mB E + 0)), (2, .ref (mB E + 75)), (3, .ref (mB E + 105)), (4, .int i)]) rfl ?_
    refine g_aload_n hC dL_law_1116 (i := 2) rfl (q := 3) rfl ?_
    refine g_aload_n hC dL_law_1117 (i := 0) rfl (q := 1) rfl ?_
    refine g_iload hC dL_law_1118 (q := 5) rfl ?_
    refine g_iconst hC dL_law_1120 (v := (1 : Int32)) (by decide) ?_
    refine g_iadd hC dL_law_1121 ?_
    refine g_scr hC hX hi1 dL_law_1122 ?_
    rw [← ha1]
    refine g_cV1 hC cv_X12_goes wd_2114 ⟨Nat.le_of_ble_eq_true rfl, Nat.le_of_ble_eq_true rfl⟩ rfl (by decide) dL_law_1123 (As := [.int a1]) (st := []) (ok_X12_goes hC.2.2.2.2.2.2.2.1 hW h2) rfl rfl (Nat.le_of_ble_eq_true rfl) (by rw [hr]; exact hk) ?_
    refine g_istore hC dL_law_1126 rfl (by decide) (lv' := [(6, .int o2.1), (5, .int (0 : Int32)), (0, .ref b), (1, .ref (mB E + 0)), (2, .ref (mB E + 75)), (3, .ref (mB E + 105)), (4, .int i)]) rfl ?_
    refine g_aload_n hC dL_law_1128 (i := 2) rfl (q := 4) rfl ?_
    refine g_cV1 hC cv_X12_thrown wd_1835 ⟨Nat.le_of_ble_eq_true rfl, Nat.le_of_ble_eq_true rfl⟩ rfl (by decide) dL_law_1129 (As := []) (st := []) (ok_X12_thrown hC.2.2.2.2.2.2.2.1 hW h3) rfl rfl (Nat.le_of_ble_eq_true rfl) (by rw [hr]; exact hk) ?_
    refine g_iload hC dL_law_1132 (q := 1) rfl ?_
    refine g_ic_eq hC dL_law_1134 (tgt := 1139) (by decide) (fun _ => ?_) (fun ne => absurd rfl ne)
    refine g_iload hC dL_law_1139 (q := 1) rfl ?_
    refine g_if_ne hC dL_law_1141 (tgt := 1156) (by decide) (fun ne => absurd rfl ne) (fun _ => ?_)
    refine g_aload_n hC dL_law_1144 (i := 3) rfl (q := 5) rfl ?_
    refine g_iconst hC dL_law_1145 (v := (0 : Int32)) (by decide) ?_
    refine g_lald hC (len := 1) rfl (by decide) (inB_in (by decide)) dL_law_1146 ?_
    refine g_iload hC dL_law_1147 (q := 0) rfl ?_
    refine g_i2l hC dL_law_1149 ?_
    refine g_lcmp hC dL_law_1150 ?_
    have hcmp : (mUL L 105 0 (o.1).toInt64) 105 (0 : Int32).toNatClampNeg = (o2.1).toInt64 := (show mUL _ 105 0 _ 105 0 = _ from by simp only [mUL, and_self, if_true]; rw [h4])
    refine g_if_eq hC dL_law_1151 (tgt := 1156) (by decide) (fun _ => ?_) (fun ne => absurd (by rw [hcmp]; exact lg_same _) ne)
    refine g_goto hC dL_law_1156 (tgt := 2418) (by decide) ?_
    refine g_lv [2, 3, 4, 5, 6] rfl ?_
    exact kk _ _ _ hP
  · obtain ⟨q0, I1⟩ := q
    obtain ⟨hq, h3⟩ := h3
    replace hq : q0 = 1 := hq
    subst hq
    refine g_aload_n hC dL_law_1103 (i := 1) rfl (q := 1) rfl ?_
    refine g_aload_n hC dL_law_1104 (i := 0) rfl (q := 0) rfl ?_
    refine g_iload hC dL_law_1105 (q := 4) rfl ?_
    refine g_iconst hC dL_law_1107 (v := (1 : Int32)) (by decide) ?_
    refine g_iadd hC dL_law_1108 ?_
    refine g_scr hC hX hi1 dL_law_1109 ?_
    rw [← ha1]
    refine g_aload_n hC dL_law_1110 (i := 3) rfl (q := 3) rfl ?_
    refine g_cW hC hN (M2 := mL_goes) (na := 3) wd_1296 wd_126 wd_1295 wd_1294 ⟨by decide, by decide, by decide⟩ ⟨Nat.le_of_ble_eq_true rfl, Nat.le_of_ble_eq_true rfl⟩ dL_law_1111 (As := [.ref (mB E + 0), .int a1, .ref (mB E + 105)]) (st := []) (ow_goes_t1 hC.2.2.2.2.2.2.2.1 hW h1) rfl rfl (Nat.le_of_ble_eq_true rfl) (by rw [hr]; exact hk) ?_
    refine g_istore hC dL_law_1114 rfl (by decide) (lv' := [(5, .int (1 : Int32)), (0, .ref b), (1, .ref (mB E + 0)), (2, .ref (mB E + 75)), (3, .ref (mB E + 105)), (4, .int i)]) rfl ?_
    refine g_aload_n hC dL_law_1116 (i := 2) rfl (q := 3) rfl ?_
    refine g_aload_n hC dL_law_1117 (i := 0) rfl (q := 1) rfl ?_
    refine g_iload hC dL_law_1118 (q := 5) rfl ?_
    refine g_iconst hC dL_law_1120 (v := (1 : Int32)) (by decide) ?_
    refine g_iadd hC dL_law_1121 ?_
    refine g_scr hC hX hi1 dL_law_1122 ?_
    rw [← ha1]
    refine g_cV1 hC cv_X12_goes wd_2114 ⟨Nat.le_of_ble_eq_true rfl, Nat.le_of_ble_eq_true rfl⟩ rfl (by decide) dL_law_1123 (As := [.int a1]) (st := []) (ok_X12_goes hC.2.2.2.2.2.2.2.1 hW h2) rfl rfl (Nat.le_of_ble_eq_true rfl) (by rw [hr]; exact hk) ?_
    refine g_istore hC dL_law_1126 rfl (by decide) (lv' := [(6, .int o2.1), (5, .int (1 : Int32)), (0, .ref b), (1, .ref (mB E + 0)), (2, .ref (mB E + 75)), (3, .ref (mB E + 105)), (4, .int i)]) rfl ?_
    refine g_aload_n hC dL_law_1128 (i := 2) rfl (q := 4) rfl ?_
    refine g_cV1 hC cv_X12_thrown wd_1835 ⟨Nat.le_of_ble_eq_true rfl, Nat.le_of_ble_eq_true rfl⟩ rfl (by decide) dL_law_1129 (As := []) (st := []) (ok_X12_thrown hC.2.2.2.2.2.2.2.1 hW h3) rfl rfl (Nat.le_of_ble_eq_true rfl) (by rw [hr]; exact hk) ?_
    refine g_iload hC dL_law_1132 (q := 1) rfl ?_
    refine g_ic_eq hC dL_law_1134 (tgt := 1139) (by decide) (fun _ => ?_) (fun ne => absurd rfl ne)
    refine g_iload hC dL_law_1139 (q := 1) rfl ?_
    refine g_if_ne hC dL_law_1141 (tgt := 1156) (by decide) (fun _ => ?_) (fun e => absurd e (by decide))
    refine g_goto hC dL_law_1156 (tgt := 2418) (by decide) ?_
    refine g_lv [2, 3, 4, 5, 6] rfl ?_
    exact kk _ _ _ hP
def st_rings (Fu : Nat) (I : mIT) (R : mRT) (L : mLT) (a1 : Int32) (P : mIT → mRT → mLT → Prop) : Prop := (∃ o, f_X11_rings Fu R I a1 = some (.inl o) ∧ ∃ o2, f_X12_rings Fu o.2 a1 = some o2 ∧ f_X12_thrown Fu o2.2 = some 0 ∧ o.1 = o2.1 ∧ P o2.2 R (mUL L 105 0 (if o.1 = 0 then 0 else 1 : Int64))) ∨ (∃ q, f_X11_rings Fu R I a1 = some (.inr q) ∧ ∃ o2, f_X12_rings Fu q.2 a1 = some o2 ∧ (q.1 = 2 ∧ f_X12_thrown Fu o2.2 = some 1) ∧ P o2.2 R L)
set_option maxRecDepth 20000 in
theorem lc_rings {X : mXT} {E : mEn} (hC : mC X E mLaw RL code) (hN : va_Nc "java/lang/IllegalArgumentException" "java/util/NoSuchElementException" X.2.2.2.1) (hr : X.2.2.2.2.2.2.2.2.2.2.1 = (1147, 45333)) {b Ln : Nat} {xs : Nat → Int32} (hX : va_X b Ln xs X.2.2.2.1 E.2.2.1 ∧ b < mB E) {i : Int32} {Fu : Nat} {I : mIT} {R : mRT} {L : mLT} {k z : Nat} (hW : mWd R) (hk : k + 1 ≤ 1147 ∧ z + 6 ≤ 45333) {a1 : Int32} (hi1 : vp_in (i + 1) Ln) (ha1 : a1 = xs (i + 1).toNatClampNeg) {P : mIT → mRT → mLT → Prop} (hP : st_rings Fu I R L a1 P) (kk : ∀ (I' : mIT) (R' : mRT) (L' : mLT), P I' R' L' → mG X E 2418 [(0, .ref b), (1, .ref (mB E + 0)), (2, .ref (mB E + 75)), (3, .ref (mB E + 105)), (4, .int i)] [] 106 1 I' R' L' (k + 1) (z + 6)) : mG X E 1159 [(0, .ref b), (1, .ref (mB E + 0)), (2, .ref (mB E + 75)), (3, .ref (mB E + 105)), (4, .int i)] [] 106 1 I R L k z := by
  rcases hP with ⟨o, h1, o2, h2, h3, h4, hP⟩ | ⟨q, h1, o2, h2, h3, hP⟩
  · refine g_aload_n hC dL_law_1159 (i := 1) rfl (q := 1) rfl ?_
    refine g_aload_n hC dL_law_1160 (i := 0) rfl (q := 0) rfl ?_
    refine g_iload hC dL_law_1161 (q := 4) rfl ?_
    refine g_iconst hC dL_law_1163 (v := (1 : Int32)) (by decide) ?_
    refine g_iadd hC dL_law_1164 ?_
    refine g_scr hC hX hi1 dL_law_1165 ?_
    rw [← ha1]
    refine g_aload_n hC dL_law_1166 (i := 3) rfl (q := 3) rfl ?_
    refine g_cW hC hN (M2 := mL_rings) (na := 3) wd_1303 wd_126 wd_1302 wd_1301 ⟨by decide, by decide, by decide⟩ ⟨Nat.le_of_ble_eq_true rfl, Nat.le_of_ble_eq_true rfl⟩ dL_law_1167 (As := [.ref (mB E + 0), .int a1, .ref (mB E + 105)]) (st := []) (ow_rings_r hC.2.2.2.2.2.2.2.1 hW h1) rfl rfl (Nat.le_of_ble_eq_true rfl) (by rw [hr]; exact hk) ?_
    refine g_istore hC dL_law_1170 rfl (by decide) (lv' := [(5, .int (0 : Int32)), (0, .ref b), (1, .ref (mB E + 0)), (2, .ref (mB E + 75)), (3, .ref (mB E + 105)), (4, .int i)]) rfl ?_
    refine g_aload_n hC dL_law_1172 (i := 2) rfl (q := 3) rfl ?_
    refine g_aload_n hC dL_law_1173 (i := 0) rfl (q := 1) rfl ?_
    refine g_iload hC dL_law_1174 (q := 5) rfl ?_
    refine g_iconst hC dL_law_1176 (v := (1 : Int32)) (by decide) ?_
    refine g_iadd hC dL_law_1177 ?_
    refine g_scr hC hX hi1 dL_law_1178 ?_
    rw [← ha1]
    refine g_cV1 hC cv_X12_rings wd_2122 ⟨Nat.le_of_ble_eq_true rfl, Nat.le_of_ble_eq_true rfl⟩ rfl (by decide) dL_law_1179 (As := [.int a1]) (st := []) (ok_X12_rings hC.2.2.2.2.2.2.2.1 hW h2) rfl rfl (Nat.le_of_ble_eq_true rfl) (by rw [hr]; exact hk) ?_
    refine g_istore hC dL_law_1182 rfl (by decide) (lv' := [(6, .int o2.1), (5, .int (0 : Int32)), (0, .ref b), (1, .ref (mB E + 0)), (2, .ref (mB E + 75)), (3, .ref (mB E + 105)), (4, .int i)]) rfl ?_
    refine g_aload_n hC dL_law_1184 (i := 2) rfl (q := 4) rfl ?_
    refine g_cV1 hC cv_X12_thrown wd_1835 ⟨Nat.le_of_ble_eq_true rfl, Nat.le_of_ble_eq_true rfl⟩ rfl (by decide) dL_law_1185 (As := []) (st := []) (ok_X12_thrown hC.2.2.2.2.2.2.2.1 hW h3) rfl rfl (Nat.le_of_ble_eq_true rfl) (by rw [hr]; exact hk) ?_
    refine g_iload hC dL_law_1188 (q := 1) rfl ?_
    refine g_ic_eq hC dL_law_1190 (tgt := 1195) (by decide) (fun _ => ?_) (fun ne => absurd rfl ne)
    refine g_iload hC dL_law_1195 (q := 1) rfl ?_
    refine g_if_ne hC dL_law_1197 (tgt := 1219) (by decide) (fun ne => absurd rfl ne) (fun _ => ?_)
    refine g_aload_n hC dL_law_1200 (i := 3) rfl (q := 5) rfl ?_
    refine g_iconst hC dL_law_1201 (v := (0 : Int32)) (by decide) ?_
    refine g_lald hC (len := 1) rfl (by decide) (inB_in (by decide)) dL_law_1202 ?_
    refine g_iload hC dL_law_1203 (q := 0) rfl ?_
    refine g_if_eq hC dL_law_1205 (tgt := 1212) (by decide) (fun cb => ?_) (fun cb => ?_)
    · refine g_lconst hC dL_law_1212 (v := 0) (by decide) ?_
      refine g_lcmp hC dL_law_1213 ?_
      have hcmp : (mUL L 105 0 (if o.1 = 0 then 0 else 1 : Int64)) 105 (0 : Int32).toNatClampNeg = (0 : Int64) := (show mUL _ 105 0 _ 105 0 = _ from by simp only [mUL, and_self, if_true]; exact if_pos (h4.trans cb))
      refine g_if_eq hC dL_law_1214 (tgt := 1219) (by decide) (fun _ => ?_) (fun ne => absurd (by rw [hcmp]; exact lg_same _) ne)
      refine g_goto hC dL_law_1219 (tgt := 2418) (by decide) ?_
      refine g_lv [2, 3, 4, 5, 6] rfl ?_
      exact kk _ _ _ hP
    · refine g_lconst hC dL_law_1208 (v := 1) (by decide) ?_
      refine g_goto hC dL_law_1209 (tgt := 1213) (by decide) ?_
      refine g_lcmp hC dL_law_1213 ?_
      have hcmp : (mUL L 105 0 (if o.1 = 0 then 0 else 1 : Int64)) 105 (0 : Int32).toNatClampNeg = (1 : Int64) := (show mUL _ 105 0 _ 105 0 = _ from by simp only [mUL, and_self, if_true]; exact if_neg (fun e => cb (h4.symm.trans e)))
      refine g_if_eq hC dL_law_1214 (tgt := 1219) (by decide) (fun _ => ?_) (fun ne => absurd (by rw [hcmp]; exact lg_same _) ne)
      refine g_goto hC dL_law_1219 (tgt := 2418) (by decide) ?_
      refine g_lv [2, 3, 4, 5, 6] rfl ?_
      exact kk _ _ _ hP
  · obtain ⟨q0, I1⟩ := q
    obtain ⟨hq, h3⟩ := h3
    replace hq : q0 = 2 := hq
    subst hq
    refine g_aload_n hC dL_law_1159 (i := 1) rfl (q := 1) rfl ?_
    refine g_aload_n hC dL_law_1160 (i := 0) rfl (q := 0) rfl ?_
    refine g_iload hC dL_law_1161 (q := 4) rfl ?_
    refine g_iconst hC dL_law_1163 (v := (1 : Int32)) (by decide) ?_
    refine g_iadd hC dL_law_1164 ?_
    refine g_scr hC hX hi1 dL_law_1165 ?_
    rw [← ha1]
    refine g_aload_n hC dL_law_1166 (i := 3) rfl (q := 3) rfl ?_
    refine g_cW hC hN (M2 := mL_rings) (na := 3) wd_1303 wd_126 wd_1302 wd_1301 ⟨by decide, by decide, by decide⟩ ⟨Nat.le_of_ble_eq_true rfl, Nat.le_of_ble_eq_true rfl⟩ dL_law_1167 (As := [.ref (mB E + 0), .int a1, .ref (mB E + 105)]) (st := []) (ow_rings_t2 hC.2.2.2.2.2.2.2.1 hW h1) rfl rfl (Nat.le_of_ble_eq_true rfl) (by rw [hr]; exact hk) ?_
    refine g_istore hC dL_law_1170 rfl (by decide) (lv' := [(5, .int (1 : Int32)), (0, .ref b), (1, .ref (mB E + 0)), (2, .ref (mB E + 75)), (3, .ref (mB E + 105)), (4, .int i)]) rfl ?_
    refine g_aload_n hC dL_law_1172 (i := 2) rfl (q := 3) rfl ?_
    refine g_aload_n hC dL_law_1173 (i := 0) rfl (q := 1) rfl ?_
    refine g_iload hC dL_law_1174 (q := 5) rfl ?_
    refine g_iconst hC dL_law_1176 (v := (1 : Int32)) (by decide) ?_
    refine g_iadd hC dL_law_1177 ?_
    refine g_scr hC hX hi1 dL_law_1178 ?_
    rw [← ha1]
    refine g_cV1 hC cv_X12_rings wd_2122 ⟨Nat.le_of_ble_eq_true rfl, Nat.le_of_ble_eq_true rfl⟩ rfl (by decide) dL_law_1179 (As := [.int a1]) (st := []) (ok_X12_rings hC.2.2.2.2.2.2.2.1 hW h2) rfl rfl (Nat.le_of_ble_eq_true rfl) (by rw [hr]; exact hk) ?_
    refine g_istore hC dL_law_1182 rfl (by decide) (lv' := [(6, .int o2.1), (5, .int (1 : Int32)), (0, .ref b), (1, .ref (mB E + 0)), (2, .ref (mB E + 75)), (3, .ref (mB E + 105)), (4, .int i)]) rfl ?_
    refine g_aload_n hC dL_law_1184 (i := 2) rfl (q := 4) rfl ?_
    refine g_cV1 hC cv_X12_thrown wd_1835 ⟨Nat.le_of_ble_eq_true rfl, Nat.le_of_ble_eq_true rfl⟩ rfl (by decide) dL_law_1185 (As := []) (st := []) (ok_X12_thrown hC.2.2.2.2.2.2.2.1 hW h3) rfl rfl (Nat.le_of_ble_eq_true rfl) (by rw [hr]; exact hk) ?_
    refine g_iload hC dL_law_1188 (q := 1) rfl ?_
    refine g_ic_eq hC dL_law_1190 (tgt := 1195) (by decide) (fun _ => ?_) (fun ne => absurd rfl ne)
    refine g_iload hC dL_law_1195 (q := 1) rfl ?_
    refine g_if_ne hC dL_law_1197 (tgt := 1219) (by decide) (fun _ => ?_) (fun e => absurd e (by decide))
    refine g_goto hC dL_law_1219 (tgt := 2418) (by decide) ?_
    refine g_lv [2, 3, 4, 5, 6] rfl ?_
    exact kk _ _ _ hP
def st_last (Fu : Nat) (I : mIT) (R : mRT) (L : mLT)  (P : mIT → mRT → mLT → Prop) : Prop := ∃ o, f_X11_last Fu R I = some o ∧ ∃ o2, f_X12_last Fu o.2 = some o2 ∧ o.1 = o2.1 ∧ P o2.2 R L
set_option maxRecDepth 20000 in
theorem lc_last {X : mXT} {E : mEn} (hC : mC X E mLaw RL code) (hN : va_Nc "java/lang/IllegalArgumentException" "java/util/NoSuchElementException" X.2.2.2.1) (hr : X.2.2.2.2.2.2.2.2.2.2.1 = (1147, 45333)) {b Ln : Nat} {xs : Nat → Int32} (hX : va_X b Ln xs X.2.2.2.1 E.2.2.1 ∧ b < mB E) {i : Int32} {Fu : Nat} {I : mIT} {R : mRT} {L : mLT} {k z : Nat} (hW : mWd R) (hk : k + 1 ≤ 1147 ∧ z + 6 ≤ 45333)  {P : mIT → mRT → mLT → Prop} (hP : st_last Fu I R L  P) (kk : ∀ (I' : mIT) (R' : mRT) (L' : mLT), P I' R' L' → mG X E 2418 [(0, .ref b), (1, .ref (mB E + 0)), (2, .ref (mB E + 75)), (3, .ref (mB E + 105)), (4, .int i)] [] 106 1 I' R' L' (k + 1) (z + 6)) : mG X E 1222 [(0, .ref b), (1, .ref (mB E + 0)), (2, .ref (mB E + 75)), (3, .ref (mB E + 105)), (4, .int i)] [] 106 1 I R L k z := by
  obtain ⟨o, h1, o2, h2, hP⟩ := hP
  refine g_aload_n hC dL_law_1222 (i := 1) rfl (q := 1) rfl ?_
  refine g_cV1 hC cv_X11_last wd_660 ⟨Nat.le_of_ble_eq_true rfl, Nat.le_of_ble_eq_true rfl⟩ rfl (by decide) dL_law_1223 (As := []) (st := []) (ok_X11_last hC.2.2.2.2.2.2.2.1 hW h1) rfl rfl (Nat.le_of_ble_eq_true rfl) (by rw [hr]; exact ⟨Nat.le_trans (Nat.le_add_right _ _) hk.1, Nat.le_trans (Nat.le_add_right _ _) hk.2⟩) ?_
  refine g_aload_n hC dL_law_1226 (i := 2) rfl (q := 2) rfl ?_
  refine g_cV1 hC cv_X12_last wd_2130 ⟨Nat.le_of_ble_eq_true rfl, Nat.le_of_ble_eq_true rfl⟩ rfl (by decide) dL_law_1227 (As := []) (st := [.int o.1]) (ok_X12_last hC.2.2.2.2.2.2.2.1 hW h2) rfl rfl (Nat.le_of_ble_eq_true rfl) (by rw [hr]; exact ⟨Nat.le_trans (Nat.le_add_right _ _) hk.1, Nat.le_trans (Nat.le_add_right _ _) hk.2⟩) ?_
  refine g_ic_eq hC dL_law_1230 (tgt := 2418) (by decide) (fun _ => ?_) (fun ne => absurd hP.1 ne)
  refine g_wid (Nat.le_add_right _ 1) (Nat.le_add_right _ 6) ?_
  exact kk _ _ _ hP.2
def st_soft (Fu : Nat) (I : mIT) (R : mRT) (L : mLT)  (P : mIT → mRT → mLT → Prop) : Prop := ∃ o, f_X11_soft Fu R I = some o ∧ ∃ o2, f_X12_soft Fu o.2 = some o2 ∧ o.1 = o2.1 ∧ P o2.2 R L
set_option maxRecDepth 20000 in
theorem lc_soft {X : mXT} {E : mEn} (hC : mC X E mLaw RL code) (hN : va_Nc "java/lang/IllegalArgumentException" "java/util/NoSuchElementException" X.2.2.2.1) (hr : X.2.2.2.2.2.2.2.2.2.2.1 = (1147, 45333)) {b Ln : Nat} {xs : Nat → Int32} (hX : va_X b Ln xs X.2.2.2.1 E.2.2.1 ∧ b < mB E) {i : Int32} {Fu : Nat} {I : mIT} {R : mRT} {L : mLT} {k z : Nat} (hW : mWd R) (hk : k + 1 ≤ 1147 ∧ z + 6 ≤ 45333)  {P : mIT → mRT → mLT → Prop} (hP : st_soft Fu I R L  P) (kk : ∀ (I' : mIT) (R' : mRT) (L' : mLT), P I' R' L' → mG X E 2418 [(0, .ref b), (1, .ref (mB E + 0)), (2, .ref (mB E + 75)), (3, .ref (mB E + 105)), (4, .int i)] [] 106 1 I' R' L' (k + 1) (z + 6)) : mG X E 1235 [(0, .ref b), (1, .ref (mB E + 0)), (2, .ref (mB E + 75)), (3, .ref (mB E + 105)), (4, .int i)] [] 106 1 I R L k z := by
  obtain ⟨o, h1, o2, h2, hP⟩ := hP
  refine g_aload_n hC dL_law_1235 (i := 1) rfl (q := 1) rfl ?_
  refine g_cV1 hC cv_X11_soft wd_711 ⟨Nat.le_of_ble_eq_true rfl, Nat.le_of_ble_eq_true rfl⟩ rfl (by decide) dL_law_1236 (As := []) (st := []) (ok_X11_soft hC.2.2.2.2.2.2.2.1 hW h1) rfl rfl (Nat.le_of_ble_eq_true rfl) (by rw [hr]; exact ⟨Nat.le_trans (Nat.le_add_right _ _) hk.1, Nat.le_trans (Nat.le_add_right _ _) hk.2⟩) ?_
  refine g_aload_n hC dL_law_1239 (i := 2) rfl (q := 2) rfl ?_
  refine g_cV1 hC cv_X12_soft wd_2134 ⟨Nat.le_of_ble_eq_true rfl, Nat.le_of_ble_eq_true rfl⟩ rfl (by decide) dL_law_1240 (As := []) (st := [.int o.1]) (ok_X12_soft hC.2.2.2.2.2.2.2.1 hW h2) rfl rfl (Nat.le_of_ble_eq_true rfl) (by rw [hr]; exact ⟨Nat.le_trans (Nat.le_add_right _ _) hk.1, Nat.le_trans (Nat.le_add_right _ _) hk.2⟩) ?_
  refine g_ic_eq hC dL_law_1243 (tgt := 2418) (by decide) (fun _ => ?_) (fun ne => absurd hP.1 ne)
  refine g_wid (Nat.le_add_right _ 1) (Nat.le_add_right _ 6) ?_
  exact kk _ _ _ hP.2
def st_order (Fu : Nat) (I : mIT) (R : mRT) (L : mLT) (a1 : Int32) (P : mIT → mRT → mLT → Prop) : Prop := (∃ o, f_X11_order Fu R I a1 = some (.inl o) ∧ ∃ o2, f_X12_order Fu o.2 a1 = some o2 ∧ f_X12_thrown Fu o2.2 = some 0 ∧ o.1 = o2.1 ∧ P o2.2 R (mUL L 105 0 (o.1).toInt64)) ∨ (∃ q, f_X11_order Fu R I a1 = some (.inr q) ∧ ∃ o2, f_X12_order Fu q.2 a1 = some o2 ∧ (q.1 = 1 ∧ f_X12_thrown Fu o2.2 = some 1) ∧ P o2.2 R L)
set_option maxRecDepth 20000 in
theorem lc_order {X : mXT} {E : mEn} (hC : mC X E mLaw RL code) (hN : va_Nc "java/lang/IllegalArgumentException" "java/util/NoSuchElementException" X.2.2.2.1) (hr : X.2.2.2.2.2.2.2.2.2.2.1 = (1147, 45333)) {b Ln : Nat} {xs : Nat → Int32} (hX : va_X b Ln xs X.2.2.2.1 E.2.2.1 ∧ b < mB E) {i : Int32} {Fu : Nat} {I : mIT} {R : mRT} {L : mLT} {k z : Nat} (hW : mWd R) (hk : k + 1 ≤ 1147 ∧ z + 6 ≤ 45333) {a1 : Int32} (hi1 : vp_in (i + 1) Ln) (ha1 : a1 = xs (i + 1).toNatClampNeg) {P : mIT → mRT → mLT → Prop} (hP : st_order Fu I R L a1 P) (kk : ∀ (I' : mIT) (R' : mRT) (L' : mLT), P I' R' L' → mG X E 2418 [(0, .ref b), (1, .ref (mB E + 0)), (2, .ref (mB E + 75)), (3, .ref (mB E + 105)), (4, .int i)] [] 106 1 I' R' L' (k + 1) (z + 6)) : mG X E 1248 [(0, .ref b), (1, .ref (mB E + 0)), (2, .ref (mB E + 75)), (3, .ref (mB E + 105)), (4, .int i)] [] 106 1 I R L k z := by
  rcases hP with ⟨o, h1, o2, h2, h3, h4, hP⟩ | ⟨q, h1, o2, h2, h3, hP⟩
  · refine g_aload_n hC dL_law_1248 (i := 1) rfl (q := 1) rfl ?_
    refine g_aload_n hC dL_law_1249 (i := 0) rfl (q := 0) rfl ?_
    refine g_iload hC dL_law_1250 (q := 4) rfl ?_
    refine g_iconst hC dL_law_1252 (v := (1 : Int32)) (by decide) ?_
    refine g_iadd hC dL_law_1253 ?_
    refine g_scr hC hX hi1 dL_law_1254 ?_
    rw [← ha1]
    refine g_aload_n hC dL_law_1255 (i := 3) rfl (q := 3) rfl ?_
    refine g_cW hC hN (M2 := mL_order) (na := 3) wd_1310 wd_126 wd_1309 wd_1308 ⟨by decide, by decide, by decide⟩ ⟨Nat.le_of_ble_eq_true rfl, Nat.le_of_ble_eq_true rfl⟩ dL_law_1256 (As := [.ref (mB E + 0), .int a1, .ref (mB E + 105)]) (st := []) (ow_order_r hC.2.2.2.2.2.2.2.1 hW h1) rfl rfl (Nat.le_of_ble_eq_true rfl) (by rw [hr]; exact hk) ?_
    refine g_istore hC dL_law_1259 rfl (by decide) (lv' := [(5, .int (0 : Int32)), (0, .ref b), (1, .ref (mB E + 0)), (2, .ref (mB E + 75)), (3, .ref (mB E + 105)), (4, .int i)]) rfl ?_
    refine g_aload_n hC dL_law_1261 (i := 2) rfl (q := 3) rfl ?_
    refine g_aload_n hC dL_law_1262 (i := 0) rfl (q := 1) rfl ?_
    refine g_iload hC dL_law_1263 (q := 5) rfl ?_
    refine g_iconst hC dL_law_1265 (v := (1 : Int32)) (by decide) ?_
    refine g_iadd hC dL_law_1266 ?_
    refine g_scr hC hX hi1 dL_law_1267 ?_
    rw [← ha1]
    refine g_cV1 hC cv_X12_order wd_2142 ⟨Nat.le_of_ble_eq_true rfl, Nat.le_of_ble_eq_true rfl⟩ rfl (by decide) dL_law_1268 (As := [.int a1]) (st := []) (ok_X12_order hC.2.2.2.2.2.2.2.1 hW h2) rfl rfl (Nat.le_of_ble_eq_true rfl) (by rw [hr]; exact hk) ?_
    refine g_istore hC dL_law_1271 rfl (by decide) (lv' := [(6, .int o2.1), (5, .int (0 : Int32)), (0, .ref b), (1, .ref (mB E + 0)), (2, .ref (mB E + 75)), (3, .ref (mB E + 105)), (4, .int i)]) rfl ?_
    refine g_aload_n hC dL_law_1273 (i := 2) rfl (q := 4) rfl ?_
    refine g_cV1 hC cv_X12_thrown wd_1835 ⟨Nat.le_of_ble_eq_true rfl, Nat.le_of_ble_eq_true rfl⟩ rfl (by decide) dL_law_1274 (As := []) (st := []) (ok_X12_thrown hC.2.2.2.2.2.2.2.1 hW h3) rfl rfl (Nat.le_of_ble_eq_true rfl) (by rw [hr]; exact hk) ?_
    refine g_iload hC dL_law_1277 (q := 1) rfl ?_
    refine g_ic_eq hC dL_law_1279 (tgt := 1284) (by decide) (fun _ => ?_) (fun ne => absurd rfl ne)
    refine g_iload hC dL_law_1284 (q := 1) rfl ?_
    refine g_if_ne hC dL_law_1286 (tgt := 1301) (by decide) (fun ne => absurd rfl ne) (fun _ => ?_)
    refine g_aload_n hC dL_law_1289 (i := 3) rfl (q := 5) rfl ?_
    refine g_iconst hC dL_law_1290 (v := (0 : Int32)) (by decide) ?_
    refine g_lald hC (len := 1) rfl (by decide) (inB_in (by decide)) dL_law_1291 ?_
    refine g_iload hC dL_law_1292 (q := 0) rfl ?_
    refine g_i2l hC dL_law_1294 ?_
    refine g_lcmp hC dL_law_1295 ?_
    have hcmp : (mUL L 105 0 (o.1).toInt64) 105 (0 : Int32).toNatClampNeg = (o2.1).toInt64 := (show mUL _ 105 0 _ 105 0 = _ from by simp only [mUL, and_self, if_true]; rw [h4])
    refine g_if_eq hC dL_law_1296 (tgt := 1301) (by decide) (fun _ => ?_) (fun ne => absurd (by rw [hcmp]; exact lg_same _) ne)
    refine g_goto hC dL_law_1301 (tgt := 2418) (by decide) ?_
    refine g_lv [2, 3, 4, 5, 6] rfl ?_
    exact kk _ _ _ hP
  · obtain ⟨q0, I1⟩ := q
    obtain ⟨hq, h3⟩ := h3
    replace hq : q0 = 1 := hq
    subst hq
    refine g_aload_n hC dL_law_1248 (i := 1) rfl (q := 1) rfl ?_
    refine g_aload_n hC dL_law_1249 (i := 0) rfl (q := 0) rfl ?_
    refine g_iload hC dL_law_1250 (q := 4) rfl ?_
    refine g_iconst hC dL_law_1252 (v := (1 : Int32)) (by decide) ?_
    refine g_iadd hC dL_law_1253 ?_
    refine g_scr hC hX hi1 dL_law_1254 ?_
    rw [← ha1]
    refine g_aload_n hC dL_law_1255 (i := 3) rfl (q := 3) rfl ?_
    refine g_cW hC hN (M2 := mL_order) (na := 3) wd_1310 wd_126 wd_1309 wd_1308 ⟨by decide, by decide, by decide⟩ ⟨Nat.le_of_ble_eq_true rfl, Nat.le_of_ble_eq_true rfl⟩ dL_law_1256 (As := [.ref (mB E + 0), .int a1, .ref (mB E + 105)]) (st := []) (ow_order_t1 hC.2.2.2.2.2.2.2.1 hW h1) rfl rfl (Nat.le_of_ble_eq_true rfl) (by rw [hr]; exact hk) ?_
    refine g_istore hC dL_law_1259 rfl (by decide) (lv' := [(5, .int (1 : Int32)), (0, .ref b), (1, .ref (mB E + 0)), (2, .ref (mB E + 75)), (3, .ref (mB E + 105)), (4, .int i)]) rfl ?_
    refine g_aload_n hC dL_law_1261 (i := 2) rfl (q := 3) rfl ?_
    refine g_aload_n hC dL_law_1262 (i := 0) rfl (q := 1) rfl ?_
    refine g_iload hC dL_law_1263 (q := 5) rfl ?_
    refine g_iconst hC dL_law_1265 (v := (1 : Int32)) (by decide) ?_
    refine g_iadd hC dL_law_1266 ?_
    refine g_scr hC hX hi1 dL_law_1267 ?_
    rw [← ha1]
    refine g_cV1 hC cv_X12_order wd_2142 ⟨Nat.le_of_ble_eq_true rfl, Nat.le_of_ble_eq_true rfl⟩ rfl (by decide) dL_law_1268 (As := [.int a1]) (st := []) (ok_X12_order hC.2.2.2.2.2.2.2.1 hW h2) rfl rfl (Nat.le_of_ble_eq_true rfl) (by rw [hr]; exact hk) ?_
    refine g_istore hC dL_law_1271 rfl (by decide) (lv' := [(6, .int o2.1), (5, .int (1 : Int32)), (0, .ref b), (1, .ref (mB E + 0)), (2, .ref (mB E + 75)), (3, .ref (mB E + 105)), (4, .int i)]) rfl ?_
    refine g_aload_n hC dL_law_1273 (i := 2) rfl (q := 4) rfl ?_
    refine g_cV1 hC cv_X12_thrown wd_1835 ⟨Nat.le_of_ble_eq_true rfl, Nat.le_of_ble_eq_true rfl⟩ rfl (by decide) dL_law_1274 (As := []) (st := []) (ok_X12_thrown hC.2.2.2.2.2.2.2.1 hW h3) rfl rfl (Nat.le_of_ble_eq_true rfl) (by rw [hr]; exact hk) ?_
    refine g_iload hC dL_law_1277 (q := 1) rfl ?_
    refine g_ic_eq hC dL_law_1279 (tgt := 1284) (by decide) (fun _ => ?_) (fun ne => absurd rfl ne)
    refine g_iload hC dL_law_1284 (q := 1) rfl ?_
    refine g_if_ne hC dL_law_1286 (tgt := 1301) (by decide) (fun _ => ?_) (fun e => absurd e (by decide))
    refine g_goto hC dL_law_1301 (tgt := 2418) (by decide) ?_
    refine g_lv [2, 3, 4, 5, 6] rfl ?_
    exact kk _ _ _ hP
def st_row (Fu : Nat) (I : mIT) (R : mRT) (L : mLT) (a1 : Int32) (P : mIT → mRT → mLT → Prop) : Prop := (∃ o, f_X11_row Fu R I a1 = some (.inl o) ∧ ∃ o2, f_X12_row Fu o.2 a1 = some o2 ∧ f_X12_thrown Fu o2.2 = some 0 ∧ o.1 = o2.1 ∧ P o2.2 R (mUL L 105 0 (o.1).toInt64)) ∨ (∃ q, f_X11_row Fu R I a1 = some (.inr q) ∧ ∃ o2, f_X12_row Fu q.2 a1 = some o2 ∧ (q.1 = 2 ∧ f_X12_thrown Fu o2.2 = some 1) ∧ P o2.2 R L)
set_option maxRecDepth 20000 in
theorem lc_row {X : mXT} {E : mEn} (hC : mC X E mLaw RL code) (hN : va_Nc "java/lang/IllegalArgumentException" "java/util/NoSuchElementException" X.2.2.2.1) (hr : X.2.2.2.2.2.2.2.2.2.2.1 = (1147, 45333)) {b Ln : Nat} {xs : Nat → Int32} (hX : va_X b Ln xs X.2.2.2.1 E.2.2.1 ∧ b < mB E) {i : Int32} {Fu : Nat} {I : mIT} {R : mRT} {L : mLT} {k z : Nat} (hW : mWd R) (hk : k + 1 ≤ 1147 ∧ z + 6 ≤ 45333) {a1 : Int32} (hi1 : vp_in (i + 1) Ln) (ha1 : a1 = xs (i + 1).toNatClampNeg) {P : mIT → mRT → mLT → Prop} (hP : st_row Fu I R L a1 P) (kk : ∀ (I' : mIT) (R' : mRT) (L' : mLT), P I' R' L' → mG X E 2418 [(0, .ref b), (1, .ref (mB E + 0)), (2, .ref (mB E + 75)), (3, .ref (mB E + 105)), (4, .int i)] [] 106 1 I' R' L' (k + 1) (z + 6)) : mG X E 1304 [(0, .ref b), (1, .ref (mB E + 0)), (2, .ref (mB E + 75)), (3, .ref (mB E + 105)), (4, .int i)] [] 106 1 I R L k z := by
  rcases hP with ⟨o, h1, o2, h2, h3, h4, hP⟩ | ⟨q, h1, o2, h2, h3, hP⟩
  · refine g_aload_n hC dL_law_1304 (i := 1) rfl (q := 1) rfl ?_
    refine g_aload_n hC dL_law_1305 (i := 0) rfl (q := 0) rfl ?_
    refine g_iload hC dL_law_1306 (q := 4) rfl ?_
    refine g_iconst hC dL_law_1308 (v := (1 : Int32)) (by decide) ?_
    refine g_iadd hC dL_law_1309 ?_
    refine g_scr hC hX hi1 dL_law_1310 ?_
    rw [← ha1]
    refine g_aload_n hC dL_law_1311 (i := 3) rfl (q := 3) rfl ?_
    refine g_cW hC hN (M2 := mL_row) (na := 3) wd_1326 wd_126 wd_1325 wd_1324 ⟨by decide, by decide, by decide⟩ ⟨Nat.le_of_ble_eq_true rfl, Nat.le_of_ble_eq_true rfl⟩ dL_law_1312 (As := [.ref (mB E + 0), .int a1, .ref (mB E + 105)]) (st := []) (ow_row_r hC.2.2.2.2.2.2.2.1 hW h1) rfl rfl (Nat.le_of_ble_eq_true rfl) (by rw [hr]; exact hk) ?_
    refine g_istore hC dL_law_1315 rfl (by decide) (lv' := [(5, .int (0 : Int32)), (0, .ref b), (1, .ref (mB E + 0)), (2, .ref (mB E + 75)), (3, .ref (mB E + 105)), (4, .int i)]) rfl ?_
    refine g_aload_n hC dL_law_1317 (i := 2) rfl (q := 3) rfl ?_
    refine g_aload_n hC dL_law_1318 (i := 0) rfl (q := 1) rfl ?_
    refine g_iload hC dL_law_1319 (q := 5) rfl ?_
    refine g_iconst hC dL_law_1321 (v := (1 : Int32)) (by decide) ?_
    refine g_iadd hC dL_law_1322 ?_
    refine g_scr hC hX hi1 dL_law_1323 ?_
    rw [← ha1]
    refine g_cV1 hC cv_X12_row wd_2146 ⟨Nat.le_of_ble_eq_true rfl, Nat.le_of_ble_eq_true rfl⟩ rfl (by decide) dL_law_1324 (As := [.int a1]) (st := []) (ok_X12_row hC.2.2.2.2.2.2.2.1 hW h2) rfl rfl (Nat.le_of_ble_eq_true rfl) (by rw [hr]; exact hk) ?_
    refine g_istore hC dL_law_1327 rfl (by decide) (lv' := [(6, .int o2.1), (5, .int (0 : Int32)), (0, .ref b), (1, .ref (mB E + 0)), (2, .ref (mB E + 75)), (3, .ref (mB E + 105)), (4, .int i)]) rfl ?_
    refine g_aload_n hC dL_law_1329 (i := 2) rfl (q := 4) rfl ?_
    refine g_cV1 hC cv_X12_thrown wd_1835 ⟨Nat.le_of_ble_eq_true rfl, Nat.le_of_ble_eq_true rfl⟩ rfl (by decide) dL_law_1330 (As := []) (st := []) (ok_X12_thrown hC.2.2.2.2.2.2.2.1 hW h3) rfl rfl (Nat.le_of_ble_eq_true rfl) (by rw [hr]; exact hk) ?_
    refine g_iload hC dL_law_1333 (q := 1) rfl ?_
    refine g_ic_eq hC dL_law_1335 (tgt := 1340) (by decide) (fun _ => ?_) (fun ne => absurd rfl ne)
    refine g_iload hC dL_law_1340 (q := 1) rfl ?_
    refine g_if_ne hC dL_law_1342 (tgt := 1357) (by decide) (fun ne => absurd rfl ne) (fun _ => ?_)
    refine g_aload_n hC dL_law_1345 (i := 3) rfl (q := 5) rfl ?_
    refine g_iconst hC dL_law_1346 (v := (0 : Int32)) (by decide) ?_
    refine g_lald hC (len := 1) rfl (by decide) (inB_in (by decide)) dL_law_1347 ?_
    refine g_iload hC dL_law_1348 (q := 0) rfl ?_
    refine g_i2l hC dL_law_1350 ?_
    refine g_lcmp hC dL_law_1351 ?_
    have hcmp : (mUL L 105 0 (o.1).toInt64) 105 (0 : Int32).toNatClampNeg = (o2.1).toInt64 := (show mUL _ 105 0 _ 105 0 = _ from by simp only [mUL, and_self, if_true]; rw [h4])
    refine g_if_eq hC dL_law_1352 (tgt := 1357) (by decide) (fun _ => ?_) (fun ne => absurd (by rw [hcmp]; exact lg_same _) ne)
    refine g_goto hC dL_law_1357 (tgt := 2418) (by decide) ?_
    refine g_lv [2, 3, 4, 5, 6] rfl ?_
    exact kk _ _ _ hP
  · obtain ⟨q0, I1⟩ := q
    obtain ⟨hq, h3⟩ := h3
    replace hq : q0 = 2 := hq
    subst hq
    refine g_aload_n hC dL_law_1304 (i := 1) rfl (q := 1) rfl ?_
    refine g_aload_n hC dL_law_1305 (i := 0) rfl (q := 0) rfl ?_
    refine g_iload hC dL_law_1306 (q := 4) rfl ?_
    refine g_iconst hC dL_law_1308 (v := (1 : Int32)) (by decide) ?_
    refine g_iadd hC dL_law_1309 ?_
    refine g_scr hC hX hi1 dL_law_1310 ?_
    rw [← ha1]
    refine g_aload_n hC dL_law_1311 (i := 3) rfl (q := 3) rfl ?_
    refine g_cW hC hN (M2 := mL_row) (na := 3) wd_1326 wd_126 wd_1325 wd_1324 ⟨by decide, by decide, by decide⟩ ⟨Nat.le_of_ble_eq_true rfl, Nat.le_of_ble_eq_true rfl⟩ dL_law_1312 (As := [.ref (mB E + 0), .int a1, .ref (mB E + 105)]) (st := []) (ow_row_t2 hC.2.2.2.2.2.2.2.1 hW h1) rfl rfl (Nat.le_of_ble_eq_true rfl) (by rw [hr]; exact hk) ?_
    refine g_istore hC dL_law_1315 rfl (by decide) (lv' := [(5, .int (1 : Int32)), (0, .ref b), (1, .ref (mB E + 0)), (2, .ref (mB E + 75)), (3, .ref (mB E + 105)), (4, .int i)]) rfl ?_
    refine g_aload_n hC dL_law_1317 (i := 2) rfl (q := 3) rfl ?_
    refine g_aload_n hC dL_law_1318 (i := 0) rfl (q := 1) rfl ?_
    refine g_iload hC dL_law_1319 (q := 5) rfl ?_
    refine g_iconst hC dL_law_1321 (v := (1 : Int32)) (by decide) ?_
    refine g_iadd hC dL_law_1322 ?_
    refine g_scr hC hX hi1 dL_law_1323 ?_
    rw [← ha1]
    refine g_cV1 hC cv_X12_row wd_2146 ⟨Nat.le_of_ble_eq_true rfl, Nat.le_of_ble_eq_true rfl⟩ rfl (by decide) dL_law_1324 (As := [.int a1]) (st := []) (ok_X12_row hC.2.2.2.2.2.2.2.1 hW h2) rfl rfl (Nat.le_of_ble_eq_true rfl) (by rw [hr]; exact hk) ?_
    refine g_istore hC dL_law_1327 rfl (by decide) (lv' := [(6, .int o2.1), (5, .int (1 : Int32)), (0, .ref b), (1, .ref (mB E + 0)), (2, .ref (mB E + 75)), (3, .ref (mB E + 105)), (4, .int i)]) rfl ?_
    refine g_aload_n hC dL_law_1329 (i := 2) rfl (q := 4) rfl ?_
    refine g_cV1 hC cv_X12_thrown wd_1835 ⟨Nat.le_of_ble_eq_true rfl, Nat.le_of_ble_eq_true rfl⟩ rfl (by decide) dL_law_1330 (As := []) (st := []) (ok_X12_thrown hC.2.2.2.2.2.2.2.1 hW h3) rfl rfl (Nat.le_of_ble_eq_true rfl) (by rw [hr]; exact hk) ?_
    refine g_iload hC dL_law_1333 (q := 1) rfl ?_
    refine g_ic_eq hC dL_law_1335 (tgt := 1340) (by decide) (fun _ => ?_) (fun ne => absurd rfl ne)
    refine g_iload hC dL_law_1340 (q := 1) rfl ?_
    refine g_if_ne hC dL_law_1342 (tgt := 1357) (by decide) (fun _ => ?_) (fun e => absurd e (by decide))
    refine g_goto hC dL_law_1357 (tgt := 2418) (by decide) ?_
    refine g_lv [2, 3, 4, 5, 6] rfl ?_
    exact kk _ _ _ hP
def st_at (Fu : Nat) (I : mIT) (R : mRT) (L : mLT) (a1 : Int32) (a2 : Int32) (P : mIT → mRT → mLT → Prop) : Prop := (∃ o, f_X11_at Fu R I a1 a2 = some (.inl o) ∧ ∃ o2, f_X12_at Fu o.2 a1 a2 = some o2 ∧ f_X12_thrown Fu o2.2 = some 0 ∧ o.1 = o2.1 ∧ P o2.2 R (mUL L 105 0 (o.1).toInt64)) ∨ (∃ q, f_X11_at Fu R I a1 a2 = some (.inr q) ∧ ∃ o2, f_X12_at Fu q.2 a1 a2 = some o2 ∧ (q.1 = 1 ∧ f_X12_thrown Fu o2.2 = some 1 ∨ q.1 = 2 ∧ f_X12_thrown Fu o2.2 = some 2) ∧ P o2.2 R L)
set_option maxRecDepth 20000 in
theorem lc_at {X : mXT} {E : mEn} (hC : mC X E mLaw RL code) (hN : va_Nc "java/lang/IllegalArgumentException" "java/util/NoSuchElementException" X.2.2.2.1) (hr : X.2.2.2.2.2.2.2.2.2.2.1 = (1147, 45333)) {b Ln : Nat} {xs : Nat → Int32} (hX : va_X b Ln xs X.2.2.2.1 E.2.2.1 ∧ b < mB E) {i : Int32} {Fu : Nat} {I : mIT} {R : mRT} {L : mLT} {k z : Nat} (hW : mWd R) (hk : k + 1 ≤ 1147 ∧ z + 6 ≤ 45333) {a1 : Int32} (hi1 : vp_in (i + 1) Ln) (ha1 : a1 = xs (i + 1).toNatClampNeg) {a2 : Int32} (hi2 : vp_in (i + 2) Ln) (ha2 : a2 = xs (i + 2).toNatClampNeg) {P : mIT → mRT → mLT → Prop} (hP : st_at Fu I R L a1 a2 P) (kk : ∀ (I' : mIT) (R' : mRT) (L' : mLT), P I' R' L' → mG X E 2418 [(0, .ref b), (1, .ref (mB E + 0)), (2, .ref (mB E + 75)), (3, .ref (mB E + 105)), (4, .int i)] [] 106 1 I' R' L' (k + 1) (z + 6)) : mG X E 1360 [(0, .ref b), (1, .ref (mB E + 0)), (2, .ref (mB E + 75)), (3, .ref (mB E + 105)), (4, .int i)] [] 106 1 I R L k z := by
  rcases hP with ⟨o, h1, o2, h2, h3, h4, hP⟩ | ⟨q, h1, o2, h2, h3, hP⟩
  · refine g_aload_n hC dL_law_1360 (i := 1) rfl (q := 1) rfl ?_
    refine g_aload_n hC dL_law_1361 (i := 0) rfl (q := 0) rfl ?_
    refine g_iload hC dL_law_1362 (q := 4) rfl ?_
    refine g_iconst hC dL_law_1364 (v := (1 : Int32)) (by decide) ?_
    refine g_iadd hC dL_law_1365 ?_
    refine g_scr hC hX hi1 dL_law_1366 ?_
    rw [← ha1]
    refine g_aload_n hC dL_law_1367 (i := 0) rfl (q := 0) rfl ?_
    refine g_iload hC dL_law_1368 (q := 4) rfl ?_
    refine g_iconst hC dL_law_1370 (v := (2 : Int32)) (by decide) ?_
    refine g_iadd hC dL_law_1371 ?_
    refine g_scr hC hX hi2 dL_law_1372 ?_
    rw [← ha2]
    refine g_aload_n hC dL_law_1373 (i := 3) rfl (q := 3) rfl ?_
    refine g_cW hC hN (M2 := mL_at) (na := 4) wd_1346 wd_126 wd_1345 wd_1344 ⟨by decide, by decide, by decide⟩ ⟨Nat.le_of_ble_eq_true rfl, Nat.le_of_ble_eq_true rfl⟩ dL_law_1374 (As := [.ref (mB E + 0), .int a1, .int a2, .ref (mB E + 105)]) (st := []) (ow_at_r hC.2.2.2.2.2.2.2.1 hW h1) rfl rfl (Nat.le_of_ble_eq_true rfl) (by rw [hr]; exact hk) ?_
    refine g_istore hC dL_law_1377 rfl (by decide) (lv' := [(5, .int (0 : Int32)), (0, .ref b), (1, .ref (mB E + 0)), (2, .ref (mB E + 75)), (3, .ref (mB E + 105)), (4, .int i)]) rfl ?_
    refine g_aload_n hC dL_law_1379 (i := 2) rfl (q := 3) rfl ?_
    refine g_aload_n hC dL_law_1380 (i := 0) rfl (q := 1) rfl ?_
    refine g_iload hC dL_law_1381 (q := 5) rfl ?_
    refine g_iconst hC dL_law_1383 (v := (1 : Int32)) (by decide) ?_
    refine g_iadd hC dL_law_1384 ?_
    refine g_scr hC hX hi1 dL_law_1385 ?_
    rw [← ha1]
    refine g_aload_n hC dL_law_1386 (i := 0) rfl (q := 1) rfl ?_
    refine g_iload hC dL_law_1387 (q := 5) rfl ?_
    refine g_iconst hC dL_law_1389 (v := (2 : Int32)) (by decide) ?_
    refine g_iadd hC dL_law_1390 ?_
    refine g_scr hC hX hi2 dL_law_1391 ?_
    rw [← ha2]
    refine g_cV1 hC cv_X12_at wd_2170 ⟨Nat.le_of_ble_eq_true rfl, Nat.le_of_ble_eq_true rfl⟩ rfl (by decide) dL_law_1392 (As := [.int a1, .int a2]) (st := []) (ok_X12_at hC.2.2.2.2.2.2.2.1 hW h2) rfl rfl (Nat.le_of_ble_eq_true rfl) (by rw [hr]; exact hk) ?_
    refine g_istore hC dL_law_1395 rfl (by decide) (lv' := [(6, .int o2.1), (5, .int (0 : Int32)), (0, .ref b), (1, .ref (mB E + 0)), (2, .ref (mB E + 75)), (3, .ref (mB E + 105)), (4, .int i)]) rfl ?_
    refine g_aload_n hC dL_law_1397 (i := 2) rfl (q := 4) rfl ?_
    refine g_cV1 hC cv_X12_thrown wd_1835 ⟨Nat.le_of_ble_eq_true rfl, Nat.le_of_ble_eq_true rfl⟩ rfl (by decide) dL_law_1398 (As := []) (st := []) (ok_X12_thrown hC.2.2.2.2.2.2.2.1 hW h3) rfl rfl (Nat.le_of_ble_eq_true rfl) (by rw [hr]; exact hk) ?_
    refine g_iload hC dL_law_1401 (q := 1) rfl ?_
    refine g_ic_eq hC dL_law_1403 (tgt := 1408) (by decide) (fun _ => ?_) (fun ne => absurd rfl ne)
    refine g_iload hC dL_law_1408 (q := 1) rfl ?_
    refine g_if_ne hC dL_law_1410 (tgt := 1425) (by decide) (fun ne => absurd rfl ne) (fun _ => ?_)
    refine g_aload_n hC dL_law_1413 (i := 3) rfl (q := 5) rfl ?_
    refine g_iconst hC dL_law_1414 (v := (0 : Int32)) (by decide) ?_
    refine g_lald hC (len := 1) rfl (by decide) (inB_in (by decide)) dL_law_1415 ?_
    refine g_iload hC dL_law_1416 (q := 0) rfl ?_
    refine g_i2l hC dL_law_1418 ?_
    refine g_lcmp hC dL_law_1419 ?_
    have hcmp : (mUL L 105 0 (o.1).toInt64) 105 (0 : Int32).toNatClampNeg = (o2.1).toInt64 := (show mUL _ 105 0 _ 105 0 = _ from by simp only [mUL, and_self, if_true]; rw [h4])
    refine g_if_eq hC dL_law_1420 (tgt := 1425) (by decide) (fun _ => ?_) (fun ne => absurd (by rw [hcmp]; exact lg_same _) ne)
    refine g_goto hC dL_law_1425 (tgt := 2418) (by decide) ?_
    refine g_lv [2, 3, 4, 5, 6] rfl ?_
    exact kk _ _ _ hP
  · obtain ⟨q0, I1⟩ := q
    rcases h3 with ⟨hq, h3⟩ | ⟨hq, h3⟩
    · replace hq : q0 = 1 := hq
      subst hq
      refine g_aload_n hC dL_law_1360 (i := 1) rfl (q := 1) rfl ?_
      refine g_aload_n hC dL_law_1361 (i := 0) rfl (q := 0) rfl ?_
      refine g_iload hC dL_law_1362 (q := 4) rfl ?_
      refine g_iconst hC dL_law_1364 (v := (1 : Int32)) (by decide) ?_
      refine g_iadd hC dL_law_1365 ?_
      refine g_scr hC hX hi1 dL_law_1366 ?_
      rw [← ha1]
      refine g_aload_n hC dL_law_1367 (i := 0) rfl (q := 0) rfl ?_
      refine g_iload hC dL_law_1368 (q := 4) rfl ?_
      refine g_iconst hC dL_law_1370 (v := (2 : Int32)) (by decide) ?_
      refine g_iadd hC dL_law_1371 ?_
      refine g_scr hC hX hi2 dL_law_1372 ?_
      rw [← ha2]
      refine g_aload_n hC dL_law_1373 (i := 3) rfl (q := 3) rfl ?_
      refine g_cW hC hN (M2 := mL_at) (na := 4) wd_1346 wd_126 wd_1345 wd_1344 ⟨by decide, by decide, by decide⟩ ⟨Nat.le_of_ble_eq_true rfl, Nat.le_of_ble_eq_true rfl⟩ dL_law_1374 (As := [.ref (mB E + 0), .int a1, .int a2, .ref (mB E + 105)]) (st := []) (ow_at_t1 hC.2.2.2.2.2.2.2.1 hW h1) rfl rfl (Nat.le_of_ble_eq_true rfl) (by rw [hr]; exact hk) ?_
      refine g_istore hC dL_law_1377 rfl (by decide) (lv' := [(5, .int (1 : Int32)), (0, .ref b), (1, .ref (mB E + 0)), (2, .ref (mB E + 75)), (3, .ref (mB E + 105)), (4, .int i)]) rfl ?_
      refine g_aload_n hC dL_law_1379 (i := 2) rfl (q := 3) rfl ?_
      refine g_aload_n hC dL_law_1380 (i := 0) rfl (q := 1) rfl ?_
      refine g_iload hC dL_law_1381 (q := 5) rfl ?_
      refine g_iconst hC dL_law_1383 (v := (1 : Int32)) (by decide) ?_
      refine g_iadd hC dL_law_1384 ?_
      refine g_scr hC hX hi1 dL_law_1385 ?_
      rw [← ha1]
      refine g_aload_n hC dL_law_1386 (i := 0) rfl (q := 1) rfl ?_
      refine g_iload hC dL_law_1387 (q := 5) rfl ?_
      refine g_iconst hC dL_law_1389 (v := (2 : Int32)) (by decide) ?_
      refine g_iadd hC dL_law_1390 ?_
      refine g_scr hC hX hi2 dL_law_1391 ?_
      rw [← ha2]
      refine g_cV1 hC cv_X12_at wd_2170 ⟨Nat.le_of_ble_eq_true rfl, Nat.le_of_ble_eq_true rfl⟩ rfl (by decide) dL_law_1392 (As := [.int a1, .int a2]) (st := []) (ok_X12_at hC.2.2.2.2.2.2.2.1 hW h2) rfl rfl (Nat.le_of_ble_eq_true rfl) (by rw [hr]; exact hk) ?_
      refine g_istore hC dL_law_1395 rfl (by decide) (lv' := [(6, .int o2.1), (5, .int (1 : Int32)), (0, .ref b), (1, .ref (mB E + 0)), (2, .ref (mB E + 75)), (3, .ref (mB E + 105)), (4, .int i)]) rfl ?_
      refine g_aload_n hC dL_law_1397 (i := 2) rfl (q := 4) rfl ?_
      refine g_cV1 hC cv_X12_thrown wd_1835 ⟨Nat.le_of_ble_eq_true rfl, Nat.le_of_ble_eq_true rfl⟩ rfl (by decide) dL_law_1398 (As := []) (st := []) (ok_X12_thrown hC.2.2.2.2.2.2.2.1 hW h3) rfl rfl (Nat.le_of_ble_eq_true rfl) (by rw [hr]; exact hk) ?_
      refine g_iload hC dL_law_1401 (q := 1) rfl ?_
      refine g_ic_eq hC dL_law_1403 (tgt := 1408) (by decide) (fun _ => ?_) (fun ne => absurd rfl ne)
      refine g_iload hC dL_law_1408 (q := 1) rfl ?_
      refine g_if_ne hC dL_law_1410 (tgt := 1425) (by decide) (fun _ => ?_) (fun e => absurd e (by decide))
      refine g_goto hC dL_law_1425 (tgt := 2418) (by decide) ?_
      refine g_lv [2, 3, 4, 5, 6] rfl ?_
      exact kk _ _ _ hP
    · replace hq : q0 = 2 := hq
      subst hq
      refine g_aload_n hC dL_law_1360 (i := 1) rfl (q := 1) rfl ?_
      refine g_aload_n hC dL_law_1361 (i := 0) rfl (q := 0) rfl ?_
      refine g_iload hC dL_law_1362 (q := 4) rfl ?_
      refine g_iconst hC dL_law_1364 (v := (1 : Int32)) (by decide) ?_
      refine g_iadd hC dL_law_1365 ?_
      refine g_scr hC hX hi1 dL_law_1366 ?_
      rw [← ha1]
      refine g_aload_n hC dL_law_1367 (i := 0) rfl (q := 0) rfl ?_
      refine g_iload hC dL_law_1368 (q := 4) rfl ?_
      refine g_iconst hC dL_law_1370 (v := (2 : Int32)) (by decide) ?_
      refine g_iadd hC dL_law_1371 ?_
      refine g_scr hC hX hi2 dL_law_1372 ?_
      rw [← ha2]
      refine g_aload_n hC dL_law_1373 (i := 3) rfl (q := 3) rfl ?_
      refine g_cW hC hN (M2 := mL_at) (na := 4) wd_1346 wd_126 wd_1345 wd_1344 ⟨by decide, by decide, by decide⟩ ⟨Nat.le_of_ble_eq_true rfl, Nat.le_of_ble_eq_true rfl⟩ dL_law_1374 (As := [.ref (mB E + 0), .int a1, .int a2, .ref (mB E + 105)]) (st := []) (ow_at_t2 hC.2.2.2.2.2.2.2.1 hW h1) rfl rfl (Nat.le_of_ble_eq_true rfl) (by rw [hr]; exact hk) ?_
      refine g_istore hC dL_law_1377 rfl (by decide) (lv' := [(5, .int (2 : Int32)), (0, .ref b), (1, .ref (mB E + 0)), (2, .ref (mB E + 75)), (3, .ref (mB E + 105)), (4, .int i)]) rfl ?_
      refine g_aload_n hC dL_law_1379 (i := 2) rfl (q := 3) rfl ?_
      refine g_aload_n hC dL_law_1380 (i := 0) rfl (q := 1) rfl ?_
      refine g_iload hC dL_law_1381 (q := 5) rfl ?_
      refine g_iconst hC dL_law_1383 (v := (1 : Int32)) (by decide) ?_
      refine g_iadd hC dL_law_1384 ?_
      refine g_scr hC hX hi1 dL_law_1385 ?_
      rw [← ha1]
      refine g_aload_n hC dL_law_1386 (i := 0) rfl (q := 1) rfl ?_
      refine g_iload hC dL_law_1387 (q := 5) rfl ?_
      refine g_iconst hC dL_law_1389 (v := (2 : Int32)) (by decide) ?_
      refine g_iadd hC dL_law_1390 ?_
      refine g_scr hC hX hi2 dL_law_1391 ?_
      rw [← ha2]
      refine g_cV1 hC cv_X12_at wd_2170 ⟨Nat.le_of_ble_eq_true rfl, Nat.le_of_ble_eq_true rfl⟩ rfl (by decide) dL_law_1392 (As := [.int a1, .int a2]) (st := []) (ok_X12_at hC.2.2.2.2.2.2.2.1 hW h2) rfl rfl (Nat.le_of_ble_eq_true rfl) (by rw [hr]; exact hk) ?_
      refine g_istore hC dL_law_1395 rfl (by decide) (lv' := [(6, .int o2.1), (5, .int (2 : Int32)), (0, .ref b), (1, .ref (mB E + 0)), (2, .ref (mB E + 75)), (3, .ref (mB E + 105)), (4, .int i)]) rfl ?_
      refine g_aload_n hC dL_law_1397 (i := 2) rfl (q := 4) rfl ?_
      refine g_cV1 hC cv_X12_thrown wd_1835 ⟨Nat.le_of_ble_eq_true rfl, Nat.le_of_ble_eq_true rfl⟩ rfl (by decide) dL_law_1398 (As := []) (st := []) (ok_X12_thrown hC.2.2.2.2.2.2.2.1 hW h3) rfl rfl (Nat.le_of_ble_eq_true rfl) (by rw [hr]; exact hk) ?_
      refine g_iload hC dL_law_1401 (q := 1) rfl ?_
      refine g_ic_eq hC dL_law_1403 (tgt := 1408) (by decide) (fun _ => ?_) (fun ne => absurd rfl ne)
      refine g_iload hC dL_law_1408 (q := 1) rfl ?_
      refine g_if_ne hC dL_law_1410 (tgt := 1425) (by decide) (fun _ => ?_) (fun e => absurd e (by decide))
      refine g_goto hC dL_law_1425 (tgt := 2418) (by decide) ?_
      refine g_lv [2, 3, 4, 5, 6] rfl ?_
      exact kk _ _ _ hP
def st_length (Fu : Nat) (I : mIT) (R : mRT) (L : mLT)  (P : mIT → mRT → mLT → Prop) : Prop := ∃ o, f_X11_length Fu R I = some o ∧ ∃ o2, f_X12_length Fu o.2 = some o2 ∧ o.1 = o2.1 ∧ P o2.2 R L
set_option maxRecDepth 20000 in
theorem lc_length {X : mXT} {E : mEn} (hC : mC X E mLaw RL code) (hN : va_Nc "java/lang/IllegalArgumentException" "java/util/NoSuchElementException" X.2.2.2.1) (hr : X.2.2.2.2.2.2.2.2.2.2.1 = (1147, 45333)) {b Ln : Nat} {xs : Nat → Int32} (hX : va_X b Ln xs X.2.2.2.1 E.2.2.1 ∧ b < mB E) {i : Int32} {Fu : Nat} {I : mIT} {R : mRT} {L : mLT} {k z : Nat} (hW : mWd R) (hk : k + 1 ≤ 1147 ∧ z + 6 ≤ 45333)  {P : mIT → mRT → mLT → Prop} (hP : st_length Fu I R L  P) (kk : ∀ (I' : mIT) (R' : mRT) (L' : mLT), P I' R' L' → mG X E 2418 [(0, .ref b), (1, .ref (mB E + 0)), (2, .ref (mB E + 75)), (3, .ref (mB E + 105)), (4, .int i)] [] 106 1 I' R' L' (k + 1) (z + 6)) : mG X E 1428 [(0, .ref b), (1, .ref (mB E + 0)), (2, .ref (mB E + 75)), (3, .ref (mB E + 105)), (4, .int i)] [] 106 1 I R L k z := by
  obtain ⟨o, h1, o2, h2, hP⟩ := hP
  refine g_aload_n hC dL_law_1428 (i := 1) rfl (q := 1) rfl ?_
  refine g_cV1 hC cv_X11_length wd_720 ⟨Nat.le_of_ble_eq_true rfl, Nat.le_of_ble_eq_true rfl⟩ rfl (by decide) dL_law_1429 (As := []) (st := []) (ok_X11_length hC.2.2.2.2.2.2.2.1 hW h1) rfl rfl (Nat.le_of_ble_eq_true rfl) (by rw [hr]; exact ⟨Nat.le_trans (Nat.le_add_right _ _) hk.1, Nat.le_trans (Nat.le_add_right _ _) hk.2⟩) ?_
  refine g_aload_n hC dL_law_1432 (i := 2) rfl (q := 2) rfl ?_
  refine g_cV1 hC cv_X12_length wd_2174 ⟨Nat.le_of_ble_eq_true rfl, Nat.le_of_ble_eq_true rfl⟩ rfl (by decide) dL_law_1433 (As := []) (st := [.int o.1]) (ok_X12_length hC.2.2.2.2.2.2.2.1 hW h2) rfl rfl (Nat.le_of_ble_eq_true rfl) (by rw [hr]; exact ⟨Nat.le_trans (Nat.le_add_right _ _) hk.1, Nat.le_trans (Nat.le_add_right _ _) hk.2⟩) ?_
  refine g_ic_eq hC dL_law_1436 (tgt := 2418) (by decide) (fun _ => ?_) (fun ne => absurd hP.1 ne)
  refine g_wid (Nat.le_add_right _ 1) (Nat.le_add_right _ 6) ?_
  exact kk _ _ _ hP.2
def st_isTrue (Fu : Nat) (I : mIT) (R : mRT) (L : mLT)  (P : mIT → mRT → mLT → Prop) : Prop := ∃ o, f_X11_isTrue Fu R I = some o ∧ ∃ o2, f_X12_isTrue Fu o.2 = some o2 ∧ o.1 = o2.1 ∧ P o2.2 R L
set_option maxRecDepth 20000 in
theorem lc_isTrue {X : mXT} {E : mEn} (hC : mC X E mLaw RL code) (hN : va_Nc "java/lang/IllegalArgumentException" "java/util/NoSuchElementException" X.2.2.2.1) (hr : X.2.2.2.2.2.2.2.2.2.2.1 = (1147, 45333)) {b Ln : Nat} {xs : Nat → Int32} (hX : va_X b Ln xs X.2.2.2.1 E.2.2.1 ∧ b < mB E) {i : Int32} {Fu : Nat} {I : mIT} {R : mRT} {L : mLT} {k z : Nat} (hW : mWd R) (hk : k + 1 ≤ 1147 ∧ z + 6 ≤ 45333)  {P : mIT → mRT → mLT → Prop} (hP : st_isTrue Fu I R L  P) (kk : ∀ (I' : mIT) (R' : mRT) (L' : mLT), P I' R' L' → mG X E 2418 [(0, .ref b), (1, .ref (mB E + 0)), (2, .ref (mB E + 75)), (3, .ref (mB E + 105)), (4, .int i)] [] 106 1 I' R' L' (k + 1) (z + 6)) : mG X E 1441 [(0, .ref b), (1, .ref (mB E + 0)), (2, .ref (mB E + 75)), (3, .ref (mB E + 105)), (4, .int i)] [] 106 1 I R L k z := by
  obtain ⟨o, h1, o2, h2, hP⟩ := hP
  refine g_aload_n hC dL_law_1441 (i := 1) rfl (q := 1) rfl ?_
  refine g_cV1 hC cv_X11_isTrue wd_748 ⟨Nat.le_of_ble_eq_true rfl, Nat.le_of_ble_eq_true rfl⟩ rfl (by decide) dL_law_1442 (As := []) (st := []) (ok_X11_isTrue hC.2.2.2.2.2.2.2.1 hW h1) rfl rfl (Nat.le_of_ble_eq_true rfl) (by rw [hr]; exact ⟨Nat.le_trans (Nat.le_add_right _ _) hk.1, Nat.le_trans (Nat.le_add_right _ _) hk.2⟩) ?_
  refine g_aload_n hC dL_law_1445 (i := 2) rfl (q := 2) rfl ?_
  refine g_cV1 hC cv_X12_isTrue wd_2182 ⟨Nat.le_of_ble_eq_true rfl, Nat.le_of_ble_eq_true rfl⟩ rfl (by decide) dL_law_1446 (As := []) (st := [.int o.1]) (ok_X12_isTrue hC.2.2.2.2.2.2.2.1 hW h2) rfl rfl (Nat.le_of_ble_eq_true rfl) (by rw [hr]; exact ⟨Nat.le_trans (Nat.le_add_right _ _) hk.1, Nat.le_trans (Nat.le_add_right _ _) hk.2⟩) ?_
  refine g_ic_eq hC dL_law_1449 (tgt := 2418) (by decide) (fun _ => ?_) (fun ne => absurd hP.1 ne)
  refine g_wid (Nat.le_add_right _ 1) (Nat.le_add_right _ 6) ?_
  exact kk _ _ _ hP.2
def st_longer (Fu : Nat) (I : mIT) (R : mRT) (L : mLT)  (P : mIT → mRT → mLT → Prop) : Prop := ∃ o, f_X11_longer Fu R I = some o ∧ ∃ o2, f_X12_longer Fu o.2 = some o2 ∧ o.1 = o2.1 ∧ P o2.2 R L
set_option maxRecDepth 20000 in
theorem lc_longer {X : mXT} {E : mEn} (hC : mC X E mLaw RL code) (hN : va_Nc "java/lang/IllegalArgumentException" "java/util/NoSuchElementException" X.2.2.2.1) (hr : X.2.2.2.2.2.2.2.2.2.2.1 = (1147, 45333)) {b Ln : Nat} {xs : Nat → Int32} (hX : va_X b Ln xs X.2.2.2.1 E.2.2.1 ∧ b < mB E) {i : Int32} {Fu : Nat} {I : mIT} {R : mRT} {L : mLT} {k z : Nat} (hW : mWd R) (hk : k + 1 ≤ 1147 ∧ z + 6 ≤ 45333)  {P : mIT → mRT → mLT → Prop} (hP : st_longer Fu I R L  P) (kk : ∀ (I' : mIT) (R' : mRT) (L' : mLT), P I' R' L' → mG X E 2418 [(0, .ref b), (1, .ref (mB E + 0)), (2, .ref (mB E + 75)), (3, .ref (mB E + 105)), (4, .int i)] [] 106 1 I' R' L' (k + 1) (z + 6)) : mG X E 1454 [(0, .ref b), (1, .ref (mB E + 0)), (2, .ref (mB E + 75)), (3, .ref (mB E + 105)), (4, .int i)] [] 106 1 I R L k z := by
  obtain ⟨o, h1, o2, h2, hP⟩ := hP
  refine g_aload_n hC dL_law_1454 (i := 1) rfl (q := 1) rfl ?_
  refine g_cV1 hC cv_X11_longer wd_760 ⟨Nat.le_of_ble_eq_true rfl, Nat.le_of_ble_eq_true rfl⟩ rfl (by decide) dL_law_1455 (As := []) (st := []) (ok_X11_longer hC.2.2.2.2.2.2.2.1 hW h1) rfl rfl (Nat.le_of_ble_eq_true rfl) (by rw [hr]; exact ⟨Nat.le_trans (Nat.le_add_right _ _) hk.1, Nat.le_trans (Nat.le_add_right _ _) hk.2⟩) ?_
  refine g_aload_n hC dL_law_1458 (i := 2) rfl (q := 2) rfl ?_
  refine g_cV1 hC cv_X12_longer wd_2186 ⟨Nat.le_of_ble_eq_true rfl, Nat.le_of_ble_eq_true rfl⟩ rfl (by decide) dL_law_1459 (As := []) (st := [.int o.1]) (ok_X12_longer hC.2.2.2.2.2.2.2.1 hW h2) rfl rfl (Nat.le_of_ble_eq_true rfl) (by rw [hr]; exact ⟨Nat.le_trans (Nat.le_add_right _ _) hk.1, Nat.le_trans (Nat.le_add_right _ _) hk.2⟩) ?_
  refine g_ic_eq hC dL_law_1462 (tgt := 2418) (by decide) (fun _ => ?_) (fun ne => absurd hP.1 ne)
  refine g_wid (Nat.le_add_right _ 1) (Nat.le_add_right _ 6) ?_
  exact kk _ _ _ hP.2
def st_fit (Fu : Nat) (I : mIT) (R : mRT) (L : mLT) (a1 : Int32) (P : mIT → mRT → mLT → Prop) : Prop := (∃ o, f_X11_fit Fu R I a1 = some (.inl o) ∧ ∃ o2, f_X12_fit Fu o.2 a1 = some o2 ∧ f_X12_thrown Fu o2.2 = some 0 ∧ o.1 = o2.1 ∧ P o2.2 R (mUL L 105 0 (o.1).toInt64)) ∨ (∃ q, f_X11_fit Fu R I a1 = some (.inr q) ∧ ∃ o2, f_X12_fit Fu q.2 a1 = some o2 ∧ (q.1 = 1 ∧ f_X12_thrown Fu o2.2 = some 1) ∧ P o2.2 R L)
set_option maxRecDepth 20000 in
theorem lc_fit {X : mXT} {E : mEn} (hC : mC X E mLaw RL code) (hN : va_Nc "java/lang/IllegalArgumentException" "java/util/NoSuchElementException" X.2.2.2.1) (hr : X.2.2.2.2.2.2.2.2.2.2.1 = (1147, 45333)) {b Ln : Nat} {xs : Nat → Int32} (hX : va_X b Ln xs X.2.2.2.1 E.2.2.1 ∧ b < mB E) {i : Int32} {Fu : Nat} {I : mIT} {R : mRT} {L : mLT} {k z : Nat} (hW : mWd R) (hk : k + 1 ≤ 1147 ∧ z + 6 ≤ 45333) {a1 : Int32} (hi1 : vp_in (i + 1) Ln) (ha1 : a1 = xs (i + 1).toNatClampNeg) {P : mIT → mRT → mLT → Prop} (hP : st_fit Fu I R L a1 P) (kk : ∀ (I' : mIT) (R' : mRT) (L' : mLT), P I' R' L' → mG X E 2418 [(0, .ref b), (1, .ref (mB E + 0)), (2, .ref (mB E + 75)), (3, .ref (mB E + 105)), (4, .int i)] [] 106 1 I' R' L' (k + 1) (z + 6)) : mG X E 1467 [(0, .ref b), (1, .ref (mB E + 0)), (2, .ref (mB E + 75)), (3, .ref (mB E + 105)), (4, .int i)] [] 106 1 I R L k z := by
  rcases hP with ⟨o, h1, o2, h2, h3, h4, hP⟩ | ⟨q, h1, o2, h2, h3, hP⟩
  · refine g_aload_n hC dL_law_1467 (i := 1) rfl (q := 1) rfl ?_
    refine g_aload_n hC dL_law_1468 (i := 0) rfl (q := 0) rfl ?_
    refine g_iload hC dL_law_1469 (q := 4) rfl ?_
    refine g_iconst hC dL_law_1471 (v := (1 : Int32)) (by decide) ?_
    refine g_iadd hC dL_law_1472 ?_
    refine g_scr hC hX hi1 dL_law_1473 ?_
    rw [← ha1]
    refine g_aload_n hC dL_law_1474 (i := 3) rfl (q := 3) rfl ?_
    refine g_cW hC hN (M2 := mL_fit) (na := 3) wd_1362 wd_126 wd_1361 wd_1360 ⟨by decide, by decide, by decide⟩ ⟨Nat.le_of_ble_eq_true rfl, Nat.le_of_ble_eq_true rfl⟩ dL_law_1475 (As := [.ref (mB E + 0), .int a1, .ref (mB E + 105)]) (st := []) (ow_fit_r hC.2.2.2.2.2.2.2.1 hW h1) rfl rfl (Nat.le_of_ble_eq_true rfl) (by rw [hr]; exact hk) ?_
    refine g_istore hC dL_law_1478 rfl (by decide) (lv' := [(5, .int (0 : Int32)), (0, .ref b), (1, .ref (mB E + 0)), (2, .ref (mB E + 75)), (3, .ref (mB E + 105)), (4, .int i)]) rfl ?_
    refine g_aload_n hC dL_law_1480 (i := 2) rfl (q := 3) rfl ?_
    refine g_aload_n hC dL_law_1481 (i := 0) rfl (q := 1) rfl ?_
    refine g_iload hC dL_law_1482 (q := 5) rfl ?_
    refine g_iconst hC dL_law_1484 (v := (1 : Int32)) (by decide) ?_
    refine g_iadd hC dL_law_1485 ?_
    refine g_scr hC hX hi1 dL_law_1486 ?_
    rw [← ha1]
    refine g_cV1 hC cv_X12_fit wd_2190 ⟨Nat.le_of_ble_eq_true rfl, Nat.le_of_ble_eq_true rfl⟩ rfl (by decide) dL_law_1487 (As := [.int a1]) (st := []) (ok_X12_fit hC.2.2.2.2.2.2.2.1 hW h2) rfl rfl (Nat.le_of_ble_eq_true rfl) (by rw [hr]; exact hk) ?_
    refine g_istore hC dL_law_1490 rfl (by decide) (lv' := [(6, .int o2.1), (5, .int (0 : Int32)), (0, .ref b), (1, .ref (mB E + 0)), (2, .ref (mB E + 75)), (3, .ref (mB E + 105)), (4, .int i)]) rfl ?_
    refine g_aload_n hC dL_law_1492 (i := 2) rfl (q := 4) rfl ?_
    refine g_cV1 hC cv_X12_thrown wd_1835 ⟨Nat.le_of_ble_eq_true rfl, Nat.le_of_ble_eq_true rfl⟩ rfl (by decide) dL_law_1493 (As := []) (st := []) (ok_X12_thrown hC.2.2.2.2.2.2.2.1 hW h3) rfl rfl (Nat.le_of_ble_eq_true rfl) (by rw [hr]; exact hk) ?_
    refine g_iload hC dL_law_1496 (q := 1) rfl ?_
    refine g_ic_eq hC dL_law_1498 (tgt := 1503) (by decide) (fun _ => ?_) (fun ne => absurd rfl ne)
    refine g_iload hC dL_law_1503 (q := 1) rfl ?_
    refine g_if_ne hC dL_law_1505 (tgt := 1520) (by decide) (fun ne => absurd rfl ne) (fun _ => ?_)
    refine g_aload_n hC dL_law_1508 (i := 3) rfl (q := 5) rfl ?_
    refine g_iconst hC dL_law_1509 (v := (0 : Int32)) (by decide) ?_
    refine g_lald hC (len := 1) rfl (by decide) (inB_in (by decide)) dL_law_1510 ?_
    refine g_iload hC dL_law_1511 (q := 0) rfl ?_
    refine g_i2l hC dL_law_1513 ?_
    refine g_lcmp hC dL_law_1514 ?_
    have hcmp : (mUL L 105 0 (o.1).toInt64) 105 (0 : Int32).toNatClampNeg = (o2.1).toInt64 := (show mUL _ 105 0 _ 105 0 = _ from by simp only [mUL, and_self, if_true]; rw [h4])
    refine g_if_eq hC dL_law_1515 (tgt := 1520) (by decide) (fun _ => ?_) (fun ne => absurd (by rw [hcmp]; exact lg_same _) ne)
    refine g_goto hC dL_law_1520 (tgt := 2418) (by decide) ?_
    refine g_lv [2, 3, 4, 5, 6] rfl ?_
    exact kk _ _ _ hP
  · obtain ⟨q0, I1⟩ := q
    obtain ⟨hq, h3⟩ := h3
    replace hq : q0 = 1 := hq
    subst hq
    refine g_aload_n hC dL_law_1467 (i := 1) rfl (q := 1) rfl ?_
    refine g_aload_n hC dL_law_1468 (i := 0) rfl (q := 0) rfl ?_
    refine g_iload hC dL_law_1469 (q := 4) rfl ?_
    refine g_iconst hC dL_law_1471 (v := (1 : Int32)) (by decide) ?_
    refine g_iadd hC dL_law_1472 ?_
    refine g_scr hC hX hi1 dL_law_1473 ?_
    rw [← ha1]
    refine g_aload_n hC dL_law_1474 (i := 3) rfl (q := 3) rfl ?_
    refine g_cW hC hN (M2 := mL_fit) (na := 3) wd_1362 wd_126 wd_1361 wd_1360 ⟨by decide, by decide, by decide⟩ ⟨Nat.le_of_ble_eq_true rfl, Nat.le_of_ble_eq_true rfl⟩ dL_law_1475 (As := [.ref (mB E + 0), .int a1, .ref (mB E + 105)]) (st := []) (ow_fit_t1 hC.2.2.2.2.2.2.2.1 hW h1) rfl rfl (Nat.le_of_ble_eq_true rfl) (by rw [hr]; exact hk) ?_
    refine g_istore hC dL_law_1478 rfl (by decide) (lv' := [(5, .int (1 : Int32)), (0, .ref b), (1, .ref (mB E + 0)), (2, .ref (mB E + 75)), (3, .ref (mB E + 105)), (4, .int i)]) rfl ?_
    refine g_aload_n hC dL_law_1480 (i := 2) rfl (q := 3) rfl ?_
    refine g_aload_n hC dL_law_1481 (i := 0) rfl (q := 1) rfl ?_
    refine g_iload hC dL_law_1482 (q := 5) rfl ?_
    refine g_iconst hC dL_law_1484 (v := (1 : Int32)) (by decide) ?_
    refine g_iadd hC dL_law_1485 ?_
    refine g_scr hC hX hi1 dL_law_1486 ?_
    rw [← ha1]
    refine g_cV1 hC cv_X12_fit wd_2190 ⟨Nat.le_of_ble_eq_true rfl, Nat.le_of_ble_eq_true rfl⟩ rfl (by decide) dL_law_1487 (As := [.int a1]) (st := []) (ok_X12_fit hC.2.2.2.2.2.2.2.1 hW h2) rfl rfl (Nat.le_of_ble_eq_true rfl) (by rw [hr]; exact hk) ?_
    refine g_istore hC dL_law_1490 rfl (by decide) (lv' := [(6, .int o2.1), (5, .int (1 : Int32)), (0, .ref b), (1, .ref (mB E + 0)), (2, .ref (mB E + 75)), (3, .ref (mB E + 105)), (4, .int i)]) rfl ?_
    refine g_aload_n hC dL_law_1492 (i := 2) rfl (q := 4) rfl ?_
    refine g_cV1 hC cv_X12_thrown wd_1835 ⟨Nat.le_of_ble_eq_true rfl, Nat.le_of_ble_eq_true rfl⟩ rfl (by decide) dL_law_1493 (As := []) (st := []) (ok_X12_thrown hC.2.2.2.2.2.2.2.1 hW h3) rfl rfl (Nat.le_of_ble_eq_true rfl) (by rw [hr]; exact hk) ?_
    refine g_iload hC dL_law_1496 (q := 1) rfl ?_
    refine g_ic_eq hC dL_law_1498 (tgt := 1503) (by decide) (fun _ => ?_) (fun ne => absurd rfl ne)
    refine g_iload hC dL_law_1503 (q := 1) rfl ?_
    refine g_if_ne hC dL_law_1505 (tgt := 1520) (by decide) (fun _ => ?_) (fun e => absurd e (by decide))
    refine g_goto hC dL_law_1520 (tgt := 2418) (by decide) ?_
    refine g_lv [2, 3, 4, 5, 6] rfl ?_
    exact kk _ _ _ hP
def st_keepers (Fu : Nat) (I : mIT) (R : mRT) (L : mLT)  (P : mIT → mRT → mLT → Prop) : Prop := ∃ o, f_X11_keepers Fu R I = some o ∧ ∃ o2, f_X12_keepers Fu o.2 = some o2 ∧ o.1 = o2.1 ∧ P o2.2 R L
set_option maxRecDepth 20000 in
theorem lc_keepers {X : mXT} {E : mEn} (hC : mC X E mLaw RL code) (hN : va_Nc "java/lang/IllegalArgumentException" "java/util/NoSuchElementException" X.2.2.2.1) (hr : X.2.2.2.2.2.2.2.2.2.2.1 = (1147, 45333)) {b Ln : Nat} {xs : Nat → Int32} (hX : va_X b Ln xs X.2.2.2.1 E.2.2.1 ∧ b < mB E) {i : Int32} {Fu : Nat} {I : mIT} {R : mRT} {L : mLT} {k z : Nat} (hW : mWd R) (hk : k + 1 ≤ 1147 ∧ z + 6 ≤ 45333)  {P : mIT → mRT → mLT → Prop} (hP : st_keepers Fu I R L  P) (kk : ∀ (I' : mIT) (R' : mRT) (L' : mLT), P I' R' L' → mG X E 2418 [(0, .ref b), (1, .ref (mB E + 0)), (2, .ref (mB E + 75)), (3, .ref (mB E + 105)), (4, .int i)] [] 106 1 I' R' L' (k + 1) (z + 6)) : mG X E 1523 [(0, .ref b), (1, .ref (mB E + 0)), (2, .ref (mB E + 75)), (3, .ref (mB E + 105)), (4, .int i)] [] 106 1 I R L k z := by
  obtain ⟨o, h1, o2, h2, hP⟩ := hP
  refine g_aload_n hC dL_law_1523 (i := 1) rfl (q := 1) rfl ?_
  refine g_cV1 hC cv_X11_keepers wd_772 ⟨Nat.le_of_ble_eq_true rfl, Nat.le_of_ble_eq_true rfl⟩ rfl (by decide) dL_law_1524 (As := []) (st := []) (ok_X11_keepers hC.2.2.2.2.2.2.2.1 hW h1) rfl rfl (Nat.le_of_ble_eq_true rfl) (by rw [hr]; exact ⟨Nat.le_trans (Nat.le_add_right _ _) hk.1, Nat.le_trans (Nat.le_add_right _ _) hk.2⟩) ?_
  refine g_aload_n hC dL_law_1527 (i := 2) rfl (q := 2) rfl ?_
  refine g_cV1 hC cv_X12_keepers wd_2206 ⟨Nat.le_of_ble_eq_true rfl, Nat.le_of_ble_eq_true rfl⟩ rfl (by decide) dL_law_1528 (As := []) (st := [.int o.1]) (ok_X12_keepers hC.2.2.2.2.2.2.2.1 hW h2) rfl rfl (Nat.le_of_ble_eq_true rfl) (by rw [hr]; exact ⟨Nat.le_trans (Nat.le_add_right _ _) hk.1, Nat.le_trans (Nat.le_add_right _ _) hk.2⟩) ?_
  refine g_ic_eq hC dL_law_1531 (tgt := 2418) (by decide) (fun _ => ?_) (fun ne => absurd hP.1 ne)
  refine g_wid (Nat.le_add_right _ 1) (Nat.le_add_right _ 6) ?_
  exact kk _ _ _ hP.2
def st_earliest (Fu : Nat) (I : mIT) (R : mRT) (L : mLT)  (P : mIT → mRT → mLT → Prop) : Prop := ∃ o, f_X11_earliest Fu R I = some o ∧ ∃ o2, f_X12_earliest Fu o.2 = some o2 ∧ o.1 = o2.1 ∧ P o2.2 R L
set_option maxRecDepth 20000 in
theorem lc_earliest {X : mXT} {E : mEn} (hC : mC X E mLaw RL code) (hN : va_Nc "java/lang/IllegalArgumentException" "java/util/NoSuchElementException" X.2.2.2.1) (hr : X.2.2.2.2.2.2.2.2.2.2.1 = (1147, 45333)) {b Ln : Nat} {xs : Nat → Int32} (hX : va_X b Ln xs X.2.2.2.1 E.2.2.1 ∧ b < mB E) {i : Int32} {Fu : Nat} {I : mIT} {R : mRT} {L : mLT} {k z : Nat} (hW : mWd R) (hk : k + 1 ≤ 1147 ∧ z + 6 ≤ 45333)  {P : mIT → mRT → mLT → Prop} (hP : st_earliest Fu I R L  P) (kk : ∀ (I' : mIT) (R' : mRT) (L' : mLT), P I' R' L' → mG X E 2418 [(0, .ref b), (1, .ref (mB E + 0)), (2, .ref (mB E + 75)), (3, .ref (mB E + 105)), (4, .int i)] [] 106 1 I' R' L' (k + 1) (z + 6)) : mG X E 1536 [(0, .ref b), (1, .ref (mB E + 0)), (2, .ref (mB E + 75)), (3, .ref (mB E + 105)), (4, .int i)] [] 106 1 I R L k z := by
  obtain ⟨o, h1, o2, h2, hP⟩ := hP
  refine g_aload_n hC dL_law_1536 (i := 1) rfl (q := 1) rfl ?_
  refine g_cV1 hC cv_X11_earliest wd_780 ⟨Nat.le_of_ble_eq_true rfl, Nat.le_of_ble_eq_true rfl⟩ rfl (by decide) dL_law_1537 (As := []) (st := []) (ok_X11_earliest hC.2.2.2.2.2.2.2.1 hW h1) rfl rfl (Nat.le_of_ble_eq_true rfl) (by rw [hr]; exact ⟨Nat.le_trans (Nat.le_add_right _ _) hk.1, Nat.le_trans (Nat.le_add_right _ _) hk.2⟩) ?_
  refine g_aload_n hC dL_law_1540 (i := 2) rfl (q := 2) rfl ?_
  refine g_cV1 hC cv_X12_earliest wd_2217 ⟨Nat.le_of_ble_eq_true rfl, Nat.le_of_ble_eq_true rfl⟩ rfl (by decide) dL_law_1541 (As := []) (st := [.int o.1]) (ok_X12_earliest hC.2.2.2.2.2.2.2.1 hW h2) rfl rfl (Nat.le_of_ble_eq_true rfl) (by rw [hr]; exact ⟨Nat.le_trans (Nat.le_add_right _ _) hk.1, Nat.le_trans (Nat.le_add_right _ _) hk.2⟩) ?_
  refine g_ic_eq hC dL_law_1544 (tgt := 2418) (by decide) (fun _ => ?_) (fun ne => absurd hP.1 ne)
  refine g_wid (Nat.le_add_right _ 1) (Nat.le_add_right _ 6) ?_
  exact kk _ _ _ hP.2
def st_hear (Fu : Nat) (I : mIT) (R : mRT) (L : mLT) (a1 : Int32) (a2 : Int32) (a3 : Int32) (P : mIT → mRT → mLT → Prop) : Prop := ∃ o, f_X11_hear Fu I a1 a2 (if a3 = 0 then 0 else 1 : Int32) = some o ∧ ∃ o2, f_X12_hear Fu o.2 a1 a2 (if a3 = 0 then 0 else 1 : Int32) = some o2 ∧ o.1 = o2.1 ∧ P o2.2 R L
set_option maxRecDepth 20000 in
theorem lc_hear {X : mXT} {E : mEn} (hC : mC X E mLaw RL code) (hN : va_Nc "java/lang/IllegalArgumentException" "java/util/NoSuchElementException" X.2.2.2.1) (hr : X.2.2.2.2.2.2.2.2.2.2.1 = (1147, 45333)) {b Ln : Nat} {xs : Nat → Int32} (hX : va_X b Ln xs X.2.2.2.1 E.2.2.1 ∧ b < mB E) {i : Int32} {Fu : Nat} {I : mIT} {R : mRT} {L : mLT} {k z : Nat} (hW : mWd R) (hk : k + 1 ≤ 1147 ∧ z + 6 ≤ 45333) {a1 : Int32} (hi1 : vp_in (i + 1) Ln) (ha1 : a1 = xs (i + 1).toNatClampNeg) {a2 : Int32} (hi2 : vp_in (i + 2) Ln) (ha2 : a2 = xs (i + 2).toNatClampNeg) {a3 : Int32} (hi3 : vp_in (i + 3) Ln) (ha3 : a3 = xs (i + 3).toNatClampNeg) {P : mIT → mRT → mLT → Prop} (hP : st_hear Fu I R L a1 a2 a3 P) (kk : ∀ (I' : mIT) (R' : mRT) (L' : mLT), P I' R' L' → mG X E 2418 [(0, .ref b), (1, .ref (mB E + 0)), (2, .ref (mB E + 75)), (3, .ref (mB E + 105)), (4, .int i)] [] 106 1 I' R' L' (k + 1) (z + 6)) : mG X E 1549 [(0, .ref b), (1, .ref (mB E + 0)), (2, .ref (mB E + 75)), (3, .ref (mB E + 105)), (4, .int i)] [] 106 1 I R L k z := by
  obtain ⟨o, h1, o2, h2, hP⟩ := hP
  refine g_aload_n hC dL_law_1549 (i := 1) rfl (q := 1) rfl ?_
  refine g_aload_n hC dL_law_1550 (i := 0) rfl (q := 0) rfl ?_
  refine g_iload hC dL_law_1551 (q := 4) rfl ?_
  refine g_iconst hC dL_law_1553 (v := (1 : Int32)) (by decide) ?_
  refine g_iadd hC dL_law_1554 ?_
  refine g_scr hC hX hi1 dL_law_1555 ?_
  rw [← ha1]
  refine g_aload_n hC dL_law_1556 (i := 0) rfl (q := 0) rfl ?_
  refine g_iload hC dL_law_1557 (q := 4) rfl ?_
  refine g_iconst hC dL_law_1559 (v := (2 : Int32)) (by decide) ?_
  refine g_iadd hC dL_law_1560 ?_
  refine g_scr hC hX hi2 dL_law_1561 ?_
  rw [← ha2]
  refine g_aload_n hC dL_law_1562 (i := 0) rfl (q := 0) rfl ?_
  refine g_iload hC dL_law_1563 (q := 4) rfl ?_
  refine g_iconst hC dL_law_1565 (v := (3 : Int32)) (by decide) ?_
  refine g_iadd hC dL_law_1566 ?_
  refine g_scr hC hX hi3 dL_law_1567 ?_
  rw [← ha3]
  refine g_if_eq hC dL_law_1568 (tgt := 1575) (by decide) (fun c1568 => ?_) (fun c1568 => ?_)
  · refine g_iconst hC dL_law_1575 (v := (0 : Int32)) (by decide) ?_
    refine g_top (v := (0 : Int32)) (w := (if a3 = 0 then 0 else 1 : Int32)) (if_pos c1568).symm ?_
    refine g_cV1 hC cv_X11_hear wd_788 ⟨Nat.le_of_ble_eq_true rfl, Nat.le_of_ble_eq_true rfl⟩ rfl (by decide) dL_law_1576 (As := [.int a1, .int a2, .int (if a3 = 0 then 0 else 1 : Int32)]) (st := []) (ok_X11_hear hC.2.2.2.2.2.2.2.1 hW h1) rfl rfl (Nat.le_of_ble_eq_true rfl) (by rw [hr]; exact ⟨Nat.le_trans (Nat.le_add_right _ _) hk.1, Nat.le_trans (Nat.le_add_right _ _) hk.2⟩) ?_
    refine g_aload_n hC dL_law_1579 (i := 2) rfl (q := 2) rfl ?_
    refine g_aload_n hC dL_law_1580 (i := 0) rfl (q := 0) rfl ?_
    refine g_iload hC dL_law_1581 (q := 4) rfl ?_
    refine g_iconst hC dL_law_1583 (v := (1 : Int32)) (by decide) ?_
    refine g_iadd hC dL_law_1584 ?_
    refine g_scr hC hX hi1 dL_law_1585 ?_
    rw [← ha1]
    refine g_aload_n hC dL_law_1586 (i := 0) rfl (q := 0) rfl ?_
    refine g_iload hC dL_law_1587 (q := 4) rfl ?_
    refine g_iconst hC dL_law_1589 (v := (2 : Int32)) (by decide) ?_
    refine g_iadd hC dL_law_1590 ?_
    refine g_scr hC hX hi2 dL_law_1591 ?_
    rw [← ha2]
    refine g_aload_n hC dL_law_1592 (i := 0) rfl (q := 0) rfl ?_
    refine g_iload hC dL_law_1593 (q := 4) rfl ?_
    refine g_iconst hC dL_law_1595 (v := (3 : Int32)) (by decide) ?_
    refine g_iadd hC dL_law_1596 ?_
    refine g_scr hC hX hi3 dL_law_1597 ?_
    rw [← ha3]
    refine g_if_eq hC dL_law_1598 (tgt := 1605) (by decide) (fun c1598 => ?_) (fun c1598 => ?_)
    · refine g_iconst hC dL_law_1605 (v := (0 : Int32)) (by decide) ?_
      refine g_top (v := (0 : Int32)) (w := (if a3 = 0 then 0 else 1 : Int32)) (if_pos c1598).symm ?_
      refine g_cV1 hC cv_X12_hear wd_2221 ⟨Nat.le_of_ble_eq_true rfl, Nat.le_of_ble_eq_true rfl⟩ rfl (by decide) dL_law_1606 (As := [.int a1, .int a2, .int (if a3 = 0 then 0 else 1 : Int32)]) (st := [.int o.1]) (ok_X12_hear hC.2.2.2.2.2.2.2.1 hW h2) rfl rfl (Nat.le_of_ble_eq_true rfl) (by rw [hr]; exact ⟨Nat.le_trans (Nat.le_add_right _ _) hk.1, Nat.le_trans (Nat.le_add_right _ _) hk.2⟩) ?_
      refine g_ic_eq hC dL_law_1609 (tgt := 2418) (by decide) (fun _ => ?_) (fun ne => absurd hP.1 ne)
      refine g_wid (Nat.le_add_right _ 1) (Nat.le_add_right _ 6) ?_
      exact kk _ _ _ hP.2
    · refine g_iconst hC dL_law_1601 (v := (1 : Int32)) (by decide) ?_
      refine g_goto hC dL_law_1602 (tgt := 1606) (by decide) ?_
      refine g_top (v := (1 : Int32)) (w := (if a3 = 0 then 0 else 1 : Int32)) (if_neg c1598).symm ?_
      refine g_cV1 hC cv_X12_hear wd_2221 ⟨Nat.le_of_ble_eq_true rfl, Nat.le_of_ble_eq_true rfl⟩ rfl (by decide) dL_law_1606 (As := [.int a1, .int a2, .int (if a3 = 0 then 0 else 1 : Int32)]) (st := [.int o.1]) (ok_X12_hear hC.2.2.2.2.2.2.2.1 hW h2) rfl rfl (Nat.le_of_ble_eq_true rfl) (by rw [hr]; exact ⟨Nat.le_trans (Nat.le_add_right _ _) hk.1, Nat.le_trans (Nat.le_add_right _ _) hk.2⟩) ?_
      refine g_ic_eq hC dL_law_1609 (tgt := 2418) (by decide) (fun _ => ?_) (fun ne => absurd hP.1 ne)
      refine g_wid (Nat.le_add_right _ 1) (Nat.le_add_right _ 6) ?_
      exact kk _ _ _ hP.2
  · refine g_iconst hC dL_law_1571 (v := (1 : Int32)) (by decide) ?_
    refine g_goto hC dL_law_1572 (tgt := 1576) (by decide) ?_
    refine g_top (v := (1 : Int32)) (w := (if a3 = 0 then 0 else 1 : Int32)) (if_neg c1568).symm ?_
    refine g_cV1 hC cv_X11_hear wd_788 ⟨Nat.le_of_ble_eq_true rfl, Nat.le_of_ble_eq_true rfl⟩ rfl (by decide) dL_law_1576 (As := [.int a1, .int a2, .int (if a3 = 0 then 0 else 1 : Int32)]) (st := []) (ok_X11_hear hC.2.2.2.2.2.2.2.1 hW h1) rfl rfl (Nat.le_of_ble_eq_true rfl) (by rw [hr]; exact ⟨Nat.le_trans (Nat.le_add_right _ _) hk.1, Nat.le_trans (Nat.le_add_right _ _) hk.2⟩) ?_
    refine g_aload_n hC dL_law_1579 (i := 2) rfl (q := 2) rfl ?_
    refine g_aload_n hC dL_law_1580 (i := 0) rfl (q := 0) rfl ?_
    refine g_iload hC dL_law_1581 (q := 4) rfl ?_
    refine g_iconst hC dL_law_1583 (v := (1 : Int32)) (by decide) ?_
    refine g_iadd hC dL_law_1584 ?_
    refine g_scr hC hX hi1 dL_law_1585 ?_
    rw [← ha1]
    refine g_aload_n hC dL_law_1586 (i := 0) rfl (q := 0) rfl ?_
    refine g_iload hC dL_law_1587 (q := 4) rfl ?_
    refine g_iconst hC dL_law_1589 (v := (2 : Int32)) (by decide) ?_
    refine g_iadd hC dL_law_1590 ?_
    refine g_scr hC hX hi2 dL_law_1591 ?_
    rw [← ha2]
    refine g_aload_n hC dL_law_1592 (i := 0) rfl (q := 0) rfl ?_
    refine g_iload hC dL_law_1593 (q := 4) rfl ?_
    refine g_iconst hC dL_law_1595 (v := (3 : Int32)) (by decide) ?_
    refine g_iadd hC dL_law_1596 ?_
    refine g_scr hC hX hi3 dL_law_1597 ?_
    rw [← ha3]
    refine g_if_eq hC dL_law_1598 (tgt := 1605) (by decide) (fun c1598 => ?_) (fun c1598 => ?_)
    · refine g_iconst hC dL_law_1605 (v := (0 : Int32)) (by decide) ?_
      refine g_top (v := (0 : Int32)) (w := (if a3 = 0 then 0 else 1 : Int32)) (if_pos c1598).symm ?_
      refine g_cV1 hC cv_X12_hear wd_2221 ⟨Nat.le_of_ble_eq_true rfl, Nat.le_of_ble_eq_true rfl⟩ rfl (by decide) dL_law_1606 (As := [.int a1, .int a2, .int (if a3 = 0 then 0 else 1 : Int32)]) (st := [.int o.1]) (ok_X12_hear hC.2.2.2.2.2.2.2.1 hW h2) rfl rfl (Nat.le_of_ble_eq_true rfl) (by rw [hr]; exact ⟨Nat.le_trans (Nat.le_add_right _ _) hk.1, Nat.le_trans (Nat.le_add_right _ _) hk.2⟩) ?_
      refine g_ic_eq hC dL_law_1609 (tgt := 2418) (by decide) (fun _ => ?_) (fun ne => absurd hP.1 ne)
      refine g_wid (Nat.le_add_right _ 1) (Nat.le_add_right _ 6) ?_
      exact kk _ _ _ hP.2
    · refine g_iconst hC dL_law_1601 (v := (1 : Int32)) (by decide) ?_
      refine g_goto hC dL_law_1602 (tgt := 1606) (by decide) ?_
      refine g_top (v := (1 : Int32)) (w := (if a3 = 0 then 0 else 1 : Int32)) (if_neg c1598).symm ?_
      refine g_cV1 hC cv_X12_hear wd_2221 ⟨Nat.le_of_ble_eq_true rfl, Nat.le_of_ble_eq_true rfl⟩ rfl (by decide) dL_law_1606 (As := [.int a1, .int a2, .int (if a3 = 0 then 0 else 1 : Int32)]) (st := [.int o.1]) (ok_X12_hear hC.2.2.2.2.2.2.2.1 hW h2) rfl rfl (Nat.le_of_ble_eq_true rfl) (by rw [hr]; exact ⟨Nat.le_trans (Nat.le_add_right _ _) hk.1, Nat.le_trans (Nat.le_add_right _ _) hk.2⟩) ?_
      refine g_ic_eq hC dL_law_1609 (tgt := 2418) (by decide) (fun _ => ?_) (fun ne => absurd hP.1 ne)
      refine g_wid (Nat.le_add_right _ 1) (Nat.le_add_right _ 6) ?_
      exact kk _ _ _ hP.2
def st_forget (Fu : Nat) (I : mIT) (R : mRT) (L : mLT)  (P : mIT → mRT → mLT → Prop) : Prop := ∃ o, f_X11_forget Fu I = some o ∧ ∃ o2, f_X12_forget Fu o = some o2 ∧ P o2 R L
set_option maxRecDepth 20000 in
theorem lc_forget {X : mXT} {E : mEn} (hC : mC X E mLaw RL code) (hN : va_Nc "java/lang/IllegalArgumentException" "java/util/NoSuchElementException" X.2.2.2.1) (hr : X.2.2.2.2.2.2.2.2.2.2.1 = (1147, 45333)) {b Ln : Nat} {xs : Nat → Int32} (hX : va_X b Ln xs X.2.2.2.1 E.2.2.1 ∧ b < mB E) {i : Int32} {Fu : Nat} {I : mIT} {R : mRT} {L : mLT} {k z : Nat} (hW : mWd R) (hk : k + 1 ≤ 1147 ∧ z + 6 ≤ 45333)  {P : mIT → mRT → mLT → Prop} (hP : st_forget Fu I R L  P) (kk : ∀ (I' : mIT) (R' : mRT) (L' : mLT), P I' R' L' → mG X E 2418 [(0, .ref b), (1, .ref (mB E + 0)), (2, .ref (mB E + 75)), (3, .ref (mB E + 105)), (4, .int i)] [] 106 1 I' R' L' (k + 1) (z + 6)) : mG X E 1614 [(0, .ref b), (1, .ref (mB E + 0)), (2, .ref (mB E + 75)), (3, .ref (mB E + 105)), (4, .int i)] [] 106 1 I R L k z := by
  obtain ⟨o, h1, o2, h2, hP⟩ := hP
  refine g_aload_n hC dL_law_1614 (i := 1) rfl (q := 1) rfl ?_
  refine g_cV0 hC cv_X11_forget wd_803 ⟨Nat.le_of_ble_eq_true rfl, Nat.le_of_ble_eq_true rfl⟩ rfl (by decide) dL_law_1615 (As := []) (st := []) (ok_X11_forget hC.2.2.2.2.2.2.2.1 hW h1) rfl rfl (Nat.le_of_ble_eq_true rfl) (by rw [hr]; exact ⟨Nat.le_trans (Nat.le_add_right _ _) hk.1, Nat.le_trans (Nat.le_add_right _ _) hk.2⟩) ?_
  refine g_aload_n hC dL_law_1618 (i := 2) rfl (q := 2) rfl ?_
  refine g_cV0 hC cv_X12_forget wd_2225 ⟨Nat.le_of_ble_eq_true rfl, Nat.le_of_ble_eq_true rfl⟩ rfl (by decide) dL_law_1619 (As := []) (st := []) (ok_X12_forget hC.2.2.2.2.2.2.2.1 hW h2) rfl rfl (Nat.le_of_ble_eq_true rfl) (by rw [hr]; exact ⟨Nat.le_trans (Nat.le_add_right _ _) hk.1, Nat.le_trans (Nat.le_add_right _ _) hk.2⟩) ?_
  refine g_goto hC dL_law_1622 (tgt := 2418) (by decide) ?_
  refine g_wid (Nat.le_add_right _ 1) (Nat.le_add_right _ 6) ?_
  exact kk _ _ _ hP
def st_eaten (Fu : Nat) (I : mIT) (R : mRT) (L : mLT) (a1 : Int32) (P : mIT → mRT → mLT → Prop) : Prop := (∃ o, f_X11_eaten Fu R I a1 = some (.inl o) ∧ ∃ o2, f_X12_eaten Fu o.2 a1 = some o2 ∧ f_X12_thrown Fu o2.2 = some 0 ∧ o.1 = o2.1 ∧ P o2.2 R (mUL L 105 0 (o.1).toInt64)) ∨ (∃ q, f_X11_eaten Fu R I a1 = some (.inr q) ∧ ∃ o2, f_X12_eaten Fu q.2 a1 = some o2 ∧ (q.1 = 1 ∧ f_X12_thrown Fu o2.2 = some 1) ∧ P o2.2 R L)
set_option maxRecDepth 20000 in
theorem lc_eaten {X : mXT} {E : mEn} (hC : mC X E mLaw RL code) (hN : va_Nc "java/lang/IllegalArgumentException" "java/util/NoSuchElementException" X.2.2.2.1) (hr : X.2.2.2.2.2.2.2.2.2.2.1 = (1147, 45333)) {b Ln : Nat} {xs : Nat → Int32} (hX : va_X b Ln xs X.2.2.2.1 E.2.2.1 ∧ b < mB E) {i : Int32} {Fu : Nat} {I : mIT} {R : mRT} {L : mLT} {k z : Nat} (hW : mWd R) (hk : k + 1 ≤ 1147 ∧ z + 6 ≤ 45333) {a1 : Int32} (hi1 : vp_in (i + 1) Ln) (ha1 : a1 = xs (i + 1).toNatClampNeg) {P : mIT → mRT → mLT → Prop} (hP : st_eaten Fu I R L a1 P) (kk : ∀ (I' : mIT) (R' : mRT) (L' : mLT), P I' R' L' → mG X E 2418 [(0, .ref b), (1, .ref (mB E + 0)), (2, .ref (mB E + 75)), (3, .ref (mB E + 105)), (4, .int i)] [] 106 1 I' R' L' (k + 1) (z + 6)) : mG X E 1625 [(0, .ref b), (1, .ref (mB E + 0)), (2, .ref (mB E + 75)), (3, .ref (mB E + 105)), (4, .int i)] [] 106 1 I R L k z := by
  rcases hP with ⟨o, h1, o2, h2, h3, h4, hP⟩ | ⟨q, h1, o2, h2, h3, hP⟩
  · refine g_aload_n hC dL_law_1625 (i := 1) rfl (q := 1) rfl ?_
    refine g_aload_n hC dL_law_1626 (i := 0) rfl (q := 0) rfl ?_
    refine g_iload hC dL_law_1627 (q := 4) rfl ?_
    refine g_iconst hC dL_law_1629 (v := (1 : Int32)) (by decide) ?_
    refine g_iadd hC dL_law_1630 ?_
    refine g_scr hC hX hi1 dL_law_1631 ?_
    rw [← ha1]
    refine g_aload_n hC dL_law_1632 (i := 3) rfl (q := 3) rfl ?_
    refine g_cW hC hN (M2 := mL_eaten) (na := 3) wd_1404 wd_126 wd_1403 wd_1402 ⟨by decide, by decide, by decide⟩ ⟨Nat.le_of_ble_eq_true rfl, Nat.le_of_ble_eq_true rfl⟩ dL_law_1633 (As := [.ref (mB E + 0), .int a1, .ref (mB E + 105)]) (st := []) (ow_eaten_r hC.2.2.2.2.2.2.2.1 hW h1) rfl rfl (Nat.le_of_ble_eq_true rfl) (by rw [hr]; exact hk) ?_
    refine g_istore hC dL_law_1636 rfl (by decide) (lv' := [(5, .int (0 : Int32)), (0, .ref b), (1, .ref (mB E + 0)), (2, .ref (mB E + 75)), (3, .ref (mB E + 105)), (4, .int i)]) rfl ?_
    refine g_aload_n hC dL_law_1638 (i := 2) rfl (q := 3) rfl ?_
    refine g_aload_n hC dL_law_1639 (i := 0) rfl (q := 1) rfl ?_
    refine g_iload hC dL_law_1640 (q := 5) rfl ?_
    refine g_iconst hC dL_law_1642 (v := (1 : Int32)) (by decide) ?_
    refine g_iadd hC dL_law_1643 ?_
    refine g_scr hC hX hi1 dL_law_1644 ?_
    rw [← ha1]
    refine g_cV1 hC cv_X12_eaten wd_2229 ⟨Nat.le_of_ble_eq_true rfl, Nat.le_of_ble_eq_true rfl⟩ rfl (by decide) dL_law_1645 (As := [.int a1]) (st := []) (ok_X12_eaten hC.2.2.2.2.2.2.2.1 hW h2) rfl rfl (Nat.le_of_ble_eq_true rfl) (by rw [hr]; exact hk) ?_
    refine g_istore hC dL_law_1648 rfl (by decide) (lv' := [(6, .int o2.1), (5, .int (0 : Int32)), (0, .ref b), (1, .ref (mB E + 0)), (2, .ref (mB E + 75)), (3, .ref (mB E + 105)), (4, .int i)]) rfl ?_
    refine g_aload_n hC dL_law_1650 (i := 2) rfl (q := 4) rfl ?_
    refine g_cV1 hC cv_X12_thrown wd_1835 ⟨Nat.le_of_ble_eq_true rfl, Nat.le_of_ble_eq_true rfl⟩ rfl (by decide) dL_law_1651 (As := []) (st := []) (ok_X12_thrown hC.2.2.2.2.2.2.2.1 hW h3) rfl rfl (Nat.le_of_ble_eq_true rfl) (by rw [hr]; exact hk) ?_
    refine g_iload hC dL_law_1654 (q := 1) rfl ?_
    refine g_ic_eq hC dL_law_1656 (tgt := 1661) (by decide) (fun _ => ?_) (fun ne => absurd rfl ne)
    refine g_iload hC dL_law_1661 (q := 1) rfl ?_
    refine g_if_ne hC dL_law_1663 (tgt := 1678) (by decide) (fun ne => absurd rfl ne) (fun _ => ?_)
    refine g_aload_n hC dL_law_1666 (i := 3) rfl (q := 5) rfl ?_
    refine g_iconst hC dL_law_1667 (v := (0 : Int32)) (by decide) ?_
    refine g_lald hC (len := 1) rfl (by decide) (inB_in (by decide)) dL_law_1668 ?_
    refine g_iload hC dL_law_1669 (q := 0) rfl ?_
    refine g_i2l hC dL_law_1671 ?_
    refine g_lcmp hC dL_law_1672 ?_
    have hcmp : (mUL L 105 0 (o.1).toInt64) 105 (0 : Int32).toNatClampNeg = (o2.1).toInt64 := (show mUL _ 105 0 _ 105 0 = _ from by simp only [mUL, and_self, if_true]; rw [h4])
    refine g_if_eq hC dL_law_1673 (tgt := 1678) (by decide) (fun _ => ?_) (fun ne => absurd (by rw [hcmp]; exact lg_same _) ne)
    refine g_goto hC dL_law_1678 (tgt := 2418) (by decide) ?_
    refine g_lv [2, 3, 4, 5, 6] rfl ?_
    exact kk _ _ _ hP
  · obtain ⟨q0, I1⟩ := q
    obtain ⟨hq, h3⟩ := h3
    replace hq : q0 = 1 := hq
    subst hq
    refine g_aload_n hC dL_law_1625 (i := 1) rfl (q := 1) rfl ?_
    refine g_aload_n hC dL_law_1626 (i := 0) rfl (q := 0) rfl ?_
    refine g_iload hC dL_law_1627 (q := 4) rfl ?_
    refine g_iconst hC dL_law_1629 (v := (1 : Int32)) (by decide) ?_
    refine g_iadd hC dL_law_1630 ?_
    refine g_scr hC hX hi1 dL_law_1631 ?_
    rw [← ha1]
    refine g_aload_n hC dL_law_1632 (i := 3) rfl (q := 3) rfl ?_
    refine g_cW hC hN (M2 := mL_eaten) (na := 3) wd_1404 wd_126 wd_1403 wd_1402 ⟨by decide, by decide, by decide⟩ ⟨Nat.le_of_ble_eq_true rfl, Nat.le_of_ble_eq_true rfl⟩ dL_law_1633 (As := [.ref (mB E + 0), .int a1, .ref (mB E + 105)]) (st := []) (ow_eaten_t1 hC.2.2.2.2.2.2.2.1 hW h1) rfl rfl (Nat.le_of_ble_eq_true rfl) (by rw [hr]; exact hk) ?_
    refine g_istore hC dL_law_1636 rfl (by decide) (lv' := [(5, .int (1 : Int32)), (0, .ref b), (1, .ref (mB E + 0)), (2, .ref (mB E + 75)), (3, .ref (mB E + 105)), (4, .int i)]) rfl ?_
    refine g_aload_n hC dL_law_1638 (i := 2) rfl (q := 3) rfl ?_
    refine g_aload_n hC dL_law_1639 (i := 0) rfl (q := 1) rfl ?_
    refine g_iload hC dL_law_1640 (q := 5) rfl ?_
    refine g_iconst hC dL_law_1642 (v := (1 : Int32)) (by decide) ?_
    refine g_iadd hC dL_law_1643 ?_
    refine g_scr hC hX hi1 dL_law_1644 ?_
    rw [← ha1]
    refine g_cV1 hC cv_X12_eaten wd_2229 ⟨Nat.le_of_ble_eq_true rfl, Nat.le_of_ble_eq_true rfl⟩ rfl (by decide) dL_law_1645 (As := [.int a1]) (st := []) (ok_X12_eaten hC.2.2.2.2.2.2.2.1 hW h2) rfl rfl (Nat.le_of_ble_eq_true rfl) (by rw [hr]; exact hk) ?_
    refine g_istore hC dL_law_1648 rfl (by decide) (lv' := [(6, .int o2.1), (5, .int (1 : Int32)), (0, .ref b), (1, .ref (mB E + 0)), (2, .ref (mB E + 75)), (3, .ref (mB E + 105)), (4, .int i)]) rfl ?_
    refine g_aload_n hC dL_law_1650 (i := 2) rfl (q := 4) rfl ?_
    refine g_cV1 hC cv_X12_thrown wd_1835 ⟨Nat.le_of_ble_eq_true rfl, Nat.le_of_ble_eq_true rfl⟩ rfl (by decide) dL_law_1651 (As := []) (st := []) (ok_X12_thrown hC.2.2.2.2.2.2.2.1 hW h3) rfl rfl (Nat.le_of_ble_eq_true rfl) (by rw [hr]; exact hk) ?_
    refine g_iload hC dL_law_1654 (q := 1) rfl ?_
    refine g_ic_eq hC dL_law_1656 (tgt := 1661) (by decide) (fun _ => ?_) (fun ne => absurd rfl ne)
    refine g_iload hC dL_law_1661 (q := 1) rfl ?_
    refine g_if_ne hC dL_law_1663 (tgt := 1678) (by decide) (fun _ => ?_) (fun e => absurd e (by decide))
    refine g_goto hC dL_law_1678 (tgt := 2418) (by decide) ?_
    refine g_lv [2, 3, 4, 5, 6] rfl ?_
    exact kk _ _ _ hP
def st_next (Fu : Nat) (I : mIT) (R : mRT) (L : mLT) (a1 : Int32) (P : mIT → mRT → mLT → Prop) : Prop := (∃ o, f_X11_next Fu R I a1 = some (.inl o) ∧ ∃ o2, f_X12_next Fu o.2 a1 = some o2 ∧ f_X12_thrown Fu o2.2 = some 0 ∧ o.1 = o2.1 ∧ P o2.2 R (mUL L 105 0 (o.1).toInt64)) ∨ (∃ q, f_X11_next Fu R I a1 = some (.inr q) ∧ ∃ o2, f_X12_next Fu q.2 a1 = some o2 ∧ (q.1 = 1 ∧ f_X12_thrown Fu o2.2 = some 1) ∧ P o2.2 R L)
set_option maxRecDepth 20000 in
theorem lc_next {X : mXT} {E : mEn} (hC : mC X E mLaw RL code) (hN : va_Nc "java/lang/IllegalArgumentException" "java/util/NoSuchElementException" X.2.2.2.1) (hr : X.2.2.2.2.2.2.2.2.2.2.1 = (1147, 45333)) {b Ln : Nat} {xs : Nat → Int32} (hX : va_X b Ln xs X.2.2.2.1 E.2.2.1 ∧ b < mB E) {i : Int32} {Fu : Nat} {I : mIT} {R : mRT} {L : mLT} {k z : Nat} (hW : mWd R) (hk : k + 1 ≤ 1147 ∧ z + 6 ≤ 45333) {a1 : Int32} (hi1 : vp_in (i + 1) Ln) (ha1 : a1 = xs (i + 1).toNatClampNeg) {P : mIT → mRT → mLT → Prop} (hP : st_next Fu I R L a1 P) (kk : ∀ (I' : mIT) (R' : mRT) (L' : mLT), P I' R' L' → mG X E 2418 [(0, .ref b), (1, .ref (mB E + 0)), (2, .ref (mB E + 75)), (3, .ref (mB E + 105)), (4, .int i)] [] 106 1 I' R' L' (k + 1) (z + 6)) : mG X E 1681 [(0, .ref b), (1, .ref (mB E + 0)), (2, .ref (mB E + 75)), (3, .ref (mB E + 105)), (4, .int i)] [] 106 1 I R L k z := by
  rcases hP with ⟨o, h1, o2, h2, h3, h4, hP⟩ | ⟨q, h1, o2, h2, h3, hP⟩
  · refine g_aload_n hC dL_law_1681 (i := 1) rfl (q := 1) rfl ?_
    refine g_aload_n hC dL_law_1682 (i := 0) rfl (q := 0) rfl ?_
    refine g_iload hC dL_law_1683 (q := 4) rfl ?_
    refine g_iconst hC dL_law_1685 (v := (1 : Int32)) (by decide) ?_
    refine g_iadd hC dL_law_1686 ?_
    refine g_scr hC hX hi1 dL_law_1687 ?_
    rw [← ha1]
    refine g_aload_n hC dL_law_1688 (i := 3) rfl (q := 3) rfl ?_
    refine g_cW hC hN (M2 := mL_next) (na := 3) wd_1440 wd_126 wd_1439 wd_1438 ⟨by decide, by decide, by decide⟩ ⟨Nat.le_of_ble_eq_true rfl, Nat.le_of_ble_eq_true rfl⟩ dL_law_1689 (As := [.ref (mB E + 0), .int a1, .ref (mB E + 105)]) (st := []) (ow_next_r hC.2.2.2.2.2.2.2.1 hW h1) rfl rfl (Nat.le_of_ble_eq_true rfl) (by rw [hr]; exact hk) ?_
    refine g_istore hC dL_law_1692 rfl (by decide) (lv' := [(5, .int (0 : Int32)), (0, .ref b), (1, .ref (mB E + 0)), (2, .ref (mB E + 75)), (3, .ref (mB E + 105)), (4, .int i)]) rfl ?_
    refine g_aload_n hC dL_law_1694 (i := 2) rfl (q := 3) rfl ?_
    refine g_aload_n hC dL_law_1695 (i := 0) rfl (q := 1) rfl ?_
    refine g_iload hC dL_law_1696 (q := 5) rfl ?_
    refine g_iconst hC dL_law_1698 (v := (1 : Int32)) (by decide) ?_
    refine g_iadd hC dL_law_1699 ?_
    refine g_scr hC hX hi1 dL_law_1700 ?_
    rw [← ha1]
    refine g_cV1 hC cv_X12_next wd_2241 ⟨Nat.le_of_ble_eq_true rfl, Nat.le_of_ble_eq_true rfl⟩ rfl (by decide) dL_law_1701 (As := [.int a1]) (st := []) (ok_X12_next hC.2.2.2.2.2.2.2.1 hW h2) rfl rfl (Nat.le_of_ble_eq_true rfl) (by rw [hr]; exact hk) ?_
    refine g_istore hC dL_law_1704 rfl (by decide) (lv' := [(6, .int o2.1), (5, .int (0 : Int32)), (0, .ref b), (1, .ref (mB E + 0)), (2, .ref (mB E + 75)), (3, .ref (mB E + 105)), (4, .int i)]) rfl ?_
    refine g_aload_n hC dL_law_1706 (i := 2) rfl (q := 4) rfl ?_
    refine g_cV1 hC cv_X12_thrown wd_1835 ⟨Nat.le_of_ble_eq_true rfl, Nat.le_of_ble_eq_true rfl⟩ rfl (by decide) dL_law_1707 (As := []) (st := []) (ok_X12_thrown hC.2.2.2.2.2.2.2.1 hW h3) rfl rfl (Nat.le_of_ble_eq_true rfl) (by rw [hr]; exact hk) ?_
    refine g_iload hC dL_law_1710 (q := 1) rfl ?_
    refine g_ic_eq hC dL_law_1712 (tgt := 1717) (by decide) (fun _ => ?_) (fun ne => absurd rfl ne)
    refine g_iload hC dL_law_1717 (q := 1) rfl ?_
    refine g_if_ne hC dL_law_1719 (tgt := 1734) (by decide) (fun ne => absurd rfl ne) (fun _ => ?_)
    refine g_aload_n hC dL_law_1722 (i := 3) rfl (q := 5) rfl ?_
    refine g_iconst hC dL_law_1723 (v := (0 : Int32)) (by decide) ?_
    refine g_lald hC (len := 1) rfl (by decide) (inB_in (by decide)) dL_law_1724 ?_
    refine g_iload hC dL_law_1725 (q := 0) rfl ?_
    refine g_i2l hC dL_law_1727 ?_
    refine g_lcmp hC dL_law_1728 ?_
    have hcmp : (mUL L 105 0 (o.1).toInt64) 105 (0 : Int32).toNatClampNeg = (o2.1).toInt64 := (show mUL _ 105 0 _ 105 0 = _ from by simp only [mUL, and_self, if_true]; rw [h4])
    refine g_if_eq hC dL_law_1729 (tgt := 1734) (by decide) (fun _ => ?_) (fun ne => absurd (by rw [hcmp]; exact lg_same _) ne)
    refine g_goto hC dL_law_1734 (tgt := 2418) (by decide) ?_
    refine g_lv [2, 3, 4, 5, 6] rfl ?_
    exact kk _ _ _ hP
  · obtain ⟨q0, I1⟩ := q
    obtain ⟨hq, h3⟩ := h3
    replace hq : q0 = 1 := hq
    subst hq
    refine g_aload_n hC dL_law_1681 (i := 1) rfl (q := 1) rfl ?_
    refine g_aload_n hC dL_law_1682 (i := 0) rfl (q := 0) rfl ?_
    refine g_iload hC dL_law_1683 (q := 4) rfl ?_
    refine g_iconst hC dL_law_1685 (v := (1 : Int32)) (by decide) ?_
    refine g_iadd hC dL_law_1686 ?_
    refine g_scr hC hX hi1 dL_law_1687 ?_
    rw [← ha1]
    refine g_aload_n hC dL_law_1688 (i := 3) rfl (q := 3) rfl ?_
    refine g_cW hC hN (M2 := mL_next) (na := 3) wd_1440 wd_126 wd_1439 wd_1438 ⟨by decide, by decide, by decide⟩ ⟨Nat.le_of_ble_eq_true rfl, Nat.le_of_ble_eq_true rfl⟩ dL_law_1689 (As := [.ref (mB E + 0), .int a1, .ref (mB E + 105)]) (st := []) (ow_next_t1 hC.2.2.2.2.2.2.2.1 hW h1) rfl rfl (Nat.le_of_ble_eq_true rfl) (by rw [hr]; exact hk) ?_
    refine g_istore hC dL_law_1692 rfl (by decide) (lv' := [(5, .int (1 : Int32)), (0, .ref b), (1, .ref (mB E + 0)), (2, .ref (mB E + 75)), (3, .ref (mB E + 105)), (4, .int i)]) rfl ?_
    refine g_aload_n hC dL_law_1694 (i := 2) rfl (q := 3) rfl ?_
    refine g_aload_n hC dL_law_1695 (i := 0) rfl (q := 1) rfl ?_
    refine g_iload hC dL_law_1696 (q := 5) rfl ?_
    refine g_iconst hC dL_law_1698 (v := (1 : Int32)) (by decide) ?_
    refine g_iadd hC dL_law_1699 ?_
    refine g_scr hC hX hi1 dL_law_1700 ?_
    rw [← ha1]
    refine g_cV1 hC cv_X12_next wd_2241 ⟨Nat.le_of_ble_eq_true rfl, Nat.le_of_ble_eq_true rfl⟩ rfl (by decide) dL_law_1701 (As := [.int a1]) (st := []) (ok_X12_next hC.2.2.2.2.2.2.2.1 hW h2) rfl rfl (Nat.le_of_ble_eq_true rfl) (by rw [hr]; exact hk) ?_
    refine g_istore hC dL_law_1704 rfl (by decide) (lv' := [(6, .int o2.1), (5, .int (1 : Int32)), (0, .ref b), (1, .ref (mB E + 0)), (2, .ref (mB E + 75)), (3, .ref (mB E + 105)), (4, .int i)]) rfl ?_
    refine g_aload_n hC dL_law_1706 (i := 2) rfl (q := 4) rfl ?_
    refine g_cV1 hC cv_X12_thrown wd_1835 ⟨Nat.le_of_ble_eq_true rfl, Nat.le_of_ble_eq_true rfl⟩ rfl (by decide) dL_law_1707 (As := []) (st := []) (ok_X12_thrown hC.2.2.2.2.2.2.2.1 hW h3) rfl rfl (Nat.le_of_ble_eq_true rfl) (by rw [hr]; exact hk) ?_
    refine g_iload hC dL_law_1710 (q := 1) rfl ?_
    refine g_ic_eq hC dL_law_1712 (tgt := 1717) (by decide) (fun _ => ?_) (fun ne => absurd rfl ne)
    refine g_iload hC dL_law_1717 (q := 1) rfl ?_
    refine g_if_ne hC dL_law_1719 (tgt := 1734) (by decide) (fun _ => ?_) (fun e => absurd e (by decide))
    refine g_goto hC dL_law_1734 (tgt := 2418) (by decide) ?_
    refine g_lv [2, 3, 4, 5, 6] rfl ?_
    exact kk _ _ _ hP
def st_game (Fu : Nat) (I : mIT) (R : mRT) (L : mLT) (a1 : Int32) (a2 : Int32) (a3 : Int32) (P : mIT → mRT → mLT → Prop) : Prop := (∃ o, f_X11_game Fu R I a1 a2 a3 = some (.inl o) ∧ ∃ o2, f_X12_game Fu o.2 a1 a2 a3 = some o2 ∧ f_X12_thrown Fu o2.2 = some 0 ∧ o.1 = o2.1 ∧ P o2.2 R (mUL L 105 0 (o.1).toInt64)) ∨ (∃ q, f_X11_game Fu R I a1 a2 a3 = some (.inr q) ∧ ∃ o2, f_X12_game Fu q.2 a1 a2 a3 = some o2 ∧ (q.1 = 1 ∧ f_X12_thrown Fu o2.2 = some 1 ∨ q.1 = 2 ∧ f_X12_thrown Fu o2.2 = some 2) ∧ P o2.2 R L)
set_option maxRecDepth 20000 in
theorem lc_game {X : mXT} {E : mEn} (hC : mC X E mLaw RL code) (hN : va_Nc "java/lang/IllegalArgumentException" "java/util/NoSuchElementException" X.2.2.2.1) (hr : X.2.2.2.2.2.2.2.2.2.2.1 = (1147, 45333)) {b Ln : Nat} {xs : Nat → Int32} (hX : va_X b Ln xs X.2.2.2.1 E.2.2.1 ∧ b < mB E) {i : Int32} {Fu : Nat} {I : mIT} {R : mRT} {L : mLT} {k z : Nat} (hW : mWd R) (hk : k + 1 ≤ 1147 ∧ z + 6 ≤ 45333) {a1 : Int32} (hi1 : vp_in (i + 1) Ln) (ha1 : a1 = xs (i + 1).toNatClampNeg) {a2 : Int32} (hi2 : vp_in (i + 2) Ln) (ha2 : a2 = xs (i + 2).toNatClampNeg) {a3 : Int32} (hi3 : vp_in (i + 3) Ln) (ha3 : a3 = xs (i + 3).toNatClampNeg) {P : mIT → mRT → mLT → Prop} (hP : st_game Fu I R L a1 a2 a3 P) (kk : ∀ (I' : mIT) (R' : mRT) (L' : mLT), P I' R' L' → mG X E 2418 [(0, .ref b), (1, .ref (mB E + 0)), (2, .ref (mB E + 75)), (3, .ref (mB E + 105)), (4, .int i)] [] 106 1 I' R' L' (k + 1) (z + 6)) : mG X E 1737 [(0, .ref b), (1, .ref (mB E + 0)), (2, .ref (mB E + 75)), (3, .ref (mB E + 105)), (4, .int i)] [] 106 1 I R L k z := by
  rcases hP with ⟨o, h1, o2, h2, h3, h4, hP⟩ | ⟨q, h1, o2, h2, h3, hP⟩
  · refine g_aload_n hC dL_law_1737 (i := 1) rfl (q := 1) rfl ?_
    refine g_aload_n hC dL_law_1738 (i := 0) rfl (q := 0) rfl ?_
    refine g_iload hC dL_law_1739 (q := 4) rfl ?_
    refine g_iconst hC dL_law_1741 (v := (1 : Int32)) (by decide) ?_
    refine g_iadd hC dL_law_1742 ?_
    refine g_scr hC hX hi1 dL_law_1743 ?_
    rw [← ha1]
    refine g_aload_n hC dL_law_1744 (i := 0) rfl (q := 0) rfl ?_
    refine g_iload hC dL_law_1745 (q := 4) rfl ?_
    refine g_iconst hC dL_law_1747 (v := (2 : Int32)) (by decide) ?_
    refine g_iadd hC dL_law_1748 ?_
    refine g_scr hC hX hi2 dL_law_1749 ?_
    rw [← ha2]
    refine g_aload_n hC dL_law_1750 (i := 0) rfl (q := 0) rfl ?_
    refine g_iload hC dL_law_1751 (q := 4) rfl ?_
    refine g_iconst hC dL_law_1753 (v := (3 : Int32)) (by decide) ?_
    refine g_iadd hC dL_law_1754 ?_
    refine g_scr hC hX hi3 dL_law_1755 ?_
    rw [← ha3]
    refine g_aload_n hC dL_law_1756 (i := 3) rfl (q := 3) rfl ?_
    refine g_cW hC hN (M2 := mL_game) (na := 5) wd_1473 wd_126 wd_1472 wd_1471 ⟨by decide, by decide, by decide⟩ ⟨Nat.le_of_ble_eq_true rfl, Nat.le_of_ble_eq_true rfl⟩ dL_law_1757 (As := [.ref (mB E + 0), .int a1, .int a2, .int a3, .ref (mB E + 105)]) (st := []) (ow_game_r hC.2.2.2.2.2.2.2.1 hW h1) rfl rfl (Nat.le_of_ble_eq_true rfl) (by rw [hr]; exact hk) ?_
    refine g_istore hC dL_law_1760 rfl (by decide) (lv' := [(5, .int (0 : Int32)), (0, .ref b), (1, .ref (mB E + 0)), (2, .ref (mB E + 75)), (3, .ref (mB E + 105)), (4, .int i)]) rfl ?_
    refine g_aload_n hC dL_law_1762 (i := 2) rfl (q := 3) rfl ?_
    refine g_aload_n hC dL_law_1763 (i := 0) rfl (q := 1) rfl ?_
    refine g_iload hC dL_law_1764 (q := 5) rfl ?_
    refine g_iconst hC dL_law_1766 (v := (1 : Int32)) (by decide) ?_
    refine g_iadd hC dL_law_1767 ?_
    refine g_scr hC hX hi1 dL_law_1768 ?_
    rw [← ha1]
    refine g_aload_n hC dL_law_1769 (i := 0) rfl (q := 1) rfl ?_
    refine g_iload hC dL_law_1770 (q := 5) rfl ?_
    refine g_iconst hC dL_law_1772 (v := (2 : Int32)) (by decide) ?_
    refine g_iadd hC dL_law_1773 ?_
    refine g_scr hC hX hi2 dL_law_1774 ?_
    rw [← ha2]
    refine g_aload_n hC dL_law_1775 (i := 0) rfl (q := 1) rfl ?_
    refine g_iload hC dL_law_1776 (q := 5) rfl ?_
    refine g_iconst hC dL_law_1778 (v := (3 : Int32)) (by decide) ?_
    refine g_iadd hC dL_law_1779 ?_
    refine g_scr hC hX hi3 dL_law_1780 ?_
    rw [← ha3]
    refine g_cV1 hC cv_X12_game wd_2245 ⟨Nat.le_of_ble_eq_true rfl, Nat.le_of_ble_eq_true rfl⟩ rfl (by decide) dL_law_1781 (As := [.int a1, .int a2, .int a3]) (st := []) (ok_X12_game hC.2.2.2.2.2.2.2.1 hW h2) rfl rfl (Nat.le_of_ble_eq_true rfl) (by rw [hr]; exact hk) ?_
    refine g_istore hC dL_law_1784 rfl (by decide) (lv' := [(6, .int o2.1), (5, .int (0 : Int32)), (0, .ref b), (1, .ref (mB E + 0)), (2, .ref (mB E + 75)), (3, .ref (mB E + 105)), (4, .int i)]) rfl ?_
    refine g_aload_n hC dL_law_1786 (i := 2) rfl (q := 4) rfl ?_
    refine g_cV1 hC cv_X12_thrown wd_1835 ⟨Nat.le_of_ble_eq_true rfl, Nat.le_of_ble_eq_true rfl⟩ rfl (by decide) dL_law_1787 (As := []) (st := []) (ok_X12_thrown hC.2.2.2.2.2.2.2.1 hW h3) rfl rfl (Nat.le_of_ble_eq_true rfl) (by rw [hr]; exact hk) ?_
    refine g_iload hC dL_law_1790 (q := 1) rfl ?_
    refine g_ic_eq hC dL_law_1792 (tgt := 1797) (by decide) (fun _ => ?_) (fun ne => absurd rfl ne)
    refine g_iload hC dL_law_1797 (q := 1) rfl ?_
    refine g_if_ne hC dL_law_1799 (tgt := 1814) (by decide) (fun ne => absurd rfl ne) (fun _ => ?_)
    refine g_aload_n hC dL_law_1802 (i := 3) rfl (q := 5) rfl ?_
    refine g_iconst hC dL_law_1803 (v := (0 : Int32)) (by decide) ?_
    refine g_lald hC (len := 1) rfl (by decide) (inB_in (by decide)) dL_law_1804 ?_
    refine g_iload hC dL_law_1805 (q := 0) rfl ?_
    refine g_i2l hC dL_law_1807 ?_
    refine g_lcmp hC dL_law_1808 ?_
    have hcmp : (mUL L 105 0 (o.1).toInt64) 105 (0 : Int32).toNatClampNeg = (o2.1).toInt64 := (show mUL _ 105 0 _ 105 0 = _ from by simp only [mUL, and_self, if_true]; rw [h4])
    refine g_if_eq hC dL_law_1809 (tgt := 1814) (by decide) (fun _ => ?_) (fun ne => absurd (by rw [hcmp]; exact lg_same _) ne)
    refine g_goto hC dL_law_1814 (tgt := 2418) (by decide) ?_
    refine g_lv [2, 3, 4, 5, 6] rfl ?_
    exact kk _ _ _ hP
  · obtain ⟨q0, I1⟩ := q
    rcases h3 with ⟨hq, h3⟩ | ⟨hq, h3⟩
    · replace hq : q0 = 1 := hq
      subst hq
      refine g_aload_n hC dL_law_1737 (i := 1) rfl (q := 1) rfl ?_
      refine g_aload_n hC dL_law_1738 (i := 0) rfl (q := 0) rfl ?_
      refine g_iload hC dL_law_1739 (q := 4) rfl ?_
      refine g_iconst hC dL_law_1741 (v := (1 : Int32)) (by decide) ?_
      refine g_iadd hC dL_law_1742 ?_
      refine g_scr hC hX hi1 dL_law_1743 ?_
      rw [← ha1]
      refine g_aload_n hC dL_law_1744 (i := 0) rfl (q := 0) rfl ?_
      refine g_iload hC dL_law_1745 (q := 4) rfl ?_
      refine g_iconst hC dL_law_1747 (v := (2 : Int32)) (by decide) ?_
      refine g_iadd hC dL_law_1748 ?_
      refine g_scr hC hX hi2 dL_law_1749 ?_
      rw [← ha2]
      refine g_aload_n hC dL_law_1750 (i := 0) rfl (q := 0) rfl ?_
      refine g_iload hC dL_law_1751 (q := 4) rfl ?_
      refine g_iconst hC dL_law_1753 (v := (3 : Int32)) (by decide) ?_
      refine g_iadd hC dL_law_1754 ?_
      refine g_scr hC hX hi3 dL_law_1755 ?_
      rw [← ha3]
      refine g_aload_n hC dL_law_1756 (i := 3) rfl (q := 3) rfl ?_
      refine g_cW hC hN (M2 := mL_game) (na := 5) wd_1473 wd_126 wd_1472 wd_1471 ⟨by decide, by decide, by decide⟩ ⟨Nat.le_of_ble_eq_true rfl, Nat.le_of_ble_eq_true rfl⟩ dL_law_1757 (As := [.ref (mB E + 0), .int a1, .int a2, .int a3, .ref (mB E + 105)]) (st := []) (ow_game_t1 hC.2.2.2.2.2.2.2.1 hW h1) rfl rfl (Nat.le_of_ble_eq_true rfl) (by rw [hr]; exact hk) ?_
      refine g_istore hC dL_law_1760 rfl (by decide) (lv' := [(5, .int (1 : Int32)), (0, .ref b), (1, .ref (mB E + 0)), (2, .ref (mB E + 75)), (3, .ref (mB E + 105)), (4, .int i)]) rfl ?_
      refine g_aload_n hC dL_law_1762 (i := 2) rfl (q := 3) rfl ?_
      refine g_aload_n hC dL_law_1763 (i := 0) rfl (q := 1) rfl ?_
      refine g_iload hC dL_law_1764 (q := 5) rfl ?_
      refine g_iconst hC dL_law_1766 (v := (1 : Int32)) (by decide) ?_
      refine g_iadd hC dL_law_1767 ?_
      refine g_scr hC hX hi1 dL_law_1768 ?_
      rw [← ha1]
      refine g_aload_n hC dL_law_1769 (i := 0) rfl (q := 1) rfl ?_
      refine g_iload hC dL_law_1770 (q := 5) rfl ?_
      refine g_iconst hC dL_law_1772 (v := (2 : Int32)) (by decide) ?_
      refine g_iadd hC dL_law_1773 ?_
      refine g_scr hC hX hi2 dL_law_1774 ?_
      rw [← ha2]
      refine g_aload_n hC dL_law_1775 (i := 0) rfl (q := 1) rfl ?_
      refine g_iload hC dL_law_1776 (q := 5) rfl ?_
      refine g_iconst hC dL_law_1778 (v := (3 : Int32)) (by decide) ?_
      refine g_iadd hC dL_law_1779 ?_
      refine g_scr hC hX hi3 dL_law_1780 ?_
      rw [← ha3]
      refine g_cV1 hC cv_X12_game wd_2245 ⟨Nat.le_of_ble_eq_true rfl, Nat.le_of_ble_eq_true rfl⟩ rfl (by decide) dL_law_1781 (As := [.int a1, .int a2, .int a3]) (st := []) (ok_X12_game hC.2.2.2.2.2.2.2.1 hW h2) rfl rfl (Nat.le_of_ble_eq_true rfl) (by rw [hr]; exact hk) ?_
      refine g_istore hC dL_law_1784 rfl (by decide) (lv' := [(6, .int o2.1), (5, .int (1 : Int32)), (0, .ref b), (1, .ref (mB E + 0)), (2, .ref (mB E + 75)), (3, .ref (mB E + 105)), (4, .int i)]) rfl ?_
      refine g_aload_n hC dL_law_1786 (i := 2) rfl (q := 4) rfl ?_
      refine g_cV1 hC cv_X12_thrown wd_1835 ⟨Nat.le_of_ble_eq_true rfl, Nat.le_of_ble_eq_true rfl⟩ rfl (by decide) dL_law_1787 (As := []) (st := []) (ok_X12_thrown hC.2.2.2.2.2.2.2.1 hW h3) rfl rfl (Nat.le_of_ble_eq_true rfl) (by rw [hr]; exact hk) ?_
      refine g_iload hC dL_law_1790 (q := 1) rfl ?_
      refine g_ic_eq hC dL_law_1792 (tgt := 1797) (by decide) (fun _ => ?_) (fun ne => absurd rfl ne)
      refine g_iload hC dL_law_1797 (q := 1) rfl ?_
      refine g_if_ne hC dL_law_1799 (tgt := 1814) (by decide) (fun _ => ?_) (fun e => absurd e (by decide))
      refine g_goto hC dL_law_1814 (tgt := 2418) (by decide) ?_
      refine g_lv [2, 3, 4, 5, 6] rfl ?_
      exact kk _ _ _ hP
    · replace hq : q0 = 2 := hq
      subst hq
      refine g_aload_n hC dL_law_1737 (i := 1) rfl (q := 1) rfl ?_
      refine g_aload_n hC dL_law_1738 (i := 0) rfl (q := 0) rfl ?_
      refine g_iload hC dL_law_1739 (q := 4) rfl ?_
      refine g_iconst hC dL_law_1741 (v := (1 : Int32)) (by decide) ?_
      refine g_iadd hC dL_law_1742 ?_
      refine g_scr hC hX hi1 dL_law_1743 ?_
      rw [← ha1]
      refine g_aload_n hC dL_law_1744 (i := 0) rfl (q := 0) rfl ?_
      refine g_iload hC dL_law_1745 (q := 4) rfl ?_
      refine g_iconst hC dL_law_1747 (v := (2 : Int32)) (by decide) ?_
      refine g_iadd hC dL_law_1748 ?_
      refine g_scr hC hX hi2 dL_law_1749 ?_
      rw [← ha2]
      refine g_aload_n hC dL_law_1750 (i := 0) rfl (q := 0) rfl ?_
      refine g_iload hC dL_law_1751 (q := 4) rfl ?_
      refine g_iconst hC dL_law_1753 (v := (3 : Int32)) (by decide) ?_
      refine g_iadd hC dL_law_1754 ?_
      refine g_scr hC hX hi3 dL_law_1755 ?_
      rw [← ha3]
      refine g_aload_n hC dL_law_1756 (i := 3) rfl (q := 3) rfl ?_
      refine g_cW hC hN (M2 := mL_game) (na := 5) wd_1473 wd_126 wd_1472 wd_1471 ⟨by decide, by decide, by decide⟩ ⟨Nat.le_of_ble_eq_true rfl, Nat.le_of_ble_eq_true rfl⟩ dL_law_1757 (As := [.ref (mB E + 0), .int a1, .int a2, .int a3, .ref (mB E + 105)]) (st := []) (ow_game_t2 hC.2.2.2.2.2.2.2.1 hW h1) rfl rfl (Nat.le_of_ble_eq_true rfl) (by rw [hr]; exact hk) ?_
      refine g_istore hC dL_law_1760 rfl (by decide) (lv' := [(5, .int (2 : Int32)), (0, .ref b), (1, .ref (mB E + 0)), (2, .ref (mB E + 75)), (3, .ref (mB E + 105)), (4, .int i)]) rfl ?_
      refine g_aload_n hC dL_law_1762 (i := 2) rfl (q := 3) rfl ?_
      refine g_aload_n hC dL_law_1763 (i := 0) rfl (q := 1) rfl ?_
      refine g_iload hC dL_law_1764 (q := 5) rfl ?_
      refine g_iconst hC dL_law_1766 (v := (1 : Int32)) (by decide) ?_
      refine g_iadd hC dL_law_1767 ?_
      refine g_scr hC hX hi1 dL_law_1768 ?_
      rw [← ha1]
      refine g_aload_n hC dL_law_1769 (i := 0) rfl (q := 1) rfl ?_
      refine g_iload hC dL_law_1770 (q := 5) rfl ?_
      refine g_iconst hC dL_law_1772 (v := (2 : Int32)) (by decide) ?_
      refine g_iadd hC dL_law_1773 ?_
      refine g_scr hC hX hi2 dL_law_1774 ?_
      rw [← ha2]
      refine g_aload_n hC dL_law_1775 (i := 0) rfl (q := 1) rfl ?_
      refine g_iload hC dL_law_1776 (q := 5) rfl ?_
      refine g_iconst hC dL_law_1778 (v := (3 : Int32)) (by decide) ?_
      refine g_iadd hC dL_law_1779 ?_
      refine g_scr hC hX hi3 dL_law_1780 ?_
      rw [← ha3]
      refine g_cV1 hC cv_X12_game wd_2245 ⟨Nat.le_of_ble_eq_true rfl, Nat.le_of_ble_eq_true rfl⟩ rfl (by decide) dL_law_1781 (As := [.int a1, .int a2, .int a3]) (st := []) (ok_X12_game hC.2.2.2.2.2.2.2.1 hW h2) rfl rfl (Nat.le_of_ble_eq_true rfl) (by rw [hr]; exact hk) ?_
      refine g_istore hC dL_law_1784 rfl (by decide) (lv' := [(6, .int o2.1), (5, .int (2 : Int32)), (0, .ref b), (1, .ref (mB E + 0)), (2, .ref (mB E + 75)), (3, .ref (mB E + 105)), (4, .int i)]) rfl ?_
      refine g_aload_n hC dL_law_1786 (i := 2) rfl (q := 4) rfl ?_
      refine g_cV1 hC cv_X12_thrown wd_1835 ⟨Nat.le_of_ble_eq_true rfl, Nat.le_of_ble_eq_true rfl⟩ rfl (by decide) dL_law_1787 (As := []) (st := []) (ok_X12_thrown hC.2.2.2.2.2.2.2.1 hW h3) rfl rfl (Nat.le_of_ble_eq_true rfl) (by rw [hr]; exact hk) ?_
      refine g_iload hC dL_law_1790 (q := 1) rfl ?_
      refine g_ic_eq hC dL_law_1792 (tgt := 1797) (by decide) (fun _ => ?_) (fun ne => absurd rfl ne)
      refine g_iload hC dL_law_1797 (q := 1) rfl ?_
      refine g_if_ne hC dL_law_1799 (tgt := 1814) (by decide) (fun _ => ?_) (fun e => absurd e (by decide))
      refine g_goto hC dL_law_1814 (tgt := 2418) (by decide) ?_
      refine g_lv [2, 3, 4, 5, 6] rfl ?_
      exact kk _ _ _ hP
def st_towers (Fu : Nat) (I : mIT) (R : mRT) (L : mLT) (a1 : Int32) (a2 : Int32) (a3 : Int32) (P : mIT → mRT → mLT → Prop) : Prop := (∃ o, f_X11_towers Fu R I a1 a2 a3 = some (.inl o) ∧ ∃ o2, f_X12_towers Fu o.2 a1 a2 a3 = some o2 ∧ f_X12_thrown Fu o2.2 = some 0 ∧ o.1 = o2.1 ∧ P o2.2 R (mUL L 105 0 (o.1).toInt64)) ∨ (∃ q, f_X11_towers Fu R I a1 a2 a3 = some (.inr q) ∧ ∃ o2, f_X12_towers Fu q.2 a1 a2 a3 = some o2 ∧ (q.1 = 1 ∧ f_X12_thrown Fu o2.2 = some 1 ∨ q.1 = 2 ∧ f_X12_thrown Fu o2.2 = some 2) ∧ P o2.2 R L)
set_option maxRecDepth 20000 in
theorem lc_towers {X : mXT} {E : mEn} (hC : mC X E mLaw RL code) (hN : va_Nc "java/lang/IllegalArgumentException" "java/util/NoSuchElementException" X.2.2.2.1) (hr : X.2.2.2.2.2.2.2.2.2.2.1 = (1147, 45333)) {b Ln : Nat} {xs : Nat → Int32} (hX : va_X b Ln xs X.2.2.2.1 E.2.2.1 ∧ b < mB E) {i : Int32} {Fu : Nat} {I : mIT} {R : mRT} {L : mLT} {k z : Nat} (hW : mWd R) (hk : k + 1 ≤ 1147 ∧ z + 6 ≤ 45333) {a1 : Int32} (hi1 : vp_in (i + 1) Ln) (ha1 : a1 = xs (i + 1).toNatClampNeg) {a2 : Int32} (hi2 : vp_in (i + 2) Ln) (ha2 : a2 = xs (i + 2).toNatClampNeg) {a3 : Int32} (hi3 : vp_in (i + 3) Ln) (ha3 : a3 = xs (i + 3).toNatClampNeg) {P : mIT → mRT → mLT → Prop} (hP : st_towers Fu I R L a1 a2 a3 P) (kk : ∀ (I' : mIT) (R' : mRT) (L' : mLT), P I' R' L' → mG X E 2418 [(0, .ref b), (1, .ref (mB E + 0)), (2, .ref (mB E + 75)), (3, .ref (mB E + 105)), (4, .int i)] [] 106 1 I' R' L' (k + 1) (z + 6)) : mG X E 1817 [(0, .ref b), (1, .ref (mB E + 0)), (2, .ref (mB E + 75)), (3, .ref (mB E + 105)), (4, .int i)] [] 106 1 I R L k z := by
  rcases hP with ⟨o, h1, o2, h2, h3, h4, hP⟩ | ⟨q, h1, o2, h2, h3, hP⟩
  · refine g_aload_n hC dL_law_1817 (i := 1) rfl (q := 1) rfl ?_
    refine g_aload_n hC dL_law_1818 (i := 0) rfl (q := 0) rfl ?_
    refine g_iload hC dL_law_1819 (q := 4) rfl ?_
    refine g_iconst hC dL_law_1821 (v := (1 : Int32)) (by decide) ?_
    refine g_iadd hC dL_law_1822 ?_
    refine g_scr hC hX hi1 dL_law_1823 ?_
    rw [← ha1]
    refine g_aload_n hC dL_law_1824 (i := 0) rfl (q := 0) rfl ?_
    refine g_iload hC dL_law_1825 (q := 4) rfl ?_
    refine g_iconst hC dL_law_1827 (v := (2 : Int32)) (by decide) ?_
    refine g_iadd hC dL_law_1828 ?_
    refine g_scr hC hX hi2 dL_law_1829 ?_
    rw [← ha2]
    refine g_aload_n hC dL_law_1830 (i := 0) rfl (q := 0) rfl ?_
    refine g_iload hC dL_law_1831 (q := 4) rfl ?_
    refine g_iconst hC dL_law_1833 (v := (3 : Int32)) (by decide) ?_
    refine g_iadd hC dL_law_1834 ?_
    refine g_scr hC hX hi3 dL_law_1835 ?_
    rw [← ha3]
    refine g_aload_n hC dL_law_1836 (i := 3) rfl (q := 3) rfl ?_
    refine g_cW hC hN (M2 := mL_towers) (na := 5) wd_1502 wd_126 wd_1501 wd_1500 ⟨by decide, by decide, by decide⟩ ⟨Nat.le_of_ble_eq_true rfl, Nat.le_of_ble_eq_true rfl⟩ dL_law_1837 (As := [.ref (mB E + 0), .int a1, .int a2, .int a3, .ref (mB E + 105)]) (st := []) (ow_towers_r hC.2.2.2.2.2.2.2.1 hW h1) rfl rfl (Nat.le_of_ble_eq_true rfl) (by rw [hr]; exact hk) ?_
    refine g_istore hC dL_law_1840 rfl (by decide) (lv' := [(5, .int (0 : Int32)), (0, .ref b), (1, .ref (mB E + 0)), (2, .ref (mB E + 75)), (3, .ref (mB E + 105)), (4, .int i)]) rfl ?_
    refine g_aload_n hC dL_law_1842 (i := 2) rfl (q := 3) rfl ?_
    refine g_aload_n hC dL_law_1843 (i := 0) rfl (q := 1) rfl ?_
    refine g_iload hC dL_law_1844 (q := 5) rfl ?_
    refine g_iconst hC dL_law_1846 (v := (1 : Int32)) (by decide) ?_
    refine g_iadd hC dL_law_1847 ?_
    refine g_scr hC hX hi1 dL_law_1848 ?_
    rw [← ha1]
    refine g_aload_n hC dL_law_1849 (i := 0) rfl (q := 1) rfl ?_
    refine g_iload hC dL_law_1850 (q := 5) rfl ?_
    refine g_iconst hC dL_law_1852 (v := (2 : Int32)) (by decide) ?_
    refine g_iadd hC dL_law_1853 ?_
    refine g_scr hC hX hi2 dL_law_1854 ?_
    rw [← ha2]
    refine g_aload_n hC dL_law_1855 (i := 0) rfl (q := 1) rfl ?_
    refine g_iload hC dL_law_1856 (q := 5) rfl ?_
    refine g_iconst hC dL_law_1858 (v := (3 : Int32)) (by decide) ?_
    refine g_iadd hC dL_law_1859 ?_
    refine g_scr hC hX hi3 dL_law_1860 ?_
    rw [← ha3]
    refine g_cV1 hC cv_X12_towers wd_2257 ⟨Nat.le_of_ble_eq_true rfl, Nat.le_of_ble_eq_true rfl⟩ rfl (by decide) dL_law_1861 (As := [.int a1, .int a2, .int a3]) (st := []) (ok_X12_towers hC.2.2.2.2.2.2.2.1 hW h2) rfl rfl (Nat.le_of_ble_eq_true rfl) (by rw [hr]; exact hk) ?_
    refine g_istore hC dL_law_1864 rfl (by decide) (lv' := [(6, .int o2.1), (5, .int (0 : Int32)), (0, .ref b), (1, .ref (mB E + 0)), (2, .ref (mB E + 75)), (3, .ref (mB E + 105)), (4, .int i)]) rfl ?_
    refine g_aload_n hC dL_law_1866 (i := 2) rfl (q := 4) rfl ?_
    refine g_cV1 hC cv_X12_thrown wd_1835 ⟨Nat.le_of_ble_eq_true rfl, Nat.le_of_ble_eq_true rfl⟩ rfl (by decide) dL_law_1867 (As := []) (st := []) (ok_X12_thrown hC.2.2.2.2.2.2.2.1 hW h3) rfl rfl (Nat.le_of_ble_eq_true rfl) (by rw [hr]; exact hk) ?_
    refine g_iload hC dL_law_1870 (q := 1) rfl ?_
    refine g_ic_eq hC dL_law_1872 (tgt := 1877) (by decide) (fun _ => ?_) (fun ne => absurd rfl ne)
    refine g_iload hC dL_law_1877 (q := 1) rfl ?_
    refine g_if_ne hC dL_law_1879 (tgt := 1894) (by decide) (fun ne => absurd rfl ne) (fun _ => ?_)
    refine g_aload_n hC dL_law_1882 (i := 3) rfl (q := 5) rfl ?_
    refine g_iconst hC dL_law_1883 (v := (0 : Int32)) (by decide) ?_
    refine g_lald hC (len := 1) rfl (by decide) (inB_in (by decide)) dL_law_1884 ?_
    refine g_iload hC dL_law_1885 (q := 0) rfl ?_
    refine g_i2l hC dL_law_1887 ?_
    refine g_lcmp hC dL_law_1888 ?_
    have hcmp : (mUL L 105 0 (o.1).toInt64) 105 (0 : Int32).toNatClampNeg = (o2.1).toInt64 := (show mUL _ 105 0 _ 105 0 = _ from by simp only [mUL, and_self, if_true]; rw [h4])
    refine g_if_eq hC dL_law_1889 (tgt := 1894) (by decide) (fun _ => ?_) (fun ne => absurd (by rw [hcmp]; exact lg_same _) ne)
    refine g_goto hC dL_law_1894 (tgt := 2418) (by decide) ?_
    refine g_lv [2, 3, 4, 5, 6] rfl ?_
    exact kk _ _ _ hP
  · obtain ⟨q0, I1⟩ := q
    rcases h3 with ⟨hq, h3⟩ | ⟨hq, h3⟩
    · replace hq : q0 = 1 := hq
      subst hq
      refine g_aload_n hC dL_law_1817 (i := 1) rfl (q := 1) rfl ?_
      refine g_aload_n hC dL_law_1818 (i := 0) rfl (q := 0) rfl ?_
      refine g_iload hC dL_law_1819 (q := 4) rfl ?_
      refine g_iconst hC dL_law_1821 (v := (1 : Int32)) (by decide) ?_
      refine g_iadd hC dL_law_1822 ?_
      refine g_scr hC hX hi1 dL_law_1823 ?_
      rw [← ha1]
      refine g_aload_n hC dL_law_1824 (i := 0) rfl (q := 0) rfl ?_
      refine g_iload hC dL_law_1825 (q := 4) rfl ?_
      refine g_iconst hC dL_law_1827 (v := (2 : Int32)) (by decide) ?_
      refine g_iadd hC dL_law_1828 ?_
      refine g_scr hC hX hi2 dL_law_1829 ?_
      rw [← ha2]
      refine g_aload_n hC dL_law_1830 (i := 0) rfl (q := 0) rfl ?_
      refine g_iload hC dL_law_1831 (q := 4) rfl ?_
      refine g_iconst hC dL_law_1833 (v := (3 : Int32)) (by decide) ?_
      refine g_iadd hC dL_law_1834 ?_
      refine g_scr hC hX hi3 dL_law_1835 ?_
      rw [← ha3]
      refine g_aload_n hC dL_law_1836 (i := 3) rfl (q := 3) rfl ?_
      refine g_cW hC hN (M2 := mL_towers) (na := 5) wd_1502 wd_126 wd_1501 wd_1500 ⟨by decide, by decide, by decide⟩ ⟨Nat.le_of_ble_eq_true rfl, Nat.le_of_ble_eq_true rfl⟩ dL_law_1837 (As := [.ref (mB E + 0), .int a1, .int a2, .int a3, .ref (mB E + 105)]) (st := []) (ow_towers_t1 hC.2.2.2.2.2.2.2.1 hW h1) rfl rfl (Nat.le_of_ble_eq_true rfl) (by rw [hr]; exact hk) ?_
      refine g_istore hC dL_law_1840 rfl (by decide) (lv' := [(5, .int (1 : Int32)), (0, .ref b), (1, .ref (mB E + 0)), (2, .ref (mB E + 75)), (3, .ref (mB E + 105)), (4, .int i)]) rfl ?_
      refine g_aload_n hC dL_law_1842 (i := 2) rfl (q := 3) rfl ?_
      refine g_aload_n hC dL_law_1843 (i := 0) rfl (q := 1) rfl ?_
      refine g_iload hC dL_law_1844 (q := 5) rfl ?_
      refine g_iconst hC dL_law_1846 (v := (1 : Int32)) (by decide) ?_
      refine g_iadd hC dL_law_1847 ?_
      refine g_scr hC hX hi1 dL_law_1848 ?_
      rw [← ha1]
      refine g_aload_n hC dL_law_1849 (i := 0) rfl (q := 1) rfl ?_
      refine g_iload hC dL_law_1850 (q := 5) rfl ?_
      refine g_iconst hC dL_law_1852 (v := (2 : Int32)) (by decide) ?_
      refine g_iadd hC dL_law_1853 ?_
      refine g_scr hC hX hi2 dL_law_1854 ?_
      rw [← ha2]
      refine g_aload_n hC dL_law_1855 (i := 0) rfl (q := 1) rfl ?_
      refine g_iload hC dL_law_1856 (q := 5) rfl ?_
      refine g_iconst hC dL_law_1858 (v := (3 : Int32)) (by decide) ?_
      refine g_iadd hC dL_law_1859 ?_
      refine g_scr hC hX hi3 dL_law_1860 ?_
      rw [← ha3]
      refine g_cV1 hC cv_X12_towers wd_2257 ⟨Nat.le_of_ble_eq_true rfl, Nat.le_of_ble_eq_true rfl⟩ rfl (by decide) dL_law_1861 (As := [.int a1, .int a2, .int a3]) (st := []) (ok_X12_towers hC.2.2.2.2.2.2.2.1 hW h2) rfl rfl (Nat.le_of_ble_eq_true rfl) (by rw [hr]; exact hk) ?_
      refine g_istore hC dL_law_1864 rfl (by decide) (lv' := [(6, .int o2.1), (5, .int (1 : Int32)), (0, .ref b), (1, .ref (mB E + 0)), (2, .ref (mB E + 75)), (3, .ref (mB E + 105)), (4, .int i)]) rfl ?_
      refine g_aload_n hC dL_law_1866 (i := 2) rfl (q := 4) rfl ?_
      refine g_cV1 hC cv_X12_thrown wd_1835 ⟨Nat.le_of_ble_eq_true rfl, Nat.le_of_ble_eq_true rfl⟩ rfl (by decide) dL_law_1867 (As := []) (st := []) (ok_X12_thrown hC.2.2.2.2.2.2.2.1 hW h3) rfl rfl (Nat.le_of_ble_eq_true rfl) (by rw [hr]; exact hk) ?_
      refine g_iload hC dL_law_1870 (q := 1) rfl ?_
      refine g_ic_eq hC dL_law_1872 (tgt := 1877) (by decide) (fun _ => ?_) (fun ne => absurd rfl ne)
      refine g_iload hC dL_law_1877 (q := 1) rfl ?_
      refine g_if_ne hC dL_law_1879 (tgt := 1894) (by decide) (fun _ => ?_) (fun e => absurd e (by decide))
      refine g_goto hC dL_law_1894 (tgt := 2418) (by decide) ?_
      refine g_lv [2, 3, 4, 5, 6] rfl ?_
      exact kk _ _ _ hP
    · replace hq : q0 = 2 := hq
      subst hq
      refine g_aload_n hC dL_law_1817 (i := 1) rfl (q := 1) rfl ?_
      refine g_aload_n hC dL_law_1818 (i := 0) rfl (q := 0) rfl ?_
      refine g_iload hC dL_law_1819 (q := 4) rfl ?_
      refine g_iconst hC dL_law_1821 (v := (1 : Int32)) (by decide) ?_
      refine g_iadd hC dL_law_1822 ?_
      refine g_scr hC hX hi1 dL_law_1823 ?_
      rw [← ha1]
      refine g_aload_n hC dL_law_1824 (i := 0) rfl (q := 0) rfl ?_
      refine g_iload hC dL_law_1825 (q := 4) rfl ?_
      refine g_iconst hC dL_law_1827 (v := (2 : Int32)) (by decide) ?_
      refine g_iadd hC dL_law_1828 ?_
      refine g_scr hC hX hi2 dL_law_1829 ?_
      rw [← ha2]
      refine g_aload_n hC dL_law_1830 (i := 0) rfl (q := 0) rfl ?_
      refine g_iload hC dL_law_1831 (q := 4) rfl ?_
      refine g_iconst hC dL_law_1833 (v := (3 : Int32)) (by decide) ?_
      refine g_iadd hC dL_law_1834 ?_
      refine g_scr hC hX hi3 dL_law_1835 ?_
      rw [← ha3]
      refine g_aload_n hC dL_law_1836 (i := 3) rfl (q := 3) rfl ?_
      refine g_cW hC hN (M2 := mL_towers) (na := 5) wd_1502 wd_126 wd_1501 wd_1500 ⟨by decide, by decide, by decide⟩ ⟨Nat.le_of_ble_eq_true rfl, Nat.le_of_ble_eq_true rfl⟩ dL_law_1837 (As := [.ref (mB E + 0), .int a1, .int a2, .int a3, .ref (mB E + 105)]) (st := []) (ow_towers_t2 hC.2.2.2.2.2.2.2.1 hW h1) rfl rfl (Nat.le_of_ble_eq_true rfl) (by rw [hr]; exact hk) ?_
      refine g_istore hC dL_law_1840 rfl (by decide) (lv' := [(5, .int (2 : Int32)), (0, .ref b), (1, .ref (mB E + 0)), (2, .ref (mB E + 75)), (3, .ref (mB E + 105)), (4, .int i)]) rfl ?_
      refine g_aload_n hC dL_law_1842 (i := 2) rfl (q := 3) rfl ?_
      refine g_aload_n hC dL_law_1843 (i := 0) rfl (q := 1) rfl ?_
      refine g_iload hC dL_law_1844 (q := 5) rfl ?_
      refine g_iconst hC dL_law_1846 (v := (1 : Int32)) (by decide) ?_
      refine g_iadd hC dL_law_1847 ?_
      refine g_scr hC hX hi1 dL_law_1848 ?_
      rw [← ha1]
      refine g_aload_n hC dL_law_1849 (i := 0) rfl (q := 1) rfl ?_
      refine g_iload hC dL_law_1850 (q := 5) rfl ?_
      refine g_iconst hC dL_law_1852 (v := (2 : Int32)) (by decide) ?_
      refine g_iadd hC dL_law_1853 ?_
      refine g_scr hC hX hi2 dL_law_1854 ?_
      rw [← ha2]
      refine g_aload_n hC dL_law_1855 (i := 0) rfl (q := 1) rfl ?_
      refine g_iload hC dL_law_1856 (q := 5) rfl ?_
      refine g_iconst hC dL_law_1858 (v := (3 : Int32)) (by decide) ?_
      refine g_iadd hC dL_law_1859 ?_
      refine g_scr hC hX hi3 dL_law_1860 ?_
      rw [← ha3]
      refine g_cV1 hC cv_X12_towers wd_2257 ⟨Nat.le_of_ble_eq_true rfl, Nat.le_of_ble_eq_true rfl⟩ rfl (by decide) dL_law_1861 (As := [.int a1, .int a2, .int a3]) (st := []) (ok_X12_towers hC.2.2.2.2.2.2.2.1 hW h2) rfl rfl (Nat.le_of_ble_eq_true rfl) (by rw [hr]; exact hk) ?_
      refine g_istore hC dL_law_1864 rfl (by decide) (lv' := [(6, .int o2.1), (5, .int (2 : Int32)), (0, .ref b), (1, .ref (mB E + 0)), (2, .ref (mB E + 75)), (3, .ref (mB E + 105)), (4, .int i)]) rfl ?_
      refine g_aload_n hC dL_law_1866 (i := 2) rfl (q := 4) rfl ?_
      refine g_cV1 hC cv_X12_thrown wd_1835 ⟨Nat.le_of_ble_eq_true rfl, Nat.le_of_ble_eq_true rfl⟩ rfl (by decide) dL_law_1867 (As := []) (st := []) (ok_X12_thrown hC.2.2.2.2.2.2.2.1 hW h3) rfl rfl (Nat.le_of_ble_eq_true rfl) (by rw [hr]; exact hk) ?_
      refine g_iload hC dL_law_1870 (q := 1) rfl ?_
      refine g_ic_eq hC dL_law_1872 (tgt := 1877) (by decide) (fun _ => ?_) (fun ne => absurd rfl ne)
      refine g_iload hC dL_law_1877 (q := 1) rfl ?_
      refine g_if_ne hC dL_law_1879 (tgt := 1894) (by decide) (fun _ => ?_) (fun e => absurd e (by decide))
      refine g_goto hC dL_law_1894 (tgt := 2418) (by decide) ?_
      refine g_lv [2, 3, 4, 5, 6] rfl ?_
      exact kk _ _ _ hP
def st_needed (Fu : Nat) (I : mIT) (R : mRT) (L : mLT) (a1 : Int32) (a2 : Int32) (P : mIT → mRT → mLT → Prop) : Prop := (∃ o, f_X11_needed Fu R I a1 a2 = some (.inl o) ∧ ∃ o2, f_X12_needed Fu o.2 a1 a2 = some o2 ∧ f_X12_thrown Fu o2.2 = some 0 ∧ o.1 = o2.1 ∧ P o2.2 R (mUL L 105 0 (o.1).toInt64)) ∨ (∃ q, f_X11_needed Fu R I a1 a2 = some (.inr q) ∧ ∃ o2, f_X12_needed Fu q.2 a1 a2 = some o2 ∧ (q.1 = 1 ∧ f_X12_thrown Fu o2.2 = some 1) ∧ P o2.2 R L)
set_option maxRecDepth 20000 in
theorem lc_needed {X : mXT} {E : mEn} (hC : mC X E mLaw RL code) (hN : va_Nc "java/lang/IllegalArgumentException" "java/util/NoSuchElementException" X.2.2.2.1) (hr : X.2.2.2.2.2.2.2.2.2.2.1 = (1147, 45333)) {b Ln : Nat} {xs : Nat → Int32} (hX : va_X b Ln xs X.2.2.2.1 E.2.2.1 ∧ b < mB E) {i : Int32} {Fu : Nat} {I : mIT} {R : mRT} {L : mLT} {k z : Nat} (hW : mWd R) (hk : k + 1 ≤ 1147 ∧ z + 6 ≤ 45333) {a1 : Int32} (hi1 : vp_in (i + 1) Ln) (ha1 : a1 = xs (i + 1).toNatClampNeg) {a2 : Int32} (hi2 : vp_in (i + 2) Ln) (ha2 : a2 = xs (i + 2).toNatClampNeg) {P : mIT → mRT → mLT → Prop} (hP : st_needed Fu I R L a1 a2 P) (kk : ∀ (I' : mIT) (R' : mRT) (L' : mLT), P I' R' L' → mG X E 2418 [(0, .ref b), (1, .ref (mB E + 0)), (2, .ref (mB E + 75)), (3, .ref (mB E + 105)), (4, .int i)] [] 106 1 I' R' L' (k + 1) (z + 6)) : mG X E 1897 [(0, .ref b), (1, .ref (mB E + 0)), (2, .ref (mB E + 75)), (3, .ref (mB E + 105)), (4, .int i)] [] 106 1 I R L k z := by
  rcases hP with ⟨o, h1, o2, h2, h3, h4, hP⟩ | ⟨q, h1, o2, h2, h3, hP⟩
  · refine g_aload_n hC dL_law_1897 (i := 1) rfl (q := 1) rfl ?_
    refine g_aload_n hC dL_law_1898 (i := 0) rfl (q := 0) rfl ?_
    refine g_iload hC dL_law_1899 (q := 4) rfl ?_
    refine g_iconst hC dL_law_1901 (v := (1 : Int32)) (by decide) ?_
    refine g_iadd hC dL_law_1902 ?_
    refine g_scr hC hX hi1 dL_law_1903 ?_
    rw [← ha1]
    refine g_aload_n hC dL_law_1904 (i := 0) rfl (q := 0) rfl ?_
    refine g_iload hC dL_law_1905 (q := 4) rfl ?_
    refine g_iconst hC dL_law_1907 (v := (2 : Int32)) (by decide) ?_
    refine g_iadd hC dL_law_1908 ?_
    refine g_scr hC hX hi2 dL_law_1909 ?_
    rw [← ha2]
    refine g_aload_n hC dL_law_1910 (i := 3) rfl (q := 3) rfl ?_
    refine g_cW hC hN (M2 := mL_needed) (na := 4) wd_1542 wd_126 wd_1541 wd_1540 ⟨by decide, by decide, by decide⟩ ⟨Nat.le_of_ble_eq_true rfl, Nat.le_of_ble_eq_true rfl⟩ dL_law_1911 (As := [.ref (mB E + 0), .int a1, .int a2, .ref (mB E + 105)]) (st := []) (ow_needed_r hC.2.2.2.2.2.2.2.1 hW h1) rfl rfl (Nat.le_of_ble_eq_true rfl) (by rw [hr]; exact hk) ?_
    refine g_istore hC dL_law_1914 rfl (by decide) (lv' := [(5, .int (0 : Int32)), (0, .ref b), (1, .ref (mB E + 0)), (2, .ref (mB E + 75)), (3, .ref (mB E + 105)), (4, .int i)]) rfl ?_
    refine g_aload_n hC dL_law_1916 (i := 2) rfl (q := 3) rfl ?_
    refine g_aload_n hC dL_law_1917 (i := 0) rfl (q := 1) rfl ?_
    refine g_iload hC dL_law_1918 (q := 5) rfl ?_
    refine g_iconst hC dL_law_1920 (v := (1 : Int32)) (by decide) ?_
    refine g_iadd hC dL_law_1921 ?_
    refine g_scr hC hX hi1 dL_law_1922 ?_
    rw [← ha1]
    refine g_aload_n hC dL_law_1923 (i := 0) rfl (q := 1) rfl ?_
    refine g_iload hC dL_law_1924 (q := 5) rfl ?_
    refine g_iconst hC dL_law_1926 (v := (2 : Int32)) (by decide) ?_
    refine g_iadd hC dL_law_1927 ?_
    refine g_scr hC hX hi2 dL_law_1928 ?_
    rw [← ha2]
    refine g_cV1 hC cv_X12_needed wd_2270 ⟨Nat.le_of_ble_eq_true rfl, Nat.le_of_ble_eq_true rfl⟩ rfl (by decide) dL_law_1929 (As := [.int a1, .int a2]) (st := []) (ok_X12_needed hC.2.2.2.2.2.2.2.1 hW h2) rfl rfl (Nat.le_of_ble_eq_true rfl) (by rw [hr]; exact hk) ?_
    refine g_istore hC dL_law_1932 rfl (by decide) (lv' := [(6, .int o2.1), (5, .int (0 : Int32)), (0, .ref b), (1, .ref (mB E + 0)), (2, .ref (mB E + 75)), (3, .ref (mB E + 105)), (4, .int i)]) rfl ?_
    refine g_aload_n hC dL_law_1934 (i := 2) rfl (q := 4) rfl ?_
    refine g_cV1 hC cv_X12_thrown wd_1835 ⟨Nat.le_of_ble_eq_true rfl, Nat.le_of_ble_eq_true rfl⟩ rfl (by decide) dL_law_1935 (As := []) (st := []) (ok_X12_thrown hC.2.2.2.2.2.2.2.1 hW h3) rfl rfl (Nat.le_of_ble_eq_true rfl) (by rw [hr]; exact hk) ?_
    refine g_iload hC dL_law_1938 (q := 1) rfl ?_
    refine g_ic_eq hC dL_law_1940 (tgt := 1945) (by decide) (fun _ => ?_) (fun ne => absurd rfl ne)
    refine g_iload hC dL_law_1945 (q := 1) rfl ?_
    refine g_if_ne hC dL_law_1947 (tgt := 1962) (by decide) (fun ne => absurd rfl ne) (fun _ => ?_)
    refine g_aload_n hC dL_law_1950 (i := 3) rfl (q := 5) rfl ?_
    refine g_iconst hC dL_law_1951 (v := (0 : Int32)) (by decide) ?_
    refine g_lald hC (len := 1) rfl (by decide) (inB_in (by decide)) dL_law_1952 ?_
    refine g_iload hC dL_law_1953 (q := 0) rfl ?_
    refine g_i2l hC dL_law_1955 ?_
    refine g_lcmp hC dL_law_1956 ?_
    have hcmp : (mUL L 105 0 (o.1).toInt64) 105 (0 : Int32).toNatClampNeg = (o2.1).toInt64 := (show mUL _ 105 0 _ 105 0 = _ from by simp only [mUL, and_self, if_true]; rw [h4])
    refine g_if_eq hC dL_law_1957 (tgt := 1962) (by decide) (fun _ => ?_) (fun ne => absurd (by rw [hcmp]; exact lg_same _) ne)
    refine g_goto hC dL_law_1962 (tgt := 2418) (by decide) ?_
    refine g_lv [2, 3, 4, 5, 6] rfl ?_
    exact kk _ _ _ hP
  · obtain ⟨q0, I1⟩ := q
    obtain ⟨hq, h3⟩ := h3
    replace hq : q0 = 1 := hq
    subst hq
    refine g_aload_n hC dL_law_1897 (i := 1) rfl (q := 1) rfl ?_
    refine g_aload_n hC dL_law_1898 (i := 0) rfl (q := 0) rfl ?_
    refine g_iload hC dL_law_1899 (q := 4) rfl ?_
    refine g_iconst hC dL_law_1901 (v := (1 : Int32)) (by decide) ?_
    refine g_iadd hC dL_law_1902 ?_
    refine g_scr hC hX hi1 dL_law_1903 ?_
    rw [← ha1]
    refine g_aload_n hC dL_law_1904 (i := 0) rfl (q := 0) rfl ?_
    refine g_iload hC dL_law_1905 (q := 4) rfl ?_
    refine g_iconst hC dL_law_1907 (v := (2 : Int32)) (by decide) ?_
    refine g_iadd hC dL_law_1908 ?_
    refine g_scr hC hX hi2 dL_law_1909 ?_
    rw [← ha2]
    refine g_aload_n hC dL_law_1910 (i := 3) rfl (q := 3) rfl ?_
    refine g_cW hC hN (M2 := mL_needed) (na := 4) wd_1542 wd_126 wd_1541 wd_1540 ⟨by decide, by decide, by decide⟩ ⟨Nat.le_of_ble_eq_true rfl, Nat.le_of_ble_eq_true rfl⟩ dL_law_1911 (As := [.ref (mB E + 0), .int a1, .int a2, .ref (mB E + 105)]) (st := []) (ow_needed_t1 hC.2.2.2.2.2.2.2.1 hW h1) rfl rfl (Nat.le_of_ble_eq_true rfl) (by rw [hr]; exact hk) ?_
    refine g_istore hC dL_law_1914 rfl (by decide) (lv' := [(5, .int (1 : Int32)), (0, .ref b), (1, .ref (mB E + 0)), (2, .ref (mB E + 75)), (3, .ref (mB E + 105)), (4, .int i)]) rfl ?_
    refine g_aload_n hC dL_law_1916 (i := 2) rfl (q := 3) rfl ?_
    refine g_aload_n hC dL_law_1917 (i := 0) rfl (q := 1) rfl ?_
    refine g_iload hC dL_law_1918 (q := 5) rfl ?_
    refine g_iconst hC dL_law_1920 (v := (1 : Int32)) (by decide) ?_
    refine g_iadd hC dL_law_1921 ?_
    refine g_scr hC hX hi1 dL_law_1922 ?_
    rw [← ha1]
    refine g_aload_n hC dL_law_1923 (i := 0) rfl (q := 1) rfl ?_
    refine g_iload hC dL_law_1924 (q := 5) rfl ?_
    refine g_iconst hC dL_law_1926 (v := (2 : Int32)) (by decide) ?_
    refine g_iadd hC dL_law_1927 ?_
    refine g_scr hC hX hi2 dL_law_1928 ?_
    rw [← ha2]
    refine g_cV1 hC cv_X12_needed wd_2270 ⟨Nat.le_of_ble_eq_true rfl, Nat.le_of_ble_eq_true rfl⟩ rfl (by decide) dL_law_1929 (As := [.int a1, .int a2]) (st := []) (ok_X12_needed hC.2.2.2.2.2.2.2.1 hW h2) rfl rfl (Nat.le_of_ble_eq_true rfl) (by rw [hr]; exact hk) ?_
    refine g_istore hC dL_law_1932 rfl (by decide) (lv' := [(6, .int o2.1), (5, .int (1 : Int32)), (0, .ref b), (1, .ref (mB E + 0)), (2, .ref (mB E + 75)), (3, .ref (mB E + 105)), (4, .int i)]) rfl ?_
    refine g_aload_n hC dL_law_1934 (i := 2) rfl (q := 4) rfl ?_
    refine g_cV1 hC cv_X12_thrown wd_1835 ⟨Nat.le_of_ble_eq_true rfl, Nat.le_of_ble_eq_true rfl⟩ rfl (by decide) dL_law_1935 (As := []) (st := []) (ok_X12_thrown hC.2.2.2.2.2.2.2.1 hW h3) rfl rfl (Nat.le_of_ble_eq_true rfl) (by rw [hr]; exact hk) ?_
    refine g_iload hC dL_law_1938 (q := 1) rfl ?_
    refine g_ic_eq hC dL_law_1940 (tgt := 1945) (by decide) (fun _ => ?_) (fun ne => absurd rfl ne)
    refine g_iload hC dL_law_1945 (q := 1) rfl ?_
    refine g_if_ne hC dL_law_1947 (tgt := 1962) (by decide) (fun _ => ?_) (fun e => absurd e (by decide))
    refine g_goto hC dL_law_1962 (tgt := 2418) (by decide) ?_
    refine g_lv [2, 3, 4, 5, 6] rfl ?_
    exact kk _ _ _ hP
def st_grown (Fu : Nat) (I : mIT) (R : mRT) (L : mLT) (a1 : Int32) (a2 : Int32) (P : mIT → mRT → mLT → Prop) : Prop := (∃ o, f_X11_grown Fu R I a1 a2 = some (.inl o) ∧ ∃ o2, f_X12_grown Fu o.2 a1 a2 = some o2 ∧ f_X12_thrown Fu o2.2 = some 0 ∧ o.1 = o2.1 ∧ P o2.2 R (mUL L 105 0 (o.1).toInt64)) ∨ (∃ q, f_X11_grown Fu R I a1 a2 = some (.inr q) ∧ ∃ o2, f_X12_grown Fu q.2 a1 a2 = some o2 ∧ (q.1 = 1 ∧ f_X12_thrown Fu o2.2 = some 1) ∧ P o2.2 R L)
set_option maxRecDepth 20000 in
theorem lc_grown {X : mXT} {E : mEn} (hC : mC X E mLaw RL code) (hN : va_Nc "java/lang/IllegalArgumentException" "java/util/NoSuchElementException" X.2.2.2.1) (hr : X.2.2.2.2.2.2.2.2.2.2.1 = (1147, 45333)) {b Ln : Nat} {xs : Nat → Int32} (hX : va_X b Ln xs X.2.2.2.1 E.2.2.1 ∧ b < mB E) {i : Int32} {Fu : Nat} {I : mIT} {R : mRT} {L : mLT} {k z : Nat} (hW : mWd R) (hk : k + 1 ≤ 1147 ∧ z + 6 ≤ 45333) {a1 : Int32} (hi1 : vp_in (i + 1) Ln) (ha1 : a1 = xs (i + 1).toNatClampNeg) {a2 : Int32} (hi2 : vp_in (i + 2) Ln) (ha2 : a2 = xs (i + 2).toNatClampNeg) {P : mIT → mRT → mLT → Prop} (hP : st_grown Fu I R L a1 a2 P) (kk : ∀ (I' : mIT) (R' : mRT) (L' : mLT), P I' R' L' → mG X E 2418 [(0, .ref b), (1, .ref (mB E + 0)), (2, .ref (mB E + 75)), (3, .ref (mB E + 105)), (4, .int i)] [] 106 1 I' R' L' (k + 1) (z + 6)) : mG X E 1965 [(0, .ref b), (1, .ref (mB E + 0)), (2, .ref (mB E + 75)), (3, .ref (mB E + 105)), (4, .int i)] [] 106 1 I R L k z := by
  rcases hP with ⟨o, h1, o2, h2, h3, h4, hP⟩ | ⟨q, h1, o2, h2, h3, hP⟩
  · refine g_aload_n hC dL_law_1965 (i := 1) rfl (q := 1) rfl ?_
    refine g_aload_n hC dL_law_1966 (i := 0) rfl (q := 0) rfl ?_
    refine g_iload hC dL_law_1967 (q := 4) rfl ?_
    refine g_iconst hC dL_law_1969 (v := (1 : Int32)) (by decide) ?_
    refine g_iadd hC dL_law_1970 ?_
    refine g_scr hC hX hi1 dL_law_1971 ?_
    rw [← ha1]
    refine g_aload_n hC dL_law_1972 (i := 0) rfl (q := 0) rfl ?_
    refine g_iload hC dL_law_1973 (q := 4) rfl ?_
    refine g_iconst hC dL_law_1975 (v := (2 : Int32)) (by decide) ?_
    refine g_iadd hC dL_law_1976 ?_
    refine g_scr hC hX hi2 dL_law_1977 ?_
    rw [← ha2]
    refine g_aload_n hC dL_law_1978 (i := 3) rfl (q := 3) rfl ?_
    refine g_cW hC hN (M2 := mL_grown) (na := 4) wd_1560 wd_126 wd_1559 wd_1558 ⟨by decide, by decide, by decide⟩ ⟨Nat.le_of_ble_eq_true rfl, Nat.le_of_ble_eq_true rfl⟩ dL_law_1979 (As := [.ref (mB E + 0), .int a1, .int a2, .ref (mB E + 105)]) (st := []) (ow_grown_r hC.2.2.2.2.2.2.2.1 hW h1) rfl rfl (Nat.le_of_ble_eq_true rfl) (by rw [hr]; exact hk) ?_
    refine g_istore hC dL_law_1982 rfl (by decide) (lv' := [(5, .int (0 : Int32)), (0, .ref b), (1, .ref (mB E + 0)), (2, .ref (mB E + 75)), (3, .ref (mB E + 105)), (4, .int i)]) rfl ?_
    refine g_aload_n hC dL_law_1984 (i := 2) rfl (q := 3) rfl ?_
    refine g_aload_n hC dL_law_1985 (i := 0) rfl (q := 1) rfl ?_
    refine g_iload hC dL_law_1986 (q := 5) rfl ?_
    refine g_iconst hC dL_law_1988 (v := (1 : Int32)) (by decide) ?_
    refine g_iadd hC dL_law_1989 ?_
    refine g_scr hC hX hi1 dL_law_1990 ?_
    rw [← ha1]
    refine g_aload_n hC dL_law_1991 (i := 0) rfl (q := 1) rfl ?_
    refine g_iload hC dL_law_1992 (q := 5) rfl ?_
    refine g_iconst hC dL_law_1994 (v := (2 : Int32)) (by decide) ?_
    refine g_iadd hC dL_law_1995 ?_
    refine g_scr hC hX hi2 dL_law_1996 ?_
    rw [← ha2]
    refine g_cV1 hC cv_X12_grown wd_2278 ⟨Nat.le_of_ble_eq_true rfl, Nat.le_of_ble_eq_true rfl⟩ rfl (by decide) dL_law_1997 (As := [.int a1, .int a2]) (st := []) (ok_X12_grown hC.2.2.2.2.2.2.2.1 hW h2) rfl rfl (Nat.le_of_ble_eq_true rfl) (by rw [hr]; exact hk) ?_
    refine g_istore hC dL_law_2000 rfl (by decide) (lv' := [(6, .int o2.1), (5, .int (0 : Int32)), (0, .ref b), (1, .ref (mB E + 0)), (2, .ref (mB E + 75)), (3, .ref (mB E + 105)), (4, .int i)]) rfl ?_
    refine g_aload_n hC dL_law_2002 (i := 2) rfl (q := 4) rfl ?_
    refine g_cV1 hC cv_X12_thrown wd_1835 ⟨Nat.le_of_ble_eq_true rfl, Nat.le_of_ble_eq_true rfl⟩ rfl (by decide) dL_law_2003 (As := []) (st := []) (ok_X12_thrown hC.2.2.2.2.2.2.2.1 hW h3) rfl rfl (Nat.le_of_ble_eq_true rfl) (by rw [hr]; exact hk) ?_
    refine g_iload hC dL_law_2006 (q := 1) rfl ?_
    refine g_ic_eq hC dL_law_2008 (tgt := 2013) (by decide) (fun _ => ?_) (fun ne => absurd rfl ne)
    refine g_iload hC dL_law_2013 (q := 1) rfl ?_
    refine g_if_ne hC dL_law_2015 (tgt := 2030) (by decide) (fun ne => absurd rfl ne) (fun _ => ?_)
    refine g_aload_n hC dL_law_2018 (i := 3) rfl (q := 5) rfl ?_
    refine g_iconst hC dL_law_2019 (v := (0 : Int32)) (by decide) ?_
    refine g_lald hC (len := 1) rfl (by decide) (inB_in (by decide)) dL_law_2020 ?_
    refine g_iload hC dL_law_2021 (q := 0) rfl ?_
    refine g_i2l hC dL_law_2023 ?_
    refine g_lcmp hC dL_law_2024 ?_
    have hcmp : (mUL L 105 0 (o.1).toInt64) 105 (0 : Int32).toNatClampNeg = (o2.1).toInt64 := (show mUL _ 105 0 _ 105 0 = _ from by simp only [mUL, and_self, if_true]; rw [h4])
    refine g_if_eq hC dL_law_2025 (tgt := 2030) (by decide) (fun _ => ?_) (fun ne => absurd (by rw [hcmp]; exact lg_same _) ne)
    refine g_goto hC dL_law_2030 (tgt := 2418) (by decide) ?_
    refine g_lv [2, 3, 4, 5, 6] rfl ?_
    exact kk _ _ _ hP
  · obtain ⟨q0, I1⟩ := q
    obtain ⟨hq, h3⟩ := h3
    replace hq : q0 = 1 := hq
    subst hq
    refine g_aload_n hC dL_law_1965 (i := 1) rfl (q := 1) rfl ?_
    refine g_aload_n hC dL_law_1966 (i := 0) rfl (q := 0) rfl ?_
    refine g_iload hC dL_law_1967 (q := 4) rfl ?_
    refine g_iconst hC dL_law_1969 (v := (1 : Int32)) (by decide) ?_
    refine g_iadd hC dL_law_1970 ?_
    refine g_scr hC hX hi1 dL_law_1971 ?_
    rw [← ha1]
    refine g_aload_n hC dL_law_1972 (i := 0) rfl (q := 0) rfl ?_
    refine g_iload hC dL_law_1973 (q := 4) rfl ?_
    refine g_iconst hC dL_law_1975 (v := (2 : Int32)) (by decide) ?_
    refine g_iadd hC dL_law_1976 ?_
    refine g_scr hC hX hi2 dL_law_1977 ?_
    rw [← ha2]
    refine g_aload_n hC dL_law_1978 (i := 3) rfl (q := 3) rfl ?_
    refine g_cW hC hN (M2 := mL_grown) (na := 4) wd_1560 wd_126 wd_1559 wd_1558 ⟨by decide, by decide, by decide⟩ ⟨Nat.le_of_ble_eq_true rfl, Nat.le_of_ble_eq_true rfl⟩ dL_law_1979 (As := [.ref (mB E + 0), .int a1, .int a2, .ref (mB E + 105)]) (st := []) (ow_grown_t1 hC.2.2.2.2.2.2.2.1 hW h1) rfl rfl (Nat.le_of_ble_eq_true rfl) (by rw [hr]; exact hk) ?_
    refine g_istore hC dL_law_1982 rfl (by decide) (lv' := [(5, .int (1 : Int32)), (0, .ref b), (1, .ref (mB E + 0)), (2, .ref (mB E + 75)), (3, .ref (mB E + 105)), (4, .int i)]) rfl ?_
    refine g_aload_n hC dL_law_1984 (i := 2) rfl (q := 3) rfl ?_
    refine g_aload_n hC dL_law_1985 (i := 0) rfl (q := 1) rfl ?_
    refine g_iload hC dL_law_1986 (q := 5) rfl ?_
    refine g_iconst hC dL_law_1988 (v := (1 : Int32)) (by decide) ?_
    refine g_iadd hC dL_law_1989 ?_
    refine g_scr hC hX hi1 dL_law_1990 ?_
    rw [← ha1]
    refine g_aload_n hC dL_law_1991 (i := 0) rfl (q := 1) rfl ?_
    refine g_iload hC dL_law_1992 (q := 5) rfl ?_
    refine g_iconst hC dL_law_1994 (v := (2 : Int32)) (by decide) ?_
    refine g_iadd hC dL_law_1995 ?_
    refine g_scr hC hX hi2 dL_law_1996 ?_
    rw [← ha2]
    refine g_cV1 hC cv_X12_grown wd_2278 ⟨Nat.le_of_ble_eq_true rfl, Nat.le_of_ble_eq_true rfl⟩ rfl (by decide) dL_law_1997 (As := [.int a1, .int a2]) (st := []) (ok_X12_grown hC.2.2.2.2.2.2.2.1 hW h2) rfl rfl (Nat.le_of_ble_eq_true rfl) (by rw [hr]; exact hk) ?_
    refine g_istore hC dL_law_2000 rfl (by decide) (lv' := [(6, .int o2.1), (5, .int (1 : Int32)), (0, .ref b), (1, .ref (mB E + 0)), (2, .ref (mB E + 75)), (3, .ref (mB E + 105)), (4, .int i)]) rfl ?_
    refine g_aload_n hC dL_law_2002 (i := 2) rfl (q := 4) rfl ?_
    refine g_cV1 hC cv_X12_thrown wd_1835 ⟨Nat.le_of_ble_eq_true rfl, Nat.le_of_ble_eq_true rfl⟩ rfl (by decide) dL_law_2003 (As := []) (st := []) (ok_X12_thrown hC.2.2.2.2.2.2.2.1 hW h3) rfl rfl (Nat.le_of_ble_eq_true rfl) (by rw [hr]; exact hk) ?_
    refine g_iload hC dL_law_2006 (q := 1) rfl ?_
    refine g_ic_eq hC dL_law_2008 (tgt := 2013) (by decide) (fun _ => ?_) (fun ne => absurd rfl ne)
    refine g_iload hC dL_law_2013 (q := 1) rfl ?_
    refine g_if_ne hC dL_law_2015 (tgt := 2030) (by decide) (fun _ => ?_) (fun e => absurd e (by decide))
    refine g_goto hC dL_law_2030 (tgt := 2418) (by decide) ?_
    refine g_lv [2, 3, 4, 5, 6] rfl ?_
    exact kk _ _ _ hP
def st_scale (Fu : Nat) (I : mIT) (R : mRT) (L : mLT) (a1 : Int32) (P : mIT → mRT → mLT → Prop) : Prop := (∃ o, f_X11_scale Fu R I a1 = some (.inl o) ∧ ∃ o2, f_X12_scale Fu o.2 a1 = some o2 ∧ f_X12_thrown Fu o2.2 = some 0 ∧ o.1 = o2.1 ∧ P o2.2 R (mUL L 105 0 (o.1).toInt64)) ∨ (∃ q, f_X11_scale Fu R I a1 = some (.inr q) ∧ ∃ o2, f_X12_scale Fu q.2 a1 = some o2 ∧ (q.1 = 1 ∧ f_X12_thrown Fu o2.2 = some 1) ∧ P o2.2 R L)
set_option maxRecDepth 20000 in
theorem lc_scale {X : mXT} {E : mEn} (hC : mC X E mLaw RL code) (hN : va_Nc "java/lang/IllegalArgumentException" "java/util/NoSuchElementException" X.2.2.2.1) (hr : X.2.2.2.2.2.2.2.2.2.2.1 = (1147, 45333)) {b Ln : Nat} {xs : Nat → Int32} (hX : va_X b Ln xs X.2.2.2.1 E.2.2.1 ∧ b < mB E) {i : Int32} {Fu : Nat} {I : mIT} {R : mRT} {L : mLT} {k z : Nat} (hW : mWd R) (hk : k + 1 ≤ 1147 ∧ z + 6 ≤ 45333) {a1 : Int32} (hi1 : vp_in (i + 1) Ln) (ha1 : a1 = xs (i + 1).toNatClampNeg) {P : mIT → mRT → mLT → Prop} (hP : st_scale Fu I R L a1 P) (kk : ∀ (I' : mIT) (R' : mRT) (L' : mLT), P I' R' L' → mG X E 2418 [(0, .ref b), (1, .ref (mB E + 0)), (2, .ref (mB E + 75)), (3, .ref (mB E + 105)), (4, .int i)] [] 106 1 I' R' L' (k + 1) (z + 6)) : mG X E 2033 [(0, .ref b), (1, .ref (mB E + 0)), (2, .ref (mB E + 75)), (3, .ref (mB E + 105)), (4, .int i)] [] 106 1 I R L k z := by
  rcases hP with ⟨o, h1, o2, h2, h3, h4, hP⟩ | ⟨q, h1, o2, h2, h3, hP⟩
  · refine g_aload_n hC dL_law_2033 (i := 1) rfl (q := 1) rfl ?_
    refine g_aload_n hC dL_law_2034 (i := 0) rfl (q := 0) rfl ?_
    refine g_iload hC dL_law_2035 (q := 4) rfl ?_
    refine g_iconst hC dL_law_2037 (v := (1 : Int32)) (by decide) ?_
    refine g_iadd hC dL_law_2038 ?_
    refine g_scr hC hX hi1 dL_law_2039 ?_
    rw [← ha1]
    refine g_aload_n hC dL_law_2040 (i := 3) rfl (q := 3) rfl ?_
    refine g_cW hC hN (M2 := mL_scale) (na := 3) wd_1567 wd_126 wd_1566 wd_1565 ⟨by decide, by decide, by decide⟩ ⟨Nat.le_of_ble_eq_true rfl, Nat.le_of_ble_eq_true rfl⟩ dL_law_2041 (As := [.ref (mB E + 0), .int a1, .ref (mB E + 105)]) (st := []) (ow_scale_r hC.2.2.2.2.2.2.2.1 hW h1) rfl rfl (Nat.le_of_ble_eq_true rfl) (by rw [hr]; exact hk) ?_
    refine g_istore hC dL_law_2044 rfl (by decide) (lv' := [(5, .int (0 : Int32)), (0, .ref b), (1, .ref (mB E + 0)), (2, .ref (mB E + 75)), (3, .ref (mB E + 105)), (4, .int i)]) rfl ?_
    refine g_aload_n hC dL_law_2046 (i := 2) rfl (q := 3) rfl ?_
    refine g_aload_n hC dL_law_2047 (i := 0) rfl (q := 1) rfl ?_
    refine g_iload hC dL_law_2048 (q := 5) rfl ?_
    refine g_iconst hC dL_law_2050 (v := (1 : Int32)) (by decide) ?_
    refine g_iadd hC dL_law_2051 ?_
    refine g_scr hC hX hi1 dL_law_2052 ?_
    rw [← ha1]
    refine g_cV1 hC cv_X12_scale wd_2282 ⟨Nat.le_of_ble_eq_true rfl, Nat.le_of_ble_eq_true rfl⟩ rfl (by decide) dL_law_2053 (As := [.int a1]) (st := []) (ok_X12_scale hC.2.2.2.2.2.2.2.1 hW h2) rfl rfl (Nat.le_of_ble_eq_true rfl) (by rw [hr]; exact hk) ?_
    refine g_istore hC dL_law_2056 rfl (by decide) (lv' := [(6, .int o2.1), (5, .int (0 : Int32)), (0, .ref b), (1, .ref (mB E + 0)), (2, .ref (mB E + 75)), (3, .ref (mB E + 105)), (4, .int i)]) rfl ?_
    refine g_aload_n hC dL_law_2058 (i := 2) rfl (q := 4) rfl ?_
    refine g_cV1 hC cv_X12_thrown wd_1835 ⟨Nat.le_of_ble_eq_true rfl, Nat.le_of_ble_eq_true rfl⟩ rfl (by decide) dL_law_2059 (As := []) (st := []) (ok_X12_thrown hC.2.2.2.2.2.2.2.1 hW h3) rfl rfl (Nat.le_of_ble_eq_true rfl) (by rw [hr]; exact hk) ?_
    refine g_iload hC dL_law_2062 (q := 1) rfl ?_
    refine g_ic_eq hC dL_law_2064 (tgt := 2069) (by decide) (fun _ => ?_) (fun ne => absurd rfl ne)
    refine g_iload hC dL_law_2069 (q := 1) rfl ?_
    refine g_if_ne hC dL_law_2071 (tgt := 2086) (by decide) (fun ne => absurd rfl ne) (fun _ => ?_)
    refine g_aload_n hC dL_law_2074 (i := 3) rfl (q := 5) rfl ?_
    refine g_iconst hC dL_law_2075 (v := (0 : Int32)) (by decide) ?_
    refine g_lald hC (len := 1) rfl (by decide) (inB_in (by decide)) dL_law_2076 ?_
    refine g_iload hC dL_law_2077 (q := 0) rfl ?_
    refine g_i2l hC dL_law_2079 ?_
    refine g_lcmp hC dL_law_2080 ?_
    have hcmp : (mUL L 105 0 (o.1).toInt64) 105 (0 : Int32).toNatClampNeg = (o2.1).toInt64 := (show mUL _ 105 0 _ 105 0 = _ from by simp only [mUL, and_self, if_true]; rw [h4])
    refine g_if_eq hC dL_law_2081 (tgt := 2086) (by decide) (fun _ => ?_) (fun ne => absurd (by rw [hcmp]; exact lg_same _) ne)
    refine g_goto hC dL_law_2086 (tgt := 2418) (by decide) ?_
    refine g_lv [2, 3, 4, 5, 6] rfl ?_
    exact kk _ _ _ hP
  · obtain ⟨q0, I1⟩ := q
    obtain ⟨hq, h3⟩ := h3
    replace hq : q0 = 1 := hq
    subst hq
    refine g_aload_n hC dL_law_2033 (i := 1) rfl (q := 1) rfl ?_
    refine g_aload_n hC dL_law_2034 (i := 0) rfl (q := 0) rfl ?_
    refine g_iload hC dL_law_2035 (q := 4) rfl ?_
    refine g_iconst hC dL_law_2037 (v := (1 : Int32)) (by decide) ?_
    refine g_iadd hC dL_law_2038 ?_
    refine g_scr hC hX hi1 dL_law_2039 ?_
    rw [← ha1]
    refine g_aload_n hC dL_law_2040 (i := 3) rfl (q := 3) rfl ?_
    refine g_cW hC hN (M2 := mL_scale) (na := 3) wd_1567 wd_126 wd_1566 wd_1565 ⟨by decide, by decide, by decide⟩ ⟨Nat.le_of_ble_eq_true rfl, Nat.le_of_ble_eq_true rfl⟩ dL_law_2041 (As := [.ref (mB E + 0), .int a1, .ref (mB E + 105)]) (st := []) (ow_scale_t1 hC.2.2.2.2.2.2.2.1 hW h1) rfl rfl (Nat.le_of_ble_eq_true rfl) (by rw [hr]; exact hk) ?_
    refine g_istore hC dL_law_2044 rfl (by decide) (lv' := [(5, .int (1 : Int32)), (0, .ref b), (1, .ref (mB E + 0)), (2, .ref (mB E + 75)), (3, .ref (mB E + 105)), (4, .int i)]) rfl ?_
    refine g_aload_n hC dL_law_2046 (i := 2) rfl (q := 3) rfl ?_
    refine g_aload_n hC dL_law_2047 (i := 0) rfl (q := 1) rfl ?_
    refine g_iload hC dL_law_2048 (q := 5) rfl ?_
    refine g_iconst hC dL_law_2050 (v := (1 : Int32)) (by decide) ?_
    refine g_iadd hC dL_law_2051 ?_
    refine g_scr hC hX hi1 dL_law_2052 ?_
    rw [← ha1]
    refine g_cV1 hC cv_X12_scale wd_2282 ⟨Nat.le_of_ble_eq_true rfl, Nat.le_of_ble_eq_true rfl⟩ rfl (by decide) dL_law_2053 (As := [.int a1]) (st := []) (ok_X12_scale hC.2.2.2.2.2.2.2.1 hW h2) rfl rfl (Nat.le_of_ble_eq_true rfl) (by rw [hr]; exact hk) ?_
    refine g_istore hC dL_law_2056 rfl (by decide) (lv' := [(6, .int o2.1), (5, .int (1 : Int32)), (0, .ref b), (1, .ref (mB E + 0)), (2, .ref (mB E + 75)), (3, .ref (mB E + 105)), (4, .int i)]) rfl ?_
    refine g_aload_n hC dL_law_2058 (i := 2) rfl (q := 4) rfl ?_
    refine g_cV1 hC cv_X12_thrown wd_1835 ⟨Nat.le_of_ble_eq_true rfl, Nat.le_of_ble_eq_true rfl⟩ rfl (by decide) dL_law_2059 (As := []) (st := []) (ok_X12_thrown hC.2.2.2.2.2.2.2.1 hW h3) rfl rfl (Nat.le_of_ble_eq_true rfl) (by rw [hr]; exact hk) ?_
    refine g_iload hC dL_law_2062 (q := 1) rfl ?_
    refine g_ic_eq hC dL_law_2064 (tgt := 2069) (by decide) (fun _ => ?_) (fun ne => absurd rfl ne)
    refine g_iload hC dL_law_2069 (q := 1) rfl ?_
    refine g_if_ne hC dL_law_2071 (tgt := 2086) (by decide) (fun _ => ?_) (fun e => absurd e (by decide))
    refine g_goto hC dL_law_2086 (tgt := 2418) (by decide) ?_
    refine g_lv [2, 3, 4, 5, 6] rfl ?_
    exact kk _ _ _ hP
def st_mouth (Fu : Nat) (I : mIT) (R : mRT) (L : mLT) (a1 : Int32) (P : mIT → mRT → mLT → Prop) : Prop := (∃ o, f_X11_mouth Fu R I a1 = some (.inl o) ∧ ∃ o2, f_X12_mouth Fu o.2 a1 = some o2 ∧ f_X12_thrown Fu o2.2 = some 0 ∧ o.1 = o2.1 ∧ P o2.2 R (mUL L 105 0 (o.1).toInt64)) ∨ (∃ q, f_X11_mouth Fu R I a1 = some (.inr q) ∧ ∃ o2, f_X12_mouth Fu q.2 a1 = some o2 ∧ (q.1 = 1 ∧ f_X12_thrown Fu o2.2 = some 1) ∧ P o2.2 R L)
set_option maxRecDepth 20000 in
theorem lc_mouth {X : mXT} {E : mEn} (hC : mC X E mLaw RL code) (hN : va_Nc "java/lang/IllegalArgumentException" "java/util/NoSuchElementException" X.2.2.2.1) (hr : X.2.2.2.2.2.2.2.2.2.2.1 = (1147, 45333)) {b Ln : Nat} {xs : Nat → Int32} (hX : va_X b Ln xs X.2.2.2.1 E.2.2.1 ∧ b < mB E) {i : Int32} {Fu : Nat} {I : mIT} {R : mRT} {L : mLT} {k z : Nat} (hW : mWd R) (hk : k + 1 ≤ 1147 ∧ z + 6 ≤ 45333) {a1 : Int32} (hi1 : vp_in (i + 1) Ln) (ha1 : a1 = xs (i + 1).toNatClampNeg) {P : mIT → mRT → mLT → Prop} (hP : st_mouth Fu I R L a1 P) (kk : ∀ (I' : mIT) (R' : mRT) (L' : mLT), P I' R' L' → mG X E 2418 [(0, .ref b), (1, .ref (mB E + 0)), (2, .ref (mB E + 75)), (3, .ref (mB E + 105)), (4, .int i)] [] 106 1 I' R' L' (k + 1) (z + 6)) : mG X E 2089 [(0, .ref b), (1, .ref (mB E + 0)), (2, .ref (mB E + 75)), (3, .ref (mB E + 105)), (4, .int i)] [] 106 1 I R L k z := by
  rcases hP with ⟨o, h1, o2, h2, h3, h4, hP⟩ | ⟨q, h1, o2, h2, h3, hP⟩
  · refine g_aload_n hC dL_law_2089 (i := 1) rfl (q := 1) rfl ?_
    refine g_aload_n hC dL_law_2090 (i := 0) rfl (q := 0) rfl ?_
    refine g_iload hC dL_law_2091 (q := 4) rfl ?_
    refine g_iconst hC dL_law_2093 (v := (1 : Int32)) (by decide) ?_
    refine g_iadd hC dL_law_2094 ?_
    refine g_scr hC hX hi1 dL_law_2095 ?_
    rw [← ha1]
    refine g_aload_n hC dL_law_2096 (i := 3) rfl (q := 3) rfl ?_
    refine g_cW hC hN (M2 := mL_mouth) (na := 3) wd_1574 wd_126 wd_1573 wd_1572 ⟨by decide, by decide, by decide⟩ ⟨Nat.le_of_ble_eq_true rfl, Nat.le_of_ble_eq_true rfl⟩ dL_law_2097 (As := [.ref (mB E + 0), .int a1, .ref (mB E + 105)]) (st := []) (ow_mouth_r hC.2.2.2.2.2.2.2.1 hW h1) rfl rfl (Nat.le_of_ble_eq_true rfl) (by rw [hr]; exact hk) ?_
    refine g_istore hC dL_law_2100 rfl (by decide) (lv' := [(5, .int (0 : Int32)), (0, .ref b), (1, .ref (mB E + 0)), (2, .ref (mB E + 75)), (3, .ref (mB E + 105)), (4, .int i)]) rfl ?_
    refine g_aload_n hC dL_law_2102 (i := 2) rfl (q := 3) rfl ?_
    refine g_aload_n hC dL_law_2103 (i := 0) rfl (q := 1) rfl ?_
    refine g_iload hC dL_law_2104 (q := 5) rfl ?_
    refine g_iconst hC dL_law_2106 (v := (1 : Int32)) (by decide) ?_
    refine g_iadd hC dL_law_2107 ?_
    refine g_scr hC hX hi1 dL_law_2108 ?_
    rw [← ha1]
    refine g_cV1 hC cv_X12_mouth wd_2286 ⟨Nat.le_of_ble_eq_true rfl, Nat.le_of_ble_eq_true rfl⟩ rfl (by decide) dL_law_2109 (As := [.int a1]) (st := []) (ok_X12_mouth hC.2.2.2.2.2.2.2.1 hW h2) rfl rfl (Nat.le_of_ble_eq_true rfl) (by rw [hr]; exact hk) ?_
    refine g_istore hC dL_law_2112 rfl (by decide) (lv' := [(6, .int o2.1), (5, .int (0 : Int32)), (0, .ref b), (1, .ref (mB E + 0)), (2, .ref (mB E + 75)), (3, .ref (mB E + 105)), (4, .int i)]) rfl ?_
    refine g_aload_n hC dL_law_2114 (i := 2) rfl (q := 4) rfl ?_
    refine g_cV1 hC cv_X12_thrown wd_1835 ⟨Nat.le_of_ble_eq_true rfl, Nat.le_of_ble_eq_true rfl⟩ rfl (by decide) dL_law_2115 (As := []) (st := []) (ok_X12_thrown hC.2.2.2.2.2.2.2.1 hW h3) rfl rfl (Nat.le_of_ble_eq_true rfl) (by rw [hr]; exact hk) ?_
    refine g_iload hC dL_law_2118 (q := 1) rfl ?_
    refine g_ic_eq hC dL_law_2120 (tgt := 2125) (by decide) (fun _ => ?_) (fun ne => absurd rfl ne)
    refine g_iload hC dL_law_2125 (q := 1) rfl ?_
    refine g_if_ne hC dL_law_2127 (tgt := 2142) (by decide) (fun ne => absurd rfl ne) (fun _ => ?_)
    refine g_aload_n hC dL_law_2130 (i := 3) rfl (q := 5) rfl ?_
    refine g_iconst hC dL_law_2131 (v := (0 : Int32)) (by decide) ?_
    refine g_lald hC (len := 1) rfl (by decide) (inB_in (by decide)) dL_law_2132 ?_
    refine g_iload hC dL_law_2133 (q := 0) rfl ?_
    refine g_i2l hC dL_law_2135 ?_
    refine g_lcmp hC dL_law_2136 ?_
    have hcmp : (mUL L 105 0 (o.1).toInt64) 105 (0 : Int32).toNatClampNeg = (o2.1).toInt64 := (show mUL _ 105 0 _ 105 0 = _ from by simp only [mUL, and_self, if_true]; rw [h4])
    refine g_if_eq hC dL_law_2137 (tgt := 2142) (by decide) (fun _ => ?_) (fun ne => absurd (by rw [hcmp]; exact lg_same _) ne)
    refine g_goto hC dL_law_2142 (tgt := 2418) (by decide) ?_
    refine g_lv [2, 3, 4, 5, 6] rfl ?_
    exact kk _ _ _ hP
  · obtain ⟨q0, I1⟩ := q
    obtain ⟨hq, h3⟩ := h3
    replace hq : q0 = 1 := hq
    subst hq
    refine g_aload_n hC dL_law_2089 (i := 1) rfl (q := 1) rfl ?_
    refine g_aload_n hC dL_law_2090 (i := 0) rfl (q := 0) rfl ?_
    refine g_iload hC dL_law_2091 (q := 4) rfl ?_
    refine g_iconst hC dL_law_2093 (v := (1 : Int32)) (by decide) ?_
    refine g_iadd hC dL_law_2094 ?_
    refine g_scr hC hX hi1 dL_law_2095 ?_
    rw [← ha1]
    refine g_aload_n hC dL_law_2096 (i := 3) rfl (q := 3) rfl ?_
    refine g_cW hC hN (M2 := mL_mouth) (na := 3) wd_1574 wd_126 wd_1573 wd_1572 ⟨by decide, by decide, by decide⟩ ⟨Nat.le_of_ble_eq_true rfl, Nat.le_of_ble_eq_true rfl⟩ dL_law_2097 (As := [.ref (mB E + 0), .int a1, .ref (mB E + 105)]) (st := []) (ow_mouth_t1 hC.2.2.2.2.2.2.2.1 hW h1) rfl rfl (Nat.le_of_ble_eq_true rfl) (by rw [hr]; exact hk) ?_
    refine g_istore hC dL_law_2100 rfl (by decide) (lv' := [(5, .int (1 : Int32)), (0, .ref b), (1, .ref (mB E + 0)), (2, .ref (mB E + 75)), (3, .ref (mB E + 105)), (4, .int i)]) rfl ?_
    refine g_aload_n hC dL_law_2102 (i := 2) rfl (q := 3) rfl ?_
    refine g_aload_n hC dL_law_2103 (i := 0) rfl (q := 1) rfl ?_
    refine g_iload hC dL_law_2104 (q := 5) rfl ?_
    refine g_iconst hC dL_law_2106 (v := (1 : Int32)) (by decide) ?_
    refine g_iadd hC dL_law_2107 ?_
    refine g_scr hC hX hi1 dL_law_2108 ?_
    rw [← ha1]
    refine g_cV1 hC cv_X12_mouth wd_2286 ⟨Nat.le_of_ble_eq_true rfl, Nat.le_of_ble_eq_true rfl⟩ rfl (by decide) dL_law_2109 (As := [.int a1]) (st := []) (ok_X12_mouth hC.2.2.2.2.2.2.2.1 hW h2) rfl rfl (Nat.le_of_ble_eq_true rfl) (by rw [hr]; exact hk) ?_
    refine g_istore hC dL_law_2112 rfl (by decide) (lv' := [(6, .int o2.1), (5, .int (1 : Int32)), (0, .ref b), (1, .ref (mB E + 0)), (2, .ref (mB E + 75)), (3, .ref (mB E + 105)), (4, .int i)]) rfl ?_
    refine g_aload_n hC dL_law_2114 (i := 2) rfl (q := 4) rfl ?_
    refine g_cV1 hC cv_X12_thrown wd_1835 ⟨Nat.le_of_ble_eq_true rfl, Nat.le_of_ble_eq_true rfl⟩ rfl (by decide) dL_law_2115 (As := []) (st := []) (ok_X12_thrown hC.2.2.2.2.2.2.2.1 hW h3) rfl rfl (Nat.le_of_ble_eq_true rfl) (by rw [hr]; exact hk) ?_
    refine g_iload hC dL_law_2118 (q := 1) rfl ?_
    refine g_ic_eq hC dL_law_2120 (tgt := 2125) (by decide) (fun _ => ?_) (fun ne => absurd rfl ne)
    refine g_iload hC dL_law_2125 (q := 1) rfl ?_
    refine g_if_ne hC dL_law_2127 (tgt := 2142) (by decide) (fun _ => ?_) (fun e => absurd e (by decide))
    refine g_goto hC dL_law_2142 (tgt := 2418) (by decide) ?_
    refine g_lv [2, 3, 4, 5, 6] rfl ?_
    exact kk _ _ _ hP
def st_leads (Fu : Nat) (I : mIT) (R : mRT) (L : mLT) (a1 : Int32) (P : mIT → mRT → mLT → Prop) : Prop := (∃ o, f_X11_leads Fu R I a1 = some (.inl o) ∧ ∃ o2, f_X12_leads Fu o.2 a1 = some o2 ∧ f_X12_thrown Fu o2.2 = some 0 ∧ o.1 = o2.1 ∧ P o2.2 R (mUL L 105 0 (o.1).toInt64)) ∨ (∃ q, f_X11_leads Fu R I a1 = some (.inr q) ∧ ∃ o2, f_X12_leads Fu q.2 a1 = some o2 ∧ (q.1 = 1 ∧ f_X12_thrown Fu o2.2 = some 1) ∧ P o2.2 R L)
set_option maxRecDepth 20000 in
theorem lc_leads {X : mXT} {E : mEn} (hC : mC X E mLaw RL code) (hN : va_Nc "java/lang/IllegalArgumentException" "java/util/NoSuchElementException" X.2.2.2.1) (hr : X.2.2.2.2.2.2.2.2.2.2.1 = (1147, 45333)) {b Ln : Nat} {xs : Nat → Int32} (hX : va_X b Ln xs X.2.2.2.1 E.2.2.1 ∧ b < mB E) {i : Int32} {Fu : Nat} {I : mIT} {R : mRT} {L : mLT} {k z : Nat} (hW : mWd R) (hk : k + 1 ≤ 1147 ∧ z + 6 ≤ 45333) {a1 : Int32} (hi1 : vp_in (i + 1) Ln) (ha1 : a1 = xs (i + 1).toNatClampNeg) {P : mIT → mRT → mLT → Prop} (hP : st_leads Fu I R L a1 P) (kk : ∀ (I' : mIT) (R' : mRT) (L' : mLT), P I' R' L' → mG X E 2418 [(0, .ref b), (1, .ref (mB E + 0)), (2, .ref (mB E + 75)), (3, .ref (mB E + 105)), (4, .int i)] [] 106 1 I' R' L' (k + 1) (z + 6)) : mG X E 2145 [(0, .ref b), (1, .ref (mB E + 0)), (2, .ref (mB E + 75)), (3, .ref (mB E + 105)), (4, .int i)] [] 106 1 I R L k z := by
  rcases hP with ⟨o, h1, o2, h2, h3, h4, hP⟩ | ⟨q, h1, o2, h2, h3, hP⟩
  · refine g_aload_n hC dL_law_2145 (i := 1) rfl (q := 1) rfl ?_
    refine g_aload_n hC dL_law_2146 (i := 0) rfl (q := 0) rfl ?_
    refine g_iload hC dL_law_2147 (q := 4) rfl ?_
    refine g_iconst hC dL_law_2149 (v := (1 : Int32)) (by decide) ?_
    refine g_iadd hC dL_law_2150 ?_
    refine g_scr hC hX hi1 dL_law_2151 ?_
    rw [← ha1]
    refine g_aload_n hC dL_law_2152 (i := 3) rfl (q := 3) rfl ?_
    refine g_cW hC hN (M2 := mL_leads) (na := 3) wd_1585 wd_126 wd_1584 wd_1583 ⟨by decide, by decide, by decide⟩ ⟨Nat.le_of_ble_eq_true rfl, Nat.le_of_ble_eq_true rfl⟩ dL_law_2153 (As := [.ref (mB E + 0), .int a1, .ref (mB E + 105)]) (st := []) (ow_leads_r hC.2.2.2.2.2.2.2.1 hW h1) rfl rfl (Nat.le_of_ble_eq_true rfl) (by rw [hr]; exact hk) ?_
    refine g_istore hC dL_law_2156 rfl (by decide) (lv' := [(5, .int (0 : Int32)), (0, .ref b), (1, .ref (mB E + 0)), (2, .ref (mB E + 75)), (3, .ref (mB E + 105)), (4, .int i)]) rfl ?_
    refine g_aload_n hC dL_law_2158 (i := 2) rfl (q := 3) rfl ?_
    refine g_aload_n hC dL_law_2159 (i := 0) rfl (q := 1) rfl ?_
    refine g_iload hC dL_law_2160 (q := 5) rfl ?_
    refine g_iconst hC dL_law_2162 (v := (1 : Int32)) (by decide) ?_
    refine g_iadd hC dL_law_2163 ?_
    refine g_scr hC hX hi1 dL_law_2164 ?_
    rw [← ha1]
    refine g_cV1 hC cv_X12_leads wd_2290 ⟨Nat.le_of_ble_eq_true rfl, Nat.le_of_ble_eq_true rfl⟩ rfl (by decide) dL_law_2165 (As := [.int a1]) (st := []) (ok_X12_leads hC.2.2.2.2.2.2.2.1 hW h2) rfl rfl (Nat.le_of_ble_eq_true rfl) (by rw [hr]; exact hk) ?_
    refine g_istore hC dL_law_2168 rfl (by decide) (lv' := [(6, .int o2.1), (5, .int (0 : Int32)), (0, .ref b), (1, .ref (mB E + 0)), (2, .ref (mB E + 75)), (3, .ref (mB E + 105)), (4, .int i)]) rfl ?_
    refine g_aload_n hC dL_law_2170 (i := 2) rfl (q := 4) rfl ?_
    refine g_cV1 hC cv_X12_thrown wd_1835 ⟨Nat.le_of_ble_eq_true rfl, Nat.le_of_ble_eq_true rfl⟩ rfl (by decide) dL_law_2171 (As := []) (st := []) (ok_X12_thrown hC.2.2.2.2.2.2.2.1 hW h3) rfl rfl (Nat.le_of_ble_eq_true rfl) (by rw [hr]; exact hk) ?_
    refine g_iload hC dL_law_2174 (q := 1) rfl ?_
    refine g_ic_eq hC dL_law_2176 (tgt := 2181) (by decide) (fun _ => ?_) (fun ne => absurd rfl ne)
    refine g_iload hC dL_law_2181 (q := 1) rfl ?_
    refine g_if_ne hC dL_law_2183 (tgt := 2198) (by decide) (fun ne => absurd rfl ne) (fun _ => ?_)
    refine g_aload_n hC dL_law_2186 (i := 3) rfl (q := 5) rfl ?_
    refine g_iconst hC dL_law_2187 (v := (0 : Int32)) (by decide) ?_
    refine g_lald hC (len := 1) rfl (by decide) (inB_in (by decide)) dL_law_2188 ?_
    refine g_iload hC dL_law_2189 (q := 0) rfl ?_
    refine g_i2l hC dL_law_2191 ?_
    refine g_lcmp hC dL_law_2192 ?_
    have hcmp : (mUL L 105 0 (o.1).toInt64) 105 (0 : Int32).toNatClampNeg = (o2.1).toInt64 := (show mUL _ 105 0 _ 105 0 = _ from by simp only [mUL, and_self, if_true]; rw [h4])
    refine g_if_eq hC dL_law_2193 (tgt := 2198) (by decide) (fun _ => ?_) (fun ne => absurd (by rw [hcmp]; exact lg_same _) ne)
    refine g_goto hC dL_law_2198 (tgt := 2418) (by decide) ?_
    refine g_lv [2, 3, 4, 5, 6] rfl ?_
    exact kk _ _ _ hP
  · obtain ⟨q0, I1⟩ := q
    obtain ⟨hq, h3⟩ := h3
    replace hq : q0 = 1 := hq
    subst hq
    refine g_aload_n hC dL_law_2145 (i := 1) rfl (q := 1) rfl ?_
    refine g_aload_n hC dL_law_2146 (i := 0) rfl (q := 0) rfl ?_
    refine g_iload hC dL_law_2147 (q := 4) rfl ?_
    refine g_iconst hC dL_law_2149 (v := (1 : Int32)) (by decide) ?_
    refine g_iadd hC dL_law_2150 ?_
    refine g_scr hC hX hi1 dL_law_2151 ?_
    rw [← ha1]
    refine g_aload_n hC dL_law_2152 (i := 3) rfl (q := 3) rfl ?_
    refine g_cW hC hN (M2 := mL_leads) (na := 3) wd_1585 wd_126 wd_1584 wd_1583 ⟨by decide, by decide, by decide⟩ ⟨Nat.le_of_ble_eq_true rfl, Nat.le_of_ble_eq_true rfl⟩ dL_law_2153 (As := [.ref (mB E + 0), .int a1, .ref (mB E + 105)]) (st := []) (ow_leads_t1 hC.2.2.2.2.2.2.2.1 hW h1) rfl rfl (Nat.le_of_ble_eq_true rfl) (by rw [hr]; exact hk) ?_
    refine g_istore hC dL_law_2156 rfl (by decide) (lv' := [(5, .int (1 : Int32)), (0, .ref b), (1, .ref (mB E + 0)), (2, .ref (mB E + 75)), (3, .ref (mB E + 105)), (4, .int i)]) rfl ?_
    refine g_aload_n hC dL_law_2158 (i := 2) rfl (q := 3) rfl ?_
    refine g_aload_n hC dL_law_2159 (i := 0) rfl (q := 1) rfl ?_
    refine g_iload hC dL_law_2160 (q := 5) rfl ?_
    refine g_iconst hC dL_law_2162 (v := (1 : Int32)) (by decide) ?_
    refine g_iadd hC dL_law_2163 ?_
    refine g_scr hC hX hi1 dL_law_2164 ?_
    rw [← ha1]
    refine g_cV1 hC cv_X12_leads wd_2290 ⟨Nat.le_of_ble_eq_true rfl, Nat.le_of_ble_eq_true rfl⟩ rfl (by decide) dL_law_2165 (As := [.int a1]) (st := []) (ok_X12_leads hC.2.2.2.2.2.2.2.1 hW h2) rfl rfl (Nat.le_of_ble_eq_true rfl) (by rw [hr]; exact hk) ?_
    refine g_istore hC dL_law_2168 rfl (by decide) (lv' := [(6, .int o2.1), (5, .int (1 : Int32)), (0, .ref b), (1, .ref (mB E + 0)), (2, .ref (mB E + 75)), (3, .ref (mB E + 105)), (4, .int i)]) rfl ?_
    refine g_aload_n hC dL_law_2170 (i := 2) rfl (q := 4) rfl ?_
    refine g_cV1 hC cv_X12_thrown wd_1835 ⟨Nat.le_of_ble_eq_true rfl, Nat.le_of_ble_eq_true rfl⟩ rfl (by decide) dL_law_2171 (As := []) (st := []) (ok_X12_thrown hC.2.2.2.2.2.2.2.1 hW h3) rfl rfl (Nat.le_of_ble_eq_true rfl) (by rw [hr]; exact hk) ?_
    refine g_iload hC dL_law_2174 (q := 1) rfl ?_
    refine g_ic_eq hC dL_law_2176 (tgt := 2181) (by decide) (fun _ => ?_) (fun ne => absurd rfl ne)
    refine g_iload hC dL_law_2181 (q := 1) rfl ?_
    refine g_if_ne hC dL_law_2183 (tgt := 2198) (by decide) (fun _ => ?_) (fun e => absurd e (by decide))
    refine g_goto hC dL_law_2198 (tgt := 2418) (by decide) ?_
    refine g_lv [2, 3, 4, 5, 6] rfl ?_
    exact kk _ _ _ hP
def st_meets (Fu : Nat) (I : mIT) (R : mRT) (L : mLT) (a1 : Int32) (a2 : Int32) (P : mIT → mRT → mLT → Prop) : Prop := (∃ o, f_X11_meets Fu R I a1 a2 = some (.inl o) ∧ ∃ o2, f_X12_meets Fu o.2 a1 a2 = some o2 ∧ f_X12_thrown Fu o2.2 = some 0 ∧ o.1 = o2.1 ∧ P o2.2 R (mUL L 105 0 (o.1).toInt64)) ∨ (∃ q, f_X11_meets Fu R I a1 a2 = some (.inr q) ∧ ∃ o2, f_X12_meets Fu q.2 a1 a2 = some o2 ∧ (q.1 = 1 ∧ f_X12_thrown Fu o2.2 = some 1) ∧ P o2.2 R L)
set_option maxRecDepth 20000 in
theorem lc_meets {X : mXT} {E : mEn} (hC : mC X E mLaw RL code) (hN : va_Nc "java/lang/IllegalArgumentException" "java/util/NoSuchElementException" X.2.2.2.1) (hr : X.2.2.2.2.2.2.2.2.2.2.1 = (1147, 45333)) {b Ln : Nat} {xs : Nat → Int32} (hX : va_X b Ln xs X.2.2.2.1 E.2.2.1 ∧ b < mB E) {i : Int32} {Fu : Nat} {I : mIT} {R : mRT} {L : mLT} {k z : Nat} (hW : mWd R) (hk : k + 1 ≤ 1147 ∧ z + 6 ≤ 45333) {a1 : Int32} (hi1 : vp_in (i + 1) Ln) (ha1 : a1 = xs (i + 1).toNatClampNeg) {a2 : Int32} (hi2 : vp_in (i + 2) Ln) (ha2 : a2 = xs (i + 2).toNatClampNeg) {P : mIT → mRT → mLT → Prop} (hP : st_meets Fu I R L a1 a2 P) (kk : ∀ (I' : mIT) (R' : mRT) (L' : mLT), P I' R' L' → mG X E 2418 [(0, .ref b), (1, .ref (mB E + 0)), (2, .ref (mB E + 75)), (3, .ref (mB E + 105)), (4, .int i)] [] 106 1 I' R' L' (k + 1) (z + 6)) : mG X E 2201 [(0, .ref b), (1, .ref (mB E + 0)), (2, .ref (mB E + 75)), (3, .ref (mB E + 105)), (4, .int i)] [] 106 1 I R L k z := by
  rcases hP with ⟨o, h1, o2, h2, h3, h4, hP⟩ | ⟨q, h1, o2, h2, h3, hP⟩
  · refine g_aload_n hC dL_law_2201 (i := 1) rfl (q := 1) rfl ?_
    refine g_aload_n hC dL_law_2202 (i := 0) rfl (q := 0) rfl ?_
    refine g_iload hC dL_law_2203 (q := 4) rfl ?_
    refine g_iconst hC dL_law_2205 (v := (1 : Int32)) (by decide) ?_
    refine g_iadd hC dL_law_2206 ?_
    refine g_scr hC hX hi1 dL_law_2207 ?_
    rw [← ha1]
    refine g_aload_n hC dL_law_2208 (i := 0) rfl (q := 0) rfl ?_
    refine g_iload hC dL_law_2209 (q := 4) rfl ?_
    refine g_iconst hC dL_law_2211 (v := (2 : Int32)) (by decide) ?_
    refine g_iadd hC dL_law_2212 ?_
    refine g_scr hC hX hi2 dL_law_2213 ?_
    rw [← ha2]
    refine g_aload_n hC dL_law_2214 (i := 3) rfl (q := 3) rfl ?_
    refine g_cW hC hN (M2 := mL_meets) (na := 4) wd_1601 wd_126 wd_1600 wd_1599 ⟨by decide, by decide, by decide⟩ ⟨Nat.le_of_ble_eq_true rfl, Nat.le_of_ble_eq_true rfl⟩ dL_law_2215 (As := [.ref (mB E + 0), .int a1, .int a2, .ref (mB E + 105)]) (st := []) (ow_meets_r hC.2.2.2.2.2.2.2.1 hW h1) rfl rfl (Nat.le_of_ble_eq_true rfl) (by rw [hr]; exact hk) ?_
    refine g_istore hC dL_law_2218 rfl (by decide) (lv' := [(5, .int (0 : Int32)), (0, .ref b), (1, .ref (mB E + 0)), (2, .ref (mB E + 75)), (3, .ref (mB E + 105)), (4, .int i)]) rfl ?_
    refine g_aload_n hC dL_law_2220 (i := 2) rfl (q := 3) rfl ?_
    refine g_aload_n hC dL_law_2221 (i := 0) rfl (q := 1) rfl ?_
    refine g_iload hC dL_law_2222 (q := 5) rfl ?_
    refine g_iconst hC dL_law_2224 (v := (1 : Int32)) (by decide) ?_
    refine g_iadd hC dL_law_2225 ?_
    refine g_scr hC hX hi1 dL_law_2226 ?_
    rw [← ha1]
    refine g_aload_n hC dL_law_2227 (i := 0) rfl (q := 1) rfl ?_
    refine g_iload hC dL_law_2228 (q := 5) rfl ?_
    refine g_iconst hC dL_law_2230 (v := (2 : Int32)) (by decide) ?_
    refine g_iadd hC dL_law_2231 ?_
    refine g_scr hC hX hi2 dL_law_2232 ?_
    rw [← ha2]
    refine g_cV1 hC cv_X12_meets wd_2298 ⟨Nat.le_of_ble_eq_true rfl, Nat.le_of_ble_eq_true rfl⟩ rfl (by decide) dL_law_2233 (As := [.int a1, .int a2]) (st := []) (ok_X12_meets hC.2.2.2.2.2.2.2.1 hW h2) rfl rfl (Nat.le_of_ble_eq_true rfl) (by rw [hr]; exact hk) ?_
    refine g_istore hC dL_law_2236 rfl (by decide) (lv' := [(6, .int o2.1), (5, .int (0 : Int32)), (0, .ref b), (1, .ref (mB E + 0)), (2, .ref (mB E + 75)), (3, .ref (mB E + 105)), (4, .int i)]) rfl ?_
    refine g_aload_n hC dL_law_2238 (i := 2) rfl (q := 4) rfl ?_
    refine g_cV1 hC cv_X12_thrown wd_1835 ⟨Nat.le_of_ble_eq_true rfl, Nat.le_of_ble_eq_true rfl⟩ rfl (by decide) dL_law_2239 (As := []) (st := []) (ok_X12_thrown hC.2.2.2.2.2.2.2.1 hW h3) rfl rfl (Nat.le_of_ble_eq_true rfl) (by rw [hr]; exact hk) ?_
    refine g_iload hC dL_law_2242 (q := 1) rfl ?_
    refine g_ic_eq hC dL_law_2244 (tgt := 2249) (by decide) (fun _ => ?_) (fun ne => absurd rfl ne)
    refine g_iload hC dL_law_2249 (q := 1) rfl ?_
    refine g_if_ne hC dL_law_2251 (tgt := 2266) (by decide) (fun ne => absurd rfl ne) (fun _ => ?_)
    refine g_aload_n hC dL_law_2254 (i := 3) rfl (q := 5) rfl ?_
    refine g_iconst hC dL_law_2255 (v := (0 : Int32)) (by decide) ?_
    refine g_lald hC (len := 1) rfl (by decide) (inB_in (by decide)) dL_law_2256 ?_
    refine g_iload hC dL_law_2257 (q := 0) rfl ?_
    refine g_i2l hC dL_law_2259 ?_
    refine g_lcmp hC dL_law_2260 ?_
    have hcmp : (mUL L 105 0 (o.1).toInt64) 105 (0 : Int32).toNatClampNeg = (o2.1).toInt64 := (show mUL _ 105 0 _ 105 0 = _ from by simp only [mUL, and_self, if_true]; rw [h4])
    refine g_if_eq hC dL_law_2261 (tgt := 2266) (by decide) (fun _ => ?_) (fun ne => absurd (by rw [hcmp]; exact lg_same _) ne)
    refine g_goto hC dL_law_2266 (tgt := 2418) (by decide) ?_
    refine g_lv [2, 3, 4, 5, 6] rfl ?_
    exact kk _ _ _ hP
  · obtain ⟨q0, I1⟩ := q
    obtain ⟨hq, h3⟩ := h3
    replace hq : q0 = 1 := hq
    subst hq
    refine g_aload_n hC dL_law_2201 (i := 1) rfl (q := 1) rfl ?_
    refine g_aload_n hC dL_law_2202 (i := 0) rfl (q := 0) rfl ?_
    refine g_iload hC dL_law_2203 (q := 4) rfl ?_
    refine g_iconst hC dL_law_2205 (v := (1 : Int32)) (by decide) ?_
    refine g_iadd hC dL_law_2206 ?_
    refine g_scr hC hX hi1 dL_law_2207 ?_
    rw [← ha1]
    refine g_aload_n hC dL_law_2208 (i := 0) rfl (q := 0) rfl ?_
    refine g_iload hC dL_law_2209 (q := 4) rfl ?_
    refine g_iconst hC dL_law_2211 (v := (2 : Int32)) (by decide) ?_
    refine g_iadd hC dL_law_2212 ?_
    refine g_scr hC hX hi2 dL_law_2213 ?_
    rw [← ha2]
    refine g_aload_n hC dL_law_2214 (i := 3) rfl (q := 3) rfl ?_
    refine g_cW hC hN (M2 := mL_meets) (na := 4) wd_1601 wd_126 wd_1600 wd_1599 ⟨by decide, by decide, by decide⟩ ⟨Nat.le_of_ble_eq_true rfl, Nat.le_of_ble_eq_true rfl⟩ dL_law_2215 (As := [.ref (mB E + 0), .int a1, .int a2, .ref (mB E + 105)]) (st := []) (ow_meets_t1 hC.2.2.2.2.2.2.2.1 hW h1) rfl rfl (Nat.le_of_ble_eq_true rfl) (by rw [hr]; exact hk) ?_
    refine g_istore hC dL_law_2218 rfl (by decide) (lv' := [(5, .int (1 : Int32)), (0, .ref b), (1, .ref (mB E + 0)), (2, .ref (mB E + 75)), (3, .ref (mB E + 105)), (4, .int i)]) rfl ?_
    refine g_aload_n hC dL_law_2220 (i := 2) rfl (q := 3) rfl ?_
    refine g_aload_n hC dL_law_2221 (i := 0) rfl (q := 1) rfl ?_
    refine g_iload hC dL_law_2222 (q := 5) rfl ?_
    refine g_iconst hC dL_law_2224 (v := (1 : Int32)) (by decide) ?_
    refine g_iadd hC dL_law_2225 ?_
    refine g_scr hC hX hi1 dL_law_2226 ?_
    rw [← ha1]
    refine g_aload_n hC dL_law_2227 (i := 0) rfl (q := 1) rfl ?_
    refine g_iload hC dL_law_2228 (q := 5) rfl ?_
    refine g_iconst hC dL_law_2230 (v := (2 : Int32)) (by decide) ?_
    refine g_iadd hC dL_law_2231 ?_
    refine g_scr hC hX hi2 dL_law_2232 ?_
    rw [← ha2]
    refine g_cV1 hC cv_X12_meets wd_2298 ⟨Nat.le_of_ble_eq_true rfl, Nat.le_of_ble_eq_true rfl⟩ rfl (by decide) dL_law_2233 (As := [.int a1, .int a2]) (st := []) (ok_X12_meets hC.2.2.2.2.2.2.2.1 hW h2) rfl rfl (Nat.le_of_ble_eq_true rfl) (by rw [hr]; exact hk) ?_
    refine g_istore hC dL_law_2236 rfl (by decide) (lv' := [(6, .int o2.1), (5, .int (1 : Int32)), (0, .ref b), (1, .ref (mB E + 0)), (2, .ref (mB E + 75)), (3, .ref (mB E + 105)), (4, .int i)]) rfl ?_
    refine g_aload_n hC dL_law_2238 (i := 2) rfl (q := 4) rfl ?_
    refine g_cV1 hC cv_X12_thrown wd_1835 ⟨Nat.le_of_ble_eq_true rfl, Nat.le_of_ble_eq_true rfl⟩ rfl (by decide) dL_law_2239 (As := []) (st := []) (ok_X12_thrown hC.2.2.2.2.2.2.2.1 hW h3) rfl rfl (Nat.le_of_ble_eq_true rfl) (by rw [hr]; exact hk) ?_
    refine g_iload hC dL_law_2242 (q := 1) rfl ?_
    refine g_ic_eq hC dL_law_2244 (tgt := 2249) (by decide) (fun _ => ?_) (fun ne => absurd rfl ne)
    refine g_iload hC dL_law_2249 (q := 1) rfl ?_
    refine g_if_ne hC dL_law_2251 (tgt := 2266) (by decide) (fun _ => ?_) (fun e => absurd e (by decide))
    refine g_goto hC dL_law_2266 (tgt := 2418) (by decide) ?_
    refine g_lv [2, 3, 4, 5, 6] rfl ?_
    exact kk _ _ _ hP
def st_without (Fu : Nat) (I : mIT) (R : mRT) (L : mLT) (a1 : Int32) (P : mIT → mRT → mLT → Prop) : Prop := (∃ o, f_X11_without Fu R I a1 = some (.inl o) ∧ ∃ o2, f_X12_without Fu o.2 a1 = some o2 ∧ f_X12_thrown Fu o2.2 = some 0 ∧ o.1 = o2.1 ∧ P o2.2 R (mUL L 105 0 (o.1).toInt64)) ∨ (∃ q, f_X11_without Fu R I a1 = some (.inr q) ∧ ∃ o2, f_X12_without Fu q.2 a1 = some o2 ∧ (q.1 = 1 ∧ f_X12_thrown Fu o2.2 = some 1) ∧ P o2.2 R L)
set_option maxRecDepth 20000 in
theorem lc_without {X : mXT} {E : mEn} (hC : mC X E mLaw RL code) (hN : va_Nc "java/lang/IllegalArgumentException" "java/util/NoSuchElementException" X.2.2.2.1) (hr : X.2.2.2.2.2.2.2.2.2.2.1 = (1147, 45333)) {b Ln : Nat} {xs : Nat → Int32} (hX : va_X b Ln xs X.2.2.2.1 E.2.2.1 ∧ b < mB E) {i : Int32} {Fu : Nat} {I : mIT} {R : mRT} {L : mLT} {k z : Nat} (hW : mWd R) (hk : k + 1 ≤ 1147 ∧ z + 6 ≤ 45333) {a1 : Int32} (hi1 : vp_in (i + 1) Ln) (ha1 : a1 = xs (i + 1).toNatClampNeg) {P : mIT → mRT → mLT → Prop} (hP : st_without Fu I R L a1 P) (kk : ∀ (I' : mIT) (R' : mRT) (L' : mLT), P I' R' L' → mG X E 2418 [(0, .ref b), (1, .ref (mB E + 0)), (2, .ref (mB E + 75)), (3, .ref (mB E + 105)), (4, .int i)] [] 106 1 I' R' L' (k + 1) (z + 6)) : mG X E 2269 [(0, .ref b), (1, .ref (mB E + 0)), (2, .ref (mB E + 75)), (3, .ref (mB E + 105)), (4, .int i)] [] 106 1 I R L k z := by
  rcases hP with ⟨o, h1, o2, h2, h3, h4, hP⟩ | ⟨q, h1, o2, h2, h3, hP⟩
  · refine g_aload_n hC dL_law_2269 (i := 1) rfl (q := 1) rfl ?_
    refine g_aload_n hC dL_law_2270 (i := 0) rfl (q := 0) rfl ?_
    refine g_iload hC dL_law_2271 (q := 4) rfl ?_
    refine g_iconst hC dL_law_2273 (v := (1 : Int32)) (by decide) ?_
    refine g_iadd hC dL_law_2274 ?_
    refine g_scr hC hX hi1 dL_law_2275 ?_
    rw [← ha1]
    refine g_aload_n hC dL_law_2276 (i := 3) rfl (q := 3) rfl ?_
    refine g_cW hC hN (M2 := mL_without) (na := 3) wd_1617 wd_126 wd_1616 wd_1615 ⟨by decide, by decide, by decide⟩ ⟨Nat.le_of_ble_eq_true rfl, Nat.le_of_ble_eq_true rfl⟩ dL_law_2277 (As := [.ref (mB E + 0), .int a1, .ref (mB E + 105)]) (st := []) (ow_without_r hC.2.2.2.2.2.2.2.1 hW h1) rfl rfl (Nat.le_of_ble_eq_true rfl) (by rw [hr]; exact hk) ?_
    refine g_istore hC dL_law_2280 rfl (by decide) (lv' := [(5, .int (0 : Int32)), (0, .ref b), (1, .ref (mB E + 0)), (2, .ref (mB E + 75)), (3, .ref (mB E + 105)), (4, .int i)]) rfl ?_
    refine g_aload_n hC dL_law_2282 (i := 2) rfl (q := 3) rfl ?_
    refine g_aload_n hC dL_law_2283 (i := 0) rfl (q := 1) rfl ?_
    refine g_iload hC dL_law_2284 (q := 5) rfl ?_
    refine g_iconst hC dL_law_2286 (v := (1 : Int32)) (by decide) ?_
    refine g_iadd hC dL_law_2287 ?_
    refine g_scr hC hX hi1 dL_law_2288 ?_
    rw [← ha1]
    refine g_cV1 hC cv_X12_without wd_2302 ⟨Nat.le_of_ble_eq_true rfl, Nat.le_of_ble_eq_true rfl⟩ rfl (by decide) dL_law_2289 (As := [.int a1]) (st := []) (ok_X12_without hC.2.2.2.2.2.2.2.1 hW h2) rfl rfl (Nat.le_of_ble_eq_true rfl) (by rw [hr]; exact hk) ?_
    refine g_istore hC dL_law_2292 rfl (by decide) (lv' := [(6, .int o2.1), (5, .int (0 : Int32)), (0, .ref b), (1, .ref (mB E + 0)), (2, .ref (mB E + 75)), (3, .ref (mB E + 105)), (4, .int i)]) rfl ?_
    refine g_aload_n hC dL_law_2294 (i := 2) rfl (q := 4) rfl ?_
    refine g_cV1 hC cv_X12_thrown wd_1835 ⟨Nat.le_of_ble_eq_true rfl, Nat.le_of_ble_eq_true rfl⟩ rfl (by decide) dL_law_2295 (As := []) (st := []) (ok_X12_thrown hC.2.2.2.2.2.2.2.1 hW h3) rfl rfl (Nat.le_of_ble_eq_true rfl) (by rw [hr]; exact hk) ?_
    refine g_iload hC dL_law_2298 (q := 1) rfl ?_
    refine g_ic_eq hC dL_law_2300 (tgt := 2305) (by decide) (fun _ => ?_) (fun ne => absurd rfl ne)
    refine g_iload hC dL_law_2305 (q := 1) rfl ?_
    refine g_if_ne hC dL_law_2307 (tgt := 2322) (by decide) (fun ne => absurd rfl ne) (fun _ => ?_)
    refine g_aload_n hC dL_law_2310 (i := 3) rfl (q := 5) rfl ?_
    refine g_iconst hC dL_law_2311 (v := (0 : Int32)) (by decide) ?_
    refine g_lald hC (len := 1) rfl (by decide) (inB_in (by decide)) dL_law_2312 ?_
    refine g_iload hC dL_law_2313 (q := 0) rfl ?_
    refine g_i2l hC dL_law_2315 ?_
    refine g_lcmp hC dL_law_2316 ?_
    have hcmp : (mUL L 105 0 (o.1).toInt64) 105 (0 : Int32).toNatClampNeg = (o2.1).toInt64 := (show mUL _ 105 0 _ 105 0 = _ from by simp only [mUL, and_self, if_true]; rw [h4])
    refine g_if_eq hC dL_law_2317 (tgt := 2322) (by decide) (fun _ => ?_) (fun ne => absurd (by rw [hcmp]; exact lg_same _) ne)
    refine g_goto hC dL_law_2322 (tgt := 2418) (by decide) ?_
    refine g_lv [2, 3, 4, 5, 6] rfl ?_
    exact kk _ _ _ hP
  · obtain ⟨q0, I1⟩ := q
    obtain ⟨hq, h3⟩ := h3
    replace hq : q0 = 1 := hq
    subst hq
    refine g_aload_n hC dL_law_2269 (i := 1) rfl (q := 1) rfl ?_
    refine g_aload_n hC dL_law_2270 (i := 0) rfl (q := 0) rfl ?_
    refine g_iload hC dL_law_2271 (q := 4) rfl ?_
    refine g_iconst hC dL_law_2273 (v := (1 : Int32)) (by decide) ?_
    refine g_iadd hC dL_law_2274 ?_
    refine g_scr hC hX hi1 dL_law_2275 ?_
    rw [← ha1]
    refine g_aload_n hC dL_law_2276 (i := 3) rfl (q := 3) rfl ?_
    refine g_cW hC hN (M2 := mL_without) (na := 3) wd_1617 wd_126 wd_1616 wd_1615 ⟨by decide, by decide, by decide⟩ ⟨Nat.le_of_ble_eq_true rfl, Nat.le_of_ble_eq_true rfl⟩ dL_law_2277 (As := [.ref (mB E + 0), .int a1, .ref (mB E + 105)]) (st := []) (ow_without_t1 hC.2.2.2.2.2.2.2.1 hW h1) rfl rfl (Nat.le_of_ble_eq_true rfl) (by rw [hr]; exact hk) ?_
    refine g_istore hC dL_law_2280 rfl (by decide) (lv' := [(5, .int (1 : Int32)), (0, .ref b), (1, .ref (mB E + 0)), (2, .ref (mB E + 75)), (3, .ref (mB E + 105)), (4, .int i)]) rfl ?_
    refine g_aload_n hC dL_law_2282 (i := 2) rfl (q := 3) rfl ?_
    refine g_aload_n hC dL_law_2283 (i := 0) rfl (q := 1) rfl ?_
    refine g_iload hC dL_law_2284 (q := 5) rfl ?_
    refine g_iconst hC dL_law_2286 (v := (1 : Int32)) (by decide) ?_
    refine g_iadd hC dL_law_2287 ?_
    refine g_scr hC hX hi1 dL_law_2288 ?_
    rw [← ha1]
    refine g_cV1 hC cv_X12_without wd_2302 ⟨Nat.le_of_ble_eq_true rfl, Nat.le_of_ble_eq_true rfl⟩ rfl (by decide) dL_law_2289 (As := [.int a1]) (st := []) (ok_X12_without hC.2.2.2.2.2.2.2.1 hW h2) rfl rfl (Nat.le_of_ble_eq_true rfl) (by rw [hr]; exact hk) ?_
    refine g_istore hC dL_law_2292 rfl (by decide) (lv' := [(6, .int o2.1), (5, .int (1 : Int32)), (0, .ref b), (1, .ref (mB E + 0)), (2, .ref (mB E + 75)), (3, .ref (mB E + 105)), (4, .int i)]) rfl ?_
    refine g_aload_n hC dL_law_2294 (i := 2) rfl (q := 4) rfl ?_
    refine g_cV1 hC cv_X12_thrown wd_1835 ⟨Nat.le_of_ble_eq_true rfl, Nat.le_of_ble_eq_true rfl⟩ rfl (by decide) dL_law_2295 (As := []) (st := []) (ok_X12_thrown hC.2.2.2.2.2.2.2.1 hW h3) rfl rfl (Nat.le_of_ble_eq_true rfl) (by rw [hr]; exact hk) ?_
    refine g_iload hC dL_law_2298 (q := 1) rfl ?_
    refine g_ic_eq hC dL_law_2300 (tgt := 2305) (by decide) (fun _ => ?_) (fun ne => absurd rfl ne)
    refine g_iload hC dL_law_2305 (q := 1) rfl ?_
    refine g_if_ne hC dL_law_2307 (tgt := 2322) (by decide) (fun _ => ?_) (fun e => absurd e (by decide))
    refine g_goto hC dL_law_2322 (tgt := 2418) (by decide) ?_
    refine g_lv [2, 3, 4, 5, 6] rfl ?_
    exact kk _ _ _ hP
def st_often (Fu : Nat) (I : mIT) (R : mRT) (L : mLT) (a1 : Int32) (P : mIT → mRT → mLT → Prop) : Prop := (∃ o, f_X11_often Fu R I a1 = some (.inl o) ∧ ∃ o2, f_X12_often Fu o.2 a1 = some o2 ∧ f_X12_thrown Fu o2.2 = some 0 ∧ o.1 = o2.1 ∧ P o2.2 R (mUL L 105 0 (o.1).toInt64)) ∨ (∃ q, f_X11_often Fu R I a1 = some (.inr q) ∧ ∃ o2, f_X12_often Fu q.2 a1 = some o2 ∧ (q.1 = 1 ∧ f_X12_thrown Fu o2.2 = some 1) ∧ P o2.2 R L)
set_option maxRecDepth 20000 in
theorem lc_often {X : mXT} {E : mEn} (hC : mC X E mLaw RL code) (hN : va_Nc "java/lang/IllegalArgumentException" "java/util/NoSuchElementException" X.2.2.2.1) (hr : X.2.2.2.2.2.2.2.2.2.2.1 = (1147, 45333)) {b Ln : Nat} {xs : Nat → Int32} (hX : va_X b Ln xs X.2.2.2.1 E.2.2.1 ∧ b < mB E) {i : Int32} {Fu : Nat} {I : mIT} {R : mRT} {L : mLT} {k z : Nat} (hW : mWd R) (hk : k + 1 ≤ 1147 ∧ z + 6 ≤ 45333) {a1 : Int32} (hi1 : vp_in (i + 1) Ln) (ha1 : a1 = xs (i + 1).toNatClampNeg) {P : mIT → mRT → mLT → Prop} (hP : st_often Fu I R L a1 P) (kk : ∀ (I' : mIT) (R' : mRT) (L' : mLT), P I' R' L' → mG X E 2418 [(0, .ref b), (1, .ref (mB E + 0)), (2, .ref (mB E + 75)), (3, .ref (mB E + 105)), (4, .int i)] [] 106 1 I' R' L' (k + 1) (z + 6)) : mG X E 2325 [(0, .ref b), (1, .ref (mB E + 0)), (2, .ref (mB E + 75)), (3, .ref (mB E + 105)), (4, .int i)] [] 106 1 I R L k z := by
  rcases hP with ⟨o, h1, o2, h2, h3, h4, hP⟩ | ⟨q, h1, o2, h2, h3, hP⟩
  · refine g_aload_n hC dL_law_2325 (i := 1) rfl (q := 1) rfl ?_
    refine g_aload_n hC dL_law_2326 (i := 0) rfl (q := 0) rfl ?_
    refine g_iload hC dL_law_2327 (q := 4) rfl ?_
    refine g_iconst hC dL_law_2329 (v := (1 : Int32)) (by decide) ?_
    refine g_iadd hC dL_law_2330 ?_
    refine g_scr hC hX hi1 dL_law_2331 ?_
    rw [← ha1]
    refine g_aload_n hC dL_law_2332 (i := 3) rfl (q := 3) rfl ?_
    refine g_cW hC hN (M2 := mL_often) (na := 3) wd_1624 wd_126 wd_1623 wd_1622 ⟨by decide, by decide, by decide⟩ ⟨Nat.le_of_ble_eq_true rfl, Nat.le_of_ble_eq_true rfl⟩ dL_law_2333 (As := [.ref (mB E + 0), .int a1, .ref (mB E + 105)]) (st := []) (ow_often_r hC.2.2.2.2.2.2.2.1 hW h1) rfl rfl (Nat.le_of_ble_eq_true rfl) (by rw [hr]; exact hk) ?_
    refine g_istore hC dL_law_2336 rfl (by decide) (lv' := [(5, .int (0 : Int32)), (0, .ref b), (1, .ref (mB E + 0)), (2, .ref (mB E + 75)), (3, .ref (mB E + 105)), (4, .int i)]) rfl ?_
    refine g_aload_n hC dL_law_2338 (i := 2) rfl (q := 3) rfl ?_
    refine g_aload_n hC dL_law_2339 (i := 0) rfl (q := 1) rfl ?_
    refine g_iload hC dL_law_2340 (q := 5) rfl ?_
    refine g_iconst hC dL_law_2342 (v := (1 : Int32)) (by decide) ?_
    refine g_iadd hC dL_law_2343 ?_
    refine g_scr hC hX hi1 dL_law_2344 ?_
    rw [← ha1]
    refine g_cV1 hC cv_X12_often wd_2306 ⟨Nat.le_of_ble_eq_true rfl, Nat.le_of_ble_eq_true rfl⟩ rfl (by decide) dL_law_2345 (As := [.int a1]) (st := []) (ok_X12_often hC.2.2.2.2.2.2.2.1 hW h2) rfl rfl (Nat.le_of_ble_eq_true rfl) (by rw [hr]; exact hk) ?_
    refine g_istore hC dL_law_2348 rfl (by decide) (lv' := [(6, .int o2.1), (5, .int (0 : Int32)), (0, .ref b), (1, .ref (mB E + 0)), (2, .ref (mB E + 75)), (3, .ref (mB E + 105)), (4, .int i)]) rfl ?_
    refine g_aload_n hC dL_law_2350 (i := 2) rfl (q := 4) rfl ?_
    refine g_cV1 hC cv_X12_thrown wd_1835 ⟨Nat.le_of_ble_eq_true rfl, Nat.le_of_ble_eq_true rfl⟩ rfl (by decide) dL_law_2351 (As := []) (st := []) (ok_X12_thrown hC.2.2.2.2.2.2.2.1 hW h3) rfl rfl (Nat.le_of_ble_eq_true rfl) (by rw [hr]; exact hk) ?_
    refine g_iload hC dL_law_2354 (q := 1) rfl ?_
    refine g_ic_eq hC dL_law_2356 (tgt := 2361) (by decide) (fun _ => ?_) (fun ne => absurd rfl ne)
    refine g_iload hC dL_law_2361 (q := 1) rfl ?_
    refine g_if_ne hC dL_law_2363 (tgt := 2378) (by decide) (fun ne => absurd rfl ne) (fun _ => ?_)
    refine g_aload_n hC dL_law_2366 (i := 3) rfl (q := 5) rfl ?_
    refine g_iconst hC dL_law_2367 (v := (0 : Int32)) (by decide) ?_
    refine g_lald hC (len := 1) rfl (by decide) (inB_in (by decide)) dL_law_2368 ?_
    refine g_iload hC dL_law_2369 (q := 0) rfl ?_
    refine g_i2l hC dL_law_2371 ?_
    refine g_lcmp hC dL_law_2372 ?_
    have hcmp : (mUL L 105 0 (o.1).toInt64) 105 (0 : Int32).toNatClampNeg = (o2.1).toInt64 := (show mUL _ 105 0 _ 105 0 = _ from by simp only [mUL, and_self, if_true]; rw [h4])
    refine g_if_eq hC dL_law_2373 (tgt := 2378) (by decide) (fun _ => ?_) (fun ne => absurd (by rw [hcmp]; exact lg_same _) ne)
    refine g_goto hC dL_law_2378 (tgt := 2418) (by decide) ?_
    refine g_lv [2, 3, 4, 5, 6] rfl ?_
    exact kk _ _ _ hP
  · obtain ⟨q0, I1⟩ := q
    obtain ⟨hq, h3⟩ := h3
    replace hq : q0 = 1 := hq
    subst hq
    refine g_aload_n hC dL_law_2325 (i := 1) rfl (q := 1) rfl ?_
    refine g_aload_n hC dL_law_2326 (i := 0) rfl (q := 0) rfl ?_
    refine g_iload hC dL_law_2327 (q := 4) rfl ?_
    refine g_iconst hC dL_law_2329 (v := (1 : Int32)) (by decide) ?_
    refine g_iadd hC dL_law_2330 ?_
    refine g_scr hC hX hi1 dL_law_2331 ?_
    rw [← ha1]
    refine g_aload_n hC dL_law_2332 (i := 3) rfl (q := 3) rfl ?_
    refine g_cW hC hN (M2 := mL_often) (na := 3) wd_1624 wd_126 wd_1623 wd_1622 ⟨by decide, by decide, by decide⟩ ⟨Nat.le_of_ble_eq_true rfl, Nat.le_of_ble_eq_true rfl⟩ dL_law_2333 (As := [.ref (mB E + 0), .int a1, .ref (mB E + 105)]) (st := []) (ow_often_t1 hC.2.2.2.2.2.2.2.1 hW h1) rfl rfl (Nat.le_of_ble_eq_true rfl) (by rw [hr]; exact hk) ?_
    refine g_istore hC dL_law_2336 rfl (by decide) (lv' := [(5, .int (1 : Int32)), (0, .ref b), (1, .ref (mB E + 0)), (2, .ref (mB E + 75)), (3, .ref (mB E + 105)), (4, .int i)]) rfl ?_
    refine g_aload_n hC dL_law_2338 (i := 2) rfl (q := 3) rfl ?_
    refine g_aload_n hC dL_law_2339 (i := 0) rfl (q := 1) rfl ?_
    refine g_iload hC dL_law_2340 (q := 5) rfl ?_
    refine g_iconst hC dL_law_2342 (v := (1 : Int32)) (by decide) ?_
    refine g_iadd hC dL_law_2343 ?_
    refine g_scr hC hX hi1 dL_law_2344 ?_
    rw [← ha1]
    refine g_cV1 hC cv_X12_often wd_2306 ⟨Nat.le_of_ble_eq_true rfl, Nat.le_of_ble_eq_true rfl⟩ rfl (by decide) dL_law_2345 (As := [.int a1]) (st := []) (ok_X12_often hC.2.2.2.2.2.2.2.1 hW h2) rfl rfl (Nat.le_of_ble_eq_true rfl) (by rw [hr]; exact hk) ?_
    refine g_istore hC dL_law_2348 rfl (by decide) (lv' := [(6, .int o2.1), (5, .int (1 : Int32)), (0, .ref b), (1, .ref (mB E + 0)), (2, .ref (mB E + 75)), (3, .ref (mB E + 105)), (4, .int i)]) rfl ?_
    refine g_aload_n hC dL_law_2350 (i := 2) rfl (q := 4) rfl ?_
    refine g_cV1 hC cv_X12_thrown wd_1835 ⟨Nat.le_of_ble_eq_true rfl, Nat.le_of_ble_eq_true rfl⟩ rfl (by decide) dL_law_2351 (As := []) (st := []) (ok_X12_thrown hC.2.2.2.2.2.2.2.1 hW h3) rfl rfl (Nat.le_of_ble_eq_true rfl) (by rw [hr]; exact hk) ?_
    refine g_iload hC dL_law_2354 (q := 1) rfl ?_
    refine g_ic_eq hC dL_law_2356 (tgt := 2361) (by decide) (fun _ => ?_) (fun ne => absurd rfl ne)
    refine g_iload hC dL_law_2361 (q := 1) rfl ?_
    refine g_if_ne hC dL_law_2363 (tgt := 2378) (by decide) (fun _ => ?_) (fun e => absurd e (by decide))
    refine g_goto hC dL_law_2378 (tgt := 2418) (by decide) ?_
    refine g_lv [2, 3, 4, 5, 6] rfl ?_
    exact kk _ _ _ hP
def st_spare (Fu : Nat) (I : mIT) (R : mRT) (L : mLT)  (P : mIT → mRT → mLT → Prop) : Prop := ∃ o, f_X11_spare Fu R I = some o ∧ ∃ o2, f_X12_spare Fu o.2 = some o2 ∧ o.1 = o2.1 ∧ P o2.2 R L
set_option maxRecDepth 20000 in
theorem lc_spare {X : mXT} {E : mEn} (hC : mC X E mLaw RL code) (hN : va_Nc "java/lang/IllegalArgumentException" "java/util/NoSuchElementException" X.2.2.2.1) (hr : X.2.2.2.2.2.2.2.2.2.2.1 = (1147, 45333)) {b Ln : Nat} {xs : Nat → Int32} (hX : va_X b Ln xs X.2.2.2.1 E.2.2.1 ∧ b < mB E) {i : Int32} {Fu : Nat} {I : mIT} {R : mRT} {L : mLT} {k z : Nat} (hW : mWd R) (hk : k + 1 ≤ 1147 ∧ z + 6 ≤ 45333)  {P : mIT → mRT → mLT → Prop} (hP : st_spare Fu I R L  P) (kk : ∀ (I' : mIT) (R' : mRT) (L' : mLT), P I' R' L' → mG X E 2418 [(0, .ref b), (1, .ref (mB E + 0)), (2, .ref (mB E + 75)), (3, .ref (mB E + 105)), (4, .int i)] [] 106 1 I' R' L' (k + 1) (z + 6)) : mG X E 2381 [(0, .ref b), (1, .ref (mB E + 0)), (2, .ref (mB E + 75)), (3, .ref (mB E + 105)), (4, .int i)] [] 106 1 I R L k z := by
  obtain ⟨o, h1, o2, h2, hP⟩ := hP
  refine g_aload_n hC dL_law_2381 (i := 1) rfl (q := 1) rfl ?_
  refine g_cV1 hC cv_X11_spare wd_811 ⟨Nat.le_of_ble_eq_true rfl, Nat.le_of_ble_eq_true rfl⟩ rfl (by decide) dL_law_2382 (As := []) (st := []) (ok_X11_spare hC.2.2.2.2.2.2.2.1 hW h1) rfl rfl (Nat.le_of_ble_eq_true rfl) (by rw [hr]; exact ⟨Nat.le_trans (Nat.le_add_right _ _) hk.1, Nat.le_trans (Nat.le_add_right _ _) hk.2⟩) ?_
  refine g_aload_n hC dL_law_2385 (i := 2) rfl (q := 2) rfl ?_
  refine g_cV1 hC cv_X12_spare wd_2310 ⟨Nat.le_of_ble_eq_true rfl, Nat.le_of_ble_eq_true rfl⟩ rfl (by decide) dL_law_2386 (As := []) (st := [.int o.1]) (ok_X12_spare hC.2.2.2.2.2.2.2.1 hW h2) rfl rfl (Nat.le_of_ble_eq_true rfl) (by rw [hr]; exact ⟨Nat.le_trans (Nat.le_add_right _ _) hk.1, Nat.le_trans (Nat.le_add_right _ _) hk.2⟩) ?_
  refine g_ic_eq hC dL_law_2389 (tgt := 2418) (by decide) (fun _ => ?_) (fun ne => absurd hP.1 ne)
  refine g_wid (Nat.le_add_right _ 1) (Nat.le_add_right _ 6) ?_
  exact kk _ _ _ hP.2
def st_image (Fu : Nat) (I : mIT) (R : mRT) (L : mLT)  (P : mIT → mRT → mLT → Prop) : Prop := ∃ o, f_X11_image Fu I = some o ∧ ∃ o2, f_X12_image Fu o = some o2 ∧ P o2 R L
set_option maxRecDepth 20000 in
theorem lc_image {X : mXT} {E : mEn} (hC : mC X E mLaw RL code) (hN : va_Nc "java/lang/IllegalArgumentException" "java/util/NoSuchElementException" X.2.2.2.1) (hr : X.2.2.2.2.2.2.2.2.2.2.1 = (1147, 45333)) {b Ln : Nat} {xs : Nat → Int32} (hX : va_X b Ln xs X.2.2.2.1 E.2.2.1 ∧ b < mB E) {i : Int32} {Fu : Nat} {I : mIT} {R : mRT} {L : mLT} {k z : Nat} (hW : mWd R) (hk : k + 1 ≤ 1147 ∧ z + 6 ≤ 45333)  {P : mIT → mRT → mLT → Prop} (hP : st_image Fu I R L  P) (kk : ∀ (I' : mIT) (R' : mRT) (L' : mLT), P I' R' L' → mG X E 2418 [(0, .ref b), (1, .ref (mB E + 0)), (2, .ref (mB E + 75)), (3, .ref (mB E + 105)), (4, .int i)] [] 106 1 I' R' L' (k + 1) (z + 6)) : mG X E 2394 [(0, .ref b), (1, .ref (mB E + 0)), (2, .ref (mB E + 75)), (3, .ref (mB E + 105)), (4, .int i)] [] 106 1 I R L k z := by
  obtain ⟨o, h1, o2, h2, hP⟩ := hP
  refine g_aload_n hC dL_law_2394 (i := 1) rfl (q := 1) rfl ?_
  refine g_cV0 hC cv_X11_image wd_815 ⟨Nat.le_of_ble_eq_true rfl, Nat.le_of_ble_eq_true rfl⟩ rfl (by decide) dL_law_2395 (As := []) (st := []) (ok_X11_image hC.2.2.2.2.2.2.2.1 hW h1) rfl rfl (Nat.le_of_ble_eq_true rfl) (by rw [hr]; exact ⟨Nat.le_trans (Nat.le_add_right _ _) hk.1, Nat.le_trans (Nat.le_add_right _ _) hk.2⟩) ?_
  refine g_aload_n hC dL_law_2398 (i := 2) rfl (q := 2) rfl ?_
  refine g_cV0 hC cv_X12_image wd_2314 ⟨Nat.le_of_ble_eq_true rfl, Nat.le_of_ble_eq_true rfl⟩ rfl (by decide) dL_law_2399 (As := []) (st := []) (ok_X12_image hC.2.2.2.2.2.2.2.1 hW h2) rfl rfl (Nat.le_of_ble_eq_true rfl) (by rw [hr]; exact ⟨Nat.le_trans (Nat.le_add_right _ _) hk.1, Nat.le_trans (Nat.le_add_right _ _) hk.2⟩) ?_
  refine g_goto hC dL_law_2402 (tgt := 2418) (by decide) ?_
  refine g_wid (Nat.le_add_right _ 1) (Nat.le_add_right _ 6) ?_
  exact kk _ _ _ hP
def st_restore (Fu : Nat) (I : mIT) (R : mRT) (L : mLT)  (P : mIT → mRT → mLT → Prop) : Prop := ∃ o, f_X11_restore Fu I = some o ∧ ∃ o2, f_X12_restore Fu o.2 = some o2 ∧ o.1 = o2.1 ∧ P o2.2 R L
set_option maxRecDepth 20000 in
theorem lc_restore {X : mXT} {E : mEn} (hC : mC X E mLaw RL code) (hN : va_Nc "java/lang/IllegalArgumentException" "java/util/NoSuchElementException" X.2.2.2.1) (hr : X.2.2.2.2.2.2.2.2.2.2.1 = (1147, 45333)) {b Ln : Nat} {xs : Nat → Int32} (hX : va_X b Ln xs X.2.2.2.1 E.2.2.1 ∧ b < mB E) {i : Int32} {Fu : Nat} {I : mIT} {R : mRT} {L : mLT} {k z : Nat} (hW : mWd R) (hk : k + 1 ≤ 1147 ∧ z + 6 ≤ 45333)  {P : mIT → mRT → mLT → Prop} (hP : st_restore Fu I R L  P) (kk : ∀ (I' : mIT) (R' : mRT) (L' : mLT), P I' R' L' → mG X E 2418 [(0, .ref b), (1, .ref (mB E + 0)), (2, .ref (mB E + 75)), (3, .ref (mB E + 105)), (4, .int i)] [] 106 1 I' R' L' (k + 1) (z + 6)) : mG X E 2405 [(0, .ref b), (1, .ref (mB E + 0)), (2, .ref (mB E + 75)), (3, .ref (mB E + 105)), (4, .int i)] [] 106 1 I R L k z := by
  obtain ⟨o, h1, o2, h2, hP⟩ := hP
  refine g_aload_n hC dL_law_2405 (i := 1) rfl (q := 1) rfl ?_
  refine g_cV1 hC cv_X11_restore wd_830 ⟨Nat.le_of_ble_eq_true rfl, Nat.le_of_ble_eq_true rfl⟩ rfl (by decide) dL_law_2406 (As := []) (st := []) (ok_X11_restore hC.2.2.2.2.2.2.2.1 hW h1) rfl rfl (Nat.le_of_ble_eq_true rfl) (by rw [hr]; exact ⟨Nat.le_trans (Nat.le_add_right _ _) hk.1, Nat.le_trans (Nat.le_add_right _ _) hk.2⟩) ?_
  refine g_aload_n hC dL_law_2409 (i := 2) rfl (q := 2) rfl ?_
  refine g_cV1 hC cv_X12_restore wd_2318 ⟨Nat.le_of_ble_eq_true rfl, Nat.le_of_ble_eq_true rfl⟩ rfl (by decide) dL_law_2410 (As := []) (st := [.int o.1]) (ok_X12_restore hC.2.2.2.2.2.2.2.1 hW h2) rfl rfl (Nat.le_of_ble_eq_true rfl) (by rw [hr]; exact ⟨Nat.le_trans (Nat.le_add_right _ _) hk.1, Nat.le_trans (Nat.le_add_right _ _) hk.2⟩) ?_
  refine g_ic_eq hC dL_law_2413 (tgt := 2418) (by decide) (fun _ => ?_) (fun ne => absurd hP.1 ne)
  refine g_wid (Nat.le_add_right _ 1) (Nat.le_add_right _ 6) ?_
  exact kk _ _ _ hP.2
