theorem mW_succ {E : mEn} {n : Nat} (I : mIT) (R : mRT) (L : mLT) : mW E (n + 1) I R L = mW E n I R L ++ [(mB E + n, mE E I R L n)] := by
  simp [mW, List.range_succ]
/-- from cell a on all is as it is when made -/
def mFr (a : Nat) (I : mIT) (R : mRT) (L : mLT) : Prop := ∀ c, a ≤ c → ∀ j, I c j = 0 ∧ R c j = none ∧ L c j = 0
theorem mFr.up {a b : Nat} {I : mIT} {R : mRT} {L : mLT} (h : mFr a I R L) (hb : a ≤ b) : mFr b I R L := fun c hc j => h c (Nat.le_trans hb hc) j
theorem mFr.wI {a q j : Nat} {v : Int32} {I : mIT} {R : mRT} {L : mLT} (h : mFr a I R L) (hq : q < a) : mFr a (mU I q j v) R L := fun c hc i => by
  refine ⟨?_, (h c hc i).2⟩
  have : c ≠ q := by omega
  simp [mU, this, (h c hc i).1]
theorem mFr.wR {a q j : Nat} {v : Option Nat} {I : mIT} {R : mRT} {L : mLT} (h : mFr a I R L) (hq : q < a) : mFr a I (mUR R q j v) L := fun c hc i => by
  refine ⟨(h c hc i).1, ?_, (h c hc i).2.2⟩
  have : c ≠ q := by omega
  simp [mUR, this, (h c hc i).2.1]
theorem mFr.wL {a q j : Nat} {v : Int64} {I : mIT} {R : mRT} {L : mLT} (h : mFr a I R L) (hq : q < a) : mFr a I R (mUL L q j v) := fun c hc i => by
  refine ⟨(h c hc i).1, (h c hc i).2.1, ?_⟩
  have : c ≠ q := by omega
  simp [mUL, this, (h c hc i).2.2]
def mOkT (ty : FieldType) : Bool := match ty with
  | .int => true
  | .boolean => true
  | .long => true
  | .object _ => true
  | .array _ => true
  | _ => false
theorem mOkT_d {E : mEn} {ty : FieldType} (h : mOkT ty = true) : defaultValue ty = mV E ty 0 none 0 := by
  cases ty <;> first | rfl | cases h
section MAKE
variable {X : mXT} {E : mEn} {M : mMt} {own : String} {cc : ByteArray} {pc : Nat} {lv : List (Nat × Value)} {st : List Value} {n x : Nat} {I : mIT} {R : mRT} {L : mLT} {k z : Nat}
theorem g_new (hC : mC X E M own cc) {C : String} {T : u_T} {N ci idx : Nat} (hcl : vwCl[ci]? = some (C, T, N)) (hN : N = mNf ci) (hin : ∀ w ∈ u_ws C T N, w ∈ tbG) (hty : ∀ b, b < N → parseFieldDescriptor (T b).2.2.1 = some (mTy ci b)) (hok : ∀ b, b < N → mOkT (mTy ci b) = true) (hlk : Cond.classLink own idx C ∈ tbG) (hins : Cond.instantiable C N ∈ tbG) (hini : Cond.initialized C ∈ tbG) (hT : mT n = (0, ci)) (hx : x = 0) (hF : mFr n I R L) (hc : k + 1 ≤ X.2.2.2.2.2.2.2.2.2.2.1.1) (hs : z + N ≤ X.2.2.2.2.2.2.2.2.2.2.1.2) (hd : decode cc pc = .ok (.new idx, 3)) (kk : mG X E (pc + 3) lv (.ref (mB E + n) :: st) (n + 1) x I R L (k + 1) (z + N)) : mG X E pc lv st n x I R L k z := by
  intro ls H locs hl hR ho
  have hsz : H.size = mB E + n := hR.1.2 hx
  have hKn := hC.2.2.2.1.1.1 ci _ hcl
  refine W.newcK hC.1.1 hC.1.2 hC.2.1.2 (hC.2.2.1 _ hlk) (hC.2.2.1 _ hins) (hC.2.2.1 _ hini) rfl hd hc hs hKn.2.1 hsz (fun H1 kC hkC e1 z1 o1 => ?_)
  refine kk ls H1 locs hl ⟨⟨by omega, fun _ => by omega⟩, fun q hq => (o1 q (by omega)).trans (hR.2.1 q hq), ?_⟩ ho
  rw [mW_succ]
  refine (hR.2.2.kept (fun k x hx => o1 x.1 (by rw [← hsz]; exact (hR.2.2 k x hx).lt))).app (fun k x hx => ?_)
  have hz : k < 1 := (List.getElem?_eq_some_iff.mp hx).1
  rw [show k = 0 by omega] at hx
  cases hx
  show va_at E.1 vwCl (mB E + n, mE E I R L n) H1
  have e9 : mE E I R L n = .inr (ci, mFs E ci (I n) (R n) (L n)) := by simp only [mE, hT]
  rw [e9]
  refine ⟨_, hcl, (u_born (mTy ci) hC.2.2.1 hin hKn hkC e1 hty).to (fun j hj => ?_)⟩
  have hj' : j < mNf ci := by rw [← hN]; exact hj
  unfold vp_V
  rw [List.getD_eq_getElem?_getD, mFs_at hj']
  obtain ⟨f1, f2, f3⟩ := hF n (Nat.le_refl _) j
  rw [f1, f2, f3]
  exact mOkT_d (E := E) (hok j hj)
theorem g_naI (hC : mC X E M own cc) {i : Int32} {N : Nat} (har : Cond.arrayClass .int ∈ tbG) (hT : mT n = (1, N)) (hx : x = 0) (hF : mFr n I R L) (hi : ¬ i < 0) (hN : i.toNatClampNeg = N) (hb : N ≤ 10000) (hc : k + 1 ≤ X.2.2.2.2.2.2.2.2.2.2.1.1) (hs : z + N ≤ X.2.2.2.2.2.2.2.2.2.2.1.2) (hd : decode cc pc = .ok (.newarray .int, 2)) (kk : mG X E (pc + 2) lv (.ref (mB E + n) :: st) (n + 1) x I R L (k + 1) (z + N)) : mG X E pc lv (.int i :: st) n x I R L k z := by
  intro ls H locs hl hR ho
  have hsz : H.size = mB E + n := hR.1.2 hx
  refine va_newaK (atype := .int) hC.1.1 hC.1.2 (hC.2.2.1 _ har) rfl hd rfl hi hN (by show N * 4 ≤ _; omega) hc hs hsz (fun H1 cA e1 z1 o1 hA hf => ?_)
  refine kk ls H1 locs hl ⟨⟨by omega, fun _ => by omega⟩, fun q hq => (o1 q (by omega)).trans (hR.2.1 q hq), ?_⟩ ho
  rw [mW_succ]
  refine (hR.2.2.kept (fun k x hx => o1 x.1 (by rw [← hsz]; exact (hR.2.2 k x hx).lt))).app (fun k x hx => ?_)
  have hz : k < 1 := (List.getElem?_eq_some_iff.mp hx).1
  rw [show k = 0 by omega] at hx
  cases hx
  show va_at E.1 vwCl (mB E + n, mE E I R L n) H1
  have e9 : mE E I R L n = .inl (E.2.1.1, N, .inl (I n)) := by simp only [mE, hT]
  rw [e9]
  show H1[mB E + n]? = some (vp_cell _ _)
  have hcA : cA = E.2.1.1 := Option.some.inj (hf.symm.trans ((hC.2.2.2.1.1.2 0 _ rfl).2))
  rw [e1, hcA, vp_cell_i]
  have hfun : (fun j => Value.int (I n j)) = fun _ => defaultValue (newarray.typeOf .int) := by
    funext j
    rw [(hF n (Nat.le_refl _) j).1]
    rfl
  rw [hfun]
theorem g_naB (hC : mC X E M own cc) {i : Int32} {N : Nat} (har : Cond.arrayClass .byte ∈ tbG) (hT : mT n = (2, N)) (hx : x = 0) (hF : mFr n I R L) (hi : ¬ i < 0) (hN : i.toNatClampNeg = N) (hb : N ≤ 10000) (hc : k + 1 ≤ X.2.2.2.2.2.2.2.2.2.2.1.1) (hs : z + N ≤ X.2.2.2.2.2.2.2.2.2.2.1.2) (hd : decode cc pc = .ok (.newarray .byte, 2)) (kk : mG X E (pc + 2) lv (.ref (mB E + n) :: st) (n + 1) x I R L (k + 1) (z + N)) : mG X E pc lv (.int i :: st) n x I R L k z := by
  intro ls H locs hl hR ho
  have hsz : H.size = mB E + n := hR.1.2 hx
  refine va_newaK (atype := .byte) hC.1.1 hC.1.2 (hC.2.2.1 _ har) rfl hd rfl hi hN (by show N * 1 ≤ _; omega) hc hs hsz (fun H1 cA e1 z1 o1 hA hf => ?_)
  refine kk ls H1 locs hl ⟨⟨by omega, fun _ => by omega⟩, fun q hq => (o1 q (by omega)).trans (hR.2.1 q hq), ?_⟩ ho
  rw [mW_succ]
  refine (hR.2.2.kept (fun k x hx => o1 x.1 (by rw [← hsz]; exact (hR.2.2 k x hx).lt))).app (fun k x hx => ?_)
  have hz : k < 1 := (List.getElem?_eq_some_iff.mp hx).1
  rw [show k = 0 by omega] at hx
  cases hx
  show va_at E.1 vwCl (mB E + n, mE E I R L n) H1
  have e9 : mE E I R L n = .inl (E.2.1.2.1, N, .inl (I n)) := by simp only [mE, hT]
  rw [e9]
  show H1[mB E + n]? = some (vp_cell _ _)
  have hcA : cA = E.2.1.2.1 := Option.some.inj (hf.symm.trans ((hC.2.2.2.1.1.2 1 _ rfl).2))
  rw [e1, hcA, vp_cell_i]
  have hfun : (fun j => Value.int (I n j)) = fun _ => defaultValue (newarray.typeOf .byte) := by
    funext j
    rw [(hF n (Nat.le_refl _) j).1]
    rfl
  rw [hfun]
theorem g_naZ (hC : mC X E M own cc) {i : Int32} {N : Nat} (har : Cond.arrayClass .boolean ∈ tbG) (hT : mT n = (3, N)) (hx : x = 0) (hF : mFr n I R L) (hi : ¬ i < 0) (hN : i.toNatClampNeg = N) (hb : N ≤ 10000) (hc : k + 1 ≤ X.2.2.2.2.2.2.2.2.2.2.1.1) (hs : z + N ≤ X.2.2.2.2.2.2.2.2.2.2.1.2) (hd : decode cc pc = .ok (.newarray .boolean, 2)) (kk : mG X E (pc + 2) lv (.ref (mB E + n) :: st) (n + 1) x I R L (k + 1) (z + N)) : mG X E pc lv (.int i :: st) n x I R L k z := by
  intro ls H locs hl hR ho
  have hsz : H.size = mB E + n := hR.1.2 hx
  refine va_newaK (atype := .boolean) hC.1.1 hC.1.2 (hC.2.2.1 _ har) rfl hd rfl hi hN (by show N * 1 ≤ _; omega) hc hs hsz (fun H1 cA e1 z1 o1 hA hf => ?_)
  refine kk ls H1 locs hl ⟨⟨by omega, fun _ => by omega⟩, fun q hq => (o1 q (by omega)).trans (hR.2.1 q hq), ?_⟩ ho
  rw [mW_succ]
  refine (hR.2.2.kept (fun k x hx => o1 x.1 (by rw [← hsz]; exact (hR.2.2 k x hx).lt))).app (fun k x hx => ?_)
  have hz : k < 1 := (List.getElem?_eq_some_iff.mp hx).1
  rw [show k = 0 by omega] at hx
  cases hx
  show va_at E.1 vwCl (mB E + n, mE E I R L n) H1
  have e9 : mE E I R L n = .inl (E.2.1.2.2.1, N, .inl (I n)) := by simp only [mE, hT]
  rw [e9]
  show H1[mB E + n]? = some (vp_cell _ _)
  have hcA : cA = E.2.1.2.2.1 := Option.some.inj (hf.symm.trans ((hC.2.2.2.1.1.2 2 _ rfl).2))
  rw [e1, hcA, vp_cell_i]
  have hfun : (fun j => Value.int (I n j)) = fun _ => defaultValue (newarray.typeOf .boolean) := by
    funext j
    rw [(hF n (Nat.le_refl _) j).1]
    rfl
  rw [hfun]
theorem g_naL (hC : mC X E M own cc) {i : Int32} {N : Nat} (har : Cond.arrayClass .long ∈ tbG) (hT : mT n = (4, N)) (hx : x = 0) (hF : mFr n I R L) (hi : ¬ i < 0) (hN : i.toNatClampNeg = N) (hb : N ≤ 10000) (hc : k + 1 ≤ X.2.2.2.2.2.2.2.2.2.2.1.1) (hs : z + N ≤ X.2.2.2.2.2.2.2.2.2.2.1.2) (hd : decode cc pc = .ok (.newarray .long, 2)) (kk : mG X E (pc + 2) lv (.ref (mB E + n) :: st) (n + 1) x I R L (k + 1) (z + N)) : mG X E pc lv (.int i :: st) n x I R L k z := by
  intro ls H locs hl hR ho
  have hsz : H.size = mB E + n := hR.1.2 hx
  refine va_newaK (atype := .long) hC.1.1 hC.1.2 (hC.2.2.1 _ har) rfl hd rfl hi hN (by show N * 8 ≤ _; omega) hc hs hsz (fun H1 cA e1 z1 o1 hA hf => ?_)
  refine kk ls H1 locs hl ⟨⟨by omega, fun _ => by omega⟩, fun q hq => (o1 q (by omega)).trans (hR.2.1 q hq), ?_⟩ ho
  rw [mW_succ]
  refine (hR.2.2.kept (fun k x hx => o1 x.1 (by rw [← hsz]; exact (hR.2.2 k x hx).lt))).app (fun k x hx => ?_)
  have hz : k < 1 := (List.getElem?_eq_some_iff.mp hx).1
  rw [show k = 0 by omega] at hx
  cases hx
  show va_at E.1 vwCl (mB E + n, mE E I R L n) H1
  have e9 : mE E I R L n = .inl (E.2.1.2.2.2, N, .inr (.inl (L n))) := by simp only [mE, hT]
  rw [e9]
  show H1[mB E + n]? = some (vp_cell _ _)
  have hcA : cA = E.2.1.2.2.2 := Option.some.inj (hf.symm.trans ((hC.2.2.2.1.1.2 3 _ rfl).2))
  rw [e1, hcA, vp_cell_l]
  have hfun : (fun j => Value.long (L n j)) = fun _ => defaultValue (newarray.typeOf .long) := by
    funext j
    rw [(hF n (Nat.le_refl _) j).2.2]
    rfl
  rw [hfun]
end MAKE
theorem okT_0 : ∀ b, b < 3 → mOkT (mTy 0 b) = true := by decide +kernel
theorem okT_1 : ∀ b, b < 5 → mOkT (mTy 1 b) = true := by decide +kernel
theorem okT_2 : ∀ b, b < 5 → mOkT (mTy 2 b) = true := by decide +kernel
theorem okT_3 : ∀ b, b < 6 → mOkT (mTy 3 b) = true := by decide +kernel
theorem okT_4 : ∀ b, b < 4 → mOkT (mTy 4 b) = true := by decide +kernel
theorem okT_5 : ∀ b, b < 12 → mOkT (mTy 5 b) = true := by decide +kernel
theorem okT_6 : ∀ b, b < 17 → mOkT (mTy 6 b) = true := by decide +kernel
theorem okT_7 : ∀ b, b < 5 → mOkT (mTy 7 b) = true := by decide +kernel
theorem okT_8 : ∀ b, b < 7 → mOkT (mTy 8 b) = true := by decide +kernel
theorem okT_9 : ∀ b, b < 1 → mOkT (mTy 9 b) = true := by decide +kernel
theorem okT_10 : ∀ b, b < 2 → mOkT (mTy 10 b) = true := by decide +kernel
theorem okT_11 : ∀ b, b < 16 → mOkT (mTy 11 b) = true := by decide +kernel
theorem okT_12 : ∀ b, b < 66 → mOkT (mTy 12 b) = true := by decide +kernel
theorem mSm {n x : Nat} {I : mIT} {R : mRT} {L : mLT} {r : Option Value} {P : Option Value → Nat → Nat → mIT → mRT → mLT → Prop} (h : P r n x I R L) : ∀ (r' : Option Value) (n' x' : Nat) (I' : mIT) (R' : mRT) (L' : mLT), mSame r n x I R L r' n' x' I' R' L' → P r' n' x' I' R' L' := by
  intro r' n' x' I' R' L' hs
  obtain ⟨rfl, rfl, rfl, rfl, rfl, rfl⟩ := hs
  exact h
def kI_8_7 (I : mIT) : mIT := (mU (mU I 7 5 (0 : Int32)) 7 6 (0 : Int32))
def kR_8_7 (R : mRT) : mRT := (mUR (mUR (mUR (mUR (mUR R 7 0 (some 8)) 7 1 (some 9)) 7 2 (some 10)) 7 3 (some 11)) 7 4 (some 12))
def kL_8_7 (L : mLT) : mLT := L
theorem kF_8_7 {I : mIT} {R : mRT} {L : mLT} (h : mFr 7 I R L) : mFr 13 (kI_8_7 I) (kR_8_7 R) (kL_8_7 L) := by
  have f : mFr 8 I R L := h.up (by decide)
  replace f := mFr.wR (q := 7) (j := 0) (v := some 8) f (by decide)
  replace f := mFr.wR (q := 7) (j := 1) (v := some 9) f (by decide)
  replace f := mFr.wR (q := 7) (j := 2) (v := some 10) f (by decide)
  replace f := mFr.wR (q := 7) (j := 3) (v := some 11) f (by decide)
  replace f := mFr.wR (q := 7) (j := 4) (v := some 12) f (by decide)
  replace f := mFr.wI (q := 7) (j := 5) (v := (0 : Int32)) f (by decide)
  replace f := mFr.wI (q := 7) (j := 6) (v := (0 : Int32)) f (by decide)
  exact f.up (by decide)
set_option maxRecDepth 20000 in
theorem mk_8_7 {l : Launch} {E : mEn} {I : mIT} {R : mRT} {L : mLT} (hst : l.stackTraces = false) (hF : mFr 7 I R L) : mOk l E mX8_init [.ref (mB E + 7)] 8 0 I R L 5 1527 (mSame none 13 0 (kI_8_7 I) (kR_8_7 R) (kL_8_7 L)) := by
  refine mOk_of hst (by decide) (Nat.le_of_ble_eq_true rfl) (fun X hC hE _ => ?_)
  have hC : mC X E mX8_init RX8 cX8_init := hC
  show mG X E 0 [(0, .ref (mB E + 7))] [] 8 0 I R L 0 0
  refine g_aload_n hC dX8_init_0 (i := 0) rfl (q := 0) rfl ?_
  refine g_obj hC wd_177 wd_158 wd_159 (Nat.le_of_ble_eq_true rfl) (Nat.le_of_ble_eq_true rfl) dX8_init_1 ?_
  have f0 := hF.up (b := 8) (by decide)
  refine g_aload_n hC dX8_init_4 (i := 0) rfl (q := 0) rfl ?_
  refine g_sipush hC dX8_init_5 (v := (700 : Int32)) (by decide) ?_
  refine g_naI hC (N := 700) wd_201 rfl rfl f0 (by decide) (by decide) (by decide) (by rw [hE.1]; decide) (by rw [hE.1]; decide) dX8_init_8 ?_
  have f1 := f0.up (b := 9) (by decide)
  refine g_putrF hC (v := 8) (C0 := "") (t0 := _) fd_RX8_9 rfl (by decide) (Or.inr rfl) rfl rfl dX8_init_10 (nm_e ?_)
  have f2 := mFr.wR (q := 7) (j := 0) (v := some 8) f1 (by decide)
  refine g_aload_n hC dX8_init_13 (i := 0) rfl (q := 0) rfl ?_
  refine g_sipush hC dX8_init_14 (v := (700 : Int32)) (by decide) ?_
  refine g_naI hC (N := 700) wd_201 rfl rfl f2 (by decide) (by decide) (by decide) (by rw [hE.1]; decide) (by rw [hE.1]; decide) dX8_init_17 ?_
  have f3 := f2.up (b := 10) (by decide)
  refine g_putrF hC (v := 9) (C0 := "") (t0 := _) fd_RX8_15 rfl (by decide) (Or.inr rfl) rfl rfl dX8_init_19 (nm_e ?_)
  have f4 := mFr.wR (q := 7) (j := 1) (v := some 9) f3 (by decide)
  refine g_aload_n hC dX8_init_22 (i := 0) rfl (q := 0) rfl ?_
  refine g_bipush hC dX8_init_23 (v := (80 : Int32)) (by decide) ?_
  refine g_naI hC (N := 80) wd_201 rfl rfl f4 (by decide) (by decide) (by decide) (by rw [hE.1]; decide) (by rw [hE.1]; decide) dX8_init_25 ?_
  have f5 := f4.up (b := 11) (by decide)
  refine g_putrF hC (v := 10) (C0 := "") (t0 := _) fd_RX8_18 rfl (by decide) (Or.inr rfl) rfl rfl dX8_init_27 (nm_e ?_)
  have f6 := mFr.wR (q := 7) (j := 2) (v := some 10) f5 (by decide)
  refine g_aload_n hC dX8_init_30 (i := 0) rfl (q := 0) rfl ?_
  refine g_bipush hC dX8_init_31 (v := (7 : Int32)) (by decide) ?_
  refine g_naI hC (N := 7) wd_201 rfl rfl f6 (by decide) (by decide) (by decide) (by rw [hE.1]; decide) (by rw [hE.1]; decide) dX8_init_33 ?_
  have f7 := f6.up (b := 12) (by decide)
  refine g_putrF hC (v := 11) (C0 := "") (t0 := _) fd_RX8_21 rfl (by decide) (Or.inr rfl) rfl rfl dX8_init_35 (nm_e ?_)
  have f8 := mFr.wR (q := 7) (j := 3) (v := some 11) f7 (by decide)
  refine g_aload_n hC dX8_init_38 (i := 0) rfl (q := 0) rfl ?_
  refine g_bipush hC dX8_init_39 (v := (40 : Int32)) (by decide) ?_
  refine g_naI hC (N := 40) wd_201 rfl rfl f8 (by decide) (by decide) (by decide) (by rw [hE.1]; decide) (by rw [hE.1]; decide) dX8_init_41 ?_
  have f9 := f8.up (b := 13) (by decide)
  refine g_putrF hC (v := 12) (C0 := "") (t0 := _) fd_RX8_24 rfl (by decide) (Or.inr rfl) rfl rfl dX8_init_43 (nm_e ?_)
  have f10 := mFr.wR (q := 7) (j := 4) (v := some 12) f9 (by decide)
  refine g_aload_n hC dX8_init_46 (i := 0) rfl (q := 0) rfl ?_
  refine g_iconst hC dX8_init_47 (v := (0 : Int32)) (by decide) ?_
  refine g_puti hC fd_RX8_27 rfl (by decide) rfl dX8_init_48 (nm_e ?_)
  have f11 := mFr.wI (q := 7) (j := 5) (v := (0 : Int32)) f10 (by decide)
  refine g_aload_n hC dX8_init_51 (i := 0) rfl (q := 0) rfl ?_
  refine g_iconst hC dX8_init_52 (v := (0 : Int32)) (by decide) ?_
  refine g_puti hC fd_RX8_31 rfl (by decide) rfl dX8_init_53 (nm_e ?_)
  have f12 := mFr.wI (q := 7) (j := 6) (v := (0 : Int32)) f11 (by decide)
  exact g_vret hC hE rfl dX8_init_56 (by decide) (by decide) ⟨rfl, rfl, rfl, rfl, rfl, rfl⟩
def kI_8_13 (I : mIT) : mIT := (mU (mU I 13 5 (0 : Int32)) 13 6 (0 : Int32))
def kR_8_13 (R : mRT) : mRT := (mUR (mUR (mUR (mUR (mUR R 13 0 (some 14)) 13 1 (some 15)) 13 2 (some 16)) 13 3 (some 17)) 13 4 (some 18))
def kL_8_13 (L : mLT) : mLT := L
theorem kF_8_13 {I : mIT} {R : mRT} {L : mLT} (h : mFr 13 I R L) : mFr 19 (kI_8_13 I) (kR_8_13 R) (kL_8_13 L) := by
  have f : mFr 14 I R L := h.up (by decide)
  replace f := mFr.wR (q := 13) (j := 0) (v := some 14) f (by decide)
  replace f := mFr.wR (q := 13) (j := 1) (v := some 15) f (by decide)
  replace f := mFr.wR (q := 13) (j := 2) (v := some 16) f (by decide)
  replace f := mFr.wR (q := 13) (j := 3) (v := some 17) f (by decide)
  replace f := mFr.wR (q := 13) (j := 4) (v := some 18) f (by decide)
  replace f := mFr.wI (q := 13) (j := 5) (v := (0 : Int32)) f (by decide)
  replace f := mFr.wI (q := 13) (j := 6) (v := (0 : Int32)) f (by decide)
  exact f.up (by decide)
set_option maxRecDepth 20000 in
theorem mk_8_13 {l : Launch} {E : mEn} {I : mIT} {R : mRT} {L : mLT} (hst : l.stackTraces = false) (hF : mFr 13 I R L) : mOk l E mX8_init [.ref (mB E + 13)] 14 0 I R L 5 1527 (mSame none 19 0 (kI_8_13 I) (kR_8_13 R) (kL_8_13 L)) := by
  refine mOk_of hst (by decide) (Nat.le_of_ble_eq_true rfl) (fun X hC hE _ => ?_)
  have hC : mC X E mX8_init RX8 cX8_init := hC
  show mG X E 0 [(0, .ref (mB E + 13))] [] 14 0 I R L 0 0
  refine g_aload_n hC dX8_init_0 (i := 0) rfl (q := 0) rfl ?_
  refine g_obj hC wd_177 wd_158 wd_159 (Nat.le_of_ble_eq_true rfl) (Nat.le_of_ble_eq_true rfl) dX8_init_1 ?_
  have f0 := hF.up (b := 14) (by decide)
  refine g_aload_n hC dX8_init_4 (i := 0) rfl (q := 0) rfl ?_
  refine g_sipush hC dX8_init_5 (v := (700 : Int32)) (by decide) ?_
  refine g_naI hC (N := 700) wd_201 rfl rfl f0 (by decide) (by decide) (by decide) (by rw [hE.1]; decide) (by rw [hE.1]; decide) dX8_init_8 ?_
  have f1 := f0.up (b := 15) (by decide)
  refine g_putrF hC (v := 14) (C0 := "") (t0 := _) fd_RX8_9 rfl (by decide) (Or.inr rfl) rfl rfl dX8_init_10 (nm_e ?_)
  have f2 := mFr.wR (q := 13) (j := 0) (v := some 14) f1 (by decide)
  refine g_aload_n hC dX8_init_13 (i := 0) rfl (q := 0) rfl ?_
  refine g_sipush hC dX8_init_14 (v := (700 : Int32)) (by decide) ?_
  refine g_naI hC (N := 700) wd_201 rfl rfl f2 (by decide) (by decide) (by decide) (by rw [hE.1]; decide) (by rw [hE.1]; decide) dX8_init_17 ?_
  have f3 := f2.up (b := 16) (by decide)
  refine g_putrF hC (v := 15) (C0 := "") (t0 := _) fd_RX8_15 rfl (by decide) (Or.inr rfl) rfl rfl dX8_init_19 (nm_e ?_)
  have f4 := mFr.wR (q := 13) (j := 1) (v := some 15) f3 (by decide)
  refine g_aload_n hC dX8_init_22 (i := 0) rfl (q := 0) rfl ?_
  refine g_bipush hC dX8_init_23 (v := (80 : Int32)) (by decide) ?_
  refine g_naI hC (N := 80) wd_201 rfl rfl f4 (by decide) (by decide) (by decide) (by rw [hE.1]; decide) (by rw [hE.1]; decide) dX8_init_25 ?_
  have f5 := f4.up (b := 17) (by decide)
  refine g_putrF hC (v := 16) (C0 := "") (t0 := _) fd_RX8_18 rfl (by decide) (Or.inr rfl) rfl rfl dX8_init_27 (nm_e ?_)
  have f6 := mFr.wR (q := 13) (j := 2) (v := some 16) f5 (by decide)
  refine g_aload_n hC dX8_init_30 (i := 0) rfl (q := 0) rfl ?_
  refine g_bipush hC dX8_init_31 (v := (7 : Int32)) (by decide) ?_
  refine g_naI hC (N := 7) wd_201 rfl rfl f6 (by decide) (by decide) (by decide) (by rw [hE.1]; decide) (by rw [hE.1]; decide) dX8_init_33 ?_
  have f7 := f6.up (b := 18) (by decide)
  refine g_putrF hC (v := 17) (C0 := "") (t0 := _) fd_RX8_21 rfl (by decide) (Or.inr rfl) rfl rfl dX8_init_35 (nm_e ?_)
  have f8 := mFr.wR (q := 13) (j := 3) (v := some 17) f7 (by decide)
  refine g_aload_n hC dX8_init_38 (i := 0) rfl (q := 0) rfl ?_
  refine g_bipush hC dX8_init_39 (v := (40 : Int32)) (by decide) ?_
  refine g_naI hC (N := 40) wd_201 rfl rfl f8 (by decide) (by decide) (by decide) (by rw [hE.1]; decide) (by rw [hE.1]; decide) dX8_init_41 ?_
  have f9 := f8.up (b := 19) (by decide)
  refine g_putrF hC (v := 18) (C0 := "") (t0 := _) fd_RX8_24 rfl (by decide) (Or.inr rfl) rfl rfl dX8_init_43 (nm_e ?_)
  have f10 := mFr.wR (q := 13) (j := 4) (v := some 18) f9 (by decide)
  refine g_aload_n hC dX8_init_46 (i := 0) rfl (q := 0) rfl ?_
  refine g_iconst hC dX8_init_47 (v := (0 : Int32)) (by decide) ?_
  refine g_puti hC fd_RX8_27 rfl (by decide) rfl dX8_init_48 (nm_e ?_)
  have f11 := mFr.wI (q := 13) (j := 5) (v := (0 : Int32)) f10 (by decide)
  refine g_aload_n hC dX8_init_51 (i := 0) rfl (q := 0) rfl ?_
  refine g_iconst hC dX8_init_52 (v := (0 : Int32)) (by decide) ?_
  refine g_puti hC fd_RX8_31 rfl (by decide) rfl dX8_init_53 (nm_e ?_)
  have f12 := mFr.wI (q := 13) (j := 6) (v := (0 : Int32)) f11 (by decide)
  exact g_vret hC hE rfl dX8_init_56 (by decide) (by decide) ⟨rfl, rfl, rfl, rfl, rfl, rfl⟩
def kI_9_19 (I : mIT) : mIT := I
def kR_9_19 (R : mRT) : mRT := (mUR R 19 0 (some 20))
def kL_9_19 (L : mLT) : mLT := L
theorem kF_9_19 {I : mIT} {R : mRT} {L : mLT} (h : mFr 19 I R L) : mFr 21 (kI_9_19 I) (kR_9_19 R) (kL_9_19 L) := by
  have f : mFr 20 I R L := h.up (by decide)
  replace f := mFr.wR (q := 19) (j := 0) (v := some 20) f (by decide)
  exact f.up (by decide)
set_option maxRecDepth 20000 in
theorem mk_9_19 {l : Launch} {E : mEn} {I : mIT} {R : mRT} {L : mLT} (hst : l.stackTraces = false) (hF : mFr 19 I R L) : mOk l E mX9_init [.ref (mB E + 19)] 20 0 I R L 1 53 (mSame none 21 0 (kI_9_19 I) (kR_9_19 R) (kL_9_19 L)) := by
  refine mOk_of hst (by decide) (Nat.le_of_ble_eq_true rfl) (fun X hC hE _ => ?_)
  have hC : mC X E mX9_init RX9 cX9_init := hC
  show mG X E 0 [(0, .ref (mB E + 19))] [] 20 0 I R L 0 0
  refine g_aload_n hC dX9_init_0 (i := 0) rfl (q := 0) rfl ?_
  refine g_obj hC wd_207 wd_158 wd_159 (Nat.le_of_ble_eq_true rfl) (Nat.le_of_ble_eq_true rfl) dX9_init_1 ?_
  have f0 := hF.up (b := 20) (by decide)
  refine g_aload_n hC dX9_init_4 (i := 0) rfl (q := 0) rfl ?_
  refine g_bipush hC dX9_init_5 (v := (53 : Int32)) (by decide) ?_
  refine g_naI hC (N := 53) wd_201 rfl rfl f0 (by decide) (by decide) (by decide) (by rw [hE.1]; decide) (by rw [hE.1]; decide) dX9_init_7 ?_
  have f1 := f0.up (b := 21) (by decide)
  refine g_putrF hC (v := 20) (C0 := "") (t0 := _) fd_RX9_11 rfl (by decide) (Or.inr rfl) rfl rfl dX9_init_9 (nm_e ?_)
  have f2 := mFr.wR (q := 19) (j := 0) (v := some 20) f1 (by decide)
  exact g_vret hC hE rfl dX9_init_12 (by decide) (by decide) ⟨rfl, rfl, rfl, rfl, rfl, rfl⟩
def kI_5_3 (I : mIT) : mIT := (kI_9_19 (kI_8_13 (kI_8_7 (mU (mU (mU (mU (mU (mU I 3 3 (0 : Int32)) 3 4 (0 : Int32)) 3 5 (20 : Int32)) 3 6 (0 : Int32)) 3 7 (0 : Int32)) 3 8 (0 : Int32)))))
def kR_5_3 (R : mRT) : mRT := (mUR (kR_9_19 (mUR (kR_8_13 (mUR (kR_8_7 (mUR (mUR (mUR R 3 0 (some 4)) 3 1 (some 5)) 3 2 (some 6))) 3 9 (some 7))) 3 10 (some 13))) 3 11 (some 19))
def kL_5_3 (L : mLT) : mLT := (kL_9_19 (kL_8_13 (kL_8_7 L)))
theorem kF_5_3 {I : mIT} {R : mRT} {L : mLT} (h : mFr 3 I R L) : mFr 21 (kI_5_3 I) (kR_5_3 R) (kL_5_3 L) := by
  have f : mFr 4 I R L := h.up (by decide)
  replace f := mFr.wR (q := 3) (j := 0) (v := some 4) f (by decide)
  replace f := mFr.wR (q := 3) (j := 1) (v := some 5) f (by decide)
  replace f := mFr.wR (q := 3) (j := 2) (v := some 6) f (by decide)
  replace f := mFr.wI (q := 3) (j := 3) (v := (0 : Int32)) f (by decide)
  replace f := mFr.wI (q := 3) (j := 4) (v := (0 : Int32)) f (by decide)
  replace f := mFr.wI (q := 3) (j := 5) (v := (20 : Int32)) f (by decide)
  replace f := mFr.wI (q := 3) (j := 6) (v := (0 : Int32)) f (by decide)
  replace f := mFr.wI (q := 3) (j := 7) (v := (0 : Int32)) f (by decide)
  replace f := mFr.wI (q := 3) (j := 8) (v := (0 : Int32)) f (by decide)
  replace f := kF_8_7 (f.up (b := 7) (by decide))
  replace f := mFr.wR (q := 3) (j := 9) (v := some 7) f (by decide)
  replace f := kF_8_13 (f.up (b := 13) (by decide))
  replace f := mFr.wR (q := 3) (j := 10) (v := some 13) f (by decide)
  replace f := kF_9_19 (f.up (b := 19) (by decide))
  replace f := mFr.wR (q := 3) (j := 11) (v := some 19) f (by decide)
  exact f.up (by decide)
set_option maxRecDepth 20000 in
theorem mk_5_3 {l : Launch} {E : mEn} {I : mIT} {R : mRT} {L : mLT} (hst : l.stackTraces = false) (hF : mFr 3 I R L) : mOk l E mX5_init [.ref (mB E + 3)] 4 0 I R L 17 3150 (mSame none 21 0 (kI_5_3 I) (kR_5_3 R) (kL_5_3 L)) := by
  refine mOk_of hst (by decide) (Nat.le_of_ble_eq_true rfl) (fun X hC hE _ => ?_)
  have hC : mC X E mX5_init RX5 cX5_init := hC
  show mG X E 0 [(0, .ref (mB E + 3))] [] 4 0 I R L 0 0
  refine g_aload_n hC dX5_init_0 (i := 0) rfl (q := 0) rfl ?_
  refine g_obj hC wd_171 wd_158 wd_159 (Nat.le_of_ble_eq_true rfl) (Nat.le_of_ble_eq_true rfl) dX5_init_1 ?_
  have f0 := hF.up (b := 4) (by decide)
  refine g_aload_n hC dX5_init_4 (i := 0) rfl (q := 0) rfl ?_
  refine g_bipush hC dX5_init_5 (v := (10 : Int32)) (by decide) ?_
  refine g_naI hC (N := 10) wd_201 rfl rfl f0 (by decide) (by decide) (by decide) (by rw [hE.1]; decide) (by rw [hE.1]; decide) dX5_init_7 ?_
  have f1 := f0.up (b := 5) (by decide)
  refine g_putrF hC (v := 4) (C0 := "") (t0 := _) fd_RX5_9 rfl (by decide) (Or.inr rfl) rfl rfl dX5_init_9 (nm_e ?_)
  have f2 := mFr.wR (q := 3) (j := 0) (v := some 4) f1 (by decide)
  refine g_aload_n hC dX5_init_12 (i := 0) rfl (q := 0) rfl ?_
  refine g_bipush hC dX5_init_13 (v := (10 : Int32)) (by decide) ?_
  refine g_naI hC (N := 10) wd_201 rfl rfl f2 (by decide) (by decide) (by decide) (by rw [hE.1]; decide) (by rw [hE.1]; decide) dX5_init_15 ?_
  have f3 := f2.up (b := 6) (by decide)
  refine g_putrF hC (v := 5) (C0 := "") (t0 := _) fd_RX5_15 rfl (by decide) (Or.inr rfl) rfl rfl dX5_init_17 (nm_e ?_)
  have f4 := mFr.wR (q := 3) (j := 1) (v := some 5) f3 (by decide)
  refine g_aload_n hC dX5_init_20 (i := 0) rfl (q := 0) rfl ?_
  refine g_bipush hC dX5_init_21 (v := (8 : Int32)) (by decide) ?_
  refine g_naI hC (N := 8) wd_201 rfl rfl f4 (by decide) (by decide) (by decide) (by rw [hE.1]; decide) (by rw [hE.1]; decide) dX5_init_23 ?_
  have f5 := f4.up (b := 7) (by decide)
  refine g_putrF hC (v := 6) (C0 := "") (t0 := _) fd_RX5_18 rfl (by decide) (Or.inr rfl) rfl rfl dX5_init_25 (nm_e ?_)
  have f6 := mFr.wR (q := 3) (j := 2) (v := some 6) f5 (by decide)
  refine g_aload_n hC dX5_init_28 (i := 0) rfl (q := 0) rfl ?_
  refine g_iconst hC dX5_init_29 (v := (0 : Int32)) (by decide) ?_
  refine g_puti hC fd_RX5_21 rfl (by decide) rfl dX5_init_30 (nm_e ?_)
  have f7 := mFr.wI (q := 3) (j := 3) (v := (0 : Int32)) f6 (by decide)
  refine g_aload_n hC dX5_init_33 (i := 0) rfl (q := 0) rfl ?_
  refine g_iconst hC dX5_init_34 (v := (0 : Int32)) (by decide) ?_
  refine g_puti hC fd_RX5_25 rfl (by decide) rfl dX5_init_35 (nm_e ?_)
  have f8 := mFr.wI (q := 3) (j := 4) (v := (0 : Int32)) f7 (by decide)
  refine g_aload_n hC dX5_init_38 (i := 0) rfl (q := 0) rfl ?_
  refine g_bipush hC dX5_init_39 (v := (20 : Int32)) (by decide) ?_
  refine g_puti hC fd_RX5_28 rfl (by decide) rfl dX5_init_41 (nm_e ?_)
  have f9 := mFr.wI (q := 3) (j := 5) (v := (20 : Int32)) f8 (by decide)
  refine g_aload_n hC dX5_init_44 (i := 0) rfl (q := 0) rfl ?_
  refine g_iconst hC dX5_init_45 (v := (0 : Int32)) (by decide) ?_
  refine g_puti hC fd_RX5_31 rfl (by decide) rfl dX5_init_46 (nm_e ?_)
  have f10 := mFr.wI (q := 3) (j := 6) (v := (0 : Int32)) f9 (by decide)
  refine g_aload_n hC dX5_init_49 (i := 0) rfl (q := 0) rfl ?_
  refine g_iconst hC dX5_init_50 (v := (0 : Int32)) (by decide) ?_
  refine g_puti hC fd_RX5_34 rfl (by decide) rfl dX5_init_51 (nm_e ?_)
  have f11 := mFr.wI (q := 3) (j := 7) (v := (0 : Int32)) f10 (by decide)
  refine g_aload_n hC dX5_init_54 (i := 0) rfl (q := 0) rfl ?_
  refine g_iconst hC dX5_init_55 (v := (0 : Int32)) (by decide) ?_
  refine g_puti hC fd_RX5_37 rfl (by decide) rfl dX5_init_56 (nm_e ?_)
  have f12 := mFr.wI (q := 3) (j := 8) (v := (0 : Int32)) f11 (by decide)
  refine g_aload_n hC dX5_init_59 (i := 0) rfl (q := 0) rfl ?_
  refine g_new hC (C := RX8) (T := TX8) (N := 7) (ci := 8) rfl rfl inG_8 tyX8_ok okT_8 wd_172 wd_173 wd_130 rfl rfl f12 (by rw [hE.1]; decide) (by rw [hE.1]; decide) dX5_init_60 ?_
  refine g_dup hC dX5_init_63 rfl ?_
  refine g_cI hC (host := RX11) (mc2 := 5) (ms2 := 1527) ci_X8_init nl_RX5_42 ⟨Nat.le_of_ble_eq_true rfl, Nat.le_of_ble_eq_true rfl⟩ dX5_init_64 (q := 7) (As := []) (st := [.ref (mB E + 7), .ref (mB E + 3)]) (mk_8_7 hC.2.2.2.2.2.2.2.1 (f12.up (by decide))) rfl rfl (Nat.le_of_ble_eq_true rfl) (by rw [hE.1]; decide) (mSm ?_)
  have f13 := kF_8_7 (f12.up (b := 7) (by decide))
  refine g_putrF hC (v := 7) (C0 := _) (t0 := .int) fd_RX5_43 rfl (by decide) (Or.inl rfl) rfl rfl dX5_init_67 (nm_e ?_)
  have f14 := mFr.wR (q := 3) (j := 9) (v := some 7) f13 (by decide)
  refine g_aload_n hC dX5_init_70 (i := 0) rfl (q := 0) rfl ?_
  refine g_new hC (C := RX8) (T := TX8) (N := 7) (ci := 8) rfl rfl inG_8 tyX8_ok okT_8 wd_172 wd_173 wd_130 rfl rfl f14 (by rw [hE.1]; decide) (by rw [hE.1]; decide) dX5_init_71 ?_
  refine g_dup hC dX5_init_74 rfl ?_
  refine g_cI hC (host := RX11) (mc2 := 5) (ms2 := 1527) ci_X8_init nl_RX5_42 ⟨Nat.le_of_ble_eq_true rfl, Nat.le_of_ble_eq_true rfl⟩ dX5_init_75 (q := 13) (As := []) (st := [.ref (mB E + 13), .ref (mB E + 3)]) (mk_8_13 hC.2.2.2.2.2.2.2.1 (f14.up (by decide))) rfl rfl (Nat.le_of_ble_eq_true rfl) (by rw [hE.1]; decide) (mSm ?_)
  have f15 := kF_8_13 (f14.up (b := 13) (by decide))
  refine g_putrF hC (v := 13) (C0 := _) (t0 := .int) fd_RX5_47 rfl (by decide) (Or.inl rfl) rfl rfl dX5_init_78 (nm_e ?_)
  have f16 := mFr.wR (q := 3) (j := 10) (v := some 13) f15 (by decide)
  refine g_aload_n hC dX5_init_81 (i := 0) rfl (q := 0) rfl ?_
  refine g_new hC (C := RX9) (T := TX9) (N := 1) (ci := 9) rfl rfl inG_9 tyX9_ok okT_9 wd_202 wd_203 wd_131 rfl rfl f16 (by rw [hE.1]; decide) (by rw [hE.1]; decide) dX5_init_82 ?_
  refine g_dup hC dX5_init_85 rfl ?_
  refine g_cI hC (host := RX11) (mc2 := 1) (ms2 := 53) ci_X9_init nl_RX5_52 ⟨Nat.le_of_ble_eq_true rfl, Nat.le_of_ble_eq_true rfl⟩ dX5_init_86 (q := 19) (As := []) (st := [.ref (mB E + 19), .ref (mB E + 3)]) (mk_9_19 hC.2.2.2.2.2.2.2.1 (f16.up (by decide))) rfl rfl (Nat.le_of_ble_eq_true rfl) (by rw [hE.1]; decide) (mSm ?_)
  have f17 := kF_9_19 (f16.up (b := 19) (by decide))
  refine g_putrF hC (v := 19) (C0 := _) (t0 := .int) fd_RX5_53 rfl (by decide) (Or.inl rfl) rfl rfl dX5_init_89 (nm_e ?_)
  have f18 := mFr.wR (q := 3) (j := 11) (v := some 19) f17 (by decide)
  exact g_vret hC hE rfl dX5_init_92 (by decide) (by decide) ⟨rfl, rfl, rfl, rfl, rfl, rfl⟩
def kI_6_1 (I : mIT) : mIT := (mU (mU (mU (mU (kI_5_3 (mU (mU (mU (mU (mU (mU (mU (mU (mU (mU I 1 1 (0 : Int32)) 1 2 (0 : Int32)) 1 3 (0 : Int32)) 1 4 (0 : Int32)) 1 5 (0 : Int32)) 1 6 (0 : Int32)) 1 7 (0 : Int32)) 1 8 (0 : Int32)) 1 9 (0 : Int32)) 1 10 (0 : Int32))) 1 13 (1 : Int32)) 1 14 (0 : Int32)) 1 15 (0 : Int32)) 1 16 (0 : Int32))
def kR_6_1 (R : mRT) : mRT := (mUR (mUR (kR_5_3 (mUR R 1 0 (some 2))) 1 11 (some 3)) 1 12 (some 7))
def kL_6_1 (L : mLT) : mLT := (kL_5_3 L)
theorem kF_6_1 {I : mIT} {R : mRT} {L : mLT} (h : mFr 1 I R L) : mFr 21 (kI_6_1 I) (kR_6_1 R) (kL_6_1 L) := by
  have f : mFr 2 I R L := h.up (by decide)
  replace f := mFr.wR (q := 1) (j := 0) (v := some 2) f (by decide)
  replace f := mFr.wI (q := 1) (j := 1) (v := (0 : Int32)) f (by decide)
  replace f := mFr.wI (q := 1) (j := 2) (v := (0 : Int32)) f (by decide)
  replace f := mFr.wI (q := 1) (j := 3) (v := (0 : Int32)) f (by decide)
  replace f := mFr.wI (q := 1) (j := 4) (v := (0 : Int32)) f (by decide)
  replace f := mFr.wI (q := 1) (j := 5) (v := (0 : Int32)) f (by decide)
  replace f := mFr.wI (q := 1) (j := 6) (v := (0 : Int32)) f (by decide)
  replace f := mFr.wI (q := 1) (j := 7) (v := (0 : Int32)) f (by decide)
  replace f := mFr.wI (q := 1) (j := 8) (v := (0 : Int32)) f (by decide)
  replace f := mFr.wI (q := 1) (j := 9) (v := (0 : Int32)) f (by decide)
  replace f := mFr.wI (q := 1) (j := 10) (v := (0 : Int32)) f (by decide)
  replace f := kF_5_3 (f.up (b := 3) (by decide))
  replace f := mFr.wR (q := 1) (j := 11) (v := some 3) f (by decide)
  replace f := mFr.wR (q := 1) (j := 12) (v := some 7) f (by decide)
  replace f := mFr.wI (q := 1) (j := 13) (v := (1 : Int32)) f (by decide)
  replace f := mFr.wI (q := 1) (j := 14) (v := (0 : Int32)) f (by decide)
  replace f := mFr.wI (q := 1) (j := 15) (v := (0 : Int32)) f (by decide)
  replace f := mFr.wI (q := 1) (j := 16) (v := (0 : Int32)) f (by decide)
  exact f.up (by decide)
set_option maxRecDepth 20000 in
theorem mk_6_1 {l : Launch} {E : mEn} {I : mIT} {R : mRT} {L : mLT} (hst : l.stackTraces = false) (hF : mFr 1 I R L) : mOk l E mX6_init [.ref (mB E + 1)] 2 0 I R L 19 3862 (mSame none 21 0 (kI_6_1 I) (kR_6_1 R) (kL_6_1 L)) := by
  refine mOk_of hst (by decide) (Nat.le_of_ble_eq_true rfl) (fun X hC hE _ => ?_)
  have hC : mC X E mX6_init RX6 cX6_init := hC
  show mG X E 0 [(0, .ref (mB E + 1))] [] 2 0 I R L 0 0
  refine g_aload_n hC dX6_init_0 (i := 0) rfl (q := 0) rfl ?_
  refine g_obj hC wd_165 wd_158 wd_159 (Nat.le_of_ble_eq_true rfl) (Nat.le_of_ble_eq_true rfl) dX6_init_1 ?_
  have f0 := hF.up (b := 2) (by decide)
  refine g_aload_n hC dX6_init_4 (i := 0) rfl (q := 0) rfl ?_
  refine g_sipush hC dX6_init_5 (v := (700 : Int32)) (by decide) ?_
  refine g_naB hC (N := 700) wd_200 rfl rfl f0 (by decide) (by decide) (by decide) (by rw [hE.1]; decide) (by rw [hE.1]; decide) dX6_init_8 ?_
  have f1 := f0.up (b := 3) (by decide)
  refine g_putrF hC (v := 2) (C0 := "") (t0 := _) fd_RX6_9 rfl (by decide) (Or.inr rfl) rfl rfl dX6_init_10 (nm_e ?_)
  have f2 := mFr.wR (q := 1) (j := 0) (v := some 2) f1 (by decide)
  refine g_aload_n hC dX6_init_13 (i := 0) rfl (q := 0) rfl ?_
  refine g_iconst hC dX6_init_14 (v := (0 : Int32)) (by decide) ?_
  refine g_puti hC fd_RX6_15 rfl (by decide) rfl dX6_init_15 (nm_e ?_)
  have f3 := mFr.wI (q := 1) (j := 1) (v := (0 : Int32)) f2 (by decide)
  refine g_aload_n hC dX6_init_18 (i := 0) rfl (q := 0) rfl ?_
  refine g_iconst hC dX6_init_19 (v := (0 : Int32)) (by decide) ?_
  refine g_puti hC fd_RX6_19 rfl (by decide) rfl dX6_init_20 (nm_e ?_)
  have f4 := mFr.wI (q := 1) (j := 2) (v := (0 : Int32)) f3 (by decide)
  refine g_aload_n hC dX6_init_23 (i := 0) rfl (q := 0) rfl ?_
  refine g_iconst hC dX6_init_24 (v := (0 : Int32)) (by decide) ?_
  refine g_puti hC fd_RX6_22 rfl (by decide) rfl dX6_init_25 (nm_e ?_)
  have f5 := mFr.wI (q := 1) (j := 3) (v := (0 : Int32)) f4 (by decide)
  refine g_aload_n hC dX6_init_28 (i := 0) rfl (q := 0) rfl ?_
  refine g_iconst hC dX6_init_29 (v := (0 : Int32)) (by decide) ?_
  refine g_puti hC fd_RX6_25 rfl (by decide) rfl dX6_init_30 (nm_e ?_)
  have f6 := mFr.wI (q := 1) (j := 4) (v := (0 : Int32)) f5 (by decide)
  refine g_aload_n hC dX6_init_33 (i := 0) rfl (q := 0) rfl ?_
  refine g_iconst hC dX6_init_34 (v := (0 : Int32)) (by decide) ?_
  refine g_puti hC fd_RX6_28 rfl (by decide) rfl dX6_init_35 (nm_e ?_)
  have f7 := mFr.wI (q := 1) (j := 5) (v := (0 : Int32)) f6 (by decide)
  refine g_aload_n hC dX6_init_38 (i := 0) rfl (q := 0) rfl ?_
  refine g_iconst hC dX6_init_39 (v := (0 : Int32)) (by decide) ?_
  refine g_puti hC fd_RX6_31 rfl (by decide) rfl dX6_init_40 (nm_e ?_)
  have f8 := mFr.wI (q := 1) (j := 6) (v := (0 : Int32)) f7 (by decide)
  refine g_aload_n hC dX6_init_43 (i := 0) rfl (q := 0) rfl ?_
  refine g_iconst hC dX6_init_44 (v := (0 : Int32)) (by decide) ?_
  refine g_puti hC fd_RX6_34 rfl (by decide) rfl dX6_init_45 (nm_e ?_)
  have f9 := mFr.wI (q := 1) (j := 7) (v := (0 : Int32)) f8 (by decide)
  refine g_aload_n hC dX6_init_48 (i := 0) rfl (q := 0) rfl ?_
  refine g_iconst hC dX6_init_49 (v := (0 : Int32)) (by decide) ?_
  refine g_puti hC fd_RX6_37 rfl (by decide) rfl dX6_init_50 (nm_e ?_)
  have f10 := mFr.wI (q := 1) (j := 8) (v := (0 : Int32)) f9 (by decide)
  refine g_aload_n hC dX6_init_53 (i := 0) rfl (q := 0) rfl ?_
  refine g_iconst hC dX6_init_54 (v := (0 : Int32)) (by decide) ?_
  refine g_puti hC fd_RX6_40 rfl (by decide) rfl dX6_init_55 (nm_e ?_)
  have f11 := mFr.wI (q := 1) (j := 9) (v := (0 : Int32)) f10 (by decide)
  refine g_aload_n hC dX6_init_58 (i := 0) rfl (q := 0) rfl ?_
  refine g_iconst hC dX6_init_59 (v := (0 : Int32)) (by decide) ?_
  refine g_puti hC fd_RX6_43 rfl (by decide) rfl dX6_init_60 (nm_e ?_)
  have f12 := mFr.wI (q := 1) (j := 10) (v := (0 : Int32)) f11 (by decide)
  refine g_aload_n hC dX6_init_63 (i := 0) rfl (q := 0) rfl ?_
  refine g_new hC (C := RX5) (T := TX5) (N := 12) (ci := 5) rfl rfl inG_5 tyX5_ok okT_5 wd_166 wd_167 wd_129 rfl rfl f12 (by rw [hE.1]; decide) (by rw [hE.1]; decide) dX6_init_64 ?_
  refine g_dup hC dX6_init_67 rfl ?_
  refine g_cI hC (host := RX11) (mc2 := 17) (ms2 := 3150) ci_X5_init nl_RX6_48 ⟨Nat.le_of_ble_eq_true rfl, Nat.le_of_ble_eq_true rfl⟩ dX6_init_68 (q := 3) (As := []) (st := [.ref (mB E + 3), .ref (mB E + 1)]) (mk_5_3 hC.2.2.2.2.2.2.2.1 (f12.up (by decide))) rfl rfl (Nat.le_of_ble_eq_true rfl) (by rw [hE.1]; decide) (mSm ?_)
  have f13 := kF_5_3 (f12.up (b := 3) (by decide))
  refine g_putr hC (v := 3) (C0 := _) (t0 := .int) fd_RX6_49 rfl (by decide) (Or.inl rfl) dX6_init_71 (nm_e ?_)
  have f14 := mFr.wR (q := 1) (j := 11) (v := some 3) f13 (by decide)
  refine g_aload_n hC dX6_init_74 (i := 0) rfl (q := 0) rfl ?_
  refine g_aload_n hC dX6_init_75 (i := 0) rfl (q := 0) rfl ?_
  refine g_getr hC fd_RX6_49 rfl (by decide) (C0 := _) (t0 := .int) (Or.inl rfl) (r := 3) rfl dX6_init_76 ?_
  refine g_getr hC fd_RX6_53 rfl (by decide) (C0 := _) (t0 := .int) (Or.inl rfl) (r := 7) rfl dX6_init_79 ?_
  refine g_putr hC (v := 7) (C0 := _) (t0 := .int) fd_RX6_57 rfl (by decide) (Or.inl rfl) dX6_init_82 (nm_e ?_)
  have f15 := mFr.wR (q := 1) (j := 12) (v := some 7) f14 (by decide)
  refine g_aload_n hC dX6_init_85 (i := 0) rfl (q := 0) rfl ?_
  refine g_iconst hC dX6_init_86 (v := (1 : Int32)) (by decide) ?_
  refine g_puti hC fd_RX6_60 rfl (by decide) rfl dX6_init_87 (nm_e ?_)
  have f16 := mFr.wI (q := 1) (j := 13) (v := (1 : Int32)) f15 (by decide)
  refine g_aload_n hC dX6_init_90 (i := 0) rfl (q := 0) rfl ?_
  refine g_iconst hC dX6_init_91 (v := (0 : Int32)) (by decide) ?_
  refine g_puti hC fd_RX6_63 rfl (by decide) rfl dX6_init_92 (nm_e ?_)
  have f17 := mFr.wI (q := 1) (j := 14) (v := (0 : Int32)) f16 (by decide)
  refine g_aload_n hC dX6_init_95 (i := 0) rfl (q := 0) rfl ?_
  refine g_iconst hC dX6_init_96 (v := (0 : Int32)) (by decide) ?_
  refine g_puti hC fd_RX6_66 rfl (by decide) rfl dX6_init_97 (nm_e ?_)
  have f18 := mFr.wI (q := 1) (j := 15) (v := (0 : Int32)) f17 (by decide)
  refine g_aload_n hC dX6_init_100 (i := 0) rfl (q := 0) rfl ?_
  refine g_iconst hC dX6_init_101 (v := (0 : Int32)) (by decide) ?_
  refine g_puti hC fd_RX6_69 rfl (by decide) rfl dX6_init_102 (nm_e ?_)
  have f19 := mFr.wI (q := 1) (j := 16) (v := (0 : Int32)) f18 (by decide)
  exact g_vret hC hE rfl dX6_init_105 (by decide) (by decide) ⟨rfl, rfl, rfl, rfl, rfl, rfl⟩
def kI_8_26 (I : mIT) : mIT := (mU (mU I 26 5 (0 : Int32)) 26 6 (0 : Int32))
def kR_8_26 (R : mRT) : mRT := (mUR (mUR (mUR (mUR (mUR R 26 0 (some 27)) 26 1 (some 28)) 26 2 (some 29)) 26 3 (some 30)) 26 4 (some 31))
def kL_8_26 (L : mLT) : mLT := L
theorem kF_8_26 {I : mIT} {R : mRT} {L : mLT} (h : mFr 26 I R L) : mFr 32 (kI_8_26 I) (kR_8_26 R) (kL_8_26 L) := by
  have f : mFr 27 I R L := h.up (by decide)
  replace f := mFr.wR (q := 26) (j := 0) (v := some 27) f (by decide)
  replace f := mFr.wR (q := 26) (j := 1) (v := some 28) f (by decide)
  replace f := mFr.wR (q := 26) (j := 2) (v := some 29) f (by decide)
  replace f := mFr.wR (q := 26) (j := 3) (v := some 30) f (by decide)
  replace f := mFr.wR (q := 26) (j := 4) (v := some 31) f (by decide)
  replace f := mFr.wI (q := 26) (j := 5) (v := (0 : Int32)) f (by decide)
  replace f := mFr.wI (q := 26) (j := 6) (v := (0 : Int32)) f (by decide)
  exact f.up (by decide)
set_option maxRecDepth 20000 in
theorem mk_8_26 {l : Launch} {E : mEn} {I : mIT} {R : mRT} {L : mLT} (hst : l.stackTraces = false) (hF : mFr 26 I R L) : mOk l E mX8_init [.ref (mB E + 26)] 27 0 I R L 5 1527 (mSame none 32 0 (kI_8_26 I) (kR_8_26 R) (kL_8_26 L)) := by
  refine mOk_of hst (by decide) (Nat.le_of_ble_eq_true rfl) (fun X hC hE _ => ?_)
  have hC : mC X E mX8_init RX8 cX8_init := hC
  show mG X E 0 [(0, .ref (mB E + 26))] [] 27 0 I R L 0 0
  refine g_aload_n hC dX8_init_0 (i := 0) rfl (q := 0) rfl ?_
  refine g_obj hC wd_177 wd_158 wd_159 (Nat.le_of_ble_eq_true rfl) (Nat.le_of_ble_eq_true rfl) dX8_init_1 ?_
  have f0 := hF.up (b := 27) (by decide)
  refine g_aload_n hC dX8_init_4 (i := 0) rfl (q := 0) rfl ?_
  refine g_sipush hC dX8_init_5 (v := (700 : Int32)) (by decide) ?_
  refine g_naI hC (N := 700) wd_201 rfl rfl f0 (by decide) (by decide) (by decide) (by rw [hE.1]; decide) (by rw [hE.1]; decide) dX8_init_8 ?_
  have f1 := f0.up (b := 28) (by decide)
  refine g_putrF hC (v := 27) (C0 := "") (t0 := _) fd_RX8_9 rfl (by decide) (Or.inr rfl) rfl rfl dX8_init_10 (nm_e ?_)
  have f2 := mFr.wR (q := 26) (j := 0) (v := some 27) f1 (by decide)
  refine g_aload_n hC dX8_init_13 (i := 0) rfl (q := 0) rfl ?_
  refine g_sipush hC dX8_init_14 (v := (700 : Int32)) (by decide) ?_
  refine g_naI hC (N := 700) wd_201 rfl rfl f2 (by decide) (by decide) (by decide) (by rw [hE.1]; decide) (by rw [hE.1]; decide) dX8_init_17 ?_
  have f3 := f2.up (b := 29) (by decide)
  refine g_putrF hC (v := 28) (C0 := "") (t0 := _) fd_RX8_15 rfl (by decide) (Or.inr rfl) rfl rfl dX8_init_19 (nm_e ?_)
  have f4 := mFr.wR (q := 26) (j := 1) (v := some 28) f3 (by decide)
  refine g_aload_n hC dX8_init_22 (i := 0) rfl (q := 0) rfl ?_
  refine g_bipush hC dX8_init_23 (v := (80 : Int32)) (by decide) ?_
  refine g_naI hC (N := 80) wd_201 rfl rfl f4 (by decide) (by decide) (by decide) (by rw [hE.1]; decide) (by rw [hE.1]; decide) dX8_init_25 ?_
  have f5 := f4.up (b := 30) (by decide)
  refine g_putrF hC (v := 29) (C0 := "") (t0 := _) fd_RX8_18 rfl (by decide) (Or.inr rfl) rfl rfl dX8_init_27 (nm_e ?_)
  have f6 := mFr.wR (q := 26) (j := 2) (v := some 29) f5 (by decide)
  refine g_aload_n hC dX8_init_30 (i := 0) rfl (q := 0) rfl ?_
  refine g_bipush hC dX8_init_31 (v := (7 : Int32)) (by decide) ?_
  refine g_naI hC (N := 7) wd_201 rfl rfl f6 (by decide) (by decide) (by decide) (by rw [hE.1]; decide) (by rw [hE.1]; decide) dX8_init_33 ?_
  have f7 := f6.up (b := 31) (by decide)
  refine g_putrF hC (v := 30) (C0 := "") (t0 := _) fd_RX8_21 rfl (by decide) (Or.inr rfl) rfl rfl dX8_init_35 (nm_e ?_)
  have f8 := mFr.wR (q := 26) (j := 3) (v := some 30) f7 (by decide)
  refine g_aload_n hC dX8_init_38 (i := 0) rfl (q := 0) rfl ?_
  refine g_bipush hC dX8_init_39 (v := (40 : Int32)) (by decide) ?_
  refine g_naI hC (N := 40) wd_201 rfl rfl f8 (by decide) (by decide) (by decide) (by rw [hE.1]; decide) (by rw [hE.1]; decide) dX8_init_41 ?_
  have f9 := f8.up (b := 32) (by decide)
  refine g_putrF hC (v := 31) (C0 := "") (t0 := _) fd_RX8_24 rfl (by decide) (Or.inr rfl) rfl rfl dX8_init_43 (nm_e ?_)
  have f10 := mFr.wR (q := 26) (j := 4) (v := some 31) f9 (by decide)
  refine g_aload_n hC dX8_init_46 (i := 0) rfl (q := 0) rfl ?_
  refine g_iconst hC dX8_init_47 (v := (0 : Int32)) (by decide) ?_
  refine g_puti hC fd_RX8_27 rfl (by decide) rfl dX8_init_48 (nm_e ?_)
  have f11 := mFr.wI (q := 26) (j := 5) (v := (0 : Int32)) f10 (by decide)
  refine g_aload_n hC dX8_init_51 (i := 0) rfl (q := 0) rfl ?_
  refine g_iconst hC dX8_init_52 (v := (0 : Int32)) (by decide) ?_
  refine g_puti hC fd_RX8_31 rfl (by decide) rfl dX8_init_53 (nm_e ?_)
  have f12 := mFr.wI (q := 26) (j := 6) (v := (0 : Int32)) f11 (by decide)
  exact g_vret hC hE rfl dX8_init_56 (by decide) (by decide) ⟨rfl, rfl, rfl, rfl, rfl, rfl⟩
def kI_8_32 (I : mIT) : mIT := (mU (mU I 32 5 (0 : Int32)) 32 6 (0 : Int32))
def kR_8_32 (R : mRT) : mRT := (mUR (mUR (mUR (mUR (mUR R 32 0 (some 33)) 32 1 (some 34)) 32 2 (some 35)) 32 3 (some 36)) 32 4 (some 37))
def kL_8_32 (L : mLT) : mLT := L
theorem kF_8_32 {I : mIT} {R : mRT} {L : mLT} (h : mFr 32 I R L) : mFr 38 (kI_8_32 I) (kR_8_32 R) (kL_8_32 L) := by
  have f : mFr 33 I R L := h.up (by decide)
  replace f := mFr.wR (q := 32) (j := 0) (v := some 33) f (by decide)
  replace f := mFr.wR (q := 32) (j := 1) (v := some 34) f (by decide)
  replace f := mFr.wR (q := 32) (j := 2) (v := some 35) f (by decide)
  replace f := mFr.wR (q := 32) (j := 3) (v := some 36) f (by decide)
  replace f := mFr.wR (q := 32) (j := 4) (v := some 37) f (by decide)
  replace f := mFr.wI (q := 32) (j := 5) (v := (0 : Int32)) f (by decide)
  replace f := mFr.wI (q := 32) (j := 6) (v := (0 : Int32)) f (by decide)
  exact f.up (by decide)
set_option maxRecDepth 20000 in
theorem mk_8_32 {l : Launch} {E : mEn} {I : mIT} {R : mRT} {L : mLT} (hst : l.stackTraces = false) (hF : mFr 32 I R L) : mOk l E mX8_init [.ref (mB E + 32)] 33 0 I R L 5 1527 (mSame none 38 0 (kI_8_32 I) (kR_8_32 R) (kL_8_32 L)) := by
  refine mOk_of hst (by decide) (Nat.le_of_ble_eq_true rfl) (fun X hC hE _ => ?_)
  have hC : mC X E mX8_init RX8 cX8_init := hC
  show mG X E 0 [(0, .ref (mB E + 32))] [] 33 0 I R L 0 0
  refine g_aload_n hC dX8_init_0 (i := 0) rfl (q := 0) rfl ?_
  refine g_obj hC wd_177 wd_158 wd_159 (Nat.le_of_ble_eq_true rfl) (Nat.le_of_ble_eq_true rfl) dX8_init_1 ?_
  have f0 := hF.up (b := 33) (by decide)
  refine g_aload_n hC dX8_init_4 (i := 0) rfl (q := 0) rfl ?_
  refine g_sipush hC dX8_init_5 (v := (700 : Int32)) (by decide) ?_
  refine g_naI hC (N := 700) wd_201 rfl rfl f0 (by decide) (by decide) (by decide) (by rw [hE.1]; decide) (by rw [hE.1]; decide) dX8_init_8 ?_
  have f1 := f0.up (b := 34) (by decide)
  refine g_putrF hC (v := 33) (C0 := "") (t0 := _) fd_RX8_9 rfl (by decide) (Or.inr rfl) rfl rfl dX8_init_10 (nm_e ?_)
  have f2 := mFr.wR (q := 32) (j := 0) (v := some 33) f1 (by decide)
  refine g_aload_n hC dX8_init_13 (i := 0) rfl (q := 0) rfl ?_
  refine g_sipush hC dX8_init_14 (v := (700 : Int32)) (by decide) ?_
  refine g_naI hC (N := 700) wd_201 rfl rfl f2 (by decide) (by decide) (by decide) (by rw [hE.1]; decide) (by rw [hE.1]; decide) dX8_init_17 ?_
  have f3 := f2.up (b := 35) (by decide)
  refine g_putrF hC (v := 34) (C0 := "") (t0 := _) fd_RX8_15 rfl (by decide) (Or.inr rfl) rfl rfl dX8_init_19 (nm_e ?_)
  have f4 := mFr.wR (q := 32) (j := 1) (v := some 34) f3 (by decide)
  refine g_aload_n hC dX8_init_22 (i := 0) rfl (q := 0) rfl ?_
  refine g_bipush hC dX8_init_23 (v := (80 : Int32)) (by decide) ?_
  refine g_naI hC (N := 80) wd_201 rfl rfl f4 (by decide) (by decide) (by decide) (by rw [hE.1]; decide) (by rw [hE.1]; decide) dX8_init_25 ?_
  have f5 := f4.up (b := 36) (by decide)
  refine g_putrF hC (v := 35) (C0 := "") (t0 := _) fd_RX8_18 rfl (by decide) (Or.inr rfl) rfl rfl dX8_init_27 (nm_e ?_)
  have f6 := mFr.wR (q := 32) (j := 2) (v := some 35) f5 (by decide)
  refine g_aload_n hC dX8_init_30 (i := 0) rfl (q := 0) rfl ?_
  refine g_bipush hC dX8_init_31 (v := (7 : Int32)) (by decide) ?_
  refine g_naI hC (N := 7) wd_201 rfl rfl f6 (by decide) (by decide) (by decide) (by rw [hE.1]; decide) (by rw [hE.1]; decide) dX8_init_33 ?_
  have f7 := f6.up (b := 37) (by decide)
  refine g_putrF hC (v := 36) (C0 := "") (t0 := _) fd_RX8_21 rfl (by decide) (Or.inr rfl) rfl rfl dX8_init_35 (nm_e ?_)
  have f8 := mFr.wR (q := 32) (j := 3) (v := some 36) f7 (by decide)
  refine g_aload_n hC dX8_init_38 (i := 0) rfl (q := 0) rfl ?_
  refine g_bipush hC dX8_init_39 (v := (40 : Int32)) (by decide) ?_
  refine g_naI hC (N := 40) wd_201 rfl rfl f8 (by decide) (by decide) (by decide) (by rw [hE.1]; decide) (by rw [hE.1]; decide) dX8_init_41 ?_
  have f9 := f8.up (b := 38) (by decide)
  refine g_putrF hC (v := 37) (C0 := "") (t0 := _) fd_RX8_24 rfl (by decide) (Or.inr rfl) rfl rfl dX8_init_43 (nm_e ?_)
  have f10 := mFr.wR (q := 32) (j := 4) (v := some 37) f9 (by decide)
  refine g_aload_n hC dX8_init_46 (i := 0) rfl (q := 0) rfl ?_
  refine g_iconst hC dX8_init_47 (v := (0 : Int32)) (by decide) ?_
  refine g_puti hC fd_RX8_27 rfl (by decide) rfl dX8_init_48 (nm_e ?_)
  have f11 := mFr.wI (q := 32) (j := 5) (v := (0 : Int32)) f10 (by decide)
  refine g_aload_n hC dX8_init_51 (i := 0) rfl (q := 0) rfl ?_
  refine g_iconst hC dX8_init_52 (v := (0 : Int32)) (by decide) ?_
  refine g_puti hC fd_RX8_31 rfl (by decide) rfl dX8_init_53 (nm_e ?_)
  have f12 := mFr.wI (q := 32) (j := 6) (v := (0 : Int32)) f11 (by decide)
  exact g_vret hC hE rfl dX8_init_56 (by decide) (by decide) ⟨rfl, rfl, rfl, rfl, rfl, rfl⟩
def kI_9_38 (I : mIT) : mIT := I
def kR_9_38 (R : mRT) : mRT := (mUR R 38 0 (some 39))
def kL_9_38 (L : mLT) : mLT := L
theorem kF_9_38 {I : mIT} {R : mRT} {L : mLT} (h : mFr 38 I R L) : mFr 40 (kI_9_38 I) (kR_9_38 R) (kL_9_38 L) := by
  have f : mFr 39 I R L := h.up (by decide)
  replace f := mFr.wR (q := 38) (j := 0) (v := some 39) f (by decide)
  exact f.up (by decide)
set_option maxRecDepth 20000 in
theorem mk_9_38 {l : Launch} {E : mEn} {I : mIT} {R : mRT} {L : mLT} (hst : l.stackTraces = false) (hF : mFr 38 I R L) : mOk l E mX9_init [.ref (mB E + 38)] 39 0 I R L 1 53 (mSame none 40 0 (kI_9_38 I) (kR_9_38 R) (kL_9_38 L)) := by
  refine mOk_of hst (by decide) (Nat.le_of_ble_eq_true rfl) (fun X hC hE _ => ?_)
  have hC : mC X E mX9_init RX9 cX9_init := hC
  show mG X E 0 [(0, .ref (mB E + 38))] [] 39 0 I R L 0 0
  refine g_aload_n hC dX9_init_0 (i := 0) rfl (q := 0) rfl ?_
  refine g_obj hC wd_207 wd_158 wd_159 (Nat.le_of_ble_eq_true rfl) (Nat.le_of_ble_eq_true rfl) dX9_init_1 ?_
  have f0 := hF.up (b := 39) (by decide)
  refine g_aload_n hC dX9_init_4 (i := 0) rfl (q := 0) rfl ?_
  refine g_bipush hC dX9_init_5 (v := (53 : Int32)) (by decide) ?_
  refine g_naI hC (N := 53) wd_201 rfl rfl f0 (by decide) (by decide) (by decide) (by rw [hE.1]; decide) (by rw [hE.1]; decide) dX9_init_7 ?_
  have f1 := f0.up (b := 40) (by decide)
  refine g_putrF hC (v := 39) (C0 := "") (t0 := _) fd_RX9_11 rfl (by decide) (Or.inr rfl) rfl rfl dX9_init_9 (nm_e ?_)
  have f2 := mFr.wR (q := 38) (j := 0) (v := some 39) f1 (by decide)
  exact g_vret hC hE rfl dX9_init_12 (by decide) (by decide) ⟨rfl, rfl, rfl, rfl, rfl, rfl⟩
def kI_5_22 (I : mIT) : mIT := (kI_9_38 (kI_8_32 (kI_8_26 (mU (mU (mU (mU (mU (mU I 22 3 (0 : Int32)) 22 4 (0 : Int32)) 22 5 (20 : Int32)) 22 6 (0 : Int32)) 22 7 (0 : Int32)) 22 8 (0 : Int32)))))
def kR_5_22 (R : mRT) : mRT := (mUR (kR_9_38 (mUR (kR_8_32 (mUR (kR_8_26 (mUR (mUR (mUR R 22 0 (some 23)) 22 1 (some 24)) 22 2 (some 25))) 22 9 (some 26))) 22 10 (some 32))) 22 11 (some 38))
def kL_5_22 (L : mLT) : mLT := (kL_9_38 (kL_8_32 (kL_8_26 L)))
theorem kF_5_22 {I : mIT} {R : mRT} {L : mLT} (h : mFr 22 I R L) : mFr 40 (kI_5_22 I) (kR_5_22 R) (kL_5_22 L) := by
  have f : mFr 23 I R L := h.up (by decide)
  replace f := mFr.wR (q := 22) (j := 0) (v := some 23) f (by decide)
  replace f := mFr.wR (q := 22) (j := 1) (v := some 24) f (by decide)
  replace f := mFr.wR (q := 22) (j := 2) (v := some 25) f (by decide)
  replace f := mFr.wI (q := 22) (j := 3) (v := (0 : Int32)) f (by decide)
  replace f := mFr.wI (q := 22) (j := 4) (v := (0 : Int32)) f (by decide)
  replace f := mFr.wI (q := 22) (j := 5) (v := (20 : Int32)) f (by decide)
  replace f := mFr.wI (q := 22) (j := 6) (v := (0 : Int32)) f (by decide)
  replace f := mFr.wI (q := 22) (j := 7) (v := (0 : Int32)) f (by decide)
  replace f := mFr.wI (q := 22) (j := 8) (v := (0 : Int32)) f (by decide)
  replace f := kF_8_26 (f.up (b := 26) (by decide))
  replace f := mFr.wR (q := 22) (j := 9) (v := some 26) f (by decide)
  replace f := kF_8_32 (f.up (b := 32) (by decide))
  replace f := mFr.wR (q := 22) (j := 10) (v := some 32) f (by decide)
  replace f := kF_9_38 (f.up (b := 38) (by decide))
  replace f := mFr.wR (q := 22) (j := 11) (v := some 38) f (by decide)
  exact f.up (by decide)
set_option maxRecDepth 20000 in
theorem mk_5_22 {l : Launch} {E : mEn} {I : mIT} {R : mRT} {L : mLT} (hst : l.stackTraces = false) (hF : mFr 22 I R L) : mOk l E mX5_init [.ref (mB E + 22)] 23 0 I R L 17 3150 (mSame none 40 0 (kI_5_22 I) (kR_5_22 R) (kL_5_22 L)) := by
  refine mOk_of hst (by decide) (Nat.le_of_ble_eq_true rfl) (fun X hC hE _ => ?_)
  have hC : mC X E mX5_init RX5 cX5_init := hC
  show mG X E 0 [(0, .ref (mB E + 22))] [] 23 0 I R L 0 0
  refine g_aload_n hC dX5_init_0 (i := 0) rfl (q := 0) rfl ?_
  refine g_obj hC wd_171 wd_158 wd_159 (Nat.le_of_ble_eq_true rfl) (Nat.le_of_ble_eq_true rfl) dX5_init_1 ?_
  have f0 := hF.up (b := 23) (by decide)
  refine g_aload_n hC dX5_init_4 (i := 0) rfl (q := 0) rfl ?_
  refine g_bipush hC dX5_init_5 (v := (10 : Int32)) (by decide) ?_
  refine g_naI hC (N := 10) wd_201 rfl rfl f0 (by decide) (by decide) (by decide) (by rw [hE.1]; decide) (by rw [hE.1]; decide) dX5_init_7 ?_
  have f1 := f0.up (b := 24) (by decide)
  refine g_putrF hC (v := 23) (C0 := "") (t0 := _) fd_RX5_9 rfl (by decide) (Or.inr rfl) rfl rfl dX5_init_9 (nm_e ?_)
  have f2 := mFr.wR (q := 22) (j := 0) (v := some 23) f1 (by decide)
  refine g_aload_n hC dX5_init_12 (i := 0) rfl (q := 0) rfl ?_
  refine g_bipush hC dX5_init_13 (v := (10 : Int32)) (by decide) ?_
  refine g_naI hC (N := 10) wd_201 rfl rfl f2 (by decide) (by decide) (by decide) (by rw [hE.1]; decide) (by rw [hE.1]; decide) dX5_init_15 ?_
  have f3 := f2.up (b := 25) (by decide)
  refine g_putrF hC (v := 24) (C0 := "") (t0 := _) fd_RX5_15 rfl (by decide) (Or.inr rfl) rfl rfl dX5_init_17 (nm_e ?_)
  have f4 := mFr.wR (q := 22) (j := 1) (v := some 24) f3 (by decide)
  refine g_aload_n hC dX5_init_20 (i := 0) rfl (q := 0) rfl ?_
  refine g_bipush hC dX5_init_21 (v := (8 : Int32)) (by decide) ?_
  refine g_naI hC (N := 8) wd_201 rfl rfl f4 (by decide) (by decide) (by decide) (by rw [hE.1]; decide) (by rw [hE.1]; decide) dX5_init_23 ?_
  have f5 := f4.up (b := 26) (by decide)
  refine g_putrF hC (v := 25) (C0 := "") (t0 := _) fd_RX5_18 rfl (by decide) (Or.inr rfl) rfl rfl dX5_init_25 (nm_e ?_)
  have f6 := mFr.wR (q := 22) (j := 2) (v := some 25) f5 (by decide)
  refine g_aload_n hC dX5_init_28 (i := 0) rfl (q := 0) rfl ?_
  refine g_iconst hC dX5_init_29 (v := (0 : Int32)) (by decide) ?_
  refine g_puti hC fd_RX5_21 rfl (by decide) rfl dX5_init_30 (nm_e ?_)
  have f7 := mFr.wI (q := 22) (j := 3) (v := (0 : Int32)) f6 (by decide)
  refine g_aload_n hC dX5_init_33 (i := 0) rfl (q := 0) rfl ?_
  refine g_iconst hC dX5_init_34 (v := (0 : Int32)) (by decide) ?_
  refine g_puti hC fd_RX5_25 rfl (by decide) rfl dX5_init_35 (nm_e ?_)
  have f8 := mFr.wI (q := 22) (j := 4) (v := (0 : Int32)) f7 (by decide)
  refine g_aload_n hC dX5_init_38 (i := 0) rfl (q := 0) rfl ?_
  refine g_bipush hC dX5_init_39 (v := (20 : Int32)) (by decide) ?_
  refine g_puti hC fd_RX5_28 rfl (by decide) rfl dX5_init_41 (nm_e ?_)
  have f9 := mFr.wI (q := 22) (j := 5) (v := (20 : Int32)) f8 (by decide)
  refine g_aload_n hC dX5_init_44 (i := 0) rfl (q := 0) rfl ?_
  refine g_iconst hC dX5_init_45 (v := (0 : Int32)) (by decide) ?_
  refine g_puti hC fd_RX5_31 rfl (by decide) rfl dX5_init_46 (nm_e ?_)
  have f10 := mFr.wI (q := 22) (j := 6) (v := (0 : Int32)) f9 (by decide)
  refine g_aload_n hC dX5_init_49 (i := 0) rfl (q := 0) rfl ?_
  refine g_iconst hC dX5_init_50 (v := (0 : Int32)) (by decide) ?_
  refine g_puti hC fd_RX5_34 rfl (by decide) rfl dX5_init_51 (nm_e ?_)
  have f11 := mFr.wI (q := 22) (j := 7) (v := (0 : Int32)) f10 (by decide)
  refine g_aload_n hC dX5_init_54 (i := 0) rfl (q := 0) rfl ?_
  refine g_iconst hC dX5_init_55 (v := (0 : Int32)) (by decide) ?_
  refine g_puti hC fd_RX5_37 rfl (by decide) rfl dX5_init_56 (nm_e ?_)
  have f12 := mFr.wI (q := 22) (j := 8) (v := (0 : Int32)) f11 (by decide)
  refine g_aload_n hC dX5_init_59 (i := 0) rfl (q := 0) rfl ?_
  refine g_new hC (C := RX8) (T := TX8) (N := 7) (ci := 8) rfl rfl inG_8 tyX8_ok okT_8 wd_172 wd_173 wd_130 rfl rfl f12 (by rw [hE.1]; decide) (by rw [hE.1]; decide) dX5_init_60 ?_
  refine g_dup hC dX5_init_63 rfl ?_
  refine g_cI hC (host := RX11) (mc2 := 5) (ms2 := 1527) ci_X8_init nl_RX5_42 ⟨Nat.le_of_ble_eq_true rfl, Nat.le_of_ble_eq_true rfl⟩ dX5_init_64 (q := 26) (As := []) (st := [.ref (mB E + 26), .ref (mB E + 22)]) (mk_8_26 hC.2.2.2.2.2.2.2.1 (f12.up (by decide))) rfl rfl (Nat.le_of_ble_eq_true rfl) (by rw [hE.1]; decide) (mSm ?_)
  have f13 := kF_8_26 (f12.up (b := 26) (by decide))
  refine g_putrF hC (v := 26) (C0 := _) (t0 := .int) fd_RX5_43 rfl (by decide) (Or.inl rfl) rfl rfl dX5_init_67 (nm_e ?_)
  have f14 := mFr.wR (q := 22) (j := 9) (v := some 26) f13 (by decide)
  refine g_aload_n hC dX5_init_70 (i := 0) rfl (q := 0) rfl ?_
  refine g_new hC (C := RX8) (T := TX8) (N := 7) (ci := 8) rfl rfl inG_8 tyX8_ok okT_8 wd_172 wd_173 wd_130 rfl rfl f14 (by rw [hE.1]; decide) (by rw [hE.1]; decide) dX5_init_71 ?_
  refine g_dup hC dX5_init_74 rfl ?_
  refine g_cI hC (host := RX11) (mc2 := 5) (ms2 := 1527) ci_X8_init nl_RX5_42 ⟨Nat.le_of_ble_eq_true rfl, Nat.le_of_ble_eq_true rfl⟩ dX5_init_75 (q := 32) (As := []) (st := [.ref (mB E + 32), .ref (mB E + 22)]) (mk_8_32 hC.2.2.2.2.2.2.2.1 (f14.up (by decide))) rfl rfl (Nat.le_of_ble_eq_true rfl) (by rw [hE.1]; decide) (mSm ?_)
  have f15 := kF_8_32 (f14.up (b := 32) (by decide))
  refine g_putrF hC (v := 32) (C0 := _) (t0 := .int) fd_RX5_47 rfl (by decide) (Or.inl rfl) rfl rfl dX5_init_78 (nm_e ?_)
  have f16 := mFr.wR (q := 22) (j := 10) (v := some 32) f15 (by decide)
  refine g_aload_n hC dX5_init_81 (i := 0) rfl (q := 0) rfl ?_
  refine g_new hC (C := RX9) (T := TX9) (N := 1) (ci := 9) rfl rfl inG_9 tyX9_ok okT_9 wd_202 wd_203 wd_131 rfl rfl f16 (by rw [hE.1]; decide) (by rw [hE.1]; decide) dX5_init_82 ?_
  refine g_dup hC dX5_init_85 rfl ?_
  refine g_cI hC (host := RX11) (mc2 := 1) (ms2 := 53) ci_X9_init nl_RX5_52 ⟨Nat.le_of_ble_eq_true rfl, Nat.le_of_ble_eq_true rfl⟩ dX5_init_86 (q := 38) (As := []) (st := [.ref (mB E + 38), .ref (mB E + 22)]) (mk_9_38 hC.2.2.2.2.2.2.2.1 (f16.up (by decide))) rfl rfl (Nat.le_of_ble_eq_true rfl) (by rw [hE.1]; decide) (mSm ?_)
  have f17 := kF_9_38 (f16.up (b := 38) (by decide))
  refine g_putrF hC (v := 38) (C0 := _) (t0 := .int) fd_RX5_53 rfl (by decide) (Or.inl rfl) rfl rfl dX5_init_89 (nm_e ?_)
  have f18 := mFr.wR (q := 22) (j := 11) (v := some 38) f17 (by decide)
  exact g_vret hC hE rfl dX5_init_92 (by decide) (by decide) ⟨rfl, rfl, rfl, rfl, rfl, rfl⟩
def kI_9_40 (I : mIT) : mIT := I
def kR_9_40 (R : mRT) : mRT := (mUR R 40 0 (some 41))
def kL_9_40 (L : mLT) : mLT := L
theorem kF_9_40 {I : mIT} {R : mRT} {L : mLT} (h : mFr 40 I R L) : mFr 42 (kI_9_40 I) (kR_9_40 R) (kL_9_40 L) := by
  have f : mFr 41 I R L := h.up (by decide)
  replace f := mFr.wR (q := 40) (j := 0) (v := some 41) f (by decide)
  exact f.up (by decide)
set_option maxRecDepth 20000 in
theorem mk_9_40 {l : Launch} {E : mEn} {I : mIT} {R : mRT} {L : mLT} (hst : l.stackTraces = false) (hF : mFr 40 I R L) : mOk l E mX9_init [.ref (mB E + 40)] 41 0 I R L 1 53 (mSame none 42 0 (kI_9_40 I) (kR_9_40 R) (kL_9_40 L)) := by
  refine mOk_of hst (by decide) (Nat.le_of_ble_eq_true rfl) (fun X hC hE _ => ?_)
  have hC : mC X E mX9_init RX9 cX9_init := hC
  show mG X E 0 [(0, .ref (mB E + 40))] [] 41 0 I R L 0 0
  refine g_aload_n hC dX9_init_0 (i := 0) rfl (q := 0) rfl ?_
  refine g_obj hC wd_207 wd_158 wd_159 (Nat.le_of_ble_eq_true rfl) (Nat.le_of_ble_eq_true rfl) dX9_init_1 ?_
  have f0 := hF.up (b := 41) (by decide)
  refine g_aload_n hC dX9_init_4 (i := 0) rfl (q := 0) rfl ?_
  refine g_bipush hC dX9_init_5 (v := (53 : Int32)) (by decide) ?_
  refine g_naI hC (N := 53) wd_201 rfl rfl f0 (by decide) (by decide) (by decide) (by rw [hE.1]; decide) (by rw [hE.1]; decide) dX9_init_7 ?_
  have f1 := f0.up (b := 42) (by decide)
  refine g_putrF hC (v := 41) (C0 := "") (t0 := _) fd_RX9_11 rfl (by decide) (Or.inr rfl) rfl rfl dX9_init_9 (nm_e ?_)
  have f2 := mFr.wR (q := 40) (j := 0) (v := some 41) f1 (by decide)
  exact g_vret hC hE rfl dX9_init_12 (by decide) (by decide) ⟨rfl, rfl, rfl, rfl, rfl, rfl⟩
def kI_0_42 (I : mIT) : mIT := (mU (mU I 42 1 (0 : Int32)) 42 2 (0 : Int32))
def kR_0_42 (R : mRT) : mRT := (mUR R 42 0 (some 43))
def kL_0_42 (L : mLT) : mLT := L
theorem kF_0_42 {I : mIT} {R : mRT} {L : mLT} (h : mFr 42 I R L) : mFr 44 (kI_0_42 I) (kR_0_42 R) (kL_0_42 L) := by
  have f : mFr 43 I R L := h.up (by decide)
  replace f := mFr.wR (q := 42) (j := 0) (v := some 43) f (by decide)
  replace f := mFr.wI (q := 42) (j := 1) (v := (0 : Int32)) f (by decide)
  replace f := mFr.wI (q := 42) (j := 2) (v := (0 : Int32)) f (by decide)
  exact f.up (by decide)
set_option maxRecDepth 20000 in
theorem mk_0_42 {l : Launch} {E : mEn} {I : mIT} {R : mRT} {L : mLT} (hst : l.stackTraces = false) (hF : mFr 42 I R L) : mOk l E mX0_init [.ref (mB E + 42)] 43 0 I R L 1 2120 (mSame none 44 0 (kI_0_42 I) (kR_0_42 R) (kL_0_42 L)) := by
  refine mOk_of hst (by decide) (Nat.le_of_ble_eq_true rfl) (fun X hC hE _ => ?_)
  have hC : mC X E mX0_init RX0 cX0_init := hC
  show mG X E 0 [(0, .ref (mB E + 42))] [] 43 0 I R L 0 0
  refine g_aload_n hC dX0_init_0 (i := 0) rfl (q := 0) rfl ?_
  refine g_obj hC wd_332 wd_158 wd_159 (Nat.le_of_ble_eq_true rfl) (Nat.le_of_ble_eq_true rfl) dX0_init_1 ?_
  have f0 := hF.up (b := 43) (by decide)
  refine g_aload_n hC dX0_init_4 (i := 0) rfl (q := 0) rfl ?_
  refine g_sipush hC dX0_init_5 (v := (2120 : Int32)) (by decide) ?_
  refine g_naI hC (N := 2120) wd_201 rfl rfl f0 (by decide) (by decide) (by decide) (by rw [hE.1]; decide) (by rw [hE.1]; decide) dX0_init_8 ?_
  have f1 := f0.up (b := 44) (by decide)
  refine g_putrF hC (v := 43) (C0 := "") (t0 := _) fd_RX0_11 rfl (by decide) (Or.inr rfl) rfl rfl dX0_init_10 (nm_e ?_)
  have f2 := mFr.wR (q := 42) (j := 0) (v := some 43) f1 (by decide)
  refine g_aload_n hC dX0_init_13 (i := 0) rfl (q := 0) rfl ?_
  refine g_iconst hC dX0_init_14 (v := (0 : Int32)) (by decide) ?_
  refine g_puti hC fd_RX0_17 rfl (by decide) rfl dX0_init_15 (nm_e ?_)
  have f3 := mFr.wI (q := 42) (j := 1) (v := (0 : Int32)) f2 (by decide)
  refine g_aload_n hC dX0_init_18 (i := 0) rfl (q := 0) rfl ?_
  refine g_iconst hC dX0_init_19 (v := (0 : Int32)) (by decide) ?_
  refine g_puti hC fd_RX0_21 rfl (by decide) rfl dX0_init_20 (nm_e ?_)
  have f4 := mFr.wI (q := 42) (j := 2) (v := (0 : Int32)) f3 (by decide)
  exact g_vret hC hE rfl dX0_init_23 (by decide) (by decide) ⟨rfl, rfl, rfl, rfl, rfl, rfl⟩
def kI_4_44 (I : mIT) : mIT := (mU I 44 3 (0 : Int32))
def kR_4_44 (R : mRT) : mRT := (mUR (mUR (mUR R 44 0 (some 45)) 44 1 (some 46)) 44 2 (some 47))
def kL_4_44 (L : mLT) : mLT := L
theorem kF_4_44 {I : mIT} {R : mRT} {L : mLT} (h : mFr 44 I R L) : mFr 48 (kI_4_44 I) (kR_4_44 R) (kL_4_44 L) := by
  have f : mFr 45 I R L := h.up (by decide)
  replace f := mFr.wR (q := 44) (j := 0) (v := some 45) f (by decide)
  replace f := mFr.wR (q := 44) (j := 1) (v := some 46) f (by decide)
  replace f := mFr.wR (q := 44) (j := 2) (v := some 47) f (by decide)
  replace f := mFr.wI (q := 44) (j := 3) (v := (0 : Int32)) f (by decide)
  exact f.up (by decide)
set_option maxRecDepth 20000 in
theorem mk_4_44 {l : Launch} {E : mEn} {I : mIT} {R : mRT} {L : mLT} (hst : l.stackTraces = false) (hF : mFr 44 I R L) : mOk l E mX4_init [.ref (mB E + 44)] 45 0 I R L 3 24 (mSame none 48 0 (kI_4_44 I) (kR_4_44 R) (kL_4_44 L)) := by
  refine mOk_of hst (by decide) (Nat.le_of_ble_eq_true rfl) (fun X hC hE _ => ?_)
  have hC : mC X E mX4_init RX4 cX4_init := hC
  show mG X E 0 [(0, .ref (mB E + 44))] [] 45 0 I R L 0 0
  refine g_aload_n hC dX4_init_0 (i := 0) rfl (q := 0) rfl ?_
  refine g_obj hC wd_348 wd_158 wd_159 (Nat.le_of_ble_eq_true rfl) (Nat.le_of_ble_eq_true rfl) dX4_init_1 ?_
  have f0 := hF.up (b := 45) (by decide)
  refine g_aload_n hC dX4_init_4 (i := 0) rfl (q := 0) rfl ?_
  refine g_bipush hC dX4_init_5 (v := (8 : Int32)) (by decide) ?_
  refine g_naI hC (N := 8) wd_201 rfl rfl f0 (by decide) (by decide) (by decide) (by rw [hE.1]; decide) (by rw [hE.1]; decide) dX4_init_7 ?_
  have f1 := f0.up (b := 46) (by decide)
  refine g_putrF hC (v := 45) (C0 := "") (t0 := _) fd_RX4_9 rfl (by decide) (Or.inr rfl) rfl rfl dX4_init_9 (nm_e ?_)
  have f2 := mFr.wR (q := 44) (j := 0) (v := some 45) f1 (by decide)
  refine g_aload_n hC dX4_init_12 (i := 0) rfl (q := 0) rfl ?_
  refine g_bipush hC dX4_init_13 (v := (8 : Int32)) (by decide) ?_
  refine g_naI hC (N := 8) wd_201 rfl rfl f2 (by decide) (by decide) (by decide) (by rw [hE.1]; decide) (by rw [hE.1]; decide) dX4_init_15 ?_
  have f3 := f2.up (b := 47) (by decide)
  refine g_putrF hC (v := 46) (C0 := "") (t0 := _) fd_RX4_15 rfl (by decide) (Or.inr rfl) rfl rfl dX4_init_17 (nm_e ?_)
  have f4 := mFr.wR (q := 44) (j := 1) (v := some 46) f3 (by decide)
  refine g_aload_n hC dX4_init_20 (i := 0) rfl (q := 0) rfl ?_
  refine g_bipush hC dX4_init_21 (v := (8 : Int32)) (by decide) ?_
  refine g_naI hC (N := 8) wd_201 rfl rfl f4 (by decide) (by decide) (by decide) (by rw [hE.1]; decide) (by rw [hE.1]; decide) dX4_init_23 ?_
  have f5 := f4.up (b := 48) (by decide)
  refine g_putrF hC (v := 47) (C0 := "") (t0 := _) fd_RX4_18 rfl (by decide) (Or.inr rfl) rfl rfl dX4_init_25 (nm_e ?_)
  have f6 := mFr.wR (q := 44) (j := 2) (v := some 47) f5 (by decide)
  refine g_aload_n hC dX4_init_28 (i := 0) rfl (q := 0) rfl ?_
  refine g_iconst hC dX4_init_29 (v := (0 : Int32)) (by decide) ?_
  refine g_puti hC fd_RX4_21 rfl (by decide) rfl dX4_init_30 (nm_e ?_)
  have f7 := mFr.wI (q := 44) (j := 3) (v := (0 : Int32)) f6 (by decide)
  exact g_vret hC hE rfl dX4_init_33 (by decide) (by decide) ⟨rfl, rfl, rfl, rfl, rfl, rfl⟩
def kI_9_48 (I : mIT) : mIT := I
def kR_9_48 (R : mRT) : mRT := (mUR R 48 0 (some 49))
def kL_9_48 (L : mLT) : mLT := L
theorem kF_9_48 {I : mIT} {R : mRT} {L : mLT} (h : mFr 48 I R L) : mFr 50 (kI_9_48 I) (kR_9_48 R) (kL_9_48 L) := by
  have f : mFr 49 I R L := h.up (by decide)
  replace f := mFr.wR (q := 48) (j := 0) (v := some 49) f (by decide)
  exact f.up (by decide)
set_option maxRecDepth 20000 in
theorem mk_9_48 {l : Launch} {E : mEn} {I : mIT} {R : mRT} {L : mLT} (hst : l.stackTraces = false) (hF : mFr 48 I R L) : mOk l E mX9_init [.ref (mB E + 48)] 49 0 I R L 1 53 (mSame none 50 0 (kI_9_48 I) (kR_9_48 R) (kL_9_48 L)) := by
  refine mOk_of hst (by decide) (Nat.le_of_ble_eq_true rfl) (fun X hC hE _ => ?_)
  have hC : mC X E mX9_init RX9 cX9_init := hC
  show mG X E 0 [(0, .ref (mB E + 48))] [] 49 0 I R L 0 0
  refine g_aload_n hC dX9_init_0 (i := 0) rfl (q := 0) rfl ?_
  refine g_obj hC wd_207 wd_158 wd_159 (Nat.le_of_ble_eq_true rfl) (Nat.le_of_ble_eq_true rfl) dX9_init_1 ?_
  have f0 := hF.up (b := 49) (by decide)
  refine g_aload_n hC dX9_init_4 (i := 0) rfl (q := 0) rfl ?_
  refine g_bipush hC dX9_init_5 (v := (53 : Int32)) (by decide) ?_
  refine g_naI hC (N := 53) wd_201 rfl rfl f0 (by decide) (by decide) (by decide) (by rw [hE.1]; decide) (by rw [hE.1]; decide) dX9_init_7 ?_
  have f1 := f0.up (b := 50) (by decide)
  refine g_putrF hC (v := 49) (C0 := "") (t0 := _) fd_RX9_11 rfl (by decide) (Or.inr rfl) rfl rfl dX9_init_9 (nm_e ?_)
  have f2 := mFr.wR (q := 48) (j := 0) (v := some 49) f1 (by decide)
  exact g_vret hC hE rfl dX9_init_12 (by decide) (by decide) ⟨rfl, rfl, rfl, rfl, rfl, rfl⟩
def kI_0_50 (I : mIT) : mIT := (mU (mU I 50 1 (0 : Int32)) 50 2 (0 : Int32))
def kR_0_50 (R : mRT) : mRT := (mUR R 50 0 (some 51))
def kL_0_50 (L : mLT) : mLT := L
theorem kF_0_50 {I : mIT} {R : mRT} {L : mLT} (h : mFr 50 I R L) : mFr 52 (kI_0_50 I) (kR_0_50 R) (kL_0_50 L) := by
  have f : mFr 51 I R L := h.up (by decide)
  replace f := mFr.wR (q := 50) (j := 0) (v := some 51) f (by decide)
  replace f := mFr.wI (q := 50) (j := 1) (v := (0 : Int32)) f (by decide)
  replace f := mFr.wI (q := 50) (j := 2) (v := (0 : Int32)) f (by decide)
  exact f.up (by decide)
set_option maxRecDepth 20000 in
theorem mk_0_50 {l : Launch} {E : mEn} {I : mIT} {R : mRT} {L : mLT} (hst : l.stackTraces = false) (hF : mFr 50 I R L) : mOk l E mX0_init [.ref (mB E + 50)] 51 0 I R L 1 2120 (mSame none 52 0 (kI_0_50 I) (kR_0_50 R) (kL_0_50 L)) := by
  refine mOk_of hst (by decide) (Nat.le_of_ble_eq_true rfl) (fun X hC hE _ => ?_)
  have hC : mC X E mX0_init RX0 cX0_init := hC
  show mG X E 0 [(0, .ref (mB E + 50))] [] 51 0 I R L 0 0
  refine g_aload_n hC dX0_init_0 (i := 0) rfl (q := 0) rfl ?_
  refine g_obj hC wd_332 wd_158 wd_159 (Nat.le_of_ble_eq_true rfl) (Nat.le_of_ble_eq_true rfl) dX0_init_1 ?_
  have f0 := hF.up (b := 51) (by decide)
  refine g_aload_n hC dX0_init_4 (i := 0) rfl (q := 0) rfl ?_
  refine g_sipush hC dX0_init_5 (v := (2120 : Int32)) (by decide) ?_
  refine g_naI hC (N := 2120) wd_201 rfl rfl f0 (by decide) (by decide) (by decide) (by rw [hE.1]; decide) (by rw [hE.1]; decide) dX0_init_8 ?_
  have f1 := f0.up (b := 52) (by decide)
  refine g_putrF hC (v := 51) (C0 := "") (t0 := _) fd_RX0_11 rfl (by decide) (Or.inr rfl) rfl rfl dX0_init_10 (nm_e ?_)
  have f2 := mFr.wR (q := 50) (j := 0) (v := some 51) f1 (by decide)
  refine g_aload_n hC dX0_init_13 (i := 0) rfl (q := 0) rfl ?_
  refine g_iconst hC dX0_init_14 (v := (0 : Int32)) (by decide) ?_
  refine g_puti hC fd_RX0_17 rfl (by decide) rfl dX0_init_15 (nm_e ?_)
  have f3 := mFr.wI (q := 50) (j := 1) (v := (0 : Int32)) f2 (by decide)
  refine g_aload_n hC dX0_init_18 (i := 0) rfl (q := 0) rfl ?_
  refine g_iconst hC dX0_init_19 (v := (0 : Int32)) (by decide) ?_
  refine g_puti hC fd_RX0_21 rfl (by decide) rfl dX0_init_20 (nm_e ?_)
  have f4 := mFr.wI (q := 50) (j := 2) (v := (0 : Int32)) f3 (by decide)
  exact g_vret hC hE rfl dX0_init_23 (by decide) (by decide) ⟨rfl, rfl, rfl, rfl, rfl, rfl⟩
def kI_4_52 (I : mIT) : mIT := (mU I 52 3 (0 : Int32))
def kR_4_52 (R : mRT) : mRT := (mUR (mUR (mUR R 52 0 (some 53)) 52 1 (some 54)) 52 2 (some 55))
def kL_4_52 (L : mLT) : mLT := L
theorem kF_4_52 {I : mIT} {R : mRT} {L : mLT} (h : mFr 52 I R L) : mFr 56 (kI_4_52 I) (kR_4_52 R) (kL_4_52 L) := by
  have f : mFr 53 I R L := h.up (by decide)
  replace f := mFr.wR (q := 52) (j := 0) (v := some 53) f (by decide)
  replace f := mFr.wR (q := 52) (j := 1) (v := some 54) f (by decide)
  replace f := mFr.wR (q := 52) (j := 2) (v := some 55) f (by decide)
  replace f := mFr.wI (q := 52) (j := 3) (v := (0 : Int32)) f (by decide)
  exact f.up (by decide)
set_option maxRecDepth 20000 in
theorem mk_4_52 {l : Launch} {E : mEn} {I : mIT} {R : mRT} {L : mLT} (hst : l.stackTraces = false) (hF : mFr 52 I R L) : mOk l E mX4_init [.ref (mB E + 52)] 53 0 I R L 3 24 (mSame none 56 0 (kI_4_52 I) (kR_4_52 R) (kL_4_52 L)) := by
  refine mOk_of hst (by decide) (Nat.le_of_ble_eq_true rfl) (fun X hC hE _ => ?_)
  have hC : mC X E mX4_init RX4 cX4_init := hC
  show mG X E 0 [(0, .ref (mB E + 52))] [] 53 0 I R L 0 0
  refine g_aload_n hC dX4_init_0 (i := 0) rfl (q := 0) rfl ?_
  refine g_obj hC wd_348 wd_158 wd_159 (Nat.le_of_ble_eq_true rfl) (Nat.le_of_ble_eq_true rfl) dX4_init_1 ?_
  have f0 := hF.up (b := 53) (by decide)
  refine g_aload_n hC dX4_init_4 (i := 0) rfl (q := 0) rfl ?_
  refine g_bipush hC dX4_init_5 (v := (8 : Int32)) (by decide) ?_
  refine g_naI hC (N := 8) wd_201 rfl rfl f0 (by decide) (by decide) (by decide) (by rw [hE.1]; decide) (by rw [hE.1]; decide) dX4_init_7 ?_
  have f1 := f0.up (b := 54) (by decide)
  refine g_putrF hC (v := 53) (C0 := "") (t0 := _) fd_RX4_9 rfl (by decide) (Or.inr rfl) rfl rfl dX4_init_9 (nm_e ?_)
  have f2 := mFr.wR (q := 52) (j := 0) (v := some 53) f1 (by decide)
  refine g_aload_n hC dX4_init_12 (i := 0) rfl (q := 0) rfl ?_
  refine g_bipush hC dX4_init_13 (v := (8 : Int32)) (by decide) ?_
  refine g_naI hC (N := 8) wd_201 rfl rfl f2 (by decide) (by decide) (by decide) (by rw [hE.1]; decide) (by rw [hE.1]; decide) dX4_init_15 ?_
  have f3 := f2.up (b := 55) (by decide)
  refine g_putrF hC (v := 54) (C0 := "") (t0 := _) fd_RX4_15 rfl (by decide) (Or.inr rfl) rfl rfl dX4_init_17 (nm_e ?_)
  have f4 := mFr.wR (q := 52) (j := 1) (v := some 54) f3 (by decide)
  refine g_aload_n hC dX4_init_20 (i := 0) rfl (q := 0) rfl ?_
  refine g_bipush hC dX4_init_21 (v := (8 : Int32)) (by decide) ?_
  refine g_naI hC (N := 8) wd_201 rfl rfl f4 (by decide) (by decide) (by decide) (by rw [hE.1]; decide) (by rw [hE.1]; decide) dX4_init_23 ?_
  have f5 := f4.up (b := 56) (by decide)
  refine g_putrF hC (v := 55) (C0 := "") (t0 := _) fd_RX4_18 rfl (by decide) (Or.inr rfl) rfl rfl dX4_init_25 (nm_e ?_)
  have f6 := mFr.wR (q := 52) (j := 2) (v := some 55) f5 (by decide)
  refine g_aload_n hC dX4_init_28 (i := 0) rfl (q := 0) rfl ?_
  refine g_iconst hC dX4_init_29 (v := (0 : Int32)) (by decide) ?_
  refine g_puti hC fd_RX4_21 rfl (by decide) rfl dX4_init_30 (nm_e ?_)
  have f7 := mFr.wI (q := 52) (j := 3) (v := (0 : Int32)) f6 (by decide)
  exact g_vret hC hE rfl dX4_init_33 (by decide) (by decide) ⟨rfl, rfl, rfl, rfl, rfl, rfl⟩
def kI_9_57 (I : mIT) : mIT := I
def kR_9_57 (R : mRT) : mRT := (mUR R 57 0 (some 58))
def kL_9_57 (L : mLT) : mLT := L
theorem kF_9_57 {I : mIT} {R : mRT} {L : mLT} (h : mFr 57 I R L) : mFr 59 (kI_9_57 I) (kR_9_57 R) (kL_9_57 L) := by
  have f : mFr 58 I R L := h.up (by decide)
  replace f := mFr.wR (q := 57) (j := 0) (v := some 58) f (by decide)
  exact f.up (by decide)
set_option maxRecDepth 20000 in
theorem mk_9_57 {l : Launch} {E : mEn} {I : mIT} {R : mRT} {L : mLT} (hst : l.stackTraces = false) (hF : mFr 57 I R L) : mOk l E mX9_init [.ref (mB E + 57)] 58 0 I R L 1 53 (mSame none 59 0 (kI_9_57 I) (kR_9_57 R) (kL_9_57 L)) := by
  refine mOk_of hst (by decide) (Nat.le_of_ble_eq_true rfl) (fun X hC hE _ => ?_)
  have hC : mC X E mX9_init RX9 cX9_init := hC
  show mG X E 0 [(0, .ref (mB E + 57))] [] 58 0 I R L 0 0
  refine g_aload_n hC dX9_init_0 (i := 0) rfl (q := 0) rfl ?_
  refine g_obj hC wd_207 wd_158 wd_159 (Nat.le_of_ble_eq_true rfl) (Nat.le_of_ble_eq_true rfl) dX9_init_1 ?_
  have f0 := hF.up (b := 58) (by decide)
  refine g_aload_n hC dX9_init_4 (i := 0) rfl (q := 0) rfl ?_
  refine g_bipush hC dX9_init_5 (v := (53 : Int32)) (by decide) ?_
  refine g_naI hC (N := 53) wd_201 rfl rfl f0 (by decide) (by decide) (by decide) (by rw [hE.1]; decide) (by rw [hE.1]; decide) dX9_init_7 ?_
  have f1 := f0.up (b := 59) (by decide)
  refine g_putrF hC (v := 58) (C0 := "") (t0 := _) fd_RX9_11 rfl (by decide) (Or.inr rfl) rfl rfl dX9_init_9 (nm_e ?_)
  have f2 := mFr.wR (q := 57) (j := 0) (v := some 58) f1 (by decide)
  exact g_vret hC hE rfl dX9_init_12 (by decide) (by decide) ⟨rfl, rfl, rfl, rfl, rfl, rfl⟩
def kI_1_56 (I : mIT) : mIT := (mU (kI_9_57 I) 56 4 (0 : Int32))
def kR_1_56 (R : mRT) : mRT := (mUR (mUR (mUR (mUR (kR_9_57 R) 56 0 (some 57)) 56 1 (some 59)) 56 2 (some 60)) 56 3 (some 61))
def kL_1_56 (L : mLT) : mLT := (kL_9_57 L)
theorem kF_1_56 {I : mIT} {R : mRT} {L : mLT} (h : mFr 56 I R L) : mFr 62 (kI_1_56 I) (kR_1_56 R) (kL_1_56 L) := by
  have f : mFr 57 I R L := h.up (by decide)
  replace f := kF_9_57 (f.up (b := 57) (by decide))
  replace f := mFr.wR (q := 56) (j := 0) (v := some 57) f (by decide)
  replace f := mFr.wR (q := 56) (j := 1) (v := some 59) f (by decide)
  replace f := mFr.wR (q := 56) (j := 2) (v := some 60) f (by decide)
  replace f := mFr.wR (q := 56) (j := 3) (v := some 61) f (by decide)
  replace f := mFr.wI (q := 56) (j := 4) (v := (0 : Int32)) f (by decide)
  exact f.up (by decide)
set_option maxRecDepth 20000 in
theorem mk_1_56 {l : Launch} {E : mEn} {I : mIT} {R : mRT} {L : mLT} (hst : l.stackTraces = false) (hF : mFr 56 I R L) : mOk l E mX1_init [.ref (mB E + 56)] 57 0 I R L 5 786 (mSame none 62 0 (kI_1_56 I) (kR_1_56 R) (kL_1_56 L)) := by
  refine mOk_of hst (by decide) (Nat.le_of_ble_eq_true rfl) (fun X hC hE _ => ?_)
  have hC : mC X E mX1_init RX1 cX1_init := hC
  show mG X E 0 [(0, .ref (mB E + 56))] [] 57 0 I R L 0 0
  refine g_aload_n hC dX1_init_0 (i := 0) rfl (q := 0) rfl ?_
  refine g_obj hC wd_367 wd_158 wd_159 (Nat.le_of_ble_eq_true rfl) (Nat.le_of_ble_eq_true rfl) dX1_init_1 ?_
  have f0 := hF.up (b := 57) (by decide)
  refine g_aload_n hC dX1_init_4 (i := 0) rfl (q := 0) rfl ?_
  refine g_new hC (C := RX9) (T := TX9) (N := 1) (ci := 9) rfl rfl inG_9 tyX9_ok okT_9 wd_368 wd_203 wd_131 rfl rfl f0 (by rw [hE.1]; decide) (by rw [hE.1]; decide) dX1_init_5 ?_
  refine g_dup hC dX1_init_8 rfl ?_
  refine g_cI hC (host := RX11) (mc2 := 1) (ms2 := 53) ci_X9_init nl_RX1_11 ⟨Nat.le_of_ble_eq_true rfl, Nat.le_of_ble_eq_true rfl⟩ dX1_init_9 (q := 57) (As := []) (st := [.ref (mB E + 57), .ref (mB E + 56)]) (mk_9_57 hC.2.2.2.2.2.2.2.1 (f0.up (by decide))) rfl rfl (Nat.le_of_ble_eq_true rfl) (by rw [hE.1]; decide) (mSm ?_)
  have f1 := kF_9_57 (f0.up (b := 57) (by decide))
  refine g_putrF hC (v := 57) (C0 := _) (t0 := .int) fd_RX1_12 rfl (by decide) (Or.inl rfl) rfl rfl dX1_init_12 (nm_e ?_)
  have f2 := mFr.wR (q := 56) (j := 0) (v := some 57) f1 (by decide)
  refine g_aload_n hC dX1_init_15 (i := 0) rfl (q := 0) rfl ?_
  refine g_sipush hC dX1_init_16 (v := (610 : Int32)) (by decide) ?_
  refine g_naI hC (N := 610) wd_201 rfl rfl f2 (by decide) (by decide) (by decide) (by rw [hE.1]; decide) (by rw [hE.1]; decide) dX1_init_19 ?_
  have f3 := f2.up (b := 60) (by decide)
  refine g_putrF hC (v := 59) (C0 := "") (t0 := _) fd_RX1_18 rfl (by decide) (Or.inr rfl) rfl rfl dX1_init_21 (nm_e ?_)
  have f4 := mFr.wR (q := 56) (j := 1) (v := some 59) f3 (by decide)
  refine g_aload_n hC dX1_init_24 (i := 0) rfl (q := 0) rfl ?_
  refine g_bipush hC dX1_init_25 (v := (61 : Int32)) (by decide) ?_
  refine g_naI hC (N := 61) wd_201 rfl rfl f4 (by decide) (by decide) (by decide) (by rw [hE.1]; decide) (by rw [hE.1]; decide) dX1_init_27 ?_
  have f5 := f4.up (b := 61) (by decide)
  refine g_putrF hC (v := 60) (C0 := "") (t0 := _) fd_RX1_22 rfl (by decide) (Or.inr rfl) rfl rfl dX1_init_29 (nm_e ?_)
  have f6 := mFr.wR (q := 56) (j := 2) (v := some 60) f5 (by decide)
  refine g_aload_n hC dX1_init_32 (i := 0) rfl (q := 0) rfl ?_
  refine g_bipush hC dX1_init_33 (v := (61 : Int32)) (by decide) ?_
  refine g_naI hC (N := 61) wd_201 rfl rfl f6 (by decide) (by decide) (by decide) (by rw [hE.1]; decide) (by rw [hE.1]; decide) dX1_init_35 ?_
  have f7 := f6.up (b := 62) (by decide)
  refine g_putrF hC (v := 61) (C0 := "") (t0 := _) fd_RX1_25 rfl (by decide) (Or.inr rfl) rfl rfl dX1_init_37 (nm_e ?_)
  have f8 := mFr.wR (q := 56) (j := 3) (v := some 61) f7 (by decide)
  refine g_aload_n hC dX1_init_40 (i := 0) rfl (q := 0) rfl ?_
  refine g_iconst hC dX1_init_41 (v := (0 : Int32)) (by decide) ?_
  refine g_puti hC fd_RX1_28 rfl (by decide) rfl dX1_init_42 (nm_e ?_)
  have f9 := mFr.wI (q := 56) (j := 4) (v := (0 : Int32)) f8 (by decide)
  exact g_vret hC hE rfl dX1_init_45 (by decide) (by decide) ⟨rfl, rfl, rfl, rfl, rfl, rfl⟩
def kI_7_62 (I : mIT) : mIT := (mU (mU I 62 3 (0 : Int32)) 62 4 (0 : Int32))
def kR_7_62 (R : mRT) : mRT := (mUR (mUR (mUR R 62 0 (some 63)) 62 1 (some 64)) 62 2 (some 65))
def kL_7_62 (L : mLT) : mLT := L
theorem kF_7_62 {I : mIT} {R : mRT} {L : mLT} (h : mFr 62 I R L) : mFr 66 (kI_7_62 I) (kR_7_62 R) (kL_7_62 L) := by
  have f : mFr 63 I R L := h.up (by decide)
  replace f := mFr.wR (q := 62) (j := 0) (v := some 63) f (by decide)
  replace f := mFr.wR (q := 62) (j := 1) (v := some 64) f (by decide)
  replace f := mFr.wR (q := 62) (j := 2) (v := some 65) f (by decide)
  replace f := mFr.wI (q := 62) (j := 3) (v := (0 : Int32)) f (by decide)
  replace f := mFr.wI (q := 62) (j := 4) (v := (0 : Int32)) f (by decide)
  exact f.up (by decide)
set_option maxRecDepth 20000 in
theorem mk_7_62 {l : Launch} {E : mEn} {I : mIT} {R : mRT} {L : mLT} (hst : l.stackTraces = false) (hF : mFr 62 I R L) : mOk l E mX7_init [.ref (mB E + 62)] 63 0 I R L 3 90 (mSame none 66 0 (kI_7_62 I) (kR_7_62 R) (kL_7_62 L)) := by
  refine mOk_of hst (by decide) (Nat.le_of_ble_eq_true rfl) (fun X hC hE _ => ?_)
  have hC : mC X E mX7_init RX7 cX7_init := hC
  show mG X E 0 [(0, .ref (mB E + 62))] [] 63 0 I R L 0 0
  refine g_aload_n hC dX7_init_0 (i := 0) rfl (q := 0) rfl ?_
  refine g_obj hC wd_391 wd_158 wd_159 (Nat.le_of_ble_eq_true rfl) (Nat.le_of_ble_eq_true rfl) dX7_init_1 ?_
  have f0 := hF.up (b := 63) (by decide)
  refine g_aload_n hC dX7_init_4 (i := 0) rfl (q := 0) rfl ?_
  refine g_bipush hC dX7_init_5 (v := (6 : Int32)) (by decide) ?_
  refine g_naI hC (N := 6) wd_201 rfl rfl f0 (by decide) (by decide) (by decide) (by rw [hE.1]; decide) (by rw [hE.1]; decide) dX7_init_7 ?_
  have f1 := f0.up (b := 64) (by decide)
  refine g_putrF hC (v := 63) (C0 := "") (t0 := _) fd_RX7_9 rfl (by decide) (Or.inr rfl) rfl rfl dX7_init_9 (nm_e ?_)
  have f2 := mFr.wR (q := 62) (j := 0) (v := some 63) f1 (by decide)
  refine g_aload_n hC dX7_init_12 (i := 0) rfl (q := 0) rfl ?_
  refine g_bipush hC dX7_init_13 (v := (12 : Int32)) (by decide) ?_
  refine g_naI hC (N := 12) wd_201 rfl rfl f2 (by decide) (by decide) (by decide) (by rw [hE.1]; decide) (by rw [hE.1]; decide) dX7_init_15 ?_
  have f3 := f2.up (b := 65) (by decide)
  refine g_putrF hC (v := 64) (C0 := "") (t0 := _) fd_RX7_15 rfl (by decide) (Or.inr rfl) rfl rfl dX7_init_17 (nm_e ?_)
  have f4 := mFr.wR (q := 62) (j := 1) (v := some 64) f3 (by decide)
  refine g_aload_n hC dX7_init_20 (i := 0) rfl (q := 0) rfl ?_
  refine g_bipush hC dX7_init_21 (v := (72 : Int32)) (by decide) ?_
  refine g_naI hC (N := 72) wd_201 rfl rfl f4 (by decide) (by decide) (by decide) (by rw [hE.1]; decide) (by rw [hE.1]; decide) dX7_init_23 ?_
  have f5 := f4.up (b := 66) (by decide)
  refine g_putrF hC (v := 65) (C0 := "") (t0 := _) fd_RX7_18 rfl (by decide) (Or.inr rfl) rfl rfl dX7_init_25 (nm_e ?_)
  have f6 := mFr.wR (q := 62) (j := 2) (v := some 65) f5 (by decide)
  refine g_aload_n hC dX7_init_28 (i := 0) rfl (q := 0) rfl ?_
  refine g_iconst hC dX7_init_29 (v := (0 : Int32)) (by decide) ?_
  refine g_puti hC fd_RX7_21 rfl (by decide) rfl dX7_init_30 (nm_e ?_)
  have f7 := mFr.wI (q := 62) (j := 3) (v := (0 : Int32)) f6 (by decide)
  refine g_aload_n hC dX7_init_33 (i := 0) rfl (q := 0) rfl ?_
  refine g_iconst hC dX7_init_34 (v := (0 : Int32)) (by decide) ?_
  refine g_puti hC fd_RX7_25 rfl (by decide) rfl dX7_init_35 (nm_e ?_)
  have f8 := mFr.wI (q := 62) (j := 4) (v := (0 : Int32)) f7 (by decide)
  exact g_vret hC hE rfl dX7_init_38 (by decide) (by decide) ⟨rfl, rfl, rfl, rfl, rfl, rfl⟩
def kI_2_66 (I : mIT) : mIT := (mU (mU (mU I 66 2 (0 : Int32)) 66 3 (0 : Int32)) 66 4 (0 : Int32))
def kR_2_66 (R : mRT) : mRT := (mUR (mUR R 66 0 (some 67)) 66 1 (some 68))
def kL_2_66 (L : mLT) : mLT := L
theorem kF_2_66 {I : mIT} {R : mRT} {L : mLT} (h : mFr 66 I R L) : mFr 69 (kI_2_66 I) (kR_2_66 R) (kL_2_66 L) := by
  have f : mFr 67 I R L := h.up (by decide)
  replace f := mFr.wR (q := 66) (j := 0) (v := some 67) f (by decide)
  replace f := mFr.wR (q := 66) (j := 1) (v := some 68) f (by decide)
  replace f := mFr.wI (q := 66) (j := 2) (v := (0 : Int32)) f (by decide)
  replace f := mFr.wI (q := 66) (j := 3) (v := (0 : Int32)) f (by decide)
  replace f := mFr.wI (q := 66) (j := 4) (v := (0 : Int32)) f (by decide)
  exact f.up (by decide)
set_option maxRecDepth 20000 in
theorem mk_2_66 {l : Launch} {E : mEn} {I : mIT} {R : mRT} {L : mLT} (hst : l.stackTraces = false) (hF : mFr 66 I R L) : mOk l E mX2_init [.ref (mB E + 66)] 67 0 I R L 2 1104 (mSame none 69 0 (kI_2_66 I) (kR_2_66 R) (kL_2_66 L)) := by
  refine mOk_of hst (by decide) (Nat.le_of_ble_eq_true rfl) (fun X hC hE _ => ?_)
  have hC : mC X E mX2_init RX2 cX2_init := hC
  show mG X E 0 [(0, .ref (mB E + 66))] [] 67 0 I R L 0 0
  refine g_aload_n hC dX2_init_0 (i := 0) rfl (q := 0) rfl ?_
  refine g_obj hC wd_413 wd_158 wd_159 (Nat.le_of_ble_eq_true rfl) (Nat.le_of_ble_eq_true rfl) dX2_init_1 ?_
  have f0 := hF.up (b := 67) (by decide)
  refine g_aload_n hC dX2_init_4 (i := 0) rfl (q := 0) rfl ?_
  refine g_bipush hC dX2_init_5 (v := (80 : Int32)) (by decide) ?_
  refine g_naI hC (N := 80) wd_201 rfl rfl f0 (by decide) (by decide) (by decide) (by rw [hE.1]; decide) (by rw [hE.1]; decide) dX2_init_7 ?_
  have f1 := f0.up (b := 68) (by decide)
  refine g_putrF hC (v := 67) (C0 := "") (t0 := _) fd_RX2_9 rfl (by decide) (Or.inr rfl) rfl rfl dX2_init_9 (nm_e ?_)
  have f2 := mFr.wR (q := 66) (j := 0) (v := some 67) f1 (by decide)
  refine g_aload_n hC dX2_init_12 (i := 0) rfl (q := 0) rfl ?_
  refine g_sipush hC dX2_init_13 (v := (1024 : Int32)) (by decide) ?_
  refine g_naI hC (N := 1024) wd_201 rfl rfl f2 (by decide) (by decide) (by decide) (by rw [hE.1]; decide) (by rw [hE.1]; decide) dX2_init_16 ?_
  have f3 := f2.up (b := 69) (by decide)
  refine g_putrF hC (v := 68) (C0 := "") (t0 := _) fd_RX2_15 rfl (by decide) (Or.inr rfl) rfl rfl dX2_init_18 (nm_e ?_)
  have f4 := mFr.wR (q := 66) (j := 1) (v := some 68) f3 (by decide)
  refine g_aload_n hC dX2_init_21 (i := 0) rfl (q := 0) rfl ?_
  refine g_iconst hC dX2_init_22 (v := (0 : Int32)) (by decide) ?_
  refine g_puti hC fd_RX2_18 rfl (by decide) rfl dX2_init_23 (nm_e ?_)
  have f5 := mFr.wI (q := 66) (j := 2) (v := (0 : Int32)) f4 (by decide)
  refine g_aload_n hC dX2_init_26 (i := 0) rfl (q := 0) rfl ?_
  refine g_iconst hC dX2_init_27 (v := (0 : Int32)) (by decide) ?_
  refine g_puti hC fd_RX2_22 rfl (by decide) rfl dX2_init_28 (nm_e ?_)
  have f6 := mFr.wI (q := 66) (j := 3) (v := (0 : Int32)) f5 (by decide)
  refine g_aload_n hC dX2_init_31 (i := 0) rfl (q := 0) rfl ?_
  refine g_iconst hC dX2_init_32 (v := (0 : Int32)) (by decide) ?_
  refine g_putz hC (by decide) fd_RX2_25 rfl (by decide) rfl dX2_init_33 (nm_e ?_)
  have f7 := mFr.wI (q := 66) (j := 4) (v := (0 : Int32)) f6 (by decide)
  exact g_vret hC hE rfl dX2_init_36 (by decide) (by decide) ⟨rfl, rfl, rfl, rfl, rfl, rfl⟩
def kI_3_69 (I : mIT) : mIT := (mU (mU (mU (mU I 69 2 (0 : Int32)) 69 3 (-1 : Int32)) 69 4 (-1 : Int32)) 69 5 (0 : Int32))
def kR_3_69 (R : mRT) : mRT := (mUR (mUR R 69 0 (some 70)) 69 1 (some 71))
def kL_3_69 (L : mLT) : mLT := L
theorem kF_3_69 {I : mIT} {R : mRT} {L : mLT} (h : mFr 69 I R L) : mFr 72 (kI_3_69 I) (kR_3_69 R) (kL_3_69 L) := by
  have f : mFr 70 I R L := h.up (by decide)
  replace f := mFr.wR (q := 69) (j := 0) (v := some 70) f (by decide)
  replace f := mFr.wR (q := 69) (j := 1) (v := some 71) f (by decide)
  replace f := mFr.wI (q := 69) (j := 2) (v := (0 : Int32)) f (by decide)
  replace f := mFr.wI (q := 69) (j := 3) (v := (-1 : Int32)) f (by decide)
  replace f := mFr.wI (q := 69) (j := 4) (v := (-1 : Int32)) f (by decide)
  replace f := mFr.wI (q := 69) (j := 5) (v := (0 : Int32)) f (by decide)
  exact f.up (by decide)
set_option maxRecDepth 20000 in
theorem mk_3_69 {l : Launch} {E : mEn} {I : mIT} {R : mRT} {L : mLT} (hst : l.stackTraces = false) (hF : mFr 69 I R L) : mOk l E mX3_init [.ref (mB E + 69)] 70 0 I R L 2 21 (mSame none 72 0 (kI_3_69 I) (kR_3_69 R) (kL_3_69 L)) := by
  refine mOk_of hst (by decide) (Nat.le_of_ble_eq_true rfl) (fun X hC hE _ => ?_)
  have hC : mC X E mX3_init RX3 cX3_init := hC
  show mG X E 0 [(0, .ref (mB E + 69))] [] 70 0 I R L 0 0
  refine g_aload_n hC dX3_init_0 (i := 0) rfl (q := 0) rfl ?_
  refine g_obj hC wd_435 wd_158 wd_159 (Nat.le_of_ble_eq_true rfl) (Nat.le_of_ble_eq_true rfl) dX3_init_1 ?_
  have f0 := hF.up (b := 70) (by decide)
  refine g_aload_n hC dX3_init_4 (i := 0) rfl (q := 0) rfl ?_
  refine g_bipush hC dX3_init_5 (v := (10 : Int32)) (by decide) ?_
  refine g_naI hC (N := 10) wd_201 rfl rfl f0 (by decide) (by decide) (by decide) (by rw [hE.1]; decide) (by rw [hE.1]; decide) dX3_init_7 ?_
  have f1 := f0.up (b := 71) (by decide)
  refine g_putrF hC (v := 70) (C0 := "") (t0 := _) fd_RX3_9 rfl (by decide) (Or.inr rfl) rfl rfl dX3_init_9 (nm_e ?_)
  have f2 := mFr.wR (q := 69) (j := 0) (v := some 70) f1 (by decide)
  refine g_aload_n hC dX3_init_12 (i := 0) rfl (q := 0) rfl ?_
  refine g_bipush hC dX3_init_13 (v := (11 : Int32)) (by decide) ?_
  refine g_naI hC (N := 11) wd_201 rfl rfl f2 (by decide) (by decide) (by decide) (by rw [hE.1]; decide) (by rw [hE.1]; decide) dX3_init_15 ?_
  have f3 := f2.up (b := 72) (by decide)
  refine g_putrF hC (v := 71) (C0 := "") (t0 := _) fd_RX3_15 rfl (by decide) (Or.inr rfl) rfl rfl dX3_init_17 (nm_e ?_)
  have f4 := mFr.wR (q := 69) (j := 1) (v := some 71) f3 (by decide)
  refine g_aload_n hC dX3_init_20 (i := 0) rfl (q := 0) rfl ?_
  refine g_iconst hC dX3_init_21 (v := (0 : Int32)) (by decide) ?_
  refine g_puti hC fd_RX3_18 rfl (by decide) rfl dX3_init_22 (nm_e ?_)
  have f5 := mFr.wI (q := 69) (j := 2) (v := (0 : Int32)) f4 (by decide)
  refine g_aload_n hC dX3_init_25 (i := 0) rfl (q := 0) rfl ?_
  refine g_iconst hC dX3_init_26 (v := (-1 : Int32)) (by decide) ?_
  refine g_puti hC fd_RX3_22 rfl (by decide) rfl dX3_init_27 (nm_e ?_)
  have f6 := mFr.wI (q := 69) (j := 3) (v := (-1 : Int32)) f5 (by decide)
  refine g_aload_n hC dX3_init_30 (i := 0) rfl (q := 0) rfl ?_
  refine g_iconst hC dX3_init_31 (v := (-1 : Int32)) (by decide) ?_
  refine g_puti hC fd_RX3_25 rfl (by decide) rfl dX3_init_32 (nm_e ?_)
  have f7 := mFr.wI (q := 69) (j := 4) (v := (-1 : Int32)) f6 (by decide)
  refine g_aload_n hC dX3_init_35 (i := 0) rfl (q := 0) rfl ?_
  refine g_iconst hC dX3_init_36 (v := (0 : Int32)) (by decide) ?_
  refine g_puti hC fd_RX3_28 rfl (by decide) rfl dX3_init_37 (nm_e ?_)
  have f8 := mFr.wI (q := 69) (j := 5) (v := (0 : Int32)) f7 (by decide)
  exact g_vret hC hE rfl dX3_init_40 (by decide) (by decide) ⟨rfl, rfl, rfl, rfl, rfl, rfl⟩
def kI_9_73 (I : mIT) : mIT := I
def kR_9_73 (R : mRT) : mRT := (mUR R 73 0 (some 74))
def kL_9_73 (L : mLT) : mLT := L
theorem kF_9_73 {I : mIT} {R : mRT} {L : mLT} (h : mFr 73 I R L) : mFr 75 (kI_9_73 I) (kR_9_73 R) (kL_9_73 L) := by
  have f : mFr 74 I R L := h.up (by decide)
  replace f := mFr.wR (q := 73) (j := 0) (v := some 74) f (by decide)
  exact f.up (by decide)
set_option maxRecDepth 20000 in
theorem mk_9_73 {l : Launch} {E : mEn} {I : mIT} {R : mRT} {L : mLT} (hst : l.stackTraces = false) (hF : mFr 73 I R L) : mOk l E mX9_init [.ref (mB E + 73)] 74 0 I R L 1 53 (mSame none 75 0 (kI_9_73 I) (kR_9_73 R) (kL_9_73 L)) := by
  refine mOk_of hst (by decide) (Nat.le_of_ble_eq_true rfl) (fun X hC hE _ => ?_)
  have hC : mC X E mX9_init RX9 cX9_init := hC
  show mG X E 0 [(0, .ref (mB E + 73))] [] 74 0 I R L 0 0
  refine g_aload_n hC dX9_init_0 (i := 0) rfl (q := 0) rfl ?_
  refine g_obj hC wd_207 wd_158 wd_159 (Nat.le_of_ble_eq_true rfl) (Nat.le_of_ble_eq_true rfl) dX9_init_1 ?_
  have f0 := hF.up (b := 74) (by decide)
  refine g_aload_n hC dX9_init_4 (i := 0) rfl (q := 0) rfl ?_
  refine g_bipush hC dX9_init_5 (v := (53 : Int32)) (by decide) ?_
  refine g_naI hC (N := 53) wd_201 rfl rfl f0 (by decide) (by decide) (by decide) (by rw [hE.1]; decide) (by rw [hE.1]; decide) dX9_init_7 ?_
  have f1 := f0.up (b := 75) (by decide)
  refine g_putrF hC (v := 74) (C0 := "") (t0 := _) fd_RX9_11 rfl (by decide) (Or.inr rfl) rfl rfl dX9_init_9 (nm_e ?_)
  have f2 := mFr.wR (q := 73) (j := 0) (v := some 74) f1 (by decide)
  exact g_vret hC hE rfl dX9_init_12 (by decide) (by decide) ⟨rfl, rfl, rfl, rfl, rfl, rfl⟩
def kI_10_72 (I : mIT) : mIT := (mU (kI_9_73 I) 72 1 (0 : Int32))
def kR_10_72 (R : mRT) : mRT := (mUR (kR_9_73 R) 72 0 (some 73))
def kL_10_72 (L : mLT) : mLT := (kL_9_73 L)
theorem kF_10_72 {I : mIT} {R : mRT} {L : mLT} (h : mFr 72 I R L) : mFr 75 (kI_10_72 I) (kR_10_72 R) (kL_10_72 L) := by
  have f : mFr 73 I R L := h.up (by decide)
  replace f := kF_9_73 (f.up (b := 73) (by decide))
  replace f := mFr.wR (q := 72) (j := 0) (v := some 73) f (by decide)
  replace f := mFr.wI (q := 72) (j := 1) (v := (0 : Int32)) f (by decide)
  exact f.up (by decide)
set_option maxRecDepth 20000 in
theorem mk_10_72 {l : Launch} {E : mEn} {I : mIT} {R : mRT} {L : mLT} (hst : l.stackTraces = false) (hF : mFr 72 I R L) : mOk l E mX10_init [.ref (mB E + 72)] 73 0 I R L 2 54 (mSame none 75 0 (kI_10_72 I) (kR_10_72 R) (kL_10_72 L)) := by
  refine mOk_of hst (by decide) (Nat.le_of_ble_eq_true rfl) (fun X hC hE _ => ?_)
  have hC : mC X E mX10_init RX10 cX10_init := hC
  show mG X E 0 [(0, .ref (mB E + 72))] [] 73 0 I R L 0 0
  refine g_aload_n hC dX10_init_0 (i := 0) rfl (q := 0) rfl ?_
  refine g_obj hC wd_460 wd_158 wd_159 (Nat.le_of_ble_eq_true rfl) (Nat.le_of_ble_eq_true rfl) dX10_init_1 ?_
  have f0 := hF.up (b := 73) (by decide)
  refine g_aload_n hC dX10_init_4 (i := 0) rfl (q := 0) rfl ?_
  refine g_new hC (C := RX9) (T := TX9) (N := 1) (ci := 9) rfl rfl inG_9 tyX9_ok okT_9 wd_461 wd_203 wd_131 rfl rfl f0 (by rw [hE.1]; decide) (by rw [hE.1]; decide) dX10_init_5 ?_
  refine g_dup hC dX10_init_8 rfl ?_
  refine g_cI hC (host := RX11) (mc2 := 1) (ms2 := 53) ci_X9_init nl_RX10_11 ⟨Nat.le_of_ble_eq_true rfl, Nat.le_of_ble_eq_true rfl⟩ dX10_init_9 (q := 73) (As := []) (st := [.ref (mB E + 73), .ref (mB E + 72)]) (mk_9_73 hC.2.2.2.2.2.2.2.1 (f0.up (by decide))) rfl rfl (Nat.le_of_ble_eq_true rfl) (by rw [hE.1]; decide) (mSm ?_)
  have f1 := kF_9_73 (f0.up (b := 73) (by decide))
  refine g_putrF hC (v := 73) (C0 := _) (t0 := .int) fd_RX10_12 rfl (by decide) (Or.inl rfl) rfl rfl dX10_init_12 (nm_e ?_)
  have f2 := mFr.wR (q := 72) (j := 0) (v := some 73) f1 (by decide)
  refine g_aload_n hC dX10_init_15 (i := 0) rfl (q := 0) rfl ?_
  refine g_iconst hC dX10_init_16 (v := (0 : Int32)) (by decide) ?_
  refine g_puti hC fd_RX10_18 rfl (by decide) rfl dX10_init_17 (nm_e ?_)
  have f3 := mFr.wI (q := 72) (j := 1) (v := (0 : Int32)) f2 (by decide)
  exact g_vret hC hE rfl dX10_init_20 (by decide) (by decide) ⟨rfl, rfl, rfl, rfl, rfl, rfl⟩
def kI_11_0 (I : mIT) : mIT := (kI_10_72 (kI_3_69 (kI_2_66 (kI_7_62 (kI_1_56 (mU (kI_4_52 (kI_0_50 (kI_9_48 (kI_4_44 (kI_0_42 (kI_9_40 (kI_5_22 (mU (kI_6_1 I) 0 1 (-1 : Int32))))))))) 0 10 (0 : Int32)))))))
def kR_11_0 (R : mRT) : mRT := (mUR (kR_10_72 (mUR (kR_3_69 (mUR (kR_2_66 (mUR (kR_7_62 (mUR (kR_1_56 (mUR (kR_4_52 (mUR (kR_0_50 (mUR (kR_9_48 (mUR (kR_4_44 (mUR (kR_0_42 (mUR (kR_9_40 (mUR (kR_5_22 (mUR (mUR (kR_6_1 R) 0 0 (some 1)) 0 2 (some 21))) 0 3 (some 22))) 0 4 (some 40))) 0 5 (some 42))) 0 6 (some 44))) 0 7 (some 48))) 0 8 (some 50))) 0 9 (some 52))) 0 11 (some 56))) 0 12 (some 62))) 0 13 (some 66))) 0 14 (some 69))) 0 15 (some 72))
def kL_11_0 (L : mLT) : mLT := (kL_10_72 (kL_3_69 (kL_2_66 (kL_7_62 (kL_1_56 (kL_4_52 (kL_0_50 (kL_9_48 (kL_4_44 (kL_0_42 (kL_9_40 (kL_5_22 (kL_6_1 L)))))))))))))
theorem kF_11_0 {I : mIT} {R : mRT} {L : mLT} (h : mFr 0 I R L) : mFr 75 (kI_11_0 I) (kR_11_0 R) (kL_11_0 L) := by
  have f : mFr 1 I R L := h.up (by decide)
  replace f := kF_6_1 (f.up (b := 1) (by decide))
  replace f := mFr.wR (q := 0) (j := 0) (v := some 1) f (by decide)
  replace f := mFr.wI (q := 0) (j := 1) (v := (-1 : Int32)) f (by decide)
  replace f := mFr.wR (q := 0) (j := 2) (v := some 21) f (by decide)
  replace f := kF_5_22 (f.up (b := 22) (by decide))
  replace f := mFr.wR (q := 0) (j := 3) (v := some 22) f (by decide)
  replace f := kF_9_40 (f.up (b := 40) (by decide))
  replace f := mFr.wR (q := 0) (j := 4) (v := some 40) f (by decide)
  replace f := kF_0_42 (f.up (b := 42) (by decide))
  replace f := mFr.wR (q := 0) (j := 5) (v := some 42) f (by decide)
  replace f := kF_4_44 (f.up (b := 44) (by decide))
  replace f := mFr.wR (q := 0) (j := 6) (v := some 44) f (by decide)
  replace f := kF_9_48 (f.up (b := 48) (by decide))
  replace f := mFr.wR (q := 0) (j := 7) (v := some 48) f (by decide)
  replace f := kF_0_50 (f.up (b := 50) (by decide))
  replace f := mFr.wR (q := 0) (j := 8) (v := some 50) f (by decide)
  replace f := kF_4_52 (f.up (b := 52) (by decide))
  replace f := mFr.wR (q := 0) (j := 9) (v := some 52) f (by decide)
  replace f := mFr.wI (q := 0) (j := 10) (v := (0 : Int32)) f (by decide)
  replace f := kF_1_56 (f.up (b := 56) (by decide))
  replace f := mFr.wR (q := 0) (j := 11) (v := some 56) f (by decide)
  replace f := kF_7_62 (f.up (b := 62) (by decide))
  replace f := mFr.wR (q := 0) (j := 12) (v := some 62) f (by decide)
  replace f := kF_2_66 (f.up (b := 66) (by decide))
  replace f := mFr.wR (q := 0) (j := 13) (v := some 66) f (by decide)
  replace f := kF_3_69 (f.up (b := 69) (by decide))
  replace f := mFr.wR (q := 0) (j := 14) (v := some 69) f (by decide)
  replace f := kF_10_72 (f.up (b := 72) (by decide))
  replace f := mFr.wR (q := 0) (j := 15) (v := some 72) f (by decide)
  exact f.up (by decide)
set_option maxRecDepth 20000 in
theorem mk_11_0 {l : Launch} {E : mEn} {I : mIT} {R : mRT} {L : mLT} (hst : l.stackTraces = false) (hF : mFr 0 I R L) : mOk l E mX11_init [.ref (mB E + 0)] 1 0 I R L 74 13532 (mSame none 75 0 (kI_11_0 I) (kR_11_0 R) (kL_11_0 L)) := by
  refine mOk_of hst (by decide) (Nat.le_of_ble_eq_true rfl) (fun X hC hE _ => ?_)
  have hC : mC X E mX11_init RX11 cX11_init := hC
  show mG X E 0 [(0, .ref (mB E + 0))] [] 1 0 I R L 0 0
  refine g_aload_n hC dX11_init_0 (i := 0) rfl (q := 0) rfl ?_
  refine g_obj hC wd_157 wd_158 wd_159 (Nat.le_of_ble_eq_true rfl) (Nat.le_of_ble_eq_true rfl) dX11_init_1 ?_
  have f0 := hF.up (b := 1) (by decide)
  refine g_aload_n hC dX11_init_4 (i := 0) rfl (q := 0) rfl ?_
  refine g_new hC (C := RX6) (T := TX6) (N := 17) (ci := 6) rfl rfl inG_6 tyX6_ok okT_6 wd_160 wd_161 wd_128 rfl rfl f0 (by rw [hE.1]; decide) (by rw [hE.1]; decide) dX11_init_5 ?_
  refine g_dup hC dX11_init_8 rfl ?_
  refine g_cI hC (host := RX11) (mc2 := 19) (ms2 := 3862) ci_X6_init nl_RX11_9 ⟨Nat.le_of_ble_eq_true rfl, Nat.le_of_ble_eq_true rfl⟩ dX11_init_9 (q := 1) (As := []) (st := [.ref (mB E + 1), .ref (mB E + 0)]) (mk_6_1 hC.2.2.2.2.2.2.2.1 (f0.up (by decide))) rfl rfl (Nat.le_of_ble_eq_true rfl) (by rw [hE.1]; decide) (mSm ?_)
  have f1 := kF_6_1 (f0.up (b := 1) (by decide))
  refine g_putrF hC (v := 1) (C0 := _) (t0 := .int) fd_RX11_10 rfl (by decide) (Or.inl rfl) rfl rfl dX11_init_12 (nm_e ?_)
  have f2 := mFr.wR (q := 0) (j := 0) (v := some 1) f1 (by decide)
  refine g_aload_n hC dX11_init_15 (i := 0) rfl (q := 0) rfl ?_
  refine g_iconst hC dX11_init_16 (v := (-1 : Int32)) (by decide) ?_
  refine g_puti hC fd_RX11_16 rfl (by decide) rfl dX11_init_17 (nm_e ?_)
  have f3 := mFr.wI (q := 0) (j := 1) (v := (-1 : Int32)) f2 (by decide)
  refine g_aload_n hC dX11_init_20 (i := 0) rfl (q := 0) rfl ?_
  refine g_iconst hC dX11_init_21 (v := (3 : Int32)) (by decide) ?_
  refine g_naI hC (N := 3) wd_201 rfl rfl f3 (by decide) (by decide) (by decide) (by rw [hE.1]; decide) (by rw [hE.1]; decide) dX11_init_22 ?_
  have f4 := f3.up (b := 22) (by decide)
  refine g_putrF hC (v := 21) (C0 := "") (t0 := _) fd_RX11_20 rfl (by decide) (Or.inr rfl) rfl rfl dX11_init_24 (nm_e ?_)
  have f5 := mFr.wR (q := 0) (j := 2) (v := some 21) f4 (by decide)
  refine g_aload_n hC dX11_init_27 (i := 0) rfl (q := 0) rfl ?_
  refine g_new hC (C := RX5) (T := TX5) (N := 12) (ci := 5) rfl rfl inG_5 tyX5_ok okT_5 wd_323 wd_167 wd_129 rfl rfl f5 (by rw [hE.1]; decide) (by rw [hE.1]; decide) dX11_init_28 ?_
  refine g_dup hC dX11_init_31 rfl ?_
  refine g_cI hC (host := RX11) (mc2 := 17) (ms2 := 3150) ci_X5_init nl_RX11_26 ⟨Nat.le_of_ble_eq_true rfl, Nat.le_of_ble_eq_true rfl⟩ dX11_init_32 (q := 22) (As := []) (st := [.ref (mB E + 22), .ref (mB E + 0)]) (mk_5_22 hC.2.2.2.2.2.2.2.1 (f5.up (by decide))) rfl rfl (Nat.le_of_ble_eq_true rfl) (by rw [hE.1]; decide) (mSm ?_)
  have f6 := kF_5_22 (f5.up (b := 22) (by decide))
  refine g_putr hC (v := 22) (C0 := _) (t0 := .int) fd_RX11_27 rfl (by decide) (Or.inl rfl) dX11_init_35 (nm_e ?_)
  have f7 := mFr.wR (q := 0) (j := 3) (v := some 22) f6 (by decide)
  refine g_aload_n hC dX11_init_38 (i := 0) rfl (q := 0) rfl ?_
  refine g_new hC (C := RX9) (T := TX9) (N := 1) (ci := 9) rfl rfl inG_9 tyX9_ok okT_9 wd_325 wd_203 wd_131 rfl rfl f7 (by rw [hE.1]; decide) (by rw [hE.1]; decide) dX11_init_39 ?_
  refine g_dup hC dX11_init_42 rfl ?_
  refine g_cI hC (host := RX11) (mc2 := 1) (ms2 := 53) ci_X9_init nl_RX11_33 ⟨Nat.le_of_ble_eq_true rfl, Nat.le_of_ble_eq_true rfl⟩ dX11_init_43 (q := 40) (As := []) (st := [.ref (mB E + 40), .ref (mB E + 0)]) (mk_9_40 hC.2.2.2.2.2.2.2.1 (f7.up (by decide))) rfl rfl (Nat.le_of_ble_eq_true rfl) (by rw [hE.1]; decide) (mSm ?_)
  have f8 := kF_9_40 (f7.up (b := 40) (by decide))
  refine g_putrF hC (v := 40) (C0 := _) (t0 := .int) fd_RX11_34 rfl (by decide) (Or.inl rfl) rfl rfl dX11_init_46 (nm_e ?_)
  have f9 := mFr.wR (q := 0) (j := 4) (v := some 40) f8 (by decide)
  refine g_aload_n hC dX11_init_49 (i := 0) rfl (q := 0) rfl ?_
  refine g_new hC (C := RX0) (T := TX0) (N := 3) (ci := 0) rfl rfl inG_0 tyX0_ok okT_0 wd_327 wd_328 wd_132 rfl rfl f9 (by rw [hE.1]; decide) (by rw [hE.1]; decide) dX11_init_50 ?_
  refine g_dup hC dX11_init_53 rfl ?_
  refine g_cI hC (host := RX11) (mc2 := 1) (ms2 := 2120) ci_X0_init nl_RX11_40 ⟨Nat.le_of_ble_eq_true rfl, Nat.le_of_ble_eq_true rfl⟩ dX11_init_54 (q := 42) (As := []) (st := [.ref (mB E + 42), .ref (mB E + 0)]) (mk_0_42 hC.2.2.2.2.2.2.2.1 (f9.up (by decide))) rfl rfl (Nat.le_of_ble_eq_true rfl) (by rw [hE.1]; decide) (mSm ?_)
  have f10 := kF_0_42 (f9.up (b := 42) (by decide))
  refine g_putrF hC (v := 42) (C0 := _) (t0 := .int) fd_RX11_41 rfl (by decide) (Or.inl rfl) rfl rfl dX11_init_57 (nm_e ?_)
  have f11 := mFr.wR (q := 0) (j := 5) (v := some 42) f10 (by decide)
  refine g_aload_n hC dX11_init_60 (i := 0) rfl (q := 0) rfl ?_
  refine g_new hC (C := RX4) (T := TX4) (N := 4) (ci := 4) rfl rfl inG_4 tyX4_ok okT_4 wd_343 wd_344 wd_133 rfl rfl f11 (by rw [hE.1]; decide) (by rw [hE.1]; decide) dX11_init_61 ?_
  refine g_dup hC dX11_init_64 rfl ?_
  refine g_cI hC (host := RX11) (mc2 := 3) (ms2 := 24) ci_X4_init nl_RX11_47 ⟨Nat.le_of_ble_eq_true rfl, Nat.le_of_ble_eq_true rfl⟩ dX11_init_65 (q := 44) (As := []) (st := [.ref (mB E + 44), .ref (mB E + 0)]) (mk_4_44 hC.2.2.2.2.2.2.2.1 (f11.up (by decide))) rfl rfl (Nat.le_of_ble_eq_true rfl) (by rw [hE.1]; decide) (mSm ?_)
  have f12 := kF_4_44 (f11.up (b := 44) (by decide))
  refine g_putrF hC (v := 44) (C0 := _) (t0 := .int) fd_RX11_48 rfl (by decide) (Or.inl rfl) rfl rfl dX11_init_68 (nm_e ?_)
  have f13 := mFr.wR (q := 0) (j := 6) (v := some 44) f12 (by decide)
  refine g_aload_n hC dX11_init_71 (i := 0) rfl (q := 0) rfl ?_
  refine g_new hC (C := RX9) (T := TX9) (N := 1) (ci := 9) rfl rfl inG_9 tyX9_ok okT_9 wd_325 wd_203 wd_131 rfl rfl f13 (by rw [hE.1]; decide) (by rw [hE.1]; decide) dX11_init_72 ?_
  refine g_dup hC dX11_init_75 rfl ?_
  refine g_cI hC (host := RX11) (mc2 := 1) (ms2 := 53) ci_X9_init nl_RX11_33 ⟨Nat.le_of_ble_eq_true rfl, Nat.le_of_ble_eq_true rfl⟩ dX11_init_76 (q := 48) (As := []) (st := [.ref (mB E + 48), .ref (mB E + 0)]) (mk_9_48 hC.2.2.2.2.2.2.2.1 (f13.up (by decide))) rfl rfl (Nat.le_of_ble_eq_true rfl) (by rw [hE.1]; decide) (mSm ?_)
  have f14 := kF_9_48 (f13.up (b := 48) (by decide))
  refine g_putrF hC (v := 48) (C0 := _) (t0 := .int) fd_RX11_52 rfl (by decide) (Or.inl rfl) rfl rfl dX11_init_79 (nm_e ?_)
  have f15 := mFr.wR (q := 0) (j := 7) (v := some 48) f14 (by decide)
  refine g_aload_n hC dX11_init_82 (i := 0) rfl (q := 0) rfl ?_
  refine g_new hC (C := RX0) (T := TX0) (N := 3) (ci := 0) rfl rfl inG_0 tyX0_ok okT_0 wd_327 wd_328 wd_132 rfl rfl f15 (by rw [hE.1]; decide) (by rw [hE.1]; decide) dX11_init_83 ?_
  refine g_dup hC dX11_init_86 rfl ?_
  refine g_cI hC (host := RX11) (mc2 := 1) (ms2 := 2120) ci_X0_init nl_RX11_40 ⟨Nat.le_of_ble_eq_true rfl, Nat.le_of_ble_eq_true rfl⟩ dX11_init_87 (q := 50) (As := []) (st := [.ref (mB E + 50), .ref (mB E + 0)]) (mk_0_50 hC.2.2.2.2.2.2.2.1 (f15.up (by decide))) rfl rfl (Nat.le_of_ble_eq_true rfl) (by rw [hE.1]; decide) (mSm ?_)
  have f16 := kF_0_50 (f15.up (b := 50) (by decide))
  refine g_putrF hC (v := 50) (C0 := _) (t0 := .int) fd_RX11_55 rfl (by decide) (Or.inl rfl) rfl rfl dX11_init_90 (nm_e ?_)
  have f17 := mFr.wR (q := 0) (j := 8) (v := some 50) f16 (by decide)
  refine g_aload_n hC dX11_init_93 (i := 0) rfl (q := 0) rfl ?_
  refine g_new hC (C := RX4) (T := TX4) (N := 4) (ci := 4) rfl rfl inG_4 tyX4_ok okT_4 wd_343 wd_344 wd_133 rfl rfl f17 (by rw [hE.1]; decide) (by rw [hE.1]; decide) dX11_init_94 ?_
  refine g_dup hC dX11_init_97 rfl ?_
  refine g_cI hC (host := RX11) (mc2 := 3) (ms2 := 24) ci_X4_init nl_RX11_47 ⟨Nat.le_of_ble_eq_true rfl, Nat.le_of_ble_eq_true rfl⟩ dX11_init_98 (q := 52) (As := []) (st := [.ref (mB E + 52), .ref (mB E + 0)]) (mk_4_52 hC.2.2.2.2.2.2.2.1 (f17.up (by decide))) rfl rfl (Nat.le_of_ble_eq_true rfl) (by rw [hE.1]; decide) (mSm ?_)
  have f18 := kF_4_52 (f17.up (b := 52) (by decide))
  refine g_putrF hC (v := 52) (C0 := _) (t0 := .int) fd_RX11_58 rfl (by decide) (Or.inl rfl) rfl rfl dX11_init_101 (nm_e ?_)
  have f19 := mFr.wR (q := 0) (j := 9) (v := some 52) f18 (by decide)
  refine g_aload_n hC dX11_init_104 (i := 0) rfl (q := 0) rfl ?_
  refine g_iconst hC dX11_init_105 (v := (0 : Int32)) (by decide) ?_
  refine g_putz hC (by decide) fd_RX11_61 rfl (by decide) rfl dX11_init_106 (nm_e ?_)
  have f20 := mFr.wI (q := 0) (j := 10) (v := (0 : Int32)) f19 (by decide)
  refine g_aload_n hC dX11_init_109 (i := 0) rfl (q := 0) rfl ?_
  refine g_new hC (C := RX1) (T := TX1) (N := 5) (ci := 1) rfl rfl inG_1 tyX1_ok okT_1 wd_362 wd_363 wd_134 rfl rfl f20 (by rw [hE.1]; decide) (by rw [hE.1]; decide) dX11_init_110 ?_
  refine g_dup hC dX11_init_113 rfl ?_
  refine g_cI hC (host := RX11) (mc2 := 5) (ms2 := 786) ci_X1_init nl_RX11_67 ⟨Nat.le_of_ble_eq_true rfl, Nat.le_of_ble_eq_true rfl⟩ dX11_init_114 (q := 56) (As := []) (st := [.ref (mB E + 56), .ref (mB E + 0)]) (mk_1_56 hC.2.2.2.2.2.2.2.1 (f20.up (by decide))) rfl rfl (Nat.le_of_ble_eq_true rfl) (by rw [hE.1]; decide) (mSm ?_)
  have f21 := kF_1_56 (f20.up (b := 56) (by decide))
  refine g_putrF hC (v := 56) (C0 := _) (t0 := .int) fd_RX11_68 rfl (by decide) (Or.inl rfl) rfl rfl dX11_init_117 (nm_e ?_)
  have f22 := mFr.wR (q := 0) (j := 11) (v := some 56) f21 (by decide)
  refine g_aload_n hC dX11_init_120 (i := 0) rfl (q := 0) rfl ?_
  refine g_new hC (C := RX7) (T := TX7) (N := 5) (ci := 7) rfl rfl inG_7 tyX7_ok okT_7 wd_386 wd_387 wd_135 rfl rfl f22 (by rw [hE.1]; decide) (by rw [hE.1]; decide) dX11_init_121 ?_
  refine g_dup hC dX11_init_124 rfl ?_
  refine g_cI hC (host := RX11) (mc2 := 3) (ms2 := 90) ci_X7_init nl_RX11_74 ⟨Nat.le_of_ble_eq_true rfl, Nat.le_of_ble_eq_true rfl⟩ dX11_init_125 (q := 62) (As := []) (st := [.ref (mB E + 62), .ref (mB E + 0)]) (mk_7_62 hC.2.2.2.2.2.2.2.1 (f22.up (by decide))) rfl rfl (Nat.le_of_ble_eq_true rfl) (by rw [hE.1]; decide) (mSm ?_)
  have f23 := kF_7_62 (f22.up (b := 62) (by decide))
  refine g_putrF hC (v := 62) (C0 := _) (t0 := .int) fd_RX11_75 rfl (by decide) (Or.inl rfl) rfl rfl dX11_init_128 (nm_e ?_)
  have f24 := mFr.wR (q := 0) (j := 12) (v := some 62) f23 (by decide)
  refine g_aload_n hC dX11_init_131 (i := 0) rfl (q := 0) rfl ?_
  refine g_new hC (C := RX2) (T := TX2) (N := 5) (ci := 2) rfl rfl inG_2 tyX2_ok okT_2 wd_408 wd_409 wd_136 rfl rfl f24 (by rw [hE.1]; decide) (by rw [hE.1]; decide) dX11_init_132 ?_
  refine g_dup hC dX11_init_135 rfl ?_
  refine g_cI hC (host := RX11) (mc2 := 2) (ms2 := 1104) ci_X2_init nl_RX11_81 ⟨Nat.le_of_ble_eq_true rfl, Nat.le_of_ble_eq_true rfl⟩ dX11_init_136 (q := 66) (As := []) (st := [.ref (mB E + 66), .ref (mB E + 0)]) (mk_2_66 hC.2.2.2.2.2.2.2.1 (f24.up (by decide))) rfl rfl (Nat.le_of_ble_eq_true rfl) (by rw [hE.1]; decide) (mSm ?_)
  have f25 := kF_2_66 (f24.up (b := 66) (by decide))
  refine g_putrF hC (v := 66) (C0 := _) (t0 := .int) fd_RX11_82 rfl (by decide) (Or.inl rfl) rfl rfl dX11_init_139 (nm_e ?_)
  have f26 := mFr.wR (q := 0) (j := 13) (v := some 66) f25 (by decide)
  refine g_aload_n hC dX11_init_142 (i := 0) rfl (q := 0) rfl ?_
  refine g_new hC (C := RX3) (T := TX3) (N := 6) (ci := 3) rfl rfl inG_3 tyX3_ok okT_3 wd_430 wd_431 wd_137 rfl rfl f26 (by rw [hE.1]; decide) (by rw [hE.1]; decide) dX11_init_143 ?_
  refine g_dup hC dX11_init_146 rfl ?_
  refine g_cI hC (host := RX11) (mc2 := 2) (ms2 := 21) ci_X3_init nl_RX11_88 ⟨Nat.le_of_ble_eq_true rfl, Nat.le_of_ble_eq_true rfl⟩ dX11_init_147 (q := 69) (As := []) (st := [.ref (mB E + 69), .ref (mB E + 0)]) (mk_3_69 hC.2.2.2.2.2.2.2.1 (f26.up (by decide))) rfl rfl (Nat.le_of_ble_eq_true rfl) (by rw [hE.1]; decide) (mSm ?_)
  have f27 := kF_3_69 (f26.up (b := 69) (by decide))
  refine g_putrF hC (v := 69) (C0 := _) (t0 := .int) fd_RX11_89 rfl (by decide) (Or.inl rfl) rfl rfl dX11_init_150 (nm_e ?_)
  have f28 := mFr.wR (q := 0) (j := 14) (v := some 69) f27 (by decide)
  refine g_aload_n hC dX11_init_153 (i := 0) rfl (q := 0) rfl ?_
  refine g_new hC (C := RX10) (T := TX10) (N := 2) (ci := 10) rfl rfl inG_10 tyX10_ok okT_10 wd_455 wd_456 wd_138 rfl rfl f28 (by rw [hE.1]; decide) (by rw [hE.1]; decide) dX11_init_154 ?_
  refine g_dup hC dX11_init_157 rfl ?_
  refine g_cI hC (host := RX11) (mc2 := 2) (ms2 := 54) ci_X10_init nl_RX11_95 ⟨Nat.le_of_ble_eq_true rfl, Nat.le_of_ble_eq_true rfl⟩ dX11_init_158 (q := 72) (As := []) (st := [.ref (mB E + 72), .ref (mB E + 0)]) (mk_10_72 hC.2.2.2.2.2.2.2.1 (f28.up (by decide))) rfl rfl (Nat.le_of_ble_eq_true rfl) (by rw [hE.1]; decide) (mSm ?_)
  have f29 := kF_10_72 (f28.up (b := 72) (by decide))
  refine g_putrF hC (v := 72) (C0 := _) (t0 := .int) fd_RX11_96 rfl (by decide) (Or.inl rfl) rfl rfl dX11_init_161 (nm_e ?_)
  have f30 := mFr.wR (q := 0) (j := 15) (v := some 72) f29 (by decide)
  exact g_vret hC hE rfl dX11_init_164 (by decide) (by decide) ⟨rfl, rfl, rfl, rfl, rfl, rfl⟩
def kI_12_75 (I : mIT) : mIT := (mU (mU (mU (mU (mU I 75 3 (20 : Int32)) 75 6 (-1 : Int32)) 75 7 (-1 : Int32)) 75 15 (-1 : Int32)) 75 47 (-1 : Int32))
def kR_12_75 (R : mRT) : mRT := (mUR (mUR (mUR (mUR (mUR (mUR (mUR (mUR (mUR (mUR (mUR (mUR (mUR (mUR (mUR (mUR (mUR (mUR (mUR (mUR (mUR (mUR (mUR (mUR (mUR (mUR (mUR (mUR (mUR R 75 8 (some 76)) 75 9 (some 77)) 75 10 (some 78)) 75 11 (some 79)) 75 12 (some 80)) 75 16 (some 81)) 75 35 (some 82)) 75 36 (some 83)) 75 37 (some 84)) 75 38 (some 85)) 75 39 (some 86)) 75 40 (some 87)) 75 41 (some 88)) 75 42 (some 89)) 75 43 (some 90)) 75 45 (some 91)) 75 46 (some 92)) 75 48 (some 93)) 75 49 (some 94)) 75 50 (some 95)) 75 51 (some 96)) 75 53 (some 97)) 75 54 (some 98)) 75 56 (some 99)) 75 57 (some 100)) 75 58 (some 101)) 75 63 (some 102)) 75 64 (some 103)) 75 65 (some 104))
def kL_12_75 (L : mLT) : mLT := L
theorem kF_12_75 {I : mIT} {R : mRT} {L : mLT} (h : mFr 75 I R L) : mFr 105 (kI_12_75 I) (kR_12_75 R) (kL_12_75 L) := by
  have f : mFr 76 I R L := h.up (by decide)
  replace f := mFr.wI (q := 75) (j := 3) (v := (20 : Int32)) f (by decide)
  replace f := mFr.wI (q := 75) (j := 6) (v := (-1 : Int32)) f (by decide)
  replace f := mFr.wI (q := 75) (j := 7) (v := (-1 : Int32)) f (by decide)
  replace f := mFr.wR (q := 75) (j := 8) (v := some 76) f (by decide)
  replace f := mFr.wR (q := 75) (j := 9) (v := some 77) f (by decide)
  replace f := mFr.wR (q := 75) (j := 10) (v := some 78) f (by decide)
  replace f := mFr.wR (q := 75) (j := 11) (v := some 79) f (by decide)
  replace f := mFr.wR (q := 75) (j := 12) (v := some 80) f (by decide)
  replace f := mFr.wI (q := 75) (j := 15) (v := (-1 : Int32)) f (by decide)
  replace f := mFr.wR (q := 75) (j := 16) (v := some 81) f (by decide)
  replace f := mFr.wR (q := 75) (j := 35) (v := some 82) f (by decide)
  replace f := mFr.wR (q := 75) (j := 36) (v := some 83) f (by decide)
  replace f := mFr.wR (q := 75) (j := 37) (v := some 84) f (by decide)
  replace f := mFr.wR (q := 75) (j := 38) (v := some 85) f (by decide)
  replace f := mFr.wR (q := 75) (j := 39) (v := some 86) f (by decide)
  replace f := mFr.wR (q := 75) (j := 40) (v := some 87) f (by decide)
  replace f := mFr.wR (q := 75) (j := 41) (v := some 88) f (by decide)
  replace f := mFr.wR (q := 75) (j := 42) (v := some 89) f (by decide)
  replace f := mFr.wR (q := 75) (j := 43) (v := some 90) f (by decide)
  replace f := mFr.wR (q := 75) (j := 45) (v := some 91) f (by decide)
  replace f := mFr.wR (q := 75) (j := 46) (v := some 92) f (by decide)
  replace f := mFr.wI (q := 75) (j := 47) (v := (-1 : Int32)) f (by decide)
  replace f := mFr.wR (q := 75) (j := 48) (v := some 93) f (by decide)
  replace f := mFr.wR (q := 75) (j := 49) (v := some 94) f (by decide)
  replace f := mFr.wR (q := 75) (j := 50) (v := some 95) f (by decide)
  replace f := mFr.wR (q := 75) (j := 51) (v := some 96) f (by decide)
  replace f := mFr.wR (q := 75) (j := 53) (v := some 97) f (by decide)
  replace f := mFr.wR (q := 75) (j := 54) (v := some 98) f (by decide)
  replace f := mFr.wR (q := 75) (j := 56) (v := some 99) f (by decide)
  replace f := mFr.wR (q := 75) (j := 57) (v := some 100) f (by decide)
  replace f := mFr.wR (q := 75) (j := 58) (v := some 101) f (by decide)
  replace f := mFr.wR (q := 75) (j := 63) (v := some 102) f (by decide)
  replace f := mFr.wR (q := 75) (j := 64) (v := some 103) f (by decide)
  replace f := mFr.wR (q := 75) (j := 65) (v := some 104) f (by decide)
  exact f.up (by decide)
set_option maxRecDepth 20000 in
theorem mk_12_75 {l : Launch} {E : mEn} {I : mIT} {R : mRT} {L : mLT} (hst : l.stackTraces = false) (hF : mFr 75 I R L) : mOk l E mX12_init [.ref (mB E + 75)] 76 0 I R L 29 23424 (mSame none 105 0 (kI_12_75 I) (kR_12_75 R) (kL_12_75 L)) := by
  refine mOk_of hst (by decide) (Nat.le_of_ble_eq_true rfl) (fun X hC hE _ => ?_)
  have hC : mC X E mX12_init RX12 cX12_init := hC
  show mG X E 0 [(0, .ref (mB E + 75))] [] 76 0 I R L 0 0
  refine g_aload_n hC dX12_init_0 (i := 0) rfl (q := 0) rfl ?_
  refine g_obj hC wd_1634 wd_158 wd_159 (Nat.le_of_ble_eq_true rfl) (Nat.le_of_ble_eq_true rfl) dX12_init_1 ?_
  have f0 := hF.up (b := 76) (by decide)
  refine g_aload_n hC dX12_init_4 (i := 0) rfl (q := 0) rfl ?_
  refine g_bipush hC dX12_init_5 (v := (20 : Int32)) (by decide) ?_
  refine g_puti hC fd_RX12_7 rfl (by decide) rfl dX12_init_7 (nm_e ?_)
  have f1 := mFr.wI (q := 75) (j := 3) (v := (20 : Int32)) f0 (by decide)
  refine g_aload_n hC dX12_init_10 (i := 0) rfl (q := 0) rfl ?_
  refine g_iconst hC dX12_init_11 (v := (-1 : Int32)) (by decide) ?_
  refine g_puti hC fd_RX12_13 rfl (by decide) rfl dX12_init_12 (nm_e ?_)
  have f2 := mFr.wI (q := 75) (j := 6) (v := (-1 : Int32)) f1 (by decide)
  refine g_aload_n hC dX12_init_15 (i := 0) rfl (q := 0) rfl ?_
  refine g_iconst hC dX12_init_16 (v := (-1 : Int32)) (by decide) ?_
  refine g_puti hC fd_RX12_16 rfl (by decide) rfl dX12_init_17 (nm_e ?_)
  have f3 := mFr.wI (q := 75) (j := 7) (v := (-1 : Int32)) f2 (by decide)
  refine g_aload_n hC dX12_init_20 (i := 0) rfl (q := 0) rfl ?_
  refine g_bipush hC dX12_init_21 (v := (10 : Int32)) (by decide) ?_
  refine g_naI hC (N := 10) wd_201 rfl rfl f3 (by decide) (by decide) (by decide) (by rw [hE.1]; decide) (by rw [hE.1]; decide) dX12_init_23 ?_
  have f4 := f3.up (b := 77) (by decide)
  refine g_putrF hC (v := 76) (C0 := "") (t0 := _) fd_RX12_19 rfl (by decide) (Or.inr rfl) rfl rfl dX12_init_25 (nm_e ?_)
  have f5 := mFr.wR (q := 75) (j := 8) (v := some 76) f4 (by decide)
  refine g_aload_n hC dX12_init_28 (i := 0) rfl (q := 0) rfl ?_
  refine g_bipush hC dX12_init_29 (v := (10 : Int32)) (by decide) ?_
  refine g_naI hC (N := 10) wd_201 rfl rfl f5 (by decide) (by decide) (by decide) (by rw [hE.1]; decide) (by rw [hE.1]; decide) dX12_init_31 ?_
  have f6 := f5.up (b := 78) (by decide)
  refine g_putrF hC (v := 77) (C0 := "") (t0 := _) fd_RX12_23 rfl (by decide) (Or.inr rfl) rfl rfl dX12_init_33 (nm_e ?_)
  have f7 := mFr.wR (q := 75) (j := 9) (v := some 77) f6 (by decide)
  refine g_aload_n hC dX12_init_36 (i := 0) rfl (q := 0) rfl ?_
  refine g_bipush hC dX12_init_37 (v := (8 : Int32)) (by decide) ?_
  refine g_naI hC (N := 8) wd_201 rfl rfl f7 (by decide) (by decide) (by decide) (by rw [hE.1]; decide) (by rw [hE.1]; decide) dX12_init_39 ?_
  have f8 := f7.up (b := 79) (by decide)
  refine g_putrF hC (v := 78) (C0 := "") (t0 := _) fd_RX12_26 rfl (by decide) (Or.inr rfl) rfl rfl dX12_init_41 (nm_e ?_)
  have f9 := mFr.wR (q := 75) (j := 10) (v := some 78) f8 (by decide)
  refine g_aload_n hC dX12_init_44 (i := 0) rfl (q := 0) rfl ?_
  refine g_sipush hC dX12_init_45 (v := (1400 : Int32)) (by decide) ?_
  refine g_naI hC (N := 1400) wd_201 rfl rfl f9 (by decide) (by decide) (by decide) (by rw [hE.1]; decide) (by rw [hE.1]; decide) dX12_init_48 ?_
  have f10 := f9.up (b := 80) (by decide)
  refine g_putrF hC (v := 79) (C0 := "") (t0 := _) fd_RX12_29 rfl (by decide) (Or.inr rfl) rfl rfl dX12_init_50 (nm_e ?_)
  have f11 := mFr.wR (q := 75) (j := 11) (v := some 79) f10 (by decide)
  refine g_aload_n hC dX12_init_53 (i := 0) rfl (q := 0) rfl ?_
  refine g_sipush hC dX12_init_54 (v := (700 : Int32)) (by decide) ?_
  refine g_naI hC (N := 700) wd_201 rfl rfl f11 (by decide) (by decide) (by decide) (by rw [hE.1]; decide) (by rw [hE.1]; decide) dX12_init_57 ?_
  have f12 := f11.up (b := 81) (by decide)
  refine g_putrF hC (v := 80) (C0 := "") (t0 := _) fd_RX12_32 rfl (by decide) (Or.inr rfl) rfl rfl dX12_init_59 (nm_e ?_)
  have f13 := mFr.wR (q := 75) (j := 12) (v := some 80) f12 (by decide)
  refine g_aload_n hC dX12_init_62 (i := 0) rfl (q := 0) rfl ?_
  refine g_iconst hC dX12_init_63 (v := (-1 : Int32)) (by decide) ?_
  refine g_puti hC fd_RX12_35 rfl (by decide) rfl dX12_init_64 (nm_e ?_)
  have f14 := mFr.wI (q := 75) (j := 15) (v := (-1 : Int32)) f13 (by decide)
  refine g_aload_n hC dX12_init_67 (i := 0) rfl (q := 0) rfl ?_
  refine g_iconst hC dX12_init_68 (v := (3 : Int32)) (by decide) ?_
  refine g_naI hC (N := 3) wd_201 rfl rfl f14 (by decide) (by decide) (by decide) (by rw [hE.1]; decide) (by rw [hE.1]; decide) dX12_init_69 ?_
  have f15 := f14.up (b := 82) (by decide)
  refine g_putrF hC (v := 81) (C0 := "") (t0 := _) fd_RX12_38 rfl (by decide) (Or.inr rfl) rfl rfl dX12_init_71 (nm_e ?_)
  have f16 := mFr.wR (q := 75) (j := 16) (v := some 81) f15 (by decide)
  refine g_aload_n hC dX12_init_74 (i := 0) rfl (q := 0) rfl ?_
  refine g_bipush hC dX12_init_75 (v := (10 : Int32)) (by decide) ?_
  refine g_naI hC (N := 10) wd_201 rfl rfl f16 (by decide) (by decide) (by decide) (by rw [hE.1]; decide) (by rw [hE.1]; decide) dX12_init_77 ?_
  have f17 := f16.up (b := 83) (by decide)
  refine g_putrF hC (v := 82) (C0 := "") (t0 := _) fd_RX12_41 rfl (by decide) (Or.inr rfl) rfl rfl dX12_init_79 (nm_e ?_)
  have f18 := mFr.wR (q := 75) (j := 35) (v := some 82) f17 (by decide)
  refine g_aload_n hC dX12_init_82 (i := 0) rfl (q := 0) rfl ?_
  refine g_bipush hC dX12_init_83 (v := (10 : Int32)) (by decide) ?_
  refine g_naI hC (N := 10) wd_201 rfl rfl f18 (by decide) (by decide) (by decide) (by rw [hE.1]; decide) (by rw [hE.1]; decide) dX12_init_85 ?_
  have f19 := f18.up (b := 84) (by decide)
  refine g_putrF hC (v := 83) (C0 := "") (t0 := _) fd_RX12_44 rfl (by decide) (Or.inr rfl) rfl rfl dX12_init_87 (nm_e ?_)
  have f20 := mFr.wR (q := 75) (j := 36) (v := some 83) f19 (by decide)
  refine g_aload_n hC dX12_init_90 (i := 0) rfl (q := 0) rfl ?_
  refine g_bipush hC dX12_init_91 (v := (8 : Int32)) (by decide) ?_
  refine g_naI hC (N := 8) wd_201 rfl rfl f20 (by decide) (by decide) (by decide) (by rw [hE.1]; decide) (by rw [hE.1]; decide) dX12_init_93 ?_
  have f21 := f20.up (b := 85) (by decide)
  refine g_putrF hC (v := 84) (C0 := "") (t0 := _) fd_RX12_47 rfl (by decide) (Or.inr rfl) rfl rfl dX12_init_95 (nm_e ?_)
  have f22 := mFr.wR (q := 75) (j := 37) (v := some 84) f21 (by decide)
  refine g_aload_n hC dX12_init_98 (i := 0) rfl (q := 0) rfl ?_
  refine g_bipush hC dX12_init_99 (v := (53 : Int32)) (by decide) ?_
  refine g_naI hC (N := 53) wd_201 rfl rfl f22 (by decide) (by decide) (by decide) (by rw [hE.1]; decide) (by rw [hE.1]; decide) dX12_init_101 ?_
  have f23 := f22.up (b := 86) (by decide)
  refine g_putrF hC (v := 85) (C0 := "") (t0 := _) fd_RX12_50 rfl (by decide) (Or.inr rfl) rfl rfl dX12_init_103 (nm_e ?_)
  have f24 := mFr.wR (q := 75) (j := 38) (v := some 85) f23 (by decide)
  refine g_aload_n hC dX12_init_106 (i := 0) rfl (q := 0) rfl ?_
  refine g_sipush hC dX12_init_107 (v := (1400 : Int32)) (by decide) ?_
  refine g_naI hC (N := 1400) wd_201 rfl rfl f24 (by decide) (by decide) (by decide) (by rw [hE.1]; decide) (by rw [hE.1]; decide) dX12_init_110 ?_
  have f25 := f24.up (b := 87) (by decide)
  refine g_putrF hC (v := 86) (C0 := "") (t0 := _) fd_RX12_53 rfl (by decide) (Or.inr rfl) rfl rfl dX12_init_112 (nm_e ?_)
  have f26 := mFr.wR (q := 75) (j := 39) (v := some 86) f25 (by decide)
  refine g_aload_n hC dX12_init_115 (i := 0) rfl (q := 0) rfl ?_
  refine g_sipush hC dX12_init_116 (v := (950 : Int32)) (by decide) ?_
  refine g_naI hC (N := 950) wd_201 rfl rfl f26 (by decide) (by decide) (by decide) (by rw [hE.1]; decide) (by rw [hE.1]; decide) dX12_init_119 ?_
  have f27 := f26.up (b := 88) (by decide)
  refine g_putrF hC (v := 87) (C0 := "") (t0 := _) fd_RX12_56 rfl (by decide) (Or.inr rfl) rfl rfl dX12_init_121 (nm_e ?_)
  have f28 := mFr.wR (q := 75) (j := 40) (v := some 87) f27 (by decide)
  refine g_aload_n hC dX12_init_124 (i := 0) rfl (q := 0) rfl ?_
  refine g_bipush hC dX12_init_125 (v := (9 : Int32)) (by decide) ?_
  refine g_naZ hC (N := 9) wd_1834 rfl rfl f28 (by decide) (by decide) (by decide) (by rw [hE.1]; decide) (by rw [hE.1]; decide) dX12_init_127 ?_
  have f29 := f28.up (b := 89) (by decide)
  refine g_putrF hC (v := 88) (C0 := "") (t0 := _) fd_RX12_59 rfl (by decide) (Or.inr rfl) rfl rfl dX12_init_129 (nm_e ?_)
  have f30 := mFr.wR (q := 75) (j := 41) (v := some 88) f29 (by decide)
  refine g_aload_n hC dX12_init_132 (i := 0) rfl (q := 0) rfl ?_
  refine g_bipush hC dX12_init_133 (v := (106 : Int32)) (by decide) ?_
  refine g_naI hC (N := 106) wd_201 rfl rfl f30 (by decide) (by decide) (by decide) (by rw [hE.1]; decide) (by rw [hE.1]; decide) dX12_init_135 ?_
  have f31 := f30.up (b := 90) (by decide)
  refine g_putrF hC (v := 89) (C0 := "") (t0 := _) fd_RX12_63 rfl (by decide) (Or.inr rfl) rfl rfl dX12_init_137 (nm_e ?_)
  have f32 := mFr.wR (q := 75) (j := 42) (v := some 89) f31 (by decide)
  refine g_aload_n hC dX12_init_140 (i := 0) rfl (q := 0) rfl ?_
  refine g_sipush hC dX12_init_141 (v := (2120 : Int32)) (by decide) ?_
  refine g_naI hC (N := 2120) wd_201 rfl rfl f32 (by decide) (by decide) (by decide) (by rw [hE.1]; decide) (by rw [hE.1]; decide) dX12_init_144 ?_
  have f33 := f32.up (b := 91) (by decide)
  refine g_putrF hC (v := 90) (C0 := "") (t0 := _) fd_RX12_66 rfl (by decide) (Or.inr rfl) rfl rfl dX12_init_146 (nm_e ?_)
  have f34 := mFr.wR (q := 75) (j := 43) (v := some 90) f33 (by decide)
  refine g_aload_n hC dX12_init_149 (i := 0) rfl (q := 0) rfl ?_
  refine g_bipush hC dX12_init_150 (v := (7 : Int32)) (by decide) ?_
  refine g_naI hC (N := 7) wd_201 rfl rfl f34 (by decide) (by decide) (by decide) (by rw [hE.1]; decide) (by rw [hE.1]; decide) dX12_init_152 ?_
  have f35 := f34.up (b := 92) (by decide)
  refine g_putrF hC (v := 91) (C0 := "") (t0 := _) fd_RX12_69 rfl (by decide) (Or.inr rfl) rfl rfl dX12_init_154 (nm_e ?_)
  have f36 := mFr.wR (q := 75) (j := 45) (v := some 91) f35 (by decide)
  refine g_aload_n hC dX12_init_157 (i := 0) rfl (q := 0) rfl ?_
  refine g_sipush hC dX12_init_158 (v := (950 : Int32)) (by decide) ?_
  refine g_naI hC (N := 950) wd_201 rfl rfl f36 (by decide) (by decide) (by decide) (by rw [hE.1]; decide) (by rw [hE.1]; decide) dX12_init_161 ?_
  have f37 := f36.up (b := 93) (by decide)
  refine g_putrF hC (v := 92) (C0 := "") (t0 := _) fd_RX12_72 rfl (by decide) (Or.inr rfl) rfl rfl dX12_init_163 (nm_e ?_)
  have f38 := mFr.wR (q := 75) (j := 46) (v := some 92) f37 (by decide)
  refine g_aload_n hC dX12_init_166 (i := 0) rfl (q := 0) rfl ?_
  refine g_iconst hC dX12_init_167 (v := (-1 : Int32)) (by decide) ?_
  refine g_puti hC fd_RX12_75 rfl (by decide) rfl dX12_init_168 (nm_e ?_)
  have f39 := mFr.wI (q := 75) (j := 47) (v := (-1 : Int32)) f38 (by decide)
  refine g_aload_n hC dX12_init_171 (i := 0) rfl (q := 0) rfl ?_
  refine g_bipush hC dX12_init_172 (v := (6 : Int32)) (by decide) ?_
  refine g_naI hC (N := 6) wd_201 rfl rfl f39 (by decide) (by decide) (by decide) (by rw [hE.1]; decide) (by rw [hE.1]; decide) dX12_init_174 ?_
  have f40 := f39.up (b := 94) (by decide)
  refine g_putrF hC (v := 93) (C0 := "") (t0 := _) fd_RX12_78 rfl (by decide) (Or.inr rfl) rfl rfl dX12_init_176 (nm_e ?_)
  have f41 := mFr.wR (q := 75) (j := 48) (v := some 93) f40 (by decide)
  refine g_aload_n hC dX12_init_179 (i := 0) rfl (q := 0) rfl ?_
  refine g_bipush hC dX12_init_180 (v := (10 : Int32)) (by decide) ?_
  refine g_naI hC (N := 10) wd_201 rfl rfl f41 (by decide) (by decide) (by decide) (by rw [hE.1]; decide) (by rw [hE.1]; decide) dX12_init_182 ?_
  have f42 := f41.up (b := 95) (by decide)
  refine g_putrF hC (v := 94) (C0 := "") (t0 := _) fd_RX12_81 rfl (by decide) (Or.inr rfl) rfl rfl dX12_init_184 (nm_e ?_)
  have f43 := mFr.wR (q := 75) (j := 49) (v := some 94) f42 (by decide)
  refine g_aload_n hC dX12_init_187 (i := 0) rfl (q := 0) rfl ?_
  refine g_bipush hC dX12_init_188 (v := (6 : Int32)) (by decide) ?_
  refine g_naI hC (N := 6) wd_201 rfl rfl f43 (by decide) (by decide) (by decide) (by rw [hE.1]; decide) (by rw [hE.1]; decide) dX12_init_190 ?_
  have f44 := f43.up (b := 96) (by decide)
  refine g_putrF hC (v := 95) (C0 := "") (t0 := _) fd_RX12_84 rfl (by decide) (Or.inr rfl) rfl rfl dX12_init_192 (nm_e ?_)
  have f45 := mFr.wR (q := 75) (j := 50) (v := some 95) f44 (by decide)
  refine g_aload_n hC dX12_init_195 (i := 0) rfl (q := 0) rfl ?_
  refine g_sipush hC dX12_init_196 (v := (1000 : Int32)) (by decide) ?_
  refine g_naI hC (N := 1000) wd_201 rfl rfl f45 (by decide) (by decide) (by decide) (by rw [hE.1]; decide) (by rw [hE.1]; decide) dX12_init_199 ?_
  have f46 := f45.up (b := 97) (by decide)
  refine g_putrF hC (v := 96) (C0 := "") (t0 := _) fd_RX12_87 rfl (by decide) (Or.inr rfl) rfl rfl dX12_init_201 (nm_e ?_)
  have f47 := mFr.wR (q := 75) (j := 51) (v := some 96) f46 (by decide)
  refine g_aload_n hC dX12_init_204 (i := 0) rfl (q := 0) rfl ?_
  refine g_bipush hC dX12_init_205 (v := (80 : Int32)) (by decide) ?_
  refine g_naI hC (N := 80) wd_201 rfl rfl f47 (by decide) (by decide) (by decide) (by rw [hE.1]; decide) (by rw [hE.1]; decide) dX12_init_207 ?_
  have f48 := f47.up (b := 98) (by decide)
  refine g_putrF hC (v := 97) (C0 := "") (t0 := _) fd_RX12_90 rfl (by decide) (Or.inr rfl) rfl rfl dX12_init_209 (nm_e ?_)
  have f49 := mFr.wR (q := 75) (j := 53) (v := some 97) f48 (by decide)
  refine g_aload_n hC dX12_init_212 (i := 0) rfl (q := 0) rfl ?_
  refine g_sipush hC dX12_init_213 (v := (9216 : Int32)) (by decide) ?_
  refine g_naI hC (N := 9216) wd_201 rfl rfl f49 (by decide) (by decide) (by decide) (by rw [hE.1]; decide) (by rw [hE.1]; decide) dX12_init_216 ?_
  have f50 := f49.up (b := 99) (by decide)
  refine g_putrF hC (v := 98) (C0 := "") (t0 := _) fd_RX12_93 rfl (by decide) (Or.inr rfl) rfl rfl dX12_init_218 (nm_e ?_)
  have f51 := mFr.wR (q := 75) (j := 54) (v := some 98) f50 (by decide)
  refine g_aload_n hC dX12_init_221 (i := 0) rfl (q := 0) rfl ?_
  refine g_bipush hC dX12_init_222 (v := (24 : Int32)) (by decide) ?_
  refine g_naI hC (N := 24) wd_201 rfl rfl f51 (by decide) (by decide) (by decide) (by rw [hE.1]; decide) (by rw [hE.1]; decide) dX12_init_224 ?_
  have f52 := f51.up (b := 100) (by decide)
  refine g_putrF hC (v := 99) (C0 := "") (t0 := _) fd_RX12_96 rfl (by decide) (Or.inr rfl) rfl rfl dX12_init_226 (nm_e ?_)
  have f53 := mFr.wR (q := 75) (j := 56) (v := some 99) f52 (by decide)
  refine g_aload_n hC dX12_init_229 (i := 0) rfl (q := 0) rfl ?_
  refine g_bipush hC dX12_init_230 (v := (31 : Int32)) (by decide) ?_
  refine g_naI hC (N := 31) wd_201 rfl rfl f53 (by decide) (by decide) (by decide) (by rw [hE.1]; decide) (by rw [hE.1]; decide) dX12_init_232 ?_
  have f54 := f53.up (b := 101) (by decide)
  refine g_putrF hC (v := 100) (C0 := "") (t0 := _) fd_RX12_99 rfl (by decide) (Or.inr rfl) rfl rfl dX12_init_234 (nm_e ?_)
  have f55 := mFr.wR (q := 75) (j := 57) (v := some 100) f54 (by decide)
  refine g_aload_n hC dX12_init_237 (i := 0) rfl (q := 0) rfl ?_
  refine g_sipush hC dX12_init_238 (v := (3100 : Int32)) (by decide) ?_
  refine g_naI hC (N := 3100) wd_201 rfl rfl f55 (by decide) (by decide) (by decide) (by rw [hE.1]; decide) (by rw [hE.1]; decide) dX12_init_241 ?_
  have f56 := f55.up (b := 102) (by decide)
  refine g_putrF hC (v := 101) (C0 := "") (t0 := _) fd_RX12_102 rfl (by decide) (Or.inr rfl) rfl rfl dX12_init_243 (nm_e ?_)
  have f57 := mFr.wR (q := 75) (j := 58) (v := some 101) f56 (by decide)
  refine g_aload_n hC dX12_init_246 (i := 0) rfl (q := 0) rfl ?_
  refine g_bipush hC dX12_init_247 (v := (53 : Int32)) (by decide) ?_
  refine g_naI hC (N := 53) wd_201 rfl rfl f57 (by decide) (by decide) (by decide) (by rw [hE.1]; decide) (by rw [hE.1]; decide) dX12_init_249 ?_
  have f58 := f57.up (b := 103) (by decide)
  refine g_putrF hC (v := 102) (C0 := "") (t0 := _) fd_RX12_105 rfl (by decide) (Or.inr rfl) rfl rfl dX12_init_251 (nm_e ?_)
  have f59 := mFr.wR (q := 75) (j := 63) (v := some 102) f58 (by decide)
  refine g_aload_n hC dX12_init_254 (i := 0) rfl (q := 0) rfl ?_
  refine g_sipush hC dX12_init_255 (v := (2120 : Int32)) (by decide) ?_
  refine g_naI hC (N := 2120) wd_201 rfl rfl f59 (by decide) (by decide) (by decide) (by rw [hE.1]; decide) (by rw [hE.1]; decide) dX12_init_258 ?_
  have f60 := f59.up (b := 104) (by decide)
  refine g_putrF hC (v := 103) (C0 := "") (t0 := _) fd_RX12_108 rfl (by decide) (Or.inr rfl) rfl rfl dX12_init_260 (nm_e ?_)
  have f61 := mFr.wR (q := 75) (j := 64) (v := some 103) f60 (by decide)
  refine g_aload_n hC dX12_init_263 (i := 0) rfl (q := 0) rfl ?_
  refine g_bipush hC dX12_init_264 (v := (24 : Int32)) (by decide) ?_
  refine g_naI hC (N := 24) wd_201 rfl rfl f61 (by decide) (by decide) (by decide) (by rw [hE.1]; decide) (by rw [hE.1]; decide) dX12_init_266 ?_
  have f62 := f61.up (b := 105) (by decide)
  refine g_putrF hC (v := 104) (C0 := "") (t0 := _) fd_RX12_111 rfl (by decide) (Or.inr rfl) rfl rfl dX12_init_268 (nm_e ?_)
  have f63 := mFr.wR (q := 75) (j := 65) (v := some 104) f62 (by decide)
  exact g_vret hC hE rfl dX12_init_271 (by decide) (by decide) ⟨rfl, rfl, rfl, rfl, rfl, rfl⟩
