/-- what is known of the frame of a method with handlers -/
def mD (X : mXT) (E : mEn) (M : mMt) (own : String) (cc : ByteArray) (hh : List (Nat × Nat × Nat × Nat)) : Prop :=
  (X.1.tables.exec = Jvm.exec ∧ X.2.2.2.2.2.2.2.2.1.code = cc) ∧ (X.2.2.2.2.2.2.2.2.1.maxLocals = M.2.2.1 ∧ X.2.2.2.1.vm.findClass own = some X.2.2.2.2.1.cls) ∧ (∀ w ∈ tbG, w.before X.2.2.2.2.2.1 X.2.2.2.1 = true) ∧ mKw E X.2.2.2.1 ∧
  (X.2.2.2.2.2.2.2.1.locks = false ∧ X.2.2.2.2.2.2.2.1.sig.returnType = M.2.2.2.1 ∧ X.2.2.2.2.2.2.2.1.name = M.1.name) ∧ X.2.2.2.2.2.2.2.2.2.1 = M ∧ (X.2.2.2.2.2.2.2.2.1.exceptionTable.toList = tableOf hh ∧ va_Nc "java/lang/IllegalArgumentException" "java/util/NoSuchElementException" X.2.2.2.1) ∧ X.2.1.stackTraces = false ∧ (∃ (n x : Nat) (I : mIT) (R : mRT) (L : mLT), mRl E n x I R L X.2.2.2.1.heap)
def mWw (M : mMt) (hh : List (Nat × Nat × Nat × Nat)) : List Cond := Cond.codeWith M.1 M.2.1 M.2.2.1 M.2.2.2.1 hh :: tbG
def mPw (E : mEn) (av : List Value) (n x : Nat) (I : mIT) (R : mRT) (L : mLT) : Array Value → State → Prop := fun v U => mPc E av n x I R L v U ∧ va_Nc "java/lang/IllegalArgumentException" "java/util/NoSuchElementException" U
/-- a method with handlers that returns -/
def mOw (l : Launch) (E : mEn) (M : mMt) (hh : List (Nat × Nat × Nat × Nat)) (av : List Value) (n x : Nat) (I : mIT) (R : mRT) (L : mLT) (mc ms : Nat) (post : Option Value → Nat → Nat → mIT → mRT → mLT → Prop) : Prop :=
  vx_Met l M.1 (mWw M hh) (mRm M mc ms) (mPw E av n x I R L) (mQc E post) (mXc E (fun _ _ _ _ _ _ => False)) mc ms (mA E)
theorem mOw_of {l : Launch} {E : mEn} {M : mMt} {hh : List (Nat × Nat × Nat × Nat)} {av : List Value} {n x : Nat} {I : mIT} {R : mRT} {L : mLT} {mc ms : Nat} {post : Option Value → Nat → Nat → mIT → mRT → mLT → Prop} (hst : l.stackTraces = false) (hy : plainName M.1.cls = true) (hn : (lg_sl av).length ≤ M.2.2.1)
    (body : ∀ X : mXT, mD X E M M.1.cls M.2.1 hh → mEx X E mc ms post (fun _ _ _ _ _ _ => False) → X.2.1 = l → mG X E 0 (lv_args 0 av) [] n x I R L 0 0) : mOw l E M hh av n x I R L mc ms post := by
  obtain ⟨y, cc, nL, ret, F, Lc⟩ := M
  refine vx_ofWH (cc := cc) (maxL := nL) (ret := ret) (hh := hh) hy rfl ?_
  intro p e s m args below meth c s₁ B hml hv
  obtain ⟨⟨rfl, hRl, hK⟩, hN⟩ := hv
  have hts := atoms_spec (ws := mWw (y, cc, nL, ret, F, Lc) hh) B.pre
  have hex := vx_table (x := y) B (hts _ List.mem_cons_self)
  have hl := lv_entry av (n := nL) hn
  rw [lg_entry_eq]
  exact body (p, l, e, s, m, av.toArray, below, meth, c, (y, cc, nL, ret, F, Lc), (mc, ms), _)
    ⟨⟨B.exec, B.bytes⟩, ⟨hml, findClass_of_methodNamed B.named⟩, fun w hw => hts w (List.mem_cons_of_mem _ hw), hK, ⟨B.notSynchronized, B.returns, (name_of_methodNamed B.named B.method).1⟩, rfl, ⟨hex, hN⟩, hst, ⟨_, _, _, _, _, hRl⟩⟩ ⟨rfl, rfl⟩ rfl _ _ [] hl hRl (fun w hw => nomatch hw)
section CATCH
variable {p : Program} {l : Launch} {e : Env} {R : Room} {s : State} {m : MethodId} {args : Array Value} {below : List Frame} {meth : Method} {c : Code} {H : Heap} {locs : List Loc} {cells slots : Nat} {Q : State → Prop} {ls : Array Slot} {rest : List Value} {pc : Nat}
/-- caught by the row x of this method's table; the rows ahead don't take it -/
theorem vx_catch {own name : String} {E : String} {ce : Cell} {q : Addr} (hown : s.vm.findClass own = some m.cls) (pre : List ExceptionTableEntry) (x : ExceptionTableEntry) (suf : List ExceptionTableEntry) (hsplit : c.exceptionTable.toList = pre ++ x :: suf)
    (hpass : ∀ z ∈ pre, covers z pc = false ∨ (z.catchType ≠ 0 ∧ ∃ nm : String, (Cond.classLink own z.catchType nm).before args s = true ∧ va_Nc E nm s)) (hx : covers x pc = true) (h0 : x.catchType ≠ 0)
    (hlink : (Cond.classLink own x.catchType name).before args s = true) (hcast : (Cond.castable E name).before args s = true) (hcell : H[q]? = some ce) (hv : ce.vm = .none) (hcl : s.vm.findClass E = some ce.cls)
    (kk : W p l e R s m args below meth c H locs cells slots Q (F0 m x.handlerPc ls [.ref q])) : vx_W p l e R s m args below meth c H locs cells slots Q (F0 m pc ls rest) q := by
  intro T hT X
  have hpl : e.platform.magicAccessors = ({} : Platform).magicAccessors := by rw [X.admits.platform]
  obtain ⟨c3, c4, hc3, hc4, hasg⟩ := Cond.castable_spec hcast
  cases Option.some.inj (hc3.symm.trans hcl)
  obtain ⟨c5, hc5, hcl5⟩ := Cond.classLink_spec hown hlink e.platform hpl
  cases Option.some.inj (hc4.symm.trans hc5)
  obtain ⟨vm', X', st⟩ := Stand.thenCaughtThrough X q (g := F0 m pc ls rest) rfl (Steps.refl _) (by rw [hT]; exact hcell) (by rw [hv]; rfl) (by obtain ⟨k9, h9, -⟩ := Vm.findClass_spec hcl; exact ⟨k9, h9⟩) pre x suf hsplit
    (fun z hz => by
      rcases hpass z hz with h | ⟨hz0, nm, hl1, hn1⟩
      · exact Or.inl h
      · obtain ⟨c6, hc6, hcl6⟩ := Cond.classLink_spec hown hl1 e.platform hpl
        obtain ⟨a8, b8, h1, h2, h3⟩ := hn1
        cases Option.some.inj (h1.symm.trans hcl)
        cases Option.some.inj (h2.symm.trans hc6)
        exact Or.inr ⟨hz0, _, hcl6, h3⟩) hx (Or.inr ⟨h0, c4, hcl5, hasg⟩)
  obtain ⟨t, a1, b1⟩ := kk (T.setVm vm') hT X'
  exact ⟨t, st.trans a1, b1⟩
end CATCH
section WRAP
variable {X : mXT} {E : mEn} {M : mMt} {own : String} {cc : ByteArray} {hh : List (Nat × Nat × Nat × Nat)} {pc : Nat} {lv : List (Nat × Value)} {st : List Value} {n x : Nat} {I : mIT} {R : mRT} {L : mLT} {k z : Nat}
theorem h_iconst (hC : mD X E M own cc hh) {i : Int} {v : Int32} (hd : decode cc pc = .ok (.iconst i, 1)) (hv : Int32.ofInt i = v) (kk : mG X E (pc + 1) lv (.int v :: st) n x I R L k z) : mG X E pc lv st n x I R L k z := fun ls H locs hl hR ho => lv_iconst hC.1.1 hC.1.2 hd hv (kk ls H locs hl hR ho)
theorem h_iload_n (hC : mD X E M own cc hh) {f : Fin 4} {i q : Nat} {v : Int32} (hd : decode cc pc = .ok (.iload_n f, 1)) (hi : (f : Nat) = i) (hq : lv[q]? = some (i, .int v)) (kk : mG X E (pc + 1) lv (.int v :: st) n x I R L k z) : mG X E pc lv st n x I R L k z := fun ls H locs hl hR ho => lv_iload_n hC.1.1 hC.1.2 hd hi (lv_at hl q hq) (kk ls H locs hl hR ho)
theorem h_iload (hC : mD X E M own cc hh) {i q : Nat} {v : Int32} (hd : decode cc pc = .ok (.iload i, 2)) (hq : lv[q]? = some (i, .int v)) (kk : mG X E (pc + 2) lv (.int v :: st) n x I R L k z) : mG X E pc lv st n x I R L k z := fun ls H locs hl hR ho => lv_iload hC.1.1 hC.1.2 hd (lv_at hl q hq) (kk ls H locs hl hR ho)
theorem h_aload_n (hC : mD X E M own cc hh) {f : Fin 4} {i q : Nat} {v : Nat} (hd : decode cc pc = .ok (.aload_n f, 1)) (hi : (f : Nat) = i) (hq : lv[q]? = some (i, .ref v)) (kk : mG X E (pc + 1) lv (.ref v :: st) n x I R L k z) : mG X E pc lv st n x I R L k z := fun ls H locs hl hR ho => lv_aload_n hC.1.1 hC.1.2 hd hi (lv_at hl q hq) (kk ls H locs hl hR ho)
theorem h_aload (hC : mD X E M own cc hh) {i q : Nat} {v : Nat} (hd : decode cc pc = .ok (.aload i, 2)) (hq : lv[q]? = some (i, .ref v)) (kk : mG X E (pc + 2) lv (.ref v :: st) n x I R L k z) : mG X E pc lv st n x I R L k z := fun ls H locs hl hR ho => lv_aload hC.1.1 hC.1.2 hd (lv_at hl q hq) (kk ls H locs hl hR ho)
theorem h_astore_n (hC : mD X E M own cc hh) {f : Fin 4} {i nL : Nat} {v : Nat} {lv' : List (Nat × Value)} (hd : decode cc pc = .ok (.astore_n f, 1)) (hi : (f : Nat) = i) (hM : M.2.2.1 = nL) (hn : i < nL) (hl' : (i, Value.ref v) :: lv.filter (fun q => !(q.1 == i) && !(q.1 + 1 == i && q.2.category == 2)) = lv') (kk : mG X E (pc + 1) lv' st n x I R L k z) : mG X E pc lv (.ref v :: st) n x I R L k z := by
  intro ls H locs hl hR ho
  have hX : X.2.2.2.2.2.2.2.2.2.1.2.2.1 = nL := by rw [hC.2.2.2.2.2.1]; exact hM
  rw [hX] at hl
  exact lv_astore_n hC.1.1 hC.1.2 hd hi hl hn hl' (fun ls2 hl2 => kk ls2 H locs (by rw [hX]; exact hl2) hR ho)
theorem h_astore (hC : mD X E M own cc hh) {i nL : Nat} {v : Nat} {lv' : List (Nat × Value)} (hd : decode cc pc = .ok (.astore i, 2)) (hM : M.2.2.1 = nL) (hn : i < nL) (hl' : (i, Value.ref v) :: lv.filter (fun q => !(q.1 == i) && !(q.1 + 1 == i && q.2.category == 2)) = lv') (kk : mG X E (pc + 2) lv' st n x I R L k z) : mG X E pc lv (.ref v :: st) n x I R L k z := by
  intro ls H locs hl hR ho
  have hX : X.2.2.2.2.2.2.2.2.2.1.2.2.1 = nL := by rw [hC.2.2.2.2.2.1]; exact hM
  rw [hX] at hl
  exact lv_astore hC.1.1 hC.1.2 hd hl hn hl' (fun ls2 hl2 => kk ls2 H locs (by rw [hX]; exact hl2) hR ho)
theorem h_lconst (hC : mD X E M own cc hh) {i : Fin 2} {v : Int64} (hd : decode cc pc = .ok (.lconst i, 1)) (hv : Int64.ofNat (i : Nat) = v) (kk : mG X E (pc + 1) lv (.long v :: st) n x I R L k z) : mG X E pc lv st n x I R L k z := fun ls H locs hl hR ho => lv_lconst hC.1.1 hC.1.2 hd hv (kk ls H locs hl hR ho)
theorem h_i2l (hC : mD X E M own cc hh) {a : Int32} (hd : decode cc pc = .ok (.i2l, 1)) (kk : mG X E (pc + 1) lv (.long (a.toInt64) :: st) n x I R L k z) : mG X E pc lv (.int a :: st) n x I R L k z := fun ls H locs hl hR ho => lv_i2l hC.1.1 hC.1.2 hd rfl (kk ls H locs hl hR ho)
theorem h_goto (hC : mD X E M own cc hh) {off : Int} {tgt : Nat} (hd : decode cc pc = .ok (.goto off, 3)) (ht : (pc : Int) + off = (tgt : Int)) (kk : mG X E tgt lv st n x I R L k z) : mG X E pc lv st n x I R L k z := fun ls H locs hl hR ho => lv_goto hC.1.1 hC.1.2 hd ht (kk ls H locs hl hR ho)
theorem h_if_eq (hC : mD X E M own cc hh) {a : Int32} {off : Int} {tgt : Nat} (hd : decode cc pc = .ok (.ifCond .eq off, 3)) (ht : (pc : Int) + off = (tgt : Int)) (kt : a = 0 → mG X E tgt lv st n x I R L k z) (kf : ¬ a = 0 → mG X E (pc + 3) lv st n x I R L k z) : mG X E pc lv (.int a :: st) n x I R L k z := fun ls H locs hl hR ho => lv_if_eq hC.1.1 hC.1.2 hd ht (fun q => kt q ls H locs hl hR ho) (fun q => kf q ls H locs hl hR ho)
theorem h_last (hC : mD X E M own cc hh) {q len : Nat} {i : Int32} {v : Int64} (hT : mT q = (4, len)) (hq : q < n) (hi : vp_in i len) (hd : decode cc pc = .ok (.lastore, 1)) (kk : ∀ L' : mLT, L' = mUL L q i.toNatClampNeg v → mG X E (pc + 1) lv st n x I R L' k z) : mG X E pc lv (.long v :: .int i :: .ref (mB E + q) :: st) n x I R L k z := by
  intro ls H locs hl hR ho
  have ha := mE_long (E := E) hq hT I R L
  refine W.last hC.1.1 hC.1.2 (hR.2.2 q _ ha) ((hC.2.2.2.1.1.2 3 _ rfl).1 len (fun j => .long (L q j))) (fun y => by cases y) (by show ¬ (i < 0 ∨ (arrV _ _ _).slots.size ≤ _); rw [arrV_size]; exact hi) rfl rfl hd fun H1 e z1 oq => ?_
  have hP := hR.2.2.set (e := .inl (E.2.1.2.2.2, len, .inr (.inl (vp_updL (L q) i.toNatClampNeg v)))) (mW_D I R L) ha (by
    show H1[mB E + q]? = some (vp_cell _ _)
    rw [e]
    rw [vp_cell_l, vp_cell_l, arrV_store]
    congr 2
    funext b
    by_cases hb : b = i.toNatClampNeg
    · subst hb
      simp [updV, vp_updL, vp_nar]
      try rfl
    · simp [updV, vp_updL, hb]) oq
  rw [mW_set hq (I' := I) (R' := R) (L' := (mUL L q i.toNatClampNeg v)) (by simp only [mE, hT]; rw [mUL_same]) (fun _ _ => rfl) (fun _ _ => rfl) (fun b hb => mUL_other hb)] at hP
  refine kk _ rfl ls H1 _ hl ⟨hR.z z1, fun a ha => (oq a (Nat.ne_of_lt (Nat.lt_of_lt_of_le ha (Nat.le_add_right _ _)))).trans (hR.2.1 a ha), hP⟩ ?_
  intro w hw
  rcases List.mem_append.mp hw with h | h
  · exact ho w h
  · rw [List.mem_singleton.mp h]
    show mB E ≤ mB E + q
    omega
theorem h_xiret (hC : mD X E M own cc hh) {mc ms : Nat} {post : Option Value → Nat → Nat → mIT → mRT → mLT → Prop} {px : String → Nat → Nat → mIT → mRT → mLT → Prop} {v : Int32} (hE : mEx X E mc ms post px) (hr : M.2.2.2.1 = some .int) (hd : decode cc pc = .ok (.ireturn, 1)) (hk : k ≤ mc) (hz : z ≤ ms) (hp : post (some (.int v)) n x I R L) : mG X E pc lv [.int v] n x I R L k z := by
  intro ls H locs hl hR ho
  rw [hE.2]
  refine W.widen hk hz ?_
  refine vx_ret ?_
  exact W.iret (v := v) hC.1.1 hC.1.2 (by rw [hC.2.2.2.2.1.2.1]; exact hr) (fun t ht _ => ⟨_, n, x, I, R, L, rfl, hp, by rw [ht]; exact hR⟩) ho hd hC.2.2.2.2.1.1
theorem h_cV1 (hC : mD X E M own cc hh) {M2 : mMt} {w : Value} {n1 x1 : Nat} {I1 : mIT} {R1 : mRT} {L1 : mLT} {q ci idx na : Nat} {As st0 : List Value} (hw : mCv M2 ci na) (hlk : Cond.methodLink own idx M2.1 ∈ tbG) (hro : mRo M M2) (hT : mT q = (0, ci)) (hq : q < n) (hd : decode cc pc = .ok (.invokevirtual idx, 3)) (hO : mOx X.2.1 E M2 (.ref (mB E + q) :: As) n x I R L 0 0 (mSame (some w) n1 x1 I1 R1 L1) (fun _ _ _ _ _ _ => False)) (hA : As.length = na) (hst : st0 = As.reverse ++ .ref (mB E + q) :: st) (hs8 : (st.map fun v => v.category).sum ≤ 8) (hmc : k + 0 ≤ X.2.2.2.2.2.2.2.2.2.2.1.1 ∧ z + 0 ≤ X.2.2.2.2.2.2.2.2.2.2.1.2) (kk : mG X E (pc + 3) lv (w :: st) n1 x1 I1 R1 L1 k z) : mG X E pc lv st0 n x I R L k z := by
  intro ls H locs hl hR ho
  obtain ⟨⟨hcd, hini, hd3⟩, him, hse, T, N, hcl⟩ := hw
  refine mz_gox (vx_runV (As := As) (rest := st) ⟨hC.1.1, hC.1.2, hC.2.1.1, hC.2.1.2, hC.2.2.1⟩ hO ⟨callB_of na hC.2.2.1 (mGd hcd) rfl rfl rfl (hC.2.2.1 _ hini) (hC.2.2.1 _ hlk) hd3 (by rw [hC.2.2.2.2.2.1]; exact hro), hC.2.2.1 _ him, hC.2.2.1 _ hse⟩ ⟨mBl, va_recv hC.2.2.2.1.1 hR.2.2 hcl (mE_obj hq hT I R L), fun U hU hW => ⟨rfl, by rw [hU]; exact hR, hC.2.2.2.1.warm hW⟩⟩ rfl hA (by rw [hl.1, hC.2.2.2.2.2.1]) hst (lv_room hs8) hd hmc) ho (fun r n' x' I' R' L' H1 locs1 hp h1 h2 => ?_) (fun en q9 ce n' x' I' R' L' H1 locs1 hp h1 h2 hc1 hc2 hc3 => hp.elim)
  obtain ⟨rfl, rfl, rfl, rfl, rfl, rfl⟩ := hp
  exact kk ls H1 locs1 hl h1 h2
theorem h_cVc (hC : mD X E M own cc hh) {M2 : mMt} {c1 n1 x1 : Nat} {I1 : mIT} {R1 : mRT} {L1 : mLT} {q ci idx na : Nat} {As st0 : List Value} (hw : mCv M2 ci na) (hlk : Cond.methodLink own idx M2.1 ∈ tbG) (hro : mRo M M2) (hT : mT q = (0, ci)) (hq : q < n) (hd : decode cc pc = .ok (.invokevirtual idx, 3)) (hO : mOx X.2.1 E M2 (.ref (mB E + q) :: As) n x I R L 1 6 (fun _ _ _ _ _ _ => False) (mXp c1 n1 x1 I1 R1 L1)) (hA : As.length = na) (hst : st0 = As.reverse ++ .ref (mB E + q) :: st) (hs8 : (st.map fun v => v.category).sum ≤ 8) (hmc : k + 1 ≤ X.2.2.2.2.2.2.2.2.2.2.1.1 ∧ z + 6 ≤ X.2.2.2.2.2.2.2.2.2.2.1.2) (pre suf : List (Nat × Nat × Nat × Nat)) (y : Nat × Nat × Nat × Nat) (hsp : hh = pre ++ y :: suf) {name : String}
    (hpass : ∀ z ∈ tableOf pre, covers z pc = false ∨ (z.catchType ≠ 0 ∧ ∃ nm : String, Cond.classLink own z.catchType nm ∈ tbG ∧ va_Nc (xNm c1) nm X.2.2.2.1)) (hx : covers ⟨y.1, y.2.1, y.2.2.1, y.2.2.2⟩ pc = true) (h0 : y.2.2.2 ≠ 0) (hln : Cond.classLink own y.2.2.2 name ∈ tbG) (hcast : (Cond.castable (xNm c1) name).before X.2.2.2.2.2.1 X.2.2.2.1 = true) (kk : ∀ q9 : Nat, mG X E y.2.2.1 lv [.ref q9] n1 x1 I1 R1 L1 (k + 1) (z + 6)) : mG X E pc lv st0 n x I R L k z := by
  intro ls H locs hl hR ho
  obtain ⟨⟨hcd, hini, hd3⟩, him, hse, T, N, hcl⟩ := hw
  refine mz_gox (vx_runV (As := As) (rest := st) ⟨hC.1.1, hC.1.2, hC.2.1.1, hC.2.1.2, hC.2.2.1⟩ hO ⟨callB_of na hC.2.2.1 (mGd hcd) rfl rfl rfl (hC.2.2.1 _ hini) (hC.2.2.1 _ hlk) hd3 (by rw [hC.2.2.2.2.2.1]; exact hro), hC.2.2.1 _ him, hC.2.2.1 _ hse⟩ ⟨mBl, va_recv hC.2.2.2.1.1 hR.2.2 hcl (mE_obj hq hT I R L), fun U hU hW => ⟨rfl, by rw [hU]; exact hR, hC.2.2.2.1.warm hW⟩⟩ rfl hA (by rw [hl.1, hC.2.2.2.2.2.1]) hst (lv_room hs8) hd hmc) ho (fun r n' x' I' R' L' H1 locs1 hp h1 h2 => hp.elim) (fun en q9 ce n' x' I' R' L' H1 locs1 hp h1 h2 hc1 hc2 hc3 => ?_)
  obtain ⟨rfl, rfl, rfl, rfl, rfl, rfl⟩ := hp
  exact vx_catch hC.2.1.2 (tableOf pre) ⟨y.1, y.2.1, y.2.2.1, y.2.2.2⟩ (tableOf suf) (by rw [hC.2.2.2.2.2.2.1.1, hsp]; simp [tableOf]) (fun z hz => (hpass z hz).imp id (fun ⟨g1, nm, g2, g3⟩ => ⟨g1, nm, hC.2.2.1 _ g2, g3⟩)) hx h0 (hC.2.2.1 _ hln) hcast hc1 hc2 hc3 (kk q9 ls H1 locs1 hl h1 h2)
end WRAP
