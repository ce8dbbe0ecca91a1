theorem mGd {M2 : mMt} (h : Cond.code M2.1 M2.2.1 M2.2.2.1 M2.2.2.2.1 ∈ tbG) : GoodIn tbG (mWs M2) := fun w hw => by
  rcases List.mem_cons.mp hw with e | h'
  · rw [e]
    exact ⟨h, good_of_word (List.mem_filter.mp h).2⟩
  · exact ⟨h', good_of_word (List.mem_filter.mp h').2⟩
/-- the words of a method that is called: n arguments -/
def mCd (M2 : mMt) (na : Nat) : Prop := Cond.code M2.1 M2.2.1 M2.2.2.1 M2.2.2.2.1 ∈ tbG ∧ Cond.initialized M2.1.cls ∈ tbG ∧ (M2.1.cls ≠ "java/lang/invoke/MethodHandle" ∧ M2.1.cls ≠ "java/lang/invoke/VarHandle" ∧ (parseMethodDescriptor M2.1.desc).map (fun d => d.parameters.length) = some na)
def mCv (M2 : mMt) (ci na : Nat) : Prop := mCd M2 na ∧ Cond.instanceMethod M2.1 ∈ tbG ∧ Cond.selects M2.1.cls M2.1 M2.1 ∈ tbG ∧ ∃ (T : u_T) (N : Nat), vwCl[ci]? = some (M2.1.cls, T, N)
def mCs (M2 : mMt) (na : Nat) : Prop := mCd M2 na ∧ Cond.static M2.1 ∈ tbG
def mCi (M2 : mMt) (na : Nat) : Prop := mCd M2 na ∧ Cond.instanceMethod M2.1 ∈ tbG ∧ M2.1.name = "<init>" ∧ M2.2.2.2.1 = none
def mRo (M M2 : mMt) : Prop := M2.2.2.2.2.1 + 1 ≤ M.2.2.2.2.1 ∧ 8 + (M2.2.2.1 + 11) + M2.2.2.2.2.2 ≤ M.2.2.2.2.2
theorem mBl {E : mEn} {av : List Value} {n x : Nat} {I : mIT} {R : mRT} {L : mLT} : FrameBlind (mPc E av n x I R L) := fun a U g mk q => ⟨q.1, q.2.1, mKw.warm (s := U) (U := U.calling g mk a) (State.WarmedH.refl U) q.2.2⟩
/-- the answer, and all tables as they were -/
def mSame (r : Option Value) (n x : Nat) (I : mIT) (R : mRT) (L : mLT) : Option Value → Nat → Nat → mIT → mRT → mLT → Prop := fun r' n' x' I' R' L' => r' = r ∧ n' = n ∧ x' = x ∧ I' = I ∧ R' = R ∧ L' = L
/-- no answer; the numbers may be others -/
def mVI (n x : Nat) (R : mRT) (L : mLT) (p : mIT → Prop) : Option Value → Nat → Nat → mIT → mRT → mLT → Prop := fun r' n' x' I' R' L' => r' = none ∧ n' = n ∧ x' = x ∧ R' = R ∧ L' = L ∧ p I'
/-- an int; the numbers may be others -/
def mII (n x : Nat) (R : mRT) (L : mLT) (p : Int32 → mIT → Prop) : Option Value → Nat → Nat → mIT → mRT → mLT → Prop := fun r' n' x' I' R' L' => ∃ v : Int32, r' = some (.int v) ∧ n' = n ∧ x' = x ∧ R' = R ∧ L' = L ∧ p v I' 
section CALLS
variable {X : mXT} {E : mEn} {M : mMt} {own : String} {cc : ByteArray} {pc : Nat} {lv : List (Nat × Value)} {st : List Value} {n x : Nat} {I : mIT} {R : mRT} {L : mLT} {k z : Nat}
theorem mz_go {p : Program} {l : Launch} {e : Env} {Rm : Room} {s : State} {m : MethodId} {args : Array Value} {below : List Frame} {meth : Method} {c : Code} {H : Heap} {locs : List Loc} {Q : State → Prop} {ls : Array Slot} {st0 : List Value} {mc2 ms2 : Nat} {a : Array Value} {post : Option Value → Nat → Nat → mIT → mRT → mLT → Prop}
    (hr : va_Run p l e Rm s m args below meth c H locs k z mc2 ms2 (F0 m pc ls st0) st (mQc E post a) (mA E)) (ho : ∀ w ∈ locs, mA E w.base)
    (kk : ∀ (r : Option Value) (n' x' : Nat) (I' : mIT) (R' : mRT) (L' : mLT) (H1 : Heap) (locs1 : List Loc), post r n' x' I' R' L' → mRl E n' x' I' R' L' H1 → (∀ w ∈ locs1, mA E w.base) → W p l e Rm s m args below meth c H1 locs1 (k + mc2) (z + ms2) Q (F0 m (pc + 3) ls (r.toList ++ st))) : W p l e Rm s m args below meth c H locs k z Q (F0 m pc ls st0) := by
  intro T hT X'
  obtain ⟨v, st₀, t, T', L', h0, X2, hL, e1, e2, ⟨r, n', x', I', R', L2, hv, hp, hR⟩, st9⟩ := hr T hT X'
  cases hv
  obtain ⟨t2, a1, b1⟩ := kk v n' x' I' R' L2 T'.heap (locs ++ L') hp (by rw [e1]; exact hR) (fun w hw => by
    rcases List.mem_append.mp hw with h | h
    · exact ho w h
    · exact hL w h) T' rfl X2
  exact ⟨t2, st9 t2 a1, b1⟩
theorem g_cV (hC : mC X E M own cc) {M2 : mMt} {mc2 ms2 : Nat} {post : Option Value → Nat → Nat → mIT → mRT → mLT → Prop} {q ci idx na : Nat} {As st0 : List Value} (hw : mCv M2 ci na) (hlk : Cond.methodLink own idx M2.1 ∈ tbG) (hro : mRo M M2) (hT : mT q = (0, ci)) (hq : q < n) (hd : decode cc pc = .ok (.invokevirtual idx, 3)) (hO : mOk X.2.1 E M2 (.ref (mB E + q) :: As) n x I R L mc2 ms2 post) (hA : As.length = na) (hst : st0 = As.reverse ++ .ref (mB E + q) :: st) (hs8 : (st.map fun v => v.category).sum ≤ 8) (hmc : k + mc2 ≤ X.2.2.2.2.2.2.2.2.2.2.1.1 ∧ z + ms2 ≤ X.2.2.2.2.2.2.2.2.2.2.1.2) (kk : ∀ (r : Option Value) (n' x' : Nat) (I' : mIT) (R' : mRT) (L' : mLT), post r n' x' I' R' L' → mG X E (pc + 3) lv (r.toList ++ st) n' x' I' R' L' (k + mc2) (z + ms2)) : mG X E pc lv st0 n x I R L k z := by
  intro ls H locs hl hR ho
  obtain ⟨⟨hcd, hini, hd3⟩, him, hse, T, N, hcl⟩ := hw
  exact mz_go (va_runV (As := As) (rest := st) ⟨hC.1.1, hC.1.2, hC.2.1.1, hC.2.1.2, hC.2.2.1⟩ hO ⟨callB_of na hC.2.2.1 (mGd hcd) rfl rfl rfl (hC.2.2.1 _ hini) (hC.2.2.1 _ hlk) hd3 (by rw [hC.2.2.2.2.2.1]; exact hro), hC.2.2.1 _ him, hC.2.2.1 _ hse⟩ ⟨mBl, va_recv hC.2.2.2.1.1 hR.2.2 hcl (mE_obj hq hT I R L), fun U hU hW => ⟨rfl, by rw [hU]; exact hR, hC.2.2.2.1.warm hW⟩⟩ rfl hA (by rw [hl.1, hC.2.2.2.2.2.1]) hst (lv_room hs8) hd hmc) ho (fun r n' x' I' R' L' H1 locs1 hp h1 h2 => kk r n' x' I' R' L' hp ls H1 locs1 hl h1 h2)
theorem g_cV1 (hC : mC X E M own cc) {M2 : mMt} {w : Value} {n1 x1 : Nat} {I1 : mIT} {R1 : mRT} {L1 : mLT} {q ci idx na : Nat} {As st0 : List Value} (hw : mCv M2 ci na) (hlk : Cond.methodLink own idx M2.1 ∈ tbG) (hro : mRo M M2) (hT : mT q = (0, ci)) (hq : q < n) (hd : decode cc pc = .ok (.invokevirtual idx, 3)) (hO : mOk X.2.1 E M2 (.ref (mB E + q) :: As) n x I R L 0 0 (mSame (some w) n1 x1 I1 R1 L1)) (hA : As.length = na) (hst : st0 = As.reverse ++ .ref (mB E + q) :: st) (hs8 : (st.map fun v => v.category).sum ≤ 8) (hmc : k ≤ X.2.2.2.2.2.2.2.2.2.2.1.1 ∧ z ≤ X.2.2.2.2.2.2.2.2.2.2.1.2) (kk : mG X E (pc + 3) lv (w :: st) n1 x1 I1 R1 L1 k z) : mG X E pc lv st0 n x I R L k z := by
  refine g_cV hC hw hlk hro hT hq hd hO hA hst hs8 hmc (fun r n' x' I' R' L' hp => ?_)
  obtain ⟨rfl, rfl, rfl, rfl, rfl, rfl⟩ := hp
  exact kk
theorem g_cV0 (hC : mC X E M own cc) {M2 : mMt} {n1 x1 : Nat} {I1 : mIT} {R1 : mRT} {L1 : mLT} {q ci idx na : Nat} {As st0 : List Value} (hw : mCv M2 ci na) (hlk : Cond.methodLink own idx M2.1 ∈ tbG) (hro : mRo M M2) (hT : mT q = (0, ci)) (hq : q < n) (hd : decode cc pc = .ok (.invokevirtual idx, 3)) (hO : mOk X.2.1 E M2 (.ref (mB E + q) :: As) n x I R L 0 0 (mSame none n1 x1 I1 R1 L1)) (hA : As.length = na) (hst : st0 = As.reverse ++ .ref (mB E + q) :: st) (hs8 : (st.map fun v => v.category).sum ≤ 8) (hmc : k ≤ X.2.2.2.2.2.2.2.2.2.2.1.1 ∧ z ≤ X.2.2.2.2.2.2.2.2.2.2.1.2) (kk : mG X E (pc + 3) lv st n1 x1 I1 R1 L1 k z) : mG X E pc lv st0 n x I R L k z := by
  refine g_cV hC hw hlk hro hT hq hd hO hA hst hs8 hmc (fun r n' x' I' R' L' hp => ?_)
  obtain ⟨rfl, rfl, rfl, rfl, rfl, rfl⟩ := hp
  exact kk
theorem g_cS (hC : mC X E M own cc) {M2 : mMt} {mc2 ms2 : Nat} {post : Option Value → Nat → Nat → mIT → mRT → mLT → Prop} {idx na : Nat} {As st0 : List Value} (hw : mCs M2 na) (hlk : Cond.methodLink own idx M2.1 ∈ tbG) (hro : mRo M M2) (hd : decode cc pc = .ok (.invokestatic idx, 3)) (hO : mOk X.2.1 E M2 As n x I R L mc2 ms2 post) (hA : As.length = na) (hst : st0 = As.reverse ++ st) (hs8 : (st.map fun v => v.category).sum ≤ 8) (hmc : k + mc2 ≤ X.2.2.2.2.2.2.2.2.2.2.1.1 ∧ z + ms2 ≤ X.2.2.2.2.2.2.2.2.2.2.1.2) (kk : ∀ (r : Option Value) (n' x' : Nat) (I' : mIT) (R' : mRT) (L' : mLT), post r n' x' I' R' L' → mG X E (pc + 3) lv (r.toList ++ st) n' x' I' R' L' (k + mc2) (z + ms2)) : mG X E pc lv st0 n x I R L k z := by
  intro ls H locs hl hR ho
  obtain ⟨⟨hcd, hini, hd3⟩, him⟩ := hw
  exact mz_go (va_runS (As := As) (rest := st) ⟨hC.1.1, hC.1.2, hC.2.1.1, hC.2.1.2, hC.2.2.1⟩ hO ⟨callB_of na hC.2.2.1 (mGd hcd) rfl rfl rfl (hC.2.2.1 _ hini) (hC.2.2.1 _ hlk) hd3 (by rw [hC.2.2.2.2.2.1]; exact hro), hC.2.2.1 _ him⟩ ⟨mBl, fun U hU hW => ⟨rfl, by rw [hU]; exact hR, hC.2.2.2.1.warm hW⟩⟩ rfl hA (by rw [hl.1, hC.2.2.2.2.2.1]) hst (lv_room hs8) hd hmc) ho (fun r n' x' I' R' L' H1 locs1 hp h1 h2 => kk r n' x' I' R' L' hp ls H1 locs1 hl h1 h2)
theorem g_cS1 (hC : mC X E M own cc) {M2 : mMt} {w : Value} {n1 x1 : Nat} {I1 : mIT} {R1 : mRT} {L1 : mLT} {idx na : Nat} {As st0 : List Value} (hw : mCs M2 na) (hlk : Cond.methodLink own idx M2.1 ∈ tbG) (hro : mRo M M2) (hd : decode cc pc = .ok (.invokestatic idx, 3)) (hO : mOk X.2.1 E M2 As n x I R L 0 0 (mSame (some w) n1 x1 I1 R1 L1)) (hA : As.length = na) (hst : st0 = As.reverse ++ st) (hs8 : (st.map fun v => v.category).sum ≤ 8) (hmc : k ≤ X.2.2.2.2.2.2.2.2.2.2.1.1 ∧ z ≤ X.2.2.2.2.2.2.2.2.2.2.1.2) (kk : mG X E (pc + 3) lv (w :: st) n1 x1 I1 R1 L1 k z) : mG X E pc lv st0 n x I R L k z := by
  refine g_cS hC hw hlk hro hd hO hA hst hs8 hmc (fun r n' x' I' R' L' hp => ?_)
  obtain ⟨rfl, rfl, rfl, rfl, rfl, rfl⟩ := hp
  exact kk
theorem g_cS0 (hC : mC X E M own cc) {M2 : mMt} {n1 x1 : Nat} {I1 : mIT} {R1 : mRT} {L1 : mLT} {idx na : Nat} {As st0 : List Value} (hw : mCs M2 na) (hlk : Cond.methodLink own idx M2.1 ∈ tbG) (hro : mRo M M2) (hd : decode cc pc = .ok (.invokestatic idx, 3)) (hO : mOk X.2.1 E M2 As n x I R L 0 0 (mSame none n1 x1 I1 R1 L1)) (hA : As.length = na) (hst : st0 = As.reverse ++ st) (hs8 : (st.map fun v => v.category).sum ≤ 8) (hmc : k ≤ X.2.2.2.2.2.2.2.2.2.2.1.1 ∧ z ≤ X.2.2.2.2.2.2.2.2.2.2.1.2) (kk : mG X E (pc + 3) lv st n1 x1 I1 R1 L1 k z) : mG X E pc lv st0 n x I R L k z := by
  refine g_cS hC hw hlk hro hd hO hA hst hs8 hmc (fun r n' x' I' R' L' hp => ?_)
  obtain ⟨rfl, rfl, rfl, rfl, rfl, rfl⟩ := hp
  exact kk
theorem g_cN (hC : mC X E M own cc) {M2 : mMt} {mc2 ms2 : Nat} {post : Option Value → Nat → Nat → mIT → mRT → mLT → Prop} {idx na : Nat} {host : String} {As st0 : List Value} (hw : mCs M2 na) (hlk : (own, idx, M2.1, host) ∈ mNL) (hro : mRo M M2) (hd : decode cc pc = .ok (.invokestatic idx, 3)) (hO : mOk X.2.1 E M2 As n x I R L mc2 ms2 post) (hA : As.length = na) (hst : st0 = As.reverse ++ st) (hs8 : (st.map fun v => v.category).sum ≤ 8) (hmc : k + mc2 ≤ X.2.2.2.2.2.2.2.2.2.2.1.1 ∧ z + ms2 ≤ X.2.2.2.2.2.2.2.2.2.2.1.2) (kk : ∀ (r : Option Value) (n' x' : Nat) (I' : mIT) (R' : mRT) (L' : mLT), post r n' x' I' R' L' → mG X E (pc + 3) lv (r.toList ++ st) n' x' I' R' L' (k + mc2) (z + ms2)) : mG X E pc lv st0 n x I R L k z := by
  intro ls H locs hl hR ho
  obtain ⟨⟨hcd, hini, hd3⟩, him⟩ := hw
  exact mz_go (va_runSN (As := As) (rest := st) (host := host) ⟨hC.1.1, hC.1.2, hC.2.1.1, hC.2.1.2, hC.2.2.1⟩ hO ⟨va_cnB na hC.2.2.1 (mGd hcd) rfl rfl rfl (hC.2.2.2.1.2.2.2.2.1 _ hlk) (hC.2.2.1 _ hini) hd3 (by rw [hC.2.2.2.2.2.1]; exact hro), hC.2.2.1 _ him, trivial⟩ ⟨mBl, fun U hU hW => ⟨rfl, by rw [hU]; exact hR, hC.2.2.2.1.warm hW⟩⟩ rfl hA (by rw [hl.1, hC.2.2.2.2.2.1]) hst (lv_room hs8) hd hmc) ho (fun r n' x' I' R' L' H1 locs1 hp h1 h2 => kk r n' x' I' R' L' hp ls H1 locs1 hl h1 h2)
theorem g_cN1 (hC : mC X E M own cc) {M2 : mMt} {w : Value} {n1 x1 : Nat} {I1 : mIT} {R1 : mRT} {L1 : mLT} {idx na : Nat} {host : String} {As st0 : List Value} (hw : mCs M2 na) (hlk : (own, idx, M2.1, host) ∈ mNL) (hro : mRo M M2) (hd : decode cc pc = .ok (.invokestatic idx, 3)) (hO : mOk X.2.1 E M2 As n x I R L 0 0 (mSame (some w) n1 x1 I1 R1 L1)) (hA : As.length = na) (hst : st0 = As.reverse ++ st) (hs8 : (st.map fun v => v.category).sum ≤ 8) (hmc : k ≤ X.2.2.2.2.2.2.2.2.2.2.1.1 ∧ z ≤ X.2.2.2.2.2.2.2.2.2.2.1.2) (kk : mG X E (pc + 3) lv (w :: st) n1 x1 I1 R1 L1 k z) : mG X E pc lv st0 n x I R L k z := by
  refine g_cN hC hw hlk hro hd hO hA hst hs8 hmc (fun r n' x' I' R' L' hp => ?_)
  obtain ⟨rfl, rfl, rfl, rfl, rfl, rfl⟩ := hp
  exact kk
theorem g_cN0 (hC : mC X E M own cc) {M2 : mMt} {n1 x1 : Nat} {I1 : mIT} {R1 : mRT} {L1 : mLT} {idx na : Nat} {host : String} {As st0 : List Value} (hw : mCs M2 na) (hlk : (own, idx, M2.1, host) ∈ mNL) (hro : mRo M M2) (hd : decode cc pc = .ok (.invokestatic idx, 3)) (hO : mOk X.2.1 E M2 As n x I R L 0 0 (mSame none n1 x1 I1 R1 L1)) (hA : As.length = na) (hst : st0 = As.reverse ++ st) (hs8 : (st.map fun v => v.category).sum ≤ 8) (hmc : k ≤ X.2.2.2.2.2.2.2.2.2.2.1.1 ∧ z ≤ X.2.2.2.2.2.2.2.2.2.2.1.2) (kk : mG X E (pc + 3) lv st n1 x1 I1 R1 L1 k z) : mG X E pc lv st0 n x I R L k z := by
  refine g_cN hC hw hlk hro hd hO hA hst hs8 hmc (fun r n' x' I' R' L' hp => ?_)
  obtain ⟨rfl, rfl, rfl, rfl, rfl, rfl⟩ := hp
  exact kk
theorem g_cI (hC : mC X E M own cc) {M2 : mMt} {mc2 ms2 : Nat} {post : Option Value → Nat → Nat → mIT → mRT → mLT → Prop} {q idx na : Nat} {host : String} {As st0 : List Value} (hw : mCi M2 na) (hlk : (own, idx, M2.1, host) ∈ mNL) (hro : mRo M M2) (hd : decode cc pc = .ok (.invokespecial idx, 3)) (hO : mOk X.2.1 E M2 (.ref (mB E + q) :: As) n x I R L mc2 ms2 post) (hA : As.length = na) (hst : st0 = As.reverse ++ .ref (mB E + q) :: st) (hs8 : (st.map fun v => v.category).sum ≤ 8) (hmc : k + mc2 ≤ X.2.2.2.2.2.2.2.2.2.2.1.1 ∧ z + ms2 ≤ X.2.2.2.2.2.2.2.2.2.2.1.2) (kk : ∀ (r : Option Value) (n' x' : Nat) (I' : mIT) (R' : mRT) (L' : mLT), post r n' x' I' R' L' → mG X E (pc + 3) lv (r.toList ++ st) n' x' I' R' L' (k + mc2) (z + ms2)) : mG X E pc lv st0 n x I R L k z := by
  intro ls H locs hl hR ho
  obtain ⟨⟨hcd, hini, hd3⟩, him, hnm, hrt⟩ := hw
  rw [hrt] at hcd
  have hO' : Met X.2.1 M2.1 (mWs (M2.1, M2.2.1, M2.2.2.1, none, M2.2.2.2.2)) (mRm M2 mc2 ms2) (mPc E (.ref (mB E + q) :: As) n x I R L) (mQc E post) mc2 ms2 (mA E) := by
    have e9 : mWs (M2.1, M2.2.1, M2.2.2.1, none, M2.2.2.2.2) = mWs M2 := by unfold mWs; rw [hrt]
    rw [e9]; exact hO
  exact mz_go (va_runIN (As := As) (rest := st) (host := host) ⟨hC.1.1, hC.1.2, hC.2.1.1, hC.2.1.2, hC.2.2.1⟩ hO' ⟨va_cnB na hC.2.2.1 (mGd (M2 := (M2.1, M2.2.1, M2.2.2.1, none, M2.2.2.2.2)) hcd) rfl rfl rfl (hC.2.2.2.1.2.2.2.2.1 _ hlk) (hC.2.2.1 _ hini) hd3 (by rw [hC.2.2.2.2.2.1]; exact hro), hnm, hC.2.2.1 _ him⟩ ⟨mBl, fun U hU hW => ⟨rfl, by rw [hU]; exact hR, hC.2.2.2.1.warm hW⟩⟩ rfl hA (by rw [hl.1, hC.2.2.2.2.2.1]) hst (lv_room hs8) hd hmc) ho (fun r n' x' I' R' L' H1 locs1 hp h1 h2 => kk r n' x' I' R' L' hp ls H1 locs1 hl h1 h2)
theorem g_cJ (hC : mC X E M own cc) {M2 : mMt} {mc2 ms2 : Nat} {post : Option Value → Nat → Nat → mIT → mRT → mLT → Prop} {q idx na : Nat} {As st0 : List Value} (hw : mCi M2 na) (hlk : Cond.methodLink own idx M2.1 ∈ tbG) (hro : mRo M M2) (hd : decode cc pc = .ok (.invokespecial idx, 3)) (hO : mOk X.2.1 E M2 (.ref (mB E + q) :: As) n x I R L mc2 ms2 post) (hA : As.length = na) (hst : st0 = As.reverse ++ .ref (mB E + q) :: st) (hs8 : (st.map fun v => v.category).sum ≤ 8) (hmc : k + mc2 ≤ X.2.2.2.2.2.2.2.2.2.2.1.1 ∧ z + ms2 ≤ X.2.2.2.2.2.2.2.2.2.2.1.2) (kk : ∀ (r : Option Value) (n' x' : Nat) (I' : mIT) (R' : mRT) (L' : mLT), post r n' x' I' R' L' → mG X E (pc + 3) lv (r.toList ++ st) n' x' I' R' L' (k + mc2) (z + ms2)) : mG X E pc lv st0 n x I R L k z := by
  intro ls H locs hl hR ho
  obtain ⟨⟨hcd, hini, hd3⟩, him, hnm, hrt⟩ := hw
  rw [hrt] at hcd
  have hO' : Met X.2.1 M2.1 (mWs (M2.1, M2.2.1, M2.2.2.1, none, M2.2.2.2.2)) (mRm M2 mc2 ms2) (mPc E (.ref (mB E + q) :: As) n x I R L) (mQc E post) mc2 ms2 (mA E) := by
    have e9 : mWs (M2.1, M2.2.1, M2.2.2.1, none, M2.2.2.2.2) = mWs M2 := by unfold mWs; rw [hrt]
    rw [e9]; exact hO
  exact mz_go (va_runI (As := As) (rest := st) ⟨hC.1.1, hC.1.2, hC.2.1.1, hC.2.1.2, hC.2.2.1⟩ hO' ⟨callB_of na hC.2.2.1 (mGd (M2 := (M2.1, M2.2.1, M2.2.2.1, none, M2.2.2.2.2)) hcd) rfl rfl rfl (hC.2.2.1 _ hini) (hC.2.2.1 _ hlk) hd3 (by rw [hC.2.2.2.2.2.1]; exact hro), hnm, hC.2.2.1 _ him⟩ ⟨mBl, fun U hU hW => ⟨rfl, by rw [hU]; exact hR, hC.2.2.2.1.warm hW⟩⟩ rfl hA (by rw [hl.1, hC.2.2.2.2.2.1]) hst (lv_room hs8) hd hmc) ho (fun r n' x' I' R' L' H1 locs1 hp h1 h2 => kk r n' x' I' R' L' hp ls H1 locs1 hl h1 h2)
theorem g_mmax (hC : mC X E M own cc) {a b : Int32} {idx : Nat} (hlk : Cond.methodLink own idx Lib.Math.max.name ∈ tbG) (hst : Cond.static Lib.Math.max.name ∈ tbG) (hini : Cond.initialized "java/lang/Math" ∈ tbG) (hcd : Cond.code Lib.Math.max.name Lib.Math.max.code 2 (some .int) ∈ tbG) (hfr : 1 ≤ M.2.2.2.2.1) (hlo : (st.map fun v => v.category).sum + 13 ≤ M.2.2.2.2.2) (hmc : k ≤ X.2.2.2.2.2.2.2.2.2.2.1.1 ∧ z ≤ X.2.2.2.2.2.2.2.2.2.2.1.2) (hd : decode cc pc = .ok (.invokestatic idx, 3)) (kk : mG X E (pc + 3) lv (.int (if a < b then b else a) :: st) n x I R L k z) : mG X E pc lv (.int b :: .int a :: st) n x I R L k z :=
  fun ls H locs hl hR ho => va_mmax hC.1.1 hC.1.2 (by rw [hl.1, hC.2.2.2.2.2.1]; exact hC.2.1.1) hC.2.1.2 (hC.2.2.1 _ hlk) (hC.2.2.1 _ hst) (hC.2.2.1 _ hini) (hC.2.2.1 _ hcd) (by rw [hC.2.2.2.2.2.1]; exact hfr) (by rw [hC.2.2.2.2.2.1]; exact hlo) hmc.1 hmc.2 hd (kk ls H locs hl hR ho)
theorem g_mmin (hC : mC X E M own cc) {a b : Int32} {idx : Nat} (hlk : Cond.methodLink own idx Lib.Math.min.name ∈ tbG) (hst : Cond.static Lib.Math.min.name ∈ tbG) (hini : Cond.initialized "java/lang/Math" ∈ tbG) (hcd : Cond.code Lib.Math.min.name Lib.Math.min.code 2 (some .int) ∈ tbG) (hfr : 1 ≤ M.2.2.2.2.1) (hlo : (st.map fun v => v.category).sum + 13 ≤ M.2.2.2.2.2) (hmc : k ≤ X.2.2.2.2.2.2.2.2.2.2.1.1 ∧ z ≤ X.2.2.2.2.2.2.2.2.2.2.1.2) (hd : decode cc pc = .ok (.invokestatic idx, 3)) (kk : mG X E (pc + 3) lv (.int (if b < a then b else a) :: st) n x I R L k z) : mG X E pc lv (.int b :: .int a :: st) n x I R L k z :=
  fun ls H locs hl hR ho => va_mmin hC.1.1 hC.1.2 (by rw [hl.1, hC.2.2.2.2.2.1]; exact hC.2.1.1) hC.2.1.2 (hC.2.2.1 _ hlk) (hC.2.2.1 _ hst) (hC.2.2.1 _ hini) (hC.2.2.1 _ hcd) (by rw [hC.2.2.2.2.2.1]; exact hfr) (by rw [hC.2.2.2.2.2.1]; exact hlo) hmc.1 hmc.2 hd (kk ls H locs hl hR ho)
theorem g_mabs (hC : mC X E M own cc) {a : Int32} {idx : Nat} (hlk : Cond.methodLink own idx Lib.Math.abs.name ∈ tbG) (hst : Cond.static Lib.Math.abs.name ∈ tbG) (hini : Cond.initialized "java/lang/Math" ∈ tbG) (hcd : Cond.code Lib.Math.abs.name Lib.Math.abs.code 1 (some .int) ∈ tbG) (hfr : 1 ≤ M.2.2.2.2.1) (hlo : (st.map fun v => v.category).sum + 13 ≤ M.2.2.2.2.2) (hmc : k ≤ X.2.2.2.2.2.2.2.2.2.2.1.1 ∧ z ≤ X.2.2.2.2.2.2.2.2.2.2.1.2) (hd : decode cc pc = .ok (.invokestatic idx, 3)) (kk : mG X E (pc + 3) lv (.int (if 0 ≤ a then a else 0 - a) :: st) n x I R L k z) : mG X E pc lv (.int a :: st) n x I R L k z :=
  fun ls H locs hl hR ho => va_mabs hC.1.1 hC.1.2 (by rw [hl.1, hC.2.2.2.2.2.1]; exact hC.2.1.1) hC.2.1.2 (hC.2.2.1 _ hlk) (hC.2.2.1 _ hst) (hC.2.2.1 _ hini) (hC.2.2.1 _ hcd) (by rw [hC.2.2.2.2.2.1]; exact hfr) (by rw [hC.2.2.2.2.2.1]; exact hlo) hmc.1 hmc.2 hd (kk ls H locs hl hR ho)
theorem g_obj (hC : mC X E M own cc) {idx q : Nat} (hlk : Cond.methodLink own idx objectInit ∈ tbG) (him : Cond.instanceMethod objectInit ∈ tbG) (hcd : Cond.code objectInit ⟨#[0xb1]⟩ 1 none ∈ tbG) (hfr : 1 ≤ M.2.2.2.2.1) (hlo : (st.map fun v => v.category).sum + 12 ≤ M.2.2.2.2.2) (hd : decode cc pc = .ok (.invokespecial idx, 3)) (kk : mG X E (pc + 3) lv st n x I R L k z) : mG X E pc lv (.ref q :: st) n x I R L k z :=
  fun ls H locs hl hR ho => W.objInit hC.1.1 hC.1.2 hC.2.1.2 (hC.2.2.1 _ hlk) (hC.2.2.1 _ him) (hC.2.2.1 _ hcd) rfl (by rw [hC.2.1.1]; show ls.size = _; rw [hl.1, hC.2.2.2.2.2.1]) rfl hd (by rw [hC.2.2.2.2.2.1]; exact hfr) (by rw [hC.2.2.2.2.2.1]; show 2 * 0 + _ + 12 ≤ _; rw [Nat.mul_zero, Nat.zero_add]; exact hlo) (kk ls H locs hl hR ho)
theorem mz_gox {p : Program} {l : Launch} {e : Env} {Rm : Room} {s : State} {m : MethodId} {args : Array Value} {below : List Frame} {meth : Method} {c : Code} {H : Heap} {locs : List Loc} {Q : State → Prop} {ls : Array Slot} {st0 : List Value} {mc2 ms2 : Nat} {a : Array Value} {post : Option Value → Nat → Nat → mIT → mRT → mLT → Prop} {px : String → Nat → Nat → mIT → mRT → mLT → Prop}
    (hr : vx_Run p l e Rm s m args below meth c H locs k z mc2 ms2 (F0 m pc ls st0) st (mQc E post a) (mXc E px) (mA E)) (ho : ∀ w ∈ locs, mA E w.base)
    (kk : ∀ (r : Option Value) (n' x' : Nat) (I' : mIT) (R' : mRT) (L' : mLT) (H1 : Heap) (locs1 : List Loc), post r n' x' I' R' L' → mRl E n' x' I' R' L' H1 → (∀ w ∈ locs1, mA E w.base) → W p l e Rm s m args below meth c H1 locs1 (k + mc2) (z + ms2) Q (F0 m (pc + 3) ls (r.toList ++ st)))
    (kx : ∀ (en : String) (q : Addr) (ce : Cell) (n' x' : Nat) (I' : mIT) (R' : mRT) (L' : mLT) (H1 : Heap) (locs1 : List Loc), px en n' x' I' R' L' → mRl E n' x' I' R' L' H1 → (∀ w ∈ locs1, mA E w.base) → H1[q]? = some ce → ce.vm = .none → s.vm.findClass en = some ce.cls → vx_W p l e Rm s m args below meth c H1 locs1 (k + mc2) (z + ms2) Q (F0 m pc ls st) q) : W p l e Rm s m args below meth c H locs k z Q (F0 m pc ls st0) := by
  intro T hT X'
  rcases hr T hT X' with ⟨v, st₀, t, T', L', h0, X2, hL, e1, e2, ⟨r, n', x', I', R', L2, hv, hp, hR⟩, st9⟩ | ⟨q, st₀, t, T', L', en, ce, h0, X2, hL, e1, e2, ⟨n', x', I', R', L2, hp, hR⟩, hce, hcv, hcl, st9⟩
  · cases hv
    obtain ⟨t2, a1, b1⟩ := kk v n' x' I' R' L2 T'.heap (locs ++ L') hp (by rw [e1]; exact hR) (fun w hw => by
      rcases List.mem_append.mp hw with h | h
      · exact ho w h
      · exact hL w h) T' rfl X2
    exact ⟨t2, st9 t2 a1, b1⟩
  · obtain ⟨t2, a1, b1⟩ := kx en q ce n' x' I' R' L2 T'.heap (locs ++ L') hp (by rw [e1]; exact hR) (fun w hw => by
      rcases List.mem_append.mp hw with h | h
      · exact ho w h
      · exact hL w h) (by rw [e1]; exact hce) hcv hcl T' rfl X2
    exact ⟨t2, st9.trans a1, b1⟩
theorem g_cVx (hC : mC X E M own cc) {M2 : mMt} {mc2 ms2 mc ms : Nat} {post post2 : Option Value → Nat → Nat → mIT → mRT → mLT → Prop} {px px2 : String → Nat → Nat → mIT → mRT → mLT → Prop} (hE : mEx X E mc ms post px) {q ci idx na : Nat} {As st0 : List Value} (hw : mCv M2 ci na) (hlk : Cond.methodLink own idx M2.1 ∈ tbG) (hro : mRo M M2) (hT : mT q = (0, ci)) (hq : q < n) (hd : decode cc pc = .ok (.invokevirtual idx, 3)) (hO : mOx X.2.1 E M2 (.ref (mB E + q) :: As) n x I R L mc2 ms2 post2 px2) (hA : As.length = na) (hst : st0 = As.reverse ++ .ref (mB E + q) :: st) (hs8 : (st.map fun v => v.category).sum ≤ 8) (hmc : k + mc2 ≤ mc ∧ z + ms2 ≤ ms) (kk : ∀ (r : Option Value) (n' x' : Nat) (I' : mIT) (R' : mRT) (L' : mLT), post2 r n' x' I' R' L' → mG X E (pc + 3) lv (r.toList ++ st) n' x' I' R' L' (k + mc2) (z + ms2)) (kx : ∀ (en : String) (n' x' : Nat) (I' : mIT) (R' : mRT) (L' : mLT), px2 en n' x' I' R' L' → px en n' x' I' R' L') : mG X E pc lv st0 n x I R L k z := by
  intro ls H locs hl hR ho
  obtain ⟨⟨hcd, hini, hd3⟩, him, hse, T, N, hcl⟩ := hw
  have hmc' : k + mc2 ≤ X.2.2.2.2.2.2.2.2.2.2.1.1 ∧ z + ms2 ≤ X.2.2.2.2.2.2.2.2.2.2.1.2 := by rw [hE.1]; exact hmc
  refine mz_gox (vx_runV (As := As) (rest := st) ⟨hC.1.1, hC.1.2, hC.2.1.1, hC.2.1.2, hC.2.2.1⟩ hO ⟨callB_of na hC.2.2.1 (mGd hcd) rfl rfl rfl (hC.2.2.1 _ hini) (hC.2.2.1 _ hlk) hd3 (by rw [hC.2.2.2.2.2.1]; exact hro), hC.2.2.1 _ him, hC.2.2.1 _ hse⟩ ⟨mBl, va_recv hC.2.2.2.1.1 hR.2.2 hcl (mE_obj hq hT I R L), fun U hU hW => ⟨rfl, by rw [hU]; exact hR, hC.2.2.2.1.warm hW⟩⟩ rfl hA (by rw [hl.1, hC.2.2.2.2.2.1]) hst (lv_room hs8) hd hmc') ho (fun r n' x' I' R' L' H1 locs1 hp h1 h2 => kk r n' x' I' R' L' hp ls H1 locs1 hl h1 h2) (fun en q9 ce n' x' I' R' L' H1 locs1 hp h1 h2 hc1 hc2 hc3 => ?_)
  rw [hE.2]
  exact vx_out (fun y hy => (hC.2.2.2.2.2.2.1 y hy).elim) hC.2.2.2.2.1.1 hc1 hc2 hc3 (fun t ht _ => ⟨n', x', I', R', L', kx en n' x' I' R' L' hp, by rw [ht]; exact h1⟩) h2 hmc.1 hmc.2
end CALLS
