def mNm : List String := ["java/lang/RuntimeException", "java/lang/Exception"]
/-- the words of a throw -/
def mTb (cls : String) : List Cond := [Cond.castable cls cls, Cond.declares (Bundle.initS "java/lang/RuntimeException"), Cond.declares (Bundle.initS "java/lang/Exception"), Cond.declares (Bundle.initS "java/lang/Throwable")]
def mTw (own : String) (ik ic : Nat) (cls : String) : Prop := ∃ (ix : Nat) (rx : ByteArray), decode rx 0 = .ok (.aload_n 0, 1) ∧ decode rx 1 = .ok (.aload_n 1, 1) ∧ decode rx 2 = .ok (.invokespecial ix, 3) ∧ decode rx 5 = .ok (.return_, 1) ∧ Bundle.fit cls = true ∧ Cond.classLink own ik cls ∈ tbG ∧ Cond.initialized cls ∈ tbG ∧ (∀ w ∈ (th_atS own ic cls ix rx mNm).filter goodWord, w ∈ tbG) ∧ (∀ w ∈ (th_atS own ic cls ix rx mNm).filter (fun w => !goodWord w), w ∈ mTb cls) ∧ (∀ w ∈ Cond.classLink own ik cls :: Cond.initialized cls :: th_atS own ic cls ix rx mNm, vx_ot w = true) ∧ (cls = "java/lang/IllegalArgumentException" ∨ cls = "java/util/NoSuchElementException")
section MORE
variable {X : mXT} {E : mEn} {M : mMt} {own : String} {cc : ByteArray} {pc : Nat} {lv : List (Nat × Value)} {st : List Value} {n x : Nat} {I : mIT} {R : mRT} {L : mLT} {k z : Nat}
theorem g_thr (hC : mC X E M own cc) {mc ms ik is ic j : Nat} {cls text : String} {post : Option Value → Nat → Nat → mIT → mRT → mLT → Prop} {px : String → Nat → Nat → mIT → mRT → mLT → Prop} (hE : mEx X E mc ms post px) (hw : mTw own ik ic cls) (hj : mSL[j]? = some (own, is, text)) (d0 : decode cc pc = .ok (.new ik, 3)) (d3 : decode cc (pc + 3) = .ok (.dup, 1)) (d4 : decode cc (pc + 4) = .ok (.ldc is, 2)) (d6 : decode cc (pc + 6) = .ok (.invokespecial ic, 3)) (d9 : decode cc (pc + 9) = .ok (.athrow, 1)) (hfr : 6 ≤ M.2.2.2.2.1) (hlo : (st.map fun v => v.category).sum + 82 ≤ M.2.2.2.2.2) (hx : x ≠ 0) (hc : k + 1 ≤ mc) (hs : z + 6 ≤ ms) (hp : px cls n x I R L) : mG X E pc lv st n x I R L k z := by
  intro ls H locs hl hR ho
  obtain ⟨ix, rx, x0, x1, x2, x5, w1, w2, w3, w4, w5, w6, w7⟩ := hw
  rw [hE.2]
  have hK := hC.2.2.2.1
  obtain ⟨n0, x9, I0, R0, L0, hR0⟩ := hC.2.2.2.2.2.2.2.2
  have hold : ∀ q : Nat, q < E.2.2.1.size → ¬ mA E q → X.2.2.2.1.heap[q]? = E.2.2.1[q]? := fun q hq _ => hR0.2.1 q hq
  intro T hT Xs
  have hS : va_S (mA E) X.2.2.2.1.heap H locs := ⟨by rw [← hT]; exact Xs.same.2.1, fun q hq hn => by
    have hlt : q < mB E := Nat.not_le.mp hn
    rw [hR.2.1 q hlt, hR0.2.1 q hlt], ho⟩
  suffices hz : W _ _ _ _ _ _ _ _ _ _ H locs k z _ (F0 X.2.2.2.2.1 pc ls st) from hz T hT Xs
  refine th_vx_throwS x0 x1 x2 x5 (names := mNm) (A := mA E) hC.1.1 hC.1.2 hC.2.2.2.2.2.2.2.1 hC.2.1.2 w1 (by decide) (hC.2.2.1 _ w2) (hC.2.2.1 _ w3) (hK.2.2.2.1.1 j _ hj) (vx_hat (B := mTb cls) (fun w hw => hC.2.2.1 w (w4 w hw)) w5 ?_) w6 (hK.2.1.kept hold) (hK.2.2.1.kept hold) hS (by rw [hl.1, hC.2.2.2.2.2.1]; exact hC.2.1.1.symm) d0 d3 d4 d6 d9 (fun y hy => (hC.2.2.2.2.2.2.1 y hy).elim) (by rw [hC.2.2.2.2.2.1]; show 2 + 3 < _; exact hfr) (by rw [hC.2.2.2.2.2.1]; exact hlo) (by show k + 1 ≤ X.2.2.2.2.2.2.2.2.2.2.1.1; rw [hE.1]; exact hc) (by show z + 6 ≤ X.2.2.2.2.2.2.2.2.2.2.1.2; rw [hE.1]; exact hs) hC.2.2.2.2.1.1 (fun t ha hz hq => ⟨n, x, I, R, L, hp, ⟨Nat.le_trans hR.1.1 hz, fun h => (hx h).elim⟩, fun q h9 => (hq q (Nat.lt_of_lt_of_le h9 hR.1.1)).trans (hR.2.1 q h9), hR.2.2.kept (fun b y hy => hq y.1 ((hR.2.2 b y hy).lt))⟩) ho hc hs
  intro w hw
  simp only [mTb, List.mem_cons, List.not_mem_nil, or_false] at hw
  rcases hw with rfl | rfl | rfl | rfl
  · rcases w7 with rfl | rfl
    · exact va_Nw.use rfl hK.2.2.2.2.2.1
    · exact va_Nw.use rfl hK.2.2.2.2.2.2.1
  · exact va_Nw.use rfl hK.2.2.2.2.2.2.2.1
  · exact va_Nw.use rfl hK.2.2.2.2.2.2.2.2.1
  · exact va_Nw.use rfl hK.2.2.2.2.2.2.2.2.2
theorem g_thrw (hC : mC X E M own cc) {mc ms ik is ic j : Nat} {cls text : String} {post : Option Value → Nat → Nat → mIT → mRT → mLT → Prop} {px : String → Nat → Nat → mIT → mRT → mLT → Prop} (hE : mEx X E mc ms post px) (hw : mTw own ik ic cls) (hj : mSL[j]? = some (own, is, text)) (d0 : decode cc pc = .ok (.new ik, 3)) (d3 : decode cc (pc + 3) = .ok (.dup, 1)) (d4 : decode cc (pc + 4) = .ok (.ldc_w is, 3)) (d6 : decode cc (pc + 7) = .ok (.invokespecial ic, 3)) (d9 : decode cc (pc + 10) = .ok (.athrow, 1)) (hfr : 6 ≤ M.2.2.2.2.1) (hlo : (st.map fun v => v.category).sum + 82 ≤ M.2.2.2.2.2) (hx : x ≠ 0) (hc : k + 1 ≤ mc) (hs : z + 6 ≤ ms) (hp : px cls n x I R L) : mG X E pc lv st n x I R L k z := by
  intro ls H locs hl hR ho
  obtain ⟨ix, rx, x0, x1, x2, x5, w1, w2, w3, w4, w5, w6, w7⟩ := hw
  rw [hE.2]
  have hK := hC.2.2.2.1
  obtain ⟨n0, x9, I0, R0, L0, hR0⟩ := hC.2.2.2.2.2.2.2.2
  have hold : ∀ q : Nat, q < E.2.2.1.size → ¬ mA E q → X.2.2.2.1.heap[q]? = E.2.2.1[q]? := fun q hq _ => hR0.2.1 q hq
  intro T hT Xs
  have hS : va_S (mA E) X.2.2.2.1.heap H locs := ⟨by rw [← hT]; exact Xs.same.2.1, fun q hq hn => by
    have hlt : q < mB E := Nat.not_le.mp hn
    rw [hR.2.1 q hlt, hR0.2.1 q hlt], ho⟩
  suffices hz : W _ _ _ _ _ _ _ _ _ _ H locs k z _ (F0 X.2.2.2.2.1 pc ls st) from hz T hT Xs
  refine th_vx_throwSW x0 x1 x2 x5 (names := mNm) (A := mA E) hC.1.1 hC.1.2 hC.2.2.2.2.2.2.2.1 hC.2.1.2 w1 (by decide) (hC.2.2.1 _ w2) (hC.2.2.1 _ w3) (hK.2.2.2.1.1 j _ hj) (vx_hat (B := mTb cls) (fun w hw => hC.2.2.1 w (w4 w hw)) w5 ?_) w6 (hK.2.1.kept hold) (hK.2.2.1.kept hold) hS (by rw [hl.1, hC.2.2.2.2.2.1]; exact hC.2.1.1.symm) d0 d3 d4 d6 d9 (fun y hy => (hC.2.2.2.2.2.2.1 y hy).elim) (by rw [hC.2.2.2.2.2.1]; show 2 + 3 < _; exact hfr) (by rw [hC.2.2.2.2.2.1]; exact hlo) (by show k + 1 ≤ X.2.2.2.2.2.2.2.2.2.2.1.1; rw [hE.1]; exact hc) (by show z + 6 ≤ X.2.2.2.2.2.2.2.2.2.2.1.2; rw [hE.1]; exact hs) hC.2.2.2.2.1.1 (fun t ha hz hq => ⟨n, x, I, R, L, hp, ⟨Nat.le_trans hR.1.1 hz, fun h => (hx h).elim⟩, fun q h9 => (hq q (Nat.lt_of_lt_of_le h9 hR.1.1)).trans (hR.2.1 q h9), hR.2.2.kept (fun b y hy => hq y.1 ((hR.2.2 b y hy).lt))⟩) ho hc hs
  intro w hw
  simp only [mTb, List.mem_cons, List.not_mem_nil, or_false] at hw
  rcases hw with rfl | rfl | rfl | rfl
  · rcases w7 with rfl | rfl
    · exact va_Nw.use rfl hK.2.2.2.2.2.1
    · exact va_Nw.use rfl hK.2.2.2.2.2.2.1
  · exact va_Nw.use rfl hK.2.2.2.2.2.2.2.1
  · exact va_Nw.use rfl hK.2.2.2.2.2.2.2.2.1
  · exact va_Nw.use rfl hK.2.2.2.2.2.2.2.2.2
theorem g_copy (hC : mC X E M own cc) {idx q0 q1 l0 l1 : Nat} {sp dp c9 : Int32} (hlk : Cond.methodLink own idx arraycopyName ∈ tbG) (hna : Cond.native arraycopyName ∈ tbG) (hst : Cond.static arraycopyName ∈ tbG) (hini : Cond.initialized "java/lang/System" ∈ tbG) (hT0 : mT q0 = (1, l0)) (hT1 : mT q1 = (1, l1)) (hq0 : q0 < n) (hq1 : q1 < n) (h1 : ¬ sp < 0) (h2 : ¬ dp < 0) (h3 : ¬ c9 < 0) (h4 : sp.toNatClampNeg + c9.toNatClampNeg ≤ l0) (h5 : dp.toNatClampNeg + c9.toNatClampNeg ≤ l1) (hfr : 1 ≤ M.2.2.2.2.1) (hlo : (st.map fun v => v.category).sum + (nativeFrameWords "java/lang/System" "arraycopy" 5 + 11) ≤ M.2.2.2.2.2) (hx : x ≠ 0) (hd : decode cc pc = .ok (.invokestatic idx, 3)) (kk : ∀ I' : mIT, I' = (fun b => if b = q1 then va_cpy (I q0) (I q1) sp.toNatClampNeg dp.toNatClampNeg c9.toNatClampNeg else I b) → mG X E (pc + 3) lv st n x I' R L k z) : mG X E pc lv (.int c9 :: .int dp :: .ref (mB E + q1) :: .int sp :: .ref (mB E + q0) :: st) n x I R L k z := by
  intro ls H locs hl hR ho
  refine va_copyi (D := E.1) (ty := .int) hC.1.1 hC.1.2 (by rw [hl.1, hC.2.2.2.2.2.1]; exact hC.2.1.1) hC.2.1.2 (hC.2.2.1 _ hlk) (hC.2.2.1 _ hna) (hC.2.2.1 _ hst) (hC.2.2.1 _ hini) hC.2.2.2.1.1 hR.2.2 (mW_D I R L) (hR.S ho) q0 q1 0 0 (mE_int hq0 hT0 I R L) (mE_int hq1 hT1 I R L) rfl rfl rfl h1 h2 h3 h4 h5 (fun _ _ => rfl) (by rw [hC.2.2.2.2.2.1]; exact hfr) (by rw [hC.2.2.2.2.2.1]; exact hlo) hd (fun H1 locs1 hP hD hS => ?_)
  rw [mW_set hq1 (I' := fun b => if b = q1 then va_cpy (I q0) (I q1) sp.toNatClampNeg dp.toNatClampNeg c9.toNatClampNeg else I b) (R' := R) (L' := L) (by simp [mE, hT1]) (fun b hb => by simp [hb]) (fun _ _ => rfl) (fun _ _ => rfl)] at hP
  exact kk _ rfl ls H1 locs1 hl (mRl.of (fun h => (hx h).elim) hS hP) hS.2.2
end MORE
