/-! ===== THE MACHINE LAYER: the heap that the law makes, as tables of numbers ===== -/
/-- (class ids and slots, the array classes of int, byte, boolean, long, the heap at the law's start, where the texts lie) -/
abbrev mEn : Type := va_G × (ClassId × ClassId × ClassId × ClassId) × Heap × (Nat → Nat)
abbrev mIT : Type := Nat → Nat → Int32
abbrev mRT : Type := Nat → Nat → Option Nat
abbrev mLT : Type := Nat → Nat → Int64
def mB (E : mEn) : Nat := E.2.2.1.size
def mA (E : mEn) : Nat → Prop := fun q => mB E ≤ q
def mTs (E : mEn) : List (ClassId × FieldType) := [(E.2.1.1, .int), (E.2.1.2.1, .byte), (E.2.1.2.2.1, .boolean), (E.2.1.2.2.2, .long)]
/-- the cells in the order of their making: 0 and the number of the kind of object; 1 to 4 (ints, bytes, truths, longs) and the length -/
def mTL : List (Nat × Nat) := [(0, 11), (0, 6), (2, 700), (0, 5), (1, 10), (1, 10), (1, 8), (0, 8), (1, 700), (1, 700), (1, 80), (1, 7), (1, 40), (0, 8), (1, 700), (1, 700), (1, 80), (1, 7), (1, 40), (0, 9), (1, 53), (1, 3), (0, 5), (1, 10), (1, 10), (1, 8), (0, 8), (1, 700), (1, 700), (1, 80), (1, 7), (1, 40), (0, 8), (1, 700), (1, 700), (1, 80), (1, 7), (1, 40), (0, 9), (1, 53), (0, 9), (1, 53), (0, 0), (1, 2120), (0, 4), (1, 8), (1, 8), (1, 8), (0, 9), (1, 53), (0, 0), (1, 2120), (0, 4), (1, 8), (1, 8), (1, 8), (0, 1), (0, 9), (1, 53), (1, 610), (1, 61), (1, 61), (0, 7), (1, 6), (1, 12), (1, 72), (0, 2), (1, 80), (1, 1024), (0, 3), (1, 10), (1, 11), (0, 10), (0, 9), (1, 53), (0, 12), (1, 10), (1, 10), (1, 8), (1, 1400), (1, 700), (1, 3), (1, 10), (1, 10), (1, 8), (1, 53), (1, 1400), (1, 950), (3, 9), (1, 106), (1, 2120), (1, 7), (1, 950), (1, 6), (1, 10), (1, 6), (1, 1000), (1, 80), (1, 9216), (1, 24), (1, 31), (1, 3100), (1, 53), (1, 2120), (1, 24), (4, 1)]
def mT (k : Nat) : Nat × Nat := mTL.getD k (9, 0)
def mTy : Nat → Nat → FieldType := fun ci => match ci with
  | 0 => tyX0
  | 1 => tyX1
  | 2 => tyX2
  | 3 => tyX3
  | 4 => tyX4
  | 5 => tyX5
  | 6 => tyX6
  | 7 => tyX7
  | 8 => tyX8
  | 9 => tyX9
  | 10 => tyX10
  | 11 => tyX11
  | _ => tyX12
def mNf (ci : Nat) : Nat := ([3, 5, 5, 6, 4, 12, 17, 5, 7, 1, 2, 16, 66] : List Nat).getD ci 0
def mV (E : mEn) (ty : FieldType) (x : Int32) (r : Option Nat) (w : Int64) : Value := match ty with
  | .int => .int x
  | .boolean => .int x
  | .long => .long w
  | _ => match r with
    | none => .null
    | some k => .ref (mB E + k)
def mFs (E : mEn) (ci : Nat) (i : Nat → Int32) (r : Nat → Option Nat) (w : Nat → Int64) : List Value := (List.range (mNf ci)).map fun j => mV E (mTy ci j) (i j) (r j) (w j)
def mE (E : mEn) (I : mIT) (R : mRT) (L : mLT) (k : Nat) : va_E := match (mT k).1 with
  | 0 => .inr ((mT k).2, mFs E (mT k).2 (I k) (R k) (L k))
  | 1 => .inl (E.2.1.1, (mT k).2, .inl (I k))
  | 2 => .inl (E.2.1.2.1, (mT k).2, .inl (I k))
  | 3 => .inl (E.2.1.2.2.1, (mT k).2, .inl (I k))
  | _ => .inl (E.2.1.2.2.2, (mT k).2, .inr (.inl (L k)))
def mW (E : mEn) (n : Nat) (I : mIT) (R : mRT) (L : mLT) : va_W := (List.range n).map fun k => (mB E + k, mE E I R L k)
def mU (I : mIT) (k j : Nat) (v : Int32) : mIT := fun a b => if a = k ∧ b = j then v else I a b
def mUR (R : mRT) (k j : Nat) (v : Option Nat) : mRT := fun a b => if a = k ∧ b = j then v else R a b
def mUL (L : mLT) (k j : Nat) (v : Int64) : mLT := fun a b => if a = k ∧ b = j then v else L a b
/-- the heap holds these tables: n cells (no more of them, if x is 0); what was there at the start is as it was -/
def mRl (E : mEn) (n x : Nat) (I : mIT) (R : mRT) (L : mLT) (H : Heap) : Prop := (mB E ≤ H.size ∧ (x = 0 → H.size = mB E + n)) ∧ (∀ q, q < mB E → H[q]? = E.2.2.1[q]?) ∧ va_P E.1 vwCl (mW E n I R L) H
theorem mW_at {E : mEn} {n k : Nat} (h : k < n) (I : mIT) (R : mRT) (L : mLT) : (mW E n I R L)[k]? = some (mB E + k, mE E I R L k) := by
  simp [mW, h]
theorem mW_D {E : mEn} {n : Nat} (I : mIT) (R : mRT) (L : mLT) : va_D (mA E) (mW E n I R L) := by
  have key : ∀ (i : Nat) (p : Nat × va_E), (mW E n I R L)[i]? = some p → p.1 = mB E + i := by
    intro i p h
    by_cases hi : i < n
    · rw [mW_at hi] at h
      cases h
      rfl
    · have h0 : (mW E n I R L)[i]? = none := by simp [mW]; omega
      rw [h0] at h
      cases h
  refine ⟨fun i j p q hp hq he => ?_, fun k q hq => ?_⟩
  · have h1 := key i p hp
    have h2 := key j q hq
    omega
  · have h1 := key k q hq
    show mB E ≤ q.1
    omega
theorem mU_same (I : mIT) (k j : Nat) (v : Int32) : mU I k j v k = upd (I k) j v := by
  funext b
  simp [mU, upd]
theorem mU_other {I : mIT} {k j a : Nat} {v : Int32} (h : a ≠ k) : mU I k j v a = I a := by
  funext b
  simp [mU, h]
theorem mUR_other {R : mRT} {k j a : Nat} {v : Option Nat} (h : a ≠ k) : mUR R k j v a = R a := by
  funext b
  simp [mUR, h]
theorem mUL_other {L : mLT} {k j a : Nat} {v : Int64} (h : a ≠ k) : mUL L k j v a = L a := by
  funext b
  simp [mUL, h]
theorem mUL_same (L : mLT) (k j : Nat) (v : Int64) : mUL L k j v k = vp_updL (L k) j v := by
  funext b
  simp [mUL, vp_updL]
theorem mW_set {E : mEn} {n k : Nat} (h : k < n) {I I' : mIT} {R R' : mRT} {L L' : mLT} {e : va_E} (he : mE E I' R' L' k = e) (hI : ∀ a, a ≠ k → I' a = I a) (hR : ∀ a, a ≠ k → R' a = R a) (hL : ∀ a, a ≠ k → L' a = L a) :
    (mW E n I R L).set k (mB E + k, e) = mW E n I' R' L' := by
  apply List.ext_getElem?
  intro i
  by_cases hik : i = k
  · subst hik
    rw [mW_at h, ← he]
    simp [mW, h]
  · rw [List.getElem?_set_ne (fun z => hik z.symm)]
    by_cases hi : i < n
    · rw [mW_at hi, mW_at hi]
      simp only [mE, hI i hik, hR i hik, hL i hik]
    · have h1 : (List.range n)[i]? = none := by simp; omega
      simp [mW, h1]
theorem mFs_at {E : mEn} {ci j : Nat} (h : j < mNf ci) (i : Nat → Int32) (r : Nat → Option Nat) (w : Nat → Int64) : (mFs E ci i r w)[j]? = some (mV E (mTy ci j) (i j) (r j) (w j)) := by
  simp [mFs, h]
theorem mFs_len {E : mEn} {ci : Nat} (i : Nat → Int32) (r : Nat → Option Nat) (w : Nat → Int64) : (mFs E ci i r w).length = mNf ci := by
  simp [mFs]
theorem mFs_set {E : mEn} {ci j : Nat} {i i' : Nat → Int32} {r r' : Nat → Option Nat} {w w' : Nat → Int64} {v : Value} (hv : mV E (mTy ci j) (i' j) (r' j) (w' j) = v) (hi : ∀ b, b ≠ j → i' b = i b) (hr : ∀ b, b ≠ j → r' b = r b) (hw : ∀ b, b ≠ j → w' b = w b) :
    (mFs E ci i r w).set j v = mFs E ci i' r' w' := by
  apply List.ext_getElem?
  intro b
  by_cases hb : b = j
  · subst hb
    by_cases hl : b < mNf ci
    · rw [mFs_at hl, hv]
      simp [mFs, hl]
    · simp [mFs, hl]
  · rw [List.getElem?_set_ne (fun z => hb z.symm)]
    by_cases hl : b < mNf ci
    · rw [mFs_at hl, mFs_at hl, hi b hb, hr b hb, hw b hb]
    · simp [mFs, hl]
theorem mRl.z {E : mEn} {n x : Nat} {I : mIT} {R : mRT} {L : mLT} {H H1 : Heap} (h : mRl E n x I R L H) (e : H1.size = H.size) : mB E ≤ H1.size ∧ (x = 0 → H1.size = mB E + n) := ⟨by rw [e]; exact h.1.1, fun q => e.trans (h.1.2 q)⟩
theorem mRl.S {E : mEn} {n x : Nat} {I : mIT} {R : mRT} {L : mLT} {H : Heap} (h : mRl E n x I R L H) {locs : List Loc} (hl : ∀ w ∈ locs, mA E w.base) : va_S (mA E) E.2.2.1 H locs :=
  ⟨h.1.1, fun q hq _ => h.2.1 q hq, hl⟩
theorem mRl.of {E : mEn} {n x : Nat} {I : mIT} {R : mRT} {L : mLT} {H : Heap} {locs : List Loc} (hs : x = 0 → H.size = mB E + n) (hS : va_S (mA E) E.2.2.1 H locs) (hP : va_P E.1 vwCl (mW E n I R L) H) : mRl E n x I R L H :=
  ⟨⟨hS.1, hs⟩, fun q hq => hS.2.1 q hq (fun z => by have z' : mB E ≤ q := z; omega), hP⟩
/-- the texts: class, entry, text -/
def mSL : List (String × Nat × String) := [("RootTower", 110, "the tape has not so many bytes"), ("RootTower$Reader", 112, "turnip"), ("RootTower$Reader", 118, "swede"), ("RootTower$Reader", 120, "mangold"), ("RootTower$Reader", 122, "beet"), ("RootTower$Reader", 124, "weather"), ("RootTower$Reader", 126, "lasts"), ("RootTower$Reader", 128, "tune"), ("RootTower$Reader", 130, "method"), ("RootTower$Reader", 132, "note"), ("RootTower$Reader", 134, "grows"), ("RootTower$Reader", 250, "or"), ("RootTower$Reader", 252, "and"), ("RootTower$Reader", 232, "not"), ("RootTower$Reader", 136, "size"), ("RootTower$Reader", 138, "hollow"), ("RootTower$Reader", 140, "kind"), ("RootTower$Reader", 141, "soft"), ("RootTower$Reader", 143, "day"), ("RootTower$Reader", 145, "hung"), ("RootTower", 182, "no such count"), ("RootTower", 416, "no such root"), ("RootTower", 210, "a root has no such thing"), ("RootTower", 418, "no such hook"), ("RootTower", 218, "the tune has no such note"), ("RootTower", 422, "the method has no such change"), ("RootTower", 426, "not 0 to 60 days"), ("RootTower", 282, "not so many hang"), ("RootTower", 428, "not 0 to 999 changes, or no method"), ("RootTower", 297, "no such place in the row"), ("RootTower", 333, "no such answer of what was eaten"), ("RootTower", 424, "no such answer"), ("RootTower", 360, "it takes two that hang"), ("RootTower", 369, "no such answer of towers"), ("RootTower", 420, "no such note")]
def mNL : List (String × Nat × MethodName × String) := [(RX11, 9, yX6_init, RX11), (RX6, 48, yX5_init, RX11), (RX5, 42, yX8_init, RX11), (RX5, 52, yX9_init, RX11), (RX11, 26, yX5_init, RX11), (RX11, 33, yX9_init, RX11), (RX11, 40, yX0_init, RX11), (RX11, 47, yX4_init, RX11), (RX11, 67, yX1_init, RX11), (RX1, 11, yX9_init, RX11), (RX11, 74, yX7_init, RX11), (RX11, 81, yX2_init, RX11), (RX11, 88, yX3_init, RX11), (RX11, 95, yX10_init, RX11), (RX10, 11, yX9_init, RX11), (RX9, 73, yX11_within, RX11), (RX7, 63, yX11_isChangeNumber, RX11), (RX6, 183, yX11_isChangeNumber, RX11)]
def mSB : List (List Int32) := [[116, 104, 101, 32, 116, 97, 112, 101, 32, 104, 97, 115, 32, 110, 111, 116, 32, 115, 111, 32, 109, 97, 110, 121, 32, 98, 121, 116, 101, 115], [116, 117, 114, 110, 105, 112], [115, 119, 101, 100, 101], [109, 97, 110, 103, 111, 108, 100], [98, 101, 101, 116], [119, 101, 97, 116, 104, 101, 114], [108, 97, 115, 116, 115], [116, 117, 110, 101], [109, 101, 116, 104, 111, 100], [110, 111, 116, 101], [103, 114, 111, 119, 115], [111, 114], [97, 110, 100], [110, 111, 116], [115, 105, 122, 101], [104, 111, 108, 108, 111, 119], [107, 105, 110, 100], [115, 111, 102, 116], [100, 97, 121], [104, 117, 110, 103], [110, 111, 32, 115, 117, 99, 104, 32, 99, 111, 117, 110, 116], [110, 111, 32, 115, 117, 99, 104, 32, 114, 111, 111, 116], [97, 32, 114, 111, 111, 116, 32, 104, 97, 115, 32, 110, 111, 32, 115, 117, 99, 104, 32, 116, 104, 105, 110, 103], [110, 111, 32, 115, 117, 99, 104, 32, 104, 111, 111, 107], [116, 104, 101, 32, 116, 117, 110, 101, 32, 104, 97, 115, 32, 110, 111, 32, 115, 117, 99, 104, 32, 110, 111, 116, 101], [116, 104, 101, 32, 109, 101, 116, 104, 111, 100, 32, 104, 97, 115, 32, 110, 111, 32, 115, 117, 99, 104, 32, 99, 104, 97, 110, 103, 101], [110, 111, 116, 32, 48, 32, 116, 111, 32, 54, 48, 32, 100, 97, 121, 115], [110, 111, 116, 32, 115, 111, 32, 109, 97, 110, 121, 32, 104, 97, 110, 103], [110, 111, 116, 32, 48, 32, 116, 111, 32, 57, 57, 57, 32, 99, 104, 97, 110, 103, 101, 115, 44, 32, 111, 114, 32, 110, 111, 32, 109, 101, 116, 104, 111, 100], [110, 111, 32, 115, 117, 99, 104, 32, 112, 108, 97, 99, 101, 32, 105, 110, 32, 116, 104, 101, 32, 114, 111, 119], [110, 111, 32, 115, 117, 99, 104, 32, 97, 110, 115, 119, 101, 114, 32, 111, 102, 32, 119, 104, 97, 116, 32, 119, 97, 115, 32, 101, 97, 116, 101, 110], [110, 111, 32, 115, 117, 99, 104, 32, 97, 110, 115, 119, 101, 114], [105, 116, 32, 116, 97, 107, 101, 115, 32, 116, 119, 111, 32, 116, 104, 97, 116, 32, 104, 97, 110, 103], [110, 111, 32, 115, 117, 99, 104, 32, 97, 110, 115, 119, 101, 114, 32, 111, 102, 32, 116, 111, 119, 101, 114, 115], [110, 111, 32, 115, 117, 99, 104, 32, 110, 111, 116, 101]]
def mS1 (adK adV : Nat → Nat) (A : Nat → Prop) (U : State) (H : Heap) : Prop := ∀ i : Nat, i < 35 → va_O "java/lang/String" (adK i) A U H ∧ va_OF "java/lang/String" "coder" "B" (.int 0) (adK i) A U H ∧ va_OF "java/lang/String" "value" "[B" (.ref (adV i)) (adK i) A U H ∧ va_T .byte (adV i) (mSB.getD i []).length (fun j => .int ((mSB.getD i []).getD j 0)) A U H
theorem mS1.moved {adK adV : Nat → Nat} {A : Nat → Prop} {u U : State} {H : Heap} (hvm : u.vm.Alike U.vm) (h : mS1 adK adV A u H) : mS1 adK adV A U H :=
  fun i hi => ⟨va_O.moved hvm (h i hi).1, va_OF.moved hvm (h i hi).2.1, va_OF.moved hvm (h i hi).2.2.1, va_T.moved hvm (h i hi).2.2.2⟩
def mSt (E : mEn) (U : State) : Prop := (∀ (j : Nat) (q : String × Nat × String), mSL[j]? = some q → vk_R q.1 q.2.1 q.2.2 (E.2.2.2 j) U) ∧
  mS1 E.2.2.2 (fun i => E.2.2.2 (100 + i)) (mA E) U E.2.2.1 ∧ va_Z "java/lang/String" "COMPACT_STRINGS" "Z" (.int 1) (mA E) U E.2.2.1 ∧ va_Zq "jdk/internal/util/Preconditions" "SIOOBE_FORMATTER" "Ljava/util/function/BiFunction;" (mA E) U E.2.2.1
def mNw (U : State) : Prop := (∀ q ∈ mNL, va_Nw (.methodLinkNest q.1 q.2.1 q.2.2.1 q.2.2.2) U) ∧ va_Nw (.castable "java/lang/IllegalArgumentException" "java/lang/IllegalArgumentException") U ∧ va_Nw (.castable "java/util/NoSuchElementException" "java/util/NoSuchElementException") U ∧ va_Nw (.declares (Bundle.initS "java/lang/RuntimeException")) U ∧ va_Nw (.declares (Bundle.initS "java/lang/Exception")) U ∧ va_Nw (.declares (Bundle.initS "java/lang/Throwable")) U
theorem mNw.warm {s U : State} (hW : s.WarmedH U.vm) (h : mNw s) : mNw U := ⟨fun q hq => va_Nw.warmM hW (h.1 q hq), va_Nw.warmC hW h.2.1, va_Nw.warmC hW h.2.2.1, va_Nw.warmD hW h.2.2.2.1, va_Nw.warmD hW h.2.2.2.2.1, va_Nw.warmD hW h.2.2.2.2.2⟩
def mKw (E : mEn) (U : State) : Prop := va_K E.1 vwCl (mTs E) U ∧ vx_Zq Bundle.tN "UNASSIGNED_STACK" Bundle.steD (mA E) U E.2.2.1 ∧ vx_Zq Bundle.tN "SUPPRESSED_SENTINEL" Bundle.listD (mA E) U E.2.2.1 ∧ mSt E U ∧ mNw U
theorem mSt.warm {E : mEn} {s U : State} (hW : s.WarmedH U.vm) (h : mSt E s) : mSt E U := by
  obtain ⟨h1, h2, h3, h4⟩ := h
  exact ⟨fun j q hq => vk_R.warm hW (h1 j q hq), mS1.moved hW.alike h2, va_Z.moved hW.alike h3, va_Zq.moved hW.alike h4⟩
theorem mKw.warm {E : mEn} {s U : State} (hW : s.WarmedH U.vm) (h : mKw E s) : mKw E U :=
  ⟨va_K.moved hW.alike h.1, vx_Zq.moved hW.alike h.2.1, vx_Zq.moved hW.alike h.2.2.1, h.2.2.2.1.warm hW, h.2.2.2.2.warm hW⟩
/-- a method: name, code, locals, what it returns, frames and words of its callees -/
abbrev mMt : Type := MethodName × ByteArray × Nat × Option FieldType × Nat × Nat
def mPc (E : mEn) (av : List Value) (n x : Nat) (I : mIT) (R : mRT) (L : mLT) : Array Value → State → Prop := fun v U => v = av.toArray ∧ mRl E n x I R L U.heap ∧ mKw E U
def mQc (E : mEn) (post : Option Value → Nat → Nat → mIT → mRT → mLT → Prop) : Array Value → State → Outcome → State → Prop := fun _ _ oc t => ∃ (r : Option Value) (n x : Nat) (I : mIT) (R : mRT) (L : mLT), oc = .returned r ∧ post r n x I R L ∧ mRl E n x I R L t.heap
def mXc (E : mEn) (px : String → Nat → Nat → mIT → mRT → mLT → Prop) : String → State → State → Prop := fun en _ t => ∃ (n x : Nat) (I : mIT) (R : mRT) (L : mLT), px en n x I R L ∧ mRl E n x I R L t.heap
def mRm (M : mMt) (mc ms : Nat) : Room := { frames := M.2.2.2.2.1, cells := mc, slots := ms, locals := M.2.2.2.2.2 }
def mWs (M : mMt) : List Cond := Cond.code M.1 M.2.1 M.2.2.1 M.2.2.2.1 :: tbG
/-- the method, called so, returns so -/
def mOk (l : Launch) (E : mEn) (M : mMt) (av : List Value) (n x : Nat) (I : mIT) (R : mRT) (L : mLT) (mc ms : Nat) (post : Option Value → Nat → Nat → mIT → mRT → mLT → Prop) : Prop :=
  Met l M.1 (mWs M) (mRm M mc ms) (mPc E av n x I R L) (mQc E post) mc ms (mA E)
/-- .. returns or throws -/
def mOx (l : Launch) (E : mEn) (M : mMt) (av : List Value) (n x : Nat) (I : mIT) (R : mRT) (L : mLT) (mc ms : Nat) (post : Option Value → Nat → Nat → mIT → mRT → mLT → Prop) (px : String → Nat → Nat → mIT → mRT → mLT → Prop) : Prop :=
  vx_Met l M.1 (mWs M) (mRm M mc ms) (mPc E av n x I R L) (mQc E post) (mXc E px) mc ms (mA E)
/-- where a frame stands: program, launch, environment, state at its entry, method, arguments, frames below, its code, its method's row, cells and slots it may make, what it is to come to -/
abbrev mXT : Type := Program × Launch × Env × State × MethodId × Array Value × List Frame × Method × Code × mMt × (Nat × Nat) × (State → Prop)
def mG (X : mXT) (E : mEn) (pc : Nat) (lv : List (Nat × Value)) (st : List Value) (n x : Nat) (I : mIT) (R : mRT) (L : mLT) (k z : Nat) : Prop :=
  ∀ (ls : Array Slot) (H : Heap) (locs : List Loc), lv_has ls X.2.2.2.2.2.2.2.2.2.1.2.2.1 lv → mRl E n x I R L H → (∀ w ∈ locs, mA E w.base) →
    W X.1 X.2.1 X.2.2.1 (mRm X.2.2.2.2.2.2.2.2.2.1 X.2.2.2.2.2.2.2.2.2.2.1.1 X.2.2.2.2.2.2.2.2.2.2.1.2) X.2.2.2.1 X.2.2.2.2.1 X.2.2.2.2.2.1 X.2.2.2.2.2.2.1 X.2.2.2.2.2.2.2.1 X.2.2.2.2.2.2.2.2.1 H locs k z X.2.2.2.2.2.2.2.2.2.2.2 (F0 X.2.2.2.2.1 pc ls st)
/-- what is known of a frame's method -/
def mC (X : mXT) (E : mEn) (M : mMt) (own : String) (cc : ByteArray) : Prop :=
  (X.1.tables.exec = Jvm.exec ∧ X.2.2.2.2.2.2.2.2.1.code = cc) ∧ (X.2.2.2.2.2.2.2.2.1.maxLocals = M.2.2.1 ∧ X.2.2.2.1.vm.findClass own = some X.2.2.2.2.1.cls) ∧ (∀ w ∈ tbG, w.before X.2.2.2.2.2.1 X.2.2.2.1 = true) ∧ mKw E X.2.2.2.1 ∧
  (X.2.2.2.2.2.2.2.1.locks = false ∧ X.2.2.2.2.2.2.2.1.sig.returnType = M.2.2.2.1 ∧ X.2.2.2.2.2.2.2.1.name = M.1.name) ∧ X.2.2.2.2.2.2.2.2.2.1 = M ∧ (∀ q ∈ X.2.2.2.2.2.2.2.2.1.exceptionTable.toList, False) ∧ X.2.1.stackTraces = false ∧ (∃ (n x : Nat) (I : mIT) (R : mRT) (L : mLT), mRl E n x I R L X.2.2.2.1.heap)
/-- what the frame is to come to: a return -/
def mEd (X : mXT) (E : mEn) (mc ms : Nat) (post : Option Value → Nat → Nat → mIT → mRT → mLT → Prop) : Prop :=
  X.2.2.2.2.2.2.2.2.2.2.1 = (mc, ms) ∧ X.2.2.2.2.2.2.2.2.2.2.2 = MQ X.2.2.2.2.2.2.1 (mQc E post) X.2.2.2.2.2.1 X.2.2.2.1 mc ms (mA E)
def mEx (X : mXT) (E : mEn) (mc ms : Nat) (post : Option Value → Nat → Nat → mIT → mRT → mLT → Prop) (px : String → Nat → Nat → mIT → mRT → mLT → Prop) : Prop :=
  X.2.2.2.2.2.2.2.2.2.2.1 = (mc, ms) ∧ X.2.2.2.2.2.2.2.2.2.2.2 = vx_MQ X.2.2.2.2.2.2.1 (mQc E post) (mXc E px) X.2.2.2.2.2.1 X.2.2.2.1 mc ms (mA E)
theorem mOk_of {l : Launch} {E : mEn} {M : mMt} {av : List Value} {n x : Nat} {I : mIT} {R : mRT} {L : mLT} {mc ms : Nat} {post : Option Value → Nat → Nat → mIT → mRT → mLT → Prop} (hst : l.stackTraces = false) (hy : plainName M.1.cls = true) (hn : (lg_sl av).length ≤ M.2.2.1)
    (body : ∀ X : mXT, mC X E M M.1.cls M.2.1 → mEd X E mc ms post → X.2.1 = l → mG X E 0 (lv_args 0 av) [] n x I R L 0 0) : mOk l E M av n x I R L mc ms post := by
  obtain ⟨y, cc, nL, ret, F, Lc⟩ := M
  refine Met.ofW (cc := cc) (maxL := nL) (ret := ret) hy rfl ?_
  intro p e s m args below meth c s₁ B hml hv
  obtain ⟨rfl, hRl, hK⟩ := hv
  have hts := atoms_spec (ws := mWs (y, cc, nL, ret, F, Lc)) B.pre
  have hex : ∀ q ∈ c.exceptionTable.toList, False := by
    obtain ⟨meth9, c9, h1, h2, -, -, -, -, h7, -⟩ := Cond.code_spec B.named (hts _ List.mem_cons_self)
    cases Option.some.inj (h1.symm.trans B.method)
    cases Option.some.inj (h2.symm.trans (Stand.of_body B).code)
    intro q hq
    rw [Array.isEmpty_iff.mp h7] at hq
    cases hq
  have hl := lv_entry av (n := nL) hn
  rw [lg_entry_eq]
  exact body (p, l, e, s, m, av.toArray, below, meth, c, (y, cc, nL, ret, F, Lc), (mc, ms), _)
    ⟨⟨B.exec, B.bytes⟩, ⟨hml, findClass_of_methodNamed B.named⟩, fun w hw => hts w (List.mem_cons_of_mem _ hw), hK, ⟨B.notSynchronized, B.returns, (name_of_methodNamed B.named B.method).1⟩, rfl, hex, hst, ⟨_, _, _, _, _, hRl⟩⟩ ⟨rfl, rfl⟩ rfl _ _ [] hl hRl (fun w hw => nomatch hw)
theorem mOx_of {l : Launch} {E : mEn} {M : mMt} {av : List Value} {n x : Nat} {I : mIT} {R : mRT} {L : mLT} {mc ms : Nat} {post : Option Value → Nat → Nat → mIT → mRT → mLT → Prop} {px : String → Nat → Nat → mIT → mRT → mLT → Prop} (hst : l.stackTraces = false) (hy : plainName M.1.cls = true) (hn : (lg_sl av).length ≤ M.2.2.1)
    (body : ∀ X : mXT, mC X E M M.1.cls M.2.1 → mEx X E mc ms post px → X.2.1 = l → mG X E 0 (lv_args 0 av) [] n x I R L 0 0) : mOx l E M av n x I R L mc ms post px := by
  obtain ⟨y, cc, nL, ret, F, Lc⟩ := M
  refine vx_ofW (cc := cc) (maxL := nL) (ret := ret) hy rfl ?_
  intro p e s m args below meth c s₁ B hml hex hv
  obtain ⟨rfl, hRl, hK⟩ := hv
  have hts := atoms_spec (ws := mWs (y, cc, nL, ret, F, Lc)) B.pre
  have hl := lv_entry av (n := nL) hn
  rw [lg_entry_eq]
  exact body (p, l, e, s, m, av.toArray, below, meth, c, (y, cc, nL, ret, F, Lc), (mc, ms), _)
    ⟨⟨B.exec, B.bytes⟩, ⟨hml, findClass_of_methodNamed B.named⟩, fun w hw => hts w (List.mem_cons_of_mem _ hw), hK, ⟨B.notSynchronized, B.returns, (name_of_methodNamed B.named B.method).1⟩, rfl, hex, hst, ⟨_, _, _, _, _, hRl⟩⟩ ⟨rfl, rfl⟩ rfl _ _ [] hl hRl (fun w hw => nomatch hw)
