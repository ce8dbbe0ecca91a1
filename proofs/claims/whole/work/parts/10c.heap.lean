/-- a field's words: class own, entry index, kind ci, field j, final or not -/
def mFd (own : String) (ci index j : Nat) (fin : Bool) : Prop := ∃ (C : String) (T : u_T) (N : Nat), vwCl[ci]? = some (C, T, N) ∧ j < N ∧ N = mNf ci ∧ (T j).1 = C ∧ Cond.fieldLink own index C (T j).2.1 (T j).2.2.1 ∈ tbG ∧ (∀ w ∈ u_ws C T N, w ∈ tbG) ∧
  (T j).2.2.2 = fin ∧ (∀ b, b < N → parseFieldDescriptor (T b).2.2.1 = some (mTy ci b)) ∧ (∀ b, b < N → ∀ d, d < N → b ≠ d → (T b).2.1 ≠ (T d).2.1)
theorem mE_obj {E : mEn} {n q ci : Nat} (hq : q < n) (hT : mT q = (0, ci)) (I : mIT) (R : mRT) (L : mLT) : (mW E n I R L)[q]? = some (mB E + q, .inr (ci, mFs E ci (I q) (R q) (L q))) := by
  rw [mW_at hq]
  simp [mE, hT]
theorem mE_int {E : mEn} {n q len : Nat} (hq : q < n) (hT : mT q = (1, len)) (I : mIT) (R : mRT) (L : mLT) : (mW E n I R L)[q]? = some (mB E + q, .inl (E.2.1.1, len, .inl (I q))) := by
  rw [mW_at hq]
  simp [mE, hT]
theorem mE_byte {E : mEn} {n q len : Nat} (hq : q < n) (hT : mT q = (2, len)) (I : mIT) (R : mRT) (L : mLT) : (mW E n I R L)[q]? = some (mB E + q, .inl (E.2.1.2.1, len, .inl (I q))) := by
  rw [mW_at hq]
  simp [mE, hT]
theorem mE_bool {E : mEn} {n q len : Nat} (hq : q < n) (hT : mT q = (3, len)) (I : mIT) (R : mRT) (L : mLT) : (mW E n I R L)[q]? = some (mB E + q, .inl (E.2.1.2.2.1, len, .inl (I q))) := by
  rw [mW_at hq]
  simp [mE, hT]
theorem mE_long {E : mEn} {n q len : Nat} (hq : q < n) (hT : mT q = (4, len)) (I : mIT) (R : mRT) (L : mLT) : (mW E n I R L)[q]? = some (mB E + q, .inl (E.2.1.2.2.2, len, .inr (.inl (L q)))) := by
  rw [mW_at hq]
  simp [mE, hT]
section HEAP
variable {X : mXT} {E : mEn} {M : mMt} {own : String} {cc : ByteArray} {pc : Nat} {lv : List (Nat × Value)} {st : List Value} {n x : Nat} {I : mIT} {R : mRT} {L : mLT} {k z : Nat}
theorem g_geti (hC : mC X E M own cc) {q ci index j : Nat} {fin : Bool} (hw : mFd own ci index j fin) (hT : mT q = (0, ci)) (hq : q < n) (hty : mTy ci j = .int ∨ mTy ci j = .boolean) (hd : decode cc pc = .ok (.getfield index, 3)) (kk : mG X E (pc + 3) lv (.int (I q j) :: st) n x I R L k z) : mG X E pc lv (.ref (mB E + q) :: st) n x I R L k z := by
  intro ls H locs hl hR ho
  obtain ⟨C, T, N, h1, h2, h3, h4, h5, h6, -⟩ := hw
  exact va_get (D := E.1) (ci := ci) (v := .int (I q j)) (C := C) (T := T) (N := N) hC.1.1 hC.1.2 hC.2.2.1 h6 hC.2.1.2 hC.2.2.2.1.1 hR.2.2 q (mE_obj hq hT I R L) h1 j h2 (hC.2.2.1 _ h5) (fun y h => by rw [h4] at h; exact h) (by rw [mFs_at (by rw [← h3]; exact h2)]; rcases hty with h | h <;> rw [h] <;> rfl) hd (kk ls H locs hl hR ho)
theorem g_getr (hC : mC X E M own cc) {q ci index j : Nat} {r : Nat} {fin : Bool} (hw : mFd own ci index j fin) (hT : mT q = (0, ci)) (hq : q < n) {C0 : String} {t0 : FieldType} (hty : mTy ci j = .object C0 ∨ mTy ci j = .array t0) (hr : R q j = some r) (hd : decode cc pc = .ok (.getfield index, 3)) (kk : mG X E (pc + 3) lv (.ref (mB E + r) :: st) n x I R L k z) : mG X E pc lv (.ref (mB E + q) :: st) n x I R L k z := by
  intro ls H locs hl hR ho
  obtain ⟨C, T, N, h1, h2, h3, h4, h5, h6, -⟩ := hw
  exact va_get (D := E.1) (ci := ci) (v := .ref (mB E + r)) (C := C) (T := T) (N := N) hC.1.1 hC.1.2 hC.2.2.1 h6 hC.2.1.2 hC.2.2.2.1.1 hR.2.2 q (mE_obj hq hT I R L) h1 j h2 (hC.2.2.1 _ h5) (fun y h => by rw [h4] at h; exact h) (by rw [mFs_at (by rw [← h3]; exact h2)]; rcases hty with h | h <;> rw [h, hr] <;> rfl) hd (kk ls H locs hl hR ho)
theorem g_getl (hC : mC X E M own cc) {q ci index j : Nat} {fin : Bool} (hw : mFd own ci index j fin) (hT : mT q = (0, ci)) (hq : q < n) (hty : mTy ci j = .long) (hd : decode cc pc = .ok (.getfield index, 3)) (kk : mG X E (pc + 3) lv (.long (L q j) :: st) n x I R L k z) : mG X E pc lv (.ref (mB E + q) :: st) n x I R L k z := by
  intro ls H locs hl hR ho
  obtain ⟨C, T, N, h1, h2, h3, h4, h5, h6, -⟩ := hw
  exact va_get (D := E.1) (ci := ci) (v := .long (L q j)) (C := C) (T := T) (N := N) hC.1.1 hC.1.2 hC.2.2.1 h6 hC.2.1.2 hC.2.2.2.1.1 hR.2.2 q (mE_obj hq hT I R L) h1 j h2 (hC.2.2.1 _ h5) (fun y h => by rw [h4] at h; exact h) (by rw [mFs_at (by rw [← h3]; exact h2)]; rw [hty] <;> rfl) hd (kk ls H locs hl hR ho)
theorem mz_put {ci index j : Nat} {fin : Bool} (hC : mC X E M own cc) (hw : mFd own ci index j fin) {q : Nat} (hT : mT q = (0, ci)) (hq : q < n) {v : Value} (hf : fin = false ∨ (M.1.name = "<init>" ∧ (vwCl.getD ci ("", fun _ => ("", "", "", false), 0)).1 = own)) (hn : narrow (mTy ci j) v = v) (hfit : fits (mTy ci j) v = true)
    (hd : decode cc pc = .ok (.putfield index, 3)) {ls : Array Slot} {H : Heap} {locs : List Loc} (hR : mRl E n x I R L H) (ho : ∀ w ∈ locs, mA E w.base) {I' : mIT} {R' : mRT} {L' : mLT} (hV : (mFs E ci (I q) (R q) (L q)).set j v = mFs E ci (I' q) (R' q) (L' q)) (hI : ∀ b, b ≠ q → I' b = I b) (hR' : ∀ b, b ≠ q → R' b = R b) (hL : ∀ b, b ≠ q → L' b = L b)
    {p : Program} {l : Launch} {e : Env} {Rm : Room} {s : State} {m : MethodId} {args : Array Value} {below : List Frame} {meth : Method} {c : Code} {Q : State → Prop} (hx : p.tables.exec = Jvm.exec) (hb : c.code = cc) (hown : s.vm.findClass own = some m.cls) (hts : ∀ w ∈ tbG, w.before args s = true) (hK : va_K E.1 vwCl (mTs E) s) (hnm : meth.name = M.1.name)
    (kk : ∀ (H1 : Heap) (locs1 : List Loc), mRl E n x I' R' L' H1 → (∀ w ∈ locs1, mA E w.base) → W p l e Rm s m args below meth c H1 locs1 k z Q (F0 m (pc + 3) ls st)) : W p l e Rm s m args below meth c H locs k z Q (F0 m pc ls (v :: .ref (mB E + q) :: st)) := by
  obtain ⟨C, T, N, h1, h2, h3, h4, h5, h6, h7, h8, h9⟩ := hw
  have hap := va_apart (own := own) hts h6 (mTy ci) h8 h9 hK h1
  obtain ⟨r, g1, cell, q1, q2, q3, q4⟩ := hR.2.2 q _ (mE_obj hq hT I R L)
  have hr : r = (C, T, N) := Option.some.inj (g1.symm.trans h1)
  subst hr
  obtain ⟨hS, hfc, kC, hkC, hkind⟩ := hK.1 ci _ h1
  obtain ⟨cf, kf, fi, f, hi, hsl⟩ := hS j h2
  have hlay := hts _ (h6 _ (u_in_lay h2))
  unfold u_lay at hlay
  have hst := (u_facts hfc hkC (u_lays hts h6 h2) hi).1
  have hi' : s.fieldFound? C (T j).2.1 (T j).2.2.1 = some (cf, kf, fi, f) := by rw [← h4]; exact hi
  have fin9 : ∀ H' : Heap, H'[mB E + q]? = some (cell.setSlot f.slot v) → H'.size = H.size → (∀ a, a ≠ mB E + q → H'[a]? = H[a]?) → W p l e Rm s m args below meth c H' (locs ++ [⟨mB E + q, f.slot⟩]) k z Q (F0 m (pc + 3) ls st) := by
    intro H' e1 e2 e3
    rw [hsl] at e1
    have hP := hR.2.2.set (mW_D I R L) (mE_obj hq hT I R L) (e := .inr (ci, (mFs E ci (I q) (R q) (L q)).set j v)) ⟨_, h1, t_OB.to (V := updV (vp_V (mFs E ci (I q) (R q) (L q))) j v) ⟨_, e1, q2, q3, t_set q4 hap h2 v⟩ (fun b _ => vp_updV_set (by rw [mFs_len, ← h3]; exact h2) v b)⟩ e3
    rw [mW_set hq (I' := I') (R' := R') (L' := L') (by simp only [mE, hT]; rw [hV]) hI hR' hL] at hP
    refine kk H' _ ⟨hR.z e2, fun a ha => (e3 a (by omega)).trans (hR.2.1 a ha), hP⟩ ?_
    intro w hw
    rcases List.mem_append.mp hw with h | h
    · exact ho w h
    · rw [List.mem_singleton.mp h]
      show mB E ≤ mB E + q
      omega
  by_cases hfn : fin = true
  · rcases hf with hf | ⟨hf1, hf2⟩
    · rw [hfn] at hf; cases hf
    · rw [if_pos (h7.trans hfn)] at hlay
      have hC1 : C = own := by rw [List.getD_eq_getElem?_getD, h1] at hf2; exact hf2
      have hcf : m.cls = cf := by
        obtain ⟨_, _, c', _, _, _, -, -, hf', -, -, -, hown2, -⟩ := Cond.laysFinal_spec hlay
        have e1 : c' = cf := by have := hi.symm.trans hf'; simp at this; exact this.1.symm
        rw [h4, hC1] at hown2
        rw [← e1]; exact Option.some.inj (hown.symm.trans hown2)
      have h10 := u_fits hfc hkC hkind (Or.inr hlay) hi (h8 j h2) hn hfit
      exact W.putFinK hx hb hown (hts _ h5) hi' hst hcf (hnm.trans hf1) (by rw [q2]; exact h10) q1 q3 (by rw [hsl]; exact k2_hasslot (q4 j h2)) rfl rfl hd fin9
  · rw [if_neg (by rw [h7]; exact hfn)] at hlay
    have h10 := u_store hfc hkC hkind hlay hi (h8 j h2) hn hfit
    exact W.putK hx hb (f := f) ⟨hown, hts _ h5, ⟨_, _, _, hi'⟩, hst⟩ (by rw [q2]; exact h10) q1 q3 (by rw [hsl]; exact k2_hasslot (q4 j h2)) rfl rfl hd fin9
theorem g_puti (hC : mC X E M own cc) {q ci index j : Nat} {v : Int32}  (hw : mFd own ci index j false) (hT : mT q = (0, ci)) (hq : q < n) (hty : mTy ci j = .int) (hd : decode cc pc = .ok (.putfield index, 3)) (kk : ∀ I' : mIT, I' = mU I q j v → mG X E (pc + 3) lv st n x I' R L k z) : mG X E pc lv (.int v :: .ref (mB E + q) :: st) n x I R L k z := by
  intro ls H locs hl hR ho
  exact mz_put hC hw hT hq (Or.inl rfl) (by rw [hty]; rfl) (by rw [hty]; rfl) hd hR ho (I' := (mU I q j v)) (R' := R) (L' := L) (mFs_set (by rw [hty]; simp [mV, mU]) (fun b hb => by simp [mU, hb]) (fun _ _ => rfl) (fun _ _ => rfl)) (fun b hb => mU_other hb) (fun _ _ => rfl) (fun _ _ => rfl) hC.1.1 hC.1.2 hC.2.1.2 hC.2.2.1 hC.2.2.2.1.1 hC.2.2.2.2.1.2.2 (fun H1 locs1 h1 h2 => kk _ rfl ls H1 locs1 hl h1 h2)
theorem g_putz (hC : mC X E M own cc) {q ci index j : Nat} {v : Int32} (hb : v = 0 ∨ v = 1) (hw : mFd own ci index j false) (hT : mT q = (0, ci)) (hq : q < n) (hty : mTy ci j = .boolean) (hd : decode cc pc = .ok (.putfield index, 3)) (kk : ∀ I' : mIT, I' = mU I q j v → mG X E (pc + 3) lv st n x I' R L k z) : mG X E pc lv (.int v :: .ref (mB E + q) :: st) n x I R L k z := by
  intro ls H locs hl hR ho
  exact mz_put hC hw hT hq (Or.inl rfl) (by rw [hty]; rcases hb with h | h <;> rw [h] <;> rfl) (by rw [hty]; rcases hb with h | h <;> rw [h] <;> rfl) hd hR ho (I' := (mU I q j v)) (R' := R) (L' := L) (mFs_set (by rw [hty]; simp [mV, mU]) (fun b hb => by simp [mU, hb]) (fun _ _ => rfl) (fun _ _ => rfl)) (fun b hb => mU_other hb) (fun _ _ => rfl) (fun _ _ => rfl) hC.1.1 hC.1.2 hC.2.1.2 hC.2.2.1 hC.2.2.2.1.1 hC.2.2.2.2.1.2.2 (fun H1 locs1 h1 h2 => kk _ rfl ls H1 locs1 hl h1 h2)
theorem g_putr (hC : mC X E M own cc) {q ci index j : Nat} {v : Nat} {C0 : String} {t0 : FieldType} (hw : mFd own ci index j false) (hT : mT q = (0, ci)) (hq : q < n) (hty : mTy ci j = .object C0 ∨ mTy ci j = .array t0) (hd : decode cc pc = .ok (.putfield index, 3)) (kk : ∀ R' : mRT, R' = mUR R q j (some v) → mG X E (pc + 3) lv st n x I R' L k z) : mG X E pc lv (.ref (mB E + v) :: .ref (mB E + q) :: st) n x I R L k z := by
  intro ls H locs hl hR ho
  exact mz_put hC hw hT hq (Or.inl rfl) (by rcases hty with h | h <;> rw [h] <;> rfl) (by rcases hty with h | h <;> rw [h] <;> rfl) hd hR ho (I' := I) (R' := (mUR R q j (some v))) (L' := L) (mFs_set (by rcases hty with h | h <;> rw [h] <;> simp [mV, mUR]) (fun _ _ => rfl) (fun b hb => by simp [mUR, hb]) (fun _ _ => rfl)) (fun _ _ => rfl) (fun b hb => mUR_other hb) (fun _ _ => rfl) hC.1.1 hC.1.2 hC.2.1.2 hC.2.2.1 hC.2.2.2.1.1 hC.2.2.2.2.1.2.2 (fun H1 locs1 h1 h2 => kk _ rfl ls H1 locs1 hl h1 h2)
theorem g_putl (hC : mC X E M own cc) {q ci index j : Nat} {v : Int64}  (hw : mFd own ci index j false) (hT : mT q = (0, ci)) (hq : q < n) (hty : mTy ci j = .long) (hd : decode cc pc = .ok (.putfield index, 3)) (kk : ∀ L' : mLT, L' = mUL L q j v → mG X E (pc + 3) lv st n x I R L' k z) : mG X E pc lv (.long v :: .ref (mB E + q) :: st) n x I R L k z := by
  intro ls H locs hl hR ho
  exact mz_put hC hw hT hq (Or.inl rfl) (by rw [hty]; rfl) (by rw [hty]; rfl) hd hR ho (I' := I) (R' := R) (L' := (mUL L q j v)) (mFs_set (by rw [hty]; simp [mV, mUL]) (fun _ _ => rfl) (fun _ _ => rfl) (fun b hb => by simp [mUL, hb])) (fun _ _ => rfl) (fun _ _ => rfl) (fun b hb => mUL_other hb) hC.1.1 hC.1.2 hC.2.1.2 hC.2.2.1 hC.2.2.2.1.1 hC.2.2.2.2.1.2.2 (fun H1 locs1 h1 h2 => kk _ rfl ls H1 locs1 hl h1 h2)
theorem g_putiF (hC : mC X E M own cc) {q ci index j : Nat} {v : Int32}  (hw : mFd own ci index j true) (hT : mT q = (0, ci)) (hq : q < n) (hty : mTy ci j = .int) (hi : M.1.name = "<init>") (hw2 : (vwCl.getD ci ("", fun _ => ("", "", "", false), 0)).1 = own) (hd : decode cc pc = .ok (.putfield index, 3)) (kk : ∀ I' : mIT, I' = mU I q j v → mG X E (pc + 3) lv st n x I' R L k z) : mG X E pc lv (.int v :: .ref (mB E + q) :: st) n x I R L k z := by
  intro ls H locs hl hR ho
  exact mz_put hC hw hT hq (Or.inr ⟨hi, hw2⟩) (by rw [hty]; rfl) (by rw [hty]; rfl) hd hR ho (I' := (mU I q j v)) (R' := R) (L' := L) (mFs_set (by rw [hty]; simp [mV, mU]) (fun b hb => by simp [mU, hb]) (fun _ _ => rfl) (fun _ _ => rfl)) (fun b hb => mU_other hb) (fun _ _ => rfl) (fun _ _ => rfl) hC.1.1 hC.1.2 hC.2.1.2 hC.2.2.1 hC.2.2.2.1.1 hC.2.2.2.2.1.2.2 (fun H1 locs1 h1 h2 => kk _ rfl ls H1 locs1 hl h1 h2)
theorem g_putrF (hC : mC X E M own cc) {q ci index j : Nat} {v : Nat} {C0 : String} {t0 : FieldType} (hw : mFd own ci index j true) (hT : mT q = (0, ci)) (hq : q < n) (hty : mTy ci j = .object C0 ∨ mTy ci j = .array t0) (hi : M.1.name = "<init>") (hw2 : (vwCl.getD ci ("", fun _ => ("", "", "", false), 0)).1 = own) (hd : decode cc pc = .ok (.putfield index, 3)) (kk : ∀ R' : mRT, R' = mUR R q j (some v) → mG X E (pc + 3) lv st n x I R' L k z) : mG X E pc lv (.ref (mB E + v) :: .ref (mB E + q) :: st) n x I R L k z := by
  intro ls H locs hl hR ho
  exact mz_put hC hw hT hq (Or.inr ⟨hi, hw2⟩) (by rcases hty with h | h <;> rw [h] <;> rfl) (by rcases hty with h | h <;> rw [h] <;> rfl) hd hR ho (I' := I) (R' := (mUR R q j (some v))) (L' := L) (mFs_set (by rcases hty with h | h <;> rw [h] <;> simp [mV, mUR]) (fun _ _ => rfl) (fun b hb => by simp [mUR, hb]) (fun _ _ => rfl)) (fun _ _ => rfl) (fun b hb => mUR_other hb) (fun _ _ => rfl) hC.1.1 hC.1.2 hC.2.1.2 hC.2.2.1 hC.2.2.2.1.1 hC.2.2.2.2.1.2.2 (fun H1 locs1 h1 h2 => kk _ rfl ls H1 locs1 hl h1 h2)
theorem g_iald (hC : mC X E M own cc) {q len : Nat} {i : Int32} (hT : mT q = (1, len)) (hq : q < n) (hi : vp_in i len) (hd : decode cc pc = .ok (.iaload, 1)) (kk : mG X E (pc + 1) lv (.int (I q i.toNatClampNeg) :: st) n x I R L k z) : mG X E pc lv (.int i :: .ref (mB E + q) :: st) n x I R L k z :=
  fun ls H locs hl hR ho => va_iald (D := E.1) hC.1.1 hC.1.2 hC.2.2.2.1.1 hR.2.2 q 0 (mE_int hq hT I R L) rfl hi hd (kk ls H locs hl hR ho)
theorem g_bald (hC : mC X E M own cc) {q len : Nat} {i : Int32} (hT : mT q = (2, len)) (hq : q < n) (hi : vp_in i len) (hd : decode cc pc = .ok (.baload, 1)) (kk : mG X E (pc + 1) lv (.int (I q i.toNatClampNeg) :: st) n x I R L k z) : mG X E pc lv (.int i :: .ref (mB E + q) :: st) n x I R L k z :=
  fun ls H locs hl hR ho => va_bald (D := E.1) hC.1.1 hC.1.2 hC.2.2.2.1.1 hR.2.2 q 1 (mE_byte hq hT I R L) rfl hi hd (kk ls H locs hl hR ho)
theorem g_zald (hC : mC X E M own cc) {q len : Nat} {i : Int32} (hT : mT q = (3, len)) (hq : q < n) (hi : vp_in i len) (hd : decode cc pc = .ok (.baload, 1)) (kk : mG X E (pc + 1) lv (.int (I q i.toNatClampNeg) :: st) n x I R L k z) : mG X E pc lv (.int i :: .ref (mB E + q) :: st) n x I R L k z :=
  fun ls H locs hl hR ho => va_zald (D := E.1) hC.1.1 hC.1.2 hC.2.2.2.1.1 hR.2.2 q 2 (mE_bool hq hT I R L) rfl hi hd (kk ls H locs hl hR ho)
theorem g_lald (hC : mC X E M own cc) {q len : Nat} {i : Int32} (hT : mT q = (4, len)) (hq : q < n) (hi : vp_in i len) (hd : decode cc pc = .ok (.laload, 1)) (kk : mG X E (pc + 1) lv (.long (L q i.toNatClampNeg) :: st) n x I R L k z) : mG X E pc lv (.int i :: .ref (mB E + q) :: st) n x I R L k z :=
  fun ls H locs hl hR ho => va_lald (D := E.1) hC.1.1 hC.1.2 hC.2.2.2.1.1 hR.2.2 q 3 (mE_long hq hT I R L) rfl hi hd (kk ls H locs hl hR ho)
theorem g_iast (hC : mC X E M own cc) {q len : Nat} {i : Int32} {v : Int32} (hT : mT q = (1, len)) (hq : q < n) (hi : vp_in i len) (hd : decode cc pc = .ok (.iastore, 1)) (kk : ∀ I' : mIT, I' = mU I q i.toNatClampNeg v → mG X E (pc + 1) lv st n x I' R L k z) : mG X E pc lv (.int v :: .int i :: .ref (mB E + q) :: st) n x I R L k z := by
  intro ls H locs hl hR ho
  have ha := mE_int (E := E) hq hT I R L
  refine W.iast hC.1.1 hC.1.2 (hR.2.2 q _ ha) ((hC.2.2.2.1.1.2 0 _ rfl).1 len (fun j => .int (I q j))) (fun y => by cases y) (by show ¬ (i < 0 ∨ (arrV _ _ _).slots.size ≤ _); rw [arrV_size]; exact hi) rfl rfl hd fun H1 e z1 oq => ?_
  have hP := hR.2.2.set (e := .inl (E.2.1.1, len, .inl (upd (I q) i.toNatClampNeg (v)))) (mW_D I R L) ha (by
    show H1[mB E + q]? = some (vp_cell _ _)
    rw [e]
    rw [vp_cell_i, vp_cell_i, arrV_store]
    congr 2
    funext b
    by_cases hb : b = i.toNatClampNeg
    · subst hb
      simp [updV, upd, vp_nar]
      try rfl
    · simp [updV, upd, hb]) oq
  rw [mW_set hq (I' := (mU I q i.toNatClampNeg v)) (R' := R) (L' := L) (by simp only [mE, hT]; rw [mU_same]) (fun b hb => mU_other hb) (fun _ _ => rfl) (fun _ _ => rfl)] at hP
  refine kk _ rfl ls H1 _ hl ⟨hR.z z1, fun a ha => (oq a (Nat.ne_of_lt (Nat.lt_of_lt_of_le ha (Nat.le_add_right _ _)))).trans (hR.2.1 a ha), hP⟩ ?_
  intro w hw
  rcases List.mem_append.mp hw with h | h
  · exact ho w h
  · rw [List.mem_singleton.mp h]
    show mB E ≤ mB E + q
    omega
theorem g_bast (hC : mC X E M own cc) {q len : Nat} {i : Int32} {v : Int32} (hT : mT q = (2, len)) (hq : q < n) (hi : vp_in i len) (hd : decode cc pc = .ok (.bastore, 1)) (kk : ∀ I' : mIT, I' = mU I q i.toNatClampNeg (v.toInt8.toInt32) → mG X E (pc + 1) lv st n x I' R L k z) : mG X E pc lv (.int v :: .int i :: .ref (mB E + q) :: st) n x I R L k z := by
  intro ls H locs hl hR ho
  have ha := mE_byte (E := E) hq hT I R L
  refine W.bast hC.1.1 hC.1.2 (hR.2.2 q _ ha) ((hC.2.2.2.1.1.2 1 _ rfl).1 len (fun j => .int (I q j))) (fun y => by cases y) (by show ¬ (i < 0 ∨ (arrV _ _ _).slots.size ≤ _); rw [arrV_size]; exact hi) rfl rfl hd fun H1 e z1 oq => ?_
  have hP := hR.2.2.set (e := .inl (E.2.1.2.1, len, .inl (upd (I q) i.toNatClampNeg (v.toInt8.toInt32)))) (mW_D I R L) ha (by
    show H1[mB E + q]? = some (vp_cell _ _)
    rw [e]
    rw [vp_cell_i, vp_cell_i, arrV_store]
    congr 2
    funext b
    by_cases hb : b = i.toNatClampNeg
    · subst hb
      simp [updV, upd, vp_nar]
      try rfl
    · simp [updV, upd, hb]) oq
  rw [mW_set hq (I' := (mU I q i.toNatClampNeg (v.toInt8.toInt32))) (R' := R) (L' := L) (by simp only [mE, hT]; rw [mU_same]) (fun b hb => mU_other hb) (fun _ _ => rfl) (fun _ _ => rfl)] at hP
  refine kk _ rfl ls H1 _ hl ⟨hR.z z1, fun a ha => (oq a (Nat.ne_of_lt (Nat.lt_of_lt_of_le ha (Nat.le_add_right _ _)))).trans (hR.2.1 a ha), hP⟩ ?_
  intro w hw
  rcases List.mem_append.mp hw with h | h
  · exact ho w h
  · rw [List.mem_singleton.mp h]
    show mB E ≤ mB E + q
    omega
theorem g_zast (hC : mC X E M own cc) {q len : Nat} {i : Int32} {v : Int32} (hT : mT q = (3, len)) (hq : q < n) (hi : vp_in i len) (hd : decode cc pc = .ok (.bastore, 1)) (kk : ∀ I' : mIT, I' = mU I q i.toNatClampNeg (vp_nar .boolean v) → mG X E (pc + 1) lv st n x I' R L k z) : mG X E pc lv (.int v :: .int i :: .ref (mB E + q) :: st) n x I R L k z := by
  intro ls H locs hl hR ho
  have ha := mE_bool (E := E) hq hT I R L
  refine W.zast hC.1.1 hC.1.2 (hR.2.2 q _ ha) ((hC.2.2.2.1.1.2 2 _ rfl).1 len (fun j => .int (I q j))) (fun y => by cases y) (by show ¬ (i < 0 ∨ (arrV _ _ _).slots.size ≤ _); rw [arrV_size]; exact hi) rfl rfl hd fun H1 e z1 oq => ?_
  have hP := hR.2.2.set (e := .inl (E.2.1.2.2.1, len, .inl (upd (I q) i.toNatClampNeg (vp_nar .boolean v)))) (mW_D I R L) ha (by
    show H1[mB E + q]? = some (vp_cell _ _)
    rw [e]
    rw [vp_cell_i, vp_cell_i, arrV_store]
    congr 2
    funext b
    by_cases hb : b = i.toNatClampNeg
    · subst hb
      simp [updV, upd, vp_nar]
      try rfl
    · simp [updV, upd, hb]) oq
  rw [mW_set hq (I' := (mU I q i.toNatClampNeg (vp_nar .boolean v))) (R' := R) (L' := L) (by simp only [mE, hT]; rw [mU_same]) (fun b hb => mU_other hb) (fun _ _ => rfl) (fun _ _ => rfl)] at hP
  refine kk _ rfl ls H1 _ hl ⟨hR.z z1, fun a ha => (oq a (Nat.ne_of_lt (Nat.lt_of_lt_of_le ha (Nat.le_add_right _ _)))).trans (hR.2.1 a ha), hP⟩ ?_
  intro w hw
  rcases List.mem_append.mp hw with h | h
  · exact ho w h
  · rw [List.mem_singleton.mp h]
    show mB E ≤ mB E + q
    omega
theorem g_last (hC : mC X E M own cc) {q len : Nat} {i : Int32} {v : Int64} (hT : mT q = (4, len)) (hq : q < n) (hi : vp_in i len) (hd : decode cc pc = .ok (.lastore, 1)) (kk : ∀ L' : mLT, L' = mUL L q i.toNatClampNeg v → mG X E (pc + 1) lv st n x I R L' k z) : mG X E pc lv (.long v :: .int i :: .ref (mB E + q) :: st) n x I R L k z := by
  intro ls H locs hl hR ho
  have ha := mE_long (E := E) hq hT I R L
  refine W.last hC.1.1 hC.1.2 (hR.2.2 q _ ha) ((hC.2.2.2.1.1.2 3 _ rfl).1 len (fun j => .long (L q j))) (fun y => by cases y) (by show ¬ (i < 0 ∨ (arrV _ _ _).slots.size ≤ _); rw [arrV_size]; exact hi) rfl rfl hd fun H1 e z1 oq => ?_
  have hP := hR.2.2.set (e := .inl (E.2.1.2.2.2, len, .inr (.inl (vp_updL (L q) i.toNatClampNeg v)))) (mW_D I R L) ha (by
    show H1[mB E + q]? = some (vp_cell _ _)
    rw [e]
    rw [vp_cell_l, vp_cell_l, arrV_store]
    congr 2
    funext b
    by_cases hb : b = i.toNatClampNeg
    · subst hb
      simp [updV, vp_updL, vp_nar]
      try rfl
    · simp [updV, vp_updL, hb]) oq
  rw [mW_set hq (I' := I) (R' := R) (L' := (mUL L q i.toNatClampNeg v)) (by simp only [mE, hT]; rw [mUL_same]) (fun _ _ => rfl) (fun _ _ => rfl) (fun b hb => mUL_other hb)] at hP
  refine kk _ rfl ls H1 _ hl ⟨hR.z z1, fun a ha => (oq a (Nat.ne_of_lt (Nat.lt_of_lt_of_le ha (Nat.le_add_right _ _)))).trans (hR.2.1 a ha), hP⟩ ?_
  intro w hw
  rcases List.mem_append.mp hw with h | h
  · exact ho w h
  · rw [List.mem_singleton.mp h]
    show mB E ≤ mB E + q
    omega
theorem g_alenI (hC : mC X E M own cc) {q len : Nat} (hT : mT q = (1, len)) (hq : q < n) (hd : decode cc pc = .ok (.arraylength, 1)) (kk : mG X E (pc + 1) lv (.int (nI len) :: st) n x I R L k z) : mG X E pc lv (.ref (mB E + q) :: st) n x I R L k z :=
  fun ls H locs hl hR ho => va_alen (D := E.1) hC.1.1 hC.1.2 hC.2.2.2.1.1 hR.2.2 q 0 (mE_int hq hT I R L) rfl rfl hd (kk ls H locs hl hR ho)
theorem g_alenB (hC : mC X E M own cc) {q len : Nat} (hT : mT q = (2, len)) (hq : q < n) (hd : decode cc pc = .ok (.arraylength, 1)) (kk : mG X E (pc + 1) lv (.int (nI len) :: st) n x I R L k z) : mG X E pc lv (.ref (mB E + q) :: st) n x I R L k z :=
  fun ls H locs hl hR ho => va_alen (D := E.1) hC.1.1 hC.1.2 hC.2.2.2.1.1 hR.2.2 q 1 (mE_byte hq hT I R L) rfl rfl hd (kk ls H locs hl hR ho)
theorem g_alenZ (hC : mC X E M own cc) {q len : Nat} (hT : mT q = (3, len)) (hq : q < n) (hd : decode cc pc = .ok (.arraylength, 1)) (kk : mG X E (pc + 1) lv (.int (nI len) :: st) n x I R L k z) : mG X E pc lv (.ref (mB E + q) :: st) n x I R L k z :=
  fun ls H locs hl hR ho => va_alen (D := E.1) hC.1.1 hC.1.2 hC.2.2.2.1.1 hR.2.2 q 2 (mE_bool hq hT I R L) rfl rfl hd (kk ls H locs hl hR ho)
theorem g_alenL (hC : mC X E M own cc) {q len : Nat} (hT : mT q = (4, len)) (hq : q < n) (hd : decode cc pc = .ok (.arraylength, 1)) (kk : mG X E (pc + 1) lv (.int (nI len) :: st) n x I R L k z) : mG X E pc lv (.ref (mB E + q) :: st) n x I R L k z :=
  fun ls H locs hl hR ho => va_alen (D := E.1) hC.1.1 hC.1.2 hC.2.2.2.1.1 hR.2.2 q 3 (mE_long hq hT I R L) rfl rfl hd (kk ls H locs hl hR ho)
theorem g_lcmp (hC : mC X E M own cc) {a b : Int64} (hd : decode cc pc = .ok (.lcmp, 1)) (kk : mG X E (pc + 1) lv (.int (lg_cmp a b) :: st) n x I R L k z) : mG X E pc lv (.long b :: .long a :: st) n x I R L k z := fun ls H locs hl hR ho => W.lcmp hC.1.1 hC.1.2 hd (kk ls H locs hl hR ho)
theorem g_iret (hC : mC X E M own cc) {mc ms : Nat} {post : Option Value → Nat → Nat → mIT → mRT → mLT → Prop} {v : Int32} (hE : mEd X E mc ms post) (hr : M.2.2.2.1 = some .int) (hd : decode cc pc = .ok (.ireturn, 1)) (hk : k ≤ mc) (hz : z ≤ ms) (hp : post (some (.int v)) n x I R L) : mG X E pc lv [.int v] n x I R L k z := by
  intro ls H locs hl hR ho
  rw [hE.2]
  refine W.widen hk hz ?_
  exact W.iret (v := v) hC.1.1 hC.1.2 (by rw [hC.2.2.2.2.1.2.1]; exact hr) (fun t ht _ => ⟨_, n, x, I, R, L, rfl, hp, by rw [ht]; exact hR⟩) ho hd hC.2.2.2.2.1.1
theorem g_xiret (hC : mC X E M own cc) {mc ms : Nat} {post : Option Value → Nat → Nat → mIT → mRT → mLT → Prop} {px : String → Nat → Nat → mIT → mRT → mLT → Prop} {v : Int32} (hE : mEx X E mc ms post px) (hr : M.2.2.2.1 = some .int) (hd : decode cc pc = .ok (.ireturn, 1)) (hk : k ≤ mc) (hz : z ≤ ms) (hp : post (some (.int v)) n x I R L) : mG X E pc lv [.int v] n x I R L k z := by
  intro ls H locs hl hR ho
  rw [hE.2]
  refine W.widen hk hz ?_
  refine vx_ret ?_
  exact W.iret (v := v) hC.1.1 hC.1.2 (by rw [hC.2.2.2.2.1.2.1]; exact hr) (fun t ht _ => ⟨_, n, x, I, R, L, rfl, hp, by rw [ht]; exact hR⟩) ho hd hC.2.2.2.2.1.1
theorem g_zret (hC : mC X E M own cc) {mc ms : Nat} {post : Option Value → Nat → Nat → mIT → mRT → mLT → Prop} {v : Int32} (hb : v = 0 ∨ v = 1) (hE : mEd X E mc ms post) (hr : M.2.2.2.1 = some .boolean) (hd : decode cc pc = .ok (.ireturn, 1)) (hk : k ≤ mc) (hz : z ≤ ms) (hp : post (some (.int v)) n x I R L) : mG X E pc lv [.int v] n x I R L k z := by
  intro ls H locs hl hR ho
  rw [hE.2]
  refine W.widen hk hz ?_
  exact W.zret (v := v) hC.1.1 hC.1.2 (by rw [hC.2.2.2.2.1.2.1]; exact hr) (by rcases hb with h | h <;> rw [h] <;> rfl) (fun t ht _ => ⟨_, n, x, I, R, L, rfl, hp, by rw [ht]; exact hR⟩) ho hd hC.2.2.2.2.1.1
theorem g_xzret (hC : mC X E M own cc) {mc ms : Nat} {post : Option Value → Nat → Nat → mIT → mRT → mLT → Prop} {px : String → Nat → Nat → mIT → mRT → mLT → Prop} {v : Int32} (hb : v = 0 ∨ v = 1) (hE : mEx X E mc ms post px) (hr : M.2.2.2.1 = some .boolean) (hd : decode cc pc = .ok (.ireturn, 1)) (hk : k ≤ mc) (hz : z ≤ ms) (hp : post (some (.int v)) n x I R L) : mG X E pc lv [.int v] n x I R L k z := by
  intro ls H locs hl hR ho
  rw [hE.2]
  refine W.widen hk hz ?_
  refine vx_ret ?_
  exact W.zret (v := v) hC.1.1 hC.1.2 (by rw [hC.2.2.2.2.1.2.1]; exact hr) (by rcases hb with h | h <;> rw [h] <;> rfl) (fun t ht _ => ⟨_, n, x, I, R, L, rfl, hp, by rw [ht]; exact hR⟩) ho hd hC.2.2.2.2.1.1
theorem g_lret (hC : mC X E M own cc) {mc ms : Nat} {post : Option Value → Nat → Nat → mIT → mRT → mLT → Prop} {v : Int64} (hE : mEd X E mc ms post) (hr : M.2.2.2.1 = some .long) (hd : decode cc pc = .ok (.lreturn, 1)) (hk : k ≤ mc) (hz : z ≤ ms) (hp : post (some (.long v)) n x I R L) : mG X E pc lv [.long v] n x I R L k z := by
  intro ls H locs hl hR ho
  rw [hE.2]
  refine W.widen hk hz ?_
  exact W.lret (v := v) hC.1.1 hC.1.2 (by rw [hC.2.2.2.2.1.2.1]; exact hr) (fun t ht _ => ⟨_, n, x, I, R, L, rfl, hp, by rw [ht]; exact hR⟩) ho hd hC.2.2.2.2.1.1
theorem g_xlret (hC : mC X E M own cc) {mc ms : Nat} {post : Option Value → Nat → Nat → mIT → mRT → mLT → Prop} {px : String → Nat → Nat → mIT → mRT → mLT → Prop} {v : Int64} (hE : mEx X E mc ms post px) (hr : M.2.2.2.1 = some .long) (hd : decode cc pc = .ok (.lreturn, 1)) (hk : k ≤ mc) (hz : z ≤ ms) (hp : post (some (.long v)) n x I R L) : mG X E pc lv [.long v] n x I R L k z := by
  intro ls H locs hl hR ho
  rw [hE.2]
  refine W.widen hk hz ?_
  refine vx_ret ?_
  exact W.lret (v := v) hC.1.1 hC.1.2 (by rw [hC.2.2.2.2.1.2.1]; exact hr) (fun t ht _ => ⟨_, n, x, I, R, L, rfl, hp, by rw [ht]; exact hR⟩) ho hd hC.2.2.2.2.1.1
theorem g_vret (hC : mC X E M own cc) {mc ms : Nat} {post : Option Value → Nat → Nat → mIT → mRT → mLT → Prop}  (hE : mEd X E mc ms post) (hr : M.2.2.2.1 = none) (hd : decode cc pc = .ok (.return_, 1)) (hk : k ≤ mc) (hz : z ≤ ms) (hp : post none n x I R L) : mG X E pc lv [] n x I R L k z := by
  intro ls H locs hl hR ho
  rw [hE.2]
  refine W.widen hk hz ?_
  exact W.vret hC.1.1 hC.1.2 (by rw [hC.2.2.2.2.1.2.1]; exact hr) (fun t ht _ => ⟨_, n, x, I, R, L, rfl, hp, by rw [ht]; exact hR⟩) ho hd hC.2.2.2.2.1.1
theorem g_xvret (hC : mC X E M own cc) {mc ms : Nat} {post : Option Value → Nat → Nat → mIT → mRT → mLT → Prop} {px : String → Nat → Nat → mIT → mRT → mLT → Prop}  (hE : mEx X E mc ms post px) (hr : M.2.2.2.1 = none) (hd : decode cc pc = .ok (.return_, 1)) (hk : k ≤ mc) (hz : z ≤ ms) (hp : post none n x I R L) : mG X E pc lv [] n x I R L k z := by
  intro ls H locs hl hR ho
  rw [hE.2]
  refine W.widen hk hz ?_
  refine vx_ret ?_
  exact W.vret hC.1.1 hC.1.2 (by rw [hC.2.2.2.2.1.2.1]; exact hr) (fun t ht _ => ⟨_, n, x, I, R, L, rfl, hp, by rw [ht]; exact hR⟩) ho hd hC.2.2.2.2.1.1
theorem g_aret (hC : mC X E M own cc) {mc ms : Nat} {post : Option Value → Nat → Nat → mIT → mRT → mLT → Prop} {v : Nat} {C0 : String} (hE : mEd X E mc ms post) (hr : M.2.2.2.1 = some (.object C0)) (hd : decode cc pc = .ok (.areturn, 1)) (hk : k ≤ mc) (hz : z ≤ ms) (hp : post (some (.ref v)) n x I R L) : mG X E pc lv [.ref v] n x I R L k z := by
  intro ls H locs hl hR ho
  rw [hE.2]
  refine W.widen hk hz ?_
  exact W.aret (v := .ref v) hC.1.1 hC.1.2 (by rw [hC.2.2.2.2.1.2.1]; exact hr) (Or.inl ⟨C0, rfl⟩) (Or.inr ⟨v, rfl⟩) (fun t ht _ => ⟨_, n, x, I, R, L, rfl, hp, by rw [ht]; exact hR⟩) ho hd hC.2.2.2.2.1.1
end HEAP
