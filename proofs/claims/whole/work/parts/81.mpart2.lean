/-- the reference's state is one that can be finished -/
def mRe (J : mIT) (c0 : Nat) : Prop := ∃ (out : eSt) (w : List Nat), mRs J c0 out w ∧ vC w ∧ w.length ≤ 80 ∧ c0 + (enp out).length + w.length ≤ 1398
/-- but for what is read -/
def mXf (c0 : Nat) (I J : mIT) : Prop := (∀ j, j < 14 ∨ (15 < j ∧ j < 18) ∨ (23 < j ∧ j < 32) ∨ 34 < j → J 75 j = I 75 j) ∧ (∀ i, i < c0 → J 86 i = I 86 i) ∧ ∀ c, c ≠ 75 → c ≠ 86 → c ≠ 87 → c ≠ 88 → J c = I c
theorem mXf_r (c0 : Nat) (I : mIT) : mXf c0 I I := ⟨fun _ _ => rfl, fun _ _ => rfl, fun _ _ _ _ _ => rfl⟩
theorem mXf_t {c0 : Nat} {I J K : mIT} (h1 : mXf c0 I J) (h2 : mXf c0 J K) : mXf c0 I K := ⟨fun j hj => by rw [h2.1 j hj, h1.1 j hj], fun i hi => by rw [h2.2.1 i hi, h1.2.1 i hi], fun c a b d e => by rw [h2.2.2 c a b d e, h1.2.2 c a b d e]⟩
theorem mXf_c {c0 : Nat} {I J K : mIT} (h : mXf c0 I J) (f : mRf J K c0) : mXf c0 I K := mXf_t h ⟨fun j hj => f.1 j (by omega) (by omega), f.2.1, fun c a b d _ => f.2.2 c a b d⟩
theorem mXf_s {c0 : Nat} {I J K : mIT} (h : mXf c0 I J) (f : mTf J K) : mXf c0 I K := mXf_t h ⟨fun j hj => f.1 j (by omega), fun i _ => by rw [f.2 86 (by decide)], fun c a _ _ _ => f.2 c a⟩
theorem mXf_u {c0 j : Nat} {I J : mIT} {v : Int32} (h : mXf c0 I J) (hj : j = 14 ∨ j = 15 ∨ j = 34) : mXf c0 I (mU J 75 j v) := mXf_t h ⟨fun i hi => q_Uj (by omega), fun i _ => by rw [mU_other (by decide)], fun c a _ _ _ => mU_other a⟩
theorem mRs_k {I J : mIT} {c0 : Nat} {out : eSt} {w : List Nat} (h : mRs I c0 out w) (f32 : J 75 32 = I 75 32) (f33 : J 75 33 = I 75 33) (f86 : J 86 = I 86) (f87 : J 87 = I 87) : mRs J c0 out w := by
  obtain ⟨r1, r2, r3, r4⟩ := h
  exact ⟨by rw [f32]; exact r1, by rw [f33]; exact r2, fun i hi => by rw [f86]; exact r3 i hi, wtM_f (fun i _ => by rw [f87]) r4⟩
theorem mRs_w {I : mIT} {c0 j : Nat} {v : Int32} {out : eSt} {w : List Nat} (h : mRs I c0 out w) (hj : j ≠ 32 ∧ j ≠ 33) : mRs (mU I 75 j v) c0 out w := mRs_k h (q_Uj (by omega)) (q_Uj (by omega)) (mU_other (by decide)) (mU_other (by decide))
theorem mRs_s {I J : mIT} {c0 : Nat} {out : eSt} {w : List Nat} (h : mRs I c0 out w) (f : mTf I J) : mRs J c0 out w := mRs_k h (f.1 32 (by omega)) (f.1 33 (by omega)) (f.2 86 (by decide)) (f.2 87 (by decide))
