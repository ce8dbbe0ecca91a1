/-! the reference's code while it is read -/
def mC0 (c : Nat) : Int32 := if c = 0 then 14 else mOp (nI c)
def wtM (I : mIT) : List Nat → Prop
  | [] => True
  | c :: w => I 87 w.length = mC0 c ∧ wtM I w
def enp : eSt → List Int32
  | [] => []
  | e :: es => if e.1 = 1 ∨ e.1 = 2 then e.1 :: e.2 :: enp es else mOp e.1 :: enp es
theorem enp_ap : ∀ (a b : eSt), enp (a ++ b) = enp a ++ enp b
  | [], _ => rfl
  | e :: a, b => by
    show enp (e :: (a ++ b)) = _
    rw [enp, enp, enp_ap a b]
    by_cases h : e.1 = 1 ∨ e.1 = 2
    · rw [if_pos h, if_pos h]; rfl
    · rw [if_neg h, if_neg h]; rfl
theorem enp_enc : ∀ (a : eSt), enc a = enp a ++ [0]
  | [] => rfl
  | e :: a => by
    rw [enc, enp, enp_enc a]
    by_cases h : e.1 = 1 ∨ e.1 = 2
    · rw [if_pos h, if_pos h]; rfl
    · rw [if_neg h, if_neg h]; rfl
def mRs (I : mIT) (c0 : Nat) (out : eSt) (w : List Nat) : Prop := I 75 32 = nI (c0 + (enp out).length) ∧ I 75 33 = nI w.length ∧ (∀ i, i < (enp out).length → I 86 (c0 + i) = (enp out).getD i 0) ∧ wtM I w
/-- but for the code and what waits -/
def mRf (I J : mIT) (c0 : Nat) : Prop := (∀ j, j ≠ 32 → j ≠ 33 → J 75 j = I 75 j) ∧ (∀ i, i < c0 → J 86 i = I 86 i) ∧ ∀ c, c ≠ 75 → c ≠ 86 → c ≠ 87 → J c = I c
theorem mRf_r (I : mIT) (c0 : Nat) : mRf I I c0 := ⟨fun _ _ _ => rfl, fun _ _ => rfl, fun _ _ _ _ => rfl⟩
theorem mRf_t {I J K : mIT} {c0 : Nat} (h1 : mRf I J c0) (h2 : mRf J K c0) : mRf I K c0 := ⟨fun j a b => by rw [h2.1 j a b, h1.1 j a b], fun i hi => by rw [h2.2.1 i hi, h1.2.1 i hi], fun c a b d => by rw [h2.2.2 c a b d, h1.2.2 c a b d]⟩
theorem m_puts {Fu : Nat} {I : mIT} {m : Nat} {v : Int32} (h : I 75 32 = nI m) (hm : m < 1400) : f_X12_puts Fu I v = some (mU (mU I 86 m v) 75 32 (nI (m + 1))) := by
  unfold f_X12_puts
  rw [mU_other (show (75 : Nat) ≠ 86 by decide), h, q_GI hm (by omega), q_cl (by omega), q_1]
theorem wtM_f {I J : mIT} : ∀ {w : List Nat}, (∀ i, i < w.length → J 87 i = I 87 i) → wtM I w → wtM J w
  | [], _, _ => trivial
  | c :: w, f, h => ⟨by rw [f w.length (by rw [List.length_cons]; omega)]; exact h.1, wtM_f (fun i hi => f i (by rw [List.length_cons]; omega)) h.2⟩
theorem getD_ap0 {l : List Int32} {v : Int32} {i : Nat} (hi : i < l.length + 1) : (l ++ [v]).getD i 0 = if i < l.length then l.getD i 0 else v := by
  by_cases e : i < l.length
  · rw [if_pos e, List.getD_eq_getElem?_getD, List.getD_eq_getElem?_getD, List.getElem?_append_left e]
  · rw [if_neg e, List.getD_eq_getElem?_getD, List.getElem?_append_right (by omega), show i - l.length = 0 by omega]
    rfl
/-- codes that may wait -/
def vC (w : List Nat) : Prop := ∀ c, c ∈ w → c = 0 ∨ c = 10 ∨ c = 20 ∨ c = 30 ∨ c = 40 ∨ c = 41 ∨ c = 50 ∨ c = 51 ∨ c = 60 ∨ c = 61
theorem vC_ok : ∀ {w : List Nat} {d b : Nat}, okW w d b → vC w
  | [], _, _, _ => fun c hc => absurd hc (List.not_mem_nil)
  | e :: w, d, b, h => fun c hc => by
    rcases List.mem_cons.mp hc with rfl | hc
    · rcases h with ⟨rfl, _⟩ | ⟨r, h1, _⟩
      · omega
      · unfold rkX at h1; omega
    · rcases h with ⟨_, d', _, h2⟩ | ⟨r, _, _, h3⟩
      · exact vC_ok h2 c hc
      · exact vC_ok h3 c hc
theorem mC_open {Fu c : Nat} (h : c = 0 ∨ c = 10 ∨ c = 20 ∨ c = 30 ∨ c = 40 ∨ c = 41 ∨ c = 50 ∨ c = 51 ∨ c = 60 ∨ c = 61) : f_X12_isOpen Fu (mC0 c) = some (if c = 0 then 1 else 0) := by
  rcases h with rfl | rfl | rfl | rfl | rfl | rfl | rfl | rfl | rfl | rfl <;> rfl
theorem mC_str {Fu c : Nat} (h : c = 10 ∨ c = 20 ∨ c = 30 ∨ c = 40 ∨ c = 41 ∨ c = 50 ∨ c = 51 ∨ c = 60 ∨ c = 61) : f_X12_strength Fu (mC0 c) = some (nI (c / 10)) := by
  rcases h with rfl | rfl | rfl | rfl | rfl | rfl | rfl | rfl | rfl <;> rfl
