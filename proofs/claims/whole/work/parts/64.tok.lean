/-! tokens -/
def scn (q : Nat → Bool) : Nat → Nat → Nat
  | 0, s => s
  | k + 1, s => if q s then scn q k (s + 1) else s
def scan (q : Nat → Bool) (n s : Nat) : Nat := scn q (n - s) s
theorem scan_e {q : Nat → Bool} {n s : Nat} (h : n ≤ s) : scan q n s = s := by
  unfold scan
  rw [show n - s = 0 by omega]; rfl
theorem scan_s {q : Nat → Bool} {n s : Nat} (h : s < n) : scan q n s = if q s then scan q n (s + 1) else s := by
  unfold scan
  rw [show n - s = (n - (s + 1)) + 1 by omega]; rfl
theorem scan_le {q : Nat → Bool} {n : Nat} : ∀ k s, n - s = k → s ≤ scan q n s ∧ (s ≤ n → scan q n s ≤ n)
  | 0, s, h => by rw [scan_e (by omega)]; exact ⟨Nat.le_refl _, fun h => h⟩
  | k + 1, s, h => by
    rw [scan_s (by omega)]
    by_cases e : q s = true
    · rw [if_pos e]
      have := scan_le (q := q) (n := n) k (s + 1) (by omega)
      exact ⟨by omega, fun _ => this.2 (by omega)⟩
    · rw [if_neg e]; exact ⟨Nat.le_refl _, fun h => h⟩
def bL (b : Nat) : Bool := decide (97 ≤ b) && decide (b ≤ 122)
def bD (b : Nat) : Bool := decide (48 ≤ b) && decide (b ≤ 57)
def bS (b : Nat) : Bool := b == 59 || b == 40 || b == 41 || b == 43 || b == 45 || b == 42 || b == 47 || b == 60 || b == 61
def bW (b : Nat) : Bool := b == 32 || b == 10
def tA (B : Nat → Nat) (n s : Nat) : Nat := scan (fun j => bW (B j)) n s
def tE (B : Nat → Nat) (n a : Nat) : Nat := if a < n then (if bL (B a) then scan (fun j => bL (B j)) n a else if bD (B a) then scan (fun j => bD (B j)) n a else a + 1) else a
def tK (B : Nat → Nat) (n a : Nat) : Nat := if a < n then (if bL (B a) then 1 else if bD (B a) then 2 else if bS (B a) then 3 else 4) else 0
def tB (B : Nat → Nat) (n a : Nat) : Nat := if a < n then B a else 0
def nm (B : Nat → Nat) (a : Nat) : Nat → Nat
  | 0 => 0
  | k + 1 => 10 * nm B a k + (B (a + k) - 48)
def tN (B : Nat → Nat) (n a : Nat) : Nat := nm B a (min 4 (tE B n a - a))
def tpe (B : Nat → Nat) (n : Nat) : Prop := n ≤ 700 ∧ ∀ j, j < n → B j < 256
theorem i8_b : ∀ b : Nat, b < 256 → (nI b).toInt8.toInt32 &&& 255 = nI b := by decide +kernel
theorem i8_l : ∀ b : Nat, b < 128 → (nI b).toInt8.toInt32 = nI b := by decide +kernel
def cTp (I : mIT) (B : Nat → Nat) (n : Nat) : Prop := I 1 2 = nI n ∧ ∀ j, j < n → I 2 j = (nI (B j)).toInt8.toInt32
theorem c_byteAt {Fu : Nat} {I : mIT} {B : Nat → Nat} {n v : Nat} (ht : tpe B n) (h : cTp I B n) (hv : v ≤ n) : f_X6_byteAt Fu I (nI v) = some (nI (tB B n v)) := by
  have h7 := ht.1
  unfold f_X6_byteAt tB
  rw [if_neg (by rw [q_lt0 (by omega)]; simp), h.1]
  by_cases e : v < n
  · rw [if_neg (by rw [q_le (by omega) (by omega)]; omega), if_neg (by rw [q_le (by omega) (by omega)]; omega), q_GI (by omega) (by omega), q_cl (by omega), h.2 v e, i8_b _ (ht.2 v e), if_pos e]
  · rw [if_pos (by rw [q_le (by omega) (by omega)]; omega), if_neg e]; rfl
theorem c_isL {Fu b : Nat} (hb : b < 256) : f_X6_isLetter Fu (nI b) = some (if bL b then 1 else 0) := by
  unfold f_X6_isLetter bL
  rw [show (97 : Int32) = nI 97 from rfl, show (122 : Int32) = nI 122 from rfl]
  by_cases e : b < 97
  · rw [if_pos (by rw [q_lt (by omega) (by omega)]; exact e), decide_eq_false (by omega)]; rfl
  · rw [if_neg (by rw [q_lt (by omega) (by omega)]; exact e), decide_eq_true (by omega : 97 ≤ b)]
    by_cases e2 : 122 < b
    · rw [if_pos (by rw [q_lt (by omega) (by omega)]; exact e2), decide_eq_false (by omega)]; rfl
    · rw [if_neg (by rw [q_lt (by omega) (by omega)]; exact e2), decide_eq_true (by omega)]; rfl
theorem c_isD {Fu b : Nat} (hb : b < 256) : f_X6_isDigit Fu (nI b) = some (if bD b then 1 else 0) := by
  unfold f_X6_isDigit bD
  rw [show (48 : Int32) = nI 48 from rfl, show (57 : Int32) = nI 57 from rfl]
  by_cases e : b < 48
  · rw [if_pos (by rw [q_lt (by omega) (by omega)]; exact e), decide_eq_false (by omega)]; rfl
  · rw [if_neg (by rw [q_lt (by omega) (by omega)]; exact e), decide_eq_true (by omega : 48 ≤ b)]
    by_cases e2 : 57 < b
    · rw [if_pos (by rw [q_lt (by omega) (by omega)]; exact e2), decide_eq_false (by omega)]; rfl
    · rw [if_neg (by rw [q_lt (by omega) (by omega)]; exact e2), decide_eq_true (by omega)]; rfl
theorem c_isW : ∀ b : Nat, b < 256 → (if nI b = 32 then some 1 else if nI b = 10 then some 1 else some 0 : Option Int32) = some (if bW b then 1 else 0) := by decide +kernel
theorem c_isSg : ∀ b : Nat, b < 256 → (if nI b = 59 then some 1 else if nI b = 40 then some 1 else if nI b = 41 then some 1 else if nI b = 43 then some 1 else if nI b = 45 then some 1 else if nI b = 42 then some 1 else if nI b = 47 then some 1 else if nI b = 60 then some 1 else if nI b = 61 then some 1 else some 0 : Option Int32) = some (if bS b then 1 else 0) := by decide +kernel
theorem tB_lt {B : Nat → Nat} {n v : Nat} (ht : tpe B n) : tB B n v < 256 := by
  unfold tB
  by_cases e : v < n
  · rw [if_pos e]; exact ht.2 v e
  · rw [if_neg e]; omega
theorem tB_at {B : Nat → Nat} {n v : Nat} (h : v < n) : tB B n v = B v := if_pos h
/-- the class at the token that begins at a -/
def cTk (I : mIT) (B : Nat → Nat) (n a : Nat) : Prop := cTp I B n ∧ a ≤ n ∧ I 1 3 = nI (tE B n a) ∧ I 1 4 = nI (tK B n a) ∧ I 1 5 = nI a ∧ I 1 6 = nI (tB B n a) ∧ (tK B n a = 2 → I 1 7 = nI (tE B n a - a) ∧ I 1 8 = nI (tN B n a))
def cTf (I J : mIT) : Prop := (∀ j, j < 3 ∨ 8 < j → J 1 j = I 1 j) ∧ ∀ c, c ≠ 1 → J c = I c
theorem cTp_f {I J : mIT} {B : Nat → Nat} {n : Nat} (h : cTp I B n) (f : cTf I J) : cTp J B n := ⟨by rw [f.1 2 (by omega)]; exact h.1, fun j hj => by rw [f.2 2 (by decide)]; exact h.2 j hj⟩
theorem cTf_t {I J K : mIT} (h1 : cTf I J) (h2 : cTf J K) : cTf I K := ⟨fun j hj => by rw [h2.1 j hj, h1.1 j hj], fun c hc => by rw [h2.2 c hc, h1.2 c hc]⟩
theorem cTf_u {I J : mIT} {j : Nat} {v : Int32} (h : cTf I J) (hj : 3 ≤ j ∧ j ≤ 8) : cTf I (mU J 1 j v) := ⟨fun i hi => by rw [q_Uj (by omega)]; exact h.1 i hi, fun c hc => by rw [mU_other hc]; exact h.2 c hc⟩
theorem cTf_r (I : mIT) : cTf I I := ⟨fun _ _ => rfl, fun _ _ => rfl⟩
