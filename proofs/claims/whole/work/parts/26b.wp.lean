/-! what a piece of program does: it returns, and what holds of it then -/
def wp {α : Type} (x : Option α) (Q : α → Prop) : Prop := ∃ y, x = some y ∧ Q y
theorem wp_s {α : Type} {y : α} {Q : α → Prop} (h : Q y) : wp (some y) Q := ⟨y, rfl, h⟩
theorem wp_e {α : Type} {x : Option α} {y : α} {Q : α → Prop} (e : x = some y) (h : Q y) : wp x Q := ⟨y, e, h⟩
theorem wp_m {α : Type} {x : Option α} {Q K : α → Prop} (h : wp x Q) (k : ∀ y, Q y → K y) : wp x K := by
  obtain ⟨y, e, hy⟩ := h
  exact ⟨y, e, k y hy⟩
theorem wp_q {α : Type} {x : Option α} {v : α} (h : wp x (fun y => y = v)) : x = some v := by
  obtain ⟨y, e, hy⟩ := h
  rw [e, hy]
theorem wp_B {α β : Type} {x : Option α} {f : α → Option β} {Q : β → Prop} {K : α → Prop} (h : wp x K) (k : ∀ y, K y → wp (f y) Q) : wp (oB x f) Q := by
  obtain ⟨y, rfl, hy⟩ := h
  exact k y hy
theorem wp_Be {α β : Type} {x : Option α} {y : α} {f : α → Option β} {Q : β → Prop} (e : x = some y) (k : wp (f y) Q) : wp (oB x f) Q := by
  subst e
  exact k
theorem wp_G {α : Type} {b : Bool} {k : Option α} {Q : α → Prop} (hb : b = true) (h : wp k Q) : wp (oG b k) Q := by
  rw [q_G hb]
  exact h
theorem wp_i {α : Type} {c p : Prop} [Decidable c] {x y : Option α} {Q : α → Prop} (e : c = p) (h1 : p → wp x Q) (h2 : ¬ p → wp y Q) : wp (if c then x else y) Q := by
  subst e
  by_cases h : c
  · rw [if_pos h]; exact h1 h
  · rw [if_neg h]; exact h2 h
theorem wp_f {α : Type} {c : Prop} [Decidable c] {x y : Option α} {Q : α → Prop} (h1 : c → wp x Q) (h2 : ¬ c → wp y Q) : wp (if c then x else y) Q := wp_i rfl h1 h2
theorem wp_p {α : Type} {c : Prop} [Decidable c] {x y : Option α} {Q : α → Prop} (h : c) (k : wp x Q) : wp (if c then x else y) Q := by rw [if_pos h]; exact k
theorem wp_n {α : Type} {c : Prop} [Decidable c] {x y : Option α} {Q : α → Prop} (h : ¬ c) (k : wp y Q) : wp (if c then x else y) Q := by rw [if_neg h]; exact k
theorem wp_loop {σ β : Type} {body : (σ → Option β) → σ → Option β} (Inv : Nat → σ → Prop) (Q : β → Prop)
    (h : ∀ d s self, Inv d s → (∀ d' s', d' < d → Inv d' s' → wp (self s') Q) → wp (body self s) Q) :
    ∀ N d s, Inv d s → d < N → wp (loopF body N s) Q := by
  intro N
  induction N with
  | zero => intro d s _ hd; omega
  | succ N ih =>
    intro d s hi hd
    exact h d s (loopF body N) hi (fun d' s' h1 h2 => ih d' s' h2 (by omega))
/-- a loop that counts i up to n, what goes with it given by i -/
theorem q_for {σ β : Type} {body : (σ → Option β) → σ → Option β} (st : Nat → σ) (n : Nat) (fin : Option β) (hs : ∀ i, i < n → ∀ self, body self (st i) = self (st (i + 1))) (he : ∀ self, body self (st n) = fin) : ∀ N, n < N → loopF body N (st 0) = fin := by
  have key : ∀ N k, k ≤ n → n - k < N → loopF body N (st k) = fin := by
    intro N
    induction N with
    | zero => intro k _ hd; omega
    | succ N ih =>
      intro k hk hd
      by_cases e : k = n
      · subst e; exact he _
      · exact (hs k (by omega) _).trans (ih (k + 1) (by omega) (by omega))
  exact fun N h => key N 0 (by omega) (by omega)
/-- the same, with a way out -/
def sFd {β : Type} (g : Nat → Option β) (fin : β) : Nat → Nat → β
  | _, 0 => fin
  | i, k + 1 => match g i with
    | some y => y
    | none => sFd g fin (i + 1) k
theorem q_find {σ β : Type} {body : (σ → Option β) → σ → Option β} (st : Nat → σ) (n : Nat) (fin : β) (g : Nat → Option β) (hs : ∀ i, i < n → ∀ self, body self (st i) = match g i with
    | some y => some y
    | none => self (st (i + 1))) (he : ∀ self, body self (st n) = some fin) : ∀ N, n < N → loopF body N (st 0) = some (sFd g fin 0 n) := by
  have key : ∀ N k, k ≤ n → n - k < N → loopF body N (st k) = some (sFd g fin k (n - k)) := by
    intro N
    induction N with
    | zero => intro k _ hd; omega
    | succ N ih =>
      intro k hk hd
      by_cases e : k = n
      · subst e; rw [Nat.sub_self]; exact he _
      · have e2 : n - k = (n - (k + 1)) + 1 := by omega
        rw [e2]
        refine (hs k (by omega) _).trans ?_
        unfold sFd
        cases g k with
        | some y => rfl
        | none => exact ih (k + 1) (by omega) (by omega)
  exact fun N h => by have := key N 0 (by omega) (by omega); rwa [Nat.sub_zero] at this
theorem sFd_c {β : Type} {g h : Nat → Option β} {fin : β} : ∀ (k i : Nat), (∀ j, i ≤ j → j < i + k → g j = h j) → sFd g fin i k = sFd h fin i k := by
  intro k
  induction k with
  | zero => intro i _; rfl
  | succ k ih =>
    intro i e
    unfold sFd
    rw [e i (by omega) (by omega), ih (i + 1) (fun j h1 h2 => e j (by omega) (by omega))]
/-! numbers -/
theorem q_GI {α : Type} {i n : Nat} {k : Option α} (h : i < n) (hn : n < 2147483648) : oG (inB (nI i) n) k = k := q_G (q_in h hn)
theorem q_G0 {α : Type} {n : Nat} {k : Option α} (h : 0 < n) (hn : n < 2147483648) : oG (inB 0 n) k = k := q_G (q_in (i := 0) h hn)
theorem q_p0 (a : Nat) : nI a + 0 = nI a := Int32.add_zero _
theorem q_eq0 {a : Nat} (ha : a < 2147483648) : (nI a = 0) = (a = 0) := q_eq (a := a) (b := 0) ha (by omega)
theorem q_le0 {a : Nat} (ha : a < 2147483648) : (nI a ≤ 0) = (a = 0) := by
  have h := q_le (a := a) (b := 0) ha (by omega)
  rw [show (0 : Int32) = nI 0 from rfl, h]
  simp
theorem q_0lt {a : Nat} (ha : a < 2147483648) : (0 < nI a) = (0 < a) := q_lt (a := 0) (b := a) (by omega) ha
theorem q_eqm1 {a : Nat} (ha : a < 2147483648) : (nI a = -1) = False := by
  apply eq_false
  intro e
  have h : (nI a).toInt = (-1 : Int32).toInt := by rw [e]
  rw [nI_toInt (by omega), show (-1 : Int32).toInt = -1 from rfl] at h
  omega
theorem q_eqm2 {a : Nat} (ha : a < 2147483648) : (nI a = -2) = False := by
  apply eq_false
  intro e
  have h : (nI a).toInt = (-2 : Int32).toInt := by rw [e]
  rw [nI_toInt (by omega), show (-2 : Int32).toInt = -2 from rfl] at h
  omega
theorem q_of (x : Int32) (h : 0 ≤ x) : ∃ a, a < 2147483648 ∧ x = nI a := by
  obtain ⟨j, h1, h2⟩ := nI_of (x := x) (Int32.not_lt.mpr h)
  exact ⟨j, by omega, h2⟩
theorem a_1 (a : Nat) : nI a + (1 : Int32) = nI (a + 1) := nI_add a 1
theorem l_1 (a : Nat) : (1 : Int32) + nI a = nI (1 + a) := nI_add 1 a
theorem k_1 : (1 : Int32) = nI 1 := rfl
theorem c_1 : (1 : Int32).toNatClampNeg = 1 := rfl
theorem lt_1 {a : Nat} (h : a < 2147483648) : (nI a < (1 : Int32)) = (a < 1) := q_lt (a := a) (b := 1) h (by omega)
theorem le_1 {a : Nat} (h : a < 2147483648) : (nI a ≤ (1 : Int32)) = (a ≤ 1) := q_le (a := a) (b := 1) h (by omega)
theorem gt_1 {a : Nat} (h : a < 2147483648) : ((1 : Int32) < nI a) = (1 < a) := q_lt (a := 1) (b := a) (by omega) h
theorem ge_1 {a : Nat} (h : a < 2147483648) : ((1 : Int32) ≤ nI a) = (1 ≤ a) := q_le (a := 1) (b := a) (by omega) h
theorem eq_1 {a : Nat} (h : a < 2147483648) : (nI a = (1 : Int32)) = (a = 1) := q_eq (a := a) (b := 1) h (by omega)
theorem mr_1 (a : Nat) : nI a * (1 : Int32) = nI (a * 1) := pk_mul a 1
theorem ml_1 (a : Nat) : (1 : Int32) * nI a = nI (1 * a) := pk_mul 1 a
theorem a_2 (a : Nat) : nI a + (2 : Int32) = nI (a + 2) := nI_add a 2
theorem l_2 (a : Nat) : (2 : Int32) + nI a = nI (2 + a) := nI_add 2 a
theorem k_2 : (2 : Int32) = nI 2 := rfl
theorem c_2 : (2 : Int32).toNatClampNeg = 2 := rfl
theorem lt_2 {a : Nat} (h : a < 2147483648) : (nI a < (2 : Int32)) = (a < 2) := q_lt (a := a) (b := 2) h (by omega)
theorem le_2 {a : Nat} (h : a < 2147483648) : (nI a ≤ (2 : Int32)) = (a ≤ 2) := q_le (a := a) (b := 2) h (by omega)
theorem gt_2 {a : Nat} (h : a < 2147483648) : ((2 : Int32) < nI a) = (2 < a) := q_lt (a := 2) (b := a) (by omega) h
theorem ge_2 {a : Nat} (h : a < 2147483648) : ((2 : Int32) ≤ nI a) = (2 ≤ a) := q_le (a := 2) (b := a) (by omega) h
theorem eq_2 {a : Nat} (h : a < 2147483648) : (nI a = (2 : Int32)) = (a = 2) := q_eq (a := a) (b := 2) h (by omega)
theorem mr_2 (a : Nat) : nI a * (2 : Int32) = nI (a * 2) := pk_mul a 2
theorem ml_2 (a : Nat) : (2 : Int32) * nI a = nI (2 * a) := pk_mul 2 a
theorem a_3 (a : Nat) : nI a + (3 : Int32) = nI (a + 3) := nI_add a 3
theorem l_3 (a : Nat) : (3 : Int32) + nI a = nI (3 + a) := nI_add 3 a
theorem k_3 : (3 : Int32) = nI 3 := rfl
theorem c_3 : (3 : Int32).toNatClampNeg = 3 := rfl
theorem lt_3 {a : Nat} (h : a < 2147483648) : (nI a < (3 : Int32)) = (a < 3) := q_lt (a := a) (b := 3) h (by omega)
theorem le_3 {a : Nat} (h : a < 2147483648) : (nI a ≤ (3 : Int32)) = (a ≤ 3) := q_le (a := a) (b := 3) h (by omega)
theorem gt_3 {a : Nat} (h : a < 2147483648) : ((3 : Int32) < nI a) = (3 < a) := q_lt (a := 3) (b := a) (by omega) h
theorem ge_3 {a : Nat} (h : a < 2147483648) : ((3 : Int32) ≤ nI a) = (3 ≤ a) := q_le (a := 3) (b := a) (by omega) h
theorem eq_3 {a : Nat} (h : a < 2147483648) : (nI a = (3 : Int32)) = (a = 3) := q_eq (a := a) (b := 3) h (by omega)
theorem mr_3 (a : Nat) : nI a * (3 : Int32) = nI (a * 3) := pk_mul a 3
theorem ml_3 (a : Nat) : (3 : Int32) * nI a = nI (3 * a) := pk_mul 3 a
theorem a_4 (a : Nat) : nI a + (4 : Int32) = nI (a + 4) := nI_add a 4
theorem l_4 (a : Nat) : (4 : Int32) + nI a = nI (4 + a) := nI_add 4 a
theorem k_4 : (4 : Int32) = nI 4 := rfl
theorem c_4 : (4 : Int32).toNatClampNeg = 4 := rfl
theorem lt_4 {a : Nat} (h : a < 2147483648) : (nI a < (4 : Int32)) = (a < 4) := q_lt (a := a) (b := 4) h (by omega)
theorem le_4 {a : Nat} (h : a < 2147483648) : (nI a ≤ (4 : Int32)) = (a ≤ 4) := q_le (a := a) (b := 4) h (by omega)
theorem gt_4 {a : Nat} (h : a < 2147483648) : ((4 : Int32) < nI a) = (4 < a) := q_lt (a := 4) (b := a) (by omega) h
theorem ge_4 {a : Nat} (h : a < 2147483648) : ((4 : Int32) ≤ nI a) = (4 ≤ a) := q_le (a := 4) (b := a) (by omega) h
theorem eq_4 {a : Nat} (h : a < 2147483648) : (nI a = (4 : Int32)) = (a = 4) := q_eq (a := a) (b := 4) h (by omega)
theorem mr_4 (a : Nat) : nI a * (4 : Int32) = nI (a * 4) := pk_mul a 4
theorem ml_4 (a : Nat) : (4 : Int32) * nI a = nI (4 * a) := pk_mul 4 a
theorem a_5 (a : Nat) : nI a + (5 : Int32) = nI (a + 5) := nI_add a 5
theorem l_5 (a : Nat) : (5 : Int32) + nI a = nI (5 + a) := nI_add 5 a
theorem k_5 : (5 : Int32) = nI 5 := rfl
theorem c_5 : (5 : Int32).toNatClampNeg = 5 := rfl
theorem lt_5 {a : Nat} (h : a < 2147483648) : (nI a < (5 : Int32)) = (a < 5) := q_lt (a := a) (b := 5) h (by omega)
theorem le_5 {a : Nat} (h : a < 2147483648) : (nI a ≤ (5 : Int32)) = (a ≤ 5) := q_le (a := a) (b := 5) h (by omega)
theorem gt_5 {a : Nat} (h : a < 2147483648) : ((5 : Int32) < nI a) = (5 < a) := q_lt (a := 5) (b := a) (by omega) h
theorem ge_5 {a : Nat} (h : a < 2147483648) : ((5 : Int32) ≤ nI a) = (5 ≤ a) := q_le (a := 5) (b := a) (by omega) h
theorem eq_5 {a : Nat} (h : a < 2147483648) : (nI a = (5 : Int32)) = (a = 5) := q_eq (a := a) (b := 5) h (by omega)
theorem mr_5 (a : Nat) : nI a * (5 : Int32) = nI (a * 5) := pk_mul a 5
theorem ml_5 (a : Nat) : (5 : Int32) * nI a = nI (5 * a) := pk_mul 5 a
theorem a_6 (a : Nat) : nI a + (6 : Int32) = nI (a + 6) := nI_add a 6
theorem l_6 (a : Nat) : (6 : Int32) + nI a = nI (6 + a) := nI_add 6 a
theorem k_6 : (6 : Int32) = nI 6 := rfl
theorem c_6 : (6 : Int32).toNatClampNeg = 6 := rfl
theorem lt_6 {a : Nat} (h : a < 2147483648) : (nI a < (6 : Int32)) = (a < 6) := q_lt (a := a) (b := 6) h (by omega)
theorem le_6 {a : Nat} (h : a < 2147483648) : (nI a ≤ (6 : Int32)) = (a ≤ 6) := q_le (a := a) (b := 6) h (by omega)
theorem gt_6 {a : Nat} (h : a < 2147483648) : ((6 : Int32) < nI a) = (6 < a) := q_lt (a := 6) (b := a) (by omega) h
theorem ge_6 {a : Nat} (h : a < 2147483648) : ((6 : Int32) ≤ nI a) = (6 ≤ a) := q_le (a := 6) (b := a) (by omega) h
theorem eq_6 {a : Nat} (h : a < 2147483648) : (nI a = (6 : Int32)) = (a = 6) := q_eq (a := a) (b := 6) h (by omega)
theorem mr_6 (a : Nat) : nI a * (6 : Int32) = nI (a * 6) := pk_mul a 6
theorem ml_6 (a : Nat) : (6 : Int32) * nI a = nI (6 * a) := pk_mul 6 a
theorem a_7 (a : Nat) : nI a + (7 : Int32) = nI (a + 7) := nI_add a 7
theorem l_7 (a : Nat) : (7 : Int32) + nI a = nI (7 + a) := nI_add 7 a
theorem k_7 : (7 : Int32) = nI 7 := rfl
theorem c_7 : (7 : Int32).toNatClampNeg = 7 := rfl
theorem lt_7 {a : Nat} (h : a < 2147483648) : (nI a < (7 : Int32)) = (a < 7) := q_lt (a := a) (b := 7) h (by omega)
theorem le_7 {a : Nat} (h : a < 2147483648) : (nI a ≤ (7 : Int32)) = (a ≤ 7) := q_le (a := a) (b := 7) h (by omega)
theorem gt_7 {a : Nat} (h : a < 2147483648) : ((7 : Int32) < nI a) = (7 < a) := q_lt (a := 7) (b := a) (by omega) h
theorem ge_7 {a : Nat} (h : a < 2147483648) : ((7 : Int32) ≤ nI a) = (7 ≤ a) := q_le (a := 7) (b := a) (by omega) h
theorem eq_7 {a : Nat} (h : a < 2147483648) : (nI a = (7 : Int32)) = (a = 7) := q_eq (a := a) (b := 7) h (by omega)
theorem mr_7 (a : Nat) : nI a * (7 : Int32) = nI (a * 7) := pk_mul a 7
theorem ml_7 (a : Nat) : (7 : Int32) * nI a = nI (7 * a) := pk_mul 7 a
theorem a_8 (a : Nat) : nI a + (8 : Int32) = nI (a + 8) := nI_add a 8
theorem l_8 (a : Nat) : (8 : Int32) + nI a = nI (8 + a) := nI_add 8 a
theorem k_8 : (8 : Int32) = nI 8 := rfl
theorem c_8 : (8 : Int32).toNatClampNeg = 8 := rfl
theorem lt_8 {a : Nat} (h : a < 2147483648) : (nI a < (8 : Int32)) = (a < 8) := q_lt (a := a) (b := 8) h (by omega)
theorem le_8 {a : Nat} (h : a < 2147483648) : (nI a ≤ (8 : Int32)) = (a ≤ 8) := q_le (a := a) (b := 8) h (by omega)
theorem gt_8 {a : Nat} (h : a < 2147483648) : ((8 : Int32) < nI a) = (8 < a) := q_lt (a := 8) (b := a) (by omega) h
theorem ge_8 {a : Nat} (h : a < 2147483648) : ((8 : Int32) ≤ nI a) = (8 ≤ a) := q_le (a := 8) (b := a) (by omega) h
theorem eq_8 {a : Nat} (h : a < 2147483648) : (nI a = (8 : Int32)) = (a = 8) := q_eq (a := a) (b := 8) h (by omega)
theorem mr_8 (a : Nat) : nI a * (8 : Int32) = nI (a * 8) := pk_mul a 8
theorem ml_8 (a : Nat) : (8 : Int32) * nI a = nI (8 * a) := pk_mul 8 a
theorem a_9 (a : Nat) : nI a + (9 : Int32) = nI (a + 9) := nI_add a 9
theorem l_9 (a : Nat) : (9 : Int32) + nI a = nI (9 + a) := nI_add 9 a
theorem k_9 : (9 : Int32) = nI 9 := rfl
theorem c_9 : (9 : Int32).toNatClampNeg = 9 := rfl
theorem lt_9 {a : Nat} (h : a < 2147483648) : (nI a < (9 : Int32)) = (a < 9) := q_lt (a := a) (b := 9) h (by omega)
theorem le_9 {a : Nat} (h : a < 2147483648) : (nI a ≤ (9 : Int32)) = (a ≤ 9) := q_le (a := a) (b := 9) h (by omega)
theorem gt_9 {a : Nat} (h : a < 2147483648) : ((9 : Int32) < nI a) = (9 < a) := q_lt (a := 9) (b := a) (by omega) h
theorem ge_9 {a : Nat} (h : a < 2147483648) : ((9 : Int32) ≤ nI a) = (9 ≤ a) := q_le (a := 9) (b := a) (by omega) h
theorem eq_9 {a : Nat} (h : a < 2147483648) : (nI a = (9 : Int32)) = (a = 9) := q_eq (a := a) (b := 9) h (by omega)
theorem mr_9 (a : Nat) : nI a * (9 : Int32) = nI (a * 9) := pk_mul a 9
theorem ml_9 (a : Nat) : (9 : Int32) * nI a = nI (9 * a) := pk_mul 9 a
theorem a_10 (a : Nat) : nI a + (10 : Int32) = nI (a + 10) := nI_add a 10
theorem l_10 (a : Nat) : (10 : Int32) + nI a = nI (10 + a) := nI_add 10 a
theorem k_10 : (10 : Int32) = nI 10 := rfl
theorem c_10 : (10 : Int32).toNatClampNeg = 10 := rfl
theorem lt_10 {a : Nat} (h : a < 2147483648) : (nI a < (10 : Int32)) = (a < 10) := q_lt (a := a) (b := 10) h (by omega)
theorem le_10 {a : Nat} (h : a < 2147483648) : (nI a ≤ (10 : Int32)) = (a ≤ 10) := q_le (a := a) (b := 10) h (by omega)
theorem gt_10 {a : Nat} (h : a < 2147483648) : ((10 : Int32) < nI a) = (10 < a) := q_lt (a := 10) (b := a) (by omega) h
theorem ge_10 {a : Nat} (h : a < 2147483648) : ((10 : Int32) ≤ nI a) = (10 ≤ a) := q_le (a := 10) (b := a) (by omega) h
theorem eq_10 {a : Nat} (h : a < 2147483648) : (nI a = (10 : Int32)) = (a = 10) := q_eq (a := a) (b := 10) h (by omega)
theorem mr_10 (a : Nat) : nI a * (10 : Int32) = nI (a * 10) := pk_mul a 10
theorem ml_10 (a : Nat) : (10 : Int32) * nI a = nI (10 * a) := pk_mul 10 a
theorem a_11 (a : Nat) : nI a + (11 : Int32) = nI (a + 11) := nI_add a 11
theorem l_11 (a : Nat) : (11 : Int32) + nI a = nI (11 + a) := nI_add 11 a
theorem k_11 : (11 : Int32) = nI 11 := rfl
theorem c_11 : (11 : Int32).toNatClampNeg = 11 := rfl
theorem lt_11 {a : Nat} (h : a < 2147483648) : (nI a < (11 : Int32)) = (a < 11) := q_lt (a := a) (b := 11) h (by omega)
theorem le_11 {a : Nat} (h : a < 2147483648) : (nI a ≤ (11 : Int32)) = (a ≤ 11) := q_le (a := a) (b := 11) h (by omega)
theorem gt_11 {a : Nat} (h : a < 2147483648) : ((11 : Int32) < nI a) = (11 < a) := q_lt (a := 11) (b := a) (by omega) h
theorem ge_11 {a : Nat} (h : a < 2147483648) : ((11 : Int32) ≤ nI a) = (11 ≤ a) := q_le (a := 11) (b := a) (by omega) h
theorem eq_11 {a : Nat} (h : a < 2147483648) : (nI a = (11 : Int32)) = (a = 11) := q_eq (a := a) (b := 11) h (by omega)
theorem mr_11 (a : Nat) : nI a * (11 : Int32) = nI (a * 11) := pk_mul a 11
theorem ml_11 (a : Nat) : (11 : Int32) * nI a = nI (11 * a) := pk_mul 11 a
theorem a_12 (a : Nat) : nI a + (12 : Int32) = nI (a + 12) := nI_add a 12
theorem l_12 (a : Nat) : (12 : Int32) + nI a = nI (12 + a) := nI_add 12 a
theorem k_12 : (12 : Int32) = nI 12 := rfl
theorem c_12 : (12 : Int32).toNatClampNeg = 12 := rfl
theorem lt_12 {a : Nat} (h : a < 2147483648) : (nI a < (12 : Int32)) = (a < 12) := q_lt (a := a) (b := 12) h (by omega)
theorem le_12 {a : Nat} (h : a < 2147483648) : (nI a ≤ (12 : Int32)) = (a ≤ 12) := q_le (a := a) (b := 12) h (by omega)
theorem gt_12 {a : Nat} (h : a < 2147483648) : ((12 : Int32) < nI a) = (12 < a) := q_lt (a := 12) (b := a) (by omega) h
theorem ge_12 {a : Nat} (h : a < 2147483648) : ((12 : Int32) ≤ nI a) = (12 ≤ a) := q_le (a := 12) (b := a) (by omega) h
theorem eq_12 {a : Nat} (h : a < 2147483648) : (nI a = (12 : Int32)) = (a = 12) := q_eq (a := a) (b := 12) h (by omega)
theorem mr_12 (a : Nat) : nI a * (12 : Int32) = nI (a * 12) := pk_mul a 12
theorem ml_12 (a : Nat) : (12 : Int32) * nI a = nI (12 * a) := pk_mul 12 a
theorem a_15 (a : Nat) : nI a + (15 : Int32) = nI (a + 15) := nI_add a 15
theorem l_15 (a : Nat) : (15 : Int32) + nI a = nI (15 + a) := nI_add 15 a
theorem k_15 : (15 : Int32) = nI 15 := rfl
theorem c_15 : (15 : Int32).toNatClampNeg = 15 := rfl
theorem lt_15 {a : Nat} (h : a < 2147483648) : (nI a < (15 : Int32)) = (a < 15) := q_lt (a := a) (b := 15) h (by omega)
theorem le_15 {a : Nat} (h : a < 2147483648) : (nI a ≤ (15 : Int32)) = (a ≤ 15) := q_le (a := a) (b := 15) h (by omega)
theorem gt_15 {a : Nat} (h : a < 2147483648) : ((15 : Int32) < nI a) = (15 < a) := q_lt (a := 15) (b := a) (by omega) h
theorem ge_15 {a : Nat} (h : a < 2147483648) : ((15 : Int32) ≤ nI a) = (15 ≤ a) := q_le (a := 15) (b := a) (by omega) h
theorem eq_15 {a : Nat} (h : a < 2147483648) : (nI a = (15 : Int32)) = (a = 15) := q_eq (a := a) (b := 15) h (by omega)
theorem mr_15 (a : Nat) : nI a * (15 : Int32) = nI (a * 15) := pk_mul a 15
theorem ml_15 (a : Nat) : (15 : Int32) * nI a = nI (15 * a) := pk_mul 15 a
theorem a_16 (a : Nat) : nI a + (16 : Int32) = nI (a + 16) := nI_add a 16
theorem l_16 (a : Nat) : (16 : Int32) + nI a = nI (16 + a) := nI_add 16 a
theorem k_16 : (16 : Int32) = nI 16 := rfl
theorem c_16 : (16 : Int32).toNatClampNeg = 16 := rfl
theorem lt_16 {a : Nat} (h : a < 2147483648) : (nI a < (16 : Int32)) = (a < 16) := q_lt (a := a) (b := 16) h (by omega)
theorem le_16 {a : Nat} (h : a < 2147483648) : (nI a ≤ (16 : Int32)) = (a ≤ 16) := q_le (a := a) (b := 16) h (by omega)
theorem gt_16 {a : Nat} (h : a < 2147483648) : ((16 : Int32) < nI a) = (16 < a) := q_lt (a := 16) (b := a) (by omega) h
theorem ge_16 {a : Nat} (h : a < 2147483648) : ((16 : Int32) ≤ nI a) = (16 ≤ a) := q_le (a := 16) (b := a) (by omega) h
theorem eq_16 {a : Nat} (h : a < 2147483648) : (nI a = (16 : Int32)) = (a = 16) := q_eq (a := a) (b := 16) h (by omega)
theorem mr_16 (a : Nat) : nI a * (16 : Int32) = nI (a * 16) := pk_mul a 16
theorem ml_16 (a : Nat) : (16 : Int32) * nI a = nI (16 * a) := pk_mul 16 a
theorem a_18 (a : Nat) : nI a + (18 : Int32) = nI (a + 18) := nI_add a 18
theorem l_18 (a : Nat) : (18 : Int32) + nI a = nI (18 + a) := nI_add 18 a
theorem k_18 : (18 : Int32) = nI 18 := rfl
theorem c_18 : (18 : Int32).toNatClampNeg = 18 := rfl
theorem lt_18 {a : Nat} (h : a < 2147483648) : (nI a < (18 : Int32)) = (a < 18) := q_lt (a := a) (b := 18) h (by omega)
theorem le_18 {a : Nat} (h : a < 2147483648) : (nI a ≤ (18 : Int32)) = (a ≤ 18) := q_le (a := a) (b := 18) h (by omega)
theorem gt_18 {a : Nat} (h : a < 2147483648) : ((18 : Int32) < nI a) = (18 < a) := q_lt (a := 18) (b := a) (by omega) h
theorem ge_18 {a : Nat} (h : a < 2147483648) : ((18 : Int32) ≤ nI a) = (18 ≤ a) := q_le (a := 18) (b := a) (by omega) h
theorem eq_18 {a : Nat} (h : a < 2147483648) : (nI a = (18 : Int32)) = (a = 18) := q_eq (a := a) (b := 18) h (by omega)
theorem mr_18 (a : Nat) : nI a * (18 : Int32) = nI (a * 18) := pk_mul a 18
theorem ml_18 (a : Nat) : (18 : Int32) * nI a = nI (18 * a) := pk_mul 18 a
theorem a_20 (a : Nat) : nI a + (20 : Int32) = nI (a + 20) := nI_add a 20
theorem l_20 (a : Nat) : (20 : Int32) + nI a = nI (20 + a) := nI_add 20 a
theorem k_20 : (20 : Int32) = nI 20 := rfl
theorem c_20 : (20 : Int32).toNatClampNeg = 20 := rfl
theorem lt_20 {a : Nat} (h : a < 2147483648) : (nI a < (20 : Int32)) = (a < 20) := q_lt (a := a) (b := 20) h (by omega)
theorem le_20 {a : Nat} (h : a < 2147483648) : (nI a ≤ (20 : Int32)) = (a ≤ 20) := q_le (a := a) (b := 20) h (by omega)
theorem gt_20 {a : Nat} (h : a < 2147483648) : ((20 : Int32) < nI a) = (20 < a) := q_lt (a := 20) (b := a) (by omega) h
theorem ge_20 {a : Nat} (h : a < 2147483648) : ((20 : Int32) ≤ nI a) = (20 ≤ a) := q_le (a := 20) (b := a) (by omega) h
theorem eq_20 {a : Nat} (h : a < 2147483648) : (nI a = (20 : Int32)) = (a = 20) := q_eq (a := a) (b := 20) h (by omega)
theorem mr_20 (a : Nat) : nI a * (20 : Int32) = nI (a * 20) := pk_mul a 20
theorem ml_20 (a : Nat) : (20 : Int32) * nI a = nI (20 * a) := pk_mul 20 a
theorem a_21 (a : Nat) : nI a + (21 : Int32) = nI (a + 21) := nI_add a 21
theorem l_21 (a : Nat) : (21 : Int32) + nI a = nI (21 + a) := nI_add 21 a
theorem k_21 : (21 : Int32) = nI 21 := rfl
theorem c_21 : (21 : Int32).toNatClampNeg = 21 := rfl
theorem lt_21 {a : Nat} (h : a < 2147483648) : (nI a < (21 : Int32)) = (a < 21) := q_lt (a := a) (b := 21) h (by omega)
theorem le_21 {a : Nat} (h : a < 2147483648) : (nI a ≤ (21 : Int32)) = (a ≤ 21) := q_le (a := a) (b := 21) h (by omega)
theorem gt_21 {a : Nat} (h : a < 2147483648) : ((21 : Int32) < nI a) = (21 < a) := q_lt (a := 21) (b := a) (by omega) h
theorem ge_21 {a : Nat} (h : a < 2147483648) : ((21 : Int32) ≤ nI a) = (21 ≤ a) := q_le (a := 21) (b := a) (by omega) h
theorem eq_21 {a : Nat} (h : a < 2147483648) : (nI a = (21 : Int32)) = (a = 21) := q_eq (a := a) (b := 21) h (by omega)
theorem mr_21 (a : Nat) : nI a * (21 : Int32) = nI (a * 21) := pk_mul a 21
theorem ml_21 (a : Nat) : (21 : Int32) * nI a = nI (21 * a) := pk_mul 21 a
theorem a_24 (a : Nat) : nI a + (24 : Int32) = nI (a + 24) := nI_add a 24
theorem l_24 (a : Nat) : (24 : Int32) + nI a = nI (24 + a) := nI_add 24 a
theorem k_24 : (24 : Int32) = nI 24 := rfl
theorem c_24 : (24 : Int32).toNatClampNeg = 24 := rfl
theorem lt_24 {a : Nat} (h : a < 2147483648) : (nI a < (24 : Int32)) = (a < 24) := q_lt (a := a) (b := 24) h (by omega)
theorem le_24 {a : Nat} (h : a < 2147483648) : (nI a ≤ (24 : Int32)) = (a ≤ 24) := q_le (a := a) (b := 24) h (by omega)
theorem gt_24 {a : Nat} (h : a < 2147483648) : ((24 : Int32) < nI a) = (24 < a) := q_lt (a := 24) (b := a) (by omega) h
theorem ge_24 {a : Nat} (h : a < 2147483648) : ((24 : Int32) ≤ nI a) = (24 ≤ a) := q_le (a := 24) (b := a) (by omega) h
theorem eq_24 {a : Nat} (h : a < 2147483648) : (nI a = (24 : Int32)) = (a = 24) := q_eq (a := a) (b := 24) h (by omega)
theorem mr_24 (a : Nat) : nI a * (24 : Int32) = nI (a * 24) := pk_mul a 24
theorem ml_24 (a : Nat) : (24 : Int32) * nI a = nI (24 * a) := pk_mul 24 a
theorem a_29 (a : Nat) : nI a + (29 : Int32) = nI (a + 29) := nI_add a 29
theorem l_29 (a : Nat) : (29 : Int32) + nI a = nI (29 + a) := nI_add 29 a
theorem k_29 : (29 : Int32) = nI 29 := rfl
theorem c_29 : (29 : Int32).toNatClampNeg = 29 := rfl
theorem lt_29 {a : Nat} (h : a < 2147483648) : (nI a < (29 : Int32)) = (a < 29) := q_lt (a := a) (b := 29) h (by omega)
theorem le_29 {a : Nat} (h : a < 2147483648) : (nI a ≤ (29 : Int32)) = (a ≤ 29) := q_le (a := a) (b := 29) h (by omega)
theorem gt_29 {a : Nat} (h : a < 2147483648) : ((29 : Int32) < nI a) = (29 < a) := q_lt (a := 29) (b := a) (by omega) h
theorem ge_29 {a : Nat} (h : a < 2147483648) : ((29 : Int32) ≤ nI a) = (29 ≤ a) := q_le (a := 29) (b := a) (by omega) h
theorem eq_29 {a : Nat} (h : a < 2147483648) : (nI a = (29 : Int32)) = (a = 29) := q_eq (a := a) (b := 29) h (by omega)
theorem mr_29 (a : Nat) : nI a * (29 : Int32) = nI (a * 29) := pk_mul a 29
theorem ml_29 (a : Nat) : (29 : Int32) * nI a = nI (29 * a) := pk_mul 29 a
theorem a_30 (a : Nat) : nI a + (30 : Int32) = nI (a + 30) := nI_add a 30
theorem l_30 (a : Nat) : (30 : Int32) + nI a = nI (30 + a) := nI_add 30 a
theorem k_30 : (30 : Int32) = nI 30 := rfl
theorem c_30 : (30 : Int32).toNatClampNeg = 30 := rfl
theorem lt_30 {a : Nat} (h : a < 2147483648) : (nI a < (30 : Int32)) = (a < 30) := q_lt (a := a) (b := 30) h (by omega)
theorem le_30 {a : Nat} (h : a < 2147483648) : (nI a ≤ (30 : Int32)) = (a ≤ 30) := q_le (a := a) (b := 30) h (by omega)
theorem gt_30 {a : Nat} (h : a < 2147483648) : ((30 : Int32) < nI a) = (30 < a) := q_lt (a := 30) (b := a) (by omega) h
theorem ge_30 {a : Nat} (h : a < 2147483648) : ((30 : Int32) ≤ nI a) = (30 ≤ a) := q_le (a := 30) (b := a) (by omega) h
theorem eq_30 {a : Nat} (h : a < 2147483648) : (nI a = (30 : Int32)) = (a = 30) := q_eq (a := a) (b := 30) h (by omega)
theorem mr_30 (a : Nat) : nI a * (30 : Int32) = nI (a * 30) := pk_mul a 30
theorem ml_30 (a : Nat) : (30 : Int32) * nI a = nI (30 * a) := pk_mul 30 a
theorem a_31 (a : Nat) : nI a + (31 : Int32) = nI (a + 31) := nI_add a 31
theorem l_31 (a : Nat) : (31 : Int32) + nI a = nI (31 + a) := nI_add 31 a
theorem k_31 : (31 : Int32) = nI 31 := rfl
theorem c_31 : (31 : Int32).toNatClampNeg = 31 := rfl
theorem lt_31 {a : Nat} (h : a < 2147483648) : (nI a < (31 : Int32)) = (a < 31) := q_lt (a := a) (b := 31) h (by omega)
theorem le_31 {a : Nat} (h : a < 2147483648) : (nI a ≤ (31 : Int32)) = (a ≤ 31) := q_le (a := a) (b := 31) h (by omega)
theorem gt_31 {a : Nat} (h : a < 2147483648) : ((31 : Int32) < nI a) = (31 < a) := q_lt (a := 31) (b := a) (by omega) h
theorem ge_31 {a : Nat} (h : a < 2147483648) : ((31 : Int32) ≤ nI a) = (31 ≤ a) := q_le (a := 31) (b := a) (by omega) h
theorem eq_31 {a : Nat} (h : a < 2147483648) : (nI a = (31 : Int32)) = (a = 31) := q_eq (a := a) (b := 31) h (by omega)
theorem mr_31 (a : Nat) : nI a * (31 : Int32) = nI (a * 31) := pk_mul a 31
theorem ml_31 (a : Nat) : (31 : Int32) * nI a = nI (31 * a) := pk_mul 31 a
theorem a_32 (a : Nat) : nI a + (32 : Int32) = nI (a + 32) := nI_add a 32
theorem l_32 (a : Nat) : (32 : Int32) + nI a = nI (32 + a) := nI_add 32 a
theorem k_32 : (32 : Int32) = nI 32 := rfl
theorem c_32 : (32 : Int32).toNatClampNeg = 32 := rfl
theorem lt_32 {a : Nat} (h : a < 2147483648) : (nI a < (32 : Int32)) = (a < 32) := q_lt (a := a) (b := 32) h (by omega)
theorem le_32 {a : Nat} (h : a < 2147483648) : (nI a ≤ (32 : Int32)) = (a ≤ 32) := q_le (a := a) (b := 32) h (by omega)
theorem gt_32 {a : Nat} (h : a < 2147483648) : ((32 : Int32) < nI a) = (32 < a) := q_lt (a := 32) (b := a) (by omega) h
theorem ge_32 {a : Nat} (h : a < 2147483648) : ((32 : Int32) ≤ nI a) = (32 ≤ a) := q_le (a := 32) (b := a) (by omega) h
theorem eq_32 {a : Nat} (h : a < 2147483648) : (nI a = (32 : Int32)) = (a = 32) := q_eq (a := a) (b := 32) h (by omega)
theorem mr_32 (a : Nat) : nI a * (32 : Int32) = nI (a * 32) := pk_mul a 32
theorem ml_32 (a : Nat) : (32 : Int32) * nI a = nI (32 * a) := pk_mul 32 a
theorem a_40 (a : Nat) : nI a + (40 : Int32) = nI (a + 40) := nI_add a 40
theorem l_40 (a : Nat) : (40 : Int32) + nI a = nI (40 + a) := nI_add 40 a
theorem k_40 : (40 : Int32) = nI 40 := rfl
theorem c_40 : (40 : Int32).toNatClampNeg = 40 := rfl
theorem lt_40 {a : Nat} (h : a < 2147483648) : (nI a < (40 : Int32)) = (a < 40) := q_lt (a := a) (b := 40) h (by omega)
theorem le_40 {a : Nat} (h : a < 2147483648) : (nI a ≤ (40 : Int32)) = (a ≤ 40) := q_le (a := a) (b := 40) h (by omega)
theorem gt_40 {a : Nat} (h : a < 2147483648) : ((40 : Int32) < nI a) = (40 < a) := q_lt (a := 40) (b := a) (by omega) h
theorem ge_40 {a : Nat} (h : a < 2147483648) : ((40 : Int32) ≤ nI a) = (40 ≤ a) := q_le (a := 40) (b := a) (by omega) h
theorem eq_40 {a : Nat} (h : a < 2147483648) : (nI a = (40 : Int32)) = (a = 40) := q_eq (a := a) (b := 40) h (by omega)
theorem mr_40 (a : Nat) : nI a * (40 : Int32) = nI (a * 40) := pk_mul a 40
theorem ml_40 (a : Nat) : (40 : Int32) * nI a = nI (40 * a) := pk_mul 40 a
theorem a_41 (a : Nat) : nI a + (41 : Int32) = nI (a + 41) := nI_add a 41
theorem l_41 (a : Nat) : (41 : Int32) + nI a = nI (41 + a) := nI_add 41 a
theorem k_41 : (41 : Int32) = nI 41 := rfl
theorem c_41 : (41 : Int32).toNatClampNeg = 41 := rfl
theorem lt_41 {a : Nat} (h : a < 2147483648) : (nI a < (41 : Int32)) = (a < 41) := q_lt (a := a) (b := 41) h (by omega)
theorem le_41 {a : Nat} (h : a < 2147483648) : (nI a ≤ (41 : Int32)) = (a ≤ 41) := q_le (a := a) (b := 41) h (by omega)
theorem gt_41 {a : Nat} (h : a < 2147483648) : ((41 : Int32) < nI a) = (41 < a) := q_lt (a := 41) (b := a) (by omega) h
theorem ge_41 {a : Nat} (h : a < 2147483648) : ((41 : Int32) ≤ nI a) = (41 ≤ a) := q_le (a := 41) (b := a) (by omega) h
theorem eq_41 {a : Nat} (h : a < 2147483648) : (nI a = (41 : Int32)) = (a = 41) := q_eq (a := a) (b := 41) h (by omega)
theorem mr_41 (a : Nat) : nI a * (41 : Int32) = nI (a * 41) := pk_mul a 41
theorem ml_41 (a : Nat) : (41 : Int32) * nI a = nI (41 * a) := pk_mul 41 a
theorem a_47 (a : Nat) : nI a + (47 : Int32) = nI (a + 47) := nI_add a 47
theorem l_47 (a : Nat) : (47 : Int32) + nI a = nI (47 + a) := nI_add 47 a
theorem k_47 : (47 : Int32) = nI 47 := rfl
theorem c_47 : (47 : Int32).toNatClampNeg = 47 := rfl
theorem lt_47 {a : Nat} (h : a < 2147483648) : (nI a < (47 : Int32)) = (a < 47) := q_lt (a := a) (b := 47) h (by omega)
theorem le_47 {a : Nat} (h : a < 2147483648) : (nI a ≤ (47 : Int32)) = (a ≤ 47) := q_le (a := a) (b := 47) h (by omega)
theorem gt_47 {a : Nat} (h : a < 2147483648) : ((47 : Int32) < nI a) = (47 < a) := q_lt (a := 47) (b := a) (by omega) h
theorem ge_47 {a : Nat} (h : a < 2147483648) : ((47 : Int32) ≤ nI a) = (47 ≤ a) := q_le (a := 47) (b := a) (by omega) h
theorem eq_47 {a : Nat} (h : a < 2147483648) : (nI a = (47 : Int32)) = (a = 47) := q_eq (a := a) (b := 47) h (by omega)
theorem mr_47 (a : Nat) : nI a * (47 : Int32) = nI (a * 47) := pk_mul a 47
theorem ml_47 (a : Nat) : (47 : Int32) * nI a = nI (47 * a) := pk_mul 47 a
theorem a_53 (a : Nat) : nI a + (53 : Int32) = nI (a + 53) := nI_add a 53
theorem l_53 (a : Nat) : (53 : Int32) + nI a = nI (53 + a) := nI_add 53 a
theorem k_53 : (53 : Int32) = nI 53 := rfl
theorem c_53 : (53 : Int32).toNatClampNeg = 53 := rfl
theorem lt_53 {a : Nat} (h : a < 2147483648) : (nI a < (53 : Int32)) = (a < 53) := q_lt (a := a) (b := 53) h (by omega)
theorem le_53 {a : Nat} (h : a < 2147483648) : (nI a ≤ (53 : Int32)) = (a ≤ 53) := q_le (a := a) (b := 53) h (by omega)
theorem gt_53 {a : Nat} (h : a < 2147483648) : ((53 : Int32) < nI a) = (53 < a) := q_lt (a := 53) (b := a) (by omega) h
theorem ge_53 {a : Nat} (h : a < 2147483648) : ((53 : Int32) ≤ nI a) = (53 ≤ a) := q_le (a := 53) (b := a) (by omega) h
theorem eq_53 {a : Nat} (h : a < 2147483648) : (nI a = (53 : Int32)) = (a = 53) := q_eq (a := a) (b := 53) h (by omega)
theorem mr_53 (a : Nat) : nI a * (53 : Int32) = nI (a * 53) := pk_mul a 53
theorem ml_53 (a : Nat) : (53 : Int32) * nI a = nI (53 * a) := pk_mul 53 a
theorem a_59 (a : Nat) : nI a + (59 : Int32) = nI (a + 59) := nI_add a 59
theorem l_59 (a : Nat) : (59 : Int32) + nI a = nI (59 + a) := nI_add 59 a
theorem k_59 : (59 : Int32) = nI 59 := rfl
theorem c_59 : (59 : Int32).toNatClampNeg = 59 := rfl
theorem lt_59 {a : Nat} (h : a < 2147483648) : (nI a < (59 : Int32)) = (a < 59) := q_lt (a := a) (b := 59) h (by omega)
theorem le_59 {a : Nat} (h : a < 2147483648) : (nI a ≤ (59 : Int32)) = (a ≤ 59) := q_le (a := a) (b := 59) h (by omega)
theorem gt_59 {a : Nat} (h : a < 2147483648) : ((59 : Int32) < nI a) = (59 < a) := q_lt (a := 59) (b := a) (by omega) h
theorem ge_59 {a : Nat} (h : a < 2147483648) : ((59 : Int32) ≤ nI a) = (59 ≤ a) := q_le (a := 59) (b := a) (by omega) h
theorem eq_59 {a : Nat} (h : a < 2147483648) : (nI a = (59 : Int32)) = (a = 59) := q_eq (a := a) (b := 59) h (by omega)
theorem mr_59 (a : Nat) : nI a * (59 : Int32) = nI (a * 59) := pk_mul a 59
theorem ml_59 (a : Nat) : (59 : Int32) * nI a = nI (59 * a) := pk_mul 59 a
theorem a_60 (a : Nat) : nI a + (60 : Int32) = nI (a + 60) := nI_add a 60
theorem l_60 (a : Nat) : (60 : Int32) + nI a = nI (60 + a) := nI_add 60 a
theorem k_60 : (60 : Int32) = nI 60 := rfl
theorem c_60 : (60 : Int32).toNatClampNeg = 60 := rfl
theorem lt_60 {a : Nat} (h : a < 2147483648) : (nI a < (60 : Int32)) = (a < 60) := q_lt (a := a) (b := 60) h (by omega)
theorem le_60 {a : Nat} (h : a < 2147483648) : (nI a ≤ (60 : Int32)) = (a ≤ 60) := q_le (a := a) (b := 60) h (by omega)
theorem gt_60 {a : Nat} (h : a < 2147483648) : ((60 : Int32) < nI a) = (60 < a) := q_lt (a := 60) (b := a) (by omega) h
theorem ge_60 {a : Nat} (h : a < 2147483648) : ((60 : Int32) ≤ nI a) = (60 ≤ a) := q_le (a := 60) (b := a) (by omega) h
theorem eq_60 {a : Nat} (h : a < 2147483648) : (nI a = (60 : Int32)) = (a = 60) := q_eq (a := a) (b := 60) h (by omega)
theorem mr_60 (a : Nat) : nI a * (60 : Int32) = nI (a * 60) := pk_mul a 60
theorem ml_60 (a : Nat) : (60 : Int32) * nI a = nI (60 * a) := pk_mul 60 a
theorem a_61 (a : Nat) : nI a + (61 : Int32) = nI (a + 61) := nI_add a 61
theorem l_61 (a : Nat) : (61 : Int32) + nI a = nI (61 + a) := nI_add 61 a
theorem k_61 : (61 : Int32) = nI 61 := rfl
theorem c_61 : (61 : Int32).toNatClampNeg = 61 := rfl
theorem lt_61 {a : Nat} (h : a < 2147483648) : (nI a < (61 : Int32)) = (a < 61) := q_lt (a := a) (b := 61) h (by omega)
theorem le_61 {a : Nat} (h : a < 2147483648) : (nI a ≤ (61 : Int32)) = (a ≤ 61) := q_le (a := a) (b := 61) h (by omega)
theorem gt_61 {a : Nat} (h : a < 2147483648) : ((61 : Int32) < nI a) = (61 < a) := q_lt (a := 61) (b := a) (by omega) h
theorem ge_61 {a : Nat} (h : a < 2147483648) : ((61 : Int32) ≤ nI a) = (61 ≤ a) := q_le (a := 61) (b := a) (by omega) h
theorem eq_61 {a : Nat} (h : a < 2147483648) : (nI a = (61 : Int32)) = (a = 61) := q_eq (a := a) (b := 61) h (by omega)
theorem mr_61 (a : Nat) : nI a * (61 : Int32) = nI (a * 61) := pk_mul a 61
theorem ml_61 (a : Nat) : (61 : Int32) * nI a = nI (61 * a) := pk_mul 61 a
theorem a_62 (a : Nat) : nI a + (62 : Int32) = nI (a + 62) := nI_add a 62
theorem l_62 (a : Nat) : (62 : Int32) + nI a = nI (62 + a) := nI_add 62 a
theorem k_62 : (62 : Int32) = nI 62 := rfl
theorem c_62 : (62 : Int32).toNatClampNeg = 62 := rfl
theorem lt_62 {a : Nat} (h : a < 2147483648) : (nI a < (62 : Int32)) = (a < 62) := q_lt (a := a) (b := 62) h (by omega)
theorem le_62 {a : Nat} (h : a < 2147483648) : (nI a ≤ (62 : Int32)) = (a ≤ 62) := q_le (a := a) (b := 62) h (by omega)
theorem gt_62 {a : Nat} (h : a < 2147483648) : ((62 : Int32) < nI a) = (62 < a) := q_lt (a := 62) (b := a) (by omega) h
theorem ge_62 {a : Nat} (h : a < 2147483648) : ((62 : Int32) ≤ nI a) = (62 ≤ a) := q_le (a := 62) (b := a) (by omega) h
theorem eq_62 {a : Nat} (h : a < 2147483648) : (nI a = (62 : Int32)) = (a = 62) := q_eq (a := a) (b := 62) h (by omega)
theorem mr_62 (a : Nat) : nI a * (62 : Int32) = nI (a * 62) := pk_mul a 62
theorem ml_62 (a : Nat) : (62 : Int32) * nI a = nI (62 * a) := pk_mul 62 a
theorem a_71 (a : Nat) : nI a + (71 : Int32) = nI (a + 71) := nI_add a 71
theorem l_71 (a : Nat) : (71 : Int32) + nI a = nI (71 + a) := nI_add 71 a
theorem k_71 : (71 : Int32) = nI 71 := rfl
theorem c_71 : (71 : Int32).toNatClampNeg = 71 := rfl
theorem lt_71 {a : Nat} (h : a < 2147483648) : (nI a < (71 : Int32)) = (a < 71) := q_lt (a := a) (b := 71) h (by omega)
theorem le_71 {a : Nat} (h : a < 2147483648) : (nI a ≤ (71 : Int32)) = (a ≤ 71) := q_le (a := a) (b := 71) h (by omega)
theorem gt_71 {a : Nat} (h : a < 2147483648) : ((71 : Int32) < nI a) = (71 < a) := q_lt (a := 71) (b := a) (by omega) h
theorem ge_71 {a : Nat} (h : a < 2147483648) : ((71 : Int32) ≤ nI a) = (71 ≤ a) := q_le (a := 71) (b := a) (by omega) h
theorem eq_71 {a : Nat} (h : a < 2147483648) : (nI a = (71 : Int32)) = (a = 71) := q_eq (a := a) (b := 71) h (by omega)
theorem mr_71 (a : Nat) : nI a * (71 : Int32) = nI (a * 71) := pk_mul a 71
theorem ml_71 (a : Nat) : (71 : Int32) * nI a = nI (71 * a) := pk_mul 71 a
theorem a_72 (a : Nat) : nI a + (72 : Int32) = nI (a + 72) := nI_add a 72
theorem l_72 (a : Nat) : (72 : Int32) + nI a = nI (72 + a) := nI_add 72 a
theorem k_72 : (72 : Int32) = nI 72 := rfl
theorem c_72 : (72 : Int32).toNatClampNeg = 72 := rfl
theorem lt_72 {a : Nat} (h : a < 2147483648) : (nI a < (72 : Int32)) = (a < 72) := q_lt (a := a) (b := 72) h (by omega)
theorem le_72 {a : Nat} (h : a < 2147483648) : (nI a ≤ (72 : Int32)) = (a ≤ 72) := q_le (a := a) (b := 72) h (by omega)
theorem gt_72 {a : Nat} (h : a < 2147483648) : ((72 : Int32) < nI a) = (72 < a) := q_lt (a := 72) (b := a) (by omega) h
theorem ge_72 {a : Nat} (h : a < 2147483648) : ((72 : Int32) ≤ nI a) = (72 ≤ a) := q_le (a := 72) (b := a) (by omega) h
theorem eq_72 {a : Nat} (h : a < 2147483648) : (nI a = (72 : Int32)) = (a = 72) := q_eq (a := a) (b := 72) h (by omega)
theorem mr_72 (a : Nat) : nI a * (72 : Int32) = nI (a * 72) := pk_mul a 72
theorem ml_72 (a : Nat) : (72 : Int32) * nI a = nI (72 * a) := pk_mul 72 a
theorem a_73 (a : Nat) : nI a + (73 : Int32) = nI (a + 73) := nI_add a 73
theorem l_73 (a : Nat) : (73 : Int32) + nI a = nI (73 + a) := nI_add 73 a
theorem k_73 : (73 : Int32) = nI 73 := rfl
theorem c_73 : (73 : Int32).toNatClampNeg = 73 := rfl
theorem lt_73 {a : Nat} (h : a < 2147483648) : (nI a < (73 : Int32)) = (a < 73) := q_lt (a := a) (b := 73) h (by omega)
theorem le_73 {a : Nat} (h : a < 2147483648) : (nI a ≤ (73 : Int32)) = (a ≤ 73) := q_le (a := a) (b := 73) h (by omega)
theorem gt_73 {a : Nat} (h : a < 2147483648) : ((73 : Int32) < nI a) = (73 < a) := q_lt (a := 73) (b := a) (by omega) h
theorem ge_73 {a : Nat} (h : a < 2147483648) : ((73 : Int32) ≤ nI a) = (73 ≤ a) := q_le (a := 73) (b := a) (by omega) h
theorem eq_73 {a : Nat} (h : a < 2147483648) : (nI a = (73 : Int32)) = (a = 73) := q_eq (a := a) (b := 73) h (by omega)
theorem mr_73 (a : Nat) : nI a * (73 : Int32) = nI (a * 73) := pk_mul a 73
theorem ml_73 (a : Nat) : (73 : Int32) * nI a = nI (73 * a) := pk_mul 73 a
theorem a_80 (a : Nat) : nI a + (80 : Int32) = nI (a + 80) := nI_add a 80
theorem l_80 (a : Nat) : (80 : Int32) + nI a = nI (80 + a) := nI_add 80 a
theorem k_80 : (80 : Int32) = nI 80 := rfl
theorem c_80 : (80 : Int32).toNatClampNeg = 80 := rfl
theorem lt_80 {a : Nat} (h : a < 2147483648) : (nI a < (80 : Int32)) = (a < 80) := q_lt (a := a) (b := 80) h (by omega)
theorem le_80 {a : Nat} (h : a < 2147483648) : (nI a ≤ (80 : Int32)) = (a ≤ 80) := q_le (a := a) (b := 80) h (by omega)
theorem gt_80 {a : Nat} (h : a < 2147483648) : ((80 : Int32) < nI a) = (80 < a) := q_lt (a := 80) (b := a) (by omega) h
theorem ge_80 {a : Nat} (h : a < 2147483648) : ((80 : Int32) ≤ nI a) = (80 ≤ a) := q_le (a := 80) (b := a) (by omega) h
theorem eq_80 {a : Nat} (h : a < 2147483648) : (nI a = (80 : Int32)) = (a = 80) := q_eq (a := a) (b := 80) h (by omega)
theorem mr_80 (a : Nat) : nI a * (80 : Int32) = nI (a * 80) := pk_mul a 80
theorem ml_80 (a : Nat) : (80 : Int32) * nI a = nI (80 * a) := pk_mul 80 a
theorem a_99 (a : Nat) : nI a + (99 : Int32) = nI (a + 99) := nI_add a 99
theorem l_99 (a : Nat) : (99 : Int32) + nI a = nI (99 + a) := nI_add 99 a
theorem k_99 : (99 : Int32) = nI 99 := rfl
theorem c_99 : (99 : Int32).toNatClampNeg = 99 := rfl
theorem lt_99 {a : Nat} (h : a < 2147483648) : (nI a < (99 : Int32)) = (a < 99) := q_lt (a := a) (b := 99) h (by omega)
theorem le_99 {a : Nat} (h : a < 2147483648) : (nI a ≤ (99 : Int32)) = (a ≤ 99) := q_le (a := a) (b := 99) h (by omega)
theorem gt_99 {a : Nat} (h : a < 2147483648) : ((99 : Int32) < nI a) = (99 < a) := q_lt (a := 99) (b := a) (by omega) h
theorem ge_99 {a : Nat} (h : a < 2147483648) : ((99 : Int32) ≤ nI a) = (99 ≤ a) := q_le (a := 99) (b := a) (by omega) h
theorem eq_99 {a : Nat} (h : a < 2147483648) : (nI a = (99 : Int32)) = (a = 99) := q_eq (a := a) (b := 99) h (by omega)
theorem mr_99 (a : Nat) : nI a * (99 : Int32) = nI (a * 99) := pk_mul a 99
theorem ml_99 (a : Nat) : (99 : Int32) * nI a = nI (99 * a) := pk_mul 99 a
theorem a_700 (a : Nat) : nI a + (700 : Int32) = nI (a + 700) := nI_add a 700
theorem l_700 (a : Nat) : (700 : Int32) + nI a = nI (700 + a) := nI_add 700 a
theorem k_700 : (700 : Int32) = nI 700 := rfl
theorem c_700 : (700 : Int32).toNatClampNeg = 700 := rfl
theorem lt_700 {a : Nat} (h : a < 2147483648) : (nI a < (700 : Int32)) = (a < 700) := q_lt (a := a) (b := 700) h (by omega)
theorem le_700 {a : Nat} (h : a < 2147483648) : (nI a ≤ (700 : Int32)) = (a ≤ 700) := q_le (a := a) (b := 700) h (by omega)
theorem gt_700 {a : Nat} (h : a < 2147483648) : ((700 : Int32) < nI a) = (700 < a) := q_lt (a := 700) (b := a) (by omega) h
theorem ge_700 {a : Nat} (h : a < 2147483648) : ((700 : Int32) ≤ nI a) = (700 ≤ a) := q_le (a := 700) (b := a) (by omega) h
theorem eq_700 {a : Nat} (h : a < 2147483648) : (nI a = (700 : Int32)) = (a = 700) := q_eq (a := a) (b := 700) h (by omega)
theorem mr_700 (a : Nat) : nI a * (700 : Int32) = nI (a * 700) := pk_mul a 700
theorem ml_700 (a : Nat) : (700 : Int32) * nI a = nI (700 * a) := pk_mul 700 a
theorem a_950 (a : Nat) : nI a + (950 : Int32) = nI (a + 950) := nI_add a 950
theorem l_950 (a : Nat) : (950 : Int32) + nI a = nI (950 + a) := nI_add 950 a
theorem k_950 : (950 : Int32) = nI 950 := rfl
theorem c_950 : (950 : Int32).toNatClampNeg = 950 := rfl
theorem lt_950 {a : Nat} (h : a < 2147483648) : (nI a < (950 : Int32)) = (a < 950) := q_lt (a := a) (b := 950) h (by omega)
theorem le_950 {a : Nat} (h : a < 2147483648) : (nI a ≤ (950 : Int32)) = (a ≤ 950) := q_le (a := a) (b := 950) h (by omega)
theorem gt_950 {a : Nat} (h : a < 2147483648) : ((950 : Int32) < nI a) = (950 < a) := q_lt (a := 950) (b := a) (by omega) h
theorem ge_950 {a : Nat} (h : a < 2147483648) : ((950 : Int32) ≤ nI a) = (950 ≤ a) := q_le (a := 950) (b := a) (by omega) h
theorem eq_950 {a : Nat} (h : a < 2147483648) : (nI a = (950 : Int32)) = (a = 950) := q_eq (a := a) (b := 950) h (by omega)
theorem mr_950 (a : Nat) : nI a * (950 : Int32) = nI (a * 950) := pk_mul a 950
theorem ml_950 (a : Nat) : (950 : Int32) * nI a = nI (950 * a) := pk_mul 950 a
theorem a_999 (a : Nat) : nI a + (999 : Int32) = nI (a + 999) := nI_add a 999
theorem l_999 (a : Nat) : (999 : Int32) + nI a = nI (999 + a) := nI_add 999 a
theorem k_999 : (999 : Int32) = nI 999 := rfl
theorem c_999 : (999 : Int32).toNatClampNeg = 999 := rfl
theorem lt_999 {a : Nat} (h : a < 2147483648) : (nI a < (999 : Int32)) = (a < 999) := q_lt (a := a) (b := 999) h (by omega)
theorem le_999 {a : Nat} (h : a < 2147483648) : (nI a ≤ (999 : Int32)) = (a ≤ 999) := q_le (a := a) (b := 999) h (by omega)
theorem gt_999 {a : Nat} (h : a < 2147483648) : ((999 : Int32) < nI a) = (999 < a) := q_lt (a := 999) (b := a) (by omega) h
theorem ge_999 {a : Nat} (h : a < 2147483648) : ((999 : Int32) ≤ nI a) = (999 ≤ a) := q_le (a := 999) (b := a) (by omega) h
theorem eq_999 {a : Nat} (h : a < 2147483648) : (nI a = (999 : Int32)) = (a = 999) := q_eq (a := a) (b := 999) h (by omega)
theorem mr_999 (a : Nat) : nI a * (999 : Int32) = nI (a * 999) := pk_mul a 999
theorem ml_999 (a : Nat) : (999 : Int32) * nI a = nI (999 * a) := pk_mul 999 a
theorem a_1000 (a : Nat) : nI a + (1000 : Int32) = nI (a + 1000) := nI_add a 1000
theorem l_1000 (a : Nat) : (1000 : Int32) + nI a = nI (1000 + a) := nI_add 1000 a
theorem k_1000 : (1000 : Int32) = nI 1000 := rfl
theorem c_1000 : (1000 : Int32).toNatClampNeg = 1000 := rfl
theorem lt_1000 {a : Nat} (h : a < 2147483648) : (nI a < (1000 : Int32)) = (a < 1000) := q_lt (a := a) (b := 1000) h (by omega)
theorem le_1000 {a : Nat} (h : a < 2147483648) : (nI a ≤ (1000 : Int32)) = (a ≤ 1000) := q_le (a := a) (b := 1000) h (by omega)
theorem gt_1000 {a : Nat} (h : a < 2147483648) : ((1000 : Int32) < nI a) = (1000 < a) := q_lt (a := 1000) (b := a) (by omega) h
theorem ge_1000 {a : Nat} (h : a < 2147483648) : ((1000 : Int32) ≤ nI a) = (1000 ≤ a) := q_le (a := 1000) (b := a) (by omega) h
theorem eq_1000 {a : Nat} (h : a < 2147483648) : (nI a = (1000 : Int32)) = (a = 1000) := q_eq (a := a) (b := 1000) h (by omega)
theorem mr_1000 (a : Nat) : nI a * (1000 : Int32) = nI (a * 1000) := pk_mul a 1000
theorem ml_1000 (a : Nat) : (1000 : Int32) * nI a = nI (1000 * a) := pk_mul 1000 a
theorem a_1400 (a : Nat) : nI a + (1400 : Int32) = nI (a + 1400) := nI_add a 1400
theorem l_1400 (a : Nat) : (1400 : Int32) + nI a = nI (1400 + a) := nI_add 1400 a
theorem k_1400 : (1400 : Int32) = nI 1400 := rfl
theorem c_1400 : (1400 : Int32).toNatClampNeg = 1400 := rfl
theorem lt_1400 {a : Nat} (h : a < 2147483648) : (nI a < (1400 : Int32)) = (a < 1400) := q_lt (a := a) (b := 1400) h (by omega)
theorem le_1400 {a : Nat} (h : a < 2147483648) : (nI a ≤ (1400 : Int32)) = (a ≤ 1400) := q_le (a := a) (b := 1400) h (by omega)
theorem gt_1400 {a : Nat} (h : a < 2147483648) : ((1400 : Int32) < nI a) = (1400 < a) := q_lt (a := 1400) (b := a) (by omega) h
theorem ge_1400 {a : Nat} (h : a < 2147483648) : ((1400 : Int32) ≤ nI a) = (1400 ≤ a) := q_le (a := 1400) (b := a) (by omega) h
theorem eq_1400 {a : Nat} (h : a < 2147483648) : (nI a = (1400 : Int32)) = (a = 1400) := q_eq (a := a) (b := 1400) h (by omega)
theorem mr_1400 (a : Nat) : nI a * (1400 : Int32) = nI (a * 1400) := pk_mul a 1400
theorem ml_1400 (a : Nat) : (1400 : Int32) * nI a = nI (1400 * a) := pk_mul 1400 a
theorem a_2120 (a : Nat) : nI a + (2120 : Int32) = nI (a + 2120) := nI_add a 2120
theorem l_2120 (a : Nat) : (2120 : Int32) + nI a = nI (2120 + a) := nI_add 2120 a
theorem k_2120 : (2120 : Int32) = nI 2120 := rfl
theorem c_2120 : (2120 : Int32).toNatClampNeg = 2120 := rfl
theorem lt_2120 {a : Nat} (h : a < 2147483648) : (nI a < (2120 : Int32)) = (a < 2120) := q_lt (a := a) (b := 2120) h (by omega)
theorem le_2120 {a : Nat} (h : a < 2147483648) : (nI a ≤ (2120 : Int32)) = (a ≤ 2120) := q_le (a := a) (b := 2120) h (by omega)
theorem gt_2120 {a : Nat} (h : a < 2147483648) : ((2120 : Int32) < nI a) = (2120 < a) := q_lt (a := 2120) (b := a) (by omega) h
theorem ge_2120 {a : Nat} (h : a < 2147483648) : ((2120 : Int32) ≤ nI a) = (2120 ≤ a) := q_le (a := 2120) (b := a) (by omega) h
theorem eq_2120 {a : Nat} (h : a < 2147483648) : (nI a = (2120 : Int32)) = (a = 2120) := q_eq (a := a) (b := 2120) h (by omega)
theorem mr_2120 (a : Nat) : nI a * (2120 : Int32) = nI (a * 2120) := pk_mul a 2120
theorem ml_2120 (a : Nat) : (2120 : Int32) * nI a = nI (2120 * a) := pk_mul 2120 a
/-! bits -/
def b1 (r : Nat) : Int32 := (1 : Int32) <<< (nI r &&& 31)
theorem b1_d (r : Nat) : (1 : Int32) <<< (nI r &&& 31) = b1 r := rfl
theorem b_b1 {r i : Nat} (hr : r < 32) (hi : i < 32) : bt (b1 r) i = decide (i = r) := by
  unfold b1
  rw [b_shl r hr _ hi]
  by_cases h : i = r
  · subst h; rw [Nat.sub_self, decide_eq_true (Nat.le_refl i), decide_eq_true rfl]; rfl
  · rw [decide_eq_false h]
    by_cases h2 : r ≤ i
    · rw [decide_eq_true h2, Bool.true_and]
      exact (by decide +kernel : ∀ k, k < 32 → k ≠ 0 → bt 1 k = false) (i - r) (by omega) (by omega)
    · rw [decide_eq_false h2, Bool.false_and]
theorem b_not (x : Int32) {i : Nat} (hi : i < 32) : bt (~~~ x) i = !(bt x i) := by unfold bt; rw [Int32.toBitVec_not, BitVec.getLsbD_not]; simp [hi]
theorem b_xm1 (x : Int32) {i : Nat} (hi : i < 32) : bt (x ^^^ (-1)) i = !(bt x i) := by rw [b_xor, b_m1 i hi]; simp
theorem b_one (i : Nat) : bt 1 i = decide (i = 0) := by
  rcases Nat.lt_or_ge i 32 with h | h
  · exact (by decide +kernel : ∀ i, i < 32 → bt 1 i = decide (i = 0)) i h
  · rw [b_big h, decide_eq_false (by omega)]
/-- one bit of a number, looked at -/
theorem b_at {r : Nat} (hr : r < 32) (x : Int32) : ((x >>> (nI r &&& 31)) &&& 1) = if bt x r then 1 else 0 := by
  apply b_ext
  intro i hi
  rw [b_and, b_one, b_sshr r hr x hi]
  by_cases h : i = 0
  · subst h
    rw [Nat.add_zero, if_pos hr, decide_eq_true rfl, Bool.and_true]
    cases bt x r <;> decide
  · rw [decide_eq_false h, Bool.and_false]
    cases bt x r
    · rw [if_neg (by simp)]; exact (b_0 i).symm
    · rw [if_pos rfl, b_one, decide_eq_false h]
theorem b_at1 {r : Nat} (hr : r < 32) (x : Int32) : (((x >>> (nI r &&& 31)) &&& 1) = 1) = (bt x r = true) := by
  rw [b_at hr]; cases bt x r <;> simp
theorem b_at0 {r : Nat} (hr : r < 32) (x : Int32) : (((x >>> (nI r &&& 31)) &&& 1) = 0) = (bt x r = false) := by
  rw [b_at hr]; cases bt x r <;> simp
/-- many 'or's -/
def orF (f : Nat → Int32) : Nat → Int32
  | 0 => 0
  | n + 1 => orF f n ||| f n
def mkB (p : Nat → Bool) (n : Nat) : Int32 := orF (fun r => if p r then b1 r else 0) n
theorem orF_c {f g : Nat → Int32} : ∀ n, (∀ r, r < n → f r = g r) → orF f n = orF g n := by
  intro n
  induction n with
  | zero => intro _; rfl
  | succ n ih => intro h; unfold orF; rw [ih (fun r hr => h r (by omega)), h n (by omega)]
theorem or_z (x : Int32) : x ||| 0 = x := Int32.or_zero
theorem orF_z {f : Nat → Int32} {m : Nat} : ∀ n, m ≤ n → (∀ r, m ≤ r → r < n → f r = 0) → orF f n = orF f m := by
  intro n
  induction n with
  | zero => intro h _; have : m = 0 := by omega
            subst this; rfl
  | succ n ih =>
    intro h hz
    by_cases e : m = n + 1
    · subst e; rfl
    · rw [orF, hz n (by omega) (by omega), or_z]
      exact ih (by omega) (fun r h1 h2 => hz r h1 (by omega))
theorem b_orF {f : Nat → Int32} {i : Nat} : ∀ n, bt (orF f n) i = true ↔ ∃ r, r < n ∧ bt (f r) i = true := by
  intro n
  induction n with
  | zero => rw [orF, b_0]; exact ⟨fun h => absurd h (by decide), fun ⟨r, h, _⟩ => absurd h (by omega)⟩
  | succ n ih =>
    rw [orF, b_or, Bool.or_eq_true, ih]
    constructor
    · rintro (⟨r, h1, h2⟩ | h)
      · exact ⟨r, by omega, h2⟩
      · exact ⟨n, by omega, h⟩
    · rintro ⟨r, h1, h2⟩
      by_cases e : r = n
      · subst e; exact Or.inr h2
      · exact Or.inl ⟨r, by omega, h2⟩
theorem b_mkB {p : Nat → Bool} {n i : Nat} (hn : n ≤ 32) (hi : i < 32) : bt (mkB p n) i = (decide (i < n) && p i) := by
  rw [Bool.eq_iff_iff]
  unfold mkB
  rw [b_orF, Bool.and_eq_true, decide_eq_true_iff]
  constructor
  · rintro ⟨r, h1, h2⟩
    by_cases e : p r = true
    · rw [if_pos e, b_b1 (by omega) hi, decide_eq_true_iff] at h2
      subst h2; exact ⟨h1, e⟩
    · rw [if_neg e, b_0] at h2; exact nomatch h2
  · rintro ⟨h1, h2⟩
    exact ⟨i, h1, by rw [if_pos h2, b_b1 (by omega) hi, decide_eq_true rfl]⟩
theorem mkB_c {p q : Nat → Bool} {n : Nat} (h : ∀ r, r < n → p r = q r) : mkB p n = mkB q n := orF_c n (fun r hr => by rw [h r hr])
theorem mkB_s (p : Nat → Bool) (n : Nat) : mkB p (n + 1) = mkB p n ||| (if p n then b1 n else 0) := rfl
theorem mkB_and {p q : Nat → Bool} {n : Nat} (hn : n ≤ 32) : mkB p n &&& mkB q n = mkB (fun r => p r && q r) n := by
  apply b_ext
  intro i hi
  rw [b_and, b_mkB hn hi, b_mkB hn hi, b_mkB hn hi]
  cases decide (i < n) <;> simp
/-- one bit out -/
theorem mkB_out {p : Nat → Bool} {n r : Nat} (hn : n ≤ 32) (hr : r < 32) : mkB p n &&& (b1 r ^^^ (-1)) = mkB (fun q => p q && !(decide (q = r))) n := by
  apply b_ext
  intro i hi
  rw [b_and, b_mkB hn hi, b_mkB hn hi, b_xm1 _ hi, b_b1 hr hi, Bool.and_assoc]
