theorem q_B {α β : Type} (x : α) (f : α → Option β) : oB (some x) f = f x := rfl
theorem q_G {α : Type} {b : Bool} {k : Option α} (h : b = true) : oG b k = k := if_pos h
theorem q_Xl {α β : Type} (x : α) (f : α → Option (β ⊕ (Nat × mIT))) : oX (some (.inl x)) f = f x := rfl
theorem q_Xr {α β : Type} (q : Nat × mIT) (f : α → Option (β ⊕ (Nat × mIT))) : oX (some (.inr q)) f = some (.inr q) := rfl
/-- a loop: a measure that falls, until the way out; k is what may stand behind it -/
theorem q_loopK {κ σ β : Type} {body : κ → (σ → Option β) → σ → Option β} (Inv : Nat → σ → Prop) (Post : (κ → Option β) → Prop)
    (h : ∀ d s, Inv d s → (∃ d' s', d' < d ∧ Inv d' s' ∧ ∀ k self, body k self s = self s') ∨ ∃ r, Post r ∧ ∀ k self, body k self s = r k) :
    ∀ N d s, Inv d s → d < N → ∃ r, Post r ∧ ∀ k, loopF (body k) N s = r k := by
  intro N
  induction N with
  | zero => intro d s _ hd; omega
  | succ N ih =>
    intro d s hi hd
    rcases h d s hi with ⟨d', s', h1, h2, h3⟩ | ⟨r, h1, h2⟩
    · obtain ⟨r, g1, g2⟩ := ih d' s' h2 (by omega)
      exact ⟨r, g1, fun k => (h3 k _).trans (g2 k)⟩
    · exact ⟨r, h1, fun k => h2 k _⟩
theorem q_loop {σ β : Type} {body : (σ → Option β) → σ → Option β} (Inv : Nat → σ → Prop) (Post : β → Prop)
    (h : ∀ d s, Inv d s → (∃ d' s', d' < d ∧ Inv d' s' ∧ ∀ self, body self s = self s') ∨ ∃ y, Post y ∧ ∀ self, body self s = some y) :
    ∀ N d s, Inv d s → d < N → ∃ y, Post y ∧ loopF body N s = some y := by
  intro N
  induction N with
  | zero => intro d s _ hd; omega
  | succ N ih =>
    intro d s hi hd
    rcases h d s hi with ⟨d', s', h1, h2, h3⟩ | ⟨y, h1, h2⟩
    · obtain ⟨y, g1, g2⟩ := ih d' s' h2 (by omega)
      exact ⟨y, g1, (h3 _).trans g2⟩
    · exact ⟨y, h1, h2 _⟩
/-- nI: numbers below 2^31 -/
theorem q_lt {a b : Nat} (ha : a < 2147483648) (hb : b < 2147483648) : (nI a < nI b) = (a < b) := by
  apply propext
  rw [Int32.lt_iff_toInt_lt, nI_toInt (by omega), nI_toInt (by omega)]
  omega
theorem q_le {a b : Nat} (ha : a < 2147483648) (hb : b < 2147483648) : (nI a ≤ nI b) = (a ≤ b) := by
  apply propext
  rw [Int32.le_iff_toInt_le, nI_toInt (by omega), nI_toInt (by omega)]
  omega
theorem q_eq {a b : Nat} (ha : a < 2147483648) (hb : b < 2147483648) : (nI a = nI b) = (a = b) := by
  apply propext
  rw [← Int32.toInt_inj, nI_toInt (by omega), nI_toInt (by omega)]
  omega
theorem q_lt0 {a : Nat} (ha : a < 2147483648) : (nI a < 0) = False := by
  have h := q_lt (a := a) (b := 0) ha (by omega)
  rw [show (0 : Int32) = nI 0 from rfl, h]
  simp
theorem q_0le {a : Nat} (ha : a < 2147483648) : (0 ≤ nI a) = True := by
  have h := q_le (a := 0) (b := a) (by omega) ha
  rw [show (0 : Int32) = nI 0 from rfl, h]
  simp
theorem q_in {i n : Nat} (h : i < n) (hn : n < 2147483648) : inB (nI i) n = true := decide_eq_true (vp_in_nI h (by omega))
theorem q_cl {n : Nat} (h : n < 2147483648) : (nI n).toNatClampNeg = n := nI_clamp (by omega)
theorem q_1 (a : Nat) : nI a + 1 = nI (a + 1) := nI_add a 1
theorem q_m1 {a : Nat} (h : 0 < a) : nI a - 1 = nI (a - 1) := by
  have e : nI a = nI (a - 1) + 1 := by rw [q_1]; congr 1; omega
  rw [e, Int32.add_sub_cancel]
theorem q_pm1 {a : Nat} (h : 0 < a) : nI a + (-1 : Int32) = nI (a - 1) := by
  rw [← q_m1 h]; grind
theorem q_U (I : mIT) (k j : Nat) (v : Int32) : mU I k j v k j = v := by simp [mU]
theorem q_Uc {I : mIT} {k j a b : Nat} {v : Int32} (h : a ≠ k) : mU I k j v a b = I a b := by simp [mU, h]
theorem q_Uj {I : mIT} {k j a b : Nat} {v : Int32} (h : b ≠ j) : mU I k j v a b = I a b := by simp [mU, h]
theorem q_add {g r : Nat} {c : Int32} (h : c = nI g) : c + nI r = nI (g + r) := by rw [h, nI_add]
/-- cells of a State -/
theorem c_cell {Fu : Nat} {I : mIT} {k g r : Nat} (h : g + r < 53) : f_X9_cell Fu I k (nI g) (nI r) = some (I (k + 1) (g + r)) := by
  unfold f_X9_cell
  simp (disch := omega) only [nI_add, q_lt0, q_le, if_false, q_cl]
  rw [if_neg (by omega), q_G (q_in (by omega) (by omega))]
theorem c_set {Fu : Nat} {I : mIT} {k g r : Nat} {v : Int32} (h : g + r < 53) : f_X9_setCell Fu I k (nI g) (nI r) v = some (mU I (k + 1) (g + r) v) := by
  unfold f_X9_setCell
  simp (disch := omega) only [nI_add, q_lt0, q_le, if_false, q_cl]
  rw [if_neg (by omega), q_G (q_in (by omega) (by omega))]
theorem c_size {Fu : Nat} {I : mIT} {k r : Nat} (h : r < 10) : f_X9_sizeOf Fu I k (nI r) = some (I (k + 1) (1 + r)) := by
  unfold f_X9_sizeOf; rw [show (1 : Int32) = nI 1 from rfl, c_cell (by omega)]; rfl
theorem c_hollow {Fu : Nat} {I : mIT} {k r : Nat} (h : r < 10) : f_X9_hollowOf Fu I k (nI r) = some (I (k + 1) (11 + r)) := by
  unfold f_X9_hollowOf; rw [show (11 : Int32) = nI 11 from rfl, c_cell (by omega)]; rfl
theorem c_soft {Fu : Nat} {I : mIT} {k r : Nat} (h : r < 10) : f_X9_softnessOf Fu I k (nI r) = some (I (k + 1) (21 + r)) := by
  unfold f_X9_softnessOf; rw [show (21 : Int32) = nI 21 from rfl, c_cell (by omega)]; rfl
theorem c_place {Fu : Nat} {I : mIT} {k r : Nat} (h : r < 10) : f_X9_placeOf Fu I k (nI r) = some (I (k + 1) (31 + r)) := by
  unfold f_X9_placeOf; rw [show (31 : Int32) = nI 31 from rfl, c_cell (by omega)]; rfl
theorem c_change {Fu : Nat} {I : mIT} {k r : Nat} (h : r < 12) : f_X9_changeAt Fu I k (nI r) = some (I (k + 1) (41 + r)) := by
  unfold f_X9_changeAt; rw [show (41 : Int32) = nI 41 from rfl, c_cell (by omega)]; rfl
theorem c_day {Fu : Nat} {I : mIT} {k : Nat} : f_X9_day Fu I k = some (I (k + 1) 0) := by
  unfold f_X9_day; rw [show (0 : Int32) = nI 0 from rfl, c_cell (by omega)]; rfl
theorem c_setPlace {Fu : Nat} {I : mIT} {k r : Nat} {v : Int32} (h : r < 10) : f_X9_setPlace Fu I k (nI r) v = some (mU I (k + 1) (31 + r) v) := by
  unfold f_X9_setPlace; rw [show (31 : Int32) = nI 31 from rfl, c_set (by omega)]; rfl
theorem c_setHollow {Fu : Nat} {I : mIT} {k r : Nat} {v : Int32} (h : r < 10) : f_X9_setHollow Fu I k (nI r) v = some (mU I (k + 1) (11 + r) v) := by
  unfold f_X9_setHollow; rw [show (11 : Int32) = nI 11 from rfl, c_set (by omega)]; rfl
theorem c_setChange {Fu : Nat} {I : mIT} {k r : Nat} {v : Int32} (h : r < 12) : f_X9_setChange Fu I k (nI r) v = some (mU I (k + 1) (41 + r) v) := by
  unfold f_X9_setChange; rw [show (41 : Int32) = nI 41 from rfl, c_set (by omega)]; rfl
theorem c_soften {Fu : Nat} {I : mIT} {k r : Nat} {v : Int32} (h : r < 10) : f_X9_soften Fu I k (nI r) v = some (mU I (k + 1) (21 + r) (if (99 : Int32) < I (k + 1) (21 + r) + v then 99 else I (k + 1) (21 + r) + v)) := by
  unfold f_X9_soften; rw [c_soft h, q_B, show (21 : Int32) = nI 21 from rfl, c_set (by omega)]; rfl
theorem c_kind {Fu : Nat} {I : mIT} {k r : Nat} (h : r < 10) : f_X5_kindOf Fu I k (nI r) = some (I (k + 1) r) := by
  unfold f_X5_kindOf
  simp (disch := omega) only [q_lt0, q_le, if_false, q_cl]
  rw [if_neg (by omega), q_G (q_in (by omega) (by omega))]
theorem c_tuneNote {Fu : Nat} {I : mIT} {k r : Nat} (h : r < 8) : f_X5_tuneNote Fu I k (nI r) = some (I (k + 3) r) := by
  unfold f_X5_tuneNote
  simp (disch := omega) only [q_lt0, q_le, if_false, q_cl]
  rw [if_neg (by omega), q_G (q_in (by omega) (by omega))]
theorem c_within {Fu : Nat} {v m : Int32} (hm : 0 ≤ m) : f_X11_within Fu v m = some (if v < 0 then 0 else if m < v then m else v) := by
  unfold f_X11_within
  grind
theorem q_k0 : (0 : Int32).toNatClampNeg = 0 := rfl
theorem q_k1 : (1 : Int32).toNatClampNeg = 1 := rfl
theorem q_k2 : (2 : Int32).toNatClampNeg = 2 := rfl
theorem q_k3 : (3 : Int32).toNatClampNeg = 3 := rfl
theorem q_k4 : (4 : Int32).toNatClampNeg = 4 := rfl
theorem q_k5 : (5 : Int32).toNatClampNeg = 5 := rfl
theorem q_k6 : (6 : Int32).toNatClampNeg = 6 := rfl
theorem q_k7 : (7 : Int32).toNatClampNeg = 7 := rfl
theorem q_k8 : (8 : Int32).toNatClampNeg = 8 := rfl
theorem q_k9 : (9 : Int32).toNatClampNeg = 9 := rfl
theorem q_k10 : (10 : Int32).toNatClampNeg = 10 := rfl
theorem q_k11 : (11 : Int32).toNatClampNeg = 11 := rfl
theorem q_k12 : (12 : Int32).toNatClampNeg = 12 := rfl
theorem q_k13 : (13 : Int32).toNatClampNeg = 13 := rfl
theorem q_k14 : (14 : Int32).toNatClampNeg = 14 := rfl
theorem q_k15 : (15 : Int32).toNatClampNeg = 15 := rfl
theorem q_k16 : (16 : Int32).toNatClampNeg = 16 := rfl
theorem q_k17 : (17 : Int32).toNatClampNeg = 17 := rfl
theorem q_k18 : (18 : Int32).toNatClampNeg = 18 := rfl
theorem q_k19 : (19 : Int32).toNatClampNeg = 19 := rfl
theorem q_k20 : (20 : Int32).toNatClampNeg = 20 := rfl
theorem q_k21 : (21 : Int32).toNatClampNeg = 21 := rfl
theorem q_k22 : (22 : Int32).toNatClampNeg = 22 := rfl
theorem q_k23 : (23 : Int32).toNatClampNeg = 23 := rfl
theorem q_k24 : (24 : Int32).toNatClampNeg = 24 := rfl
theorem q_k25 : (25 : Int32).toNatClampNeg = 25 := rfl
theorem q_k26 : (26 : Int32).toNatClampNeg = 26 := rfl
theorem q_k27 : (27 : Int32).toNatClampNeg = 27 := rfl
theorem q_k28 : (28 : Int32).toNatClampNeg = 28 := rfl
theorem q_k29 : (29 : Int32).toNatClampNeg = 29 := rfl
theorem q_k30 : (30 : Int32).toNatClampNeg = 30 := rfl
theorem q_k31 : (31 : Int32).toNatClampNeg = 31 := rfl
theorem q_k40 : (40 : Int32).toNatClampNeg = 40 := rfl
theorem q_k41 : (41 : Int32).toNatClampNeg = 41 := rfl
theorem q_k53 : (53 : Int32).toNatClampNeg = 53 := rfl
theorem q_k54 : (54 : Int32).toNatClampNeg = 54 := rfl
theorem q_k64 : (64 : Int32).toNatClampNeg = 64 := rfl
theorem q_k74 : (74 : Int32).toNatClampNeg = 74 := rfl
theorem q_k84 : (84 : Int32).toNatClampNeg = 84 := rfl
theorem q_k94 : (94 : Int32).toNatClampNeg = 94 := rfl
