def oG {α : Type} (b : Bool) (k : Option α) : Option α := if b = true then k else none
theorem oG_some {α : Type} {b : Bool} {k : Option α} {y : α} (h : oG b k = some y) : b = true ∧ k = some y := by
  unfold oG at h
  split at h
  · exact ⟨by assumption, h⟩
  · cases h
def oB {α β : Type} (v : Option α) (f : α → Option β) : Option β := match v with
  | none => none
  | some y => f y
theorem oB_some {α β : Type} {v : Option α} {f : α → Option β} {y : β} (h : oB v f = some y) : ∃ w, v = some w ∧ f w = some y := by
  cases v with
  | none => cases h
  | some w => exact ⟨w, rfl, h⟩
def oX {α β : Type} (v : Option (α ⊕ (Nat × mIT))) (f : α → Option (β ⊕ (Nat × mIT))) : Option (β ⊕ (Nat × mIT)) := match v with
  | none => none
  | some (.inl y) => f y
  | some (.inr q) => some (.inr q)
theorem oX_some {α β : Type} {v : Option (α ⊕ (Nat × mIT))} {f : α → Option (β ⊕ (Nat × mIT))} {y : β ⊕ (Nat × mIT)} (h : oX v f = some y) : (∃ w, v = some (.inl w) ∧ f w = some y) ∨ ∃ q, v = some (.inr q) ∧ y = .inr q := by
  match v, h with
  | some (.inl w), h => exact Or.inl ⟨w, rfl, h⟩
  | some (.inr q), h => exact Or.inr ⟨q, rfl, (Option.some.inj h).symm⟩
def inB (i : Int32) (n : Nat) : Bool := decide (¬ (i < 0 ∨ n ≤ i.toNatClampNeg))
theorem inB_in {i : Int32} {n : Nat} (h : inB i n = true) : vp_in i n := of_decide_eq_true (p := ¬ (i < 0 ∨ n ≤ i.toNatClampNeg)) h
def isB (v : Int32) : Bool := decide (v = 0 ∨ v = 1)
theorem isB_or {v : Int32} (h : isB v = true) : v = 0 ∨ v = 1 := of_decide_eq_true h
theorem mNz {b : Int32} (h : (b != 0) = true) : ¬ b = 0 := by simpa using h
def cpB (sp dp c : Int32) (l0 l1 : Nat) : Bool := decide (¬ sp < 0 ∧ ¬ dp < 0 ∧ ¬ c < 0 ∧ sp.toNatClampNeg + c.toNatClampNeg ≤ l0 ∧ dp.toNatClampNeg + c.toNatClampNeg ≤ l1)
theorem cpB_ok {sp dp c : Int32} {l0 l1 : Nat} (h : cpB sp dp c l0 l1 = true) : ¬ sp < 0 ∧ ¬ dp < 0 ∧ ¬ c < 0 ∧ sp.toNatClampNeg + c.toNatClampNeg ≤ l0 ∧ dp.toNatClampNeg + c.toNatClampNeg ≤ l1 := of_decide_eq_true h
def mCp (I : mIT) (q0 q1 sp dp c : Nat) : mIT := fun b => if b = q1 then va_cpy (I q0) (I q1) sp dp c else I b
def xNm (c : Nat) : String := match c with
  | 1 => "java/util/NoSuchElementException"
  | _ => "java/lang/IllegalArgumentException"
def mXp (c : Nat) (n x : Nat) (I : mIT) (R : mRT) (L : mLT) : String → Nat → Nat → mIT → mRT → mLT → Prop := fun en n' x' I' R' L' => en = xNm c ∧ n' = n ∧ x' = x ∧ I' = I ∧ R' = R ∧ L' = L
def loopF {σ β : Type} (body : (σ → Option β) → σ → Option β) : Nat → σ → Option β
  | 0, _ => none
  | N + 1, s => body (loopF body N) s
theorem loopF_ok {σ β : Type} {body : (σ → Option β) → σ → Option β} {Gd : σ → Prop} {y : β} (hb : ∀ self, (∀ s, self s = some y → Gd s) → ∀ s, body self s = some y → Gd s) : ∀ N s, loopF body N s = some y → Gd s
  | 0, _, h => by cases h
  | N + 1, s, h => hb (loopF body N) (loopF_ok hb N) s h
theorem sw_out {v : Int32} {lo hi : Int} (h : ∀ j : Int, lo ≤ j → j ≤ hi → ¬ v = Int32.ofInt j) : v.toInt < lo ∨ hi < v.toInt := by
  by_cases h1 : v.toInt < lo
  · exact Or.inl h1
  · by_cases h2 : hi < v.toInt
    · exact Or.inr h2
    · exact absurd (Int32.ofInt_toInt v).symm (h v.toInt (by omega) (by omega))
theorem mAr_T {q : Nat} (h : (mT q).1 = 1 ∧ q < 106) : mT q = (1, (mT q).2) := Prod.ext h.1 rfl
def mO9 (R : mRT) (k : Nat) : Prop := k < 106 ∧ mT k = (0, 9) ∧ (R k 0 = some (k + 1) ∧ k + 1 < 106 ∧ mT (k + 1) = (1, 53))
def mO8 (R : mRT) (k : Nat) : Prop := k < 106 ∧ mT k = (0, 8) ∧ (R k 0 = some (k + 1) ∧ k + 1 < 106 ∧ mT (k + 1) = (1, 700)) ∧ (R k 1 = some (k + 2) ∧ k + 2 < 106 ∧ mT (k + 2) = (1, 700)) ∧ (R k 2 = some (k + 3) ∧ k + 3 < 106 ∧ mT (k + 3) = (1, 80)) ∧ (R k 3 = some (k + 4) ∧ k + 4 < 106 ∧ mT (k + 4) = (1, 7)) ∧ (R k 4 = some (k + 5) ∧ k + 5 < 106 ∧ mT (k + 5) = (1, 40))
def mO5 (R : mRT) (k : Nat) : Prop := k < 106 ∧ mT k = (0, 5) ∧ (R k 0 = some (k + 1) ∧ k + 1 < 106 ∧ mT (k + 1) = (1, 10)) ∧ (R k 1 = some (k + 2) ∧ k + 2 < 106 ∧ mT (k + 2) = (1, 10)) ∧ (R k 2 = some (k + 3) ∧ k + 3 < 106 ∧ mT (k + 3) = (1, 8)) ∧ (R k 9 = some (k + 4) ∧ mO8 R (k + 4)) ∧ (R k 10 = some (k + 10) ∧ mO8 R (k + 10)) ∧ (R k 11 = some (k + 16) ∧ mO9 R (k + 16))
def mO4 (R : mRT) (k : Nat) : Prop := k < 106 ∧ mT k = (0, 4) ∧ (R k 0 = some (k + 1) ∧ k + 1 < 106 ∧ mT (k + 1) = (1, 8)) ∧ (R k 1 = some (k + 2) ∧ k + 2 < 106 ∧ mT (k + 2) = (1, 8)) ∧ (R k 2 = some (k + 3) ∧ k + 3 < 106 ∧ mT (k + 3) = (1, 8))
def mO0 (R : mRT) (k : Nat) : Prop := k < 106 ∧ mT k = (0, 0) ∧ (R k 0 = some (k + 1) ∧ k + 1 < 106 ∧ mT (k + 1) = (1, 2120))
def mRLs : List (Nat × Nat × Nat) := [(0, 0, 1), (0, 2, 21), (0, 4, 40), (0, 5, 42), (0, 6, 44), (0, 7, 48), (0, 8, 50), (0, 9, 52), (0, 11, 56), (0, 12, 62), (0, 13, 66), (0, 14, 69), (0, 15, 72), (1, 0, 2), (3, 0, 4), (3, 1, 5), (3, 2, 6), (3, 9, 7), (3, 10, 13), (3, 11, 19), (7, 0, 8), (7, 1, 9), (7, 2, 10), (7, 3, 11), (7, 4, 12), (13, 0, 14), (13, 1, 15), (13, 2, 16), (13, 3, 17), (13, 4, 18), (19, 0, 20), (22, 0, 23), (22, 1, 24), (22, 2, 25), (22, 9, 26), (22, 10, 32), (22, 11, 38), (26, 0, 27), (26, 1, 28), (26, 2, 29), (26, 3, 30), (26, 4, 31), (32, 0, 33), (32, 1, 34), (32, 2, 35), (32, 3, 36), (32, 4, 37), (38, 0, 39), (40, 0, 41), (42, 0, 43), (44, 0, 45), (44, 1, 46), (44, 2, 47), (48, 0, 49), (50, 0, 51), (52, 0, 53), (52, 1, 54), (52, 2, 55), (56, 0, 57), (56, 1, 59), (56, 2, 60), (56, 3, 61), (57, 0, 58), (62, 0, 63), (62, 1, 64), (62, 2, 65), (66, 0, 67), (66, 1, 68), (69, 0, 70), (69, 1, 71), (72, 0, 73), (73, 0, 74), (75, 8, 76), (75, 9, 77), (75, 10, 78), (75, 11, 79), (75, 12, 80), (75, 16, 81), (75, 35, 82), (75, 36, 83), (75, 37, 84), (75, 38, 85), (75, 39, 86), (75, 40, 87), (75, 41, 88), (75, 42, 89), (75, 43, 90), (75, 45, 91), (75, 46, 92), (75, 48, 93), (75, 49, 94), (75, 50, 95), (75, 51, 96), (75, 53, 97), (75, 54, 98), (75, 56, 99), (75, 57, 100), (75, 58, 101), (75, 63, 102), (75, 64, 103), (75, 65, 104)]
def mSR (R : mRT) : Prop := ∀ q ∈ mRLs, R q.1 q.2.1 = some q.2.2
def mWd (R : mRT) : Prop := mSR R ∧ (∀ p, R 0 3 = some p → p = 3 ∨ p = 22) ∧ (∀ p, R 1 11 = some p → p = 3 ∨ p = 22) ∧ (∀ u, R 1 12 = some u → u = 7 ∨ u = 13 ∨ u = 26 ∨ u = 32)
theorem rr_0_0 {R : mRT} (h : mSR R) : R 0 0 = some 1 := h (0, 0, 1) (by decide)
theorem rr_0_2 {R : mRT} (h : mSR R) : R 0 2 = some 21 := h (0, 2, 21) (by decide)
theorem rr_0_4 {R : mRT} (h : mSR R) : R 0 4 = some 40 := h (0, 4, 40) (by decide)
theorem rr_0_5 {R : mRT} (h : mSR R) : R 0 5 = some 42 := h (0, 5, 42) (by decide)
theorem rr_0_6 {R : mRT} (h : mSR R) : R 0 6 = some 44 := h (0, 6, 44) (by decide)
theorem rr_0_7 {R : mRT} (h : mSR R) : R 0 7 = some 48 := h (0, 7, 48) (by decide)
theorem rr_0_8 {R : mRT} (h : mSR R) : R 0 8 = some 50 := h (0, 8, 50) (by decide)
theorem rr_0_9 {R : mRT} (h : mSR R) : R 0 9 = some 52 := h (0, 9, 52) (by decide)
theorem rr_0_11 {R : mRT} (h : mSR R) : R 0 11 = some 56 := h (0, 11, 56) (by decide)
theorem rr_0_12 {R : mRT} (h : mSR R) : R 0 12 = some 62 := h (0, 12, 62) (by decide)
theorem rr_0_13 {R : mRT} (h : mSR R) : R 0 13 = some 66 := h (0, 13, 66) (by decide)
theorem rr_0_14 {R : mRT} (h : mSR R) : R 0 14 = some 69 := h (0, 14, 69) (by decide)
theorem rr_0_15 {R : mRT} (h : mSR R) : R 0 15 = some 72 := h (0, 15, 72) (by decide)
theorem rr_1_0 {R : mRT} (h : mSR R) : R 1 0 = some 2 := h (1, 0, 2) (by decide)
theorem rr_3_0 {R : mRT} (h : mSR R) : R 3 0 = some 4 := h (3, 0, 4) (by decide)
theorem rr_3_1 {R : mRT} (h : mSR R) : R 3 1 = some 5 := h (3, 1, 5) (by decide)
theorem rr_3_2 {R : mRT} (h : mSR R) : R 3 2 = some 6 := h (3, 2, 6) (by decide)
theorem rr_3_9 {R : mRT} (h : mSR R) : R 3 9 = some 7 := h (3, 9, 7) (by decide)
theorem rr_3_10 {R : mRT} (h : mSR R) : R 3 10 = some 13 := h (3, 10, 13) (by decide)
theorem rr_3_11 {R : mRT} (h : mSR R) : R 3 11 = some 19 := h (3, 11, 19) (by decide)
theorem rr_7_0 {R : mRT} (h : mSR R) : R 7 0 = some 8 := h (7, 0, 8) (by decide)
theorem rr_7_1 {R : mRT} (h : mSR R) : R 7 1 = some 9 := h (7, 1, 9) (by decide)
theorem rr_7_2 {R : mRT} (h : mSR R) : R 7 2 = some 10 := h (7, 2, 10) (by decide)
theorem rr_7_3 {R : mRT} (h : mSR R) : R 7 3 = some 11 := h (7, 3, 11) (by decide)
theorem rr_7_4 {R : mRT} (h : mSR R) : R 7 4 = some 12 := h (7, 4, 12) (by decide)
theorem rr_13_0 {R : mRT} (h : mSR R) : R 13 0 = some 14 := h (13, 0, 14) (by decide)
theorem rr_13_1 {R : mRT} (h : mSR R) : R 13 1 = some 15 := h (13, 1, 15) (by decide)
theorem rr_13_2 {R : mRT} (h : mSR R) : R 13 2 = some 16 := h (13, 2, 16) (by decide)
theorem rr_13_3 {R : mRT} (h : mSR R) : R 13 3 = some 17 := h (13, 3, 17) (by decide)
theorem rr_13_4 {R : mRT} (h : mSR R) : R 13 4 = some 18 := h (13, 4, 18) (by decide)
theorem rr_19_0 {R : mRT} (h : mSR R) : R 19 0 = some 20 := h (19, 0, 20) (by decide)
theorem rr_22_0 {R : mRT} (h : mSR R) : R 22 0 = some 23 := h (22, 0, 23) (by decide)
theorem rr_22_1 {R : mRT} (h : mSR R) : R 22 1 = some 24 := h (22, 1, 24) (by decide)
theorem rr_22_2 {R : mRT} (h : mSR R) : R 22 2 = some 25 := h (22, 2, 25) (by decide)
theorem rr_22_9 {R : mRT} (h : mSR R) : R 22 9 = some 26 := h (22, 9, 26) (by decide)
theorem rr_22_10 {R : mRT} (h : mSR R) : R 22 10 = some 32 := h (22, 10, 32) (by decide)
theorem rr_22_11 {R : mRT} (h : mSR R) : R 22 11 = some 38 := h (22, 11, 38) (by decide)
theorem rr_26_0 {R : mRT} (h : mSR R) : R 26 0 = some 27 := h (26, 0, 27) (by decide)
theorem rr_26_1 {R : mRT} (h : mSR R) : R 26 1 = some 28 := h (26, 1, 28) (by decide)
theorem rr_26_2 {R : mRT} (h : mSR R) : R 26 2 = some 29 := h (26, 2, 29) (by decide)
theorem rr_26_3 {R : mRT} (h : mSR R) : R 26 3 = some 30 := h (26, 3, 30) (by decide)
theorem rr_26_4 {R : mRT} (h : mSR R) : R 26 4 = some 31 := h (26, 4, 31) (by decide)
theorem rr_32_0 {R : mRT} (h : mSR R) : R 32 0 = some 33 := h (32, 0, 33) (by decide)
theorem rr_32_1 {R : mRT} (h : mSR R) : R 32 1 = some 34 := h (32, 1, 34) (by decide)
theorem rr_32_2 {R : mRT} (h : mSR R) : R 32 2 = some 35 := h (32, 2, 35) (by decide)
theorem rr_32_3 {R : mRT} (h : mSR R) : R 32 3 = some 36 := h (32, 3, 36) (by decide)
theorem rr_32_4 {R : mRT} (h : mSR R) : R 32 4 = some 37 := h (32, 4, 37) (by decide)
theorem rr_38_0 {R : mRT} (h : mSR R) : R 38 0 = some 39 := h (38, 0, 39) (by decide)
theorem rr_40_0 {R : mRT} (h : mSR R) : R 40 0 = some 41 := h (40, 0, 41) (by decide)
theorem rr_42_0 {R : mRT} (h : mSR R) : R 42 0 = some 43 := h (42, 0, 43) (by decide)
theorem rr_44_0 {R : mRT} (h : mSR R) : R 44 0 = some 45 := h (44, 0, 45) (by decide)
theorem rr_44_1 {R : mRT} (h : mSR R) : R 44 1 = some 46 := h (44, 1, 46) (by decide)
theorem rr_44_2 {R : mRT} (h : mSR R) : R 44 2 = some 47 := h (44, 2, 47) (by decide)
theorem rr_48_0 {R : mRT} (h : mSR R) : R 48 0 = some 49 := h (48, 0, 49) (by decide)
theorem rr_50_0 {R : mRT} (h : mSR R) : R 50 0 = some 51 := h (50, 0, 51) (by decide)
theorem rr_52_0 {R : mRT} (h : mSR R) : R 52 0 = some 53 := h (52, 0, 53) (by decide)
theorem rr_52_1 {R : mRT} (h : mSR R) : R 52 1 = some 54 := h (52, 1, 54) (by decide)
theorem rr_52_2 {R : mRT} (h : mSR R) : R 52 2 = some 55 := h (52, 2, 55) (by decide)
theorem rr_56_0 {R : mRT} (h : mSR R) : R 56 0 = some 57 := h (56, 0, 57) (by decide)
theorem rr_56_1 {R : mRT} (h : mSR R) : R 56 1 = some 59 := h (56, 1, 59) (by decide)
theorem rr_56_2 {R : mRT} (h : mSR R) : R 56 2 = some 60 := h (56, 2, 60) (by decide)
theorem rr_56_3 {R : mRT} (h : mSR R) : R 56 3 = some 61 := h (56, 3, 61) (by decide)
theorem rr_57_0 {R : mRT} (h : mSR R) : R 57 0 = some 58 := h (57, 0, 58) (by decide)
theorem rr_62_0 {R : mRT} (h : mSR R) : R 62 0 = some 63 := h (62, 0, 63) (by decide)
theorem rr_62_1 {R : mRT} (h : mSR R) : R 62 1 = some 64 := h (62, 1, 64) (by decide)
theorem rr_62_2 {R : mRT} (h : mSR R) : R 62 2 = some 65 := h (62, 2, 65) (by decide)
theorem rr_66_0 {R : mRT} (h : mSR R) : R 66 0 = some 67 := h (66, 0, 67) (by decide)
theorem rr_66_1 {R : mRT} (h : mSR R) : R 66 1 = some 68 := h (66, 1, 68) (by decide)
theorem rr_69_0 {R : mRT} (h : mSR R) : R 69 0 = some 70 := h (69, 0, 70) (by decide)
theorem rr_69_1 {R : mRT} (h : mSR R) : R 69 1 = some 71 := h (69, 1, 71) (by decide)
theorem rr_72_0 {R : mRT} (h : mSR R) : R 72 0 = some 73 := h (72, 0, 73) (by decide)
theorem rr_73_0 {R : mRT} (h : mSR R) : R 73 0 = some 74 := h (73, 0, 74) (by decide)
theorem rr_75_8 {R : mRT} (h : mSR R) : R 75 8 = some 76 := h (75, 8, 76) (by decide)
theorem rr_75_9 {R : mRT} (h : mSR R) : R 75 9 = some 77 := h (75, 9, 77) (by decide)
theorem rr_75_10 {R : mRT} (h : mSR R) : R 75 10 = some 78 := h (75, 10, 78) (by decide)
theorem rr_75_11 {R : mRT} (h : mSR R) : R 75 11 = some 79 := h (75, 11, 79) (by decide)
theorem rr_75_12 {R : mRT} (h : mSR R) : R 75 12 = some 80 := h (75, 12, 80) (by decide)
theorem rr_75_16 {R : mRT} (h : mSR R) : R 75 16 = some 81 := h (75, 16, 81) (by decide)
theorem rr_75_35 {R : mRT} (h : mSR R) : R 75 35 = some 82 := h (75, 35, 82) (by decide)
theorem rr_75_36 {R : mRT} (h : mSR R) : R 75 36 = some 83 := h (75, 36, 83) (by decide)
theorem rr_75_37 {R : mRT} (h : mSR R) : R 75 37 = some 84 := h (75, 37, 84) (by decide)
theorem rr_75_38 {R : mRT} (h : mSR R) : R 75 38 = some 85 := h (75, 38, 85) (by decide)
theorem rr_75_39 {R : mRT} (h : mSR R) : R 75 39 = some 86 := h (75, 39, 86) (by decide)
theorem rr_75_40 {R : mRT} (h : mSR R) : R 75 40 = some 87 := h (75, 40, 87) (by decide)
theorem rr_75_41 {R : mRT} (h : mSR R) : R 75 41 = some 88 := h (75, 41, 88) (by decide)
theorem rr_75_42 {R : mRT} (h : mSR R) : R 75 42 = some 89 := h (75, 42, 89) (by decide)
theorem rr_75_43 {R : mRT} (h : mSR R) : R 75 43 = some 90 := h (75, 43, 90) (by decide)
theorem rr_75_45 {R : mRT} (h : mSR R) : R 75 45 = some 91 := h (75, 45, 91) (by decide)
theorem rr_75_46 {R : mRT} (h : mSR R) : R 75 46 = some 92 := h (75, 46, 92) (by decide)
theorem rr_75_48 {R : mRT} (h : mSR R) : R 75 48 = some 93 := h (75, 48, 93) (by decide)
theorem rr_75_49 {R : mRT} (h : mSR R) : R 75 49 = some 94 := h (75, 49, 94) (by decide)
theorem rr_75_50 {R : mRT} (h : mSR R) : R 75 50 = some 95 := h (75, 50, 95) (by decide)
theorem rr_75_51 {R : mRT} (h : mSR R) : R 75 51 = some 96 := h (75, 51, 96) (by decide)
theorem rr_75_53 {R : mRT} (h : mSR R) : R 75 53 = some 97 := h (75, 53, 97) (by decide)
theorem rr_75_54 {R : mRT} (h : mSR R) : R 75 54 = some 98 := h (75, 54, 98) (by decide)
theorem rr_75_56 {R : mRT} (h : mSR R) : R 75 56 = some 99 := h (75, 56, 99) (by decide)
theorem rr_75_57 {R : mRT} (h : mSR R) : R 75 57 = some 100 := h (75, 57, 100) (by decide)
theorem rr_75_58 {R : mRT} (h : mSR R) : R 75 58 = some 101 := h (75, 58, 101) (by decide)
theorem rr_75_63 {R : mRT} (h : mSR R) : R 75 63 = some 102 := h (75, 63, 102) (by decide)
theorem rr_75_64 {R : mRT} (h : mSR R) : R 75 64 = some 103 := h (75, 64, 103) (by decide)
theorem rr_75_65 {R : mRT} (h : mSR R) : R 75 65 = some 104 := h (75, 65, 104) (by decide)
theorem ob_19 {R : mRT} (h : mSR R) : mO9 R 19 := ⟨by decide, rfl, ⟨rr_19_0 h, by decide, rfl⟩⟩
theorem ob_38 {R : mRT} (h : mSR R) : mO9 R 38 := ⟨by decide, rfl, ⟨rr_38_0 h, by decide, rfl⟩⟩
theorem ob_40 {R : mRT} (h : mSR R) : mO9 R 40 := ⟨by decide, rfl, ⟨rr_40_0 h, by decide, rfl⟩⟩
theorem ob_48 {R : mRT} (h : mSR R) : mO9 R 48 := ⟨by decide, rfl, ⟨rr_48_0 h, by decide, rfl⟩⟩
theorem ob_57 {R : mRT} (h : mSR R) : mO9 R 57 := ⟨by decide, rfl, ⟨rr_57_0 h, by decide, rfl⟩⟩
theorem ob_73 {R : mRT} (h : mSR R) : mO9 R 73 := ⟨by decide, rfl, ⟨rr_73_0 h, by decide, rfl⟩⟩
theorem ob_7 {R : mRT} (h : mSR R) : mO8 R 7 := ⟨by decide, rfl, ⟨rr_7_0 h, by decide, rfl⟩, ⟨rr_7_1 h, by decide, rfl⟩, ⟨rr_7_2 h, by decide, rfl⟩, ⟨rr_7_3 h, by decide, rfl⟩, ⟨rr_7_4 h, by decide, rfl⟩⟩
theorem ob_13 {R : mRT} (h : mSR R) : mO8 R 13 := ⟨by decide, rfl, ⟨rr_13_0 h, by decide, rfl⟩, ⟨rr_13_1 h, by decide, rfl⟩, ⟨rr_13_2 h, by decide, rfl⟩, ⟨rr_13_3 h, by decide, rfl⟩, ⟨rr_13_4 h, by decide, rfl⟩⟩
theorem ob_26 {R : mRT} (h : mSR R) : mO8 R 26 := ⟨by decide, rfl, ⟨rr_26_0 h, by decide, rfl⟩, ⟨rr_26_1 h, by decide, rfl⟩, ⟨rr_26_2 h, by decide, rfl⟩, ⟨rr_26_3 h, by decide, rfl⟩, ⟨rr_26_4 h, by decide, rfl⟩⟩
theorem ob_32 {R : mRT} (h : mSR R) : mO8 R 32 := ⟨by decide, rfl, ⟨rr_32_0 h, by decide, rfl⟩, ⟨rr_32_1 h, by decide, rfl⟩, ⟨rr_32_2 h, by decide, rfl⟩, ⟨rr_32_3 h, by decide, rfl⟩, ⟨rr_32_4 h, by decide, rfl⟩⟩
theorem ob_44 {R : mRT} (h : mSR R) : mO4 R 44 := ⟨by decide, rfl, ⟨rr_44_0 h, by decide, rfl⟩, ⟨rr_44_1 h, by decide, rfl⟩, ⟨rr_44_2 h, by decide, rfl⟩⟩
theorem ob_52 {R : mRT} (h : mSR R) : mO4 R 52 := ⟨by decide, rfl, ⟨rr_52_0 h, by decide, rfl⟩, ⟨rr_52_1 h, by decide, rfl⟩, ⟨rr_52_2 h, by decide, rfl⟩⟩
theorem ob_42 {R : mRT} (h : mSR R) : mO0 R 42 := ⟨by decide, rfl, ⟨rr_42_0 h, by decide, rfl⟩⟩
theorem ob_50 {R : mRT} (h : mSR R) : mO0 R 50 := ⟨by decide, rfl, ⟨rr_50_0 h, by decide, rfl⟩⟩
theorem ob_3 {R : mRT} (h : mSR R) : mO5 R 3 := ⟨by decide, rfl, ⟨rr_3_0 h, by decide, rfl⟩, ⟨rr_3_1 h, by decide, rfl⟩, ⟨rr_3_2 h, by decide, rfl⟩, ⟨rr_3_9 h, ob_7 h⟩, ⟨rr_3_10 h, ob_13 h⟩, ⟨rr_3_11 h, ob_19 h⟩⟩
theorem ob_22 {R : mRT} (h : mSR R) : mO5 R 22 := ⟨by decide, rfl, ⟨rr_22_0 h, by decide, rfl⟩, ⟨rr_22_1 h, by decide, rfl⟩, ⟨rr_22_2 h, by decide, rfl⟩, ⟨rr_22_9 h, ob_26 h⟩, ⟨rr_22_10 h, ob_32 h⟩, ⟨rr_22_11 h, ob_38 h⟩⟩
theorem ob5 {R : mRT} (h : mSR R) {p : Nat} (hp : p = 3 ∨ p = 22) : mO5 R p := by rcases hp with rfl | rfl; exact ob_3 h; exact ob_22 h
theorem ob8 {R : mRT} (h : mSR R) {p : Nat} (hp : p = 7 ∨ p = 13 ∨ p = 26 ∨ p = 32) : mO8 R p := by rcases hp with rfl | rfl | rfl | rfl; exact ob_7 h; exact ob_13 h; exact ob_26 h; exact ob_32 h
theorem mT_5 : ∀ p, p < 106 → mT p = (0, 5) → p = 3 ∨ p = 22 := by decide
theorem mT_8 : ∀ p, p < 106 → mT p = (0, 8) → p = 7 ∨ p = 13 ∨ p = 26 ∨ p = 32 := by decide
def mMu (k j : Nat) : Prop := (k = 0 ∧ j = 3) ∨ (k = 1 ∧ (j = 11 ∨ j = 12))
theorem mRLs_mu : ∀ q ∈ mRLs, ¬ ((q.1 = 0 ∧ q.2.1 = 3) ∨ (q.1 = 1 ∧ (q.2.1 = 11 ∨ q.2.1 = 12))) := by decide
theorem mSR_mu {R : mRT} (h : mSR R) {k0 j0 : Nat} {v : Option Nat} (hm : mMu k0 j0) : mSR (mUR R k0 j0 v) := by
  intro q hq
  have h1 := mRLs_mu q hq
  have h2 := h q hq
  unfold mUR
  rw [if_neg, h2]
  rintro ⟨e1, e2⟩
  apply h1
  rw [e1, e2]
  exact hm
theorem mWd_03 {R : mRT} {p : Nat} (hW : mWd R) (hp : mO5 R p) : mWd (mUR R 0 3 (some p)) :=
  ⟨mSR_mu hW.1 (Or.inl ⟨rfl, rfl⟩), fun u hu => by simp only [mUR, and_self, if_true] at hu; cases hu; exact mT_5 p hp.1 hp.2.1, fun u hu => hW.2.2.1 u (by simpa [mUR] using hu), fun u hu => hW.2.2.2 u (by simpa [mUR] using hu)⟩
theorem mWd_1b {R : mRT} {p : Nat} (hW : mWd R) (hp : mO5 R p) : mWd (mUR R 1 11 (some p)) :=
  ⟨mSR_mu hW.1 (Or.inr ⟨rfl, Or.inl rfl⟩), fun u hu => hW.2.1 u (by simpa [mUR] using hu), fun u hu => by simp only [mUR, and_self, if_true] at hu; cases hu; exact mT_5 p hp.1 hp.2.1, fun u hu => hW.2.2.2 u (by simpa [mUR] using hu)⟩
theorem mWd_1c {R : mRT} {p : Nat} (hW : mWd R) (hp : mO8 R p) : mWd (mUR R 1 12 (some p)) :=
  ⟨mSR_mu hW.1 (Or.inr ⟨rfl, Or.inr rfl⟩), fun u hu => hW.2.1 u (by simpa [mUR] using hu), fun u hu => hW.2.2.1 u (by simpa [mUR] using hu), fun u hu => by simp only [mUR, and_self, if_true] at hu; cases hu; exact mT_8 p hp.1 hp.2.1⟩
def wB (R : mRT) : Bool := (mRLs.all fun q => decide (R q.1 q.2.1 = some q.2.2)) && (decide (R 0 3 = some 3 ∨ R 0 3 = some 22 ∨ R 0 3 = none)) && (decide (R 1 11 = some 3 ∨ R 1 11 = some 22 ∨ R 1 11 = none)) && decide (R 1 12 = some 7 ∨ R 1 12 = some 13 ∨ R 1 12 = some 26 ∨ R 1 12 = some 32 ∨ R 1 12 = none)
theorem wB_ok {R : mRT} (h : wB R = true) : mWd R := by
  simp only [wB, Bool.and_eq_true, List.all_eq_true, decide_eq_true_eq] at h
  obtain ⟨⟨⟨h1, h2⟩, h3⟩, h4⟩ := h
  refine ⟨fun q hq => h1 q hq, fun p hp => ?_, fun p hp => ?_, fun p hp => ?_⟩
  · rw [hp] at h2; simpa using h2
  · rw [hp] at h3; simpa using h3
  · rw [hp] at h4; simpa using h4
def isP (p : Nat) : Bool := decide (p = 3 ∨ p = 22)
theorem isP_or {p : Nat} (h : isP p = true) : p = 3 ∨ p = 22 := of_decide_eq_true h
def mX0_clear : mMt := (yX0_clear, cX0_clear, 1, none, 0, 0)
def mX0_copyFrom : mMt := (yX0_copyFrom, cX0_copyFrom, 2, none, 1, 60)
def mX0_init : mMt := (yX0_init, cX0_init, 1, none, 1, 20)
def mX0_keep : mMt := (yX0_keep, cX0_keep, 2, none, 2, 82)
def mX0_many : mMt := (yX0_many, cX0_many, 1, (some FieldType.int), 0, 0)
def mX0_undoInto : mMt := (yX0_undoInto, cX0_undoInto, 2, (some FieldType.boolean), 2, 82)
def mX10_begin : mMt := (yX10_begin, cX10_begin, 3, none, 2, 81)
def mX10_draw : mMt := (yX10_draw, cX10_draw, 2, (some FieldType.int), 0, 0)
def mX10_gone : mMt := (yX10_gone, cX10_gone, 4, (some FieldType.int), 2, 44)
def mX10_init : mMt := (yX10_init, cX10_init, 1, none, 2, 40)
def mX10_passDrawnDay : mMt := (yX10_passDrawnDay, cX10_passDrawnDay, 5, none, 4, 102)
def mX10_sizeInGarden : mMt := (yX10_sizeInGarden, cX10_sizeInGarden, 4, (some FieldType.int), 2, 44)
def mX10_sounding : mMt := (yX10_sounding, cX10_sounding, 4, (some FieldType.int), 2, 44)
def mX11_alter : mMt := (yX11_alter, cX11_alter, 4, (some FieldType.int), 7, 123)
def mX11_at : mMt := (yX11_at, cX11_at, 3, (some FieldType.int), 7, 111)
def mX11_beginAct : mMt := (yX11_beginAct, cX11_beginAct, 1, none, 3, 103)
def mX11_bitsAt : mMt := (yX11_bitsAt, cX11_bitsAt, 4, (some FieldType.int), 2, 44)
def mX11_change : mMt := (yX11_change, cX11_change, 2, (some FieldType.int), 7, 111)
def mX11_checkChange : mMt := (yX11_checkChange, cX11_checkChange, 2, none, 6, 90)
def mX11_checkChanges : mMt := (yX11_checkChanges, cX11_checkChanges, 2, none, 6, 90)
def mX11_checkFar : mMt := (yX11_checkFar, cX11_checkFar, 2, none, 6, 90)
def mX11_checkHook : mMt := (yX11_checkHook, cX11_checkHook, 2, none, 6, 90)
def mX11_checkNote : mMt := (yX11_checkNote, cX11_checkNote, 2, none, 6, 90)
def mX11_checkRoot : mMt := (yX11_checkRoot, cX11_checkRoot, 2, none, 6, 90)
def mX11_checkTwo : mMt := (yX11_checkTwo, cX11_checkTwo, 2, none, 6, 90)
def mX11_count : mMt := (yX11_count, cX11_count, 2, (some FieldType.int), 6, 148)
def mX11_days : mMt := (yX11_days, cX11_days, 3, (some FieldType.int), 4, 123)
def mX11_earliest : mMt := (yX11_earliest, cX11_earliest, 2, (some FieldType.int), 5, 128)
def mX11_eat : mMt := (yX11_eat, cX11_eat, 2, (some FieldType.boolean), 7, 123)
def mX11_eaten : mMt := (yX11_eaten, cX11_eaten, 2, (some FieldType.int), 6, 128)
def mX11_fault : mMt := (yX11_fault, cX11_fault, 1, (some FieldType.int), 0, 0)
def mX11_feed : mMt := (yX11_feed, cX11_feed, 6, (some FieldType.int), 1, 22)
def mX11_fit : mMt := (yX11_fit, cX11_fit, 2, (some FieldType.int), 6, 128)
def mX11_forget : mMt := (yX11_forget, cX11_forget, 1, none, 1, 20)
def mX11_forgetWork : mMt := (yX11_forgetWork, cX11_forgetWork, 1, none, 1, 20)
def mX11_gainOf : mMt := (yX11_gainOf, cX11_gainOf, 7, (some FieldType.int), 3, 78)
def mX11_game : mMt := (yX11_game, cX11_game, 10, (some FieldType.int), 7, 128)
def mX11_goes : mMt := (yX11_goes, cX11_goes, 2, (some FieldType.int), 7, 128)
def mX11_goingBefore : mMt := (yX11_goingBefore, cX11_goingBefore, 6, (some FieldType.int), 4, 88)
def mX11_goingOf : mMt := (yX11_goingOf, cX11_goingOf, 3, (some FieldType.int), 2, 44)
def mX11_goingRank : mMt := (yX11_goingRank, cX11_goingRank, 3, (some FieldType.int), 3, 66)
def mX11_grown : mMt := (yX11_grown, cX11_grown, 4, (some FieldType.int), 7, 128)
def mX11_hang : mMt := (yX11_hang, cX11_hang, 4, (some FieldType.int), 7, 123)
def mX11_hangingBits : mMt := (yX11_hangingBits, cX11_hangingBits, 1, (some FieldType.int), 3, 67)
def mX11_hear : mMt := (yX11_hear, cX11_hear, 4, (some FieldType.int), 1, 23)
def mX11_hollow : mMt := (yX11_hollow, cX11_hollow, 3, (some FieldType.int), 7, 123)
def mX11_hook : mMt := (yX11_hook, cX11_hook, 2, (some FieldType.int), 7, 111)
def mX11_image : mMt := (yX11_image, cX11_image, 1, none, 2, 81)
def mX11_init : mMt := (yX11_init, cX11_init, 1, none, 4, 80)
def mX11_isBeyond : mMt := (yX11_isBeyond, cX11_isBeyond, 5, (some FieldType.boolean), 1, 23)
def mX11_isChangeNumber : mMt := (yX11_isChangeNumber, cX11_isChangeNumber, 1, (some FieldType.boolean), 0, 0)
def mX11_isContent : mMt := (yX11_isContent, cX11_isContent, 5, (some FieldType.boolean), 4, 104)
def mX11_isNote : mMt := (yX11_isNote, cX11_isNote, 1, (some FieldType.boolean), 0, 0)
def mX11_isTrue : mMt := (yX11_isTrue, cX11_isTrue, 1, (some FieldType.boolean), 4, 91)
def mX11_keepers : mMt := (yX11_keepers, cX11_keepers, 6, (some FieldType.int), 6, 148)
def mX11_last : mMt := (yX11_last, cX11_last, 1, (some FieldType.int), 5, 128)
def mX11_lastDayAmong : mMt := (yX11_lastDayAmong, cX11_lastDayAmong, 4, (some FieldType.int), 2, 47)
def mX11_leads : mMt := (yX11_leads, cX11_leads, 2, (some FieldType.int), 7, 111)
def mX11_length : mMt := (yX11_length, cX11_length, 1, (some FieldType.int), 4, 91)
def mX11_longer : mMt := (yX11_longer, cX11_longer, 1, (some FieldType.int), 4, 95)
def mX11_meets : mMt := (yX11_meets, cX11_meets, 3, (some FieldType.int), 7, 111)
def mX11_mostChoice : mMt := (yX11_mostChoice, cX11_mostChoice, 2, (some FieldType.int), 3, 66)
def mX11_mouth : mMt := (yX11_mouth, cX11_mouth, 5, (some FieldType.int), 7, 148)
def mX11_needed : mMt := (yX11_needed, cX11_needed, 3, (some FieldType.int), 7, 111)
def mX11_next : mMt := (yX11_next, cX11_next, 2, (some FieldType.int), 7, 128)
def mX11_often : mMt := (yX11_often, cX11_often, 4, (some FieldType.int), 7, 128)
def mX11_order : mMt := (yX11_order, cX11_order, 4, (some FieldType.int), 6, 128)
def mX11_refuseAct : mMt := (yX11_refuseAct, cX11_refuseAct, 2, (some FieldType.int), 0, 0)
def mX11_restore : mMt := (yX11_restore, cX11_restore, 1, (some FieldType.boolean), 2, 81)
def mX11_rings : mMt := (yX11_rings, cX11_rings, 2, (some FieldType.boolean), 7, 128)
def mX11_root : mMt := (yX11_root, cX11_root, 3, (some FieldType.int), 7, 148)
def mX11_row : mMt := (yX11_row, cX11_row, 2, (some FieldType.int), 7, 111)
def mX11_scale : mMt := (yX11_scale, cX11_scale, 7, (some FieldType.int), 7, 148)
def mX11_soft : mMt := (yX11_soft, cX11_soft, 5, (some FieldType.int), 5, 128)
def mX11_soundingNow : mMt := (yX11_soundingNow, cX11_soundingNow, 1, (some FieldType.int), 5, 128)
def mX11_spare : mMt := (yX11_spare, cX11_spare, 5, (some FieldType.int), 6, 148)
def mX11_take : mMt := (yX11_take, cX11_take, 3, (some FieldType.int), 7, 123)
def mX11_then : mMt := (yX11_then, cX11_then, 3, (some FieldType.int), 7, 128)
def mX11_tower : mMt := (yX11_tower, cX11_tower, 3, (some FieldType.int), 12, 259)
def mX11_towers : mMt := (yX11_towers, cX11_towers, 5, (some FieldType.int), 7, 126)
def mX11_tune : mMt := (yX11_tune, cX11_tune, 2, (some FieldType.int), 6, 90)
def mX11_undo : mMt := (yX11_undo, cX11_undo, 1, (some FieldType.int), 3, 103)
def mX11_within : mMt := (yX11_within, cX11_within, 2, (some FieldType.int), 1, 21)
def mX11_without : mMt := (yX11_without, cX11_without, 2, (some FieldType.int), 7, 128)
def mX12_alter : mMt := (yX12_alter, cX12_alter, 4, (some FieldType.int), 2, 42)
def mX12_at : mMt := (yX12_at, cX12_at, 4, (some FieldType.int), 3, 71)
def mX12_begins : mMt := (yX12_begins, cX12_begins, 2, (some FieldType.boolean), 2, 42)
def mX12_bells : mMt := (yX12_bells, cX12_bells, 5, (some FieldType.int), 1, 24)
def mX12_bits : mMt := (yX12_bits, cX12_bits, 3, (some FieldType.int), 0, 0)
def mX12_byteAt : mMt := (yX12_byteAt, cX12_byteAt, 2, (some FieldType.int), 0, 0)
def mX12_change : mMt := (yX12_change, cX12_change, 2, (some FieldType.int), 1, 22)
def mX12_closes : mMt := (yX12_closes, cX12_closes, 1, none, 2, 42)
def mX12_copies : mMt := (yX12_copies, cX12_copies, 4, none, 0, 0)
def mX12_costOf : mMt := (yX12_costOf, cX12_costOf, 6, (some FieldType.int), 3, 68)
def mX12_count : mMt := (yX12_count, cX12_count, 2, (some FieldType.int), 4, 91)
def mX12_dayGoes : mMt := (yX12_dayGoes, cX12_dayGoes, 4, none, 3, 68)
def mX12_days : mMt := (yX12_days, cX12_days, 3, (some FieldType.int), 4, 91)
def mX12_daysGo : mMt := (yX12_daysGo, cX12_daysGo, 3, none, 4, 91)
def mX12_deeper : mMt := (yX12_deeper, cX12_deeper, 1, none, 1, 21)
def mX12_draw : mMt := (yX12_draw, cX12_draw, 2, (some FieldType.int), 0, 0)
def mX12_drops : mMt := (yX12_drops, cX12_drops, 2, none, 1, 21)
def mX12_earliest : mMt := (yX12_earliest, cX12_earliest, 4, (some FieldType.int), 4, 91)
def mX12_eat : mMt := (yX12_eat, cX12_eat, 2, (some FieldType.boolean), 2, 43)
def mX12_eaten : mMt := (yX12_eaten, cX12_eaten, 5, (some FieldType.int), 6, 135)
def mX12_expression : mMt := (yX12_expression, cX12_expression, 3, none, 5, 114)
def mX12_fault : mMt := (yX12_fault, cX12_fault, 1, (some FieldType.int), 0, 0)
def mX12_feed : mMt := (yX12_feed, cX12_feed, 6, (some FieldType.int), 1, 22)
def mX12_fit : mMt := (yX12_fit, cX12_fit, 7, (some FieldType.int), 5, 118)
def mX12_fitOf : mMt := (yX12_fitOf, cX12_fitOf, 3, (some FieldType.int), 0, 0)
def mX12_forget : mMt := (yX12_forget, cX12_forget, 1, none, 0, 0)
def mX12_gains : mMt := (yX12_gains, cX12_gains, 9, (some FieldType.int), 4, 90)
def mX12_game : mMt := (yX12_game, cX12_game, 11, (some FieldType.int), 5, 118)
def mX12_goes : mMt := (yX12_goes, cX12_goes, 3, (some FieldType.int), 5, 113)
def mX12_grown : mMt := (yX12_grown, cX12_grown, 4, (some FieldType.int), 4, 91)
def mX12_growth : mMt := (yX12_growth, cX12_growth, 3, (some FieldType.int), 2, 46)
def mX12_hang : mMt := (yX12_hang, cX12_hang, 4, (some FieldType.int), 2, 44)
def mX12_hangs : mMt := (yX12_hangs, cX12_hangs, 3, (some FieldType.boolean), 0, 0)
def mX12_hangsThere : mMt := (yX12_hangsThere, cX12_hangsThere, 3, (some FieldType.boolean), 0, 0)
def mX12_happens : mMt := (yX12_happens, cX12_happens, 3, none, 1, 22)
def mX12_hasTune : mMt := (yX12_hasTune, cX12_hasTune, 3, (some FieldType.boolean), 0, 0)
def mX12_hear : mMt := (yX12_hear, cX12_hear, 4, (some FieldType.int), 1, 22)
def mX12_hollow : mMt := (yX12_hollow, cX12_hollow, 3, (some FieldType.int), 3, 68)
def mX12_hook : mMt := (yX12_hook, cX12_hook, 3, (some FieldType.int), 2, 44)
def mX12_image : mMt := (yX12_image, cX12_image, 2, none, 1, 23)
def mX12_init : mMt := (yX12_init, cX12_init, 1, none, 1, 20)
def mX12_isChange : mMt := (yX12_isChange, cX12_isChange, 1, (some FieldType.boolean), 1, 22)
def mX12_isDays : mMt := (yX12_isDays, cX12_isDays, 3, (some FieldType.boolean), 1, 22)
def mX12_isDigit : mMt := (yX12_isDigit, cX12_isDigit, 1, (some FieldType.boolean), 0, 0)
def mX12_isGood : mMt := (yX12_isGood, cX12_isGood, 1, (some FieldType.boolean), 0, 0)
def mX12_isGuess : mMt := (yX12_isGuess, cX12_isGuess, 2, (some FieldType.boolean), 5, 114)
def mX12_isHeard : mMt := (yX12_isHeard, cX12_isHeard, 4, (some FieldType.boolean), 4, 91)
def mX12_isLetter : mMt := (yX12_isLetter, cX12_isLetter, 1, (some FieldType.boolean), 0, 0)
def mX12_isNote : mMt := (yX12_isNote, cX12_isNote, 2, (some FieldType.boolean), 1, 22)
def mX12_isOpen : mMt := (yX12_isOpen, cX12_isOpen, 1, (some FieldType.boolean), 0, 0)
def mX12_isOpened : mMt := (yX12_isOpened, cX12_isOpened, 2, (some FieldType.boolean), 1, 20)
def mX12_isRoot : mMt := (yX12_isRoot, cX12_isRoot, 2, (some FieldType.boolean), 1, 22)
def mX12_isRow : mMt := (yX12_isRow, cX12_isRow, 3, (some FieldType.boolean), 1, 22)
def mX12_isSign : mMt := (yX12_isSign, cX12_isSign, 2, (some FieldType.boolean), 0, 0)
def mX12_isTrue : mMt := (yX12_isTrue, cX12_isTrue, 1, (some FieldType.boolean), 2, 50)
def mX12_isWhat : mMt := (yX12_isWhat, cX12_isWhat, 3, (some FieldType.boolean), 1, 22)
def mX12_keepers : mMt := (yX12_keepers, cX12_keepers, 4, (some FieldType.int), 4, 91)
def mX12_keeps : mMt := (yX12_keeps, cX12_keeps, 2, none, 0, 0)
def mX12_kept : mMt := (yX12_kept, cX12_kept, 3, (some FieldType.int), 0, 0)
def mX12_knownWord : mMt := (yX12_knownWord, cX12_knownWord, 2, (some FieldType.int), 2, 48)
def mX12_last : mMt := (yX12_last, cX12_last, 3, (some FieldType.int), 4, 91)
def mX12_lays : mMt := (yX12_lays, cX12_lays, 3, none, 0, 0)
def mX12_laysFit : mMt := (yX12_laysFit, cX12_laysFit, 6, none, 4, 93)
def mX12_laysSoft : mMt := (yX12_laysSoft, cX12_laysSoft, 2, none, 5, 113)
def mX12_leads : mMt := (yX12_leads, cX12_leads, 6, (some FieldType.int), 3, 71)
def mX12_length : mMt := (yX12_length, cX12_length, 1, (some FieldType.int), 2, 50)
def mX12_lengthNow : mMt := (yX12_lengthNow, cX12_lengthNow, 7, (some FieldType.int), 1, 24)
def mX12_letters : mMt := (yX12_letters, cX12_letters, 1, (some FieldType.long), 1, 28)
def mX12_line : mMt := (yX12_line, cX12_line, 2, none, 6, 136)
def mX12_longer : mMt := (yX12_longer, cX12_longer, 8, (some FieldType.int), 2, 50)
def mX12_mayBe : mMt := (yX12_mayBe, cX12_mayBe, 4, (some FieldType.int), 0, 0)
def mX12_meets : mMt := (yX12_meets, cX12_meets, 8, (some FieldType.int), 3, 71)
def mX12_mouth : mMt := (yX12_mouth, cX12_mouth, 6, (some FieldType.int), 3, 68)
def mX12_need : mMt := (yX12_need, cX12_need, 2, none, 2, 42)
def mX12_needed : mMt := (yX12_needed, cX12_needed, 4, (some FieldType.int), 4, 93)
def mX12_next : mMt := (yX12_next, cX12_next, 10, (some FieldType.int), 6, 135)
def mX12_noteOf : mMt := (yX12_noteOf, cX12_noteOf, 3, (some FieldType.int), 2, 46)
def mX12_noteWith : mMt := (yX12_noteWith, cX12_noteWith, 3, (some FieldType.int), 3, 68)
def mX12_notesIn : mMt := (yX12_notesIn, cX12_notesIn, 4, (some FieldType.int), 3, 68)
def mX12_notesOf : mMt := (yX12_notesOf, cX12_notesOf, 4, (some FieldType.int), 3, 68)
def mX12_number : mMt := (yX12_number, cX12_number, 4, (some FieldType.int), 2, 42)
def mX12_often : mMt := (yX12_often, cX12_often, 4, (some FieldType.int), 4, 91)
def mX12_operand : mMt := (yX12_operand, cX12_operand, 5, none, 4, 90)
def mX12_order : mMt := (yX12_order, cX12_order, 6, (some FieldType.int), 6, 134)
def mX12_part : mMt := (yX12_part, cX12_part, 2, none, 3, 69)
def mX12_placeOf : mMt := (yX12_placeOf, cX12_placeOf, 4, (some FieldType.int), 0, 0)
def mX12_puts : mMt := (yX12_puts, cX12_puts, 2, none, 0, 0)
def mX12_reads : mMt := (yX12_reads, cX12_reads, 2, none, 1, 21)
def mX12_readsMany : mMt := (yX12_readsMany, cX12_readsMany, 9, (some FieldType.int), 3, 65)
def mX12_readsRoot : mMt := (yX12_readsRoot, cX12_readsRoot, 4, none, 3, 65)
def mX12_reckons : mMt := (yX12_reckons, cX12_reckons, 5, (some FieldType.int), 1, 22)
def mX12_refuses : mMt := (yX12_refuses, cX12_refuses, 2, (some FieldType.int), 0, 0)
def mX12_restore : mMt := (yX12_restore, cX12_restore, 2, (some FieldType.boolean), 1, 23)
def mX12_right : mMt := (yX12_right, cX12_right, 3, (some FieldType.boolean), 0, 0)
def mX12_rings : mMt := (yX12_rings, cX12_rings, 2, (some FieldType.boolean), 5, 113)
def mX12_rings0 : mMt := (yX12_rings0, cX12_rings0, 5, none, 0, 0)
def mX12_ringsMany : mMt := (yX12_ringsMany, cX12_ringsMany, 4, (some FieldType.int), 2, 48)
def mX12_root : mMt := (yX12_root, cX12_root, 3, (some FieldType.int), 3, 68)
def mX12_rounds : mMt := (yX12_rounds, cX12_rounds, 2, none, 0, 0)
def mX12_row : mMt := (yX12_row, cX12_row, 2, (some FieldType.int), 3, 71)
def mX12_rowNumber : mMt := (yX12_rowNumber, cX12_rowNumber, 4, (some FieldType.int), 0, 0)
def mX12_scale : mMt := (yX12_scale, cX12_scale, 7, (some FieldType.int), 4, 91)
def mX12_soft : mMt := (yX12_soft, cX12_soft, 3, (some FieldType.int), 6, 134)
def mX12_softIn : mMt := (yX12_softIn, cX12_softIn, 3, (some FieldType.int), 4, 91)
def mX12_soundingIn : mMt := (yX12_soundingIn, cX12_soundingIn, 4, (some FieldType.int), 2, 44)
def mX12_sounds : mMt := (yX12_sounds, cX12_sounds, 3, (some FieldType.boolean), 1, 22)
def mX12_spare : mMt := (yX12_spare, cX12_spare, 4, (some FieldType.int), 4, 91)
def mX12_spelled : mMt := (yX12_spelled, cX12_spelled, 9, (some FieldType.long), 0, 0)
def mX12_strength : mMt := (yX12_strength, cX12_strength, 1, (some FieldType.int), 0, 0)
def mX12_take : mMt := (yX12_take, cX12_take, 3, (some FieldType.int), 2, 43)
def mX12_tells : mMt := (yX12_tells, cX12_tells, 3, none, 1, 22)
def mX12_then : mMt := (yX12_then, cX12_then, 3, (some FieldType.int), 5, 113)
def mX12_thrown : mMt := (yX12_thrown, cX12_thrown, 1, (some FieldType.int), 0, 0)
def mX12_tower : mMt := (yX12_tower, cX12_tower, 3, (some FieldType.int), 7, 157)
def mX12_towers : mMt := (yX12_towers, cX12_towers, 7, (some FieldType.int), 4, 91)
def mX12_tries : mMt := (yX12_tries, cX12_tries, 2, none, 0, 0)
def mX12_tune : mMt := (yX12_tune, cX12_tune, 2, (some FieldType.int), 1, 22)
def mX12_undo : mMt := (yX12_undo, cX12_undo, 2, (some FieldType.int), 0, 0)
def mX12_waitsFor : mMt := (yX12_waitsFor, cX12_waitsFor, 2, none, 0, 0)
def mX12_weatherOf : mMt := (yX12_weatherOf, cX12_weatherOf, 2, (some FieldType.int), 0, 0)
def mX12_whereIn : mMt := (yX12_whereIn, cX12_whereIn, 5, (some FieldType.int), 0, 0)
def mX12_within : mMt := (yX12_within, cX12_within, 3, (some FieldType.boolean), 0, 0)
def mX12_without : mMt := (yX12_without, cX12_without, 4, (some FieldType.int), 4, 91)
def mX12_works : mMt := (yX12_works, cX12_works, 3, (some FieldType.int), 0, 0)
def mX12_wrong : mMt := (yX12_wrong, cX12_wrong, 2, none, 0, 0)
def mX1_clear : mMt := (yX1_clear, cX1_clear, 1, none, 0, 0)
def mX1_firmOn : mMt := (yX1_firmOn, cX1_firmOn, 2, (some FieldType.int), 0, 0)
def mX1_init : mMt := (yX1_init, cX1_init, 1, none, 2, 40)
def mX1_layDay : mMt := (yX1_layDay, cX1_layDay, 7, none, 3, 78)
def mX1_layTo : mMt := (yX1_layTo, cX1_layTo, 5, none, 4, 104)
def mX1_noteBits : mMt := (yX1_noteBits, cX1_noteBits, 5, (some FieldType.int), 1, 23)
def mX1_noteOn : mMt := (yX1_noteOn, cX1_noteOn, 4, (some FieldType.int), 0, 0)
def mX1_setNote : mMt := (yX1_setNote, cX1_setNote, 5, none, 0, 0)
def mX1_soundingOn : mMt := (yX1_soundingOn, cX1_soundingOn, 2, (some FieldType.int), 0, 0)
def mX2_clear : mMt := (yX2_clear, cX2_clear, 1, none, 0, 0)
def mX2_findNeeds : mMt := (yX2_findNeeds, cX2_findNeeds, 8, none, 3, 78)
def mX2_firstBest : mMt := (yX2_firstBest, cX2_firstBest, 5, (some FieldType.int), 2, 46)
def mX2_init : mMt := (yX2_init, cX2_init, 1, none, 1, 20)
def mX2_leastBehind : mMt := (yX2_leastBehind, cX2_leastBehind, 5, (some FieldType.int), 2, 46)
def mX2_leastBy : mMt := (yX2_leastBy, cX2_leastBy, 6, (some FieldType.int), 1, 21)
def mX2_rootFor : mMt := (yX2_rootFor, cX2_rootFor, 5, (some FieldType.int), 3, 70)
def mX2_total : mMt := (yX2_total, cX2_total, 1, (some FieldType.int), 0, 0)
def mX2_workOut : mMt := (yX2_workOut, cX2_workOut, 4, none, 4, 105)
def mX3_agrees : mMt := (yX3_agrees, cX3_agrees, 10, (some FieldType.boolean), 2, 47)
def mX3_find : mMt := (yX3_find, cX3_find, 7, none, 3, 76)
def mX3_findDay : mMt := (yX3_findDay, cX3_findDay, 4, none, 3, 74)
def mX3_first : mMt := (yX3_first, cX3_first, 1, (some FieldType.int), 0, 0)
def mX3_init : mMt := (yX3_init, cX3_init, 1, none, 1, 20)
def mX3_many : mMt := (yX3_many, cX3_many, 1, (some FieldType.int), 0, 0)
def mX3_tellingDay : mMt := (yX3_tellingDay, cX3_tellingDay, 1, (some FieldType.int), 0, 0)
def mX3_tellingSets : mMt := (yX3_tellingSets, cX3_tellingSets, 1, (some FieldType.int), 0, 0)
def mX3_unlikeSets : mMt := (yX3_unlikeSets, cX3_unlikeSets, 8, (some FieldType.int), 2, 47)
def mX3_withSet : mMt := (yX3_withSet, cX3_withSet, 4, (some FieldType.int), 0, 0)
def mX4_add : mMt := (yX4_add, cX4_add, 4, (some FieldType.boolean), 0, 0)
def mX4_clear : mMt := (yX4_clear, cX4_clear, 1, none, 0, 0)
def mX4_copyFrom : mMt := (yX4_copyFrom, cX4_copyFrom, 2, none, 1, 60)
def mX4_dayOf : mMt := (yX4_dayOf, cX4_dayOf, 2, (some FieldType.int), 0, 0)
def mX4_init : mMt := (yX4_init, cX4_init, 1, none, 1, 20)
def mX4_isSo : mMt := (yX4_isSo, cX4_isSo, 3, (some FieldType.boolean), 0, 0)
def mX4_many : mMt := (yX4_many, cX4_many, 1, (some FieldType.int), 0, 0)
def mX5_addChange : mMt := (yX5_addChange, cX5_addChange, 2, none, 2, 46)
def mX5_addRoot : mMt := (yX5_addRoot, cX5_addRoot, 5, none, 2, 48)
def mX5_addTuneNote : mMt := (yX5_addTuneNote, cX5_addTuneNote, 2, none, 0, 0)
def mX5_addWeather : mMt := (yX5_addWeather, cX5_addWeather, 2, none, 0, 0)
def mX5_clear : mMt := (yX5_clear, cX5_clear, 1, none, 1, 21)
def mX5_init : mMt := (yX5_init, cX5_init, 1, none, 2, 40)
def mX5_isTuneIn : mMt := (yX5_isTuneIn, cX5_isTuneIn, 2, (some FieldType.boolean), 0, 0)
def mX5_kindOf : mMt := (yX5_kindOf, cX5_kindOf, 2, (some FieldType.int), 0, 0)
def mX5_nearnessOf : mMt := (yX5_nearnessOf, cX5_nearnessOf, 4, (some FieldType.int), 1, 21)
def mX5_tuneNote : mMt := (yX5_tuneNote, cX5_tuneNote, 2, (some FieldType.int), 0, 0)
def mX5_weatherOn : mMt := (yX5_weatherOn, cX5_weatherOn, 3, (some FieldType.int), 0, 0)
def mX6_byteAt : mMt := (yX6_byteAt, cX6_byteAt, 2, (some FieldType.int), 0, 0)
def mX6_checkNumber : mMt := (yX6_checkNumber, cX6_checkNumber, 3, (some FieldType.boolean), 1, 21)
def mX6_faultPlace : mMt := (yX6_faultPlace, cX6_faultPlace, 1, (some FieldType.int), 0, 0)
def mX6_handOver : mMt := (yX6_handOver, cX6_handOver, 3, (Option.some (FieldType.object RX5)), 0, 0)
def mX6_init : mMt := (yX6_init, cX6_init, 1, none, 3, 60)
def mX6_isAtSign : mMt := (yX6_isAtSign, cX6_isAtSign, 2, (some FieldType.boolean), 0, 0)
def mX6_isAtWord : mMt := (yX6_isAtWord, cX6_isAtWord, 4, (some FieldType.boolean), 6, 126)
def mX6_isBlank : mMt := (yX6_isBlank, cX6_isBlank, 1, (some FieldType.boolean), 0, 0)
def mX6_isDigit : mMt := (yX6_isDigit, cX6_isDigit, 1, (some FieldType.boolean), 0, 0)
def mX6_isExprWhole : mMt := (yX6_isExprWhole, cX6_isExprWhole, 1, (some FieldType.boolean), 1, 21)
def mX6_isLetter : mMt := (yX6_isLetter, cX6_isLetter, 1, (some FieldType.boolean), 0, 0)
def mX6_isSign : mMt := (yX6_isSign, cX6_isSign, 1, (some FieldType.boolean), 0, 0)
def mX6_lineWord : mMt := (yX6_lineWord, cX6_lineWord, 1, (some FieldType.int), 7, 149)
def mX6_operatorHere : mMt := (yX6_operatorHere, cX6_operatorHere, 1, (some FieldType.int), 7, 149)
def mX6_putBytes : mMt := (yX6_putBytes, cX6_putBytes, 3, none, 0, 0)
def mX6_readExpr : mMt := (yX6_readExpr, cX6_readExpr, 4, (some FieldType.boolean), 9, 192)
def mX6_readLasts : mMt := (yX6_readLasts, cX6_readLasts, 1, (some FieldType.boolean), 3, 61)
def mX6_readLine : mMt := (yX6_readLine, cX6_readLine, 2, (some FieldType.boolean), 10, 215)
def mX6_readLineEnd : mMt := (yX6_readLineEnd, cX6_readLineEnd, 1, (some FieldType.boolean), 3, 61)
def mX6_readOperand : mMt := (yX6_readOperand, cX6_readOperand, 2, (some FieldType.boolean), 8, 169)
def mX6_readOperator : mMt := (yX6_readOperator, cX6_readOperator, 4, (some FieldType.boolean), 8, 169)
def mX6_readRoot : mMt := (yX6_readRoot, cX6_readRoot, 5, (some FieldType.boolean), 3, 72)
def mX6_readRow : mMt := (yX6_readRow, cX6_readRow, 5, (some FieldType.boolean), 3, 67)
def mX6_readTower : mMt := (yX6_readTower, cX6_readTower, 4, (some FieldType.int), 11, 236)
def mX6_refuse : mMt := (yX6_refuse, cX6_refuse, 2, (some FieldType.boolean), 0, 0)
def mX6_step : mMt := (yX6_step, cX6_step, 1, none, 2, 41)
def mX6_stepNumber : mMt := (yX6_stepNumber, cX6_stepNumber, 1, none, 1, 21)
def mX6_taped : mMt := (yX6_taped, cX6_taped, 1, (some FieldType.int), 0, 0)
def mX6_valueWord : mMt := (yX6_valueWord, cX6_valueWord, 1, (some FieldType.int), 7, 149)
def mX7_behindOne : mMt := (yX7_behindOne, cX7_behindOne, 7, (some FieldType.int), 1, 21)
def mX7_bellAt : mMt := (yX7_bellAt, cX7_bellAt, 2, (some FieldType.int), 0, 0)
def mX7_bellOf : mMt := (yX7_bellOf, cX7_bellOf, 3, (some FieldType.int), 0, 0)
def mX7_bells : mMt := (yX7_bells, cX7_bells, 1, (some FieldType.int), 0, 0)
def mX7_init : mMt := (yX7_init, cX7_init, 1, none, 1, 20)
def mX7_isRung : mMt := (yX7_isRung, cX7_isRung, 4, (some FieldType.boolean), 0, 0)
def mX7_leadsOf : mMt := (yX7_leadsOf, cX7_leadsOf, 7, (some FieldType.int), 3, 69)
def mX7_lengthRung : mMt := (yX7_lengthRung, cX7_lengthRung, 3, (some FieldType.int), 2, 47)
def mX7_load : mMt := (yX7_load, cX7_load, 5, none, 3, 67)
def mX7_longerBy : mMt := (yX7_longerBy, cX7_longerBy, 7, (some FieldType.int), 3, 69)
def mX7_meetingsOf : mMt := (yX7_meetingsOf, cX7_meetingsOf, 9, (some FieldType.int), 3, 69)
def mX7_numberBehind : mMt := (yX7_numberBehind, cX7_numberBehind, 5, (some FieldType.int), 3, 70)
def mX7_placeIn : mMt := (yX7_placeIn, cX7_placeIn, 4, (some FieldType.int), 1, 21)
def mX7_rootAt : mMt := (yX7_rootAt, cX7_rootAt, 4, (some FieldType.int), 3, 70)
def mX7_rowBehind : mMt := (yX7_rowBehind, cX7_rowBehind, 4, (some FieldType.int), 2, 47)
def mX7_trueLength : mMt := (yX7_trueLength, cX7_trueLength, 3, (some FieldType.int), 2, 47)
def mX8_clear : mMt := (yX8_clear, cX8_clear, 1, none, 0, 0)
def mX8_close : mMt := (yX8_close, cX8_close, 1, none, 1, 21)
def mX8_finish : mMt := (yX8_finish, cX8_finish, 1, none, 1, 21)
def mX8_init : mMt := (yX8_init, cX8_init, 1, none, 1, 20)
def mX8_isTold : mMt := (yX8_isTold, cX8_isTold, 1, (some FieldType.boolean), 0, 0)
def mX8_join : mMt := (yX8_join, cX8_join, 2, none, 1, 21)
def mX8_joined : mMt := (yX8_joined, cX8_joined, 3, (some FieldType.int), 0, 0)
def mX8_operandAt : mMt := (yX8_operandAt, cX8_operandAt, 3, (some FieldType.int), 0, 0)
def mX8_putOperand : mMt := (yX8_putOperand, cX8_putOperand, 3, none, 0, 0)
def mX8_putWaiting : mMt := (yX8_putWaiting, cX8_putWaiting, 2, none, 0, 0)
def mX8_worth : mMt := (yX8_worth, cX8_worth, 11, (some FieldType.int), 1, 22)
def mX9_cell : mMt := (yX9_cell, cX9_cell, 4, (some FieldType.int), 0, 0)
def mX9_changeAt : mMt := (yX9_changeAt, cX9_changeAt, 2, (some FieldType.int), 1, 23)
def mX9_clear : mMt := (yX9_clear, cX9_clear, 2, none, 0, 0)
def mX9_copyFrom : mMt := (yX9_copyFrom, cX9_copyFrom, 2, none, 1, 60)
def mX9_day : mMt := (yX9_day, cX9_day, 1, (some FieldType.int), 1, 23)
def mX9_growthOf : mMt := (yX9_growthOf, cX9_growthOf, 6, (some FieldType.int), 2, 52)
def mX9_hollowOf : mMt := (yX9_hollowOf, cX9_hollowOf, 2, (some FieldType.int), 1, 23)
def mX9_init : mMt := (yX9_init, cX9_init, 1, none, 1, 20)
def mX9_loadFrom : mMt := (yX9_loadFrom, cX9_loadFrom, 3, none, 1, 60)
def mX9_neededFor : mMt := (yX9_neededFor, cX9_neededFor, 6, (some FieldType.int), 3, 78)
def mX9_noteOf : mMt := (yX9_noteOf, cX9_noteOf, 7, (some FieldType.int), 2, 52)
def mX9_passDay : mMt := (yX9_passDay, cX9_passDay, 6, none, 3, 77)
def mX9_placeOf : mMt := (yX9_placeOf, cX9_placeOf, 2, (some FieldType.int), 1, 23)
def mX9_roomToHollow : mMt := (yX9_roomToHollow, cX9_roomToHollow, 3, (some FieldType.int), 2, 44)
def mX9_rootOn : mMt := (yX9_rootOn, cX9_rootOn, 4, (some FieldType.int), 2, 44)
def mX9_saveTo : mMt := (yX9_saveTo, cX9_saveTo, 3, none, 1, 60)
def mX9_setCell : mMt := (yX9_setCell, cX9_setCell, 5, none, 0, 0)
def mX9_setChange : mMt := (yX9_setChange, cX9_setChange, 3, none, 1, 24)
def mX9_setHollow : mMt := (yX9_setHollow, cX9_setHollow, 3, none, 1, 24)
def mX9_setPlace : mMt := (yX9_setPlace, cX9_setPlace, 3, none, 1, 24)
def mX9_setRoot : mMt := (yX9_setRoot, cX9_setRoot, 5, none, 1, 24)
def mX9_sizeOf : mMt := (yX9_sizeOf, cX9_sizeOf, 2, (some FieldType.int), 1, 23)
def mX9_soften : mMt := (yX9_soften, cX9_soften, 3, none, 2, 44)
def mX9_softnessOf : mMt := (yX9_softnessOf, cX9_softnessOf, 2, (some FieldType.int), 1, 23)
def mJ0_charAt_5068e : mMt := (yJ0_charAt_5068e, cJ0_charAt_5068e, 2, (some FieldType.char), 5, 105)
def mJ0_checkIndex_df160 : mMt := (yJ0_checkIndex_df160, cJ0_checkIndex_df160, 2, none, 2, 42)
def mJ0_coder_7d493 : mMt := (yJ0_coder_7d493, cJ0_coder_7d493, 1, (some FieldType.byte), 0, 0)
def mJ0_isLatin1_aae02 : mMt := (yJ0_isLatin1_aae02, cJ0_isLatin1_aae02, 1, (some FieldType.boolean), 0, 0)
def mJ0_length_8abf5 : mMt := (yJ0_length_8abf5, cJ0_length_8abf5, 1, (some FieldType.int), 1, 20)
def mJ1_charAt_3b067 : mMt := (yJ1_charAt_3b067, cJ1_charAt_3b067, 2, (some FieldType.char), 3, 63)
def mJ2_charAt_3b067 : mMt := (yJ2_charAt_3b067, cJ2_charAt_3b067, 2, (some FieldType.char), 4, 84)
def mJ2_checkIndex_2214a : mMt := (yJ2_checkIndex_2214a, cJ2_checkIndex_2214a, 2, none, 3, 63)
def mJ2_getChar_3b067 : mMt := (yJ2_getChar_3b067, cJ2_getChar_3b067, 2, (some FieldType.char), 1, 20)
def mJ2_length_9d52b : mMt := (yJ2_length_9d52b, cJ2_length_9d52b, 1, (some FieldType.int), 0, 0)
def mJ3_checkIndex_8e157 : mMt := (yJ3_checkIndex_8e157, cJ3_checkIndex_8e157, 3, (some FieldType.int), 1, 20)
def mJ6_bitCount_0f7a4 : mMt := (yJ6_bitCount_0f7a4, cJ6_bitCount_0f7a4, 1, (some FieldType.int), 0, 0)
def mJ9_abs_0f7a4 : mMt := (yJ9_abs_0f7a4, cJ9_abs_0f7a4, 1, (some FieldType.int), 0, 0)
def mJ9_max_7cf53 : mMt := (yJ9_max_7cf53, cJ9_max_7cf53, 2, (some FieldType.int), 0, 0)
def mJ9_min_7cf53 : mMt := (yJ9_min_7cf53, cJ9_min_7cf53, 2, (some FieldType.int), 0, 0)
theorem gw_of {w : Cond} (h : (w.onTables && w.keeps) = true ∨ ∃ ty, w = .arrayClass ty) : goodWord w = true := by
  rcases h with h | ⟨ty, rfl⟩
  · cases w <;> first | exact h | rfl
  · rfl
theorem inG_0 : ∀ w ∈ u_ws RX0 TX0 3, w ∈ tbG := fun w hw => (goodIn_r (big := lw_tbl) (u_ws RX0 TX0 3) [336, 338, 340] (by decide +kernel) (by decide +kernel) w hw).elim (fun h1 h2 => List.mem_filter.mpr ⟨h1, gw_of h2⟩)
theorem inG_1 : ∀ w ∈ u_ws RX1 TX1 5, w ∈ tbG := fun w hw => (goodIn_r (big := lw_tbl) (u_ws RX1 TX1 5) [375, 377, 379, 381, 383] (by decide +kernel) (by decide +kernel) w hw).elim (fun h1 h2 => List.mem_filter.mpr ⟨h1, gw_of h2⟩)
theorem inG_2 : ∀ w ∈ u_ws RX2 TX2 5, w ∈ tbG := fun w hw => (goodIn_r (big := lw_tbl) (u_ws RX2 TX2 5) [419, 421, 423, 425, 427] (by decide +kernel) (by decide +kernel) w hw).elim (fun h1 h2 => List.mem_filter.mpr ⟨h1, gw_of h2⟩)
theorem inG_3 : ∀ w ∈ u_ws RX3 TX3 6, w ∈ tbG := fun w hw => (goodIn_r (big := lw_tbl) (u_ws RX3 TX3 6) [442, 444, 446, 448, 450, 452] (by decide +kernel) (by decide +kernel) w hw).elim (fun h1 h2 => List.mem_filter.mpr ⟨h1, gw_of h2⟩)
theorem inG_4 : ∀ w ∈ u_ws RX4 TX4 4, w ∈ tbG := fun w hw => (goodIn_r (big := lw_tbl) (u_ws RX4 TX4 4) [353, 355, 357, 359] (by decide +kernel) (by decide +kernel) w hw).elim (fun h1 h2 => List.mem_filter.mpr ⟨h1, gw_of h2⟩)
theorem inG_5 : ∀ w ∈ u_ws RX5 TX5 12, w ∈ tbG := fun w hw => (goodIn_r (big := lw_tbl) (u_ws RX5 TX5 12) [246, 248, 250, 252, 254, 256, 258, 260, 262, 264, 266, 268] (by decide +kernel) (by decide +kernel) w hw).elim (fun h1 h2 => List.mem_filter.mpr ⟨h1, gw_of h2⟩)
theorem inG_6 : ∀ w ∈ u_ws RX6 TX6 17, w ∈ tbG := fun w hw => (goodIn_r (big := lw_tbl) (u_ws RX6 TX6 17) [288, 290, 292, 294, 296, 298, 300, 302, 304, 306, 308, 310, 312, 314, 316, 318, 320] (by decide +kernel) (by decide +kernel) w hw).elim (fun h1 h2 => List.mem_filter.mpr ⟨h1, gw_of h2⟩)
theorem inG_7 : ∀ w ∈ u_ws RX7 TX7 5, w ∈ tbG := fun w hw => (goodIn_r (big := lw_tbl) (u_ws RX7 TX7 5) [397, 399, 401, 403, 405] (by decide +kernel) (by decide +kernel) w hw).elim (fun h1 h2 => List.mem_filter.mpr ⟨h1, gw_of h2⟩)
theorem inG_8 : ∀ w ∈ u_ws RX8 TX8 7, w ∈ tbG := fun w hw => (goodIn_r (big := lw_tbl) (u_ws RX8 TX8 7) [185, 187, 189, 191, 193, 195, 197] (by decide +kernel) (by decide +kernel) w hw).elim (fun h1 h2 => List.mem_filter.mpr ⟨h1, gw_of h2⟩)
theorem inG_9 : ∀ w ∈ u_ws RX9 TX9 1, w ∈ tbG := fun w hw => (goodIn_r (big := lw_tbl) (u_ws RX9 TX9 1) [209] (by decide +kernel) (by decide +kernel) w hw).elim (fun h1 h2 => List.mem_filter.mpr ⟨h1, gw_of h2⟩)
theorem inG_10 : ∀ w ∈ u_ws RX10 TX10 2, w ∈ tbG := fun w hw => (goodIn_r (big := lw_tbl) (u_ws RX10 TX10 2) [465, 467] (by decide +kernel) (by decide +kernel) w hw).elim (fun h1 h2 => List.mem_filter.mpr ⟨h1, gw_of h2⟩)
theorem inG_11 : ∀ w ∈ u_ws RX11 TX11 16, w ∈ tbG := fun w hw => (goodIn_r (big := lw_tbl) (u_ws RX11 TX11 16) [486, 488, 490, 492, 494, 496, 498, 500, 502, 504, 506, 508, 510, 512, 514, 516] (by decide +kernel) (by decide +kernel) w hw).elim (fun h1 h2 => List.mem_filter.mpr ⟨h1, gw_of h2⟩)
theorem inG_12 : ∀ w ∈ u_ws RX12 TX12 66, w ∈ tbG := fun w hw => (goodIn_r (big := lw_tbl) (u_ws RX12 TX12 66) [1701, 1703, 1705, 1707, 1709, 1711, 1713, 1715, 1717, 1719, 1721, 1723, 1725, 1727, 1729, 1731, 1733, 1735, 1737, 1739, 1741, 1743, 1745, 1747, 1749, 1751, 1753, 1755, 1757, 1759, 1761, 1763, 1765, 1767, 1769, 1771, 1773, 1775, 1777, 1779, 1781, 1783, 1785, 1787, 1789, 1791, 1793, 1795, 1797, 1799, 1801, 1803, 1805, 1807, 1809, 1811, 1813, 1815, 1817, 1819, 1821, 1823, 1825, 1827, 1829, 1831] (by decide +kernel) (by decide +kernel) w hw).elim (fun h1 h2 => List.mem_filter.mpr ⟨h1, gw_of h2⟩)
theorem fd_RX0_11 : mFd RX0 0 11 0 true := ⟨RX0, TX0, 3, rfl, by decide, rfl, rfl, wd_333, inG_0, rfl, tyX0_ok, nmX0⟩
theorem fd_RX0_17 : mFd RX0 0 17 1 false := ⟨RX0, TX0, 3, rfl, by decide, rfl, rfl, wd_334, inG_0, rfl, tyX0_ok, nmX0⟩
theorem fd_RX0_21 : mFd RX0 0 21 2 false := ⟨RX0, TX0, 3, rfl, by decide, rfl, rfl, wd_335, inG_0, rfl, tyX0_ok, nmX0⟩
theorem fd_RX1_12 : mFd RX1 1 12 0 true := ⟨RX1, TX1, 5, rfl, by decide, rfl, rfl, wd_370, inG_1, rfl, tyX1_ok, nmX1⟩
theorem fd_RX1_18 : mFd RX1 1 18 1 true := ⟨RX1, TX1, 5, rfl, by decide, rfl, rfl, wd_371, inG_1, rfl, tyX1_ok, nmX1⟩
theorem fd_RX1_22 : mFd RX1 1 22 2 true := ⟨RX1, TX1, 5, rfl, by decide, rfl, rfl, wd_372, inG_1, rfl, tyX1_ok, nmX1⟩
theorem fd_RX1_25 : mFd RX1 1 25 3 true := ⟨RX1, TX1, 5, rfl, by decide, rfl, rfl, wd_373, inG_1, rfl, tyX1_ok, nmX1⟩
theorem fd_RX1_28 : mFd RX1 1 28 4 false := ⟨RX1, TX1, 5, rfl, by decide, rfl, rfl, wd_374, inG_1, rfl, tyX1_ok, nmX1⟩
theorem fd_RX1_53 : mFd RX1 5 53 3 false := ⟨RX5, TX5, 12, rfl, by decide, rfl, rfl, wd_219, inG_5, rfl, tyX5_ok, nmX5⟩
theorem fd_RX1_62 : mFd RX1 5 62 5 false := ⟨RX5, TX5, 12, rfl, by decide, rfl, rfl, wd_225, inG_5, rfl, tyX5_ok, nmX5⟩
theorem fd_RX10_12 : mFd RX10 10 12 0 true := ⟨RX10, TX10, 2, rfl, by decide, rfl, rfl, wd_463, inG_10, rfl, tyX10_ok, nmX10⟩
theorem fd_RX10_18 : mFd RX10 10 18 1 false := ⟨RX10, TX10, 2, rfl, by decide, rfl, rfl, wd_464, inG_10, rfl, tyX10_ok, nmX10⟩
theorem fd_RX10_31 : mFd RX10 5 31 3 false := ⟨RX5, TX5, 12, rfl, by decide, rfl, rfl, wd_218, inG_5, rfl, tyX5_ok, nmX5⟩
theorem fd_RX10_53 : mFd RX10 5 53 5 false := ⟨RX5, TX5, 12, rfl, by decide, rfl, rfl, wd_226, inG_5, rfl, tyX5_ok, nmX5⟩
theorem fd_RX11_10 : mFd RX11 11 10 0 true := ⟨RX11, TX11, 16, rfl, by decide, rfl, rfl, wd_470, inG_11, rfl, tyX11_ok, nmX11⟩
theorem fd_RX11_16 : mFd RX11 11 16 1 false := ⟨RX11, TX11, 16, rfl, by decide, rfl, rfl, wd_471, inG_11, rfl, tyX11_ok, nmX11⟩
theorem fd_RX11_20 : mFd RX11 11 20 2 true := ⟨RX11, TX11, 16, rfl, by decide, rfl, rfl, wd_472, inG_11, rfl, tyX11_ok, nmX11⟩
theorem fd_RX11_27 : mFd RX11 11 27 3 false := ⟨RX11, TX11, 16, rfl, by decide, rfl, rfl, wd_473, inG_11, rfl, tyX11_ok, nmX11⟩
theorem fd_RX11_34 : mFd RX11 11 34 4 true := ⟨RX11, TX11, 16, rfl, by decide, rfl, rfl, wd_474, inG_11, rfl, tyX11_ok, nmX11⟩
theorem fd_RX11_41 : mFd RX11 11 41 5 true := ⟨RX11, TX11, 16, rfl, by decide, rfl, rfl, wd_475, inG_11, rfl, tyX11_ok, nmX11⟩
theorem fd_RX11_48 : mFd RX11 11 48 6 true := ⟨RX11, TX11, 16, rfl, by decide, rfl, rfl, wd_476, inG_11, rfl, tyX11_ok, nmX11⟩
theorem fd_RX11_52 : mFd RX11 11 52 7 true := ⟨RX11, TX11, 16, rfl, by decide, rfl, rfl, wd_477, inG_11, rfl, tyX11_ok, nmX11⟩
theorem fd_RX11_55 : mFd RX11 11 55 8 true := ⟨RX11, TX11, 16, rfl, by decide, rfl, rfl, wd_478, inG_11, rfl, tyX11_ok, nmX11⟩
theorem fd_RX11_58 : mFd RX11 11 58 9 true := ⟨RX11, TX11, 16, rfl, by decide, rfl, rfl, wd_479, inG_11, rfl, tyX11_ok, nmX11⟩
theorem fd_RX11_61 : mFd RX11 11 61 10 false := ⟨RX11, TX11, 16, rfl, by decide, rfl, rfl, wd_480, inG_11, rfl, tyX11_ok, nmX11⟩
theorem fd_RX11_68 : mFd RX11 11 68 11 true := ⟨RX11, TX11, 16, rfl, by decide, rfl, rfl, wd_481, inG_11, rfl, tyX11_ok, nmX11⟩
theorem fd_RX11_75 : mFd RX11 11 75 12 true := ⟨RX11, TX11, 16, rfl, by decide, rfl, rfl, wd_482, inG_11, rfl, tyX11_ok, nmX11⟩
theorem fd_RX11_82 : mFd RX11 11 82 13 true := ⟨RX11, TX11, 16, rfl, by decide, rfl, rfl, wd_483, inG_11, rfl, tyX11_ok, nmX11⟩
theorem fd_RX11_89 : mFd RX11 11 89 14 true := ⟨RX11, TX11, 16, rfl, by decide, rfl, rfl, wd_484, inG_11, rfl, tyX11_ok, nmX11⟩
theorem fd_RX11_96 : mFd RX11 11 96 15 true := ⟨RX11, TX11, 16, rfl, by decide, rfl, rfl, wd_485, inG_11, rfl, tyX11_ok, nmX11⟩
theorem fd_RX11_126 : mFd RX11 5 126 11 true := ⟨RX5, TX5, 12, rfl, by decide, rfl, rfl, wd_244, inG_5, rfl, tyX5_ok, nmX5⟩
theorem fd_RX11_140 : mFd RX11 5 140 3 false := ⟨RX5, TX5, 12, rfl, by decide, rfl, rfl, wd_220, inG_5, rfl, tyX5_ok, nmX5⟩
theorem fd_RX11_157 : mFd RX11 5 157 5 false := ⟨RX5, TX5, 12, rfl, by decide, rfl, rfl, wd_227, inG_5, rfl, tyX5_ok, nmX5⟩
theorem fd_RX11_160 : mFd RX11 5 160 6 false := ⟨RX5, TX5, 12, rfl, by decide, rfl, rfl, wd_231, inG_5, rfl, tyX5_ok, nmX5⟩
theorem fd_RX11_163 : mFd RX11 5 163 8 false := ⟨RX5, TX5, 12, rfl, by decide, rfl, rfl, wd_236, inG_5, rfl, tyX5_ok, nmX5⟩
theorem fd_RX11_320 : mFd RX11 5 320 7 false := ⟨RX5, TX5, 12, rfl, by decide, rfl, rfl, wd_233, inG_5, rfl, tyX5_ok, nmX5⟩
theorem fd_RX12_7 : mFd RX12 12 7 3 false := ⟨RX12, TX12, 66, rfl, by decide, rfl, rfl, wd_1638, inG_12, rfl, tyX12_ok, nmX12⟩
theorem fd_RX12_13 : mFd RX12 12 13 6 false := ⟨RX12, TX12, 66, rfl, by decide, rfl, rfl, wd_1641, inG_12, rfl, tyX12_ok, nmX12⟩
theorem fd_RX12_16 : mFd RX12 12 16 7 false := ⟨RX12, TX12, 66, rfl, by decide, rfl, rfl, wd_1642, inG_12, rfl, tyX12_ok, nmX12⟩
theorem fd_RX12_19 : mFd RX12 12 19 8 true := ⟨RX12, TX12, 66, rfl, by decide, rfl, rfl, wd_1643, inG_12, rfl, tyX12_ok, nmX12⟩
theorem fd_RX12_23 : mFd RX12 12 23 9 true := ⟨RX12, TX12, 66, rfl, by decide, rfl, rfl, wd_1644, inG_12, rfl, tyX12_ok, nmX12⟩
theorem fd_RX12_26 : mFd RX12 12 26 10 true := ⟨RX12, TX12, 66, rfl, by decide, rfl, rfl, wd_1645, inG_12, rfl, tyX12_ok, nmX12⟩
theorem fd_RX12_29 : mFd RX12 12 29 11 true := ⟨RX12, TX12, 66, rfl, by decide, rfl, rfl, wd_1646, inG_12, rfl, tyX12_ok, nmX12⟩
theorem fd_RX12_32 : mFd RX12 12 32 12 true := ⟨RX12, TX12, 66, rfl, by decide, rfl, rfl, wd_1647, inG_12, rfl, tyX12_ok, nmX12⟩
theorem fd_RX12_35 : mFd RX12 12 35 15 false := ⟨RX12, TX12, 66, rfl, by decide, rfl, rfl, wd_1650, inG_12, rfl, tyX12_ok, nmX12⟩
theorem fd_RX12_38 : mFd RX12 12 38 16 true := ⟨RX12, TX12, 66, rfl, by decide, rfl, rfl, wd_1651, inG_12, rfl, tyX12_ok, nmX12⟩
theorem fd_RX12_41 : mFd RX12 12 41 35 true := ⟨RX12, TX12, 66, rfl, by decide, rfl, rfl, wd_1670, inG_12, rfl, tyX12_ok, nmX12⟩
theorem fd_RX12_44 : mFd RX12 12 44 36 true := ⟨RX12, TX12, 66, rfl, by decide, rfl, rfl, wd_1671, inG_12, rfl, tyX12_ok, nmX12⟩
theorem fd_RX12_47 : mFd RX12 12 47 37 true := ⟨RX12, TX12, 66, rfl, by decide, rfl, rfl, wd_1672, inG_12, rfl, tyX12_ok, nmX12⟩
theorem fd_RX12_50 : mFd RX12 12 50 38 true := ⟨RX12, TX12, 66, rfl, by decide, rfl, rfl, wd_1673, inG_12, rfl, tyX12_ok, nmX12⟩
theorem fd_RX12_53 : mFd RX12 12 53 39 true := ⟨RX12, TX12, 66, rfl, by decide, rfl, rfl, wd_1674, inG_12, rfl, tyX12_ok, nmX12⟩
theorem fd_RX12_56 : mFd RX12 12 56 40 true := ⟨RX12, TX12, 66, rfl, by decide, rfl, rfl, wd_1675, inG_12, rfl, tyX12_ok, nmX12⟩
theorem fd_RX12_59 : mFd RX12 12 59 41 true := ⟨RX12, TX12, 66, rfl, by decide, rfl, rfl, wd_1676, inG_12, rfl, tyX12_ok, nmX12⟩
theorem fd_RX12_63 : mFd RX12 12 63 42 true := ⟨RX12, TX12, 66, rfl, by decide, rfl, rfl, wd_1677, inG_12, rfl, tyX12_ok, nmX12⟩
theorem fd_RX12_66 : mFd RX12 12 66 43 true := ⟨RX12, TX12, 66, rfl, by decide, rfl, rfl, wd_1678, inG_12, rfl, tyX12_ok, nmX12⟩
theorem fd_RX12_69 : mFd RX12 12 69 45 true := ⟨RX12, TX12, 66, rfl, by decide, rfl, rfl, wd_1680, inG_12, rfl, tyX12_ok, nmX12⟩
theorem fd_RX12_72 : mFd RX12 12 72 46 true := ⟨RX12, TX12, 66, rfl, by decide, rfl, rfl, wd_1681, inG_12, rfl, tyX12_ok, nmX12⟩
theorem fd_RX12_75 : mFd RX12 12 75 47 false := ⟨RX12, TX12, 66, rfl, by decide, rfl, rfl, wd_1682, inG_12, rfl, tyX12_ok, nmX12⟩
theorem fd_RX12_78 : mFd RX12 12 78 48 true := ⟨RX12, TX12, 66, rfl, by decide, rfl, rfl, wd_1683, inG_12, rfl, tyX12_ok, nmX12⟩
theorem fd_RX12_81 : mFd RX12 12 81 49 true := ⟨RX12, TX12, 66, rfl, by decide, rfl, rfl, wd_1684, inG_12, rfl, tyX12_ok, nmX12⟩
theorem fd_RX12_84 : mFd RX12 12 84 50 true := ⟨RX12, TX12, 66, rfl, by decide, rfl, rfl, wd_1685, inG_12, rfl, tyX12_ok, nmX12⟩
theorem fd_RX12_87 : mFd RX12 12 87 51 true := ⟨RX12, TX12, 66, rfl, by decide, rfl, rfl, wd_1686, inG_12, rfl, tyX12_ok, nmX12⟩
theorem fd_RX12_90 : mFd RX12 12 90 53 true := ⟨RX12, TX12, 66, rfl, by decide, rfl, rfl, wd_1688, inG_12, rfl, tyX12_ok, nmX12⟩
theorem fd_RX12_93 : mFd RX12 12 93 54 true := ⟨RX12, TX12, 66, rfl, by decide, rfl, rfl, wd_1689, inG_12, rfl, tyX12_ok, nmX12⟩
theorem fd_RX12_96 : mFd RX12 12 96 56 true := ⟨RX12, TX12, 66, rfl, by decide, rfl, rfl, wd_1691, inG_12, rfl, tyX12_ok, nmX12⟩
theorem fd_RX12_99 : mFd RX12 12 99 57 true := ⟨RX12, TX12, 66, rfl, by decide, rfl, rfl, wd_1692, inG_12, rfl, tyX12_ok, nmX12⟩
theorem fd_RX12_102 : mFd RX12 12 102 58 true := ⟨RX12, TX12, 66, rfl, by decide, rfl, rfl, wd_1693, inG_12, rfl, tyX12_ok, nmX12⟩
theorem fd_RX12_105 : mFd RX12 12 105 63 true := ⟨RX12, TX12, 66, rfl, by decide, rfl, rfl, wd_1698, inG_12, rfl, tyX12_ok, nmX12⟩
theorem fd_RX12_108 : mFd RX12 12 108 64 true := ⟨RX12, TX12, 66, rfl, by decide, rfl, rfl, wd_1699, inG_12, rfl, tyX12_ok, nmX12⟩
theorem fd_RX12_111 : mFd RX12 12 111 65 true := ⟨RX12, TX12, 66, rfl, by decide, rfl, rfl, wd_1700, inG_12, rfl, tyX12_ok, nmX12⟩
theorem fd_RX12_114 : mFd RX12 12 114 0 false := ⟨RX12, TX12, 66, rfl, by decide, rfl, rfl, wd_1635, inG_12, rfl, tyX12_ok, nmX12⟩
theorem fd_RX12_117 : mFd RX12 12 117 13 false := ⟨RX12, TX12, 66, rfl, by decide, rfl, rfl, wd_1648, inG_12, rfl, tyX12_ok, nmX12⟩
theorem fd_RX12_124 : mFd RX12 12 124 17 false := ⟨RX12, TX12, 66, rfl, by decide, rfl, rfl, wd_1652, inG_12, rfl, tyX12_ok, nmX12⟩
theorem fd_RX12_127 : mFd RX12 12 127 18 false := ⟨RX12, TX12, 66, rfl, by decide, rfl, rfl, wd_1653, inG_12, rfl, tyX12_ok, nmX12⟩
theorem fd_RX12_134 : mFd RX12 12 134 20 false := ⟨RX12, TX12, 66, rfl, by decide, rfl, rfl, wd_1655, inG_12, rfl, tyX12_ok, nmX12⟩
theorem fd_RX12_137 : mFd RX12 12 137 24 false := ⟨RX12, TX12, 66, rfl, by decide, rfl, rfl, wd_1659, inG_12, rfl, tyX12_ok, nmX12⟩
theorem fd_RX12_141 : mFd RX12 12 141 22 false := ⟨RX12, TX12, 66, rfl, by decide, rfl, rfl, wd_1657, inG_12, rfl, tyX12_ok, nmX12⟩
theorem fd_RX12_144 : mFd RX12 12 144 23 false := ⟨RX12, TX12, 66, rfl, by decide, rfl, rfl, wd_1658, inG_12, rfl, tyX12_ok, nmX12⟩
theorem fd_RX12_147 : mFd RX12 12 147 19 false := ⟨RX12, TX12, 66, rfl, by decide, rfl, rfl, wd_1654, inG_12, rfl, tyX12_ok, nmX12⟩
theorem fd_RX12_157 : mFd RX12 12 157 21 false := ⟨RX12, TX12, 66, rfl, by decide, rfl, rfl, wd_1656, inG_12, rfl, tyX12_ok, nmX12⟩
theorem fd_RX12_170 : mFd RX12 12 170 14 false := ⟨RX12, TX12, 66, rfl, by decide, rfl, rfl, wd_1649, inG_12, rfl, tyX12_ok, nmX12⟩
theorem fd_RX12_183 : mFd RX12 12 183 32 false := ⟨RX12, TX12, 66, rfl, by decide, rfl, rfl, wd_1667, inG_12, rfl, tyX12_ok, nmX12⟩
theorem fd_RX12_186 : mFd RX12 12 186 33 false := ⟨RX12, TX12, 66, rfl, by decide, rfl, rfl, wd_1668, inG_12, rfl, tyX12_ok, nmX12⟩
theorem fd_RX12_202 : mFd RX12 12 202 34 false := ⟨RX12, TX12, 66, rfl, by decide, rfl, rfl, wd_1669, inG_12, rfl, tyX12_ok, nmX12⟩
theorem fd_RX12_230 : mFd RX12 12 230 25 false := ⟨RX12, TX12, 66, rfl, by decide, rfl, rfl, wd_1660, inG_12, rfl, tyX12_ok, nmX12⟩
theorem fd_RX12_250 : mFd RX12 12 250 26 false := ⟨RX12, TX12, 66, rfl, by decide, rfl, rfl, wd_1661, inG_12, rfl, tyX12_ok, nmX12⟩
theorem fd_RX12_261 : mFd RX12 12 261 27 false := ⟨RX12, TX12, 66, rfl, by decide, rfl, rfl, wd_1662, inG_12, rfl, tyX12_ok, nmX12⟩
theorem fd_RX12_264 : mFd RX12 12 264 28 false := ⟨RX12, TX12, 66, rfl, by decide, rfl, rfl, wd_1663, inG_12, rfl, tyX12_ok, nmX12⟩
theorem fd_RX12_267 : mFd RX12 12 267 29 false := ⟨RX12, TX12, 66, rfl, by decide, rfl, rfl, wd_1664, inG_12, rfl, tyX12_ok, nmX12⟩
theorem fd_RX12_270 : mFd RX12 12 270 30 false := ⟨RX12, TX12, 66, rfl, by decide, rfl, rfl, wd_1665, inG_12, rfl, tyX12_ok, nmX12⟩
theorem fd_RX12_276 : mFd RX12 12 276 31 false := ⟨RX12, TX12, 66, rfl, by decide, rfl, rfl, wd_1666, inG_12, rfl, tyX12_ok, nmX12⟩
theorem fd_RX12_289 : mFd RX12 12 289 1 false := ⟨RX12, TX12, 66, rfl, by decide, rfl, rfl, wd_1636, inG_12, rfl, tyX12_ok, nmX12⟩
theorem fd_RX12_292 : mFd RX12 12 292 2 false := ⟨RX12, TX12, 66, rfl, by decide, rfl, rfl, wd_1637, inG_12, rfl, tyX12_ok, nmX12⟩
theorem fd_RX12_295 : mFd RX12 12 295 4 false := ⟨RX12, TX12, 66, rfl, by decide, rfl, rfl, wd_1639, inG_12, rfl, tyX12_ok, nmX12⟩
theorem fd_RX12_298 : mFd RX12 12 298 5 false := ⟨RX12, TX12, 66, rfl, by decide, rfl, rfl, wd_1640, inG_12, rfl, tyX12_ok, nmX12⟩
theorem fd_RX12_305 : mFd RX12 12 305 44 false := ⟨RX12, TX12, 66, rfl, by decide, rfl, rfl, wd_1679, inG_12, rfl, tyX12_ok, nmX12⟩
theorem fd_RX12_308 : mFd RX12 12 308 55 false := ⟨RX12, TX12, 66, rfl, by decide, rfl, rfl, wd_1690, inG_12, rfl, tyX12_ok, nmX12⟩
theorem fd_RX12_311 : mFd RX12 12 311 60 false := ⟨RX12, TX12, 66, rfl, by decide, rfl, rfl, wd_1695, inG_12, rfl, tyX12_ok, nmX12⟩
theorem fd_RX12_408 : mFd RX12 12 408 52 false := ⟨RX12, TX12, 66, rfl, by decide, rfl, rfl, wd_1687, inG_12, rfl, tyX12_ok, nmX12⟩
theorem fd_RX12_442 : mFd RX12 12 442 59 false := ⟨RX12, TX12, 66, rfl, by decide, rfl, rfl, wd_1694, inG_12, rfl, tyX12_ok, nmX12⟩
theorem fd_RX12_458 : mFd RX12 12 458 61 false := ⟨RX12, TX12, 66, rfl, by decide, rfl, rfl, wd_1696, inG_12, rfl, tyX12_ok, nmX12⟩
theorem fd_RX12_461 : mFd RX12 12 461 62 false := ⟨RX12, TX12, 66, rfl, by decide, rfl, rfl, wd_1697, inG_12, rfl, tyX12_ok, nmX12⟩
theorem fd_RX2_9 : mFd RX2 2 9 0 true := ⟨RX2, TX2, 5, rfl, by decide, rfl, rfl, wd_414, inG_2, rfl, tyX2_ok, nmX2⟩
theorem fd_RX2_15 : mFd RX2 2 15 1 true := ⟨RX2, TX2, 5, rfl, by decide, rfl, rfl, wd_415, inG_2, rfl, tyX2_ok, nmX2⟩
theorem fd_RX2_18 : mFd RX2 2 18 2 false := ⟨RX2, TX2, 5, rfl, by decide, rfl, rfl, wd_416, inG_2, rfl, tyX2_ok, nmX2⟩
theorem fd_RX2_22 : mFd RX2 2 22 3 false := ⟨RX2, TX2, 5, rfl, by decide, rfl, rfl, wd_417, inG_2, rfl, tyX2_ok, nmX2⟩
theorem fd_RX2_25 : mFd RX2 2 25 4 false := ⟨RX2, TX2, 5, rfl, by decide, rfl, rfl, wd_418, inG_2, rfl, tyX2_ok, nmX2⟩
theorem fd_RX2_29 : mFd RX2 5 29 6 false := ⟨RX5, TX5, 12, rfl, by decide, rfl, rfl, wd_230, inG_5, rfl, tyX5_ok, nmX5⟩
theorem fd_RX2_34 : mFd RX2 5 34 3 false := ⟨RX5, TX5, 12, rfl, by decide, rfl, rfl, wd_217, inG_5, rfl, tyX5_ok, nmX5⟩
theorem fd_RX3_9 : mFd RX3 3 9 0 true := ⟨RX3, TX3, 6, rfl, by decide, rfl, rfl, wd_436, inG_3, rfl, tyX3_ok, nmX3⟩
theorem fd_RX3_15 : mFd RX3 3 15 1 true := ⟨RX3, TX3, 6, rfl, by decide, rfl, rfl, wd_437, inG_3, rfl, tyX3_ok, nmX3⟩
theorem fd_RX3_18 : mFd RX3 3 18 2 false := ⟨RX3, TX3, 6, rfl, by decide, rfl, rfl, wd_438, inG_3, rfl, tyX3_ok, nmX3⟩
theorem fd_RX3_22 : mFd RX3 3 22 3 false := ⟨RX3, TX3, 6, rfl, by decide, rfl, rfl, wd_439, inG_3, rfl, tyX3_ok, nmX3⟩
theorem fd_RX3_25 : mFd RX3 3 25 4 false := ⟨RX3, TX3, 6, rfl, by decide, rfl, rfl, wd_440, inG_3, rfl, tyX3_ok, nmX3⟩
theorem fd_RX3_28 : mFd RX3 3 28 5 false := ⟨RX3, TX3, 6, rfl, by decide, rfl, rfl, wd_441, inG_3, rfl, tyX3_ok, nmX3⟩
theorem fd_RX4_9 : mFd RX4 4 9 0 true := ⟨RX4, TX4, 4, rfl, by decide, rfl, rfl, wd_349, inG_4, rfl, tyX4_ok, nmX4⟩
theorem fd_RX4_15 : mFd RX4 4 15 1 true := ⟨RX4, TX4, 4, rfl, by decide, rfl, rfl, wd_350, inG_4, rfl, tyX4_ok, nmX4⟩
theorem fd_RX4_18 : mFd RX4 4 18 2 true := ⟨RX4, TX4, 4, rfl, by decide, rfl, rfl, wd_351, inG_4, rfl, tyX4_ok, nmX4⟩
theorem fd_RX4_21 : mFd RX4 4 21 3 false := ⟨RX4, TX4, 4, rfl, by decide, rfl, rfl, wd_352, inG_4, rfl, tyX4_ok, nmX4⟩
theorem fd_RX5_9 : mFd RX5 5 9 0 true := ⟨RX5, TX5, 12, rfl, by decide, rfl, rfl, wd_212, inG_5, rfl, tyX5_ok, nmX5⟩
theorem fd_RX5_15 : mFd RX5 5 15 1 true := ⟨RX5, TX5, 12, rfl, by decide, rfl, rfl, wd_213, inG_5, rfl, tyX5_ok, nmX5⟩
theorem fd_RX5_18 : mFd RX5 5 18 2 true := ⟨RX5, TX5, 12, rfl, by decide, rfl, rfl, wd_214, inG_5, rfl, tyX5_ok, nmX5⟩
theorem fd_RX5_21 : mFd RX5 5 21 3 false := ⟨RX5, TX5, 12, rfl, by decide, rfl, rfl, wd_215, inG_5, rfl, tyX5_ok, nmX5⟩
theorem fd_RX5_25 : mFd RX5 5 25 4 false := ⟨RX5, TX5, 12, rfl, by decide, rfl, rfl, wd_223, inG_5, rfl, tyX5_ok, nmX5⟩
theorem fd_RX5_28 : mFd RX5 5 28 5 false := ⟨RX5, TX5, 12, rfl, by decide, rfl, rfl, wd_224, inG_5, rfl, tyX5_ok, nmX5⟩
theorem fd_RX5_31 : mFd RX5 5 31 6 false := ⟨RX5, TX5, 12, rfl, by decide, rfl, rfl, wd_229, inG_5, rfl, tyX5_ok, nmX5⟩
theorem fd_RX5_34 : mFd RX5 5 34 7 false := ⟨RX5, TX5, 12, rfl, by decide, rfl, rfl, wd_232, inG_5, rfl, tyX5_ok, nmX5⟩
theorem fd_RX5_37 : mFd RX5 5 37 8 false := ⟨RX5, TX5, 12, rfl, by decide, rfl, rfl, wd_234, inG_5, rfl, tyX5_ok, nmX5⟩
theorem fd_RX5_43 : mFd RX5 5 43 9 true := ⟨RX5, TX5, 12, rfl, by decide, rfl, rfl, wd_237, inG_5, rfl, tyX5_ok, nmX5⟩
theorem fd_RX5_47 : mFd RX5 5 47 10 true := ⟨RX5, TX5, 12, rfl, by decide, rfl, rfl, wd_240, inG_5, rfl, tyX5_ok, nmX5⟩
theorem fd_RX5_53 : mFd RX5 5 53 11 true := ⟨RX5, TX5, 12, rfl, by decide, rfl, rfl, wd_243, inG_5, rfl, tyX5_ok, nmX5⟩
theorem fd_RX6_9 : mFd RX6 6 9 0 true := ⟨RX6, TX6, 17, rfl, by decide, rfl, rfl, wd_271, inG_6, rfl, tyX6_ok, nmX6⟩
theorem fd_RX6_15 : mFd RX6 6 15 1 false := ⟨RX6, TX6, 17, rfl, by decide, rfl, rfl, wd_272, inG_6, rfl, tyX6_ok, nmX6⟩
theorem fd_RX6_19 : mFd RX6 6 19 2 false := ⟨RX6, TX6, 17, rfl, by decide, rfl, rfl, wd_273, inG_6, rfl, tyX6_ok, nmX6⟩
theorem fd_RX6_22 : mFd RX6 6 22 3 false := ⟨RX6, TX6, 17, rfl, by decide, rfl, rfl, wd_274, inG_6, rfl, tyX6_ok, nmX6⟩
theorem fd_RX6_25 : mFd RX6 6 25 4 false := ⟨RX6, TX6, 17, rfl, by decide, rfl, rfl, wd_275, inG_6, rfl, tyX6_ok, nmX6⟩
theorem fd_RX6_28 : mFd RX6 6 28 5 false := ⟨RX6, TX6, 17, rfl, by decide, rfl, rfl, wd_276, inG_6, rfl, tyX6_ok, nmX6⟩
theorem fd_RX6_31 : mFd RX6 6 31 6 false := ⟨RX6, TX6, 17, rfl, by decide, rfl, rfl, wd_277, inG_6, rfl, tyX6_ok, nmX6⟩
theorem fd_RX6_34 : mFd RX6 6 34 7 false := ⟨RX6, TX6, 17, rfl, by decide, rfl, rfl, wd_278, inG_6, rfl, tyX6_ok, nmX6⟩
theorem fd_RX6_37 : mFd RX6 6 37 8 false := ⟨RX6, TX6, 17, rfl, by decide, rfl, rfl, wd_279, inG_6, rfl, tyX6_ok, nmX6⟩
theorem fd_RX6_40 : mFd RX6 6 40 9 false := ⟨RX6, TX6, 17, rfl, by decide, rfl, rfl, wd_280, inG_6, rfl, tyX6_ok, nmX6⟩
theorem fd_RX6_43 : mFd RX6 6 43 10 false := ⟨RX6, TX6, 17, rfl, by decide, rfl, rfl, wd_281, inG_6, rfl, tyX6_ok, nmX6⟩
theorem fd_RX6_49 : mFd RX6 6 49 11 false := ⟨RX6, TX6, 17, rfl, by decide, rfl, rfl, wd_282, inG_6, rfl, tyX6_ok, nmX6⟩
theorem fd_RX6_53 : mFd RX6 5 53 9 true := ⟨RX5, TX5, 12, rfl, by decide, rfl, rfl, wd_238, inG_5, rfl, tyX5_ok, nmX5⟩
theorem fd_RX6_57 : mFd RX6 6 57 12 false := ⟨RX6, TX6, 17, rfl, by decide, rfl, rfl, wd_283, inG_6, rfl, tyX6_ok, nmX6⟩
theorem fd_RX6_60 : mFd RX6 6 60 13 false := ⟨RX6, TX6, 17, rfl, by decide, rfl, rfl, wd_284, inG_6, rfl, tyX6_ok, nmX6⟩
theorem fd_RX6_63 : mFd RX6 6 63 14 false := ⟨RX6, TX6, 17, rfl, by decide, rfl, rfl, wd_285, inG_6, rfl, tyX6_ok, nmX6⟩
theorem fd_RX6_66 : mFd RX6 6 66 15 false := ⟨RX6, TX6, 17, rfl, by decide, rfl, rfl, wd_286, inG_6, rfl, tyX6_ok, nmX6⟩
theorem fd_RX6_69 : mFd RX6 6 69 16 false := ⟨RX6, TX6, 17, rfl, by decide, rfl, rfl, wd_287, inG_6, rfl, tyX6_ok, nmX6⟩
theorem fd_RX6_170 : mFd RX6 5 170 10 true := ⟨RX5, TX5, 12, rfl, by decide, rfl, rfl, wd_241, inG_5, rfl, tyX5_ok, nmX5⟩
theorem fd_RX6_180 : mFd RX6 5 180 5 false := ⟨RX5, TX5, 12, rfl, by decide, rfl, rfl, wd_228, inG_5, rfl, tyX5_ok, nmX5⟩
theorem fd_RX6_196 : mFd RX6 5 196 3 false := ⟨RX5, TX5, 12, rfl, by decide, rfl, rfl, wd_222, inG_5, rfl, tyX5_ok, nmX5⟩
theorem fd_RX6_205 : mFd RX6 5 205 11 true := ⟨RX5, TX5, 12, rfl, by decide, rfl, rfl, wd_245, inG_5, rfl, tyX5_ok, nmX5⟩
theorem fd_RX7_9 : mFd RX7 7 9 0 true := ⟨RX7, TX7, 5, rfl, by decide, rfl, rfl, wd_392, inG_7, rfl, tyX7_ok, nmX7⟩
theorem fd_RX7_15 : mFd RX7 7 15 1 true := ⟨RX7, TX7, 5, rfl, by decide, rfl, rfl, wd_393, inG_7, rfl, tyX7_ok, nmX7⟩
theorem fd_RX7_18 : mFd RX7 7 18 2 true := ⟨RX7, TX7, 5, rfl, by decide, rfl, rfl, wd_394, inG_7, rfl, tyX7_ok, nmX7⟩
theorem fd_RX7_21 : mFd RX7 7 21 3 false := ⟨RX7, TX7, 5, rfl, by decide, rfl, rfl, wd_395, inG_7, rfl, tyX7_ok, nmX7⟩
theorem fd_RX7_25 : mFd RX7 7 25 4 false := ⟨RX7, TX7, 5, rfl, by decide, rfl, rfl, wd_396, inG_7, rfl, tyX7_ok, nmX7⟩
theorem fd_RX7_28 : mFd RX7 5 28 3 false := ⟨RX5, TX5, 12, rfl, by decide, rfl, rfl, wd_216, inG_5, rfl, tyX5_ok, nmX5⟩
theorem fd_RX7_39 : mFd RX7 5 39 8 false := ⟨RX5, TX5, 12, rfl, by decide, rfl, rfl, wd_235, inG_5, rfl, tyX5_ok, nmX5⟩
theorem fd_RX8_9 : mFd RX8 8 9 0 true := ⟨RX8, TX8, 7, rfl, by decide, rfl, rfl, wd_178, inG_8, rfl, tyX8_ok, nmX8⟩
theorem fd_RX8_15 : mFd RX8 8 15 1 true := ⟨RX8, TX8, 7, rfl, by decide, rfl, rfl, wd_179, inG_8, rfl, tyX8_ok, nmX8⟩
theorem fd_RX8_18 : mFd RX8 8 18 2 true := ⟨RX8, TX8, 7, rfl, by decide, rfl, rfl, wd_180, inG_8, rfl, tyX8_ok, nmX8⟩
theorem fd_RX8_21 : mFd RX8 8 21 3 true := ⟨RX8, TX8, 7, rfl, by decide, rfl, rfl, wd_181, inG_8, rfl, tyX8_ok, nmX8⟩
theorem fd_RX8_24 : mFd RX8 8 24 4 true := ⟨RX8, TX8, 7, rfl, by decide, rfl, rfl, wd_182, inG_8, rfl, tyX8_ok, nmX8⟩
theorem fd_RX8_27 : mFd RX8 8 27 5 false := ⟨RX8, TX8, 7, rfl, by decide, rfl, rfl, wd_183, inG_8, rfl, tyX8_ok, nmX8⟩
theorem fd_RX8_31 : mFd RX8 8 31 6 false := ⟨RX8, TX8, 7, rfl, by decide, rfl, rfl, wd_184, inG_8, rfl, tyX8_ok, nmX8⟩
theorem fd_RX9_11 : mFd RX9 9 11 0 true := ⟨RX9, TX9, 1, rfl, by decide, rfl, rfl, wd_208, inG_9, rfl, tyX9_ok, nmX9⟩
theorem fd_RX9_44 : mFd RX9 5 44 9 true := ⟨RX5, TX5, 12, rfl, by decide, rfl, rfl, wd_239, inG_5, rfl, tyX5_ok, nmX5⟩
theorem fd_RX9_86 : mFd RX9 5 86 3 false := ⟨RX5, TX5, 12, rfl, by decide, rfl, rfl, wd_221, inG_5, rfl, tyX5_ok, nmX5⟩
theorem fd_RX9_97 : mFd RX9 5 97 10 true := ⟨RX5, TX5, 12, rfl, by decide, rfl, rfl, wd_242, inG_5, rfl, tyX5_ok, nmX5⟩
theorem ci_X0_init : mCi mX0_init 0 := ⟨⟨wd_331, wd_132, by decide, by decide, by decide⟩, wd_330, rfl, rfl⟩
theorem ci_X10_init : mCi mX10_init 0 := ⟨⟨wd_459, wd_138, by decide, by decide, by decide⟩, wd_458, rfl, rfl⟩
theorem ci_X1_init : mCi mX1_init 0 := ⟨⟨wd_366, wd_134, by decide, by decide, by decide⟩, wd_365, rfl, rfl⟩
theorem ci_X2_init : mCi mX2_init 0 := ⟨⟨wd_412, wd_136, by decide, by decide, by decide⟩, wd_411, rfl, rfl⟩
theorem ci_X3_init : mCi mX3_init 0 := ⟨⟨wd_434, wd_137, by decide, by decide, by decide⟩, wd_433, rfl, rfl⟩
theorem ci_X4_init : mCi mX4_init 0 := ⟨⟨wd_347, wd_133, by decide, by decide, by decide⟩, wd_346, rfl, rfl⟩
theorem ci_X5_init : mCi mX5_init 0 := ⟨⟨wd_170, wd_129, by decide, by decide, by decide⟩, wd_169, rfl, rfl⟩
theorem ci_X6_init : mCi mX6_init 0 := ⟨⟨wd_164, wd_128, by decide, by decide, by decide⟩, wd_163, rfl, rfl⟩
theorem ci_X7_init : mCi mX7_init 0 := ⟨⟨wd_390, wd_135, by decide, by decide, by decide⟩, wd_389, rfl, rfl⟩
theorem ci_X8_init : mCi mX8_init 0 := ⟨⟨wd_176, wd_130, by decide, by decide, by decide⟩, wd_175, rfl, rfl⟩
theorem ci_X9_init : mCi mX9_init 0 := ⟨⟨wd_206, wd_131, by decide, by decide, by decide⟩, wd_205, rfl, rfl⟩
theorem cs_J6_bitCount_0f7a4 : mCs mJ6_bitCount_0f7a4 1 := ⟨⟨wd_1156, wd_150, by decide, by decide, by decide⟩, wd_1155⟩
theorem cs_X11_isChangeNumber : mCs mX11_isChangeNumber 1 := ⟨⟨wd_771, wd_127, by decide, by decide, by decide⟩, wd_770⟩
theorem cs_X11_isNote : mCs mX11_isNote 1 := ⟨⟨wd_794, wd_127, by decide, by decide, by decide⟩, wd_793⟩
theorem cs_X11_within : mCs mX11_within 2 := ⟨⟨wd_628, wd_127, by decide, by decide, by decide⟩, wd_627⟩
theorem cs_X12_bits : mCs mX12_bits 1 := ⟨⟨wd_2212, wd_139, by decide, by decide, by decide⟩, wd_2211⟩
theorem cs_X12_isChange : mCs mX12_isChange 1 := ⟨⟨wd_1914, wd_139, by decide, by decide, by decide⟩, wd_1913⟩
theorem cs_X12_isDigit : mCs mX12_isDigit 1 := ⟨⟨wd_1868, wd_139, by decide, by decide, by decide⟩, wd_1867⟩
theorem cs_X12_isLetter : mCs mX12_isLetter 1 := ⟨⟨wd_1865, wd_139, by decide, by decide, by decide⟩, wd_1864⟩
theorem cs_X12_isOpen : mCs mX12_isOpen 1 := ⟨⟨wd_1952, wd_139, by decide, by decide, by decide⟩, wd_1951⟩
theorem cs_X12_kept : mCs mX12_kept 3 := ⟨⟨wd_2018, wd_139, by decide, by decide, by decide⟩, wd_2017⟩
theorem cs_X12_letters : mCs mX12_letters 1 := ⟨⟨wd_1883, wd_139, by decide, by decide, by decide⟩, wd_1882⟩
theorem cs_X12_spelled : mCs mX12_spelled 7 := ⟨⟨wd_1886, wd_139, by decide, by decide, by decide⟩, wd_1885⟩
theorem cs_X12_strength : mCs mX12_strength 1 := ⟨⟨wd_1955, wd_139, by decide, by decide, by decide⟩, wd_1954⟩
theorem cs_X12_within : mCs mX12_within 3 := ⟨⟨wd_1917, wd_139, by decide, by decide, by decide⟩, wd_1916⟩
theorem cs_X12_works : mCs mX12_works 3 := ⟨⟨wd_2029, wd_139, by decide, by decide, by decide⟩, wd_2028⟩
theorem cs_X6_isBlank : mCs mX6_isBlank 1 := ⟨⟨wd_934, wd_128, by decide, by decide, by decide⟩, wd_933⟩
theorem cs_X6_isDigit : mCs mX6_isDigit 1 := ⟨⟨wd_940, wd_128, by decide, by decide, by decide⟩, wd_939⟩
theorem cs_X6_isLetter : mCs mX6_isLetter 1 := ⟨⟨wd_937, wd_128, by decide, by decide, by decide⟩, wd_936⟩
theorem cs_X6_isSign : mCs mX6_isSign 1 := ⟨⟨wd_947, wd_128, by decide, by decide, by decide⟩, wd_946⟩
theorem cs_X7_bellAt : mCs mX7_bellAt 2 := ⟨⟨wd_747, wd_135, by decide, by decide, by decide⟩, wd_746⟩
theorem cs_X8_joined : mCs mX8_joined 3 := ⟨⟨wd_625, wd_130, by decide, by decide, by decide⟩, wd_624⟩
theorem cv_X0_clear : mCv mX0_clear 0 0 := ⟨⟨wd_1137, wd_132, by decide, by decide, by decide⟩, wd_1135, wd_1136, TX0, 3, rfl⟩
theorem cv_X0_copyFrom : mCv mX0_copyFrom 0 1 := ⟨⟨wd_823, wd_132, by decide, by decide, by decide⟩, wd_821, wd_822, TX0, 3, rfl⟩
theorem cv_X0_keep : mCv mX0_keep 0 1 := ⟨⟨wd_558, wd_132, by decide, by decide, by decide⟩, wd_556, wd_557, TX0, 3, rfl⟩
theorem cv_X0_many : mCv mX0_many 0 0 := ⟨⟨wd_659, wd_132, by decide, by decide, by decide⟩, wd_657, wd_658, TX0, 3, rfl⟩
theorem cv_X0_undoInto : mCv mX0_undoInto 0 1 := ⟨⟨wd_651, wd_132, by decide, by decide, by decide⟩, wd_649, wd_650, TX0, 3, rfl⟩
theorem cv_X10_begin : mCv mX10_begin 10 2 := ⟨⟨wd_1511, wd_138, by decide, by decide, by decide⟩, wd_1509, wd_1510, TX10, 2, rfl⟩
theorem cv_X10_draw : mCv mX10_draw 10 1 := ⟨⟨wd_1520, wd_138, by decide, by decide, by decide⟩, wd_1519, wd_55, TX10, 2, rfl⟩
theorem cv_X10_gone : mCv mX10_gone 10 1 := ⟨⟨wd_1534, wd_138, by decide, by decide, by decide⟩, wd_1532, wd_1533, TX10, 2, rfl⟩
theorem cv_X10_passDrawnDay : mCv mX10_passDrawnDay 10 1 := ⟨⟨wd_1516, wd_138, by decide, by decide, by decide⟩, wd_1514, wd_1515, TX10, 2, rfl⟩
theorem cv_X10_sizeInGarden : mCv mX10_sizeInGarden 10 1 := ⟨⟨wd_1538, wd_138, by decide, by decide, by decide⟩, wd_1536, wd_1537, TX10, 2, rfl⟩
theorem cv_X10_sounding : mCv mX10_sounding 10 1 := ⟨⟨wd_1529, wd_138, by decide, by decide, by decide⟩, wd_1527, wd_1528, TX10, 2, rfl⟩
theorem cv_X11_beginAct : mCv mX11_beginAct 11 0 := ⟨⟨wd_554, wd_127, by decide, by decide, by decide⟩, wd_553, wd_2, TX11, 16, rfl⟩
theorem cv_X11_bitsAt : mCv mX11_bitsAt 11 1 := ⟨⟨wd_1153, wd_127, by decide, by decide, by decide⟩, wd_1152, wd_36, TX11, 16, rfl⟩
theorem cv_X11_checkChange : mCv mX11_checkChange 11 1 := ⟨⟨wd_1233, wd_127, by decide, by decide, by decide⟩, wd_1232, wd_39, TX11, 16, rfl⟩
theorem cv_X11_checkChanges : mCv mX11_checkChanges 11 1 := ⟨⟨wd_1334, wd_127, by decide, by decide, by decide⟩, wd_1333, wd_43, TX11, 16, rfl⟩
theorem cv_X11_checkFar : mCv mX11_checkFar 11 1 := ⟨⟨wd_1291, wd_127, by decide, by decide, by decide⟩, wd_1290, wd_40, TX11, 16, rfl⟩
theorem cv_X11_checkHook : mCv mX11_checkHook 11 1 := ⟨⟨wd_1208, wd_127, by decide, by decide, by decide⟩, wd_1207, wd_38, TX11, 16, rfl⟩
theorem cv_X11_checkNote : mCv mX11_checkNote 11 1 := ⟨⟨wd_1550, wd_127, by decide, by decide, by decide⟩, wd_1549, wd_56, TX11, 16, rfl⟩
theorem cv_X11_checkRoot : mCv mX11_checkRoot 11 1 := ⟨⟨wd_1186, wd_127, by decide, by decide, by decide⟩, wd_1185, wd_37, TX11, 16, rfl⟩
theorem cv_X11_checkTwo : mCv mX11_checkTwo 11 1 := ⟨⟨wd_1448, wd_127, by decide, by decide, by decide⟩, wd_1447, wd_49, TX11, 16, rfl⟩
theorem cv_X11_forgetWork : mCv mX11_forgetWork 11 0 := ⟨⟨wd_569, wd_127, by decide, by decide, by decide⟩, wd_568, wd_3, TX11, 16, rfl⟩
theorem cv_X11_gainOf : mCv mX11_gainOf 11 4 := ⟨⟨wd_1490, wd_127, by decide, by decide, by decide⟩, wd_1489, wd_54, TX11, 16, rfl⟩
theorem cv_X11_goingBefore : mCv mX11_goingBefore 11 2 := ⟨⟨wd_1318, wd_127, by decide, by decide, by decide⟩, wd_1317, wd_41, TX11, 16, rfl⟩
theorem cv_X11_goingOf : mCv mX11_goingOf 11 1 := ⟨⟨wd_718, wd_127, by decide, by decide, by decide⟩, wd_717, wd_10, TX11, 16, rfl⟩
theorem cv_X11_goingRank : mCv mX11_goingRank 11 1 := ⟨⟨wd_1322, wd_127, by decide, by decide, by decide⟩, wd_1321, wd_42, TX11, 16, rfl⟩
theorem cv_X11_hangingBits : mCv mX11_hangingBits 11 0 := ⟨⟨wd_1149, wd_127, by decide, by decide, by decide⟩, wd_1148, wd_35, TX11, 16, rfl⟩
theorem cv_X11_isBeyond : mCv mX11_isBeyond 11 3 := ⟨⟨wd_1582, wd_127, by decide, by decide, by decide⟩, wd_1581, wd_57, TX11, 16, rfl⟩
theorem cv_X11_isContent : mCv mX11_isContent 11 4 := ⟨⟨wd_1486, wd_127, by decide, by decide, by decide⟩, wd_1485, wd_53, TX11, 16, rfl⟩
theorem cv_X11_lastDayAmong : mCv mX11_lastDayAmong 11 1 := ⟨⟨wd_694, wd_127, by decide, by decide, by decide⟩, wd_693, wd_9, TX11, 16, rfl⟩
theorem cv_X11_mostChoice : mCv mX11_mostChoice 11 1 := ⟨⟨wd_1482, wd_127, by decide, by decide, by decide⟩, wd_1481, wd_52, TX11, 16, rfl⟩
theorem cv_X11_refuseAct : mCv mX11_refuseAct 11 1 := ⟨⟨wd_550, wd_127, by decide, by decide, by decide⟩, wd_549, wd_1, TX11, 16, rfl⟩
theorem cv_X11_soundingNow : mCv mX11_soundingNow 11 0 := ⟨⟨wd_779, wd_127, by decide, by decide, by decide⟩, wd_778, wd_13, TX11, 16, rfl⟩
theorem cv_X12_begins : mCv mX12_begins 12 1 := ⟨⟨wd_1907, wd_139, by decide, by decide, by decide⟩, wd_1906, wd_71, TX12, 66, rfl⟩
theorem cv_X12_bells : mCv mX12_bells 12 0 := ⟨⟨wd_1987, wd_139, by decide, by decide, by decide⟩, wd_1986, wd_85, TX12, 66, rfl⟩
theorem cv_X12_byteAt : mCv mX12_byteAt 12 1 := ⟨⟨wd_1862, wd_139, by decide, by decide, by decide⟩, wd_1861, wd_63, TX12, 66, rfl⟩
theorem cv_X12_closes : mCv mX12_closes 12 0 := ⟨⟨wd_1963, wd_139, by decide, by decide, by decide⟩, wd_1962, wd_82, TX12, 66, rfl⟩
theorem cv_X12_copies : mCv mX12_copies 12 2 := ⟨⟨wd_1971, wd_139, by decide, by decide, by decide⟩, wd_1970, wd_84, TX12, 66, rfl⟩
theorem cv_X12_costOf : mCv mX12_costOf 12 2 := ⟨⟨wd_2201, wd_139, by decide, by decide, by decide⟩, wd_2200, wd_115, TX12, 66, rfl⟩
theorem cv_X12_dayGoes : mCv mX12_dayGoes 12 1 := ⟨⟨wd_2073, wd_139, by decide, by decide, by decide⟩, wd_2072, wd_100, TX12, 66, rfl⟩
theorem cv_X12_daysGo : mCv mX12_daysGo 12 1 := ⟨⟨wd_2109, wd_139, by decide, by decide, by decide⟩, wd_2108, wd_103, TX12, 66, rfl⟩
theorem cv_X12_deeper : mCv mX12_deeper 12 0 := ⟨⟨wd_1925, wd_139, by decide, by decide, by decide⟩, wd_1924, wd_74, TX12, 66, rfl⟩
theorem cv_X12_draw : mCv mX12_draw 12 1 := ⟨⟨wd_2268, wd_139, by decide, by decide, by decide⟩, wd_2267, wd_123, TX12, 66, rfl⟩
theorem cv_X12_drops : mCv mX12_drops 12 1 := ⟨⟨wd_1949, wd_139, by decide, by decide, by decide⟩, wd_1948, wd_80, TX12, 66, rfl⟩
theorem cv_X12_expression : mCv mX12_expression 12 0 := ⟨⟨wd_1921, wd_139, by decide, by decide, by decide⟩, wd_1920, wd_73, TX12, 66, rfl⟩
theorem cv_X12_fitOf : mCv mX12_fitOf 12 2 := ⟨⟨wd_2205, wd_139, by decide, by decide, by decide⟩, wd_2204, wd_116, TX12, 66, rfl⟩
theorem cv_X12_gains : mCv mX12_gains 12 4 := ⟨⟨wd_2252, wd_139, by decide, by decide, by decide⟩, wd_2251, wd_120, TX12, 66, rfl⟩
theorem cv_X12_growth : mCv mX12_growth 12 2 := ⟨⟨wd_2077, wd_139, by decide, by decide, by decide⟩, wd_2076, wd_101, TX12, 66, rfl⟩
theorem cv_X12_hangs : mCv mX12_hangs 12 2 := ⟨⟨wd_2007, wd_139, by decide, by decide, by decide⟩, wd_2006, wd_90, TX12, 66, rfl⟩
theorem cv_X12_hangsThere : mCv mX12_hangsThere 12 1 := ⟨⟨wd_1903, wd_139, by decide, by decide, by decide⟩, wd_1902, wd_70, TX12, 66, rfl⟩
theorem cv_X12_happens : mCv mX12_happens 12 0 := ⟨⟨wd_2264, wd_139, by decide, by decide, by decide⟩, wd_2263, wd_122, TX12, 66, rfl⟩
theorem cv_X12_hasTune : mCv mX12_hasTune 12 1 := ⟨⟨wd_2129, wd_139, by decide, by decide, by decide⟩, wd_2128, wd_106, TX12, 66, rfl⟩
theorem cv_X12_isDays : mCv mX12_isDays 12 2 := ⟨⟨wd_2105, wd_139, by decide, by decide, by decide⟩, wd_2104, wd_102, TX12, 66, rfl⟩
theorem cv_X12_isGood : mCv mX12_isGood 12 0 := ⟨⟨wd_1872, wd_139, by decide, by decide, by decide⟩, wd_1871, wd_64, TX12, 66, rfl⟩
theorem cv_X12_isGuess : mCv mX12_isGuess 12 1 := ⟨⟨wd_2240, wd_139, by decide, by decide, by decide⟩, wd_2239, wd_119, TX12, 66, rfl⟩
theorem cv_X12_isHeard : mCv mX12_isHeard 12 2 := ⟨⟨wd_2236, wd_139, by decide, by decide, by decide⟩, wd_2235, wd_118, TX12, 66, rfl⟩
theorem cv_X12_isNote : mCv mX12_isNote 12 1 := ⟨⟨wd_2277, wd_139, by decide, by decide, by decide⟩, wd_2276, wd_124, TX12, 66, rfl⟩
theorem cv_X12_isOpened : mCv mX12_isOpened 12 0 := ⟨⟨wd_1959, wd_139, by decide, by decide, by decide⟩, wd_1958, wd_81, TX12, 66, rfl⟩
theorem cv_X12_isRoot : mCv mX12_isRoot 12 1 := ⟨⟨wd_2037, wd_139, by decide, by decide, by decide⟩, wd_2036, wd_95, TX12, 66, rfl⟩
theorem cv_X12_isRow : mCv mX12_isRow 12 2 := ⟨⟨wd_2153, wd_139, by decide, by decide, by decide⟩, wd_2152, wd_108, TX12, 66, rfl⟩
theorem cv_X12_isSign : mCv mX12_isSign 12 1 := ⟨⟨wd_1929, wd_139, by decide, by decide, by decide⟩, wd_1928, wd_75, TX12, 66, rfl⟩
theorem cv_X12_isWhat : mCv mX12_isWhat 12 2 := ⟨⟨wd_2041, wd_139, by decide, by decide, by decide⟩, wd_2040, wd_96, TX12, 66, rfl⟩
theorem cv_X12_keeps : mCv mX12_keeps 12 0 := ⟨⟨wd_2069, wd_139, by decide, by decide, by decide⟩, wd_2068, wd_99, TX12, 66, rfl⟩
theorem cv_X12_knownWord : mCv mX12_knownWord 12 0 := ⟨⟨wd_1880, wd_139, by decide, by decide, by decide⟩, wd_1879, wd_66, TX12, 66, rfl⟩
theorem cv_X12_lays : mCv mX12_lays 12 1 := ⟨⟨wd_1846, wd_139, by decide, by decide, by decide⟩, wd_1845, wd_60, TX12, 66, rfl⟩
theorem cv_X12_laysFit : mCv mX12_laysFit 12 0 := ⟨⟨wd_2197, wd_139, by decide, by decide, by decide⟩, wd_2196, wd_114, TX12, 66, rfl⟩
theorem cv_X12_laysSoft : mCv mX12_laysSoft 12 0 := ⟨⟨wd_2141, wd_139, by decide, by decide, by decide⟩, wd_2140, wd_107, TX12, 66, rfl⟩
theorem cv_X12_lengthNow : mCv mX12_lengthNow 12 1 := ⟨⟨wd_2181, wd_139, by decide, by decide, by decide⟩, wd_2180, wd_113, TX12, 66, rfl⟩
theorem cv_X12_line : mCv mX12_line 12 0 := ⟨⟨wd_1876, wd_139, by decide, by decide, by decide⟩, wd_1875, wd_65, TX12, 66, rfl⟩
theorem cv_X12_mayBe : mCv mX12_mayBe 12 1 := ⟨⟨wd_2045, wd_139, by decide, by decide, by decide⟩, wd_2044, wd_97, TX12, 66, rfl⟩
theorem cv_X12_need : mCv mX12_need 12 1 := ⟨⟨wd_1967, wd_139, by decide, by decide, by decide⟩, wd_1966, wd_83, TX12, 66, rfl⟩
theorem cv_X12_noteOf : mCv mX12_noteOf 12 2 := ⟨⟨wd_2015, wd_139, by decide, by decide, by decide⟩, wd_2014, wd_92, TX12, 66, rfl⟩
theorem cv_X12_noteWith : mCv mX12_noteWith 12 2 := ⟨⟨wd_2256, wd_139, by decide, by decide, by decide⟩, wd_2255, wd_121, TX12, 66, rfl⟩
theorem cv_X12_notesIn : mCv mX12_notesIn 12 1 := ⟨⟨wd_2011, wd_139, by decide, by decide, by decide⟩, wd_2010, wd_91, TX12, 66, rfl⟩
theorem cv_X12_notesOf : mCv mX12_notesOf 12 1 := ⟨⟨wd_2216, wd_139, by decide, by decide, by decide⟩, wd_2215, wd_117, TX12, 66, rfl⟩
theorem cv_X12_number : mCv mX12_number 12 2 := ⟨⟨wd_1899, wd_139, by decide, by decide, by decide⟩, wd_1898, wd_69, TX12, 66, rfl⟩
theorem cv_X12_operand : mCv mX12_operand 12 1 := ⟨⟨wd_1933, wd_139, by decide, by decide, by decide⟩, wd_1932, wd_76, TX12, 66, rfl⟩
theorem cv_X12_part : mCv mX12_part 12 0 := ⟨⟨wd_1941, wd_139, by decide, by decide, by decide⟩, wd_1940, wd_78, TX12, 66, rfl⟩
theorem cv_X12_placeOf : mCv mX12_placeOf 12 2 := ⟨⟨wd_2297, wd_139, by decide, by decide, by decide⟩, wd_2296, wd_125, TX12, 66, rfl⟩
theorem cv_X12_puts : mCv mX12_puts 12 1 := ⟨⟨wd_1945, wd_139, by decide, by decide, by decide⟩, wd_1944, wd_79, TX12, 66, rfl⟩
theorem cv_X12_reads : mCv mX12_reads 12 0 := ⟨⟨wd_1858, wd_139, by decide, by decide, by decide⟩, wd_1857, wd_62, TX12, 66, rfl⟩
theorem cv_X12_readsMany : mCv mX12_readsMany 12 5 := ⟨⟨wd_1911, wd_139, by decide, by decide, by decide⟩, wd_1910, wd_72, TX12, 66, rfl⟩
theorem cv_X12_readsRoot : mCv mX12_readsRoot 12 1 := ⟨⟨wd_1891, wd_139, by decide, by decide, by decide⟩, wd_1890, wd_67, TX12, 66, rfl⟩
theorem cv_X12_reckons : mCv mX12_reckons 12 1 := ⟨⟨wd_2026, wd_139, by decide, by decide, by decide⟩, wd_2025, wd_94, TX12, 66, rfl⟩
theorem cv_X12_refuses : mCv mX12_refuses 12 1 := ⟨⟨wd_2065, wd_139, by decide, by decide, by decide⟩, wd_2064, wd_98, TX12, 66, rfl⟩
theorem cv_X12_right : mCv mX12_right 12 2 := ⟨⟨wd_1854, wd_139, by decide, by decide, by decide⟩, wd_1853, wd_61, TX12, 66, rfl⟩
theorem cv_X12_rings0 : mCv mX12_rings0 12 2 := ⟨⟨wd_2165, wd_139, by decide, by decide, by decide⟩, wd_2164, wd_111, TX12, 66, rfl⟩
theorem cv_X12_ringsMany : mCv mX12_ringsMany 12 1 := ⟨⟨wd_2157, wd_139, by decide, by decide, by decide⟩, wd_2156, wd_109, TX12, 66, rfl⟩
theorem cv_X12_rounds : mCv mX12_rounds 12 0 := ⟨⟨wd_2161, wd_139, by decide, by decide, by decide⟩, wd_2160, wd_110, TX12, 66, rfl⟩
theorem cv_X12_rowNumber : mCv mX12_rowNumber 12 1 := ⟨⟨wd_2169, wd_139, by decide, by decide, by decide⟩, wd_2168, wd_112, TX12, 66, rfl⟩
theorem cv_X12_softIn : mCv mX12_softIn 12 1 := ⟨⟨wd_2121, wd_139, by decide, by decide, by decide⟩, wd_2120, wd_105, TX12, 66, rfl⟩
theorem cv_X12_soundingIn : mCv mX12_soundingIn 12 1 := ⟨⟨wd_1999, wd_139, by decide, by decide, by decide⟩, wd_1998, wd_88, TX12, 66, rfl⟩
theorem cv_X12_sounds : mCv mX12_sounds 12 2 := ⟨⟨wd_2003, wd_139, by decide, by decide, by decide⟩, wd_2002, wd_89, TX12, 66, rfl⟩
theorem cv_X12_tells : mCv mX12_tells 12 2 := ⟨⟨wd_2022, wd_139, by decide, by decide, by decide⟩, wd_2021, wd_93, TX12, 66, rfl⟩
theorem cv_X12_tries : mCv mX12_tries 12 0 := ⟨⟨wd_2113, wd_139, by decide, by decide, by decide⟩, wd_2112, wd_104, TX12, 66, rfl⟩
theorem cv_X12_waitsFor : mCv mX12_waitsFor 12 1 := ⟨⟨wd_1937, wd_139, by decide, by decide, by decide⟩, wd_1936, wd_77, TX12, 66, rfl⟩
theorem cv_X12_weatherOf : mCv mX12_weatherOf 12 1 := ⟨⟨wd_1995, wd_139, by decide, by decide, by decide⟩, wd_1994, wd_87, TX12, 66, rfl⟩
theorem cv_X12_whereIn : mCv mX12_whereIn 12 2 := ⟨⟨wd_1991, wd_139, by decide, by decide, by decide⟩, wd_1990, wd_86, TX12, 66, rfl⟩
theorem cv_X12_wrong : mCv mX12_wrong 12 1 := ⟨⟨wd_1895, wd_139, by decide, by decide, by decide⟩, wd_1894, wd_68, TX12, 66, rfl⟩
theorem cv_X1_clear : mCv mX1_clear 1 0 := ⟨⟨wd_573, wd_134, by decide, by decide, by decide⟩, wd_571, wd_572, TX1, 5, rfl⟩
theorem cv_X1_firmOn : mCv mX1_firmOn 1 1 := ⟨⟨wd_787, wd_134, by decide, by decide, by decide⟩, wd_785, wd_786, TX1, 5, rfl⟩
theorem cv_X1_layDay : mCv mX1_layDay 1 2 := ⟨⟨wd_678, wd_134, by decide, by decide, by decide⟩, wd_677, wd_7, TX1, 5, rfl⟩
theorem cv_X1_layTo : mCv mX1_layTo 1 3 := ⟨⟨wd_667, wd_134, by decide, by decide, by decide⟩, wd_665, wd_666, TX1, 5, rfl⟩
theorem cv_X1_noteBits : mCv mX1_noteBits 1 2 := ⟨⟨wd_702, wd_134, by decide, by decide, by decide⟩, wd_700, wd_701, TX1, 5, rfl⟩
theorem cv_X1_noteOn : mCv mX1_noteOn 1 2 := ⟨⟨wd_706, wd_134, by decide, by decide, by decide⟩, wd_704, wd_705, TX1, 5, rfl⟩
theorem cv_X1_setNote : mCv mX1_setNote 1 3 := ⟨⟨wd_690, wd_134, by decide, by decide, by decide⟩, wd_689, wd_8, TX1, 5, rfl⟩
theorem cv_X1_soundingOn : mCv mX1_soundingOn 1 1 := ⟨⟨wd_698, wd_134, by decide, by decide, by decide⟩, wd_696, wd_697, TX1, 5, rfl⟩
theorem cv_X2_clear : mCv mX2_clear 2 0 := ⟨⟨wd_577, wd_136, by decide, by decide, by decide⟩, wd_575, wd_576, TX2, 5, rfl⟩
theorem cv_X2_findNeeds : mCv mX2_findNeeds 2 3 := ⟨⟨wd_1376, wd_136, by decide, by decide, by decide⟩, wd_1375, wd_45, TX2, 5, rfl⟩
theorem cv_X2_firstBest : mCv mX2_firstBest 2 2 := ⟨⟨wd_1401, wd_136, by decide, by decide, by decide⟩, wd_1400, wd_48, TX2, 5, rfl⟩
theorem cv_X2_leastBehind : mCv mX2_leastBehind 2 1 := ⟨⟨wd_1383, wd_136, by decide, by decide, by decide⟩, wd_1382, wd_46, TX2, 5, rfl⟩
theorem cv_X2_leastBy : mCv mX2_leastBy 2 3 := ⟨⟨wd_1388, wd_136, by decide, by decide, by decide⟩, wd_1387, wd_47, TX2, 5, rfl⟩
theorem cv_X2_rootFor : mCv mX2_rootFor 2 1 := ⟨⟨wd_1397, wd_136, by decide, by decide, by decide⟩, wd_1395, wd_1396, TX2, 5, rfl⟩
theorem cv_X2_total : mCv mX2_total 2 0 := ⟨⟨wd_1393, wd_136, by decide, by decide, by decide⟩, wd_1391, wd_1392, TX2, 5, rfl⟩
theorem cv_X2_workOut : mCv mX2_workOut 2 2 := ⟨⟨wd_1370, wd_136, by decide, by decide, by decide⟩, wd_1368, wd_1369, TX2, 5, rfl⟩
theorem cv_X3_agrees : mCv mX3_agrees 3 4 := ⟨⟨wd_1413, wd_137, by decide, by decide, by decide⟩, wd_1411, wd_1412, TX3, 6, rfl⟩
theorem cv_X3_find : mCv mX3_find 3 4 := ⟨⟨wd_1428, wd_137, by decide, by decide, by decide⟩, wd_1426, wd_1427, TX3, 6, rfl⟩
theorem cv_X3_findDay : mCv mX3_findDay 3 1 := ⟨⟨wd_1453, wd_137, by decide, by decide, by decide⟩, wd_1451, wd_1452, TX3, 6, rfl⟩
theorem cv_X3_first : mCv mX3_first 3 0 := ⟨⟨wd_1437, wd_137, by decide, by decide, by decide⟩, wd_1435, wd_1436, TX3, 6, rfl⟩
theorem cv_X3_many : mCv mX3_many 3 0 := ⟨⟨wd_1433, wd_137, by decide, by decide, by decide⟩, wd_1431, wd_1432, TX3, 6, rfl⟩
theorem cv_X3_tellingDay : mCv mX3_tellingDay 3 0 := ⟨⟨wd_1466, wd_137, by decide, by decide, by decide⟩, wd_1464, wd_1465, TX3, 6, rfl⟩
theorem cv_X3_tellingSets : mCv mX3_tellingSets 3 0 := ⟨⟨wd_1470, wd_137, by decide, by decide, by decide⟩, wd_1468, wd_1469, TX3, 6, rfl⟩
theorem cv_X3_unlikeSets : mCv mX3_unlikeSets 3 2 := ⟨⟨wd_1457, wd_137, by decide, by decide, by decide⟩, wd_1456, wd_50, TX3, 6, rfl⟩
theorem cv_X3_withSet : mCv mX3_withSet 3 2 := ⟨⟨wd_1462, wd_137, by decide, by decide, by decide⟩, wd_1461, wd_51, TX3, 6, rfl⟩
theorem cv_X4_add : mCv mX4_add 4 3 := ⟨⟨wd_798, wd_133, by decide, by decide, by decide⟩, wd_796, wd_797, TX4, 4, rfl⟩
theorem cv_X4_clear : mCv mX4_clear 4 0 := ⟨⟨wd_810, wd_133, by decide, by decide, by decide⟩, wd_808, wd_809, TX4, 4, rfl⟩
theorem cv_X4_copyFrom : mCv mX4_copyFrom 4 1 := ⟨⟨wd_828, wd_133, by decide, by decide, by decide⟩, wd_826, wd_827, TX4, 4, rfl⟩
theorem cv_X4_dayOf : mCv mX4_dayOf 4 1 := ⟨⟨wd_1418, wd_133, by decide, by decide, by decide⟩, wd_1416, wd_1417, TX4, 4, rfl⟩
theorem cv_X4_isSo : mCv mX4_isSo 4 2 := ⟨⟨wd_1424, wd_133, by decide, by decide, by decide⟩, wd_1422, wd_1423, TX4, 4, rfl⟩
theorem cv_X4_many : mCv mX4_many 4 0 := ⟨⟨wd_802, wd_133, by decide, by decide, by decide⟩, wd_800, wd_801, TX4, 4, rfl⟩
theorem cv_X5_addChange : mCv mX5_addChange 5 1 := ⟨⟨wd_1064, wd_129, by decide, by decide, by decide⟩, wd_1062, wd_1063, TX5, 12, rfl⟩
theorem cv_X5_addRoot : mCv mX5_addRoot 5 4 := ⟨⟨wd_1035, wd_129, by decide, by decide, by decide⟩, wd_1033, wd_1034, TX5, 12, rfl⟩
theorem cv_X5_addTuneNote : mCv mX5_addTuneNote 5 1 := ⟨⟨wd_1060, wd_129, by decide, by decide, by decide⟩, wd_1058, wd_1059, TX5, 12, rfl⟩
theorem cv_X5_addWeather : mCv mX5_addWeather 5 1 := ⟨⟨wd_1056, wd_129, by decide, by decide, by decide⟩, wd_1054, wd_1055, TX5, 12, rfl⟩
theorem cv_X5_clear : mCv mX5_clear 5 0 := ⟨⟨wd_915, wd_129, by decide, by decide, by decide⟩, wd_913, wd_914, TX5, 12, rfl⟩
theorem cv_X5_isTuneIn : mCv mX5_isTuneIn 5 1 := ⟨⟨wd_710, wd_129, by decide, by decide, by decide⟩, wd_708, wd_709, TX5, 12, rfl⟩
theorem cv_X5_kindOf : mCv mX5_kindOf 5 1 := ⟨⟨wd_609, wd_129, by decide, by decide, by decide⟩, wd_607, wd_608, TX5, 12, rfl⟩
theorem cv_X5_nearnessOf : mCv mX5_nearnessOf 5 1 := ⟨⟨wd_1494, wd_129, by decide, by decide, by decide⟩, wd_1492, wd_1493, TX5, 12, rfl⟩
theorem cv_X5_tuneNote : mCv mX5_tuneNote 5 1 := ⟨⟨wd_1222, wd_129, by decide, by decide, by decide⟩, wd_1220, wd_1221, TX5, 12, rfl⟩
theorem cv_X5_weatherOn : mCv mX5_weatherOn 5 1 := ⟨⟨wd_581, wd_129, by decide, by decide, by decide⟩, wd_579, wd_580, TX5, 12, rfl⟩
theorem cv_X6_byteAt : mCv mX6_byteAt 6 1 := ⟨⟨wd_931, wd_128, by decide, by decide, by decide⟩, wd_930, wd_16, TX6, 17, rfl⟩
theorem cv_X6_checkNumber : mCv mX6_checkNumber 6 2 := ⟨⟨wd_1029, wd_128, by decide, by decide, by decide⟩, wd_1028, wd_23, TX6, 17, rfl⟩
theorem cv_X6_faultPlace : mCv mX6_faultPlace 6 0 := ⟨⟨wd_1129, wd_128, by decide, by decide, by decide⟩, wd_1127, wd_1128, TX6, 17, rfl⟩
theorem cv_X6_handOver : mCv mX6_handOver 6 1 := ⟨⟨wd_1133, wd_128, by decide, by decide, by decide⟩, wd_1131, wd_1132, TX6, 17, rfl⟩
theorem cv_X6_isAtSign : mCv mX6_isAtSign 6 1 := ⟨⟨wd_1047, wd_128, by decide, by decide, by decide⟩, wd_1046, wd_25, TX6, 17, rfl⟩
theorem cv_X6_isAtWord : mCv mX6_isAtWord 6 1 := ⟨⟨wd_960, wd_128, by decide, by decide, by decide⟩, wd_959, wd_20, TX6, 17, rfl⟩
theorem cv_X6_isExprWhole : mCv mX6_isExprWhole 6 0 := ⟨⟨wd_1080, wd_128, by decide, by decide, by decide⟩, wd_1079, wd_29, TX6, 17, rfl⟩
theorem cv_X6_lineWord : mCv mX6_lineWord 6 0 := ⟨⟨wd_955, wd_128, by decide, by decide, by decide⟩, wd_954, wd_19, TX6, 17, rfl⟩
theorem cv_X6_operatorHere : mCv mX6_operatorHere 6 0 := ⟨⟨wd_1096, wd_128, by decide, by decide, by decide⟩, wd_1095, wd_32, TX6, 17, rfl⟩
theorem cv_X6_putBytes : mCv mX6_putBytes 6 1 := ⟨⟨wd_530, wd_128, by decide, by decide, by decide⟩, wd_528, wd_529, TX6, 17, rfl⟩
theorem cv_X6_readExpr : mCv mX6_readExpr 6 1 := ⟨⟨wd_1076, wd_128, by decide, by decide, by decide⟩, wd_1075, wd_28, TX6, 17, rfl⟩
theorem cv_X6_readLasts : mCv mX6_readLasts 6 0 := ⟨⟨wd_1072, wd_128, by decide, by decide, by decide⟩, wd_1071, wd_27, TX6, 17, rfl⟩
theorem cv_X6_readLine : mCv mX6_readLine 6 0 := ⟨⟨wd_951, wd_128, by decide, by decide, by decide⟩, wd_950, wd_18, TX6, 17, rfl⟩
theorem cv_X6_readLineEnd : mCv mX6_readLineEnd 6 0 := ⟨⟨wd_1043, wd_128, by decide, by decide, by decide⟩, wd_1042, wd_24, TX6, 17, rfl⟩
theorem cv_X6_readOperand : mCv mX6_readOperand 6 0 := ⟨⟨wd_1106, wd_128, by decide, by decide, by decide⟩, wd_1105, wd_33, TX6, 17, rfl⟩
theorem cv_X6_readOperator : mCv mX6_readOperator 6 0 := ⟨⟨wd_1084, wd_128, by decide, by decide, by decide⟩, wd_1083, wd_30, TX6, 17, rfl⟩
theorem cv_X6_readRoot : mCv mX6_readRoot 6 1 := ⟨⟨wd_1025, wd_128, by decide, by decide, by decide⟩, wd_1024, wd_22, TX6, 17, rfl⟩
theorem cv_X6_readRow : mCv mX6_readRow 6 3 := ⟨⟨wd_1051, wd_128, by decide, by decide, by decide⟩, wd_1050, wd_26, TX6, 17, rfl⟩
theorem cv_X6_readTower : mCv mX6_readTower 6 1 := ⟨⟨wd_911, wd_128, by decide, by decide, by decide⟩, wd_909, wd_910, TX6, 17, rfl⟩
theorem cv_X6_refuse : mCv mX6_refuse 6 1 := ⟨⟨wd_1021, wd_128, by decide, by decide, by decide⟩, wd_1020, wd_21, TX6, 17, rfl⟩
theorem cv_X6_step : mCv mX6_step 6 0 := ⟨⟨wd_927, wd_128, by decide, by decide, by decide⟩, wd_926, wd_15, TX6, 17, rfl⟩
theorem cv_X6_stepNumber : mCv mX6_stepNumber 6 0 := ⟨⟨wd_944, wd_128, by decide, by decide, by decide⟩, wd_943, wd_17, TX6, 17, rfl⟩
theorem cv_X6_taped : mCv mX6_taped 6 0 := ⟨⟨wd_526, wd_128, by decide, by decide, by decide⟩, wd_524, wd_525, TX6, 17, rfl⟩
theorem cv_X6_valueWord : mCv mX6_valueWord 6 0 := ⟨⟨wd_1111, wd_128, by decide, by decide, by decide⟩, wd_1110, wd_34, TX6, 17, rfl⟩
theorem cv_X7_behindOne : mCv mX7_behindOne 7 2 := ⟨⟨wd_744, wd_135, by decide, by decide, by decide⟩, wd_743, wd_11, TX7, 5, rfl⟩
theorem cv_X7_bellOf : mCv mX7_bellOf 7 1 := ⟨⟨wd_1597, wd_135, by decide, by decide, by decide⟩, wd_1596, wd_58, TX7, 5, rfl⟩
theorem cv_X7_bells : mCv mX7_bells 7 0 := ⟨⟨wd_1354, wd_135, by decide, by decide, by decide⟩, wd_1352, wd_1353, TX7, 5, rfl⟩
theorem cv_X7_isRung : mCv mX7_isRung 7 2 := ⟨⟨wd_759, wd_135, by decide, by decide, by decide⟩, wd_758, wd_12, TX7, 5, rfl⟩
theorem cv_X7_leadsOf : mCv mX7_leadsOf 7 1 := ⟨⟨wd_1593, wd_135, by decide, by decide, by decide⟩, wd_1591, wd_1592, TX7, 5, rfl⟩
theorem cv_X7_lengthRung : mCv mX7_lengthRung 7 0 := ⟨⟨wd_739, wd_135, by decide, by decide, by decide⟩, wd_737, wd_738, TX7, 5, rfl⟩
theorem cv_X7_load : mCv mX7_load 7 2 := ⟨⟨wd_727, wd_135, by decide, by decide, by decide⟩, wd_725, wd_726, TX7, 5, rfl⟩
theorem cv_X7_longerBy : mCv mX7_longerBy 7 0 := ⟨⟨wd_767, wd_135, by decide, by decide, by decide⟩, wd_765, wd_766, TX7, 5, rfl⟩
theorem cv_X7_meetingsOf : mCv mX7_meetingsOf 7 2 := ⟨⟨wd_1609, wd_135, by decide, by decide, by decide⟩, wd_1607, wd_1608, TX7, 5, rfl⟩
theorem cv_X7_numberBehind : mCv mX7_numberBehind 7 1 := ⟨⟨wd_1339, wd_135, by decide, by decide, by decide⟩, wd_1337, wd_1338, TX7, 5, rfl⟩
theorem cv_X7_placeIn : mCv mX7_placeIn 7 2 := ⟨⟨wd_1613, wd_135, by decide, by decide, by decide⟩, wd_1612, wd_59, TX7, 5, rfl⟩
theorem cv_X7_rootAt : mCv mX7_rootAt 7 2 := ⟨⟨wd_1359, wd_135, by decide, by decide, by decide⟩, wd_1357, wd_1358, TX7, 5, rfl⟩
theorem cv_X7_rowBehind : mCv mX7_rowBehind 7 1 := ⟨⟨wd_1343, wd_135, by decide, by decide, by decide⟩, wd_1342, wd_44, TX7, 5, rfl⟩
theorem cv_X7_trueLength : mCv mX7_trueLength 7 0 := ⟨⟨wd_755, wd_135, by decide, by decide, by decide⟩, wd_753, wd_754, TX7, 5, rfl⟩
theorem cv_X8_clear : mCv mX8_clear 8 0 := ⟨⟨wd_919, wd_130, by decide, by decide, by decide⟩, wd_917, wd_918, TX8, 7, rfl⟩
theorem cv_X8_close : mCv mX8_close 8 0 := ⟨⟨wd_1088, wd_130, by decide, by decide, by decide⟩, wd_1086, wd_1087, TX8, 7, rfl⟩
theorem cv_X8_finish : mCv mX8_finish 8 0 := ⟨⟨wd_1125, wd_130, by decide, by decide, by decide⟩, wd_1123, wd_1124, TX8, 7, rfl⟩
theorem cv_X8_isTold : mCv mX8_isTold 8 0 := ⟨⟨wd_601, wd_130, by decide, by decide, by decide⟩, wd_599, wd_600, TX8, 7, rfl⟩
theorem cv_X8_join : mCv mX8_join 8 1 := ⟨⟨wd_1102, wd_130, by decide, by decide, by decide⟩, wd_1100, wd_1101, TX8, 7, rfl⟩
theorem cv_X8_operandAt : mCv mX8_operandAt 8 1 := ⟨⟨wd_622, wd_130, by decide, by decide, by decide⟩, wd_621, wd_5, TX8, 7, rfl⟩
theorem cv_X8_putOperand : mCv mX8_putOperand 8 2 := ⟨⟨wd_1121, wd_130, by decide, by decide, by decide⟩, wd_1119, wd_1120, TX8, 7, rfl⟩
theorem cv_X8_putWaiting : mCv mX8_putWaiting 8 1 := ⟨⟨wd_1092, wd_130, by decide, by decide, by decide⟩, wd_1091, wd_31, TX8, 7, rfl⟩
theorem cv_X8_worth : mCv mX8_worth 8 7 := ⟨⟨wd_618, wd_130, by decide, by decide, by decide⟩, wd_616, wd_617, TX8, 7, rfl⟩
theorem cv_X9_cell : mCv mX9_cell 9 2 := ⟨⟨wd_546, wd_131, by decide, by decide, by decide⟩, wd_545, wd_0, TX9, 1, rfl⟩
theorem cv_X9_changeAt : mCv mX9_changeAt 9 1 := ⟨⟨wd_735, wd_131, by decide, by decide, by decide⟩, wd_733, wd_734, TX9, 1, rfl⟩
theorem cv_X9_clear : mCv mX9_clear 9 0 := ⟨⟨wd_923, wd_131, by decide, by decide, by decide⟩, wd_921, wd_922, TX9, 1, rfl⟩
theorem cv_X9_copyFrom : mCv mX9_copyFrom 9 1 := ⟨⟨wd_671, wd_131, by decide, by decide, by decide⟩, wd_669, wd_670, TX9, 1, rfl⟩
theorem cv_X9_day : mCv mX9_day 9 0 := ⟨⟨wd_542, wd_131, by decide, by decide, by decide⟩, wd_540, wd_541, TX9, 1, rfl⟩
theorem cv_X9_growthOf : mCv mX9_growthOf 9 3 := ⟨⟨wd_597, wd_131, by decide, by decide, by decide⟩, wd_596, wd_4, TX9, 1, rfl⟩
theorem cv_X9_hollowOf : mCv mX9_hollowOf 9 1 := ⟨⟨wd_605, wd_131, by decide, by decide, by decide⟩, wd_603, wd_604, TX9, 1, rfl⟩
theorem cv_X9_loadFrom : mCv mX9_loadFrom 9 2 := ⟨⟨wd_655, wd_131, by decide, by decide, by decide⟩, wd_653, wd_654, TX9, 1, rfl⟩
theorem cv_X9_neededFor : mCv mX9_neededFor 9 3 := ⟨⟨wd_1555, wd_131, by decide, by decide, by decide⟩, wd_1553, wd_1554, TX9, 1, rfl⟩
theorem cv_X9_noteOf : mCv mX9_noteOf 9 3 := ⟨⟨wd_684, wd_131, by decide, by decide, by decide⟩, wd_682, wd_683, TX9, 1, rfl⟩
theorem cv_X9_passDay : mCv mX9_passDay 9 2 := ⟨⟨wd_585, wd_131, by decide, by decide, by decide⟩, wd_583, wd_584, TX9, 1, rfl⟩
theorem cv_X9_placeOf : mCv mX9_placeOf 9 1 := ⟨⟨wd_589, wd_131, by decide, by decide, by decide⟩, wd_587, wd_588, TX9, 1, rfl⟩
theorem cv_X9_roomToHollow : mCv mX9_roomToHollow 9 1 := ⟨⟨wd_1196, wd_131, by decide, by decide, by decide⟩, wd_1194, wd_1195, TX9, 1, rfl⟩
theorem cv_X9_rootOn : mCv mX9_rootOn 9 2 := ⟨⟨wd_731, wd_131, by decide, by decide, by decide⟩, wd_729, wd_730, TX9, 1, rfl⟩
theorem cv_X9_saveTo : mCv mX9_saveTo 9 2 := ⟨⟨wd_562, wd_131, by decide, by decide, by decide⟩, wd_560, wd_561, TX9, 1, rfl⟩
theorem cv_X9_setCell : mCv mX9_setCell 9 3 := ⟨⟨wd_639, wd_131, by decide, by decide, by decide⟩, wd_638, wd_6, TX9, 1, rfl⟩
theorem cv_X9_setChange : mCv mX9_setChange 9 2 := ⟨⟨wd_1068, wd_131, by decide, by decide, by decide⟩, wd_1066, wd_1067, TX9, 1, rfl⟩
theorem cv_X9_setHollow : mCv mX9_setHollow 9 2 := ⟨⟨wd_1264, wd_131, by decide, by decide, by decide⟩, wd_1262, wd_1263, TX9, 1, rfl⟩
theorem cv_X9_setPlace : mCv mX9_setPlace 9 2 := ⟨⟨wd_1246, wd_131, by decide, by decide, by decide⟩, wd_1244, wd_1245, TX9, 1, rfl⟩
theorem cv_X9_setRoot : mCv mX9_setRoot 9 4 := ⟨⟨wd_1039, wd_131, by decide, by decide, by decide⟩, wd_1037, wd_1038, TX9, 1, rfl⟩
theorem cv_X9_sizeOf : mCv mX9_sizeOf 9 1 := ⟨⟨wd_593, wd_131, by decide, by decide, by decide⟩, wd_591, wd_592, TX9, 1, rfl⟩
theorem cv_X9_soften : mCv mX9_soften 9 2 := ⟨⟨wd_643, wd_131, by decide, by decide, by decide⟩, wd_641, wd_642, TX9, 1, rfl⟩
theorem cv_X9_softnessOf : mCv mX9_softnessOf 9 1 := ⟨⟨wd_613, wd_131, by decide, by decide, by decide⟩, wd_611, wd_612, TX9, 1, rfl⟩
theorem nl_RX11_9 : (RX11, 9, mX6_init.1, RX11) ∈ mNL := List.mem_of_getElem? (i := 0) rfl
theorem nl_RX6_48 : (RX6, 48, mX5_init.1, RX11) ∈ mNL := List.mem_of_getElem? (i := 1) rfl
theorem nl_RX5_42 : (RX5, 42, mX8_init.1, RX11) ∈ mNL := List.mem_of_getElem? (i := 2) rfl
theorem nl_RX5_52 : (RX5, 52, mX9_init.1, RX11) ∈ mNL := List.mem_of_getElem? (i := 3) rfl
theorem nl_RX11_26 : (RX11, 26, mX5_init.1, RX11) ∈ mNL := List.mem_of_getElem? (i := 4) rfl
theorem nl_RX11_33 : (RX11, 33, mX9_init.1, RX11) ∈ mNL := List.mem_of_getElem? (i := 5) rfl
theorem nl_RX11_40 : (RX11, 40, mX0_init.1, RX11) ∈ mNL := List.mem_of_getElem? (i := 6) rfl
theorem nl_RX11_47 : (RX11, 47, mX4_init.1, RX11) ∈ mNL := List.mem_of_getElem? (i := 7) rfl
theorem nl_RX11_67 : (RX11, 67, mX1_init.1, RX11) ∈ mNL := List.mem_of_getElem? (i := 8) rfl
theorem nl_RX1_11 : (RX1, 11, mX9_init.1, RX11) ∈ mNL := List.mem_of_getElem? (i := 9) rfl
theorem nl_RX11_74 : (RX11, 74, mX7_init.1, RX11) ∈ mNL := List.mem_of_getElem? (i := 10) rfl
theorem nl_RX11_81 : (RX11, 81, mX2_init.1, RX11) ∈ mNL := List.mem_of_getElem? (i := 11) rfl
theorem nl_RX11_88 : (RX11, 88, mX3_init.1, RX11) ∈ mNL := List.mem_of_getElem? (i := 12) rfl
theorem nl_RX11_95 : (RX11, 95, mX10_init.1, RX11) ∈ mNL := List.mem_of_getElem? (i := 13) rfl
theorem nl_RX10_11 : (RX10, 11, mX9_init.1, RX11) ∈ mNL := List.mem_of_getElem? (i := 14) rfl
theorem nl_RX9_73 : (RX9, 73, mX11_within.1, RX11) ∈ mNL := List.mem_of_getElem? (i := 15) rfl
theorem nl_RX7_63 : (RX7, 63, mX11_isChangeNumber.1, RX11) ∈ mNL := List.mem_of_getElem? (i := 16) rfl
theorem nl_RX6_183 : (RX6, 183, mX11_isChangeNumber.1, RX11) ∈ mNL := List.mem_of_getElem? (i := 17) rfl
theorem wd_st_max : Cond.static Lib.Math.max.name ∈ tbG := wd_633
theorem wd_cd_max : Cond.code Lib.Math.max.name Lib.Math.max.code 2 (some .int) ∈ tbG := wd_634
theorem wd_st_min : Cond.static Lib.Math.min.name ∈ tbG := wd_630
theorem wd_cd_min : Cond.code Lib.Math.min.name Lib.Math.min.code 2 (some .int) ∈ tbG := wd_631
theorem wd_st_abs : Cond.static Lib.Math.abs.name ∈ tbG := wd_1497
theorem wd_cd_abs : Cond.code Lib.Math.abs.name Lib.Math.abs.code 1 (some .int) ∈ tbG := wd_1498
theorem wd_in_math : Cond.initialized "java/lang/Math" ∈ tbG := wd_148
theorem wd_in_sys : Cond.initialized "java/lang/System" ∈ tbG := wd_149
theorem wd_na_copy : Cond.native arraycopyName ∈ tbG := wd_565
theorem wd_st_copy : Cond.static arraycopyName ∈ tbG := wd_564
