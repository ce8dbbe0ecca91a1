/-! the class reads an EXPR -/
theorem tK_4 {B : Nat → Nat} {n a : Nat} : tK B n a ≤ 4 := by
  unfold tK
  repeat (first | split | omega)
theorem c_sg {Fu : Nat} {I : mIT} {B : Nat → Nat} {n a c : Nat} (ht : tpe B n) (h : cTk I B n a) (hc : c < 256) : f_X6_isAtSign Fu I (nI c) = some (if sg B n a c then 1 else 0) := by
  obtain ⟨h1, h2, h3, h4, h5, h6, h7⟩ := h
  have hK := tK_4 (B := B) (n := n) (a := a)
  have hB := tB_lt (v := a) ht
  unfold f_X6_isAtSign sg
  rw [h4, h6, show (3 : Int32) = nI 3 from rfl]
  by_cases e : tK B n a = 3
  · rw [if_pos (by rw [e])]
    by_cases e2 : tB B n a = c
    · rw [if_pos (by rw [e2]), decide_eq_true ⟨e, e2⟩]; rfl
    · rw [if_neg (by rw [q_eq (by omega) (by omega)]; exact e2), decide_eq_false (fun q => e2 q.2)]; rfl
  · rw [if_neg (by rw [q_eq (by omega) (by omega)]; exact e), decide_eq_false (fun q => e q.1)]; rfl
def oC (c : Nat) : Int32 := if c = 0 then -1 else nI c
theorem c_opHere {Fu : Nat} {I : mIT} {B : Nat → Nat} {n a : Nat} (hF : 2200 < Fu) (ht : tpe B n) (h : cTk I B n a) : f_X6_operatorHere Fu I = some (oC (opc B n a)) := by
  have sC : ∀ c, c < 256 → f_X6_isAtSign Fu I (nI c) = some (if sg B n a c then 1 else 0) := fun c hc => c_sg ht h hc
  have w1 := c_isAtWord (k := 11) hF ht h (by omega) (by omega)
  have w2 := c_isAtWord (k := 12) hF ht h (by omega) (by omega)
  rw [show wX 11 = 17 from rfl] at w1
  rw [show wX 12 = 16 from rfl] at w2
  unfold f_X6_operatorHere opc
  rw [w1, q_B]
  by_cases c1 : tW B n a = 17
  · rw [if_pos c1, if_pos c1, if_neg (by decide)]; rfl
  rw [if_neg c1, if_neg c1, if_pos rfl, w2, q_B]
  by_cases c2 : tW B n a = 16
  · rw [if_pos c2, if_pos c2, if_neg (by decide)]; rfl
  rw [if_neg c2, if_neg c2, if_pos rfl, show (60 : Int32) = nI 60 from rfl, sC 60 (by omega), q_B]
  by_cases c3 : sg B n a 60 = true
  · rw [if_pos c3, if_pos c3, if_neg (by decide)]; rfl
  rw [if_neg c3, if_neg c3, if_pos rfl, show (61 : Int32) = nI 61 from rfl, sC 61 (by omega), q_B]
  by_cases c4 : sg B n a 61 = true
  · rw [if_pos c4, if_pos c4, if_neg (by decide)]; rfl
  rw [if_neg c4, if_neg c4, if_pos rfl, show (43 : Int32) = nI 43 from rfl, sC 43 (by omega), q_B]
  by_cases c5 : sg B n a 43 = true
  · rw [if_pos c5, if_pos c5, if_neg (by decide)]; rfl
  rw [if_neg c5, if_neg c5, if_pos rfl, show (45 : Int32) = nI 45 from rfl, sC 45 (by omega), q_B]
  by_cases c6 : sg B n a 45 = true
  · rw [if_pos c6, if_pos c6, if_neg (by decide)]; rfl
  rw [if_neg c6, if_neg c6, if_pos rfl, show (42 : Int32) = nI 42 from rfl, sC 42 (by omega), q_B]
  by_cases c7 : sg B n a 42 = true
  · rw [if_pos c7, if_pos c7, if_neg (by decide)]; rfl
  rw [if_neg c7, if_neg c7, if_pos rfl, show (47 : Int32) = nI 47 from rfl, sC 47 (by omega), q_B]
  by_cases c8 : sg B n a 47 = true
  · rw [if_pos c8, if_pos c8, if_neg (by decide)]; rfl
  rw [if_neg c8, if_neg c8, if_pos rfl]; rfl
theorem c_valWord {Fu : Nat} {I : mIT} {B : Nat → Nat} {n a : Nat} (hF : 2200 < Fu) (ht : tpe B n) (h : cTk I B n a) : f_X6_valueWord Fu I = some (if tW B n a ≤ 6 then nI (tW B n a) else -1) := by
  have sW : ∀ k v, 1 ≤ k → k < 20 → wX k = v → f_X6_isAtWord Fu I k = some (if tW B n a = v then 1 else 0) := fun k v h1 h2 h3 => by rw [← h3]; exact c_isAtWord hF ht h h1 h2
  unfold f_X6_valueWord
  rw [sW 14 0 (by omega) (by omega) rfl, q_B]
  by_cases c0 : tW B n a = 0
  · rw [if_pos c0, if_neg (by decide), if_pos (by omega), c0]; rfl
  rw [if_neg c0, if_pos rfl, sW 15 1 (by omega) (by omega) rfl, q_B]
  by_cases c1 : tW B n a = 1
  · rw [if_pos c1, if_neg (by decide), if_pos (by omega), c1]; rfl
  rw [if_neg c1, if_pos rfl, sW 16 2 (by omega) (by omega) rfl, q_B]
  by_cases c2 : tW B n a = 2
  · rw [if_pos c2, if_neg (by decide), if_pos (by omega), c2]; rfl
  rw [if_neg c2, if_pos rfl, sW 17 3 (by omega) (by omega) rfl, q_B]
  by_cases c3 : tW B n a = 3
  · rw [if_pos c3, if_neg (by decide), if_pos (by omega), c3]; rfl
  rw [if_neg c3, if_pos rfl, sW 5 4 (by omega) (by omega) rfl, q_B]
  by_cases c4 : tW B n a = 4
  · rw [if_pos c4, if_neg (by decide), if_pos (by omega), c4]; rfl
  rw [if_neg c4, if_pos rfl, sW 18 5 (by omega) (by omega) rfl, q_B]
  by_cases c5 : tW B n a = 5
  · rw [if_pos c5, if_neg (by decide), if_pos (by omega), c5]; rfl
  rw [if_neg c5, if_pos rfl, sW 19 6 (by omega) (by omega) rfl, q_B]
  by_cases c6 : tW B n a = 6
  · rw [if_pos c6, if_neg (by decide), if_pos (by omega), c6]; rfl
  rw [if_neg c6, if_pos rfl, if_neg (by omega)]
/-- the class while it reads an EXPR into the rule at q -/
def cXs (I : mIT) (q : Nat) (x : xS) : Prop := cRs I q x.1 x.2.1 ∧ I 1 13 = nI x.2.2.1 ∧ I 1 14 = nI x.2.2.2.1 ∧ (∀ d, d ≤ 6 → bt (I 1 15) d = x.2.2.2.2.1 d) ∧ I 1 16 = nI x.2.2.2.2.2
def xFr (q : Nat) (I J : mIT) : Prop := (∀ j, j < 3 ∨ (8 < j ∧ j < 13) ∨ 16 < j → J 1 j = I 1 j) ∧ (∀ j, j ≠ 5 → j ≠ 6 → J q j = I q j) ∧ ∀ c, c ≠ 1 → c ≠ q → c ≠ q + 1 → c ≠ q + 2 → c ≠ q + 3 → J c = I c
theorem xFr_r (q : Nat) (I : mIT) : xFr q I I := ⟨fun _ _ => rfl, fun _ _ _ => rfl, fun _ _ _ _ _ _ => rfl⟩
theorem xFr_t {q : Nat} {I J K : mIT} (h1 : xFr q I J) (h2 : xFr q J K) : xFr q I K := ⟨fun j hj => by rw [h2.1 j hj, h1.1 j hj], fun j a b => by rw [h2.2.1 j a b, h1.2.1 j a b], fun c a b d e f => by rw [h2.2.2 c a b d e f, h1.2.2 c a b d e f]⟩
theorem cTk_k {I J : mIT} {B : Nat → Nat} {n a : Nat} (h : cTk I B n a) (f : ∀ j, 2 ≤ j → j ≤ 8 → J 1 j = I 1 j) (f2 : J 2 = I 2) : cTk J B n a := by
  unfold cTk cTp at *
  rw [f 2 (by omega) (by omega), f 3 (by omega) (by omega), f 4 (by omega) (by omega), f 5 (by omega) (by omega), f 6 (by omega) (by omega), f 7 (by omega) (by omega), f 8 (by omega) (by omega), f2]
  exact h
theorem bt_or {x : Int32} {d i : Nat} (hd : d ≤ 6) (hi : i ≤ 6) : bt (x ||| ((1 : Int32) <<< (nI d &&& 31))) i = if i = d then true else bt x i := by
  have key : ∀ d : Nat, d ≤ 6 → ∀ i : Nat, i ≤ 6 → bt ((1 : Int32) <<< (nI d &&& 31)) i = decide (i = d) := by decide +kernel
  rw [b_or, key d hd i hi]
  by_cases e : i = d
  · rw [if_pos e, decide_eq_true e, Bool.or_true]
  · rw [if_neg e, decide_eq_false e, Bool.or_false]
theorem bt_clr {x : Int32} {d i : Nat} (hd : d ≤ 6) (hi : i ≤ 6) : bt (x &&& (((1 : Int32) <<< (nI d &&& 31)) ^^^ (-1))) i = if i = d then false else bt x i := by
  have key : ∀ d : Nat, d ≤ 6 → ∀ i : Nat, i ≤ 6 → bt (((1 : Int32) <<< (nI d &&& 31)) ^^^ (-1)) i = !decide (i = d) := by decide +kernel
  rw [b_and, key d hd i hi]
  by_cases e : i = d
  · rw [if_pos e, decide_eq_true e]; simp
  · rw [if_neg e, decide_eq_false e]; simp
