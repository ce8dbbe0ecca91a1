/-! an EXPR as the document reads it: what is put down, what waits, what is wanted next -/
abbrev pO (α : Type) : Type := (Nat × Nat) ⊕ α
abbrev xS : Type := eSt × List Nat × Nat × Nat × (Nat → Bool) × Nat
def nx (B : Nat → Nat) (n a : Nat) : Nat := tA B n (tE B n a)
def sg (B : Nat → Nat) (n a c : Nat) : Bool := decide (tK B n a = 3 ∧ tB B n a = c)
def pwt (t : Nat) : List Nat → eSt → eSt × List Nat
  | [], out => (out, [])
  | c :: w, out => if c / 10 < t then (out, c :: w) else pwt t w (out ++ [(nI c, 0)])
def jnX (c : Nat) (out : eSt) (w : List Nat) : eSt × List Nat := if c = 30 ∨ c = 0 then (out, c :: w) else ((pwt (c / 10) w out).1, c :: (pwt (c / 10) w out).2)
def opc (B : Nat → Nat) (n a : Nat) : Nat := if tW B n a = 17 then 10 else if tW B n a = 16 then 20 else if sg B n a 60 then 40 else if sg B n a 61 then 41 else if sg B n a 43 then 50 else if sg B n a 45 then 51 else if sg B n a 42 then 60 else if sg B n a 47 then 61 else 0
def chU (ch : Nat → Bool) (d : Nat) (b : Bool) : Nat → Bool := fun i => if i = d then b else ch i
def exOp (B : Nat → Nat) (n a : Nat) (x : xS) : pO xS :=
  if sg B n a 41 = true ∧ 0 < x.2.2.2.1 then .inr ((pwt 1 x.2.1 x.1).1, (pwt 1 x.2.1 x.1).2.tail, 0, x.2.2.2.1 - 1, x.2.2.2.2.1, x.2.2.2.2.2)
  else if opc B n a = 0 then .inl (1, a)
  else if (opc B n a = 40 ∨ opc B n a = 41) ∧ x.2.2.2.2.1 x.2.2.2.1 = true then .inl (1, a)
  else .inr ((jnX (opc B n a) x.1 x.2.1).1, (jnX (opc B n a) x.1 x.2.1).2, (if opc B n a = 10 ∨ opc B n a = 20 then 2 else 1), x.2.2.2.1, (if opc B n a = 40 ∨ opc B n a = 41 then chU x.2.2.2.2.1 x.2.2.2.1 true else if opc B n a = 10 ∨ opc B n a = 20 then chU x.2.2.2.2.1 x.2.2.2.1 false else x.2.2.2.2.1), x.2.2.2.2.2)
def exOd (B : Nat → Nat) (n a : Nat) (x : xS) : pO xS :=
  if 6 ≤ x.2.2.2.1 then .inl (if tK B n a = 2 ∨ tK B n a = 1 ∨ sg B n a 40 = true then 2 else 1, a)
  else if x.2.2.1 = 2 ∧ tW B n a = 18 then (if x.2.2.2.2.2 + 1 ≤ 6 then .inr (x.1, 30 :: x.2.1, 2, x.2.2.2.1, x.2.2.2.2.1, x.2.2.2.2.2 + 1) else .inl (2, a))
  else if sg B n a 40 = true then .inr (x.1, 0 :: x.2.1, 2, x.2.2.2.1 + 1, chU x.2.2.2.2.1 (x.2.2.2.1 + 1) false, 0)
  else if tK B n a = 1 then (if tW B n a ≤ 6 then .inr (x.1 ++ [(2, nI (tW B n a))], x.2.1, 0, x.2.2.2.1, x.2.2.2.2.1, 0) else .inl (3, a))
  else if tK B n a = 2 then (if tE B n a - a ≤ 4 then .inr (x.1 ++ [(1, nI (tN B n a))], x.2.1, 0, x.2.2.2.1, x.2.2.2.2.1, 0) else .inl (2, a))
  else .inl (1, a)
def exDn (B : Nat → Nat) (n a : Nat) (x : xS) : Bool := decide (x.2.2.1 = 0 ∧ x.2.2.2.1 = 0 ∧ sg B n a 59 = true)
def exS (B : Nat → Nat) (n a : Nat) (x : xS) : pO xS := if x.2.2.1 = 0 then exOp B n a x else exOd B n a x
def exR (B : Nat → Nat) (n : Nat) : Nat → Nat → xS → pO (Nat × xS)
  | 0, a, _ => .inl (0, a)
  | f + 1, a, x => if exDn B n a x then .inr (a, x) else match exS B n a x with
    | .inl e => .inl e
    | .inr x' => exR B n f (nx B n a) x'
/-- ranks within a level: or 1, and 2, nots 3 to 8, comparison 9, sum 10, product 11 -/
def rkX (c r : Nat) : Prop := (c = 10 ∧ r = 1) ∨ (c = 20 ∧ r = 2) ∨ (c = 30 ∧ 3 ≤ r ∧ r ≤ 8) ∨ ((c = 40 ∨ c = 41) ∧ r = 9) ∨ ((c = 50 ∨ c = 51) ∧ r = 10) ∨ ((c = 60 ∨ c = 61) ∧ r = 11)
def okW : List Nat → Nat → Nat → Prop
  | [], d, _ => d = 0
  | c :: w, d, b => (c = 0 ∧ ∃ d', d = d' + 1 ∧ okW w d' 11) ∨ ∃ r, rkX c r ∧ r ≤ b ∧ okW w d (r - 1)
theorem okW_m {d : Nat} : ∀ {w : List Nat} {b b' : Nat}, b ≤ b' → okW w d b → okW w d b'
  | [], _, _, _, h => h
  | _ :: _, _, _, hb, h => by
    rcases h with h | ⟨r, h1, h2, h3⟩
    · exact Or.inl h
    · exact Or.inr ⟨r, h1, by omega, h3⟩
theorem okW_len : ∀ {w : List Nat} {d b : Nat}, b ≤ 11 → okW w d b → w.length ≤ b + 12 * d
  | [], _, _, _, _ => Nat.zero_le _
  | c :: w, d, b, hb, h => by
    rw [List.length_cons]
    rcases h with ⟨_, d', h1, h2⟩ | ⟨r, h1, h2, h3⟩
    · have := okW_len (Nat.le_refl 11) h2
      omega
    · have := okW_len (by omega) h3
      unfold rkX at h1
      omega
/-- those that wait for two -/
def nb : List Nat → Nat
  | [] => 0
  | c :: w => (if c = 0 ∨ c = 30 then 0 else 1) + nb w
def bb (b : Nat) : Nat := min b 2 + (b - 8)
theorem okW_nb : ∀ {w : List Nat} {d b : Nat}, b ≤ 11 → okW w d b → nb w ≤ bb b + 5 * d
  | [], _, _, _, _ => Nat.zero_le _
  | c :: w, d, b, hb, h => by
    rw [nb]
    rcases h with ⟨h0, d', h1, h2⟩ | ⟨r, h1, h2, h3⟩
    · have := okW_nb (Nat.le_refl 11) h2
      rw [if_pos (Or.inl h0)]
      unfold bb at *
      omega
    · have := okW_nb (by omega) h3
      unfold rkX at h1
      unfold bb at *
      by_cases e : c = 0 ∨ c = 30
      · rw [if_pos e]; omega
      · rw [if_neg e]; omega
/-- what is put down so far, from depth d to depth m -/
def wfp : eSt → Nat → Nat → Prop
  | [], d, m => d = m
  | e :: es, d, m => (e.1 = 1 ∧ d < 40 ∧ wfp es (d + 1) m) ∨ (e.1 = 2 ∧ d < 40 ∧ (∃ k, k < 7 ∧ e.2 = nI k) ∧ wfp es (d + 1) m) ∨ (e.1 = 30 ∧ 1 ≤ d ∧ wfp es d m) ∨ (isOp e.1 ∧ 2 ≤ d ∧ wfp es (d - 1) m)
theorem wfp_wfd : ∀ {es : eSt} {d : Nat}, wfp es d 1 → wfd es d
  | [], _, h => h
  | _ :: _, _, h => by
    rcases h with ⟨h1, h2, h3⟩ | ⟨h1, h2, h4, h3⟩ | ⟨h1, h2, h3⟩ | ⟨h1, h2, h3⟩
    · exact Or.inl ⟨h1, h2, wfp_wfd h3⟩
    · exact Or.inr (Or.inl ⟨h1, h2, h4, wfp_wfd h3⟩)
    · exact Or.inr (Or.inr (Or.inl ⟨h1, h2, wfp_wfd h3⟩))
    · exact Or.inr (Or.inr (Or.inr ⟨h1, h2, wfp_wfd h3⟩))
theorem wfp_ap {e : Int32 × Int32} {m m' : Nat} (he : wfp [e] m m') : ∀ {es : eSt} {d : Nat}, wfp es d m → wfp (es ++ [e]) d m'
  | [], d, h => by
    have : d = m := h
    subst this
    exact he
  | _ :: _, _, h => by
    rcases h with ⟨h1, h2, h3⟩ | ⟨h1, h2, h4, h3⟩ | ⟨h1, h2, h3⟩ | ⟨h1, h2, h3⟩
    · exact Or.inl ⟨h1, h2, wfp_ap he h3⟩
    · exact Or.inr (Or.inl ⟨h1, h2, h4, wfp_ap he h3⟩)
    · exact Or.inr (Or.inr (Or.inl ⟨h1, h2, wfp_ap he h3⟩))
    · exact Or.inr (Or.inr (Or.inr ⟨h1, h2, wfp_ap he h3⟩))
/-- the strongest rank that is weaker than t -/
def rT (t : Nat) : Nat := if t ≤ 1 then 0 else if t = 2 then 1 else if t = 3 then 2 else if t = 4 then 8 else if t = 5 then 9 else 10
theorem isOp_n {c r : Nat} (h : rkX c r) (h3 : c ≠ 30) : isOp (nI c) := by
  unfold rkX at h
  unfold isOp
  rcases h with ⟨rfl, _⟩ | ⟨rfl, _⟩ | ⟨rfl, _⟩ | ⟨rfl | rfl, _⟩ | ⟨rfl | rfl, _⟩ | ⟨rfl | rfl, _⟩ <;> first | (exfalso; exact h3 rfl) | decide
theorem rT_ok {c r t : Nat} (h : rkX c r) (e : c / 10 < t) (ht : 1 ≤ t ∧ t ≤ 6) : r ≤ rT t := by
  unfold rkX at h
  rcases (by omega : t = 1 ∨ t = 2 ∨ t = 3 ∨ t = 4 ∨ t = 5 ∨ t = 6) with rfl | rfl | rfl | rfl | rfl | rfl
  · show r ≤ 0; omega
  · show r ≤ 1; omega
  · show r ≤ 2; omega
  · show r ≤ 8; omega
  · show r ≤ 9; omega
  · show r ≤ 10; omega
theorem pwt_ok {t : Nat} (ht : 1 ≤ t ∧ t ≤ 6) : ∀ {w : List Nat} {out : eSt} {d b : Nat}, b ≤ 11 → okW w d b → wfp out 0 (nb w + 1) → okW (pwt t w out).2 d (min b (rT t)) ∧ wfp (pwt t w out).1 0 (nb (pwt t w out).2 + 1) ∧ (pwt t w out).1.length + (pwt t w out).2.length = out.length + w.length
  | [], out, d, b, _, h, ho => ⟨h, ho, rfl⟩
  | c :: w, out, d, b, hb, h, ho => by
    rw [pwt]
    by_cases e : c / 10 < t
    · rw [if_pos e]
      refine ⟨?_, ho, rfl⟩
      rcases h with h | ⟨r, h1, h2, h3⟩
      · exact Or.inl h
      · refine Or.inr ⟨r, h1, ?_, h3⟩
        have := rT_ok h1 e ht
        omega
    · rw [if_neg e]
      rcases h with ⟨rfl, _⟩ | ⟨r, h1, h2, h3⟩
      · exfalso; omega
      · have hr := h1
        unfold rkX at hr
        have hne : c ≠ 0 := by omega
        have step : wfp (out ++ [(nI c, 0)]) 0 (nb w + 1) := by
          rw [nb] at ho
          by_cases e3 : c = 30
          · rw [if_pos (Or.inr e3), Nat.zero_add] at ho
            exact wfp_ap (Or.inr (Or.inr (Or.inl ⟨by rw [e3]; rfl, by omega, rfl⟩))) ho
          · rw [if_neg (by omega)] at ho
            exact wfp_ap (Or.inr (Or.inr (Or.inr ⟨isOp_n h1 e3, by omega, by show 1 + nb w + 1 - 1 = nb w + 1; omega⟩))) ho
        obtain ⟨a1, a2, a3⟩ := pwt_ok ht (by omega) h3 step
        refine ⟨okW_m (by omega) a1, a2, ?_⟩
        rw [a3, List.length_append]
        show out.length + 1 + w.length = out.length + (w.length + 1)
        omega
