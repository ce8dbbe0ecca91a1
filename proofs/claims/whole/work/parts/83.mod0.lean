/-! one step of an EXPR: fuel and bound -/
theorem mPo_t {I J : mIT} {L M : mLT} {c0 : Nat} {B : Nat → Nat} {n : Nat} {r : pO (Nat × xS)} {y : mIT × mLT} (f : mXf c0 I J) (l : lF L M) (h15 : J 75 15 = I 75 15) (h : mPo J M c0 B n r y) : mPo I L c0 B n r y := by
  cases r with
  | inl e =>
    obtain ⟨h1, h2, h3, h4, h5, h6⟩ := h
    exact ⟨h1, h2, h3, h4, mXf_t f h5, lF_t l h6⟩
  | inr z =>
    obtain ⟨h1, h2, h3, h4, h5, h6⟩ := h
    exact ⟨h1, by rw [h2, h15], h3, h4, mXf_t f h5, lF_t l h6⟩
theorem exR_s {B : Nat → Nat} {n a f : Nat} {x : xS} (hf : n - a < f) (hd : exDn B n a x = false) : exR B n f a x = match exS B n a x with
    | .inl e => .inl e
    | .inr x' => exR B n (f - 1) (nx B n a) x' := by
  obtain ⟨g, rfl⟩ : ∃ g, f = g + 1 := ⟨f - 1, by omega⟩
  rw [exR, hd, if_neg Bool.false_ne_true]
  rfl
theorem exDn_od {B : Nat → Nat} {n a : Nat} {x : xS} (hs : x.2.2.1 ≠ 0) : exDn B n a x = false := decide_eq_false (fun q => hs q.1)
theorem exR_bad {B : Nat → Nat} {n a f : Nat} {x : xS} {e : Nat × Nat} (hf : n - a < f) (hd : exDn B n a x = false) (h : exS B n a x = .inl e) : exR B n f a x = .inl e := by
  rw [exR_s hf hd, h]
theorem exR_go {B : Nat → Nat} {n a f : Nat} {x x' : xS} (hf : n - a < f) (hd : exDn B n a x = false) (hi : xI x a) (h : exS B n a x = .inr x') : exR B n f a x = exR B n (f - 1) (nx B n a) x' ∧ n - nx B n a < f - 1 ∧ a < nx B n a ∧ nx B n a ≤ n ∧ a < n ∧ xI x' (nx B n a) := by
  obtain ⟨h1, h2⟩ := exS_ok hi h
  have h3 := nx_gt (B := B) h2
  refine ⟨?_, by omega, h3.1, h3.2, h2, h1⟩
  rw [exR_s hf hd, h]
theorem pwt_enp {t : Nat} : ∀ {w : List Nat} {out : eSt}, vC w → 1 ≤ t → (enp (pwt t w out).1).length + (pwt t w out).2.length = (enp out).length + w.length
  | [], _, _, _ => rfl
  | c :: w, out, hv, ht => by
    rw [pwt]
    by_cases e : c / 10 < t
    · rw [if_pos e]
    · rw [if_neg e, pwt_enp (fun x hx => hv x (List.mem_cons_of_mem _ hx)) ht, enp_ap, List.length_append]
      have hc := hv c List.mem_cons_self
      have e1 : (enp [(nI c, (0 : Int32))]).length = 1 := by
        rw [enp, if_neg (by rcases hc with rfl | rfl | rfl | rfl | rfl | rfl | rfl | rfl | rfl | rfl <;> decide)]
        rfl
      rw [e1, List.length_cons]
      omega
def xB (c0 : Nat) (x : xS) (a : Nat) : Prop := c0 + (enp x.1).length + x.2.1.length + 4 ≤ 2 * a
theorem exS_b {B : Nat → Nat} {n a c0 : Nat} {x x' : xS} (hi : xI x a) (e : exS B n a x = .inr x') (hb : xB c0 x a) : xB c0 x' (nx B n a) := by
  obtain ⟨_, han⟩ := exS_ok hi e
  have hn := nx_gt (B := B) han
  have hv := xI_vC hi
  obtain ⟨out, w, st, d, ch, k⟩ := x
  unfold xB at hb ⊢
  dsimp only at hb hv
  unfold exS at e
  dsimp only at e
  have e2 : ∀ (u v : Int32), u = 1 ∨ u = 2 → (enp (out ++ [(u, v)])).length = (enp out).length + 2 := fun u v h => by
    rw [enp_ap, List.length_append, enp, if_pos h]; rfl
  by_cases es : st = 0
  · rw [if_pos es] at e
    unfold exOp at e
    dsimp only at e
    by_cases c1 : sg B n a 41 = true ∧ 0 < d
    · rw [if_pos c1] at e
      have e' := Sum.inr.inj e
      subst e'
      dsimp only
      have := pwt_enp (t := 1) (out := out) hv (Nat.le_refl 1)
      have h2 : (pwt 1 w out).2.tail.length ≤ (pwt 1 w out).2.length := by rw [List.length_tail]; omega
      omega
    · rw [if_neg c1] at e
      by_cases c2 : opc B n a = 0
      · rw [if_pos c2] at e; exact nomatch e
      · rw [if_neg c2] at e
        by_cases c3 : (opc B n a = 40 ∨ opc B n a = 41) ∧ ch d = true
        · rw [if_pos c3] at e; exact nomatch e
        · rw [if_neg c3] at e
          have e' := Sum.inr.inj e
          subst e'
          dsimp only
          have hop := (opc_ok c2).1
          have := pwt_enp (t := opc B n a / 10) (out := out) hv (by omega)
          unfold jnX
          rw [if_neg (by omega)]
          dsimp only
          rw [List.length_cons]
          omega
  · rw [if_neg es] at e
    unfold exOd at e
    dsimp only at e
    by_cases c1 : 6 ≤ d
    · rw [if_pos c1] at e; exact nomatch e
    · rw [if_neg c1] at e
      by_cases c2 : st = 2 ∧ tW B n a = 18
      · rw [if_pos c2] at e
        by_cases c3 : k + 1 ≤ 6
        · rw [if_pos c3] at e
          have e' := Sum.inr.inj e
          subst e'
          dsimp only
          rw [List.length_cons]
          omega
        · rw [if_neg c3] at e; exact nomatch e
      · rw [if_neg c2] at e
        by_cases c3 : sg B n a 40 = true
        · rw [if_pos c3] at e
          have e' := Sum.inr.inj e
          subst e'
          dsimp only
          rw [List.length_cons]
          omega
        · rw [if_neg c3] at e
          by_cases c4 : tK B n a = 1
          · rw [if_pos c4] at e
            by_cases c5 : tW B n a ≤ 6
            · rw [if_pos c5] at e
              have e' := Sum.inr.inj e
              subst e'
              dsimp only
              rw [e2 _ _ (Or.inr rfl)]
              omega
            · rw [if_neg c5] at e; exact nomatch e
          · rw [if_neg c4] at e
            by_cases c5 : tK B n a = 2
            · rw [if_pos c5] at e
              by_cases c6 : tE B n a - a ≤ 4
              · rw [if_pos c6] at e
                have e' := Sum.inr.inj e
                subst e'
                dsimp only
                rw [e2 _ _ (Or.inl rfl)]
                omega
              · rw [if_neg c6] at e; exact nomatch e
            · rw [if_neg c5] at e; exact nomatch e
