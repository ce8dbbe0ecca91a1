/-! what holds while an EXPR is read -/
def xI (x : xS) (a : Nat) : Prop := x.1.length + x.2.1.length ≤ a ∧ x.2.2.1 ≤ 2 ∧ x.2.2.2.1 ≤ 6 ∧ ((x.2.2.1 = 2 ∧ x.2.2.2.2.2 = 0) ∨ x.2.2.2.1 ≤ 5) ∧ x.2.2.2.2.2 ≤ 6 ∧ (x.2.2.1 = 2 ∨ x.2.2.2.2.2 = 0) ∧ okW x.2.1 x.2.2.2.1 (if x.2.2.1 = 2 then 2 + x.2.2.2.2.2 else 11) ∧ wfp x.1 0 (nb x.2.1 + (if x.2.2.1 = 0 then 1 else 0))
def x0 : xS := ([], [], 2, 0, fun _ => false, 0)
theorem xI_0 (a : Nat) : xI x0 a := ⟨Nat.zero_le _, Nat.le_refl _, Nat.zero_le _, Or.inl ⟨rfl, rfl⟩, Nat.zero_le _, Or.inl rfl, rfl, rfl⟩
theorem xI_len {x : xS} {a : Nat} (h : xI x a) : x.2.1.length ≤ 80 - 1 ∧ vW x.2.1 := by
  obtain ⟨_, h2, h3, h4, h5, h6, h7, _⟩ := h
  refine ⟨?_, vW_ok h7⟩
  by_cases e : x.2.2.1 = 2
  · rw [if_pos e] at h7
    have := okW_len (by omega) h7
    omega
  · rw [if_neg e] at h7
    have := okW_len (by omega) h7
    omega
theorem nx_gt {B : Nat → Nat} {n a : Nat} (ha : a < n) : a < nx B n a ∧ nx B n a ≤ n := by
  have h1 := tE_le (B := B) (Nat.le_of_lt ha)
  have h2 := tA_n (B := B) h1.1
  unfold nx
  have := h1.2.2 ha
  omega
theorem tK_0 {B : Nat → Nat} {n a : Nat} (h : tK B n a ≠ 0) : a < n := by
  unfold tK at h
  by_cases e : a < n
  · exact e
  · rw [if_neg e] at h; omega
theorem opc_ok {B : Nat → Nat} {n a : Nat} (h : opc B n a ≠ 0) : (opc B n a = 10 ∨ opc B n a = 20 ∨ opc B n a = 40 ∨ opc B n a = 41 ∨ opc B n a = 50 ∨ opc B n a = 51 ∨ opc B n a = 60 ∨ opc B n a = 61) ∧ a < n := by
  have hs : ∀ c, sg B n a c = true → a < n := fun c hc => tK_0 (B := B) (n := n) (by unfold sg at hc; have := (of_decide_eq_true hc).1; omega)
  have hw : ∀ v, v < 19 → tW B n a = v → a < n := fun v hv hc => tK_0 (B := B) (n := n) (by have := ((tW_is hv).mp hc).1; omega)
  unfold opc at h ⊢
  repeat' split
  all_goals first
    | exact ⟨by omega, by first | exact hw 17 (by omega) (by assumption) | exact hw 16 (by omega) (by assumption) | exact hs 60 (by assumption) | exact hs 61 (by assumption) | exact hs 43 (by assumption) | exact hs 45 (by assumption) | exact hs 42 (by assumption) | exact hs 47 (by assumption)⟩
    | (exfalso; simp_all)
def rC (c : Nat) : Nat := if c = 10 then 1 else if c = 20 then 2 else if c ≤ 41 then 9 else if c ≤ 51 then 10 else 11
theorem okW_join {c d : Nat} {w : List Nat} {out : eSt} (hc : c = 10 ∨ c = 20 ∨ c = 40 ∨ c = 41 ∨ c = 50 ∨ c = 51 ∨ c = 60 ∨ c = 61) (h : okW w d 11) (ho : wfp out 0 (nb w + 1)) : okW (jnX c out w).2 d (rC c) ∧ wfp (jnX c out w).1 0 (nb (jnX c out w).2) ∧ (jnX c out w).1.length + (jnX c out w).2.length = out.length + w.length + 1 := by
  obtain ⟨h1, h2, h3⟩ := pwt_ok (t := c / 10) (by omega) (Nat.le_refl 11) h ho
  unfold jnX
  rw [if_neg (by omega)]
  refine ⟨Or.inr ⟨rC c, ?_, Nat.le_refl _, okW_m ?_ h1⟩, ?_, ?_⟩
  · unfold rkX
    rcases hc with rfl | rfl | rfl | rfl | rfl | rfl | rfl | rfl <;> decide
  · rcases hc with rfl | rfl | rfl | rfl | rfl | rfl | rfl | rfl <;> decide
  · show wfp _ 0 ((if c = 0 ∨ c = 30 then 0 else 1) + nb _)
    rw [if_neg (by omega), Nat.add_comm]
    exact h2
  · dsimp only
    rw [List.length_cons]
    omega
theorem okW_close {d : Nat} {w : List Nat} {out : eSt} (h : okW w d 11) (hd : 0 < d) (ho : wfp out 0 (nb w + 1)) : okW (pwt 1 w out).2.tail (d - 1) 11 ∧ wfp (pwt 1 w out).1 0 (nb (pwt 1 w out).2.tail + 1) ∧ (pwt 1 w out).2 ≠ [] ∧ (pwt 1 w out).1.length + (pwt 1 w out).2.tail.length + 1 = out.length + w.length := by
  obtain ⟨h1, h2, h3⟩ := pwt_ok (t := 1) (by omega) (Nat.le_refl 11) h ho
  cases hw : (pwt 1 w out).2 with
  | nil =>
    rw [hw] at h1
    have : d = 0 := h1
    omega
  | cons c w' =>
    rw [hw] at h1 h2 h3
    rcases h1 with ⟨rfl, d', e, h1⟩ | ⟨r, a1, a2, _⟩
    · refine ⟨by rw [e]; exact h1, ?_, by simp, ?_⟩
      · have e2 : nb (0 :: w') = nb w' := by rw [nb, if_pos (Or.inl rfl), Nat.zero_add]
        rw [e2] at h2
        exact h2
      · rw [List.length_cons] at h3
        show _ + w'.length + 1 = _
        omega
    · exfalso
      have : min 11 (rT 1) = 0 := rfl
      unfold rkX at a1
      omega
theorem exS_ok {B : Nat → Nat} {n a : Nat} {x x' : xS} (h : xI x a) (e : exS B n a x = .inr x') : xI x' (nx B n a) ∧ a < n := by
  obtain ⟨out, w, st, d, ch, k⟩ := x
  obtain ⟨h1, h2, h3, h4, h5, h6, h7, h8⟩ := h
  dsimp only at h1 h2 h3 h4 h5 h6 h7 h8
  unfold exS at e
  dsimp only at e
  by_cases es : st = 0
  · rw [if_pos es] at e
    subst es
    have h60 : k = 0 := h6.resolve_left (by omega)
    have h45 : d ≤ 5 := h4.resolve_left (by omega)
    rw [if_neg (by omega)] at h7
    rw [if_pos rfl] at h8
    unfold exOp at e
    dsimp only at e
    by_cases c1 : sg B n a 41 = true ∧ 0 < d
    · rw [if_pos c1] at e
      have e' := Sum.inr.inj e
      subst e'
      have han : a < n := tK_0 (B := B) (n := n) (by have := c1.1; unfold sg at this; have := (of_decide_eq_true this).1; omega)
      obtain ⟨k1, k2, k3, k4⟩ := okW_close h7 c1.2 h8
      have := nx_gt (B := B) han
      exact ⟨⟨by dsimp only; omega, by dsimp only; omega, by dsimp only; omega, Or.inr (by dsimp only; omega), h5, Or.inr h60, k1, k2⟩, han⟩
    · rw [if_neg c1] at e
      by_cases c2 : opc B n a = 0
      · rw [if_pos c2] at e; exact nomatch e
      · rw [if_neg c2] at e
        obtain ⟨hop, han⟩ := opc_ok c2
        have hn := nx_gt (B := B) han
        by_cases c3 : (opc B n a = 40 ∨ opc B n a = 41) ∧ ch d = true
        · rw [if_pos c3] at e; exact nomatch e
        · rw [if_neg c3] at e
          have e' := Sum.inr.inj e
          subst e'
          obtain ⟨k1, k2, k3⟩ := okW_join hop h7 h8
          refine ⟨⟨by dsimp only; omega, ?_, h3, Or.inr h45, h5, Or.inr h60, ?_, ?_⟩, han⟩
          · dsimp only
            split <;> omega
          · dsimp only
            refine okW_m ?_ k1
            rcases hop with q | q | q | q | q | q | q | q <;> rw [q, h60] <;> simp [rC]
          · dsimp only
            rw [if_neg (by split <;> omega)]
            exact k2
  · rw [if_neg es] at e
    rw [if_neg es] at h8
    unfold exOd at e
    dsimp only at e
    by_cases c1 : 6 ≤ d
    · rw [if_pos c1] at e; exact nomatch e
    · rw [if_neg c1] at e
      by_cases c2 : st = 2 ∧ tW B n a = 18
      · rw [if_pos c2] at e
        have han : a < n := tK_0 (B := B) (n := n) (by have := ((tW_is (by omega : 18 < 19)).mp c2.2).1; omega)
        have hn := nx_gt (B := B) han
        by_cases c3 : k + 1 ≤ 6
        · rw [if_pos c3] at e
          have e' := Sum.inr.inj e
          subst e'
          rw [if_pos c2.1] at h7
          refine ⟨⟨by dsimp only; rw [List.length_cons]; omega, Nat.le_refl _, h3, Or.inr (by dsimp only; omega), c3, Or.inl rfl, Or.inr ⟨2 + (k + 1), Or.inr (Or.inr (Or.inl ⟨rfl, by omega, by omega⟩)), by dsimp only; rw [if_pos rfl]; omega, okW_m (by omega) h7⟩, ?_⟩, han⟩
          show wfp out 0 ((if (30 : Nat) = 0 ∨ (30 : Nat) = 30 then 0 else 1) + nb w + 0)
          rw [if_pos (Or.inr rfl), Nat.zero_add]
          exact h8
        · rw [if_neg c3] at e; exact nomatch e
      · rw [if_neg c2] at e
        have h11 : okW w d 11 := by
          by_cases q : st = 2
          · rw [if_pos q] at h7; exact okW_m (by omega) h7
          · rw [if_neg q] at h7; exact h7
        have hnb := okW_nb (Nat.le_refl 11) h11
        have hb11 : bb 11 = 5 := rfl
        by_cases c3 : sg B n a 40 = true
        · rw [if_pos c3] at e
          have e' := Sum.inr.inj e
          subst e'
          have han : a < n := tK_0 (B := B) (n := n) (by unfold sg at c3; have := (of_decide_eq_true c3).1; omega)
          have hn := nx_gt (B := B) han
          refine ⟨⟨by dsimp only; rw [List.length_cons]; omega, Nat.le_refl _, by dsimp only; omega, Or.inl ⟨rfl, rfl⟩, Nat.zero_le _, Or.inl rfl, Or.inl ⟨rfl, d, rfl, h11⟩, ?_⟩, han⟩
          show wfp out 0 ((if (0 : Nat) = 0 ∨ (0 : Nat) = 30 then 0 else 1) + nb w + 0)
          rw [if_pos (Or.inl rfl), Nat.zero_add]
          exact h8
        · rw [if_neg c3] at e
          by_cases c4 : tK B n a = 1
          · rw [if_pos c4] at e
            have han : a < n := tK_0 (B := B) (n := n) (by omega)
            have hn := nx_gt (B := B) han
            by_cases c5 : tW B n a ≤ 6
            · rw [if_pos c5] at e
              have e' := Sum.inr.inj e
              subst e'
              refine ⟨⟨by dsimp only; rw [List.length_append]; show out.length + 1 + w.length ≤ _; omega, Nat.zero_le _, h3, Or.inr (by dsimp only; omega), Nat.zero_le _, Or.inr rfl, h11, ?_⟩, han⟩
              exact wfp_ap (m := nb w) (m' := nb w + 1) (Or.inr (Or.inl ⟨rfl, by omega, ⟨_, by omega, rfl⟩, rfl⟩)) h8
            · rw [if_neg c5] at e; exact nomatch e
          · rw [if_neg c4] at e
            by_cases c5 : tK B n a = 2
            · rw [if_pos c5] at e
              have han : a < n := tK_0 (B := B) (n := n) (by omega)
              have hn := nx_gt (B := B) han
              by_cases c6 : tE B n a - a ≤ 4
              · rw [if_pos c6] at e
                have e' := Sum.inr.inj e
                subst e'
                refine ⟨⟨by dsimp only; rw [List.length_append]; show out.length + 1 + w.length ≤ _; omega, Nat.zero_le _, h3, Or.inr (by dsimp only; omega), Nat.zero_le _, Or.inr rfl, h11, ?_⟩, han⟩
                exact wfp_ap (m := nb w) (m' := nb w + 1) (Or.inl ⟨rfl, by omega, rfl⟩) h8
              · rw [if_neg c6] at e; exact nomatch e
            · rw [if_neg c5] at e; exact nomatch e
