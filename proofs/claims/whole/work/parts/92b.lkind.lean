/-! the faults are 1 to 5 -/
def k15 (k : Nat) : Prop := 1 ≤ k ∧ k ≤ 5
theorem k15_1 : k15 1 := ⟨by decide, by decide⟩
theorem k15_2 : k15 2 := ⟨by decide, by decide⟩
theorem k15_3 : k15 3 := ⟨by decide, by decide⟩
theorem k15_4 : k15 4 := ⟨by decide, by decide⟩
theorem k15_5 : k15 5 := ⟨by decide, by decide⟩
theorem exS_k {B : Nat → Nat} {n a : Nat} {x : xS} {e : Nat × Nat} (h : exS B n a x = .inl e) : k15 e.1 := by
  unfold exS at h
  by_cases es : x.2.2.1 = 0
  · rw [if_pos es] at h
    unfold exOp at h
    by_cases c1 : sg B n a 41 = true ∧ 0 < x.2.2.2.1
    · rw [if_pos c1] at h; exact nomatch h
    rw [if_neg c1] at h
    by_cases c2 : opc B n a = 0
    · rw [if_pos c2] at h
      have := Sum.inl.inj h
      subst this
      first | exact k15_1 | exact k15_2 | exact k15_3 | exact k15_4 | exact k15_5
    rw [if_neg c2] at h
    by_cases c3 : (opc B n a = 40 ∨ opc B n a = 41) ∧ x.2.2.2.2.1 x.2.2.2.1 = true
    · rw [if_pos c3] at h
      have := Sum.inl.inj h
      subst this
      first | exact k15_1 | exact k15_2 | exact k15_3 | exact k15_4 | exact k15_5
    rw [if_neg c3] at h; exact nomatch h
  · rw [if_neg es] at h
    unfold exOd at h
    by_cases c1 : 6 ≤ x.2.2.2.1
    · rw [if_pos c1] at h
      have := Sum.inl.inj h
      subst this
      dsimp only
      split
      · first | exact k15_1 | exact k15_2 | exact k15_3 | exact k15_4 | exact k15_5
      · first | exact k15_1 | exact k15_2 | exact k15_3 | exact k15_4 | exact k15_5
    rw [if_neg c1] at h
    by_cases c2 : x.2.2.1 = 2 ∧ tW B n a = 18
    · rw [if_pos c2] at h
      by_cases c3 : x.2.2.2.2.2 + 1 ≤ 6
      · rw [if_pos c3] at h; exact nomatch h
      · rw [if_neg c3] at h
        have := Sum.inl.inj h
        subst this
        first | exact k15_1 | exact k15_2 | exact k15_3 | exact k15_4 | exact k15_5
    rw [if_neg c2] at h
    by_cases c3 : sg B n a 40 = true
    · rw [if_pos c3] at h; exact nomatch h
    rw [if_neg c3] at h
    by_cases c4 : tK B n a = 1
    · rw [if_pos c4] at h
      by_cases c5 : tW B n a ≤ 6
      · rw [if_pos c5] at h; exact nomatch h
      · rw [if_neg c5] at h
        have := Sum.inl.inj h
        subst this
        first | exact k15_1 | exact k15_2 | exact k15_3 | exact k15_4 | exact k15_5
    rw [if_neg c4] at h
    by_cases c5 : tK B n a = 2
    · rw [if_pos c5] at h
      by_cases c6 : tE B n a - a ≤ 4
      · rw [if_pos c6] at h; exact nomatch h
      · rw [if_neg c6] at h
        have := Sum.inl.inj h
        subst this
        first | exact k15_1 | exact k15_2 | exact k15_3 | exact k15_4 | exact k15_5
    rw [if_neg c5] at h
    have := Sum.inl.inj h
    subst this
    first | exact k15_1 | exact k15_2 | exact k15_3 | exact k15_4 | exact k15_5
theorem exR_k {B : Nat → Nat} {n : Nat} : ∀ (f a : Nat) (x : xS) (e : Nat × Nat), n - a < f → xI x a → exR B n f a x = .inl e → k15 e.1
  | 0, _, _, _, hf, _, _ => by omega
  | f + 1, a, x, e, hf, hi, h => by
    rw [exR] at h
    by_cases c1 : exDn B n a x = true
    · rw [if_pos c1] at h; exact nomatch h
    · rw [if_neg c1] at h
      cases e1 : exS B n a x with
      | inl ee =>
        rw [e1] at h
        have := Sum.inl.inj h
        subst this
        exact exS_k e1
      | inr x' =>
        rw [e1] at h
        obtain ⟨k1, k2⟩ := exS_ok hi e1
        have hn := nx_gt (B := B) k2
        exact exR_k f (nx B n a) x' e (by omega) k1 h
theorem rwS_k {B : Nat → Nat} {n mx hi : Nat} {ch : Bool} : ∀ (f a : Nat) (l : List Int32) (e : Nat × Nat), n - a < f → rwS B n mx hi ch f a l = .inl e → k15 e.1
  | 0, _, _, _, hf, _ => by omega
  | f + 1, a, l, e, hf, h => by
    rw [rwS] at h
    by_cases c1 : tK B n a = 2
    · rw [if_pos c1] at h
      by_cases c2 : l.length < mx ∧ numS B n a 0 hi = 0 ∧ (ch = true → isCh (nI (tN B n a)) = true)
      · rw [if_pos c2] at h
        have han : a < n := tK_0 (B := B) (n := n) (by omega)
        have hn := nx_gt (B := B) han
        exact rwS_k f (nx B n a) _ e (by omega) h
      · rw [if_neg c2] at h
        have := Sum.inl.inj h
        subst this
        first | exact k15_1 | exact k15_2 | exact k15_3 | exact k15_4 | exact k15_5
    · rw [if_neg c1] at h
      by_cases c2 : l = []
      · rw [if_pos c2] at h
        have := Sum.inl.inj h
        subst this
        first | exact k15_1 | exact k15_2 | exact k15_3 | exact k15_4 | exact k15_5
      · rw [if_neg c2] at h; exact nomatch h
theorem numS_k {B : Nat → Nat} {n a lo hi : Nat} (h : ¬ numS B n a lo hi = 0) : k15 (numS B n a lo hi) := by
  unfold numS at h ⊢
  by_cases c1 : tK B n a = 2
  · rw [if_pos c1] at h ⊢
    by_cases c2 : tE B n a - a ≤ 4 ∧ lo ≤ tN B n a ∧ tN B n a ≤ hi
    · rw [if_pos c2] at h; exact absurd rfl h
    · rw [if_neg c2]; first | exact k15_1 | exact k15_2 | exact k15_3 | exact k15_4 | exact k15_5
  · rw [if_neg c1]; first | exact k15_1 | exact k15_2 | exact k15_3 | exact k15_4 | exact k15_5
theorem bdS_k {B : Nat → Nat} {n a : Nat} {S : lS} {e : Nat × Nat} (h : bdS B n a S = .inl e) : k15 e.1 := by
  unfold bdS at h
  by_cases e10 : lwd (tW B n a) = 10
  · rw [if_pos e10] at h
    have := Sum.inl.inj h
    subst this
    first | exact k15_1 | exact k15_2 | exact k15_3 | exact k15_4 | exact k15_5
  rw [if_neg e10] at h
  by_cases e4 : lwd (tW B n a) < 4
  · rw [if_pos e4] at h
    unfold rtS at h
    by_cases c10 : pR S.1 < 10
    · rw [if_pos c10] at h
      unfold rt1 at h
      by_cases c1 : numS B n (nx B n a) 1 60 = 0
      · rw [if_pos c1] at h
        unfold rt2 at h
        by_cases c2 : numS B n (nx B n (nx B n a)) 0 (min 20 (tN B n (nx B n a) - 1)) = 0
        · rw [if_pos c2] at h
          unfold rt3 at h
          by_cases c3 : tK B n (nx B n (nx B n (nx B n a))) = 2
          · rw [if_pos c3] at h
            by_cases c4 : numS B n (nx B n (nx B n (nx B n a))) 0 5 = 0
            · rw [if_pos c4] at h
              by_cases c5 : hgT S (nI (tN B n (nx B n (nx B n (nx B n a)))))
              · rw [if_pos c5] at h
                have := Sum.inl.inj h
                subst this
                first | exact k15_1 | exact k15_2 | exact k15_3 | exact k15_4 | exact k15_5
              · rw [if_neg c5] at h; exact nomatch h
            · rw [if_neg c4] at h
              have := Sum.inl.inj h
              subst this
              first | exact k15_1 | exact k15_2 | exact k15_3 | exact k15_4 | exact k15_5
          · rw [if_neg c3] at h; exact nomatch h
        · rw [if_neg c2] at h
          have := Sum.inl.inj h
          subst this
          exact numS_k c2
      · rw [if_neg c1] at h
        have := Sum.inl.inj h
        subst this
        exact numS_k c1
    · rw [if_neg c10] at h
      have := Sum.inl.inj h
      subst this
      first | exact k15_1 | exact k15_2 | exact k15_3 | exact k15_4 | exact k15_5
  rw [if_neg e4] at h
  by_cases es : S.2.2 (lwd (tW B n a)) = true
  · rw [if_pos es] at h
    have := Sum.inl.inj h
    subst this
    first | exact k15_1 | exact k15_2 | exact k15_3 | exact k15_4 | exact k15_5
  rw [if_neg es] at h
  have row : ∀ (g : List Int32 → lS) (mx hi : Nat) (ch : Bool), rwL g (rwS B n mx hi ch (n - nx B n a + 1) (nx B n a) []) = .inl e → k15 e.1 := fun g mx hi ch q => by
    cases e1 : rwS B n mx hi ch (n - nx B n a + 1) (nx B n a) [] with
    | inl ee =>
      rw [e1] at q
      have := Sum.inl.inj q
      subst this
      exact rwS_k _ _ _ _ (by omega) e1
    | inr w => rw [e1] at q; exact nomatch q
  have exx : ∀ (g : eSt → lS), exL g (exR B n (n - nx B n a + 1) (nx B n a) x0) = .inl e → k15 e.1 := fun g q => by
    cases e1 : exR B n (n - nx B n a + 1) (nx B n a) x0 with
    | inl ee =>
      rw [e1] at q
      have := Sum.inl.inj q
      subst this
      exact exR_k _ _ _ _ (by omega) (xI_0 _) e1
    | inr w => rw [e1] at q; exact nomatch q
  unfold bdK at h
  by_cases k4 : lwd (tW B n a) = 4
  · rw [if_pos k4] at h; exact row _ _ _ _ h
  rw [if_neg k4] at h
  by_cases k5 : lwd (tW B n a) = 5
  · rw [if_pos k5] at h
    unfold lsS at h
    by_cases c1 : numS B n (nx B n a) 1 99 = 0
    · rw [if_pos c1] at h; exact nomatch h
    · rw [if_neg c1] at h
      have := Sum.inl.inj h
      subst this
      exact numS_k c1
  rw [if_neg k5] at h
  by_cases k6 : lwd (tW B n a) = 6
  · rw [if_pos k6] at h; exact row _ _ _ _ h
  rw [if_neg k6] at h
  by_cases k7 : lwd (tW B n a) = 7
  · rw [if_pos k7] at h; exact row _ _ _ _ h
  rw [if_neg k7] at h
  by_cases k8 : lwd (tW B n a) = 8
  · rw [if_pos k8] at h; exact exx _ h
  · rw [if_neg k8] at h; exact exx _ h
theorem leS_k {B : Nat → Nat} {n a : Nat} {S : lS} {e : Nat × Nat} (ha : a ≤ n) (h : leS B n (bdS B n a S) = .inl e) : 1 ≤ e.1 ∧ e.1 ≤ 5 := by
  cases e1 : bdS B n a S with
  | inl ee =>
    rw [e1] at h
    have := Sum.inl.inj h
    subst this
    exact bdS_k e1
  | inr w =>
    rw [e1] at h
    have h' : (if sg B n w.1 59 = true then (.inr (nx B n w.1, w.2) : pO (Nat × lS)) else .inl (1, w.1)) = .inl e := h
    by_cases c : sg B n w.1 59 = true
    · rw [if_pos c] at h'; exact nomatch h'
    · rw [if_neg c] at h'
      have := Sum.inl.inj h'
      subst this
      first | exact k15_1 | exact k15_2 | exact k15_3 | exact k15_4 | exact k15_5
