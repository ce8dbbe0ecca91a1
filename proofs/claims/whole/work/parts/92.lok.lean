/-! a line goes on in the text, and keeps what a TEXT is -/
theorem nx_ge {B : Nat → Nat} {n a : Nat} (ha : a ≤ n) : a ≤ nx B n a ∧ nx B n a ≤ n := by
  have h1 := tE_le (B := B) ha
  have h2 := tA_n (B := B) h1.1
  unfold nx
  omega
theorem rwS_ge {B : Nat → Nat} {n mx hi : Nat} {ch : Bool} : ∀ (f a : Nat) (l : List Int32) (z : Nat × List Int32), a ≤ n → rwS B n mx hi ch f a l = .inr z → a ≤ z.1 ∧ z.1 ≤ n ∧ z.2 ≠ []
  | 0, _, _, _, _, h => nomatch h
  | f + 1, a, l, z, ha, h => by
    rw [rwS] at h
    have hn := nx_ge (B := B) ha
    by_cases c1 : tK B n a = 2
    · rw [if_pos c1] at h
      by_cases c2 : l.length < mx ∧ numS B n a 0 hi = 0 ∧ (ch = true → isCh (nI (tN B n a)) = true)
      · rw [if_pos c2] at h
        have := rwS_ge f (nx B n a) _ z hn.2 h
        exact ⟨by omega, this.2⟩
      · rw [if_neg c2] at h; exact nomatch h
    · rw [if_neg c1] at h
      by_cases c2 : l = []
      · rw [if_pos c2] at h; exact nomatch h
      · rw [if_neg c2] at h
        have e := Sum.inr.inj h
        subst e
        exact ⟨Nat.le_refl _, ha, c2⟩
theorem rwS_ok {B : Nat → Nat} {n mx hi : Nat} {ch : Bool} : ∀ (f a : Nat) (l : List Int32) (z : Nat × List Int32), rwS B n mx hi ch f a l = .inr z → l.length ≤ mx → (∀ j, j < l.length → ∃ t, t ≤ hi ∧ l.getD j 0 = nI t) → z.2.length ≤ mx ∧ ∀ j, j < z.2.length → ∃ t, t ≤ hi ∧ z.2.getD j 0 = nI t
  | 0, _, _, _, h => nomatch h
  | f + 1, a, l, z, h => fun hl hj => by
    rw [rwS] at h
    by_cases c1 : tK B n a = 2
    · rw [if_pos c1] at h
      by_cases c2 : l.length < mx ∧ numS B n a 0 hi = 0 ∧ (ch = true → isCh (nI (tN B n a)) = true)
      · rw [if_pos c2] at h
        have n2 := numS_2 c2.2.1
        have hlen : (l ++ [nI (tN B n a)]).length = l.length + 1 := by rw [List.length_append]; rfl
        refine rwS_ok f (nx B n a) _ z h (by rw [hlen]; omega) (fun j hj2 => ?_)
        rw [hlen] at hj2
        rw [getD_ap0 hj2]
        by_cases e : j < l.length
        · rw [if_pos e]; exact hj j e
        · rw [if_neg e]; exact ⟨_, n2.2.2.2, rfl⟩
      · rw [if_neg c2] at h; exact nomatch h
    · rw [if_neg c1] at h
      by_cases c2 : l = []
      · rw [if_pos c2] at h; exact nomatch h
      · rw [if_neg c2] at h
        have e := Sum.inr.inj h
        subst e
        exact ⟨hl, hj⟩
theorem exR_ge {B : Nat → Nat} {n : Nat} : ∀ (f a : Nat) (x : xS) (z : Nat × xS), a ≤ n → xI x a → exR B n f a x = .inr z → a ≤ z.1 ∧ z.1 ≤ n ∧ xI z.2 z.1 ∧ exDn B n z.1 z.2 = true
  | 0, _, _, _, _, _, h => nomatch h
  | f + 1, a, x, z, ha, hi, h => by
    rw [exR] at h
    by_cases c1 : exDn B n a x = true
    · rw [if_pos c1] at h
      have e := Sum.inr.inj h
      subst e
      exact ⟨Nat.le_refl _, ha, hi, c1⟩
    · rw [if_neg c1] at h
      cases e : exS B n a x with
      | inl ee => rw [e] at h; exact nomatch h
      | inr x' =>
        rw [e] at h
        obtain ⟨k1, k2⟩ := exS_ok hi e
        have hn := nx_gt (B := B) k2
        have := exR_ge f (nx B n a) x' z hn.2 k1 h
        exact ⟨by omega, this.2⟩
def okS (S : lS) : Prop := pR S.1 ≤ 10 ∧ pN S.1 ≤ 10 ∧ (1 ≤ pL S.1 ∧ pL S.1 ≤ 99) ∧ pT S.1 ≤ 8 ∧ pC S.1 ≤ 12 ∧ (∀ j, j < pN S.1 → 0 ≤ pW S.1 j ∧ pW S.1 j ≤ 9) ∧ (∀ j, j < pT S.1 → ∃ t, t < 16 ∧ pU S.1 j = nI t) ∧ okR S.1 999 S.2.1 ∧ (S.2.2 4 = decide (0 < pN S.1)) ∧ (S.2.2 6 = decide (0 < pT S.1)) ∧ (S.2.2 7 = decide (0 < pC S.1)) ∧ (S.2.2 5 = false → pL S.1 = 20) ∧ ((S.2.2 8 = false → pNo S.1 = []) ∧ (S.2.2 8 = true → pNo S.1 ≠ [])) ∧ ((S.2.2 9 = false → pGr S.1 = []) ∧ (S.2.2 9 = true → pGr S.1 ≠ []))
theorem okS_l {S : lS} (h : okS S) : lOk S := by
  obtain ⟨h1, h2, h3, h4, h5, h6, h7, h8, h9, h10, h11, h12, h13, h14⟩ := h
  refine ⟨h1, fun q => ?_, fun q => ?_, fun q => ?_, h13.1, h14.1⟩
  · rw [h9] at q; have := of_decide_eq_false q; omega
  · rw [h10] at q; have := of_decide_eq_false q; omega
  · rw [h11] at q; have := of_decide_eq_false q; omega
theorem okS_add {S : lS} {k s h pl : Int32} {s' h' : Nat} (ho : okS S) (h10 : pR S.1 < 10) (es : s = nI s') (eh : h = nI h') (hs : s' ≤ 60) (hh : h' ≤ 20) (hhs : h' < s') (hpl : pl = -1 ∨ ∃ w, w < 6 ∧ pl = nI w) (hng : ∀ q, q < pR S.1 → 0 ≤ pl → S.2.1 (31 + q) ≠ pl) : okS (addR S k s h pl) := by
  obtain ⟨h1, h2, h3, h4, h5, h6, h7, h8, h9, g10, h11, h12, h13, h14⟩ := ho
  obtain ⟨r0, r1, r2⟩ := h8
  have q1 : pR (addR S k s h pl).1 = pR S.1 + 1 := rfl
  have row : ∀ j, (addR S k s h pl).2.1 j = if j = 1 + pR S.1 then s else if j = 11 + pR S.1 then h else if j = 21 + pR S.1 then 0 else if j = 31 + pR S.1 then pl else S.2.1 j := fun j => rfl
  have old : ∀ b r, (b = 1 ∨ b = 11 ∨ b = 21 ∨ b = 31) → r < pR S.1 → (addR S k s h pl).2.1 (b + r) = S.2.1 (b + r) := fun b r hb hr => by
    rw [row, if_neg (by omega), if_neg (by omega), if_neg (by omega), if_neg (by omega)]
  have new1 : (addR S k s h pl).2.1 (1 + pR S.1) = s := by rw [row, if_pos rfl]
  have new2 : (addR S k s h pl).2.1 (11 + pR S.1) = h := by rw [row, if_neg (by omega), if_pos rfl]
  have new3 : (addR S k s h pl).2.1 (21 + pR S.1) = 0 := by rw [row, if_neg (by omega), if_neg (by omega), if_pos rfl]
  have new4 : (addR S k s h pl).2.1 (31 + pR S.1) = pl := by rw [row, if_neg (by omega), if_neg (by omega), if_neg (by omega), if_pos rfl]
  refine ⟨by rw [q1]; omega, h2, h3, h4, h5, h6, h7, ⟨?_, fun r hr => ?_, fun r q hr hq hne h0 => ?_⟩, h9, g10, h11, h12, h13, h14⟩
  · rw [row, if_neg (by omega), if_neg (by omega), if_neg (by omega), if_neg (by omega)]; exact r0
  · rw [q1] at hr
    by_cases e : r < pR S.1
    · rw [old 1 r (by omega) e, old 11 r (by omega) e, old 21 r (by omega) e, old 31 r (by omega) e]
      exact r1 r e
    · have : r = pR S.1 := by omega
      subst this
      refine ⟨s', h', 0, by rw [new1, es], by rw [new2, eh], by rw [new3]; rfl, hs, hh, hhs, by omega, ?_⟩
      rw [new4]
      rcases hpl with e | e
      · exact Or.inl e
      · exact Or.inr (Or.inr e)
  · rw [q1] at hr hq
    by_cases e1 : r < pR S.1
    · by_cases e2 : q < pR S.1
      · rw [old 31 r (by omega) e1] at h0 ⊢
        rw [old 31 q (by omega) e2]
        exact r2 r q e1 e2 hne h0
      · have : q = pR S.1 := by omega
        subst this
        rw [old 31 r (by omega) e1] at h0 ⊢
        rw [new4]
        intro k0
        exact hng r e1 (by rw [← k0]; exact h0) k0
    · have : r = pR S.1 := by omega
      subst this
      by_cases e2 : q < pR S.1
      · rw [new4] at h0 ⊢
        rw [old 31 q (by omega) e2]
        exact fun k0 => hng q e2 h0 k0.symm
      · exfalso; omega
theorem mk_o {S : lS} {k i : Nat} (h : i ≠ k) : mk S k i = S.2.2 i := if_neg h
theorem mk_f {S : lS} {k i : Nat} {v : Bool} (q : mk S k i = v) (h : i ≠ k) : S.2.2 i = v := by
  rw [← q, mk_o h]
theorem mk_s {S : lS} {k : Nat} : mk S k k = true := if_pos rfl
theorem nI_09 {t : Nat} (h : t ≤ 9) : 0 ≤ nI t ∧ nI t ≤ 9 := ⟨by rw [q_0le (by omega)]; trivial, by rw [show (9 : Int32) = nI 9 from rfl, q_le (by omega) (by omega)]; exact h⟩
theorem bdS_ok {B : Nat → Nat} {n a : Nat} {S : lS} {z : Nat × lS} (ha : a ≤ n) (ho : okS S) (h : bdS B n a S = .inr z) : a ≤ z.1 ∧ z.1 ≤ n ∧ okS z.2 := by
  have hn1 := nx_ge (B := B) ha
  have ho' := ho
  obtain ⟨h1, h2, h3, h4, h5, h6, h7, h8, h9, g10, h11, h12, h13, h14⟩ := ho
  unfold bdS at h
  by_cases e10 : lwd (tW B n a) = 10
  · rw [if_pos e10] at h; exact nomatch h
  rw [if_neg e10] at h
  by_cases e4 : lwd (tW B n a) < 4
  · rw [if_pos e4] at h
    unfold rtS at h
    by_cases c10 : pR S.1 < 10
    · rw [if_pos c10] at h
      unfold rt1 at h
      by_cases c1 : numS B n (nx B n a) 1 60 = 0
      · rw [if_pos c1] at h
        unfold rt2 at h
        have m1 := numS_2 c1
        have hn2 := nx_ge (B := B) hn1.2
        by_cases c2 : numS B n (nx B n (nx B n a)) 0 (min 20 (tN B n (nx B n a) - 1)) = 0
        · rw [if_pos c2] at h
          have m2 := numS_2 c2
          have hn3 := nx_ge (B := B) hn2.2
          have hn4 := nx_ge (B := B) hn3.2
          unfold rt3 at h
          by_cases c3 : tK B n (nx B n (nx B n (nx B n a))) = 2
          · rw [if_pos c3] at h
            by_cases c4 : numS B n (nx B n (nx B n (nx B n a))) 0 5 = 0
            · rw [if_pos c4] at h
              have m3 := numS_2 c4
              by_cases c5 : hgT S (nI (tN B n (nx B n (nx B n (nx B n a)))))
              · rw [if_pos c5] at h; exact nomatch h
              · rw [if_neg c5] at h
                have e := Sum.inr.inj h
                subst e
                exact ⟨by dsimp only; omega, by dsimp only; omega, okS_add ho' c10 rfl rfl (by omega) (by omega) (by omega) (Or.inr ⟨_, by omega, rfl⟩) (fun q hq _ k0 => c5 ⟨q, hq, k0⟩)⟩
            · rw [if_neg c4] at h; exact nomatch h
          · rw [if_neg c3] at h
            have e := Sum.inr.inj h
            subst e
            exact ⟨by dsimp only; omega, by dsimp only; omega, okS_add ho' c10 rfl rfl (by omega) (by omega) (by omega) (Or.inl rfl) (fun q hq k0 => absurd k0 (by decide))⟩
        · rw [if_neg c2] at h; exact nomatch h
      · rw [if_neg c1] at h; exact nomatch h
    · rw [if_neg c10] at h; exact nomatch h
  rw [if_neg e4] at h
  have hle := lwd_le (tW B n a)
  generalize lwd (tW B n a) = k at *
  by_cases es : S.2.2 k = true
  · rw [if_pos es] at h; exact nomatch h
  rw [if_neg es] at h
  have nil0 : ∀ hi : Nat, ∀ j, j < ([] : List Int32).length → ∃ t, t ≤ hi ∧ ([] : List Int32).getD j 0 = nI t := fun _ j hj => absurd hj (Nat.not_lt_zero _)
  unfold bdK at h
  rcases (by omega : k = 4 ∨ k = 5 ∨ k = 6 ∨ k = 7 ∨ k = 8 ∨ k = 9) with rfl | rfl | rfl | rfl | rfl | rfl
  · rw [if_pos rfl] at h
    cases e : rwS B n 10 9 false (n - nx B n a + 1) (nx B n a) [] with
    | inl ee => rw [e] at h; exact nomatch h
    | inr w =>
      rw [e] at h
      have e' := Sum.inr.inj h
      subst e'
      obtain ⟨w1, w2, w3⟩ := rwS_ge _ _ _ _ hn1.2 e
      obtain ⟨w4, w5⟩ := rwS_ok _ _ _ _ e (by decide) (nil0 9)
      have hp : 0 < w.2.length := List.length_pos_iff.mpr w3
      refine ⟨by dsimp only; omega, w2, ⟨h1, w4, h3, h4, h5, fun j hj => ?_, h7, h8, ?_, ?_, ?_, fun q => h12 (mk_f (k := 4) (i := 5) q (by decide)), ⟨fun q => h13.1 (mk_f (k := 4) (i := 8) q (by decide)), fun q => h13.2 (mk_f (k := 4) (i := 8) q (by decide))⟩, ⟨fun q => h14.1 (mk_f (k := 4) (i := 9) q (by decide)), fun q => h14.2 (mk_f (k := 4) (i := 9) q (by decide))⟩⟩⟩
      · obtain ⟨t, t1, t2⟩ := w5 j hj
        have t2' : pW (setW S w.2).1 j = nI t := t2
        show 0 ≤ pW (setW S w.2).1 j ∧ pW (setW S w.2).1 j ≤ 9
        rw [t2']
        exact nI_09 t1
      · show mk S 4 4 = decide (0 < w.2.length)
        rw [mk_s, decide_eq_true hp]
      · show mk S 4 6 = _
        rw [mk_o (by decide)]; exact g10
      · show mk S 4 7 = _
        rw [mk_o (by decide)]; exact h11
  · rw [if_neg (by decide), if_pos rfl] at h
    unfold lsS at h
    by_cases c1 : numS B n (nx B n a) 1 99 = 0
    · rw [if_pos c1] at h
      have e' := Sum.inr.inj h
      subst e'
      have m1 := numS_2 c1
      have hn2 := nx_ge (B := B) hn1.2
      refine ⟨by dsimp only; omega, hn2.2, ⟨h1, h2, ⟨?_, ?_⟩, h4, h5, h6, h7, h8, ?_, ?_, ?_, fun q => ?_, ⟨fun q => h13.1 (mk_f (k := 5) (i := 8) q (by decide)), fun q => h13.2 (mk_f (k := 5) (i := 8) q (by decide))⟩, ⟨fun q => h14.1 (mk_f (k := 5) (i := 9) q (by decide)), fun q => h14.2 (mk_f (k := 5) (i := 9) q (by decide))⟩⟩⟩
      · show (1 : Int32) ≤ nI (tN B n (nx B n a))
        rw [show (1 : Int32) = nI 1 from rfl, q_le (by omega) (by omega)]; omega
      · show nI (tN B n (nx B n a)) ≤ 99
        rw [show (99 : Int32) = nI 99 from rfl, q_le (by omega) (by omega)]; omega
      · show mk S 5 4 = _
        rw [mk_o (by decide)]; exact h9
      · show mk S 5 6 = _
        rw [mk_o (by decide)]; exact g10
      · show mk S 5 7 = _
        rw [mk_o (by decide)]; exact h11
      · have q' : mk S 5 5 = false := q
        rw [mk_s] at q'; exact absurd q' (by decide)
    · rw [if_neg c1] at h; exact nomatch h
  · rw [if_neg (by decide), if_neg (by decide), if_pos rfl] at h
    cases e : rwS B n 8 15 false (n - nx B n a + 1) (nx B n a) [] with
    | inl ee => rw [e] at h; exact nomatch h
    | inr w =>
      rw [e] at h
      have e' := Sum.inr.inj h
      subst e'
      obtain ⟨w1, w2, w3⟩ := rwS_ge _ _ _ _ hn1.2 e
      obtain ⟨w4, w5⟩ := rwS_ok _ _ _ _ e (by decide) (nil0 15)
      have hp : 0 < w.2.length := List.length_pos_iff.mpr w3
      refine ⟨by dsimp only; omega, w2, ⟨h1, h2, h3, w4, h5, h6, fun j hj => ?_, h8, ?_, ?_, ?_, fun q => h12 (mk_f (k := 6) (i := 5) q (by decide)), ⟨fun q => h13.1 (mk_f (k := 6) (i := 8) q (by decide)), fun q => h13.2 (mk_f (k := 6) (i := 8) q (by decide))⟩, ⟨fun q => h14.1 (mk_f (k := 6) (i := 9) q (by decide)), fun q => h14.2 (mk_f (k := 6) (i := 9) q (by decide))⟩⟩⟩
      · obtain ⟨t, t1, t2⟩ := w5 j hj
        exact ⟨t, by omega, t2⟩
      · show mk S 6 4 = _
        rw [mk_o (by decide)]; exact h9
      · show mk S 6 6 = decide (0 < w.2.length)
        rw [mk_s, decide_eq_true hp]
      · show mk S 6 7 = _
        rw [mk_o (by decide)]; exact h11
  · rw [if_neg (by decide), if_neg (by decide), if_neg (by decide), if_pos rfl] at h
    cases e : rwS B n 12 31 true (n - nx B n a + 1) (nx B n a) [] with
    | inl ee => rw [e] at h; exact nomatch h
    | inr w =>
      rw [e] at h
      have e' := Sum.inr.inj h
      subst e'
      obtain ⟨w1, w2, w3⟩ := rwS_ge _ _ _ _ hn1.2 e
      obtain ⟨w4, w5⟩ := rwS_ok _ _ _ _ e (by decide) (nil0 31)
      have hp : 0 < w.2.length := List.length_pos_iff.mpr w3
      have row : ∀ j, j < 41 → (setM S w.2).2.1 j = S.2.1 j := fun j hj => by
        show (if 41 ≤ j then _ else S.2.1 j) = _
        rw [if_neg (by omega)]
      refine ⟨by dsimp only; omega, w2, ⟨h1, h2, h3, h4, w4, h6, h7, ⟨?_, fun r hr => ?_, fun r q hr hq hne => ?_⟩, ?_, ?_, ?_, fun q => h12 (mk_f (k := 7) (i := 5) q (by decide)), ⟨fun q => h13.1 (mk_f (k := 7) (i := 8) q (by decide)), fun q => h13.2 (mk_f (k := 7) (i := 8) q (by decide))⟩, ⟨fun q => h14.1 (mk_f (k := 7) (i := 9) q (by decide)), fun q => h14.2 (mk_f (k := 7) (i := 9) q (by decide))⟩⟩⟩
      · dsimp only
        rw [row 0 (by omega)]; exact h8.1
      · have hr' : r < pR S.1 := hr
        dsimp only
        rw [row _ (by omega), row _ (by omega), row _ (by omega), row _ (by omega)]
        exact h8.2.1 r hr'
      · have hr' : r < pR S.1 := hr
        have hq' : q < pR S.1 := hq
        dsimp only
        rw [row _ (by omega), row _ (by omega)]
        exact h8.2.2 r q hr' hq' hne
      · show mk S 7 4 = _
        rw [mk_o (by decide)]; exact h9
      · show mk S 7 6 = _
        rw [mk_o (by decide)]; exact g10
      · show mk S 7 7 = decide (0 < w.2.length)
        rw [mk_s, decide_eq_true hp]
  · rw [if_neg (by decide), if_neg (by decide), if_neg (by decide), if_neg (by decide), if_pos rfl] at h
    cases e : exR B n (n - nx B n a + 1) (nx B n a) x0 with
    | inl ee => rw [e] at h; exact nomatch h
    | inr w =>
      rw [e] at h
      have e' := Sum.inr.inj h
      subst e'
      obtain ⟨w1, w2, w3, w4⟩ := exR_ge _ _ _ _ hn1.2 (xI_0 _) e
      obtain ⟨w5, w6⟩ := ex_fin w3 w4
      refine ⟨by dsimp only; omega, w2, ⟨h1, h2, h3, h4, h5, h6, h7, h8, ?_, ?_, ?_, fun q => h12 (mk_f (k := 8) (i := 5) q (by decide)), ⟨fun q => ?_, fun _ q => ?_⟩, ⟨fun q => h14.1 (mk_f (k := 8) (i := 9) q (by decide)), fun q => h14.2 (mk_f (k := 8) (i := 9) q (by decide))⟩⟩⟩
      · show mk S 8 4 = _
        rw [mk_o (by decide)]; exact h9
      · show mk S 8 6 = _
        rw [mk_o (by decide)]; exact g10
      · show mk S 8 7 = _
        rw [mk_o (by decide)]; exact h11
      · have q' : mk S 8 8 = false := q
        rw [mk_s] at q'; exact absurd q' (by decide)
      · have q' : (pwt 1 w.2.2.1 w.2.1).1 = [] := q
        rw [q'] at w5
        exact absurd (show (0 : Nat) = 1 from w5) (by decide)
  · rw [if_neg (by decide), if_neg (by decide), if_neg (by decide), if_neg (by decide), if_neg (by decide)] at h
    cases e : exR B n (n - nx B n a + 1) (nx B n a) x0 with
    | inl ee => rw [e] at h; exact nomatch h
    | inr w =>
      rw [e] at h
      have e' := Sum.inr.inj h
      subst e'
      obtain ⟨w1, w2, w3, w4⟩ := exR_ge _ _ _ _ hn1.2 (xI_0 _) e
      obtain ⟨w5, w6⟩ := ex_fin w3 w4
      refine ⟨by dsimp only; omega, w2, ⟨h1, h2, h3, h4, h5, h6, h7, h8, ?_, ?_, ?_, fun q => h12 (mk_f (k := 9) (i := 5) q (by decide)), ⟨fun q => h13.1 (mk_f (k := 9) (i := 8) q (by decide)), fun q => h13.2 (mk_f (k := 9) (i := 8) q (by decide))⟩, ⟨fun q => ?_, fun _ q => ?_⟩⟩⟩
      · show mk S 9 4 = _
        rw [mk_o (by decide)]; exact h9
      · show mk S 9 6 = _
        rw [mk_o (by decide)]; exact g10
      · show mk S 9 7 = _
        rw [mk_o (by decide)]; exact h11
      · have q' : mk S 9 9 = false := q
        rw [mk_s] at q'; exact absurd q' (by decide)
      · have q' : (pwt 1 w.2.2.1 w.2.1).1 = [] := q
        rw [q'] at w5
        exact absurd (show (0 : Nat) = 1 from w5) (by decide)
theorem leS_ok {B : Nat → Nat} {n a : Nat} {S : lS} {z : Nat × lS} (ha : a ≤ n) (ho : okS S) (h : leS B n (bdS B n a S) = .inr z) : a < z.1 ∧ z.1 ≤ n ∧ okS z.2 := by
  cases e : bdS B n a S with
  | inl ee => rw [e] at h; exact nomatch h
  | inr w =>
    rw [e] at h
    obtain ⟨w1, w2, w3⟩ := bdS_ok ha ho e
    have h' : (if sg B n w.1 59 = true then (.inr (nx B n w.1, w.2) : pO (Nat × lS)) else .inl (1, w.1)) = .inr z := h
    by_cases c : sg B n w.1 59 = true
    · rw [if_pos c] at h'
      have e' := Sum.inr.inj h'
      subst e'
      have han : w.1 < n := tK_0 (B := B) (n := n) (by unfold sg at c; have := (of_decide_eq_true c).1; omega)
      have := nx_gt (B := B) han
      exact ⟨by dsimp only; omega, this.2, w3⟩
    · rw [if_neg c] at h'; exact nomatch h'
