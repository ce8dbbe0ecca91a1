/-! the reference reads a TEXT, and takes it over -/
def plA (S : lS) (e1 e2 : eSt) : aPl := ((pR S.1, pN S.1, pL S.1, pT S.1, pC S.1), pK S.1, pW S.1, pU S.1, e1, e2)
def mTsx (I0 : mIT) (L0 : mLT) (r : pO lS) (J : mIT) (M : mLT) : Prop := mFx I0 J ∧ lF L0 M ∧ match r with
  | .inl e => J 75 14 = nI e.1 ∧ k15 e.1 ∧ J 75 15 = nI e.2
  | .inr S => J 75 14 = 0 ∧ J 75 15 = I0 75 15 ∧ okS S ∧ ∃ ce, mL J S ce
theorem m_twLoop {Fu : Nat} {I : mIT} {L : mLT} {B : Nat → Nat} {n a : Nat} {Q : Int32 × mIT × mLT → Prop} (hF : 2200 < Fu) (ht : tpe B n) (hT : mTk I L B n a) (hg : I 75 14 = 0) (hL : mL I S0 0) (k : ∀ J M, mTsx I L (twS B n (n - a + 1) a S0) J M → wp (b_X12_tower_129 Fu J M) Q) : wp (w_X12_tower_108 Fu Fu I L) Q := by
  have h700 := ht.1
  have ha := hT.2.1
  generalize hr : twS B n (n - a + 1) a S0 = r at k
  unfold w_X12_tower_108
  refine wp_loop (fun D (s : mIT × mLT) => (∃ f a' S ce, mTk s.1 s.2 B n a' ∧ s.1 75 14 = 0 ∧ s.1 75 15 = I 75 15 ∧ mL s.1 S ce ∧ ce ≤ 2 * a' ∧ okS S ∧ mFx I s.1 ∧ lF L s.2 ∧ n - a' < f ∧ twS B n f a' S = r ∧ D = n - a' + 1) ∨ (∃ e, r = .inl e ∧ s.1 75 14 = nI e.1 ∧ k15 e.1 ∧ s.1 75 15 = nI e.2 ∧ mFx I s.1 ∧ lF L s.2 ∧ D = 0)) _ ?_ Fu (n - a + 1) _ (Or.inl ⟨n - a + 1, a, S0, 0, hT, hg, rfl, hL, Nat.zero_le _, okS_0, mFx_r I, lF_r L, by omega, hr, rfl⟩) (by omega)
  rintro D ⟨J, M⟩ self hinv hself
  dsimp only at hinv
  show wp (b_X12_tower_108 Fu self J M) _
  unfold b_X12_tower_108
  rcases hinv with ⟨f, a', S, ce, hT', hg', h15, hL', hce, hok, hfx, hlf, hf, hr', hD⟩ | ⟨e, he, q1, q2, q3, q4, q5, hD⟩
  · have hK := tK_4 (B := B) (n := n) (a := a')
    have ha' := hT'.2.1
    obtain ⟨g0, rfl⟩ : ∃ g0, f = g0 + 1 := ⟨f - 1, by omega⟩
    rw [twS] at hr'
    refine wp_Be (m_good1 hg') (wp_n (by decide) ?_)
    rw [hT'.2.2.2.1]
    refine wp_i (q_eq0 (by omega)) (fun q => ?_) (fun q => ?_)
    · rw [if_pos q] at hr'
      refine k J M ?_
      rw [← hr']
      exact ⟨hfx, hlf, hg', h15, hok, ce, hL'⟩
    · rw [if_neg q] at hr'
      refine wp_B (m_line hF ht hT' hg' hL' hce hok) ?_
      rintro ⟨K, N⟩ ⟨y1, y2, y3⟩
      dsimp only at y1 y2 y3 ⊢
      cases e : leS B n (bdS B n a' S) with
      | inl ee =>
        rw [e] at y3 hr'
        exact hself 0 _ (by omega) (Or.inr ⟨ee, hr'.symm, y3.1, y3.2.1, y3.2.2, mFx_t hfx y1, lF_t hlf y2, rfl⟩)
      | inr z =>
        rw [e] at y3 hr'
        obtain ⟨z1, z2, z3⟩ := leS_ok ha' hok e
        obtain ⟨w1, w2, w3, ce', w4, w5⟩ := y3
        exact hself (n - z.1 + 1) _ (by omega) (Or.inl ⟨g0, z.1, z.2, ce', w3, w1, by dsimp only; rw [w2]; exact h15, w4, w5, z3, mFx_t hfx y1, lF_t hlf y2, by omega, hr', rfl⟩)
  · have hb : J 75 14 ≠ 0 := by
      have : J 75 14 = nI e.1 := q1
      rw [this]; exact bad_ne q2
    refine wp_Be (m_good0 hb) (wp_p rfl (k J M ?_))
    rw [he]
    exact ⟨q4, q5, q1, q2, q3⟩
/-- the plan is taken over -/
def mTo (S : lS) (e1 e2 : eSt) (J : mIT) (M : mLT) (y : Int32 × mIT × mLT) : Prop := y.1 = 0 ∧ y.2.2 = M ∧ mPl y.2.1 (plA S e1 e2) ∧ rI (plA S e1 e2) y.2.1 89 0 S.2.1 ∧ y.2.1 75 44 = 0 ∧ y.2.1 75 55 = 0 ∧ y.2.1 75 60 = 0 ∧ (∀ j, j = 0 ∨ (7 < j ∧ j ≠ 44 ∧ j ≠ 55 ∧ j ≠ 60) → y.2.1 75 j = J 75 j) ∧ ∀ c, c ≠ 75 → (c < 76 ∨ 79 < c) → c ≠ 89 → y.2.1 c = J c
theorem mEc_pl {J F : mIT} {j j' ce : Nat} {b : Bool} {out e1 : eSt} (h : mEc J j b out ce) (hb : (b = false → out = []) ∧ (b = true → out ≠ [])) (he : enc e1 = enc out) (hl : e1.length = out.length) (hj : F 75 j' = J 75 j) (h79 : ∀ i, i < 1400 → F 79 i = J 86 i) : (e1 = [] ∧ F 75 j' = -1) ∨ (e1 ≠ [] ∧ ∃ a, F 75 j' = nI a ∧ mCo F 79 a e1) := by
  unfold mEc at h
  by_cases e : b = true
  · rw [if_pos e] at h
    obtain ⟨c, h1, h2, _⟩ := h
    refine Or.inr ⟨fun q => hb.2 e ?_, c, by rw [hj]; exact h1, ?_⟩
    · rw [q] at hl
      exact List.length_eq_zero_iff.mp hl.symm
    · unfold mCo at h2 ⊢
      rw [he]
      exact ⟨h2.1, fun i hi => by rw [h79 _ (by omega)]; exact h2.2 i hi⟩
  · rw [if_neg e] at h
    have e0 := hb.1 (Bool.eq_false_iff.mpr e)
    refine Or.inl ⟨?_, by rw [hj]; exact h⟩
    rw [e0] at hl
    exact List.length_eq_zero_iff.mp hl
theorem m_185 {Fu : Nat} {J : mIT} {M : mLT} {S : lS} {ce : Nat} {e1 e2 : eSt} {s1 : Int32} (hF : 2200 < Fu) (hL : mL J S ce) (ho : okS S) (he1 : enc e1 = enc (pNo S.1)) (hl1 : e1.length = (pNo S.1).length) (he2 : enc e2 = enc (pGr S.1)) (hl2 : e2.length = (pGr S.1).length) (hs : s1 = pL S.1) : wp (b_X12_tower_185 Fu s1 (mU (mU J 75 1 (J 75 25)) 75 2 ((mU J 75 1 (J 75 25)) 75 26)) M) (mTo S e1 e2 J M) := by
  obtain ⟨l1, l2, l3, l4, l5, l6, l7, l8, l9, l10, l11, l12, l13⟩ := hL
  obtain ⟨o1, o2, o3, o4, o5, o6, o7, o8, o9, o10, o11, o12, o13, o14⟩ := ho
  unfold b_X12_tower_185
  simp only [q_Uj (show (28 : Nat) ≠ 3 by decide), q_Uj (show (28 : Nat) ≠ 2 by decide), q_Uj (show (28 : Nat) ≠ 1 by decide), q_Uj (show (26 : Nat) ≠ 1 by decide), q_Uj (show (29 : Nat) ≠ 4 by decide), q_Uj (show (29 : Nat) ≠ 3 by decide), q_Uj (show (29 : Nat) ≠ 2 by decide), q_Uj (show (29 : Nat) ≠ 1 by decide), q_Uj (show (30 : Nat) ≠ 5 by decide), q_Uj (show (30 : Nat) ≠ 4 by decide), q_Uj (show (30 : Nat) ≠ 3 by decide), q_Uj (show (30 : Nat) ≠ 2 by decide), q_Uj (show (30 : Nat) ≠ 1 by decide), q_Uj (show (31 : Nat) ≠ 6 by decide), q_Uj (show (31 : Nat) ≠ 5 by decide), q_Uj (show (31 : Nat) ≠ 4 by decide), q_Uj (show (31 : Nat) ≠ 3 by decide), q_Uj (show (31 : Nat) ≠ 2 by decide), q_Uj (show (31 : Nat) ≠ 1 by decide)]
  generalize hK : mU (mU (mU (mU (mU (mU (mU J 75 1 (J 75 25)) 75 2 (J 75 26)) 75 3 s1) 75 4 (J 75 28)) 75 5 (J 75 29)) 75 6 (J 75 30)) 75 7 (J 75 31) = K
  have kc : ∀ c, c ≠ 75 → K c = J c := fun c hc => by rw [← hK, mU_other hc, mU_other hc, mU_other hc, mU_other hc, mU_other hc, mU_other hc, mU_other hc]
  have k0 : ∀ j, j = 0 ∨ 7 < j → K 75 j = J 75 j := fun j hj => by rw [← hK, q_Uj (by omega), q_Uj (by omega), q_Uj (by omega), q_Uj (by omega), q_Uj (by omega), q_Uj (by omega), q_Uj (by omega)]
  have k1 : K 75 1 = J 75 25 := by rw [← hK, q_Uj (by decide), q_Uj (by decide), q_Uj (by decide), q_Uj (by decide), q_Uj (by decide), q_Uj (by decide), q_U]
  have k2 : K 75 2 = J 75 26 := by rw [← hK, q_Uj (by decide), q_Uj (by decide), q_Uj (by decide), q_Uj (by decide), q_Uj (by decide), q_U]
  have k3 : K 75 3 = s1 := by rw [← hK, q_Uj (by decide), q_Uj (by decide), q_Uj (by decide), q_Uj (by decide), q_U]
  have k4 : K 75 4 = J 75 28 := by rw [← hK, q_Uj (by decide), q_Uj (by decide), q_Uj (by decide), q_U]
  have k5 : K 75 5 = J 75 29 := by rw [← hK, q_Uj (by decide), q_Uj (by decide), q_U]
  have k6 : K 75 6 = J 75 30 := by rw [← hK, q_Uj (by decide), q_U]
  have k7 : K 75 7 = J 75 31 := by rw [← hK, q_U]
  refine wp_B (m_copies (k1 := 82) (k2 := 76) (n := 10) (m := 10) rfl rfl (Nat.le_refl _) (by omega) (by decide) (by omega)) ?_
  rintro C1 ⟨a1, b1⟩
  refine wp_B (m_copies (k1 := 83) (k2 := 77) (n := 10) (m := 10) rfl rfl (Nat.le_refl _) (by omega) (by decide) (by omega)) ?_
  rintro C2 ⟨a2, b2⟩
  refine wp_B (m_copies (k1 := 84) (k2 := 78) (n := 8) (m := 8) rfl rfl (Nat.le_refl _) (by omega) (by decide) (by omega)) ?_
  rintro C3 ⟨a3, b3⟩
  refine wp_B (m_copies (k1 := 86) (k2 := 79) (n := 1400) (m := 1400) rfl rfl (Nat.le_refl _) (by omega) (by decide) (by omega)) ?_
  rintro C4 ⟨a4, b4⟩
  have d75 : C4 75 = K 75 := by rw [b4 75 (by decide), b3 75 (by decide), b2 75 (by decide), b1 75 (by decide)]
  have d76 : ∀ j, j < 10 → C4 76 j = J 82 j := fun j hj => by rw [b4 76 (by decide), b3 76 (by decide), b2 76 (by decide), a1 j hj, kc 82 (by decide)]
  have d77 : ∀ j, j < 10 → C4 77 j = J 83 j := fun j hj => by rw [b4 77 (by decide), b3 77 (by decide), a2 j hj, b1 83 (by decide), kc 83 (by decide)]
  have d78 : ∀ j, j < 8 → C4 78 j = J 84 j := fun j hj => by rw [b4 78 (by decide), a3 j hj, b2 84 (by decide), b1 84 (by decide), kc 84 (by decide)]
  have d79 : ∀ j, j < 1400 → C4 79 j = J 86 j := fun j hj => by rw [a4 j hj, b3 86 (by decide), b2 86 (by decide), b1 86 (by decide), kc 86 (by decide)]
  have dc : ∀ c, c ≠ 75 → (c < 76 ∨ 79 < c) → C4 c = J c := fun c a b => by rw [b4 c (by omega), b3 c (by omega), b2 c (by omega), b1 c (by omega), kc c a]
  unfold w_X12_tower_270
  refine wp_loop (fun dd (s : Int32 × mIT × mLT) => ∃ (i : Nat), s.1 = nI i ∧ s.2.2 = M ∧ dd = 53 - i ∧ i ≤ 53 ∧ (∀ j, j < i → s.2.1 89 j = J 85 j) ∧ ∀ c, c ≠ 89 → s.2.1 c = C4 c) _ ?_ Fu 53 _ ⟨0, rfl, rfl, rfl, by omega, fun j hj => absurd hj (by omega), fun _ _ => rfl⟩ (by omega)
  rintro dd ⟨v, P, N⟩ self ⟨i, e1', e2', hdd, hi, f1, f2⟩ hself
  dsimp only at e1' e2' f1 f2
  subst e1' e2'
  show wp (b_X12_tower_270 Fu self (nI i) P N) _
  unfold b_X12_tower_270
  rw [show (53 : Int32) = nI 53 from rfl]
  refine wp_i (by rw [q_le (by omega) (by omega)]) (fun e => ?_) (fun e => ?_)
  · have p75 : P 75 = K 75 := by rw [f2 75 (by decide), d75]
    generalize hE : mU (mU (mU P 75 44 0) 75 55 0) 75 60 0 = E
    have e5 : ∀ j, j ≠ 44 → j ≠ 55 → j ≠ 60 → E 75 j = K 75 j := fun j a b c => by rw [← hE, q_Uj c, q_Uj b, q_Uj a, p75]
    have ec : ∀ c, c ≠ 75 → E c = P c := fun c hc => by rw [← hE, mU_other hc, mU_other hc, mU_other hc]
    have e79 : ∀ j, j < 1400 → E 79 j = J 86 j := fun j hj => by rw [ec 79 (by decide), f2 79 (by decide)]; exact d79 j hj
    refine wp_s ⟨rfl, rfl, ⟨?_, ?_, ?_, ?_, ?_, fun r hr => ?_, fun j hj => ?_, fun j hj => ?_, ?_, ?_⟩, fun j hj => ?_, ?_, ?_, ?_, fun j hj => ?_, fun c c1 c2 c3 => ?_⟩
    · dsimp only
      rw [e5 1 (by decide) (by decide) (by decide), k1]; exact l1
    · dsimp only
      rw [e5 2 (by decide) (by decide) (by decide), k2]; exact l2
    · dsimp only
      rw [e5 3 (by decide) (by decide) (by decide), k3]; exact hs
    · dsimp only
      rw [e5 4 (by decide) (by decide) (by decide), k4]; exact l4
    · dsimp only
      rw [e5 5 (by decide) (by decide) (by decide), k5]; exact l5
    · have hr' : r < pR S.1 := hr
      dsimp only
      rw [ec 76 (by decide), f2 76 (by decide), d76 r (by omega)]; exact l6 r hr'
    · have hj' : j < pN S.1 := hj
      dsimp only
      rw [ec 77 (by decide), f2 77 (by decide), d77 j (by omega)]; exact l7 j hj'
    · have hj' : j < pT S.1 := hj
      dsimp only
      rw [ec 78 (by decide), f2 78 (by decide), d78 j (by omega)]; exact l8 j hj'
    · exact mEc_pl l10 o13 he1 hl1 (by dsimp only; rw [e5 6 (by decide) (by decide) (by decide), k6]) e79
    · exact mEc_pl l11 o14 he2 hl2 (by dsimp only; rw [e5 7 (by decide) (by decide) (by decide), k7]) e79
    · have hj' : live S.1 j := hj
      have q : j < 53 := by unfold live at hj'; omega
      dsimp only
      rw [ec 89 (by decide), Nat.zero_add, f1 j (by omega)]
      have := l9 j hj'
      rw [Nat.zero_add] at this
      exact this
    · dsimp only
      rw [← hE, q_Uj (by decide), q_Uj (by decide), q_U]
    · dsimp only
      rw [← hE, q_Uj (by decide), q_U]
    · dsimp only
      rw [← hE, q_U]
    · dsimp only
      rw [← k0 j (by omega)]
      by_cases q : j = 0
      · rw [q, e5 0 (by decide) (by decide) (by decide)]
      · exact e5 j (by omega) (by omega) (by omega)
    · dsimp only
      rw [ec c c1, f2 c c3, dc c c1 c2]
  · rw [q_GI (by omega) (by omega), q_GI (by omega) (by omega), q_cl (by omega), q_1]
    refine hself (53 - (i + 1)) _ (by omega) ⟨i + 1, rfl, rfl, rfl, by omega, fun j hj => ?_, fun c hc => by dsimp only; rw [mU_other hc]; exact f2 c hc⟩
    dsimp only
    by_cases e2 : j = i
    · subst e2
      rw [q_U, f2 85 (by decide), dc 85 (by decide) (by omega)]
    · rw [q_Uj e2]; exact f1 j (by omega)
theorem m_129 {Fu : Nat} {J : mIT} {M : mLT} {S : lS} {ce : Nat} {e1 e2 : eSt} (hF : 2200 < Fu) (hg : J 75 14 = 0) (hL : mL J S ce) (ho : okS S) (he1 : enc e1 = enc (pNo S.1)) (hl1 : e1.length = (pNo S.1).length) (he2 : enc e2 = enc (pGr S.1)) (hl2 : e2.length = (pGr S.1).length) : wp (b_X12_tower_129 Fu J M) (mTo S e1 e2 J M) := by
  have l3 := hL.2.2.1
  unfold b_X12_tower_129
  refine wp_Be (m_good1 hg) (wp_n (by decide) ?_)
  have e27 : (mU (mU J 75 1 (J 75 25)) 75 2 ((mU J 75 1 (J 75 25)) 75 26)) 75 27 = J 75 27 := by rw [q_Uj (by decide), q_Uj (by decide)]
  rw [e27, l3]
  by_cases q : S.2.2 5 = true
  · rw [if_pos q]
    refine wp_n (fun e => ?_) (m_185 hF hL ho he1 hl1 he2 hl2 rfl)
    have := ho.2.2.1.1
    rw [e] at this
    exact absurd this (by decide)
  · rw [if_neg q]
    exact wp_p rfl (m_185 hF hL ho he1 hl1 he2 hl2 (ho.2.2.2.2.2.2.2.2.2.2.2.1 (Bool.eq_false_iff.mpr q)).symm)
