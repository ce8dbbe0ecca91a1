/-! what an act does to the row -/
def rU (row : Nat → Int32) (j : Nat) (v : Int32) : Nat → Int32 := fun i => if i = j then v else row i
theorem rU_s {row : Nat → Int32} {j : Nat} {v : Int32} : rU row j v j = v := if_pos rfl
theorem rU_n {row : Nat → Int32} {i j : Nat} {v : Int32} (h : i ≠ j) : rU row j v i = row i := if_neg h
theorem rI_U {A : aPl} {I : mIT} {c j : Nat} {row : Nat → Int32} {v : Int32} (h : rI A I c 0 row) : rI A (mU I c j v) c 0 (rU row j v) := fun i hi => by
  rw [Nat.zero_add]
  by_cases e : i = j
  · subst e; rw [q_U, rU_s]
  · rw [q_Uj e, rU_n e]; exact r0 h hi
theorem okR_pl {A : aPl} {D r : Nat} {row : Nat → Int32} {v : Int32} (ho : okPl A) (h : okR A D row) (hr : r < pR A) (hv : v = -1 ∨ v = -2 ∨ ∃ k, k < 6 ∧ v = nI k) (hd : 0 ≤ v → ∀ q, q < pR A → q ≠ r → row (31 + q) ≠ v) : okR A D (rU row (31 + r) v) := by
  have h10 := ho.1
  obtain ⟨⟨d, d1, d2⟩, h2, h3⟩ := h
  refine ⟨⟨d, by rw [rU_n (by omega)]; exact d1, d2⟩, fun q hq => ?_, fun a b ha hb hab h0 => ?_⟩
  · obtain ⟨s, hh, f, g1, g2, g3, g4, g5, g6, g7, g8⟩ := h2 q hq
    refine ⟨s, hh, f, by rw [rU_n (by omega)]; exact g1, by rw [rU_n (by omega)]; exact g2, by rw [rU_n (by omega)]; exact g3, g4, g5, g6, g7, ?_⟩
    by_cases e : q = r
    · subst e; rw [rU_s]; exact hv
    · rw [rU_n (by omega)]; exact g8
  · by_cases e : a = r
    · subst e
      rw [rU_s] at h0 ⊢
      rw [rU_n (by omega)]
      exact fun q => hd h0 b hb (by omega) q.symm
    · rw [rU_n (by omega)] at h0 ⊢
      by_cases e2 : b = r
      · subst e2
        rw [rU_s]
        exact fun q => hd (q ▸ h0) a ha e q
      · rw [rU_n (by omega)]
        exact h3 a b ha hb hab h0
theorem okR_ho {A : aPl} {D r s m : Nat} {row : Nat → Int32} (ho : okPl A) (h : okR A D row) (hr : r < pR A) (hs : row (1 + r) = nI s) (hs6 : s ≤ 60) (h20 : m ≤ 20) (hms : m < s) : okR A D (rU row (11 + r) (nI m)) := by
  have h10 := ho.1
  obtain ⟨⟨d, d1, d2⟩, h2, h3⟩ := h
  refine ⟨⟨d, by rw [rU_n (by omega)]; exact d1, d2⟩, fun q hq => ?_, fun a b ha hb hab h0 => ?_⟩
  · obtain ⟨s', hh, f, g1, g2, g3, g4, g5, g6, g7, g8⟩ := h2 q hq
    by_cases e : q = r
    · subst e
      exact ⟨s, m, f, by rw [rU_n (by omega)]; exact hs, rU_s, by rw [rU_n (by omega)]; exact g3, hs6, h20, hms, g7, by rw [rU_n (by omega)]; exact g8⟩
    · exact ⟨s', hh, f, by rw [rU_n (by omega)]; exact g1, by rw [rU_n (by omega)]; exact g2, by rw [rU_n (by omega)]; exact g3, g4, g5, g6, g7, by rw [rU_n (by omega)]; exact g8⟩
  · rw [rU_n (by omega)] at h0 ⊢
    rw [rU_n (by omega)]
    exact h3 a b ha hb hab h0
theorem okR_ch {A : aPl} {D j : Nat} {row : Nat → Int32} {v : Int32} (ho : okPl A) (h : okR A D row) : okR A D (rU row (41 + j) v) := by
  have h10 := ho.1
  obtain ⟨⟨d, d1, d2⟩, h2, h3⟩ := h
  refine ⟨⟨d, by rw [rU_n (by omega)]; exact d1, d2⟩, fun q hq => ?_, fun a b ha hb hab h0 => ?_⟩
  · obtain ⟨s', hh, f, g1, g2, g3, g4, g5, g6, g7, g8⟩ := h2 q hq
    exact ⟨s', hh, f, by rw [rU_n (by omega)]; exact g1, by rw [rU_n (by omega)]; exact g2, by rw [rU_n (by omega)]; exact g3, g4, g5, g6, g7, by rw [rU_n (by omega)]; exact g8⟩
  · rw [rU_n (by omega)] at h0 ⊢
    rw [rU_n (by omega)]
    exact h3 a b ha hb hab h0
theorem okR_D {A : aPl} {D d : Nat} {row : Nat → Int32} (h : okR A D row) (hd : row 0 = nI d) : okR A d row := ⟨⟨d, hd, Nat.le_refl d⟩, h.2⟩
theorem okR_W {A : aPl} {D E : Nat} {row : Nat → Int32} (h : okR A D row) (hd : D ≤ E) : okR A E row := by
  obtain ⟨⟨d, d1, d2⟩, h2⟩ := h
  exact ⟨⟨d, d1, by omega⟩, h2⟩
theorem sFi_m {p : Nat → Bool} : ∀ k i, i + k < 1000 → (sFi p i k = -1 ↔ ∀ q, i ≤ q → q < i + k → p q = false)
  | 0, i, _ => ⟨fun _ q h1 h2 => absurd h2 (by omega), fun _ => rfl⟩
  | k + 1, i, h => by
    rw [sFi_s]
    by_cases e : p i = true
    · rw [if_pos e]
      constructor
      · intro q; exact absurd q (nI_nem1 (by omega))
      · intro q; rw [q i (by omega) (by omega)] at e; exact nomatch e
    · rw [if_neg e, sFi_m k (i + 1) (by omega)]
      constructor
      · intro q j j1 j2
        by_cases e2 : j = i
        · subst e2; exact Bool.eq_false_iff.mpr e
        · exact q j (by omega) (by omega)
      · intro q j j1 j2; exact q j (by omega) (by omega)
theorem mkB_0 {p : Nat → Bool} : mkB p 10 = 0 ↔ ∀ q, q < 10 → p q = false := by
  constructor
  · intro h q hq
    have := b_mkB (p := p) (n := 10) (i := q) (by omega) (by omega)
    rw [h, decide_eq_true hq, Bool.true_and] at this
    rw [← this]
    unfold bt
    exact BitVec.getLsbD_zero
  · intro h
    apply b_ext
    intro i hi
    rw [b_mkB (by omega) hi]
    have e : bt 0 i = false := by
      unfold bt
      exact BitVec.getLsbD_zero
    rw [e]
    by_cases e2 : i < 10
    · rw [h i e2, Bool.and_false]
    · rw [decide_eq_false e2, Bool.false_and]
/-! an act, class and reference -/
def mF (J K : mIT) : Prop := ∀ c j, kM c j = true → c ≠ 90 → c ≠ 89 → (c = 75 → j ≠ 0 ∧ j ≠ 44) → K c j = J c j
def aC (I : mIT) (p : Nat) (A : aPl) (row : Nat → Int32) (na : Nat) (ac : Nat → Nat → Int32) (J : mIT) : Prop := cAc J 42 A na ac ∧ J 56 4 = 0 ∧ J 66 4 = 0 ∧ rI A J 41 0 row ∧ ∀ c, c ≠ 41 → c ≠ 42 → c ≠ 43 → c ≠ 56 → c ≠ 66 → c ≠ p + 8 → c ≠ p + 9 → c ≠ p + 14 → c ≠ p + 15 → J c = I c
def aM (J : mIT) (A : aPl) (row : Nat → Int32) (na : Nat) (ac : Nat → Nat → Int32) (K : mIT) : Prop := mAc K 44 90 A na ac ∧ rI A K 89 0 row ∧ mF J K
theorem pic_act {I J K : mIT} {R : mRT} {p n : Nat} {A : aPl} {row row' : Nat → Int32} {na na' : Nat} {ac ac' : Nat → Nat → Int32} {hl : hLs} (hp : pic I R p n A row na ac hl) (hr : okR A 999 row') (hA : okA A na' ac') (h1 : aC I p A row' na' ac' J) (h2 : aM J A row' na' ac' K) : pic K R p 0 A row' na' ac' hl := by
  obtain ⟨hW, hq0, ho, hk, _, hH, hc, hf, hm, hX, hI, hT⟩ := hp
  obtain ⟨c1, c2, c3, c4, c5⟩ := h1
  obtain ⟨m1, m2, m3⟩ := h2
  have hpp := hc.2.1
  have g : ∀ c, (c < 75 ∨ (76 ≤ c ∧ c ≤ 81) ∨ c = 99 ∨ (102 ≤ c ∧ c ≤ 105)) → K c = J c := fun c hc => funext fun j => m3 c j (kM_lt (by omega)) (by omega) (by omega) (by omega)
  have g5 : ∀ j, kM 75 j = true → j ≠ 0 → j ≠ 44 → K 75 j = J 75 j := fun j h1 h2 h3 => m3 75 j h1 (by omega) (by omega) (fun _ => ⟨h2, h3⟩)
  have i5 : J 75 = I 75 := c5 75 (by omega) (by omega) (by omega) (by omega) (by omega) (by omega) (by omega) (by omega) (by omega)
  have k : ∀ c, (c < 75 ∨ (76 ≤ c ∧ c ≤ 81) ∨ c = 99 ∨ (102 ≤ c ∧ c ≤ 105)) → c ≠ 41 → c ≠ 42 → c ≠ 43 → c ≠ 56 → c ≠ 66 → c ≠ p + 8 → c ≠ p + 9 → c ≠ p + 14 → c ≠ p + 15 → K c = I c := fun c h1 a1 a2 a3 a4 a5 a6 a7 a8 a9 => by rw [g c h1, c5 c a1 a2 a3 a4 a5 a6 a7 a8 a9]
  have k' : ∀ c, (c ≤ 2 ∨ c = 21 ∨ (44 ≤ c ∧ c ≤ 55) ∨ (76 ≤ c ∧ c ≤ 81) ∨ c = 99 ∨ (102 ≤ c ∧ c ≤ 105)) → K c = I c := fun c h1 => k c (by omega) (by omega) (by omega) (by omega) (by omega) (by omega) (by omega) (by omega) (by omega) (by omega)
  have k5 : ∀ j, kM 75 j = true → j ≠ 0 → j ≠ 44 → K 75 j = I 75 j := fun j h1 h2 h3 => by rw [g5 j h1 h2 h3, i5]
  refine ⟨hW, hq0, ho, hr, hA, hH, ⟨hc.1, hpp, cPl_fr hc.2.2.1 (fun c a1 a2 a3 a4 a5 a6 => k c (by omega) (by omega) (by omega) (by omega) (by omega) (by omega) a3 a4 a5 a6), ?_, ?_⟩, Or.inl (by rw [g 66 (by omega)]; exact c3), ?_, ?_, ?_, ?_⟩
  · intro j hj
    rw [g 41 (by omega)]
    exact c4 j hj
  · exact ⟨by rw [g 56 (by omega)]; exact c2, by omega, fun q => absurd q (by omega), fun k hk => absurd hk (by omega)⟩
  · exact ⟨mPl_fr hm.1 (fun j j1 j2 => k5 j (kM_75 (by omega)) (by omega) (by omega)) (k' 76 (by omega)) (k' 77 (by omega)) (k' 78 (by omega)) (k' 79 (by omega)), m2, by rw [k5 47 rfl (by omega) (by omega)]; exact hm.2.2⟩
  · refine ⟨?_, m1, ?_, ?_⟩
    · unfold cAc rI at c1 ⊢
      rw [g 42 (by omega), g (42 + 1) (by omega)]
      exact c1
    · have := hX.2.2.1
      unfold cH at this ⊢
      rw [k' 44 (by omega), k' (44 + 1) (by omega), k' (44 + 2) (by omega), k' (44 + 3) (by omega)]
      exact this
    · have := hX.2.2.2
      unfold mH at this ⊢
      rw [k5 55 rfl (by omega) (by omega), k' 99 (by omega)]
      exact this
  · exact gI_k (by rw [k' 0 (by omega)]) (fun c a1 a2 => k' c (by omega)) (k' 102 (by omega)) (k' 103 (by omega)) (k' 104 (by omega)) (k5 60 rfl (by omega) (by omega)) (k5 61 rfl (by omega) (by omega)) (k5 62 rfl (by omega) (by omega)) hI
  · exact gT_k (by rw [k' 0 (by omega)]) (by rw [k' 1 (by omega)]) (k' 2 (by omega)) (k' 21 (by omega)) (k' 80 (by omega)) (k' 81 (by omega)) (k5 13 rfl (by omega) (by omega)) (k5 15 rfl (by omega) (by omega)) hT
/-- an act refused -/
theorem pic_ref {I : mIT} {R : mRT} {p n k : Nat} {A : aPl} {row : Nat → Int32} {na : Nat} {ac : Nat → Nat → Int32} {hl : hLs} (hp : pic I R p n A row na ac hl) : pic (mU (mU (mU I 21 k (I 21 k + 1)) 75 0 0) 81 k (I 81 k + 1)) R p n A row na ac hl := by
  obtain ⟨hW, hq0, ho, hk, hA, hH, hc, hf, hm, hX, hI, hT⟩ := hp
  generalize hK : mU (mU (mU I 21 k (I 21 k + 1)) 75 0 0) 81 k (I 81 k + 1) = K
  have g : ∀ c, c ≠ 21 → c ≠ 75 → c ≠ 81 → K c = I c := fun c a b d => by rw [← hK, mU_other d, mU_other b, mU_other a]
  have g5 : ∀ j, j ≠ 0 → K 75 j = I 75 j := fun j hj => by rw [← hK, mU_other (by decide), q_Uj hj, mU_other (by decide)]
  have hpp := hc.2.1
  refine ⟨hW, hq0, ho, hk, hA, hH, ⟨hc.1, hpp, cPl_fr hc.2.2.1 (fun c a1 a2 _ _ _ _ => ?_), fun j hj => by rw [g 41 (by decide) (by decide) (by decide)]; exact hc.2.2.2.1 j hj, cCo_f hc.2.2.2.2 (fun c a1 a2 => g c (by omega) (by omega) (by omega))⟩, cFv_f hf (fun c a1 a2 => g c (by omega) (by omega) (by omega)), ?_, gX_k (fun c a1 a2 => g c (by omega) (by omega) (by omega)) (g 90 (by omega) (by omega) (by omega)) (g 99 (by omega) (by omega) (by omega)) (g5 44 (by omega)) (g5 55 (by omega)) hX, gI_k (by rw [g 0 (by omega) (by omega) (by omega)]) (fun c a1 a2 => g c (by omega) (by omega) (by omega)) (g 102 (by omega) (by omega) (by omega)) (g 103 (by omega) (by omega) (by omega)) (g 104 (by omega) (by omega) (by omega)) (g5 60 (by omega)) (g5 61 (by omega)) (g5 62 (by omega)) hI, ?_⟩
  · exact g c (by omega) (by omega) (by omega)
  · exact ⟨mPl_fr hm.1 (fun j j1 j2 => g5 j (by omega)) (g 76 (by omega) (by omega) (by omega)) (g 77 (by omega) (by omega) (by omega)) (g 78 (by omega) (by omega) (by omega)) (g 79 (by omega) (by omega) (by omega)), fun j hj => by rw [g 89 (by omega) (by omega) (by omega)]; exact hm.2.1 j hj, by rw [g5 47 (by omega)]; exact hm.2.2⟩
  · obtain ⟨t1, t2, t3⟩ := hT
    refine ⟨by rw [g 1 (by omega) (by omega) (by omega), g5 13 (by omega), g 2 (by omega) (by omega) (by omega), g 80 (by omega) (by omega) (by omega)]; exact t1, by rw [g 0 (by omega) (by omega) (by omega), g5 15 (by omega)]; exact t2, fun j hj => ?_⟩
    rw [← hK, q_Uc (by decide), q_Uc (by decide)]
    by_cases e : j = k
    · subst e
      rw [q_U, q_U, t3 j hj]
    · rw [q_Uj e, q_Uj e, mU_other (by decide), mU_other (by decide)]
      exact t3 j hj
