/-! the reference reads a line -/
theorem mL_s {I J : mIT} {S : lS} {ce : Nat} (h : mL I S ce) (f : mTf I J) : mL J S ce := by
  obtain ⟨l1, l2, l3, l4, l5, l6, l7, l8, l9, l10, l11, l12, l13⟩ := h
  unfold mL rI
  rw [f.1 25 (by omega), f.1 26 (by omega), f.1 27 (by omega), f.1 28 (by omega), f.1 29 (by omega), f.1 32 (by omega), f.2 82 (by decide), f.2 83 (by decide), f.2 84 (by decide), f.2 85 (by decide)]
  exact ⟨l1, l2, l3, l4, l5, l6, l7, l8, l9, mE_k l10 (Nat.le_refl _) (f.1 30 (by omega)) (fun i _ => by rw [f.2 86 (by decide)]), mE_k l11 (Nat.le_refl _) (f.1 31 (by omega)) (fun i _ => by rw [f.2 86 (by decide)]), l12, l13⟩
theorem mL_W {I J : mIT} {S : lS} {ce : Nat} {l : List Int32} (h : mL I S ce) (f : mRoF 83 0 I J) (hv : ∀ j, j < l.length → J 83 (0 + j) = l.getD j 0) : mL (mU J 75 26 (nI l.length)) (setW S l) ce := by
  obtain ⟨l1, l2, l3, l4, l5, l6, l7, l8, l9, l10, l11, l12, l13⟩ := h
  have o : ∀ j, j ≠ 26 → 23 < j → (mU J 75 26 (nI l.length)) 75 j = I 75 j := fun j a b => by rw [q_Uj a]; exact f.1 j (by omega)
  have oc : ∀ c, c ≠ 75 → c ≠ 83 → (mU J 75 26 (nI l.length)) c = I c := fun c a b => by rw [mU_other a]; exact f.2.2 c a b
  refine ⟨?_, q_U _ _ _ _, ?_, ?_, ?_, fun r hr => ?_, fun j hj => ?_, fun j hj => ?_, fun j hj => ?_, ?_, ?_, ?_, l13⟩
  · rw [o 25 (by decide) (by decide)]; exact l1
  · show _ = if mk S 4 5 = true then pL S.1 else -1
    rw [mk_o (by decide), o 27 (by decide) (by decide)]; exact l3
  · rw [o 28 (by decide) (by decide)]; exact l4
  · rw [o 29 (by decide) (by decide)]; exact l5
  · rw [oc 82 (by decide) (by decide)]; exact l6 r hr
  · have := hv j hj
    rw [Nat.zero_add] at this
    rw [mU_other (by decide)]; exact this
  · rw [oc 84 (by decide) (by decide)]; exact l8 j hj
  · rw [oc 85 (by decide) (by decide)]; exact l9 j hj
  · show mEc _ 30 (mk S 4 8) (pNo S.1) ce
    rw [mk_o (by decide)]
    exact mE_k l10 (Nat.le_refl _) (o 30 (by decide) (by decide)) (fun i _ => by rw [oc 86 (by decide) (by decide)])
  · show mEc _ 31 (mk S 4 9) (pGr S.1) ce
    rw [mk_o (by decide)]
    exact mE_k l11 (Nat.le_refl _) (o 31 (by decide) (by decide)) (fun i _ => by rw [oc 86 (by decide) (by decide)])
  · rw [o 32 (by decide) (by decide)]; exact l12
theorem mL_U {I J : mIT} {S : lS} {ce : Nat} {l : List Int32} (h : mL I S ce) (f : mRoF 84 0 I J) (hv : ∀ j, j < l.length → J 84 (0 + j) = l.getD j 0) : mL (mU J 75 28 (nI l.length)) (setU S l) ce := by
  obtain ⟨l1, l2, l3, l4, l5, l6, l7, l8, l9, l10, l11, l12, l13⟩ := h
  have o : ∀ j, j ≠ 28 → 23 < j → (mU J 75 28 (nI l.length)) 75 j = I 75 j := fun j a b => by rw [q_Uj a]; exact f.1 j (by omega)
  have oc : ∀ c, c ≠ 75 → c ≠ 84 → (mU J 75 28 (nI l.length)) c = I c := fun c a b => by rw [mU_other a]; exact f.2.2 c a b
  refine ⟨?_, ?_, ?_, q_U _ _ _ _, ?_, fun r hr => ?_, fun j hj => ?_, fun j hj => ?_, fun j hj => ?_, ?_, ?_, ?_, l13⟩
  · rw [o 25 (by decide) (by decide)]; exact l1
  · rw [o 26 (by decide) (by decide)]; exact l2
  · show _ = if mk S 6 5 = true then pL S.1 else -1
    rw [mk_o (by decide), o 27 (by decide) (by decide)]; exact l3
  · rw [o 29 (by decide) (by decide)]; exact l5
  · rw [oc 82 (by decide) (by decide)]; exact l6 r hr
  · rw [oc 83 (by decide) (by decide)]; exact l7 j hj
  · have := hv j hj
    rw [Nat.zero_add] at this
    rw [mU_other (by decide)]; exact this
  · rw [oc 85 (by decide) (by decide)]; exact l9 j hj
  · show mEc _ 30 (mk S 6 8) (pNo S.1) ce
    rw [mk_o (by decide)]
    exact mE_k l10 (Nat.le_refl _) (o 30 (by decide) (by decide)) (fun i _ => by rw [oc 86 (by decide) (by decide)])
  · show mEc _ 31 (mk S 6 9) (pGr S.1) ce
    rw [mk_o (by decide)]
    exact mE_k l11 (Nat.le_refl _) (o 31 (by decide) (by decide)) (fun i _ => by rw [oc 86 (by decide) (by decide)])
  · rw [o 32 (by decide) (by decide)]; exact l12
theorem mL_M {I J : mIT} {S : lS} {ce : Nat} {l : List Int32} (h : mL I S ce) (h10 : pR S.1 ≤ 10) (f : mRoF 85 41 I J) (hv : ∀ j, j < l.length → J 85 (41 + j) = l.getD j 0) : mL (mU J 75 29 (nI l.length)) (setM S l) ce := by
  obtain ⟨l1, l2, l3, l4, l5, l6, l7, l8, l9, l10, l11, l12, l13⟩ := h
  have o : ∀ j, j ≠ 29 → 23 < j → (mU J 75 29 (nI l.length)) 75 j = I 75 j := fun j a b => by rw [q_Uj a]; exact f.1 j (by omega)
  have oc : ∀ c, c ≠ 75 → c ≠ 85 → (mU J 75 29 (nI l.length)) c = I c := fun c a b => by rw [mU_other a]; exact f.2.2 c a b
  refine ⟨?_, ?_, ?_, ?_, q_U _ _ _ _, fun r hr => ?_, fun j hj => ?_, fun j hj => ?_, fun j hj => ?_, ?_, ?_, ?_, l13⟩
  · rw [o 25 (by decide) (by decide)]; exact l1
  · rw [o 26 (by decide) (by decide)]; exact l2
  · show _ = if mk S 7 5 = true then pL S.1 else -1
    rw [mk_o (by decide), o 27 (by decide) (by decide)]; exact l3
  · rw [o 28 (by decide) (by decide)]; exact l4
  · rw [oc 82 (by decide) (by decide)]; exact l6 r hr
  · rw [oc 83 (by decide) (by decide)]; exact l7 j hj
  · rw [oc 84 (by decide) (by decide)]; exact l8 j hj
  · have q1 : pR (setM S l).1 = pR S.1 := rfl
    have q2 : pC (setM S l).1 = l.length := rfl
    unfold live at hj
    rw [q1, q2] at hj
    rw [mU_other (by decide), Nat.zero_add]
    show _ = if 41 ≤ j then l.getD (j - 41) 0 else S.2.1 j
    by_cases e : 41 ≤ j
    · rw [if_pos e]
      have := hv (j - 41) (by omega)
      rw [show 41 + (j - 41) = j by omega] at this
      exact this
    · rw [if_neg e, f.2.1 j (by omega)]
      have := l9 j (by unfold live; omega)
      rw [Nat.zero_add] at this
      exact this
  · show mEc _ 30 (mk S 7 8) (pNo S.1) ce
    rw [mk_o (by decide)]
    exact mE_k l10 (Nat.le_refl _) (o 30 (by decide) (by decide)) (fun i _ => by rw [oc 86 (by decide) (by decide)])
  · show mEc _ 31 (mk S 7 9) (pGr S.1) ce
    rw [mk_o (by decide)]
    exact mE_k l11 (Nat.le_refl _) (o 31 (by decide) (by decide)) (fun i _ => by rw [oc 86 (by decide) (by decide)])
  · rw [o 32 (by decide) (by decide)]; exact l12
theorem mL_L {J : mIT} {S : lS} {ce : Nat} {v : Int32} (h : mL J S ce) : mL (mU J 75 27 v) (setL S v) ce := by
  obtain ⟨l1, l2, l3, l4, l5, l6, l7, l8, l9, l10, l11, l12, l13⟩ := h
  have oc : ∀ c, c ≠ 75 → (mU J 75 27 v) c = J c := fun c a => mU_other a
  refine ⟨?_, ?_, ?_, ?_, ?_, fun r hr => ?_, fun j hj => ?_, fun j hj => ?_, fun j hj => ?_, ?_, ?_, ?_, l13⟩
  · rw [q_Uj (by decide)]; exact l1
  · rw [q_Uj (by decide)]; exact l2
  · show _ = if mk S 5 5 = true then v else -1
    rw [mk_s, if_pos rfl, q_U]
  · rw [q_Uj (by decide)]; exact l4
  · rw [q_Uj (by decide)]; exact l5
  · rw [oc 82 (by decide)]; exact l6 r hr
  · rw [oc 83 (by decide)]; exact l7 j hj
  · rw [oc 84 (by decide)]; exact l8 j hj
  · rw [oc 85 (by decide)]; exact l9 j hj
  · show mEc _ 30 (mk S 5 8) (pNo S.1) ce
    rw [mk_o (by decide)]
    exact mE_k l10 (Nat.le_refl _) (q_Uj (by decide)) (fun i _ => by rw [oc 86 (by decide)])
  · show mEc _ 31 (mk S 5 9) (pGr S.1) ce
    rw [mk_o (by decide)]
    exact mE_k l11 (Nat.le_refl _) (q_Uj (by decide)) (fun i _ => by rw [oc 86 (by decide)])
  · rw [q_Uj (by decide)]; exact l12
theorem mL_N {J K : mIT} {S : lS} {ce : Nat} {out : eSt} (h : mL J S ce) (f : mXf ce (mU J 75 30 (nI ce)) K) (h32 : K 75 32 = nI (ce + (enc out).length)) (hc : mCo K 86 ce out) : mL K (setN S out) (ce + (enc out).length) := by
  obtain ⟨l1, l2, l3, l4, l5, l6, l7, l8, l9, l10, l11, l12, l13⟩ := h
  have o : ∀ j, j ≠ 30 → 23 < j → j < 32 → K 75 j = J 75 j := fun j a b c => by rw [f.1 j (by omega), q_Uj a]
  have oc : ∀ c, c ≠ 75 → c < 86 → K c = J c := fun c a b => by rw [f.2.2 c a (by omega) (by omega) (by omega), mU_other a]
  refine ⟨?_, ?_, ?_, ?_, ?_, fun r hr => ?_, fun j hj => ?_, fun j hj => ?_, fun j hj => ?_, ?_, ?_, h32, hc.1⟩
  · rw [o 25 (by decide) (by decide) (by decide)]; exact l1
  · rw [o 26 (by decide) (by decide) (by decide)]; exact l2
  · show _ = if mk S 8 5 = true then pL S.1 else -1
    rw [mk_o (by decide), o 27 (by decide) (by decide) (by decide)]; exact l3
  · rw [o 28 (by decide) (by decide) (by decide)]; exact l4
  · rw [o 29 (by decide) (by decide) (by decide)]; exact l5
  · rw [oc 82 (by decide) (by decide)]; exact l6 r hr
  · rw [oc 83 (by decide) (by decide)]; exact l7 j hj
  · rw [oc 84 (by decide) (by decide)]; exact l8 j hj
  · rw [oc 85 (by decide) (by decide)]; exact l9 j hj
  · show mEc _ 30 (mk S 8 8) out _
    rw [mk_s]
    unfold mEc
    rw [if_pos rfl]
    exact ⟨ce, by rw [f.1 30 (by omega), q_U], hc, Nat.le_refl _⟩
  · show mEc _ 31 (mk S 8 9) (pGr S.1) _
    rw [mk_o (by decide)]
    exact mE_k l11 (by omega) (o 31 (by decide) (by decide) (by decide)) (fun i hi => by rw [f.2.1 i hi, mU_other (by decide)])
theorem mL_G {J K : mIT} {S : lS} {ce : Nat} {out : eSt} (h : mL J S ce) (f : mXf ce (mU J 75 31 (nI ce)) K) (h32 : K 75 32 = nI (ce + (enc out).length)) (hc : mCo K 86 ce out) : mL K (setG S out) (ce + (enc out).length) := by
  obtain ⟨l1, l2, l3, l4, l5, l6, l7, l8, l9, l10, l11, l12, l13⟩ := h
  have o : ∀ j, j ≠ 31 → 23 < j → j < 32 → K 75 j = J 75 j := fun j a b c => by rw [f.1 j (by omega), q_Uj a]
  have oc : ∀ c, c ≠ 75 → c < 86 → K c = J c := fun c a b => by rw [f.2.2 c a (by omega) (by omega) (by omega), mU_other a]
  refine ⟨?_, ?_, ?_, ?_, ?_, fun r hr => ?_, fun j hj => ?_, fun j hj => ?_, fun j hj => ?_, ?_, ?_, h32, hc.1⟩
  · rw [o 25 (by decide) (by decide) (by decide)]; exact l1
  · rw [o 26 (by decide) (by decide) (by decide)]; exact l2
  · show _ = if mk S 9 5 = true then pL S.1 else -1
    rw [mk_o (by decide), o 27 (by decide) (by decide) (by decide)]; exact l3
  · rw [o 28 (by decide) (by decide) (by decide)]; exact l4
  · rw [o 29 (by decide) (by decide) (by decide)]; exact l5
  · rw [oc 82 (by decide) (by decide)]; exact l6 r hr
  · rw [oc 83 (by decide) (by decide)]; exact l7 j hj
  · rw [oc 84 (by decide) (by decide)]; exact l8 j hj
  · rw [oc 85 (by decide) (by decide)]; exact l9 j hj
  · show mEc _ 30 (mk S 9 8) (pNo S.1) _
    rw [mk_o (by decide)]
    exact mE_k l10 (by omega) (o 30 (by decide) (by decide) (by decide)) (fun i hi => by rw [f.2.1 i hi, mU_other (by decide)])
  · show mEc _ 31 (mk S 9 9) out _
    rw [mk_s]
    unfold mEc
    rw [if_pos rfl]
    exact ⟨ce, by rw [f.1 31 (by omega), q_U], hc, Nat.le_refl _⟩
/-- how a line comes out -/
def mLo (I0 : mIT) (L0 : mLT) (B : Nat → Nat) (n : Nat) (r : pO (Nat × lS)) (y : mIT × mLT) : Prop := mFx I0 y.1 ∧ lF L0 y.2 ∧ match r with
  | .inl e => y.1 75 14 = nI e.1 ∧ k15 e.1 ∧ y.1 75 15 = nI e.2
  | .inr z => y.1 75 14 = 0 ∧ y.1 75 15 = I0 75 15 ∧ mTk y.1 y.2 B n z.1 ∧ ∃ ce, mL y.1 z.2 ce ∧ ce ≤ 2 * z.1
theorem m_need0 {Fu : Nat} {I : mIT} {L : mLT} {v : Int32} (h : I 75 14 ≠ 0) : f_X12_need Fu I L v = some (I, L) := by
  unfold f_X12_need
  rw [m_good0 h, q_B, if_pos rfl]
theorem m_isAny {Fu : Nat} {I : mIT} {c : Int32} : ∃ v, f_X12_isSign Fu I c = some v := by
  unfold f_X12_isSign
  by_cases h1 : I 75 19 = 3
  · rw [if_pos h1]
    by_cases h2 : I 75 23 = c
    · rw [if_pos h2]; exact ⟨_, rfl⟩
    · rw [if_neg h2]; exact ⟨_, rfl⟩
  · rw [if_neg h1]; exact ⟨_, rfl⟩
theorem m_tail {Fu : Nat} {I X : mIT} {L M : mLT} {B : Nat → Nat} {n : Nat} {r : pO (Nat × lS)} (hF : 2200 < Fu) (ht : tpe B n) (h : mBo I L B n r (X, M)) : wp (oB (f_X12_isSign Fu X 59) (fun r297 => oB (f_X12_need Fu X M r297) (fun r300 => some (r300.1, r300.2)))) (mLo I L B n (leS B n r)) := by
  obtain ⟨hf, hl, h⟩ := h
  dsimp only at hf hl
  cases r with
  | inl e =>
    rcases h with ⟨h1, h2, h3⟩ | ⟨h1, h2, h3, h4, h5⟩
    · obtain ⟨v, hv⟩ := m_isAny (Fu := Fu) (I := X) (c := 59)
      have hb : X 75 14 ≠ 0 := by
        have : X 75 14 = nI e.1 := h1
        rw [this]; exact bad_ne h2
      exact wp_Be hv (wp_Be (m_need0 hb) (wp_s ⟨hf, hl, h1, h2, h3⟩))
    · dsimp only at h2 h3 h4
      refine wp_Be (m_isSgn (c := 59) ht h4 (by omega)) ?_
      rw [if_neg h5]
      unfold f_X12_need
      rw [m_good1 h2, q_B, if_neg (by decide), if_pos rfl, m_wr (v := 1) (k := 1) rfl h4 h2, q_B]
      refine wp_Be rfl (wp_s ⟨?_, hl, ?_, ?_, ?_⟩)
      · exact mFx_u (mFx_u hf (by omega)) (by omega)
      · dsimp only
        rw [mBd_14, h1]
      · rw [h1]; exact k15_1
      · exact mBd_15 (I := X) (k := 1) (a := e.2)
  | inr z =>
    obtain ⟨h1, h2, h3, ce, h4, h5⟩ := h
    dsimp only at h1 h2 h3 h4
    refine wp_Be (m_isSgn (c := 59) ht h3 (by omega)) ?_
    show wp _ (mLo I L B n (if sg B n z.1 59 = true then .inr (nx B n z.1, z.2) else .inl (1, z.1)))
    unfold f_X12_need
    rw [m_good1 h1, q_B, if_neg (by decide)]
    by_cases e : sg B n z.1 59 = true
    · rw [if_pos e, if_pos e, if_neg (by decide)]
      refine wp_B (wp_B (m_nx hF ht h3) (fun y hy => wp_s (Q := fun w : mIT × mLT => mTk w.1 w.2 B n (nx B n z.1) ∧ mTf X w.1 ∧ lF M w.2) hy)) ?_
      rintro ⟨P, N⟩ ⟨p1, p2, p3⟩
      dsimp only at p1 p2 p3
      have hn := nx_ge (B := B) h3.2.1
      exact wp_s ⟨mFx_s hf p2, lF_t hl p3, by dsimp only; rw [p2.1 14 (by omega)]; exact h1, by dsimp only; rw [p2.1 15 (by omega)]; exact h2, p1, ce, mL_s h4 p2, by dsimp only; omega⟩
    · rw [if_neg e, if_neg e, if_pos rfl, m_wr (v := 1) (k := 1) rfl h3 h1, q_B]
      exact wp_Be rfl (wp_s ⟨mFx_u (mFx_u hf (by omega)) (by omega), hl, mBd_14 (I := X) (k := 1) (a := z.1), k15_1, mBd_15 (I := X) (k := 1) (a := z.1)⟩)
theorem m_begin1 {Fu : Nat} {I : mIT} {L : mLT} {B : Nat → Nat} {n a : Nat} (hF : 2200 < Fu) (ht : tpe B n) (hT : mTk I L B n a) (hg : I 75 14 = 0) : wp (f_X12_begins Fu I L 0) (fun y => y.1 = 1 ∧ mTk y.2.1 y.2.2 B n (nx B n a) ∧ mTf I y.2.1 ∧ lF L y.2.2) := by
  unfold f_X12_begins
  refine wp_p rfl (wp_Be (m_good1 hg) (wp_n (by decide) (wp_B (m_nx hF ht hT) ?_)))
  rintro y hy
  exact wp_s ⟨rfl, hy⟩
theorem m_begin0 {Fu : Nat} {I : mIT} {L : mLT} {B : Nat → Nat} {n a : Nat} (hT : mTk I L B n a) (hg : I 75 14 = 0) : f_X12_begins Fu I L 1 = some (0, mBd I 5 a, L) := by
  unfold f_X12_begins
  rw [if_neg (by decide), m_wr (v := 5) (k := 5) rfl hT hg, q_B, m_good0 (by rw [mBd_14]; decide), q_B, if_pos rfl]
