theorem m_isRow1 {Fu : Nat} {I : mIT} {A : aPl} {k : Nat} {w : Int32} (h : I 75 0 = 0) (hp : mPl I A) (ho : okPl A) (hm : 0 < pC A) (hk : k < 1000) : f_X12_isRow Fu I (nI k) w = some (1, I) := by
  have h12 := ho.2.2.2.2.1
  unfold f_X12_isRow
  rw [show f_X12_within Fu (nI k) 0 999 = some 1 from m_in1 (m := 999) hk (by omega), q_B, if_neg ne10, hp.2.2.2.2.1, if_neg (by rw [q_le0 (by omega)]; omega), m_right1 h, q_B]
  rfl
theorem m_isRow0 {Fu : Nat} {I : mIT} {A : aPl} {v w : Int32} (h : I 75 0 = 0) (hp : mPl I A) (hw : w ≠ 0) (hv : (v < 0 ∨ nI 1000 ≤ v) ∨ pC A = 0) : f_X12_isRow Fu I v w = some (0, mU I 75 0 w) := by
  have fin : (oB (f_X12_right Fu I 0 w) (fun r25 => oG (isB r25.1) (some (r25.1, r25.2)))) = some (0, mU I 75 0 w) := by
    rw [m_right0 h hw, q_B]; rfl
  unfold f_X12_isRow
  by_cases e : v < 0 ∨ nI 1000 ≤ v
  · rw [show f_X12_within Fu v 0 999 = some 0 from m_in0 (m := 999) (by omega) e, q_B, if_pos rfl]
    exact fin
  · have hm := hv.resolve_left e
    rcases pk_ix v (n := 1000) (by omega) with e2 | e2 | ⟨j, hj, rfl⟩
    · exact absurd (Or.inl e2) e
    · exact absurd (Or.inr e2) e
    · rw [show f_X12_within Fu (nI j) 0 999 = some 1 from m_in1 (m := 999) hj (by omega), q_B, if_neg ne10, hp.2.2.2.2.1, hm, if_pos (by decide)]
      exact fin
theorem mS_b {I J : mIT} (f : ∀ c, c ≠ 93 → c ≠ 95 → J c = I c) : mS I J := fun c j h => by rw [f c (fun e => by subst e; exact nomatch h) (fun e => by subst e; exact nomatch h)]
theorem mS_l {I J : mIT} (f : ∀ c, c ≠ 75 → c ≠ 95 → c ≠ 96 → J c = I c) (g : ∀ j, j ≠ 52 → J 75 j = I 75 j) : mS I J := fun c j h => by
  by_cases e : c = 75
  · subst e; exact g j (fun e => by subst e; exact nomatch h)
  · rw [f c e (fun e => by subst e; exact nomatch h) (fun e => by subst e; exact nomatch h)]
theorem m_row {Fu : Nat} {I : mIT} {k : Nat} {A : aPl} {row : Nat → Int32} (hF : 2000 < Fu) (ho : okPl A) (hk : okR A 999 row) (h : mQ I A row) (hm : 0 < pC A) (hk2 : k < 1000) : wp (f_X12_row Fu I (nI k)) (fun y => y.1 = nI (dn (pr (chR row) (pC A) (nB A row) k) (nB A row)) ∧ mS (mU I 75 0 0) y.2) := by
  have h0 := mQ_0 (v := 0) h
  have hB : nB A row ≤ 6 := fb_ct_le _ 6
  unfold f_X12_row
  refine wp_Be (m_isRow1 (q_U0 I) h0.1 ho hm hk2) (wp_n ne10 ?_)
  refine wp_B (m_ringsMany hF ho hk h0 hm hk2) ?_
  rintro ⟨v, J⟩ ⟨e1, e2, e3, e4⟩
  dsimp only at e1 e2 e4 ⊢
  subst e1
  exact wp_Be (m_rowNum (by omega) hB e2) (wp_s ⟨rfl, mS_b e4⟩)
theorem m_at {Fu : Nat} {I : mIT} {k q : Nat} {A : aPl} {row : Nat → Int32} (hF : 2000 < Fu) (ho : okPl A) (hk : okR A 999 row) (h : mQ I A row) (hm : 0 < pC A) (hk2 : k < 1000) (hq : q < nB A row) : wp (f_X12_at Fu I (nI k) (nI q)) (fun y => y.1 = nI (bR A row (pr (chR row) (pC A) (nB A row) k q)) ∧ mS (mU I 75 0 0) y.2) := by
  have h0 := mQ_0 (v := 0) h
  have hB : nB A row ≤ 6 := fb_ct_le _ 6
  have hg := pr_good (chs := chR row) (m := pC A) hB k
  have h2 := hg.2.1 q hq
  unfold f_X12_at
  refine wp_Be (m_isRow1 (q_U0 I) h0.1 ho hm hk2) (wp_n ne10 ?_)
  refine wp_B (m_ringsMany hF ho hk h0 hm hk2) ?_
  rintro ⟨v, J⟩ ⟨e1, e2, e3, e4⟩
  dsimp only at e1 e2 e3 e4 ⊢
  subst e1
  refine wp_n (by rw [q_lt0 (by omega)]; simp) (wp_n (by rw [q_le (by omega) (by omega)]; omega) ?_)
  unfold b_X12_at_37
  refine wp_Be (m_right1 (by rw [e4 75 (by decide) (by decide)]; exact q_U0 I)) (wp_n ne10 ?_)
  dsimp only
  rw [q_GI (by omega) (by omega), q_cl (by omega), e2 q (by omega), q_GI (by omega) (by omega), q_cl (by omega), e3 _ h2]
  exact wp_s ⟨rfl, mS_b e4⟩
theorem mS_01 {I J : mIT} {w : Int32} (f : mS (mU I 75 0 0) J) : mS (mU I 75 0 w) (mU J 75 0 w) := fun c j hc => by
  by_cases e : c = 75 ∧ j = 0
  · obtain ⟨rfl, rfl⟩ := e
    rw [q_U, q_U]
  · have := f c j hc
    unfold mU at this ⊢
    rw [if_neg e] at this
    rw [if_neg e, if_neg e]
    exact this
theorem m_at0 {Fu : Nat} {I : mIT} {k : Nat} {A : aPl} {row : Nat → Int32} {v : Int32} (hF : 2000 < Fu) (ho : okPl A) (hk : okR A 999 row) (h : mQ I A row) (hm : 0 < pC A) (hk2 : k < 1000) (hv : v < 0 ∨ nI (nB A row) ≤ v) : wp (f_X12_at Fu I (nI k) v) (fun y => mS (mU I 75 0 1) y.2) := by
  have h0 := mQ_0 (v := 0) h
  unfold f_X12_at
  refine wp_Be (m_isRow1 (q_U0 I) h0.1 ho hm hk2) (wp_n ne10 ?_)
  refine wp_B (m_ringsMany hF ho hk h0 hm hk2) ?_
  rintro ⟨v1, J⟩ ⟨e1, e2, e3, e4⟩
  dsimp only at e1 e4 ⊢
  subst e1
  have main : wp (b_X12_at_36 Fu v J) (fun y => mS (mU I 75 0 1) y.2) := by
    unfold b_X12_at_36 b_X12_at_37
    exact wp_Be (m_right0 (by rw [e4 75 (by decide) (by decide)]; exact q_U0 I) (by decide)) (wp_p rfl (wp_s (mS_01 (mS_b e4))))
  exact wp_f (fun _ => main) (fun e => wp_p (hv.resolve_left e) main)
theorem mS_bl {I J K : mIT} (f : ∀ c, c ≠ 93 → J c = I c) (g : mS J K) : mS I K := mS_t (mS_b (fun c c1 _ => f c c1)) g
theorem m_bellsQ {I J : mIT} {A : aPl} {row : Nat → Int32} (h : mQ I A row) (f : ∀ c, c ≠ 93 → J c = I c) : mQ J A row := ⟨mPl_fr h.1 (fun j _ _ => by rw [f 75 (by decide)]) (f _ (by decide)) (f _ (by decide)) (f _ (by decide)) (f _ (by decide)), fun j hj => by rw [f 89 (by decide)]; exact h.2.1 j hj, by rw [f 75 (by decide)]; exact h.2.2⟩
theorem m_length {Fu : Nat} {I : mIT} {A : aPl} {row : Nat → Int32} (hF : 701 < Fu) (ho : okPl A) (hk : okR A 999 row) (h : mQ I A row) : wp (f_X12_length Fu I) (fun y => y.1 = (if pC A = 0 then -1 else nI (ln (chR row) (pC A) (nB A row))) ∧ mS (mU I 75 0 0) y.2) := by
  have h0 := mQ_0 (v := 0) h
  have h12 := ho.2.2.2.2.1
  have hB : nB A row ≤ 6 := fb_ct_le _ 6
  unfold f_X12_length
  refine wp_i (by rw [h0.1.2.2.2.2.1, q_eq0 (by omega)]) (fun e => ?_) (fun e => ?_)
  · rw [if_pos e]; exact wp_s ⟨rfl, mS_r _⟩
  · rw [if_neg e]
    refine wp_B (m_bells hF ho hk h0) ?_
    rintro ⟨v, J⟩ ⟨e1, e2, e3⟩
    dsimp only at e1 e2 ⊢
    subst e1
    refine wp_B (m_lenNow hF ho (by omega) hB (mR_q (m_bellsQ h0 e2))) ?_
    rintro ⟨v, K⟩ ⟨u1, u2, u3, u4⟩
    exact wp_s ⟨u1, mS_bl e2 (mS_l u3 u4)⟩
theorem m_isTrue {Fu : Nat} {I : mIT} {A : aPl} {row : Nat → Int32} (hF : 701 < Fu) (ho : okPl A) (hk : okR A 999 row) (h : mQ I A row) : wp (f_X12_isTrue Fu I) (fun y => y.1 = (if pC A = 0 then 1 else if tw (chR row) (pC A) (nB A row) then 0 else 1) ∧ mS (mU I 75 0 0) y.2) := by
  have h0 := mQ_0 (v := 0) h
  have h12 := ho.2.2.2.2.1
  have hB : nB A row ≤ 6 := fb_ct_le _ 6
  unfold f_X12_isTrue
  refine wp_i (by rw [h0.1.2.2.2.2.1, q_le0 (by omega)]) (fun e => ?_) (fun e => ?_)
  · rw [if_pos e]
    exact wp_p (by rw [h0.1.2.2.2.2.1, e]; rfl) (wp_s ⟨rfl, mS_r _⟩)
  · rw [if_neg e]
    refine wp_B (m_bells hF ho hk h0) ?_
    rintro ⟨v, J⟩ ⟨e1, e2, e3⟩
    dsimp only at e1 e2 ⊢
    subst e1
    have hJ := m_bellsQ h0 e2
    refine wp_B (m_lenNow hF ho (by omega) hB (mR_q hJ)) ?_
    rintro ⟨v, K⟩ ⟨u1, u2, u3, u4⟩
    dsimp only at u1 u2 u3 u4 ⊢
    refine wp_n (by rw [u4 5 (by decide), hJ.1.2.2.2.2.1, q_eq0 (by omega)]; exact e) ?_
    by_cases e5 : tw (chR row) (pC A) (nB A row) = true
    · rw [if_pos e5] at u2 ⊢
      exact wp_n (by rw [u2]; decide) (wp_s ⟨rfl, mS_bl e2 (mS_l u3 u4)⟩)
    · rw [if_neg e5] at u2 ⊢
      exact wp_p u2 (wp_s ⟨rfl, mS_bl e2 (mS_l u3 u4)⟩)
theorem tL_0 {chs : Nat → Int32} {m n : Nat} : tL chs m n = if tw chs m n then 0 else ln chs m n := rfl
theorem m_longer {Fu : Nat} {I : mIT} {A : aPl} {row : Nat → Int32} (hF : 701 < Fu) (ho : okPl A) (hk : okR A 999 row) (h : mQ I A row) : wp (f_X12_longer Fu I) (fun y => y.1 = (if pC A = 0 then -1 else (lo (chR row) (pC A) (nB A row) (32 * pC A)).2) ∧ mS (mU I 75 0 0) y.2) := by
  have h0 := mQ_0 (v := 0) h
  have h12 := ho.2.2.2.2.1
  have hB : nB A row ≤ 6 := fb_ct_le _ 6
  unfold f_X12_longer
  refine wp_i (by rw [h0.1.2.2.2.2.1, q_eq0 (by omega)]) (fun e => ?_) (fun e => ?_)
  · rw [if_pos e]; exact wp_s ⟨rfl, mS_r _⟩
  · rw [if_neg e]
    have hm : 0 < pC A := by omega
    refine wp_B (m_bells hF ho hk h0) ?_
    rintro ⟨v, J⟩ ⟨e1, e2, e3⟩
    dsimp only at e1 e2 ⊢
    subst e1
    have hJ := m_bellsQ h0 e2
    have hS0 : mS (mU I 75 0 0) J := mS_b (fun c c1 _ => e2 c c1)
    refine wp_B (m_lenNow hF ho hm hB (mR_q hJ)) ?_
    rintro ⟨v, K0⟩ ⟨u1, u2, u3, u4⟩
    dsimp only at u1 u2 u3 u4 ⊢
    subst u1
    have hK0 := mS_t hS0 (mS_l u3 u4)
    have core : ∀ z, z = nI (tL (chR row) (pC A) (nB A row)) → wp (w_X12_longer_39 Fu Fu (nI (nB A row)) z (-1) 0 K0) (fun y => y.1 = (lo (chR row) (pC A) (nB A row) (32 * pC A)).2 ∧ mS (mU I 75 0 0) y.2) := by
      rintro z rfl
      have hmR0 := mR_q (mQ_s ho h0 hK0)
      have hrowS : ∀ j, j < pC A → (mU I 75 0 0) 89 (41 + j) = chR row j := fun j hj => (mR_q h0).2 j hj
      generalize chR row = chs at hmR0 hrowS
      have hlo := fun t => lo_le (chs := chs) hB hm h12 t
      have htl := fun chs => tL_le (chs := chs) hB hm h12
      have hln := fun chs => ln_b (chs := chs) hB hm h12
      generalize nB A row = nb at hB hlo htl hln
      unfold w_X12_longer_39
      refine wp_loop (fun dd (s : Int32 × Int32 × Int32 × Int32 × mIT) => ∃ (i : Nat) (K : mIT), s = (nI nb, nI (lo chs (pC A) nb (32 * i)).1, (lo chs (pC A) nb (32 * i)).2, nI i, K) ∧ dd = pC A - i ∧ i ≤ pC A ∧ mS (mU I 75 0 0) K) _ ?_ Fu (pC A) _ ⟨0, K0, rfl, rfl, by omega, hK0⟩ (by omega)
      rintro dd s self ⟨i, K, rfl, hdd, hi, f1⟩ hself
      have hK := mQ_s ho h0 f1
      have hk41 : ∀ j, j < 12 → kM 89 (41 + j) = true := fun j hj => by unfold kM; rw [decide_eq_true (by omega : 41 + j < 53)]; rfl
      show wp (b_X12_longer_39 Fu self _ _ _ (nI i) K) _
      unfold b_X12_longer_39
      refine wp_i (by rw [hK.1.2.2.2.2.1, q_le (by omega) (by omega)]) (fun hle => ?_) (fun hlt => ?_)
      · have hie : i = pC A := by omega
        subst hie
        exact wp_s ⟨rfl, f1⟩
      · have hi2 : i < pC A := by omega
        rw [l_41, q_GI (by omega) (by omega), q_cl (by omega), f1 89 (41 + i) (hk41 i (by omega)), hrowS i hi2]
        unfold w_X12_longer_63
        refine wp_loop (fun dd (s : Int32 × Int32 × Int32 × Int32 × Int32 × Int32 × mIT) => ∃ (w : Nat) (L : mIT), s = (nI nb, nI (lo chs (pC A) nb (32 * i + w)).1, (lo chs (pC A) nb (32 * i + w)).2, nI i, chs i, nI w, L) ∧ dd = 32 - w ∧ w ≤ 32 ∧ (∀ c j, kM c j = true → ¬ (c = 89 ∧ j = 41 + i) → L c j = (mU I 75 0 0) c j)) _ ?_ Fu 32 _ ⟨0, K, rfl, rfl, by omega, fun c j hc _ => f1 c j hc⟩ (by omega)
        rintro dw s selfw ⟨w, L, rfl, hdw, hw, g1⟩ hselfw
        have hl1 := hlo (32 * i + w)
        show wp (b_X12_longer_63 Fu self selfw _ _ _ (nI i) _ (nI w) L) _
        unfold b_X12_longer_63
        rw [l_41, q_GI (n := 106) (by omega) (by omega), q_cl (n := 41 + i) (by omega)]
        refine wp_i (ge_32 (by omega)) (fun hle2 => ?_) (fun hlt2 => ?_)
        · have hwe : w = 32 := by omega
          subst hwe
          refine hself (pC A - (i + 1)) _ (by omega) ⟨i + 1, _, by rw [q_1, show 32 * (i + 1) = 32 * i + 32 by omega], rfl, by omega, fun c j hc => ?_⟩
          by_cases e3 : c = 89 ∧ j = 41 + i
          · obtain ⟨rfl, rfl⟩ := e3
            rw [q_U, hrowS i hi2]
          · rw [show mU L 89 (41 + i) (chs i) c j = L c j from if_neg e3]
            exact g1 c j hc e3
        · have es := lo_s (chs := chs) (m := pC A) (n := nb) (i := i) (v := w) (by omega)
          have no : ∀ M : mIT, (∀ c j, kM c j = true → ¬ (c = 89 ∧ j = 41 + i) → M c j = (mU I 75 0 0) c j) → ¬ (nI w ≠ chs i ∧ isCh (nI w) = true ∧ (lo chs (pC A) nb (32 * i + w)).1 < tL (upC chs i (nI w)) (pC A) nb) → wp (selfw (nI nb, nI (lo chs (pC A) nb (32 * i + w)).1, (lo chs (pC A) nb (32 * i + w)).2, nI i, chs i, nI w + 1, M)) (fun y => y.1 = (lo chs (pC A) nb (32 * pC A)).2 ∧ mS (mU I 75 0 0) y.2) := fun M m1 hc => hselfw (32 - (w + 1)) _ (by omega) ⟨w + 1, M, by rw [q_1, es, if_neg hc], rfl, by omega, m1⟩
          refine wp_f (fun e3 => no L g1 (fun q => q.1 e3)) (fun e3 => ?_)
          refine wp_Be m_isChg ?_
          by_cases e4 : isCh (nI w) = true
          · rw [if_pos e4]
            refine wp_n (by decide) ?_
            have hL : mR (mU L 89 (41 + i) (nI w)) A (upC chs i (nI w)) := by
              refine ⟨?_, fun j hj => ?_⟩
              · rw [mU_other (by decide), g1 75 5 rfl (by omega)]; exact h0.1.2.2.2.2.1
              · unfold upC
                by_cases e5 : j = i
                · subst e5; rw [q_U, if_pos rfl]
                · rw [q_Uj (by omega), if_neg e5, g1 89 (41 + j) (hk41 j (by omega)) (by omega)]; exact hrowS j hj
            refine wp_G (q_in (by omega) (by omega)) ?_
            refine wp_B (m_lenNow hF ho hm hB hL) ?_
            rintro ⟨v, M⟩ ⟨t1, t2, t3, t4⟩
            dsimp only at t1 t2 t3 t4 ⊢
            subst t1
            obtain ⟨l1, l2, l3, l4⟩ := hln (upC chs i (nI w))
            have m1 : ∀ c j, kM c j = true → ¬ (c = 89 ∧ j = 41 + i) → M c j = (mU I 75 0 0) c j := fun c j hc hn => by
              rw [mS_l t3 t4 c j hc, show mU L 89 (41 + i) (nI w) c j = L c j from if_neg hn]
              exact g1 c j hc hn
            by_cases e5 : tw (upC chs i (nI w)) (pC A) nb = true
            · rw [if_pos e5] at t2
              refine wp_n (by rw [t2]; decide) (no M m1 (fun q => ?_))
              have := q.2.2
              rw [tL_0, if_pos e5] at this
              omega
            · rw [if_neg e5] at t2
              refine wp_p t2 ?_
              have e6 : tL (upC chs i (nI w)) (pC A) nb = ln (upC chs i (nI w)) (pC A) nb := by rw [tL_0, if_neg e5]
              refine wp_i (q_lt (by omega) (by omega)) (fun e7 => ?_) (fun e7 => no M m1 (fun q => by omega))
              rw [if_pos ⟨e3, e4, by omega⟩] at es
              refine hselfw (32 - (w + 1)) _ (by omega) ⟨w + 1, M, ?_, rfl, by omega, m1⟩
              rw [q_1, es, e6, show (100 : Int32) * nI i = nI (100 * i) from pk_mul 100 i, nI_add]
          · rw [if_neg e4]
            exact wp_p rfl (no L g1 (fun q => e4 q.2.1))
    by_cases e5 : tw (chR row) (pC A) (nB A row) = true
    · rw [if_pos e5] at u2
      exact wp_n (by rw [u2]; decide) (core _ (by rw [tL_0, if_pos e5]; rfl))
    · rw [if_neg e5] at u2
      exact wp_p u2 (core _ (by rw [tL_0, if_neg e5]))
theorem m_placeOf {Fu : Nat} {J : mIT} {A : aPl} {row : Nat → Int32} {f : Nat → Nat} {r : Nat} (hF : 701 < Fu) (ho : okPl A) (h1 : plc J f) (h2 : ∀ j, j < nB A row → J 93 j = nI (bR A row j)) (hf : gdP (nB A row) f) (hr : r < 10) : f_X12_placeOf Fu J (nI r) (nI (nB A row)) = some (sFi (fun p => decide (bR A row (f p) = r)) 0 (nB A row)) := by
  have h10 := ho.1
  have hB : nB A row ≤ 6 := fb_ct_le _ 6
  unfold f_X12_placeOf w_X12_placeOf_2 sFi
  refine q_find (fun i => (nI r, nI (nB A row), nI i)) (nB A row) (-1) _ ?_ ?_ Fu (by omega)
  · intro i hi self
    have hfi := hf.2.1 i hi
    have := bR_lt hfi
    show b_X12_placeOf_2 Fu J self (nI r) _ (nI i) = _
    unfold b_X12_placeOf_2
    rw [if_neg (by rw [q_le (by omega) (by omega)]; omega), q_GI (by omega) (by omega), q_cl (by omega), h1 i (by omega), q_GI (by omega) (by omega), q_cl (by omega), h2 _ hfi, q_1]
    by_cases e : bR A row (f i) = r
    · rw [if_pos (by rw [e]), if_pos (decide_eq_true e)]
    · rw [if_neg (by rw [q_eq (by omega) (by omega)]; exact e), if_neg (by simp [e])]
  · intro self
    show b_X12_placeOf_2 Fu J self (nI r) _ (nI (nB A row)) = _
    unfold b_X12_placeOf_2
    rw [if_pos (by rw [q_le (by omega) (by omega)]; omega)]
theorem m_leads {Fu : Nat} {I : mIT} {r : Nat} {A : aPl} {row : Nat → Int32} (hF : 2000 < Fu) (ho : okPl A) (hk : okR A 999 row) (h : mQ I A row) (hr : r < pR A) : wp (f_X12_leads Fu I (nI r)) (fun y => y.1 = (if pC A = 0 then 0 else nI (fb_ct (ldP A row r) (ln (chR row) (pC A) (nB A row)))) ∧ mS (mU I 75 0 0) y.2) := by
  have h0 := mQ_0 (v := 0) h
  have h12 := ho.2.2.2.2.1
  have h10 := ho.1
  have hB : nB A row ≤ 6 := fb_ct_le _ 6
  unfold f_X12_leads
  refine wp_Be (m_isRoot1 (q_U0 I) h0.1 ho hr) (wp_n ne10 ?_)
  dsimp only
  refine wp_i (by rw [h0.1.2.2.2.2.1, q_eq0 (by omega)]) (fun e => ?_) (fun e => ?_)
  · rw [if_pos e]; exact wp_s ⟨rfl, mS_r _⟩
  · rw [if_neg e]
    have hm : 0 < pC A := by omega
    obtain ⟨l1, l2, l3, l4⟩ := ln_b (chs := chR row) hB hm h12
    refine wp_B (m_bells (by omega) ho hk h0) ?_
    rintro ⟨v, J⟩ ⟨e1, e2, e3⟩
    dsimp only at e1 e2 ⊢
    subst e1
    refine wp_B (m_lenNow (by omega) ho hm hB (mR_q (m_bellsQ h0 e2))) ?_
    rintro ⟨v, K0⟩ ⟨u1, u2, u3, u4⟩
    dsimp only at u1 u3 u4 ⊢
    subst u1
    have hK0 : mS (mU I 75 0 0) K0 := mS_bl e2 (mS_l u3 u4)
    unfold w_X12_leads_36
    refine wp_loop (fun dd (s : Int32 × Int32 × Int32 × Int32 × mIT) => ∃ (i : Nat) (K : mIT), s = (nI r, nI (ln (chR row) (pC A) (nB A row)), nI (fb_ct (ldP A row r) i), nI i, K) ∧ dd = ln (chR row) (pC A) (nB A row) - i ∧ i ≤ ln (chR row) (pC A) (nB A row) ∧ mS (mU I 75 0 0) K) _ ?_ Fu (ln (chR row) (pC A) (nB A row)) _ ⟨0, K0, rfl, rfl, by omega, hK0⟩ (by omega)
    rintro dd s self ⟨i, K, rfl, hdd, hi, f1⟩ hself
    have hct := fb_ct_le (ldP A row r) i
    have hg := pr_good (chs := chR row) (m := pC A) hB i
    show wp (b_X12_leads_36 Fu self _ _ _ (nI i) K) _
    unfold b_X12_leads_36
    refine wp_i (q_le (by omega) (by omega)) (fun hle => ?_) (fun hlt => ?_)
    · have hie : i = ln (chR row) (pC A) (nB A row) := by omega
      exact wp_s ⟨by rw [hie], f1⟩
    · refine wp_B (m_ringsMany hF ho hk (mQ_s ho h0 f1) hm (by omega)) ?_
      rintro ⟨v, L⟩ ⟨t1, t2, t3, t4⟩
      dsimp only at t1 t2 t3 t4 ⊢
      subst t1
      refine wp_Be (m_placeOf (by omega) ho t2 t3 hg (by omega)) ?_
      have hL := mS_t f1 (mS_b t4)
      have hc : (sFi (fun p => decide (bR A row (pr (chR row) (pC A) (nB A row) i p) = r)) 0 (nB A row) = 0) = (ldP A row r i = true) := by
        apply propext
        unfold ldP
        rw [decide_eq_true_iff]
        by_cases e5 : 0 < nB A row
        · obtain ⟨nb, hnb⟩ : ∃ nb, nB A row = nb + 1 := ⟨nB A row - 1, by omega⟩
          have es := sFi_s (p := fun p => decide (bR A row (pr (chR row) (pC A) (nB A row) i p) = r)) (i := 0) (k := nb)
          rw [← hnb] at es
          rw [es]
          by_cases e6 : bR A row (pr (chR row) (pC A) (nB A row) i 0) = r
          · rw [if_pos (decide_eq_true e6)]
            exact ⟨fun _ => ⟨e5, e6⟩, fun _ => rfl⟩
          · rw [if_neg (by simp [e6])]
            constructor
            · intro e7
              exfalso
              by_cases e8 : ∃ j, 0 + 1 ≤ j ∧ j < 0 + 1 + nb ∧ (fun p => decide (bR A row (pr (chR row) (pC A) (nB A row) i p) = r)) j = true
              · obtain ⟨j, x1, x2, x3, x4⟩ := sFi_some _ _ e8
                rw [x4, q_eq0 (by omega)] at e7
                omega
              · rw [sFi_none _ _ (fun j h1 h2 => Bool.eq_false_iff.mpr (fun q => e8 ⟨j, h1, h2, q⟩))] at e7
                exact absurd e7 (by decide)
            · intro e7; exact absurd e7.2 e6
        · rw [show nB A row = 0 by omega]
          constructor
          · intro e7; exact absurd (show (-1 : Int32) = 0 from e7) (by decide)
          · intro e7; exact absurd e7.1 (by omega)
      refine wp_i hc (fun e5 => ?_) (fun e5 => ?_)
      · exact hself (ln (chR row) (pC A) (nB A row) - (i + 1)) _ (by omega) ⟨i + 1, L, by rw [q_1, q_1, fb_ct_succ, e5, if_pos rfl], rfl, by omega, hL⟩
      · exact hself (ln (chR row) (pC A) (nB A row) - (i + 1)) _ (by omega) ⟨i + 1, L, by rw [q_1, q_p0, fb_ct_succ, if_neg e5]; rfl, rfl, by omega, hL⟩
theorem m_meets {Fu : Nat} {I : mIT} {r q : Nat} {A : aPl} {row : Nat → Int32} (hF : 2000 < Fu) (ho : okPl A) (hk : okR A 999 row) (h : mQ I A row) (hr : r < pR A) (hq : q < pR A) : wp (f_X12_meets Fu I (nI r) (nI q)) (fun y => y.1 = (if pC A = 0 ∨ r = q ∨ row (31 + r) < 0 ∨ row (31 + q) < 0 then 0 else nI (fb_ct (mtP A row r q) (ln (chR row) (pC A) (nB A row)))) ∧ mS (mU I 75 0 0) y.2) := by
  have h0 := mQ_0 (v := 0) h
  have h12 := ho.2.2.2.2.1
  have h10 := ho.1
  have hB : nB A row ≤ 6 := fb_ct_le _ 6
  unfold f_X12_meets
  refine wp_Be (m_isRoot1 (q_U0 I) h0.1 ho hr) (wp_n ne10 ?_)
  refine wp_Be (m_isRoot1 (q_U0 I) h0.1 ho hq) (wp_n ne10 ?_)
  dsimp only
  refine wp_i (by rw [h0.1.2.2.2.2.1, q_eq0 (by omega)]) (fun e => ?_) (fun e => ?_)
  · rw [if_pos (Or.inl e)]; exact wp_s ⟨rfl, mS_r _⟩
  refine wp_i (q_eq (by omega) (by omega)) (fun e2 => ?_) (fun e2 => ?_)
  · rw [if_pos (Or.inr (Or.inl e2))]; exact wp_s ⟨rfl, mS_r _⟩
  refine wp_Be (m_hang1 (b := 0) (by omega) (by omega) (h0.2.1 _ (lv_31 hr))) ?_
  by_cases e3 : row (31 + r) < 0
  · rw [if_pos e3, if_pos (Or.inr (Or.inr (Or.inl e3)))]; exact wp_p rfl (wp_s ⟨rfl, mS_r _⟩)
  rw [if_neg e3]
  refine wp_n (by decide) (wp_Be (m_hang1 (b := 0) (by omega) (by omega) (h0.2.1 _ (lv_31 hq))) ?_)
  by_cases e4 : row (31 + q) < 0
  · rw [if_pos e4, if_pos (Or.inr (Or.inr (Or.inr e4)))]; exact wp_p rfl (wp_s ⟨rfl, mS_r _⟩)
  rw [if_neg e4]
  refine wp_n ne10 ?_
  rw [if_neg (show ¬ (pC A = 0 ∨ r = q ∨ row (31 + r) < 0 ∨ row (31 + q) < 0) from fun w => w.elim e (fun w => w.elim e2 (fun w => w.elim e3 e4)))]
  have hm : 0 < pC A := by omega
  obtain ⟨l1, l2, l3, l4⟩ := ln_b (chs := chR row) hB hm h12
  refine wp_B (m_bells (by omega) ho hk h0) ?_
  rintro ⟨v, J⟩ ⟨e1, e5, e6⟩
  dsimp only at e1 e5 ⊢
  subst e1
  refine wp_B (m_lenNow (by omega) ho hm hB (mR_q (m_bellsQ h0 e5))) ?_
  rintro ⟨v, K0⟩ ⟨u1, u2, u3, u4⟩
  dsimp only at u1 u3 u4 ⊢
  subst u1
  have hK0 : mS (mU I 75 0 0) K0 := mS_bl e5 (mS_l u3 u4)
  unfold w_X12_meets_70
  refine wp_loop (fun dd (s : Int32 × Int32 × Int32 × Int32 × Int32 × mIT) => ∃ (i : Nat) (K : mIT), s = (nI r, nI q, nI (ln (chR row) (pC A) (nB A row)), nI (fb_ct (mtP A row r q) i), nI i, K) ∧ dd = ln (chR row) (pC A) (nB A row) - i ∧ i ≤ ln (chR row) (pC A) (nB A row) ∧ mS (mU I 75 0 0) K) _ ?_ Fu (ln (chR row) (pC A) (nB A row)) _ ⟨0, K0, rfl, rfl, by omega, hK0⟩ (by omega)
  rintro dd s self ⟨i, K, rfl, hdd, hi, f1⟩ hself
  have hct := fb_ct_le (mtP A row r q) i
  have hg := pr_good (chs := chR row) (m := pC A) hB i
  show wp (b_X12_meets_70 Fu self _ _ _ _ (nI i) K) _
  unfold b_X12_meets_70
  refine wp_i (q_le (by omega) (by omega)) (fun hle => ?_) (fun hlt => ?_)
  · have hie : i = ln (chR row) (pC A) (nB A row) := by omega
    exact wp_s ⟨by rw [hie], f1⟩
  · refine wp_B (m_ringsMany hF ho hk (mQ_s ho h0 f1) hm (by omega)) ?_
    rintro ⟨v, L⟩ ⟨t1, t2, t3, t4⟩
    dsimp only at t1 t2 t3 t4 ⊢
    subst t1
    refine wp_Be (m_placeOf (by omega) ho t2 t3 hg (by omega)) (wp_Be (m_placeOf (by omega) ho t2 t3 hg (by omega)) ?_)
    have hL := mS_t f1 (mS_b t4)
    have yes : mtP A row r q i = true → wp (self (nI r, nI q, nI (ln (chR row) (pC A) (nB A row)), nI (fb_ct (mtP A row r q) i) + 1, nI i + 1, L)) (fun y => y.1 = nI (fb_ct (mtP A row r q) (ln (chR row) (pC A) (nB A row))) ∧ mS (mU I 75 0 0) y.2) := fun e7 => hself (ln (chR row) (pC A) (nB A row) - (i + 1)) _ (by omega) ⟨i + 1, L, by rw [q_1, q_1, fb_ct_succ, e7, if_pos rfl], rfl, by omega, hL⟩
    refine wp_f (fun e7 => yes (decide_eq_true (Or.inl e7))) (fun e7 => wp_f (fun e8 => yes (decide_eq_true (Or.inr e8))) (fun e8 => ?_))
    have e9 : ¬ mtP A row r q i = true := fun w => (of_decide_eq_true w).elim e7 e8
    exact hself (ln (chR row) (pC A) (nB A row) - (i + 1)) _ (by omega) ⟨i + 1, L, by rw [q_1, q_p0, fb_ct_succ, if_neg e9]; rfl, rfl, by omega, hL⟩
