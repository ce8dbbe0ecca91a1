/-! the reference reads an operand -/
def oK (I0 : mIT) (L0 : mLT) (c0 : Nat) (B : Nat → Nat) (n : Nat) (r : pO (Nat × xS)) (a0 : Nat) (v2 : Int32) (J : mIT) (M : mLT) (f a : Nat) (x : xS) : Prop := mPo I0 L0 c0 B n (.inr (a, x)) (J, M) ∧ xI x a ∧ xB c0 x a ∧ x.2.2.2.1 ≤ 5 ∧ x.2.2.1 ≠ 0 ∧ v2 = (if x.2.2.1 = 2 then 1 else 0) ∧ n - a < f ∧ exR B n f a x = r ∧ a0 ≤ a
def oF (I0 : mIT) (L0 : mLT) (c0 : Nat) (B : Nat → Nat) (n : Nat) (r : pO (Nat × xS)) (J : mIT) (M : mLT) : Prop := ∃ e, r = .inl e ∧ mPo I0 L0 c0 B n (.inl e) (J, M)
def oP (I0 : mIT) (L0 : mLT) (c0 : Nat) (B : Nat → Nat) (n : Nat) (r : pO (Nat × xS)) (a0 : Nat) (y : mIT × mLT) : Prop := oF I0 L0 c0 B n r y.1 y.2 ∨ ∃ f a x, n - a < f ∧ exR B n f a x = r ∧ x.2.2.1 = 0 ∧ xI x a ∧ xB c0 x a ∧ mPo I0 L0 c0 B n (.inr (a, x)) (y.1, y.2) ∧ a0 ≤ a
theorem bad_ne {k : Nat} (h : 1 ≤ k ∧ k ≤ 5) : nI k ≠ 0 := by
  rcases (by omega : k = 1 ∨ k = 2 ∨ k = 3 ∨ k = 4 ∨ k = 5) with rfl | rfl | rfl | rfl | rfl <;> decide
theorem oF_ne {I0 : mIT} {L0 : mLT} {c0 : Nat} {B : Nat → Nat} {n : Nat} {r : pO (Nat × xS)} {J : mIT} {M : mLT} (h : oF I0 L0 c0 B n r J M) : J 75 14 ≠ 0 := by
  obtain ⟨e, _, h1, h2, _⟩ := h
  have h1' : J 75 14 = nI e.1 := h1
  rw [h1']
  exact bad_ne h2
theorem m_part0 {Fu : Nat} {J : mIT} {M : mLT} (h : J 75 14 ≠ 0) : f_X12_part Fu J M = some (J, M) := by
  unfold f_X12_part
  rw [m_good0 h, q_B, if_pos rfl]
theorem exOd_st {B : Nat → Nat} {n a : Nat} {x x' : xS} (e : exOd B n a x = .inr x') (h18 : ¬ (x.2.2.1 = 2 ∧ tW B n a = 18)) (h40 : ¬ sg B n a 40 = true) : x'.2.2.1 = 0 := by
  unfold exOd at e
  by_cases c1 : 6 ≤ x.2.2.2.1
  · rw [if_pos c1] at e; exact nomatch e
  · rw [if_neg c1, if_neg h18, if_neg h40] at e
    by_cases c4 : tK B n a = 1
    · rw [if_pos c4] at e
      by_cases c5 : tW B n a ≤ 6
      · rw [if_pos c5] at e
        have e' := Sum.inr.inj e
        subst e'
        rfl
      · rw [if_neg c5] at e; exact nomatch e
    · rw [if_neg c4] at e
      by_cases c5 : tK B n a = 2
      · rw [if_pos c5] at e
        by_cases c6 : tE B n a - a ≤ 4
        · rw [if_pos c6] at e
          have e' := Sum.inr.inj e
          subst e'
          rfl
        · rw [if_neg c6] at e; exact nomatch e
      · rw [if_neg c5] at e; exact nomatch e
theorem kN_is {B : Nat → Nat} {n a v : Nat} (hv : v < 19) : (kN (tW B n a) = nI v) = (tW B n a = v) := by
  have hw := tW_lt (B := B) (n := n) (a := a)
  unfold kN
  by_cases e : tW B n a = 9999
  · rw [if_pos e]
    apply propext
    constructor
    · intro q
      have := q_eqm1 (a := v) (by omega)
      rw [← q] at this
      exact absurd rfl (fun k => by rw [this] at k; exact k)
    · intro q; omega
  · rw [if_neg e, q_eq (by omega) (by omega)]
theorem mXs_w {I K1 K2 : mIT} {c0 : Nat} {x : xS} {out : eSt} {w : List Nat} (hx : mXs I c0 x) (w1 : mRs K1 c0 out w) (w2 : mRf I K1 c0) (y2 : mTf K1 K2) : mRs K2 c0 out w ∧ K2 75 34 = nI (x.2.2.2.1 + 1) ∧ ∀ d, d ≤ x.2.2.2.1 → d ≤ 6 → K2 88 (d + 1) = if x.2.2.2.2.1 d then 1 else 0 := ⟨mRs_s w1 y2, by rw [y2.1 34 (by omega), w2.1 34 (by omega) (by omega)]; exact hx.2.1, fun d a b => by rw [y2.2 88 (by decide), w2.2.2 88 (by decide) (by decide) (by decide)]; exact hx.2.2 d a b⟩
theorem m_operand {Fu : Nat} {I0 : mIT} {L0 : mLT} {c0 : Nat} {B : Nat → Nat} {n : Nat} {r : pO (Nat × xS)} {a0 : Nat} {v : Int32} {I : mIT} {L : mLT} {f a : Nat} {x : xS} (hF : 2200 < Fu) (ht : tpe B n) (hK : oK I0 L0 c0 B n r a0 v I L f a x) (h0 : x.2.2.2.2.2 = 0) : wp (f_X12_operand Fu I L v) (oP I0 L0 c0 B n r a0) := by
  have h7 := ht.1
  unfold f_X12_operand w_X12_operand_4
  refine wp_loop (fun D (s : Int32 × Int32 × mIT × mLT) => (∃ f a x, s.2.1 = 1 ∧ oK I0 L0 c0 B n r a0 s.1 s.2.2.1 s.2.2.2 f a x ∧ x.2.2.2.2.2 = 0 ∧ D = n - a + 2) ∨ (∃ f a x, s.2.1 = 0 ∧ oK I0 L0 c0 B n r a0 s.1 s.2.2.1 s.2.2.2 f a x ∧ ¬ (x.2.2.1 = 2 ∧ tW B n a = 18) ∧ ¬ sg B n a 40 = true ∧ D = 1) ∨ (oF I0 L0 c0 B n r s.2.2.1 s.2.2.2 ∧ D = 0)) _ ?_ Fu (n - a + 2) _ (Or.inl ⟨f, a, x, rfl, hK, h0, rfl⟩) (by omega)
  clear hK h0
  rintro D ⟨v2, v3, J, M⟩ self hinv hself
  dsimp only at hinv
  show wp (b_X12_operand_4 Fu self v2 v3 J M) _
  unfold b_X12_operand_4
  rcases hinv with ⟨f, a, x, rfl, hK, h0, hD⟩ | ⟨f, a, x, rfl, hK, h18, h40, hD⟩ | ⟨hB, hD⟩
  · have hg : J 75 14 = 0 := hK.1.1
    refine wp_n (by decide) (wp_Be (m_good1 hg) (wp_n (by decide) ?_))
    unfold w_X12_operand_18
    refine wp_loop (fun d (s : Int32 × Int32 × mIT × mLT) => ∃ k, s.2.1 = nI k ∧ ((∃ f a' x, oK I0 L0 c0 B n r a0 s.1 s.2.2.1 s.2.2.2 f a' x ∧ x.2.2.2.2.2 = k ∧ a ≤ a' ∧ d = n - a' + 1) ∨ (oF I0 L0 c0 B n r s.2.2.1 s.2.2.2 ∧ d = 0))) _ ?_ Fu (n - a + 1) _ ⟨0, rfl, Or.inl ⟨f, a, x, hK, h0, Nat.le_refl _, rfl⟩⟩ (by omega)
    clear hK h0 hg
    rintro d ⟨u2, u4, K, N⟩ self2 ⟨k, hk, hcase⟩ hself2
    dsimp only at hk hcase
    subst hk
    show wp (b_X12_operand_18 Fu self self2 u2 (nI k) K N) _
    have bad75 : ∀ (u2 : Int32) (K : mIT) (N : mLT), oF I0 L0 c0 B n r K N → wp (b_X12_operand_75 Fu self u2 K N) (oP I0 L0 c0 B n r a0) := fun u2 K N hB => by
      unfold b_X12_operand_75
      refine wp_Be (m_good0 (oF_ne hB)) (wp_p rfl ?_)
      unfold b_X12_operand_95 b_X12_operand_96
      exact wp_p rfl (hself 0 _ (by omega) (Or.inr (Or.inr ⟨hB, rfl⟩)))
    unfold b_X12_operand_18
    rcases hcase with ⟨f, a', x, hK, hn, hle, hd⟩ | ⟨hB, hd⟩
    · obtain ⟨hP, hi, hb, hd5, hs, hv, hf, hr, ha0⟩ := hK
      have hK : oK I0 L0 c0 B n r a0 u2 K N f a' x := ⟨hP, hi, hb, hd5, hs, hv, hf, hr, ha0⟩
      obtain ⟨hg, h15, hT, hx, hfr, hlf⟩ := hP
      dsimp only at hg h15 hT hx hfr hlf
      have hlen := (xI_len hi).1
      have ha := hT.2.1
      have hk6 : k ≤ 6 := by rw [← hn]; exact hi.2.2.2.2.1
      have hSe : exS B n a' x = exOd B n a' x := if_neg hs
      have hb' := hb
      unfold xB at hb'
      have good75 : ¬ (x.2.2.1 = 2 ∧ tW B n a' = 18) → wp (b_X12_operand_75 Fu self u2 K N) (oP I0 L0 c0 B n r a0) := fun h18 => by
        unfold b_X12_operand_75
        refine wp_Be (m_good1 hg) (wp_n (by decide) (wp_Be (m_isSgn (c := 40) ht hT (by omega)) ?_))
        by_cases c40 : sg B n a' 40 = true
        · rw [if_pos c40]
          refine wp_n (by decide) ?_
          unfold b_X12_operand_96
          refine wp_n (by decide) (wp_B (m_waits (c := 0) rfl hx.1 (by omega)) ?_)
          rintro K1 ⟨w1, w2⟩
          refine wp_B (m_nx hF ht (mTk_c hT w2)) ?_
          rintro ⟨K2, N2⟩ ⟨y1, y2, y3⟩
          dsimp only at y1 y2 y3 ⊢
          have eod : exS B n a' x = .inr (x.1, 0 :: x.2.1, 2, x.2.2.2.1 + 1, chU x.2.2.2.2.1 (x.2.2.2.1 + 1) false, 0) := by
            rw [hSe]
            unfold exOd
            rw [if_neg (by omega), if_neg h18, if_pos c40]
          obtain ⟨g1, g2, g3, g4, g5, g6⟩ := exR_go hf (exDn_od hs) hi eod
          have gb := exS_b hi eod hb
          obtain ⟨z1, z2, z3⟩ := mXs_w hx w1 w2 y2
          have k14 : K2 75 14 = 0 := by rw [y2.1 14 (by omega), w2.1 14 (by omega) (by omega)]; exact hg
          have k15 : K2 75 15 = I0 75 15 := by rw [y2.1 15 (by omega), w2.1 15 (by omega) (by omega)]; exact h15
          have kf : mXf c0 I0 K2 := mXf_s (mXf_c hfr w2) y2
          have kl : lF L0 N2 := lF_t hlf y3
          by_cases d4 : x.2.2.2.1 ≤ 4
          · refine wp_Be (m_deep1 (l := x.2.2.2.1 + 1) z2 (by omega)) ?_
            generalize hK3 : mU (mU K2 75 34 (nI (x.2.2.2.1 + 1 + 1))) 88 (x.2.2.2.1 + 1 + 1) 0 = K3
            have q5 : ∀ j, j ≠ 34 → K3 75 j = K2 75 j := fun j hj => by rw [← hK3, mU_other (by decide), q_Uj hj]
            have q34 : K3 75 34 = nI (x.2.2.2.1 + 1 + 1) := by rw [← hK3, mU_other (by decide), q_U]
            have qc : ∀ c, c ≠ 75 → c ≠ 88 → K3 c = K2 c := fun c a b => by rw [← hK3, mU_other b, mU_other a]
            have q88 : ∀ d, d ≤ x.2.2.2.1 + 1 → d ≤ 6 → K3 88 (d + 1) = if chU x.2.2.2.2.1 (x.2.2.2.1 + 1) false d then 1 else 0 := fun d e1 e2 => by
              unfold chU
              rw [← hK3]
              by_cases e3 : d = x.2.2.2.1 + 1
              · rw [if_pos e3, e3, q_U]; rfl
              · rw [if_neg e3, q_Uj (by omega), mU_other (by decide)]
                exact z3 d (by omega) e2
            have qf : mXf c0 K2 K3 := ⟨fun j hj => q5 j (by omega), fun i _ => by rw [qc 86 (by decide) (by decide)], fun c a _ _ e => qc c a e⟩
            have qT : mTk K3 N2 B n (nx B n a') := mTk_k y1 (fun j j1 j2 => q5 j (by omega)) (qc 80 (by decide) (by decide))
            have qR : mRs K3 c0 x.1 (0 :: x.2.1) := mRs_k z1 (q5 32 (by decide)) (q5 33 (by decide)) (qc 86 (by decide) (by decide)) (qc 87 (by decide) (by decide))
            have hK4 : oK I0 L0 c0 B n r a0 1 K3 N2 (f - 1) (nx B n a') (x.1, 0 :: x.2.1, 2, x.2.2.2.1 + 1, chU x.2.2.2.2.1 (x.2.2.2.1 + 1) false, 0) := ⟨⟨by dsimp only; rw [q5 14 (by decide)]; exact k14, by dsimp only; rw [q5 15 (by decide)]; exact k15, qT, ⟨qR, q34, q88⟩, mXf_t kf qf, kl⟩, g6, gb, by dsimp only; omega, show (2 : Nat) ≠ 0 by decide, rfl, g2, by rw [← g1]; exact hr, by omega⟩
            exact hself (n - nx B n a' + 2) _ (by omega) (Or.inl ⟨f - 1, nx B n a', _, rfl, hK4, rfl, rfl⟩)
          · refine wp_Be (m_deep0 ht y1 k14 z2 (by omega) (by omega)) ?_
            have hB : oF I0 L0 c0 B n r (mU (mU K2 75 14 (nI (if tK B n (nx B n a') = 2 ∨ tK B n (nx B n a') = 1 ∨ sg B n (nx B n a') 40 = true then 2 else 1))) 75 15 (nI (nx B n a'))) N2 := by
              refine ⟨(if tK B n (nx B n a') = 2 ∨ tK B n (nx B n a') = 1 ∨ sg B n (nx B n a') 40 = true then 2 else 1, nx B n a'), ?_, ?_, ?_, ?_, ?_, mXf_u (mXf_u kf (by omega)) (by omega), kl⟩
              · rw [← hr, g1]
                refine exR_bad g2 (exDn_od (show (2 : Nat) ≠ 0 by decide)) ?_
                show exOd B n (nx B n a') _ = _
                unfold exOd
                rw [if_pos (by dsimp only; omega)]
              · dsimp only
                rw [q_Uj (by decide), q_U]
              · dsimp only
                split <;> omega
              · dsimp only
                rw [q_U]
              · refine mRe_i (mRs_w (mRs_w z1 (by omega)) (by omega)) (xI_vC g6) ?_ ?_
                · have := (xI_len g6).1
                  dsimp only at this
                  omega
                · unfold xB at gb
                  dsimp only at gb
                  omega
            exact hself 0 _ (by omega) (Or.inr (Or.inr ⟨hB, rfl⟩))
        · rw [if_neg c40]
          refine wp_p rfl ?_
          unfold b_X12_operand_95 b_X12_operand_96
          exact wp_p rfl (hself 1 _ (by omega) (Or.inr (Or.inl ⟨f, a', x, rfl, hK, h18, c40, rfl⟩)))
      refine wp_Be (m_good1 hg) (wp_n (by decide) ?_)
      by_cases s2 : x.2.2.1 = 2
      · rw [if_pos s2] at hv
        refine wp_n (by rw [hv]; decide) (wp_Be (m_knownWord hF ht hT) (wp_i (kN_is (v := 18) (by omega)) (fun c18 => ?_) (fun c18 => good75 (fun q => c18 q.2))))
        have eo : exOd B n a' x = if x.2.2.2.2.2 + 1 ≤ 6 then .inr (x.1, 30 :: x.2.1, 2, x.2.2.2.1, x.2.2.2.2.1, x.2.2.2.2.2 + 1) else .inl (2, a') := by
          unfold exOd
          rw [if_neg (by omega), if_pos ⟨s2, c18⟩]
        refine wp_i (q_eq (b := 6) (by omega) (by omega)) (fun k6 => ?_) (fun k6 => ?_)
        · rw [if_neg (by omega)] at eo
          refine wp_Be (m_wrong hg) ?_
          have hB : oF I0 L0 c0 B n r (mU (mU K 75 14 2) 75 15 (K 75 20)) N := by
            refine ⟨(2, a'), ?_, ?_, by omega, ?_, ?_, mXf_u (mXf_u hfr (by omega)) (by omega), hlf⟩
            · rw [← hr]
              exact exR_bad hf (exDn_od hs) (by rw [hSe]; exact eo)
            · dsimp only
              rw [q_Uj (by decide), q_U]; rfl
            · dsimp only
              rw [q_U]; exact hT.2.2.2.2.1
            · exact mRe_i (mRs_w (mRs_w hx.1 (by omega)) (by omega)) (xI_vC hi) (by omega) (by omega)
          unfold b_X12_operand_50
          rw [q_1]
          exact wp_Be (m_good0 (oF_ne hB)) (wp_p rfl (hself2 0 _ (by omega) ⟨k + 1, rfl, Or.inr ⟨hB, rfl⟩⟩))
        · rw [if_pos (by omega)] at eo
          rw [← hSe] at eo
          unfold b_X12_operand_50
          rw [q_1]
          refine wp_Be (m_good1 hg) (wp_n (by decide) (wp_B (m_waits (c := 30) rfl hx.1 (by omega)) ?_))
          rintro K1 ⟨w1, w2⟩
          refine wp_B (m_nx hF ht (mTk_c hT w2)) ?_
          rintro ⟨K2, N2⟩ ⟨y1, y2, y3⟩
          dsimp only at y1 y2 y3 ⊢
          obtain ⟨g1, g2, g3, g4, g5, g6⟩ := exR_go hf (exDn_od hs) hi eo
          have gb := exS_b hi eo hb
          have z := mXs_w hx w1 w2 y2
          have hK4 : oK I0 L0 c0 B n r a0 u2 K2 N2 (f - 1) (nx B n a') (x.1, 30 :: x.2.1, 2, x.2.2.2.1, x.2.2.2.2.1, x.2.2.2.2.2 + 1) := ⟨⟨by dsimp only; rw [y2.1 14 (by omega), w2.1 14 (by omega) (by omega)]; exact hg, by dsimp only; rw [y2.1 15 (by omega), w2.1 15 (by omega) (by omega)]; exact h15, y1, z, mXf_s (mXf_c hfr w2) y2, lF_t hlf y3⟩, g6, gb, hd5, (show (2 : Nat) ≠ 0 by decide), hv, g2, by rw [← g1]; exact hr, by omega⟩
          exact hself2 (n - nx B n a' + 1) _ (by omega) ⟨k + 1, rfl, Or.inl ⟨f - 1, nx B n a', _, hK4, by dsimp only; rw [hn], by omega, rfl⟩⟩
      · rw [if_neg s2] at hv
        exact wp_p hv (good75 (fun q => s2 q.1))
    · exact wp_Be (m_good0 (oF_ne hB)) (wp_p rfl (bad75 _ _ _ hB))
  · obtain ⟨⟨hg, h15, hT, hx, hfr, hlf⟩, hi, hb, hd5, hs, hv, hf, hr, ha0⟩ := hK
    dsimp only at hg h15 hT hx hfr hlf
    have hSe : exS B n a x = exOd B n a x := if_neg hs
    refine wp_p rfl (wp_B (m_part hF ht hT hg hx hi hb hd5 h18 h40) ?_)
    rintro y hy
    refine wp_s ?_
    cases e : exOd B n a x with
    | inl ee =>
      rw [e] at hy
      exact Or.inl ⟨ee, by rw [← hr]; exact exR_bad hf (exDn_od hs) (by rw [hSe]; exact e), mPo_t hfr hlf h15 hy⟩
    | inr x' =>
      rw [e] at hy
      have es : exS B n a x = .inr x' := by rw [hSe]; exact e
      obtain ⟨g1, g2, g3, g4, g5, g6⟩ := exR_go hf (exDn_od hs) hi es
      exact Or.inr ⟨f - 1, nx B n a, x', g2, by rw [← g1]; exact hr, exOd_st e h18 h40, g6, exS_b hi es hb, mPo_t hfr hlf h15 hy, by omega⟩
  · have hn := oF_ne hB
    exact wp_f (fun _ => wp_Be (m_part0 hn) (wp_s (Or.inl hB))) (fun _ => wp_Be (m_good0 hn) (wp_p rfl (wp_Be (m_part0 hn) (wp_s (Or.inl hB)))))
