/-! who hangs where -/
def hg (A : aPl) (row : Nat → Int32) (r : Nat) : Bool := decide (r < pR A) && decide (0 ≤ row (31 + r))
/-- which root hangs on a hook, 9999: none -/
def oh (A : aPl) (row : Nat → Int32) (h : Nat) : Nat := sFk (fun r => decide (row (31 + r) = nI h)) 0 (pR A)
def uh (A : aPl) (row : Nat → Int32) (h : Nat) : Bool := decide (oh A row h ≠ 9999)
def nB (A : aPl) (row : Nat → Int32) : Nat := fb_ct (uh A row) 6
theorem sFk_t {p : Nat → Bool} : ∀ k i, sFk p i k ≠ 9999 → i + k < 9999 → p (sFk p i k) = true
  | 0, _, h, _ => absurd rfl h
  | k + 1, i, h, hb => by
    rw [sFk_s] at h ⊢
    by_cases e : p i = true
    · rw [if_pos e]; exact e
    · rw [if_neg e] at h ⊢
      exact sFk_t k (i + 1) h (by omega)
theorem sFk_n {p : Nat → Bool} : ∀ k i, sFk p i k = 9999 → i + k < 9999 → ∀ j, i ≤ j → j < i + k → p j = false
  | 0, _, _, _, j, h1, h2 => by omega
  | k + 1, i, h, hb, j, h1, h2 => by
    rw [sFk_s] at h
    by_cases e : p i = true
    · rw [if_pos e] at h; omega
    · rw [if_neg e] at h
      by_cases e2 : j = i
      · subst e2; exact Bool.eq_false_iff.mpr e
      · exact sFk_n k (i + 1) h (by omega) j (by omega) (by omega)
theorem oh_u {A : aPl} {D h r : Nat} {row : Nat → Int32} (ho : okPl A) (hk : okR A D row) (hh : h < 6) (hr : r < pR A) (e : row (31 + r) = nI h) : oh A row h = r := by
  have h10 := ho.1
  have hb := sFk_b (p := fun r => decide (row (31 + r) = nI h)) (pR A) 0
  by_cases n : oh A row h = 9999
  · have := sFk_n (p := fun r => decide (row (31 + r) = nI h)) (pR A) 0 n (by omega) r (by omega) (by omega)
    rw [decide_eq_true e] at this
    exact nomatch this
  · have h1 : oh A row h < pR A := by
      rcases hb with e2 | e2
      · exact absurd e2 n
      · unfold oh; omega
    have h2 := sFk_t (p := fun r => decide (row (31 + r) = nI h)) (pR A) 0 n (by omega)
    rw [decide_eq_true_iff] at h2
    apply Classical.byContradiction
    intro e3
    exact hk.2.2 r (oh A row h) hr h1 (fun e4 => e3 e4.symm) (by rw [e, q_0le (by omega)]; trivial) (by rw [e]; exact h2.symm)
theorem oh_lt {A : aPl} {h : Nat} {row : Nat → Int32} (n : oh A row h ≠ 9999) : oh A row h < pR A := by
  rcases sFk_b (p := fun r => decide (row (31 + r) = nI h)) (pR A) 0 with e2 | e2
  · exact absurd e2 n
  · unfold oh; omega
theorem oh_p {A : aPl} {h : Nat} {row : Nat → Int32} (ho : okPl A) (n : oh A row h ≠ 9999) : row (31 + oh A row h) = nI h := by
  have h10 := ho.1
  have h2 := sFk_t (p := fun r => decide (row (31 + r) = nI h)) (pR A) 0 n (by omega)
  rw [decide_eq_true_iff] at h2
  exact h2
theorem sOn_oh {A : aPl} {h : Nat} {row : Nat → Int32} (ho : okPl A) : sOn A row (nI h) = kN (oh A row h) := sFk_I _ _ (by have := ho.1; omega)
theorem ct_u {A : aPl} {D : Nat} {row : Nat → Int32} (hk : okR A D row) : ∀ n, n ≤ pR A → fb_ct (fun h => decide (∃ r, r < n ∧ row (31 + r) = nI h)) 6 = fb_ct (hg A row) n := by
  intro n
  induction n with
  | zero =>
    intro _
    rw [fb_ct, fb_ct_zero]
    intro k _
    exact decide_eq_false (fun ⟨r, h, _⟩ => absurd h (by omega))
  | succ n ih =>
    intro hn
    have ih := ih (by omega)
    rw [fb_ct_succ (hg A row) n, ← ih]
    obtain ⟨s, hh, f, g1, g2, g3, g4, g5, g6, g7, g8⟩ := hk.2.1 n (by omega)
    have same : ¬ 0 ≤ row (31 + n) → fb_ct (fun h => decide (∃ r, r < n + 1 ∧ row (31 + r) = nI h)) 6 = fb_ct (fun h => decide (∃ r, r < n ∧ row (31 + r) = nI h)) 6 := fun e => by
      refine fb_ct_cong (fun k hk6 => ?_)
      rw [decide_eq_decide]
      constructor
      · rintro ⟨r, h1, h2⟩
        by_cases e2 : r = n
        · subst e2; exact absurd (by rw [h2, q_0le (by omega)]; trivial) e
        · exact ⟨r, by omega, h2⟩
      · rintro ⟨r, h1, h2⟩; exact ⟨r, by omega, h2⟩
    unfold hg
    rw [decide_eq_true (show n < pR A by omega), Bool.true_and]
    rcases g8 with e | e | ⟨k, hk6, e⟩
    · rw [same (by rw [e]; decide), e, if_neg (by decide), Nat.add_zero]
    · rw [same (by rw [e]; decide), e, if_neg (by decide), Nat.add_zero]
    · rw [e, decide_eq_true (by rw [q_0le (by omega)]; trivial), if_pos rfl]
      have h1 := fb_ct_upd (fun h => decide (∃ r, r < n ∧ row (31 + r) = nI h)) true hk6
      have h2 : decide (∃ r, r < n ∧ row (31 + r) = nI k) = false := by
        apply decide_eq_false
        rintro ⟨r, h3, h4⟩
        exact hk.2.2 n r (by omega) (by omega) (by omega) (by rw [e, q_0le (by omega)]; trivial) (by rw [e, h4])
      rw [h2, if_neg (by simp), if_pos rfl, Nat.add_zero] at h1
      rw [← h1]
      refine fb_ct_cong (fun j hj => ?_)
      by_cases e3 : j = k
      · subst e3; rw [if_pos rfl]; exact decide_eq_true ⟨n, by omega, e⟩
      · rw [if_neg e3, decide_eq_decide]
        constructor
        · rintro ⟨r, h3, h4⟩
          by_cases e2 : r = n
          · subst e2; rw [e, q_eq (by omega) (by omega)] at h4; omega
          · exact ⟨r, by omega, h4⟩
        · rintro ⟨r, h3, h4⟩; exact ⟨r, by omega, h4⟩
theorem nB_hg {A : aPl} {D : Nat} {row : Nat → Int32} (ho : okPl A) (hk : okR A D row) : nB A row = fb_ct (hg A row) (pR A) := by
  have h10 := ho.1
  rw [← ct_u hk (pR A) (Nat.le_refl _)]
  unfold nB
  refine fb_ct_cong (fun h hh => ?_)
  unfold uh
  rw [decide_eq_decide]
  constructor
  · intro e; exact ⟨oh A row h, oh_lt e, oh_p ho e⟩
  · rintro ⟨r, h1, h2⟩; rw [oh_u ho hk hh h1 h2]; omega
theorem m_bells {Fu : Nat} {I : mIT} {D : Nat} {A : aPl} {row : Nat → Int32} (hF : 701 < Fu) (ho : okPl A) (hk : okR A D row) (h : mQ I A row) : wp (f_X12_bells Fu I) (fun y => y.1 = nI (nB A row) ∧ (∀ c, c ≠ 93 → y.2 c = I c) ∧ ∀ h, h < 6 → oh A row h ≠ 9999 → y.2 93 (fb_ct (uh A row) h) = nI (oh A row h)) := by
  have h10 := ho.1
  unfold f_X12_bells w_X12_bells_4
  refine wp_loop (fun dd (s : Int32 × Int32 × mIT) => ∃ (i : Nat) (J : mIT), s = (nI (fb_ct (uh A row) i), nI i, J) ∧ dd = 6 - i ∧ i ≤ 6 ∧ (∀ c, c ≠ 93 → J c = I c) ∧ ∀ h, h < i → oh A row h ≠ 9999 → J 93 (fb_ct (uh A row) h) = nI (oh A row h)) _ ?_ Fu 6 _ ⟨0, I, rfl, rfl, by omega, fun _ _ => rfl, fun _ hj => absurd hj (by omega)⟩ (by omega)
  rintro dd s self ⟨i, J, rfl, hdd, hi, f1, f2⟩ hself
  have hJ : mQ J A row := ⟨mPl_fr h.1 (fun j _ _ => by rw [f1 75 (by decide)]) (f1 _ (by decide)) (f1 _ (by decide)) (f1 _ (by decide)) (f1 _ (by decide)), fun j hj => by rw [f1 89 (by decide)]; exact h.2.1 j hj, by rw [f1 75 (by decide)]; exact h.2.2⟩
  have hle := fb_ct_le (uh A row) i
  show wp (b_X12_bells_4 Fu self _ (nI i) J) _
  unfold b_X12_bells_4
  refine wp_i (ge_6 (by omega)) (fun hle6 => ?_) (fun hlt => ?_)
  · have hie : i = 6 := by omega
    subst hie
    exact wp_s ⟨rfl, f1, f2⟩
  · refine wp_Be (m_whereIn (b := 0) hF hJ.1 ho (by omega) hJ.2.1) ?_
    unfold w_X12_bells_20
    refine wp_loop (fun dd (s : Int32 × Int32 × Int32 × Int32 × mIT) => ∃ (q : Nat) (K : mIT), s = (nI (fb_ct (uh A row) i), nI i, mkB (sWh A row (nI i)) 10, nI q, K) ∧ dd = pR A - q ∧ q ≤ pR A ∧ (∀ c, c ≠ 93 → K c = I c) ∧ (∀ h, h < i → oh A row h ≠ 9999 → K 93 (fb_ct (uh A row) h) = nI (oh A row h)) ∧ (oh A row i < q → K 93 (fb_ct (uh A row) i) = nI (oh A row i))) _ ?_ Fu (pR A) _ ⟨0, J, rfl, rfl, by omega, f1, f2, fun e => absurd e (by omega)⟩ (by omega)
    rintro dq s self2 ⟨q, K, rfl, hdq, hq, g1, g2, g3⟩ hself2
    have hK1 : K 75 1 = nI (pR A) := by rw [g1 75 (by decide)]; exact h.1.1
    show wp (b_X12_bells_20 Fu self self2 _ (nI i) _ (nI q) K) _
    unfold b_X12_bells_20
    refine wp_i (by rw [hK1, q_le (by omega) (by omega)]) (fun hle2 => ?_) (fun hlt2 => ?_)
    · have hqe : q = pR A := by omega
      subst hqe
      have hz : (mkB (sWh A row (nI i)) 10 = 0) = (oh A row i = 9999) := by
        apply propext
        constructor
        · intro e
          apply Classical.byContradiction
          intro n
          have e2 : bt (mkB (sWh A row (nI i)) 10) (oh A row i) = false := by rw [e]; exact b_0 _
          have := oh_lt n
          rw [b_mkB (by omega) (by omega), decide_eq_true (show oh A row i < 10 by omega), Bool.true_and] at e2
          unfold sWh at e2
          rw [decide_eq_true this, oh_p ho n, decide_eq_true rfl] at e2
          exact nomatch e2
        · intro e
          apply b_ext
          intro k hk32
          rw [b_0, b_mkB (by omega) hk32]
          by_cases e2 : sWh A row (nI i) k = true
          · exfalso
            unfold sWh at e2
            rw [Bool.and_eq_true, decide_eq_true_iff, decide_eq_true_iff] at e2
            have := oh_u ho hk (by omega) e2.1 e2.2
            omega
          · rw [Bool.eq_false_iff.mpr e2, Bool.and_false]
      refine wp_i hz (fun e => ?_) (fun e => ?_)
      · refine hself (6 - (i + 1)) _ (by omega) ⟨i + 1, K, ?_, rfl, by omega, g1, fun h1 hh hn => ?_⟩
        · rw [fb_ct_succ, q_1, q_p0]
          rw [show uh A row i = false from decide_eq_false (fun w => w e), if_neg (by simp)]
          rfl
        · by_cases e3 : h1 = i
          · subst e3; exact absurd e hn
          · exact g2 h1 (by omega) hn
      · have hl := oh_lt e
        refine hself (6 - (i + 1)) _ (by omega) ⟨i + 1, K, ?_, rfl, by omega, g1, fun h1 hh hn => ?_⟩
        · rw [fb_ct_succ, q_1, q_1, show uh A row i = true from decide_eq_true e, if_pos rfl]
        · by_cases e3 : h1 = i
          · subst e3; exact g3 hl
          · exact g2 h1 (by omega) hn
    · have hq2 : q < pR A := by omega
      refine wp_i (b_at1 (by omega) _) (fun e => ?_) (fun e => ?_)
      · rw [b_mkB (by omega) (by omega), decide_eq_true (by omega : q < 10), Bool.true_and] at e
        unfold sWh at e
        rw [Bool.and_eq_true, decide_eq_true_iff, decide_eq_true_iff] at e
        have e5 := oh_u ho hk (by omega) e.1 e.2
        simp (disch := omega) only [q_GI, q_cl]
        refine hself2 (pR A - (q + 1)) _ (by omega) ⟨q + 1, _, by rw [q_1], rfl, by omega, fun c hc => by rw [mU_other hc]; exact g1 c hc, fun h1 hh hn => ?_, fun _ => by rw [q_U, e5]⟩
        rw [q_Uj]
        · exact g2 h1 hh hn
        · intro e6
          exact absurd (fb_ct_kth_one (p := uh A row) (i := h1) (j := i) (decide_eq_true hn) (decide_eq_true (by omega)) e6) (by omega)
      · rw [b_mkB (by omega) (by omega), decide_eq_true (by omega : q < 10), Bool.true_and] at e
        refine hself2 (pR A - (q + 1)) _ (by omega) ⟨q + 1, K, by rw [q_1], rfl, by omega, g1, g2, fun e7 => ?_⟩
        by_cases e8 : oh A row i = q
        · exfalso
          apply e
          unfold sWh
          have := oh_p ho (show oh A row i ≠ 9999 by omega)
          rw [e8] at this
          rw [decide_eq_true hq2, this, decide_eq_true rfl]
          rfl
        · exact g3 (by omega)
theorem c_bitsAt {Fu : Nat} {I : mIT} {R : mRT} {p n : Nat} {A : aPl} {row : Nat → Int32} {v : Int32} (hF : 701 < Fu) (ho : okPl A) (h : cQ I R p A row n) : f_X11_bitsAt Fu R I v = some (mkB (sWh A row v) 10) := by
  have h10 := ho.1
  rw [← mkB_10 h10 sWh_o]
  unfold f_X11_bitsAt w_X11_bitsAt_4
  refine q_for (fun i => (v, mkB (sWh A row v) i, nI i)) (pR A) _ ?_ ?_ Fu (by omega)
  · intro i hi self
    show b_X11_bitsAt_4 Fu R I self v (mkB (sWh A row v) i) (nI i) = _
    unfold b_X11_bitsAt_4
    rw [h.1, q_B, h.2.2.1.1, if_neg (by rw [q_le (by omega) (by omega)]; omega), c_place (by omega), q_B, r0 h.2.2.2.1 (lv_31 hi), q_1, mkB_s]
    have e : sWh A row v i = decide (row (31 + i) = v) := by unfold sWh; rw [decide_eq_true hi, Bool.true_and]
    rw [e]
    by_cases e2 : row (31 + i) = v
    · rw [if_pos e2, decide_eq_true e2, if_pos rfl]; rfl
    · rw [if_neg e2, decide_eq_false e2, if_neg (by simp)]
  · intro self
    show b_X11_bitsAt_4 Fu R I self v (mkB (sWh A row v) (pR A)) (nI (pR A)) = _
    unfold b_X11_bitsAt_4
    rw [h.1, q_B, h.2.2.1.1, if_pos (by rw [q_le (by omega) (by omega)]; omega)]
theorem low_b : ∀ n, n < 11 → ∀ i, i < 32 → bt (((1 : Int32) <<< (nI n &&& 31)) - 1) i = decide (i < n) := by decide +kernel
theorem c_hanging {Fu : Nat} {I : mIT} {R : mRT} {p n D : Nat} {A : aPl} {row : Nat → Int32} (hF : 701 < Fu) (ho : okPl A) (hk : okR A D row) (h : cQ I R p A row n) : f_X11_hangingBits Fu R I = some (mkB (hg A row) 10) := by
  have h10 := ho.1
  unfold f_X11_hangingBits
  rw [h.1, q_B, c_bitsAt hF ho h, q_B, c_bitsAt hF ho h, q_B, h.2.2.1.1]
  congr 1
  apply b_ext
  intro i hi
  rw [b_and, b_and, b_xm1 _ hi, b_xm1 _ hi, low_b _ (by omega) i hi, b_mkB (by omega) hi, b_mkB (by omega) hi, b_mkB (by omega) hi]
  unfold sWh hg
  by_cases e : i < pR A
  · obtain ⟨s, hh, f, g1, g2, g3, g4, g5, g6, g7, g8⟩ := hk.2.1 i e
    rw [decide_eq_true e, decide_eq_true (by omega : i < 10)]
    simp only [Bool.true_and]
    rcases g8 with e2 | e2 | ⟨k, hk6, e2⟩
    · rw [e2]; decide
    · rw [e2]; decide
    · rw [e2, decide_eq_false (by rw [q_eqm1 (by omega)]; simp), decide_eq_false (by rw [q_eqm2 (by omega)]; simp), decide_eq_true (by rw [q_0le (by omega)]; trivial)]; rfl
  · rw [decide_eq_false e]
    simp only [Bool.false_and, Bool.and_false]
theorem ex_bits (p : Nat → Bool) : ∀ k, ∃ n, n < 2 ^ k ∧ ∀ r, r < k → n.testBit r = p r := by
  intro k
  induction k with
  | zero => exact ⟨0, by decide, fun r h => absurd h (by omega)⟩
  | succ k ih =>
    obtain ⟨n, h1, h2⟩ := ih
    by_cases e : p k = true
    · refine ⟨2 ^ k + n, by rw [Nat.pow_succ]; omega, fun r hr => ?_⟩
      by_cases e2 : r = k
      · subst e2
        rw [Nat.testBit_two_pow_add_eq, Nat.testBit_lt_two_pow h1, e]
        rfl
      · rw [Nat.testBit_two_pow_add_gt (by omega)]
        exact h2 r (by omega)
    · refine ⟨n, by rw [Nat.pow_succ]; omega, fun r hr => ?_⟩
      by_cases e2 : r = k
      · subst e2
        rw [Nat.testBit_lt_two_pow h1]
        exact (Bool.eq_false_iff.mpr e).symm
      · exact h2 r (by omega)
