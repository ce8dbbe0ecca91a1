/-! bells, by hooks -/
def bR (A : aPl) (row : Nat → Int32) (j : Nat) : Nat := oh A row (sFk (fun h => uh A row h && decide (fb_ct (uh A row) h = j)) 0 6)
theorem uh_t {A : aPl} {row : Nat → Int32} {h : Nat} : uh A row h = true ↔ oh A row h ≠ 9999 := by unfold uh; rw [decide_eq_true_iff]
theorem bR_h {A : aPl} {row : Nat → Int32} {h : Nat} (hh : h < 6) (hu : uh A row h = true) : bR A row (fb_ct (uh A row) h) = oh A row h := by
  unfold bR
  have hne : sFk (fun k => uh A row k && decide (fb_ct (uh A row) k = fb_ct (uh A row) h)) 0 6 ≠ 9999 := fun e => by
    have := sFk_n (p := fun k => uh A row k && decide (fb_ct (uh A row) k = fb_ct (uh A row) h)) 6 0 e (by omega) h (by omega) (by omega)
    rw [hu, decide_eq_true rfl] at this
    exact nomatch this
  have t := sFk_t (p := fun k => uh A row k && decide (fb_ct (uh A row) k = fb_ct (uh A row) h)) 6 0 hne (by omega)
  rw [Bool.and_eq_true, decide_eq_true_iff] at t
  rw [fb_ct_kth_one (p := uh A row) t.1 hu t.2]
theorem bR_ex {A : aPl} {row : Nat → Int32} {j : Nat} (hj : j < nB A row) : ∃ h, h < 6 ∧ uh A row h = true ∧ fb_ct (uh A row) h = j ∧ bR A row j = oh A row h := by
  obtain ⟨h, h1, h2, h3⟩ := fb_ct_kth (p := uh A row) hj
  exact ⟨h, h1, h2, h3, by rw [← h3]; exact bR_h h1 h2⟩
theorem bR_inj {A : aPl} {row : Nat → Int32} {i j : Nat} (ho : okPl A) (hi : i < nB A row) (hj : j < nB A row) (e : bR A row i = bR A row j) : i = j := by
  obtain ⟨h, h1, h2, h3, h4⟩ := bR_ex hi
  obtain ⟨k, g1, g2, g3, g4⟩ := bR_ex hj
  have a := oh_p ho (uh_t.mp h2)
  have b := oh_p ho (uh_t.mp g2)
  rw [h4, g4] at e
  rw [e, b, q_eq (by omega) (by omega)] at a
  subst a
  rw [← h3, ← g3]
theorem bR_lt {A : aPl} {row : Nat → Int32} {j : Nat} (hj : j < nB A row) : bR A row j < pR A := by
  obtain ⟨h, h1, h2, h3, h4⟩ := bR_ex hj
  rw [h4]
  exact oh_lt (uh_t.mp h2)
theorem bR_hang {A : aPl} {row : Nat → Int32} {j : Nat} (ho : okPl A) (hj : j < nB A row) : 0 ≤ row (31 + bR A row j) := by
  obtain ⟨h, h1, h2, h3, h4⟩ := bR_ex hj
  rw [h4, oh_p ho (uh_t.mp h2), q_0le (by omega)]
  trivial
theorem bR_of {A : aPl} {D r : Nat} {row : Nat → Int32} (ho : okPl A) (hk : okR A D row) (hr : r < pR A) (h0 : 0 ≤ row (31 + r)) : ∃ j, j < nB A row ∧ bR A row j = r := by
  obtain ⟨s, hh, f, g1, g2, g3, g4, g5, g6, g7, g8⟩ := hk.2.1 r hr
  have h10 := ho.1
  rcases g8 with e | e | ⟨k, hk6, e⟩
  · rw [e] at h0; exact absurd h0 (by decide)
  · rw [e] at h0; exact absurd h0 (by decide)
  · have e2 := oh_u ho hk hk6 hr e
    have hu : uh A row k = true := uh_t.mpr (by omega)
    exact ⟨fb_ct (uh A row) k, ct_in hk6 hu, by rw [bR_h hk6 hu, e2]⟩
/-- what is loaded -/
def cR (J : mIT) (A : aPl) (row : Nat → Int32) (chs : Nat → Int32) : Prop := J 62 3 = nI (nB A row) ∧ J 62 4 = nI (pC A) ∧ (∀ j, j < pC A → J 64 j = chs j) ∧ ∀ j, j < nB A row → J 63 j = nI (bR A row j)
def chR (row : Nat → Int32) (j : Nat) : Int32 := row (41 + j)
theorem c_load {Fu : Nat} {I : mIT} {R : mRT} {p n : Nat} {A : aPl} {row : Nat → Int32} (hF : 701 < Fu) (ho : okPl A) (h : cQ I R p A row n) : wp (f_X7_load Fu I p 40) (fun J => cR J A row (chR row) ∧ ∀ c, c ≠ 62 → c ≠ 63 → c ≠ 64 → J c = I c) := by
  have h10 := ho.1
  have h12 := ho.2.2.2.2.1
  have hp := h.2.1
  have hp2 : p ≠ 62 ∧ p ≠ 63 ∧ p ≠ 64 := by rcases hp with rfl | rfl <;> decide
  unfold f_X7_load w_X7_load_7
  refine wp_loop (fun dd (s : Int32 × mIT) => ∃ (i : Nat) (J : mIT), s = (nI i, J) ∧ dd = 6 - i ∧ i ≤ 6 ∧ J 62 3 = nI (fb_ct (uh A row) i) ∧ (∀ h, h < i → uh A row h = true → J 63 (fb_ct (uh A row) h) = nI (oh A row h)) ∧ ∀ c, c ≠ 62 → c ≠ 63 → J c = I c) _ ?_ Fu 6 _ ⟨0, _, rfl, rfl, by omega, q_U _ _ _ _, fun _ hj => absurd hj (by omega), fun c c1 _ => mU_other c1⟩ (by omega)
  rintro dd s self ⟨i, J, rfl, hdd, hi, f1, f2, f3⟩ hself
  have hct := fb_ct_le (uh A row) i
  show wp (b_X7_load_7 Fu p 40 self (nI i) J) _
  unfold b_X7_load_7
  refine wp_i (ge_6 (by omega)) (fun hle => ?_) (fun hlt => ?_)
  · have hie : i = 6 := by omega
    subst hie
    unfold w_X7_load_86
    refine wp_loop (fun dd (s : Int32 × mIT) => ∃ (k : Nat) (K : mIT), s = (nI k, K) ∧ dd = 12 - k ∧ k ≤ 12 ∧ K 62 3 = nI (nB A row) ∧ K 62 4 = nI (pC A) ∧ (∀ j, j < k → j < pC A → K 64 j = chR row j) ∧ K 63 = J 63 ∧ ∀ c, c ≠ 62 → c ≠ 63 → c ≠ 64 → K c = I c) _ ?_ Fu 12 _ ⟨0, _, rfl, rfl, by omega, by rw [q_Uj (by decide)]; exact f1, by rw [q_U, f3 p hp2.1 hp2.2.1]; exact h.2.2.1.2.2.2.2.2.1, fun _ hj => absurd hj (by omega), mU_other (by decide), fun c c1 c2 _ => by rw [mU_other c1]; exact f3 c c1 c2⟩ (by omega)
    rintro dk s selfk ⟨k, K, rfl, hdk, hk12, g1, g2, g3, g4, g5⟩ hselfk
    show wp (b_X7_load_86 Fu p 40 selfk (nI k) K) _
    unfold b_X7_load_86
    refine wp_i (q_le (by omega) (by omega)) (fun hle2 => ?_) (fun hlt2 => ?_)
    · refine wp_s ⟨⟨g1, g2, fun j hj => g3 j (by omega) hj, fun j hj => ?_⟩, g5⟩
      obtain ⟨h', t1, t2, t3, t4⟩ := bR_ex hj
      rw [g4, ← t3, f2 h' t1 t2, t3, t4]
    · refine wp_Be (c_change (by omega)) ?_
      simp (disch := omega) only [q_GI, q_cl, q_1]
      refine hselfk (12 - (k + 1)) _ (by omega) ⟨k + 1, _, rfl, rfl, by omega, by rw [mU_other (by decide)]; exact g1, by rw [mU_other (by decide)]; exact g2, fun j hj hj2 => ?_, by rw [mU_other (by decide)]; exact g4, fun c c1 c2 c3 => by rw [mU_other c3]; exact g5 c c1 c2 c3⟩
      by_cases e : j = k
      · subst e
        rw [q_U, g5 (40 + 1) (by decide) (by decide) (by decide)]
        exact r0 h.2.2.2.1 (lv_41 hj2)
      · rw [q_Uj e]; exact g3 j (by omega) hj2
  · have hrow : rI A J (40 + 1) 0 row := fun j hj => by rw [f3 (40 + 1) (by decide) (by decide)]; exact h.2.2.2.1 j hj
    have hp3 : J p 3 = nI (pR A) := by rw [f3 p hp2.1 hp2.2.1]; exact h.2.2.1.1
    rw [hp3]
    refine wp_Be (c_rootOn hF h10 hrow) ?_
    rw [sOn_oh ho]
    unfold kN
    by_cases e : oh A row i = 9999
    · rw [if_pos e]
      refine wp_p rfl (hself (6 - (i + 1)) _ (by omega) ⟨i + 1, J, by rw [q_1], rfl, by omega, ?_, fun h' hh hu => ?_, f3⟩)
      · rw [f1, fb_ct_succ, show uh A row i = false from decide_eq_false (fun w => w e)]; rfl
      · by_cases e2 : h' = i
        · subst e2; exact absurd e (uh_t.mp hu)
        · exact f2 h' (by omega) hu
    · have hl := oh_lt e
      have hu : uh A row i = true := uh_t.mpr e
      rw [if_neg e]
      refine wp_n (by rw [q_eqm1 (by omega)]; simp) ?_
      refine wp_n (by rw [f1, q_lt0 (by omega)]; simp) (wp_n (by rw [f1, q_le (by omega) (by omega)]; omega) ?_)
      rw [f1]
      simp (disch := omega) only [q_GI, q_cl, q_1]
      refine hself (6 - (i + 1)) _ (by omega) ⟨i + 1, _, rfl, rfl, by omega, ?_, fun h' hh hu2 => ?_, fun c c1 c2 => by rw [mU_other c1, mU_other c2]; exact f3 c c1 c2⟩
      · rw [q_U, mU_other (by decide), f1, fb_ct_succ, hu, if_pos rfl, q_1]
      · rw [mU_other (by decide)]
        by_cases e2 : h' = i
        · subst e2; rw [q_U]
        · rw [q_Uj (fun e3 => absurd (fb_ct_kth_one (p := uh A row) hu2 hu e3) e2)]
          exact f2 h' (by omega) hu2
theorem c_bell {Fu : Nat} {x : Int32} {f : Nat → Nat} {q : Nat} (h : rp x f) (hf : ∀ q, q < 6 → f q < 6) (hq : q < 6) : f_X7_bellAt Fu x (nI q) = some (nI (f q)) := by
  unfold f_X7_bellAt
  rw [ml_3, rp_at h hf hq]
theorem c_one {Fu : Nat} {J : mIT} {A : aPl} {row chs : Nat → Int32} {x : Int32} {f : Nat → Nat} {i : Nat} (hF : 701 < Fu) (ho : okPl A) (hm : 0 < pC A) (h : cR J A row chs) (hx : rp x f) (hf : gdP (nB A row) f) (hi : i < 100000) : wp (f_X7_behindOne Fu J x (nI i)) (fun y => rp y (rgs (chs (i % pC A)) f (nB A row - 1))) := by
  have h12 := ho.2.2.2.2.1
  have hB : nB A row ≤ 6 := fb_ct_le _ 6
  have hmod : i % pC A < pC A := Nat.mod_lt _ hm
  have hne : (nI (pC A) != 0) = true := by rw [bne_iff_ne]; exact nI_ne0 hm (by omega)
  unfold f_X7_behindOne
  rw [h.2.1]
  refine wp_n (by rw [q_le0 (by omega)]; omega) (wp_n (by rw [q_lt0 (by omega)]; simp) (wp_G hne ?_))
  rw [pk_rem (by omega) hm (by omega)]
  refine wp_p (by rw [q_lt (by omega) (by omega)]; omega) (wp_G hne (wp_G (q_in (by omega) (by omega)) ?_))
  rw [q_cl (by omega), h.2.2.1 _ hmod]
  generalize chs (i % pC A) = ch
  unfold w_X7_behindOne_45
  refine wp_loop (fun dd (s : Int32 × Int32 × Int32) => ∃ (k : Nat) (y : Int32), s = (ch, y, nI k) ∧ dd = nB A row - 1 - k ∧ k ≤ nB A row - 1 ∧ rp y (rgs ch f k)) _ ?_ Fu (nB A row - 1) _ ⟨0, x, rfl, rfl, by omega, hx⟩ (by omega)
  rintro dd s self ⟨k, y, rfl, hdd, hk, g1⟩ hself
  have gg := rgs_good (ch := ch) hB hf k hk
  show wp (b_X7_behindOne_45 Fu J self ch y (nI k)) _
  unfold b_X7_behindOne_45
  rw [q_1]
  refine wp_i (by rw [h.1, q_le (by omega) (by omega)]) (fun hle => ?_) (fun hlt => ?_)
  · have hke : k = nB A row - 1 := by omega
    subst hke
    exact wp_s g1
  · refine wp_i (b_at1 (by omega) _) (fun e => ?_) (fun e => ?_)
    · refine wp_Be (c_bell g1 gg.1 (by omega)) (wp_Be (c_bell g1 gg.1 (by omega)) ?_)
      rw [ml_3]
      refine hself (nB A row - 1 - (k + 1)) _ (by omega) ⟨k + 1, _, rfl, rfl, by omega, ?_⟩
      rw [rgs, if_pos e]
      exact rp_sw g1 gg.1 (by omega)
    · refine hself (nB A row - 1 - (k + 1)) _ (by omega) ⟨k + 1, y, rfl, rfl, by omega, ?_⟩
      rw [rgs, if_neg e]
      exact g1
theorem c_rowB {Fu : Nat} {J : mIT} {A : aPl} {row chs : Nat → Int32} {k : Nat} (hF : 2000 < Fu) (ho : okPl A) (hm : 0 < pC A) (h : cR J A row chs) (hk : k < 1000) : wp (f_X7_rowBehind Fu J (nI k)) (fun y => rp y (pr chs (pC A) (nB A row) k)) := by
  have hB : nB A row ≤ 6 := fb_ct_le _ 6
  unfold f_X7_rowBehind w_X7_rowBehind_5
  refine wp_loop (fun dd (s : Int32 × Int32 × Int32) => ∃ (i : Nat) (y : Int32), s = (nI k, y, nI i) ∧ dd = k - i ∧ i ≤ k ∧ rp y (pr chs (pC A) (nB A row) i)) _ ?_ Fu k _ ⟨0, _, rfl, rfl, by omega, rp_0⟩ (by omega)
  rintro dd s self ⟨i, y, rfl, hdd, hi, g1⟩ hself
  show wp (b_X7_rowBehind_5 Fu J self (nI k) y (nI i)) _
  unfold b_X7_rowBehind_5
  refine wp_i (q_le (by omega) (by omega)) (fun hle => ?_) (fun hlt => ?_)
  · have hie : i = k := by omega
    subst hie
    exact wp_s g1
  · refine wp_B (c_one (by omega) ho hm h g1 (pr_good hB i) (by omega)) ?_
    intro z hz
    exact hself (k - (i + 1)) _ (by omega) ⟨i + 1, z, by rw [q_1], rfl, by omega, hz⟩
theorem c_numB {Fu : Nat} {J : mIT} {A : aPl} {row chs : Nat → Int32} {k : Nat} (hF : 2000 < Fu) (ho : okPl A) (hm : 0 < pC A) (h : cR J A row chs) (hk : k < 1000) : f_X7_numberBehind Fu J (nI k) = some (nI (dn (pr chs (pC A) (nB A row) k) (nB A row))) := by
  have hB : nB A row ≤ 6 := fb_ct_le _ 6
  obtain ⟨y, e, hy⟩ := c_rowB hF ho hm h hk
  have hg := pr_good (chs := chs) (m := pC A) hB k
  unfold f_X7_numberBehind
  rw [e, q_B]
  unfold w_X7_numberBehind_11
  refine q_for (fun i => (y, nI (dn (pr chs (pC A) (nB A row) k) i), nI i)) (nB A row) _ ?_ ?_ Fu (by omega)
  · intro i hi self
    show b_X7_numberBehind_11 Fu J self _ _ (nI i) = _
    unfold b_X7_numberBehind_11
    rw [h.1, if_neg (by rw [q_le (by omega) (by omega)]; omega), c_bell hy hg.1 (by omega), q_B, ml_10, nI_add, q_1]
    rfl
  · intro self
    show b_X7_numberBehind_11 Fu J self _ _ (nI (nB A row)) = _
    unfold b_X7_numberBehind_11
    rw [h.1, if_pos (by rw [q_le (by omega) (by omega)]; omega)]
theorem c_rootAt {Fu : Nat} {J : mIT} {A : aPl} {row chs : Nat → Int32} {k q : Nat} (hF : 2000 < Fu) (ho : okPl A) (hm : 0 < pC A) (h : cR J A row chs) (hk : k < 1000) (hq : q < nB A row) : f_X7_rootAt Fu J (nI k) (nI q) = some (nI (bR A row (pr chs (pC A) (nB A row) k q))) := by
  have hB : nB A row ≤ 6 := fb_ct_le _ 6
  obtain ⟨y, e, hy⟩ := c_rowB hF ho hm h hk
  have hg := pr_good (chs := chs) (m := pC A) hB k
  have h2 := hg.2.1 q hq
  unfold f_X7_rootAt
  rw [e, q_B, c_bell hy hg.1 (by omega), q_B, if_neg (by rw [q_le (by omega) (by omega)]; omega), q_GI (by omega) (by omega), q_cl (by omega), h.2.2.2 _ h2]
theorem c_len {Fu : Nat} {J : mIT} {A : aPl} {row chs : Nat → Int32} (hF : 701 < Fu) (ho : okPl A) (hm : 0 < pC A) (h : cR J A row chs) : f_X7_lengthRung Fu J = some (nI (ln chs (pC A) (nB A row))) := by
  have hB : nB A row ≤ 6 := fb_ct_le _ 6
  obtain ⟨l1, l2, l3, l4⟩ := ln_b (chs := chs) hB hm ho.2.2.2.2.1
  apply wp_q
  unfold f_X7_lengthRung w_X7_lengthRung_5
  refine wp_loop (fun dd (s : Int32 × Int32) => ∃ (i : Nat) (y : Int32), s = (y, nI i) ∧ dd = 72 - i ∧ i < ln chs (pC A) (nB A row) ∧ rp y (pr chs (pC A) (nB A row) i)) _ ?_ Fu 72 _ ⟨0, _, rfl, rfl, by omega, rp_0⟩ (by omega)
  rintro dd s self ⟨i, y, rfl, hdd, hi, g1⟩ hself
  show wp (b_X7_lengthRung_5 Fu J self y (nI i)) _
  unfold b_X7_lengthRung_5
  refine wp_n (by rw [ge_72 (by omega)]; omega) ?_
  refine wp_B (c_one hF ho hm h g1 (pr_good hB i) (by omega)) ?_
  intro z hz
  refine wp_i (rp_u hz rp_0 (pr_good (chs := chs) (m := pC A) hB (i + 1)).1 (fun _ h => h)) (fun e => ?_) (fun e => ?_)
  · refine wp_s ?_
    rw [q_1]
    by_cases e2 : i + 1 < ln chs (pC A) (nB A row)
    · have := l4 i e2
      rw [show isI (pr chs (pC A) (nB A row) (i + 1)) = true from e] at this
      exact nomatch this
    · rw [show i + 1 = ln chs (pC A) (nB A row) by omega]
  · refine hself (72 - (i + 1)) _ (by omega) ⟨i + 1, z, by rw [q_1], rfl, ?_, hz⟩
    apply Classical.byContradiction
    intro e2
    have e3 : i + 1 = ln chs (pC A) (nB A row) := by omega
    rw [← e3] at l3
    exact e l3
theorem tw_f {chs : Nat → Int32} {m n : Nat} (h : ∀ b, b < ln chs m n → dup chs m n b = false) : tw chs m n = false := decide_eq_false (fun ⟨b, h1, h2⟩ => by rw [h b h1] at h2; exact nomatch h2)
theorem tw_t {chs : Nat → Int32} {m n b : Nat} (h1 : b < ln chs m n) (h2 : dup chs m n b = true) : tw chs m n = true := decide_eq_true ⟨b, h1, h2⟩
theorem tL_le {chs : Nat → Int32} {m n : Nat} (hn : n ≤ 6) (hm : 0 < m) (hm2 : m ≤ 12) : tL chs m n ≤ 72 := by
  obtain ⟨l1, l2, l3, l4⟩ := ln_b (chs := chs) hn hm hm2
  unfold tL
  split <;> omega
theorem c_tL {Fu : Nat} {J : mIT} {A : aPl} {row chs : Nat → Int32} (hF : 701 < Fu) (ho : okPl A) (hm : 0 < pC A) (h : cR J A row chs) : wp (f_X7_trueLength Fu J) (fun y => y.1 = nI (tL chs (pC A) (nB A row)) ∧ ∀ c, c ≠ 65 → y.2 c = J c) := by
  have hB : nB A row ≤ 6 := fb_ct_le _ 6
  obtain ⟨l1, l2, l3, l4⟩ := ln_b (chs := chs) hB hm ho.2.2.2.2.1
  unfold f_X7_trueLength w_X7_trueLength_5
  refine wp_loop (fun dd (s : Int32 × Int32 × mIT) => ∃ (i : Nat) (y : Int32) (K : mIT), s = (y, nI i, K) ∧ dd = 72 - i ∧ i < ln chs (pC A) (nB A row) ∧ rp y (pr chs (pC A) (nB A row) i) ∧ (∀ j, j < i → rp (K 65 j) (pr chs (pC A) (nB A row) j)) ∧ (∀ b, b ≤ i → dup chs (pC A) (nB A row) b = false) ∧ ∀ c, c ≠ 65 → K c = J c) _ ?_ Fu 72 _ ⟨0, _, J, rfl, rfl, by omega, rp_0, fun _ hj => absurd hj (by omega), fun b hb => decide_eq_false (fun ⟨a, ha, _⟩ => absurd ha (by omega)), fun _ _ => rfl⟩ (by omega)
  rintro dd s self ⟨i, y, K, rfl, hdd, hi, g1, g2, g3, g4⟩ hself
  show wp (b_X7_trueLength_5 Fu self y (nI i) K) _
  unfold b_X7_trueLength_5
  refine wp_n (by rw [ge_72 (by omega)]; omega) (wp_n (by rw [q_le (by omega) (by omega)]; omega) ?_)
  rw [q_GI (by omega) (by omega), q_cl (by omega)]
  have hK : cR (mU K 65 i y) A row chs := by
    unfold cR
    rw [mU_other (by decide), mU_other (by decide), mU_other (by decide), g4 62 (by decide), g4 63 (by decide), g4 64 (by decide)]
    exact h
  have hf2 : ∀ c, c ≠ 65 → (mU K 65 i y) c = J c := fun c hc => by rw [mU_other hc]; exact g4 c hc
  have hrows : ∀ j, j < i + 1 → rp ((mU K 65 i y) 65 j) (pr chs (pC A) (nB A row) j) := fun j hj => by
    by_cases e : j = i
    · subst e; rw [q_U]; exact g1
    · rw [q_Uj e]; exact g2 j (by omega)
  generalize mU K 65 i y = M at hK hf2 hrows
  refine wp_B (c_one hF ho hm hK g1 (pr_good hB i) (by omega)) ?_
  intro z hz
  refine wp_i (rp_u hz rp_0 (pr_good (chs := chs) (m := pC A) hB (i + 1)).1 (fun _ h => h)) (fun e => ?_) (fun e => ?_)
  · have e3 : i + 1 = ln chs (pC A) (nB A row) := by
      apply Classical.byContradiction
      intro e2
      have := l4 i (by omega)
      rw [show isI (pr chs (pC A) (nB A row) (i + 1)) = true from e] at this
      exact nomatch this
    refine wp_s ⟨?_, hf2⟩
    unfold tL
    rw [tw_f (fun b hb => g3 b (by omega)), if_neg (by simp), ← e3, q_1]
  · have e3 : i + 1 < ln chs (pC A) (nB A row) := by
      apply Classical.byContradiction
      intro e2
      have e3 : i + 1 = ln chs (pC A) (nB A row) := by omega
      rw [← e3] at l3
      exact e l3
    have hrung : f_X7_isRung Fu M z (nI i) = some (if dup chs (pC A) (nB A row) (i + 1) then 1 else 0) := by
      apply wp_q
      unfold f_X7_isRung w_X7_isRung_2
      refine wp_loop (fun dd (s : Int32 × Int32) => ∃ (k : Nat), s = (z, dN k) ∧ dd = k ∧ k ≤ i + 1 ∧ ∀ j, k ≤ j → j < i + 1 → eqP (pr chs (pC A) (nB A row) j) (pr chs (pC A) (nB A row) (i + 1)) = false) _ ?_ Fu (i + 1) _ ⟨i + 1, by unfold dN; rw [if_neg (by omega)]; rfl, rfl, by omega, fun j h1 h2 => absurd h1 (by omega)⟩ (by omega)
      rintro dk s selfk ⟨k, rfl, hdk, hk, t1⟩ hselfk
      show wp (b_X7_isRung_2 Fu M selfk z (dN k)) _
      unfold b_X7_isRung_2
      by_cases e0 : k = 0
      · subst e0
        refine wp_p (by decide) (wp_s ?_)
        rw [show dup chs (pC A) (nB A row) (i + 1) = false from decide_eq_false (fun ⟨a, ha, h2⟩ => by rw [t1 a (by omega) ha] at h2; exact nomatch h2)]
        rfl
      · obtain ⟨j, rfl⟩ : ∃ j, k = j + 1 := ⟨k - 1, by omega⟩
        have hd : dN (j + 1) = nI j := by unfold dN; rw [if_neg (by omega)]; rfl
        rw [hd]
        refine wp_n (by rw [q_lt0 (by omega)]; simp) (wp_n (by rw [q_le (by omega) (by omega)]; omega) ?_)
        rw [q_GI (by omega) (by omega), q_cl (by omega)]
        refine wp_i (rp_u (hrows j (by omega)) hz (pr_good (chs := chs) (m := pC A) hB j).1 (pr_good (chs := chs) (m := pC A) hB (i + 1)).1) (fun e4 => ?_) (fun e4 => ?_)
        · refine wp_s ?_
          rw [show dup chs (pC A) (nB A row) (i + 1) = true from decide_eq_true ⟨j, by omega, e4⟩]
          rfl
        · rw [dN_s]
          refine hselfk j _ (by omega) ⟨j, rfl, rfl, by omega, fun b h1 h2 => ?_⟩
          by_cases e5 : b = j
          · subst e5; exact Bool.eq_false_iff.mpr e4
          · exact t1 b (by omega) h2
    refine wp_Be hrung ?_
    by_cases e4 : dup chs (pC A) (nB A row) (i + 1) = true
    · rw [if_pos e4]
      refine wp_n (by decide) (wp_s ⟨?_, hf2⟩)
      unfold tL
      rw [tw_t e3 e4, if_pos rfl]
      rfl
    · rw [if_neg e4]
      refine wp_p rfl (hself (72 - (i + 1)) _ (by omega) ⟨i + 1, z, M, by rw [q_1], rfl, e3, hz, hrows, fun b hb => ?_, hf2⟩)
      by_cases e5 : b = i + 1
      · subst e5; exact Bool.eq_false_iff.mpr e4
      · exact g3 b (by omega)
theorem c_bellOf {Fu : Nat} {J : mIT} {A : aPl} {row chs : Nat → Int32} {r : Nat} (hF : 701 < Fu) (ho : okPl A) (h : cR J A row chs) (hr : r < 10) : f_X7_bellOf Fu J (nI r) = some (sFi (fun j => decide (bR A row j = r)) 0 (nB A row)) := by
  have h10 := ho.1
  have hB : nB A row ≤ 6 := fb_ct_le _ 6
  unfold f_X7_bellOf w_X7_bellOf_2 sFi
  refine q_find (fun i => (nI r, nI i)) (nB A row) (-1) _ ?_ ?_ Fu (by omega)
  · intro i hi self
    have := bR_lt hi
    show b_X7_bellOf_2 Fu J self (nI r) (nI i) = _
    unfold b_X7_bellOf_2
    rw [h.1, if_neg (by rw [q_le (by omega) (by omega)]; omega), if_neg (by rw [q_le (by omega) (by omega)]; omega), q_GI (by omega) (by omega), q_cl (by omega), h.2.2.2 i hi, q_1]
    by_cases e : bR A row i = r
    · rw [if_pos (by rw [e]), if_pos (decide_eq_true e)]
    · rw [if_neg (by rw [q_eq (by omega) (by omega)]; exact e), if_neg (by simp [e])]
  · intro self
    show b_X7_bellOf_2 Fu J self (nI r) (nI (nB A row)) = _
    unfold b_X7_bellOf_2
    rw [h.1, if_pos (by rw [q_le (by omega) (by omega)]; omega)]
theorem c_placeIn {Fu : Nat} {J : mIT} {A : aPl} {row chs : Nat → Int32} {x : Int32} {f : Nat → Nat} {b : Nat} (hF : 701 < Fu) (h : cR J A row chs) (hx : rp x f) (hf : gdP (nB A row) f) (hb : b < 6) : f_X7_placeIn Fu J x (nI b) = some (sFi (fun p => decide (f p = b)) 0 (nB A row)) := by
  have hB : nB A row ≤ 6 := fb_ct_le _ 6
  unfold f_X7_placeIn w_X7_placeIn_2 sFi
  refine q_find (fun i => (x, nI b, nI i)) (nB A row) (-1) _ ?_ ?_ Fu (by omega)
  · intro i hi self
    have := hf.1 i (by omega)
    show b_X7_placeIn_2 Fu J self x (nI b) (nI i) = _
    unfold b_X7_placeIn_2
    rw [h.1, if_neg (by rw [q_le (by omega) (by omega)]; omega), c_bell hx hf.1 (by omega), q_B, q_1]
    by_cases e : f i = b
    · rw [if_pos (by rw [e]), if_pos (decide_eq_true e)]
    · rw [if_neg (by rw [q_eq (by omega) (by omega)]; exact e), if_neg (by simp [e])]
  · intro self
    show b_X7_placeIn_2 Fu J self x (nI b) (nI (nB A row)) = _
    unfold b_X7_placeIn_2
    rw [h.1, if_pos (by rw [q_le (by omega) (by omega)]; omega)]
