def sNt (A : aPl) (row : Nat → Int32) (r : Nat) (more : Int32) : Int32 := sNo A row (row 0).toNatClampNeg r more
/-- a row as it may be, on a day not above D -/
def okR (A : aPl) (D : Nat) (row : Nat → Int32) : Prop := (∃ d, row 0 = nI d ∧ d ≤ D) ∧ (∀ r, r < pR A → ∃ s h f, row (1 + r) = nI s ∧ row (11 + r) = nI h ∧ row (21 + r) = nI f ∧ s ≤ 60 ∧ h ≤ 20 ∧ h < s ∧ f ≤ 99 ∧ (row (31 + r) = -1 ∨ row (31 + r) = -2 ∨ ∃ k, k < 6 ∧ row (31 + r) = nI k)) ∧ (∀ r q, r < pR A → q < pR A → r ≠ q → 0 ≤ row (31 + r) → row (31 + r) ≠ row (31 + q))
theorem live_53 {A : aPl} (ho : okPl A) {j : Nat} (h : live A j) : j < 53 := by
  have h1 := ho.1
  have h2 := ho.2.2.2.2.1
  unfold live at h
  omega
theorem sCl_b {v : Int32} {m : Nat} (hm : m < 1000) : ∃ g, g ≤ m ∧ sCl v (nI m) = nI g := by
  unfold sCl
  by_cases h : v < 0
  · exact ⟨0, by omega, by rw [if_pos h]; rfl⟩
  · rw [if_neg h]
    by_cases h2 : nI m < v
    · exact ⟨m, by omega, by rw [if_pos h2]⟩
    · rw [if_neg h2]
      exact nI_of2 (M := nI m) (nI_toInt (by omega)) h (Int32.not_lt.mp h2)
theorem sGr_b {A : aPl} {row : Nat → Int32} {r : Nat} {w : Int32} : ∃ g, g ≤ 9 ∧ sGr A row r w = nI g := by
  unfold sGr
  by_cases h : pGr A = []
  · rw [if_pos h]
    by_cases h2 : 5 ≤ w
    · exact ⟨0, by omega, by rw [if_pos h2]; rfl⟩
    · exact ⟨1, by omega, by rw [if_neg h2]; rfl⟩
  · rw [if_neg h]
    exact sCl_b (m := 9) (by omega)
theorem kp_a : ∀ k, k < 31 → (if (0 : Int32) ≤ 15 - nI k then (if 15 - nI k ≤ 15 then some (15 - nI k) else some 15) else some 0) = some (if (0 : Int32) < 15 - nI k then 15 - nI k else 0) := by decide +kernel
theorem kp_60 : ∀ s, s < 70 → (if (0 : Int32) ≤ nI s then (if nI s ≤ 60 then some (nI s) else some 60) else some 0) = some (if (60 : Int32) < nI s then 60 else nI s) := by decide +kernel
theorem kp_99 : ∀ s, s < 200 → (if (0 : Int32) ≤ nI s then (if nI s ≤ 99 then some (nI s) else some 99) else some 0) = some (if (99 : Int32) < nI s then 99 else nI s) := by decide +kernel
theorem m_noteOf {Fu : Nat} {I : mIT} {b r D : Nat} {A : aPl} {row : Nat → Int32} (hF : 701 < Fu) (h : mPl I A) (ho : okPl A) (hw : I 75 47 = -1) (hb : b ≤ 53) (hr : rI A I 89 b row) (hk : okR A D row) (hD : D < 2000) (hrr : r < pR A) : wp (f_X12_noteOf Fu I (nI b) (nI r)) (fun y => y.1 = sNt A row r 0 ∧ ∀ c, c ≠ 91 → c ≠ 92 → y.2 c = I c) := by
  obtain ⟨d, hd, hdD⟩ := hk.1
  have h10 : r < 10 := by have := ho.1; omega
  have hdc : (row 0).toNatClampNeg = d := by rw [hd]; exact q_cl (by omega)
  unfold f_X12_noteOf sNt sNo
  rw [hdc]
  rcases h.2.2.2.2.2.2.2.2.1 with ⟨e1, e2⟩ | ⟨e1, a, e2, e3⟩
  · obtain ⟨s, hh, f, g1, g2, g3, g4, g5, g6, g7, g8⟩ := hk.2.1 r hrr
    rw [if_pos e2, if_pos e1]
    simp (disch := omega) only [a_1, a_11, nI_add, q_GI, q_cl, Nat.add_assoc, hr _ (lv_1 hrr), hr _ (lv_11 hrr), g1, g2, Int32.sub_zero]
    rw [pk_sub (by omega), show (2 : Int32) = nI 2 from rfl, pk_div (by omega) (by omega) (by omega)]
    unfold f_X12_kept
    rw [kp_a _ (by omega), q_B]
    exact wp_s ⟨rfl, fun _ _ _ => rfl⟩
  · have ha : a < 2147483648 := by have := e3.1; omega
    rw [if_neg (by rw [e2, q_eqm1 ha]; simp), if_neg e1]
    obtain ⟨I1, t1, t2, t3⟩ := m_tells (Fu := Fu) h ho hb hr hd (by omega) (Or.inl ⟨hw, rfl⟩) hrr
    refine wp_Be t1 ?_
    have hco : mCo I1 79 a (pNo A) := by unfold mCo; rw [t3 79 (by decide)]; exact e3
    obtain ⟨I2, u1, u2⟩ := m_reckons (Fu := Fu) hco t2 (ho.2.2.2.2.2.2.2.2.2.1.resolve_left e1) (by have := ho.2.2.2.2.2.2.2.1; omega)
    rw [show I1 75 6 = nI a by rw [t3 75 (by decide)]; exact e2]
    refine wp_Be u1 ?_
    refine wp_Be (m_kept (by decide)) (wp_s ⟨rfl, fun c c1 c2 => ?_⟩)
    show I2 c = I c
    rw [u2 c c2, t3 c c1]
theorem m_growth {Fu : Nat} {I : mIT} {b r d : Nat} {A : aPl} {row : Nat → Int32} {w : Int32} (hF : 701 < Fu) (h : mPl I A) (ho : okPl A) (hb : b ≤ 53) (hr : rI A I 89 b row) (hd : row 0 = nI d) (hd2 : d < 2000) (hw : mWea I A d w) (hrr : r < pR A) : wp (f_X12_growth Fu I (nI b) (nI r)) (fun y => y.1 = sGr A row r w ∧ ∀ c, c ≠ 91 → c ≠ 92 → y.2 c = I c) := by
  have h10 : r < 10 := by have := ho.1; omega
  have h0 : I 89 b = nI d := by have := hr 0 lv_0; rw [Nat.add_zero] at this; rw [this, hd]
  unfold f_X12_growth sGr
  rcases h.2.2.2.2.2.2.2.2.2 with ⟨e1, e2⟩ | ⟨e1, a, e2, e3⟩
  · rw [if_pos e2, if_pos e1]
    simp (disch := omega) only [q_p0, q_GI, q_cl, h0]
    refine wp_Be (m_wea h ho hw hd2) ?_
    refine wp_f (fun h5 => ?_) (fun h5 => ?_)
    · rw [if_pos h5]; exact wp_s ⟨rfl, fun _ _ _ => rfl⟩
    · rw [if_neg h5]; exact wp_s ⟨rfl, fun _ _ _ => rfl⟩
  · have ha : a < 2147483648 := by have := e3.1; omega
    rw [if_neg (by rw [e2, q_eqm1 ha]; simp), if_neg e1]
    obtain ⟨I1, t1, t2, t3⟩ := m_tells (Fu := Fu) h ho hb hr hd (by omega) hw hrr
    refine wp_Be t1 ?_
    have hco : mCo I1 79 a (pGr A) := by unfold mCo; rw [t3 79 (by decide)]; exact e3
    obtain ⟨I2, u1, u2⟩ := m_reckons (Fu := Fu) hco t2 (ho.2.2.2.2.2.2.2.2.2.2.resolve_left e1) (by have := ho.2.2.2.2.2.2.2.2.1; omega)
    rw [show I1 75 7 = nI a by rw [t3 75 (by decide)]; exact e2]
    refine wp_Be u1 ?_
    refine wp_Be (m_kept (by decide)) (wp_s ⟨rfl, fun c c1 c2 => ?_⟩)
    show I2 c = I c
    rw [u2 c c2, t3 c c1]
theorem m_hang1 {Fu : Nat} {I : mIT} {b r : Nat} {v : Int32} (hb : b ≤ 53) (h10 : r < 10) (hv : I 89 (b + (31 + r)) = v) : f_X12_hangs Fu I (nI b) (nI r) = some (if v < 0 then 0 else 1) := by
  unfold f_X12_hangs
  simp (disch := omega) only [a_31, nI_add, q_GI, q_cl, Nat.add_assoc, hv]
  split <;> rfl
theorem mPl_f2 {I J : mIT} {A : aPl} (h : mPl I A) (f : ∀ c, c ≠ 89 → c ≠ 91 → c ≠ 92 → J c = I c) : mPl J A := mPl_fr h (fun j _ _ => by rw [f 75 (by decide) (by decide) (by decide)]) (f _ (by decide) (by decide) (by decide)) (f _ (by decide) (by decide) (by decide)) (f _ (by decide) (by decide) (by decide)) (f _ (by decide) (by decide) (by decide))
theorem m_dayGoes {Fu : Nat} {I : mIT} {b d D : Nat} {A : aPl} {row : Nat → Int32} {w : Int32} (hF : 701 < Fu) (h : mPl I A) (ho : okPl A) (hb : b ≤ 53) (hr : rI A I 89 b row) (hk : okR A D row) (hd : row 0 = nI d) (hd2 : d < 2000) (hw : mWea I A d w) (hw9 : ∃ k, k ≤ 9 ∧ w = nI k) : wp (f_X12_dayGoes Fu I (nI b)) (fun J => rI A J 89 b (sDay A w row) ∧ (∀ c, c ≠ 89 → c ≠ 91 → c ≠ 92 → J c = I c) ∧ ∀ j, (j < b ∨ b + 53 ≤ j) → J 89 j = I 89 j) := by
  have h0 : I 89 b = nI d := by have := hr 0 lv_0; rw [Nat.add_zero] at this; rw [this, hd]
  have hR := ho.1
  obtain ⟨ww, hww, rfl⟩ := hw9
  unfold f_X12_dayGoes
  simp (disch := omega) only [q_p0, q_GI, q_cl, h0]
  refine wp_Be (m_wea h ho hw hd2) ?_
  unfold w_X12_dayGoes_15
  refine wp_loop (fun dd (s : Int32 × Int32 × Int32 × mIT) => ∃ (i : Nat) (J : mIT), s = (nI b, nI ww, nI i, J) ∧ dd = pR A - i ∧ i ≤ pR A ∧ rI A J 89 b (sDy A (nI ww) row i) ∧ (∀ c, c ≠ 89 → c ≠ 91 → c ≠ 92 → J c = I c) ∧ ∀ j, (j < b ∨ b + 53 ≤ j) → J 89 j = I 89 j) _ ?_ Fu (pR A) _ ⟨0, I, rfl, rfl, by omega, by rw [sDy_0]; exact hr, fun _ _ _ _ => rfl, fun _ _ => rfl⟩ (by omega)
  rintro dd s self ⟨i, J, rfl, hdd, hi, hJ, f1, f2⟩ hself
  have hJ1 : J 75 1 = nI (pR A) := by rw [f1 75 (by decide) (by decide) (by decide)]; exact h.1
  have hJ0 : J 89 b = nI d := by have := hJ 0 lv_0; rw [Nat.add_zero, sDy_lo (by omega) (by omega)] at this; rw [this, hd]
  show wp (b_X12_dayGoes_15 Fu self (nI b) (nI ww) (nI i) J) _
  unfold b_X12_dayGoes_15
  refine wp_i (by rw [hJ1, q_le (by omega) (by omega)]) (fun hle => ?_) (fun hlt => ?_)
  · have hie : i = pR A := by omega
    subst hie
    simp (disch := omega) only [q_p0, q_GI, q_cl]
    refine wp_s ⟨fun j hj => ?_, fun c c1 c2 c3 => ?_, fun j hj => ?_⟩
    · unfold sDay
      by_cases e : j = 0
      · subst e
        rw [Nat.add_zero, q_U, if_pos rfl, hJ0, hd]
      · rw [q_Uj (by omega), if_neg e]; exact hJ j hj
    · rw [mU_other c1]; exact f1 c c1 c2 c3
    · rw [q_Uj (by omega)]; exact f2 j hj
  · have hi2 : i < pR A := by omega
    obtain ⟨s, hh, f, g1, g2, g3, g4, g5, g6, g7, g8⟩ := hk.2.1 i hi2
    have hpl : J 89 (b + (31 + i)) = row (31 + i) := by rw [hJ _ (lv_31 hi2), sDy_lo (by omega) (by omega)]
    have hsz : J 89 (b + (1 + i)) = nI s := by rw [hJ _ (lv_1 hi2), sDy_lo (by omega) (by omega), g1]
    have hso : J 89 (b + (21 + i)) = nI f := by rw [hJ _ (lv_21 hi2), sDy_lo (by omega) (by omega), g3]
    simp (disch := omega) only [a_1, a_31, nI_add, q_GI, q_cl, Nat.add_assoc, hpl, hsz]
    refine wp_f (fun hp => ?_) (fun hp => ?_)
    · refine wp_B (m_growth hF (mPl_f2 h f1) ho hb hJ (by rw [sDy_lo (by omega) (by omega), hd]) hd2 (by unfold mWea; rw [f1 75 (by decide) (by decide) (by decide)]; exact hw) hi2) ?_
      rintro ⟨v, J'⟩ ⟨e1, e2⟩
      dsimp only at e1 e2 ⊢
      rw [sGr_c (row' := sDy A (nI ww) row i) (row := row) (sDy_lo (by omega) (by omega)) (sDy_lo (by omega) (by omega)) (sDy_lo (by omega) (by omega)) (sDy_lo (by omega) (by omega)) (sDy_lo (by omega) (by omega))] at e1
      obtain ⟨g, hg, hge⟩ := sGr_b (A := A) (row := row) (r := i) (w := nI ww)
      rw [e1, hge, nI_add]
      unfold f_X12_kept
      rw [kp_60 _ (by omega), q_B]
      unfold b_X12_dayGoes_71
      refine wp_Be (m_hang1 hb (by omega) (v := -1) ?_) ?_
      · rw [q_Uj (by omega), e2 89 (by decide) (by decide), hpl, hp]
      · refine wp_p (by decide) ?_
        refine hself (pR A - (i + 1)) _ (by omega) ⟨i + 1, _, by rw [q_1], rfl, by omega, fun j hj => ?_, fun c c1 c2 c3 => ?_, fun j hj => ?_⟩
        · rw [sDy_s (by omega)]
          dsimp only
          by_cases n1 : j = 1 + i
          · subst n1; rw [q_U, if_pos rfl, if_pos hp, g1, hge, nI_add]
          · rw [q_Uj (by omega), if_neg n1, e2 89 (by decide) (by decide), hJ j hj]
            by_cases n2 : j = 21 + i
            · subst n2; rw [if_pos rfl, if_neg (by rw [hp]; decide), sDy_lo (by omega) (by omega)]
            · rw [if_neg n2]
        · rw [mU_other c1, e2 c c2 c3]; exact f1 c c1 c2 c3
        · rw [q_Uj (by omega), e2 89 (by decide) (by decide)]; exact f2 j hj
    · unfold b_X12_dayGoes_71
      refine wp_Be (m_hang1 hb (by omega) hpl) ?_
      by_cases hp2 : row (31 + i) < 0
      · rw [if_pos hp2, if_pos rfl]
        refine hself (pR A - (i + 1)) _ (by omega) ⟨i + 1, J, by rw [q_1], rfl, by omega, fun j hj => ?_, f1, f2⟩
        rw [sDy_s (by omega), hJ j hj]
        dsimp only
        by_cases n1 : j = 1 + i
        · subst n1; rw [if_pos rfl, if_neg hp, sDy_lo (by omega) (by omega)]
        · rw [if_neg n1]
          by_cases n2 : j = 21 + i
          · subst n2; rw [if_pos rfl, if_neg (Int32.not_le.mpr hp2), sDy_lo (by omega) (by omega)]
          · rw [if_neg n2]
      · rw [if_neg hp2, if_neg (by decide)]
        simp (disch := omega) only [a_21, a_1, nI_add, q_GI, q_cl, Nat.add_assoc, hso, k_2, pk_div]
        unfold f_X12_kept
        rw [kp_99 _ (by omega), q_B]
        refine hself (pR A - (i + 1)) _ (by omega) ⟨i + 1, _, rfl, rfl, by omega, fun j hj => ?_, fun c c1 c2 c3 => ?_, fun j hj => ?_⟩
        · rw [sDy_s (by omega)]
          dsimp only
          by_cases n1 : j = 1 + i
          · subst n1; rw [if_pos rfl, if_neg hp, q_Uj (by omega), hJ _ hj, sDy_lo (by omega) (by omega)]
          · rw [if_neg n1]
            by_cases n2 : j = 21 + i
            · subst n2
              rw [if_pos rfl, if_pos (Int32.not_lt.mp hp2), q_U, g3, k_2, pk_div (by omega) (by omega) (by omega), l_1, nI_add]
            · rw [if_neg n2, q_Uj (by omega), hJ j hj]
        · rw [mU_other c1]; exact f1 c c1 c2 c3
        · rw [q_Uj (by omega)]; exact f2 j hj
