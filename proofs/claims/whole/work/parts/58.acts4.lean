/-! hollowing, days, undoing -/
theorem upH_rU {row : Nat → Int32} {r h m : Nat} (hh : row (11 + r) = nI h) : rU row (11 + r) (nI (h + m)) = upH row r m := by
  funext j
  unfold rU upH
  by_cases e : j = 11 + r
  · rw [if_pos e, if_pos e, hh, nI_add]
  · rw [if_neg e, if_neg e]
theorem aC_n {I J K : mIT} {p : Nat} {A : aPl} {row : Nat → Int32} {na : Nat} {ac : Nat → Nat → Int32} (hpp : p = 3 ∨ p = 22) (h : aC I p A row na ac J) (f : ∀ c, c ≠ p + 8 → c ≠ p + 9 → K c = J c) : aC I p A row na ac K := by
  obtain ⟨h1, h2, h3, h4, h5⟩ := h
  refine ⟨?_, by rw [f 56 (by omega) (by omega)]; exact h2, by rw [f 66 (by omega) (by omega)]; exact h3, fun j hj => by rw [f 41 (by omega) (by omega)]; exact h4 j hj, fun c c1 c2 c3 c4 c5 c6 c7 c8 c9 => by rw [f c c6 c7]; exact h5 c c1 c2 c3 c4 c5 c6 c7 c8 c9⟩
  unfold cAc rI at *
  rw [f 42 (by omega) (by omega), f (42 + 1) (by omega) (by omega)]
  exact h1
theorem aM_n {J K M : mIT} {A : aPl} {row : Nat → Int32} {na : Nat} {ac : Nat → Nat → Int32} (h : aM J A row na ac K) (f : ∀ c, c ≠ 91 → c ≠ 92 → M c = K c) : aM J A row na ac M := by
  obtain ⟨h1, h2, h3⟩ := h
  refine ⟨?_, fun j hj => by rw [f 89 (by decide) (by decide)]; exact h2 j hj, fun c j hc c1 c2 c3 => ?_⟩
  · unfold mAc rI at *
    rw [f 75 (by decide) (by decide), f 90 (by decide) (by decide)]
    exact h1
  · rw [f c (fun e => by subst e; exact nomatch hc) (fun e => by subst e; exact nomatch hc)]
    exact h3 c j hc c1 c2 c3
theorem pq_hollow {Fu : Nat} {I : mIT} {R : mRT} {L : mLT} {a1 a2 : Int32} (hF : 2200 < Fu) (h : pP I R L) : st_hollow Fu I R L a1 a2 pP := by
  obtain ⟨p, n, A, row, na, ac, hl, hp⟩ := h
  have ⟨hW, hq0, ho, hk, hA, hH, hc, hf, hm, hX, hI, hT⟩ := hp
  have h10 := ho.1
  have hpp := hc.2.1
  unfold st_hollow
  rcases ix a1 (pR A) with hv | ⟨r, hr, rfl⟩
  · right
    exact st_n (f2 := fun J => f_X12_hollow Fu J a1 a2) hp (by unfold f_X11_hollow; exact wp_Xr (c_root0 hc.1 hc.2.2.1 hv)) (by unfold f_X12_hollow; exact wp_Be (m_isRoot0 (q_U0 I) (mQ_0 hm).1 hv) (wp_p rfl (wp_s mS_00)))
  left
  obtain ⟨s, hh, f, g1, g2, g3, g4, g5, g6, g7, g8⟩ := hk.2.1 r hr
  have hmy := sMy_le row r
  have eh : I (40 + 1) (11 + r) = row (11 + r) := r0 (c := 41) hc.2.2.2.1 (lv_11 hr)
  have one : ∀ m : Nat, (nI m < 1) = (m < 1) ∨ 2147483648 ≤ m := fun m => by
    by_cases e : m < 2147483648
    · exact Or.inl (q_lt (b := 1) e (by omega))
    · exact Or.inr (by omega)
  by_cases e : a2 < 1 ∨ nI (sMy row r) < a2
  · refine st_ref (L := L) (f2 := fun J => f_X12_hollow Fu J (nI r) a2) (a := -1) hp ?_ ?_
    · unfold f_X11_hollow
      rw [c_root1 hc.1 hc.2.2.1 ho hr, oX_l, c_room ho hk hc.2.2.2.1 hr, q_B]
      by_cases e1 : a2 < 1
      · rw [if_pos e1]; rfl
      · rw [if_neg e1, if_neg (Int32.not_le.mpr (e.resolve_left e1))]; rfl
    · intro J hJ
      have h0 := mQ_0 (v := 0) hJ
      apply wp_q
      unfold f_X12_hollow f_X12_within
      refine wp_Be (m_isRoot1 (q_U0 J) h0.1 ho hr) (wp_n ne10 (wp_Be (m_mayBe ho hk h0.2.1 hr) ?_))
      by_cases e1 : a2 < 1
      · rw [if_pos e1]
        exact wp_Be rfl (wp_p rfl (wp_Be m_ref (wp_s rfl)))
      · rw [if_neg e1, if_pos (e.resolve_left e1)]
        exact wp_Be rfl (wp_p rfl (wp_Be m_ref (wp_s rfl)))
  · have e1 : ¬ a2 < 1 := fun q => e (Or.inl q)
    have e2 : ¬ nI (sMy row r) < a2 := fun q => e (Or.inr q)
    obtain ⟨m, hm1, rfl⟩ : ∃ m : Nat, m ≤ sMy row r ∧ a2 = nI m := by
      rcases ix a2 (sMy row r + 1) with (q | q) | ⟨m, q1, q2⟩
      · exact absurd (Int32.lt_of_lt_of_le q (by decide)) e1
      · exfalso
        apply e2
        refine Int32.lt_of_lt_of_le ?_ q
        rw [q_lt (by omega) (by omega)]
        omega
      · exact ⟨m, by omega, q2⟩
    have hm0 : 1 ≤ m := by
      rw [lt_1 (by omega)] at e1
      omega
    have hsb := sMy_b g1 g2 g4 g6
    have hne : row (31 + r) ≠ -2 := fun q => by rw [if_pos q] at hsb; omega
    rw [if_neg hne] at hsb
    have hok : okR A 999 (rU row (11 + r) (nI (hh + m))) := okR_ho ho hk hr g1 g4 (by omega) (by omega)
    refine st_act (L := L) (f2 := fun J => f_X12_hollow Fu J (nI r) (nI m)) (a := sNt A (rU row (11 + r) (nI (hh + m))) r 0) hp hok (okA_p hA hk) ?_ ?_
    · unfold f_X11_hollow
      refine wp_X (c_root1 hc.1 hc.2.2.1 ho hr) (wp_n e1 (wp_Be (c_room ho hk hc.2.2.2.1 hr) (wp_p (Int32.not_lt.mp e2) (wp_B (c_begin ho hc.2.2.2.1 hX.1 hA.1) ?_))))
      rintro K ⟨k1, k2, k3, k4⟩
      refine wp_Be (c_hollow (by omega)) ?_
      rw [k4 (40 + 1) (by decide) (by decide) (by decide) (by decide), eh, g2, nI_add]
      refine wp_Be (c_setHollow (by omega)) (wp_Be hc.1 ?_)
      have hU := aC_U (p := p) (j := 11 + r) (v := nI (hh + m)) hc.2.2.2.1 k1 k2 k3 k4
      refine wp_B (c_note (k := 40) (D := 999) (by omega) (cPl_fr hc.2.2.1 (fun c c1 c2 c3 c4 c5 c6 => hU.2.2.2.2 c (by omega) (by omega) (by omega) (by omega) (by omega) c3 c4 c5 c6)) ho hU.2.2.2.1 hok (by omega) hr) ?_
      rintro ⟨v, M⟩ ⟨u1, u2⟩
      dsimp only at u1 u2 ⊢
      exact wp_s ⟨M, by rw [u1], aC_n hpp hU u2⟩
    · intro J hJ hJa
      have h0 := mQ_0 (v := 0) hJ
      unfold f_X12_hollow f_X12_within
      refine wp_Be (m_isRoot1 (q_U0 J) h0.1 ho hr) (wp_n ne10 (wp_Be (m_mayBe ho hk h0.2.1 hr) ?_))
      rw [if_neg e1, if_neg e2]
      refine wp_Be rfl (wp_n (by decide) (wp_B (m_keeps (by omega) ho h0.2.1 (mAc_0 hJa) hA.1) ?_))
      rintro K ⟨k1, k2⟩
      have e11 : K 89 (11 + r) = nI hh := by
        rw [k2 89 _ (by decide) (fun q => absurd q (by decide))]
        exact (r0 h0.2.1 (lv_11 hr)).trans g2
      rw [l_11, q_GI (by omega) (by omega), q_GI (by omega) (by omega), q_cl (by omega), e11, nI_add]
      have hU := aM_U (j := 11 + r) (v := nI (hh + m)) hJ.2.1 k1 k2
      have gK : ∀ j, kM 75 j = true → j ≠ 44 → mU K 89 (11 + r) (nI (hh + m)) 75 j = mU J 75 0 0 75 j := fun j _ hj => by
        rw [mU_other (by decide)]
        exact k2 75 j (by decide) (fun _ => hj)
      have gC : ∀ c, c ≠ 75 → c ≠ 89 → c ≠ 90 → mU K 89 (11 + r) (nI (hh + m)) c = mU J 75 0 0 c := fun c c1 c2 c3 => by
        rw [mU_other c2]
        funext j
        exact k2 c j c3 (fun q => absurd q c1)
      have hpl : mPl (mU K 89 (11 + r) (nI (hh + m))) A := mPl_fr h0.1 (fun j j1 j2 => gK j (kM_75 (by omega)) (by omega)) (gC 76 (by decide) (by decide) (by decide)) (gC 77 (by decide) (by decide) (by decide)) (gC 78 (by decide) (by decide) (by decide)) (gC 79 (by decide) (by decide) (by decide))
      refine wp_B (m_noteOf (b := 0) (D := 999) (by omega) hpl ho (by rw [gK 47 rfl (by decide)]; exact h0.2.2) (by omega) hU.1.2.1 hok (by omega) hr) ?_
      rintro ⟨v, M⟩ ⟨u1, u2⟩
      dsimp only at u1 u2 ⊢
      exact wp_s ⟨u1, aM_n hU.1 u2, by dsimp only; rw [u2 75 (by decide) (by decide)]; exact hU.2⟩
theorem sDs_0 {A : aPl} {row : Nat → Int32} {D d : Nat} (ho : okPl A) (hk : okR A D row) (hd : row 0 = nI d) : ∀ i, okR A (d + i) (sDs A row i) := fun i => okR_ds ho (okR_D hk hd) i
theorem pq_days {Fu : Nat} {I : mIT} {R : mRT} {L : mLT} {a1 : Int32} (hF : 2200 < Fu) (h : pP I R L) : st_days Fu I R L a1 pP := by
  obtain ⟨p, n, A, row, na, ac, hl, hp⟩ := h
  have ⟨hW, hq0, ho, hk, hA, hH, hc, hf, hm, hX, hI, hT⟩ := hp
  have h10 := ho.1
  have hpp := hc.2.1
  obtain ⟨d, hd, hd9⟩ := hk.1
  have e0 : I (40 + 1) 0 = nI d := (r0 (c := 41) hc.2.2.2.1 lv_0).trans hd
  unfold st_days
  by_cases e : a1 < 1 ∨ 30 < a1
  · refine st_rfv (L := L) (k := 1) (f2 := fun J => f_X12_days Fu J a1) (a := -1) hp ?_ ?_
    · unfold f_X11_days
      by_cases e1 : a1 < 1
      · rw [if_pos e1]; rfl
      · rw [if_neg e1, if_pos (e.resolve_left e1)]; rfl
    · intro J hJ _
      unfold f_X12_days f_X12_within
      by_cases e1 : a1 < 1
      · rw [if_pos e1]; rfl
      · rw [if_neg e1, if_pos (e.resolve_left e1)]; rfl
  have e1 : ¬ a1 < 1 := fun q => e (Or.inl q)
  have e2 : ¬ 30 < a1 := fun q => e (Or.inr q)
  obtain ⟨m, hm1, hm3, rfl⟩ : ∃ m : Nat, 1 ≤ m ∧ m ≤ 30 ∧ a1 = nI m := by
    rcases ix a1 31 with (q | q) | ⟨m, q1, q2⟩
    · exact absurd (Int32.lt_of_lt_of_le q (by decide)) e1
    · exact absurd (Int32.lt_of_lt_of_le (by decide) q) e2
    · refine ⟨m, ?_, by omega, q2⟩
      rw [q2, lt_1 (by omega)] at e1
      omega
  by_cases e3 : d + m ≤ 999
  · have hrow : okR A 999 (sDs A row m) := okR_W (sDs_0 ho hk hd m) (by omega)
    obtain ⟨dm, hdm, hdm9⟩ := hrow.1
    refine st_acv (L := L) (f2 := fun J => f_X12_days Fu J (nI m)) (a := nI dm) hp hrow (okA_p hA hk) ?_ ?_
    · unfold f_X11_days
      refine wp_n e1 (wp_n e2 (wp_Be c_day ?_))
      rw [e0, nI_add]
      refine wp_p (by rw [show (999 : Int32) = nI 999 from rfl, q_le (by omega) (by omega)]; exact e3) (wp_B (c_begin ho hc.2.2.2.1 hX.1 hA.1) ?_)
      rintro K ⟨k1, k2, k3, k4⟩
      unfold w_X11_days_38
      refine wp_loop (fun dd (s : Int32 × Int32 × mIT) => ∃ (i : Nat) (J : mIT), s = (nI m, nI i, J) ∧ dd = m - i ∧ i ≤ m ∧ rI A J 41 0 (sDs A row i) ∧ ∀ c, c ≠ 41 → c ≠ p + 14 → c ≠ p + 15 → J c = K c) _ ?_ Fu m _ ⟨0, K, rfl, rfl, by omega, fun j hj => by rw [k4 41 (by decide) (by decide) (by decide) (by decide)]; exact hc.2.2.2.1 j hj, fun _ _ _ _ => rfl⟩ (by omega)
      rintro dd s self ⟨i, J, rfl, hdd, hi, f1, f2⟩ hself
      show wp (b_X11_days_38 Fu R self (nI m) (nI i) J) _
      unfold b_X11_days_38
      refine wp_i (by rw [q_le (by omega) (by omega)]) (fun q => ?_) (fun q => ?_)
      · have ei : i = m := by omega
        subst ei
        refine wp_Be c_day (wp_s ⟨(r0 (c := 41) f1 lv_0).trans hdm, ?_, by dsimp only; rw [f2 56 (by omega) (by omega) (by omega)]; exact k2, by dsimp only; rw [f2 66 (by omega) (by omega) (by omega)]; exact k3, f1, fun c c1 c2 c3 c4 c5 c6 c7 c8 c9 => by dsimp only; rw [f2 c c1 c8 c9, k4 c c2 c3 c4 c5]⟩)
        show cAc J 42 A _ _
        unfold cAc rI at *
        rw [f2 42 (by omega) (by omega) (by omega), f2 (42 + 1) (by omega) (by omega) (by omega)]
        exact k1
      · have hJp : cPl J p A := cPl_fr hc.2.2.1 (fun c c1 c2 c3 c4 c5 c6 => by rw [f2 c (by omega) c5 c6, k4 c (by omega) (by omega) (by omega) (by omega)])
        obtain ⟨di, hdi, hdi9⟩ := (sDs_0 ho hk hd i).1
        refine wp_Be hc.1 (wp_Be hc.1 (wp_Be c_day ?_))
        rw [show J (40 + 1) 0 = nI di from (r0 (c := 41) f1 lv_0).trans hdi]
        refine wp_Be (c_weather hJp ho (by omega)) (wp_B (c_pass (k := 40) (by omega) hJp ho f1 (by omega)) ?_)
        rintro M ⟨m1, m2⟩
        rw [q_1]
        refine hself (m - (i + 1)) _ (by omega) ⟨i + 1, M, rfl, rfl, by omega, ?_, fun c c1 c2 c3 => by rw [m2 c c1 c2 c3]; exact f2 c c1 c2 c3⟩
        have es : sDs A row (i + 1) = sDay A (sWe A di) (sDs A row i) := by
          show sNx A (sDs A row i) = _
          unfold sNx
          rw [hdi, q_cl (by omega)]
        rw [es]
        exact m1
    · intro J hJ hJa
      have h0 := mQ_0 (v := 0) hJ
      have j0 : (mU J 75 0 0) 89 0 = nI d := (r0 h0.2.1 lv_0).trans hd
      unfold f_X12_days f_X12_within
      rw [if_neg e1, if_neg e2]
      refine wp_Be rfl (wp_n (by decide) ?_)
      rw [q_G0 (by omega) (by omega), show (0 : Int32).toNatClampNeg = 0 from rfl, j0, nI_add]
      refine wp_p (by rw [show (999 : Int32) = nI 999 from rfl, q_le (by omega) (by omega)]; exact e3) (wp_B (m_keeps (by omega) ho h0.2.1 (mAc_0 hJa) hA.1) ?_)
      rintro K ⟨k1, k2⟩
      have hpl : mPl K A := mPl_fr h0.1 (fun j j1 j2 => k2 75 j (by decide) (fun _ => by omega)) (funext fun j => k2 76 j (by decide) (fun q => absurd q (by decide))) (funext fun j => k2 77 j (by decide) (fun q => absurd q (by decide))) (funext fun j => k2 78 j (by decide) (fun q => absurd q (by decide))) (funext fun j => k2 79 j (by decide) (fun q => absurd q (by decide)))
      unfold w_X12_days_41
      refine wp_loop (fun dd (s : Int32 × Int32 × mIT) => ∃ (i : Nat) (M : mIT), s = (nI m, nI i, M) ∧ dd = m - i ∧ i ≤ m ∧ rI A M 89 0 (sDs A row i) ∧ ∀ c, c ≠ 89 → c ≠ 91 → c ≠ 92 → M c = K c) _ ?_ Fu m _ ⟨0, K, rfl, rfl, by omega, fun j hj => by rw [k2 89 _ (by decide) (fun q => absurd q (by decide))]; exact h0.2.1 j hj, fun _ _ _ _ => rfl⟩ (by omega)
      rintro dd s self ⟨i, M, rfl, hdd, hi, f1, f2⟩ hself
      show wp (b_X12_days_41 Fu self (nI m) (nI i) M) _
      unfold b_X12_days_41
      refine wp_i (by rw [q_le (by omega) (by omega)]) (fun q => ?_) (fun q => ?_)
      · have ei : i = m := by omega
        subst ei
        rw [q_G0 (by omega) (by omega)]
        refine wp_s ⟨(r0 f1 lv_0).trans hdm, ?_, f1, fun c j hc c1 c2 c3 => ?_⟩
        · show mAc M 44 90 A _ _
          unfold mAc rI at *
          rw [f2 75 (by decide) (by decide) (by decide), f2 90 (by decide) (by decide) (by decide)]
          exact k1
        · show M c j = _
          rw [f2 c c2 (fun e => by subst e; exact nomatch hc) (fun e => by subst e; exact nomatch hc), k2 c j c1 (fun q => (c3 q).2)]
          by_cases e5 : c = 75
          · subst e5; rw [q_Uj (c3 rfl).1]
          · rw [mU_other e5]
      · have hMp : mPl M A := mPl_fr hpl (fun j _ _ => by rw [f2 75 (by decide) (by decide) (by decide)]) (f2 76 (by decide) (by decide) (by decide)) (f2 77 (by decide) (by decide) (by decide)) (f2 78 (by decide) (by decide) (by decide)) (f2 79 (by decide) (by decide) (by decide))
        obtain ⟨di, hdi, hdi9⟩ := (sDs_0 ho hk hd i).1
        have h47 : M 75 47 = -1 := by
          rw [f2 75 (by decide) (by decide) (by decide), k2 75 47 (by decide) (fun _ => by decide)]
          exact h0.2.2
        refine wp_B (m_dayGoes (b := 0) (w := sWe A di) (by omega) hMp ho (by omega) f1 (sDs_0 ho hk hd i) hdi (by omega) (Or.inl ⟨h47, rfl⟩) (sWe_n ho di)) ?_
        rintro N ⟨n1, n2, n3⟩
        rw [q_1]
        refine hself (m - (i + 1)) _ (by omega) ⟨i + 1, N, rfl, rfl, by omega, ?_, fun c c1 c2 c3 => by rw [n2 c c1 c2 c3]; exact f2 c c1 c2 c3⟩
        have es : sDs A row (i + 1) = sDay A (sWe A di) (sDs A row i) := by
          show sNx A (sDs A row i) = _
          unfold sNx
          rw [hdi, q_cl (by omega)]
        rw [es]
        exact n1
  · refine st_rfv (L := L) (k := 1) (f2 := fun J => f_X12_days Fu J (nI m)) (a := -1) hp ?_ ?_
    · unfold f_X11_days
      rw [if_neg e1, if_neg e2, c_day, q_B, e0, nI_add, if_neg (by rw [show (999 : Int32) = nI 999 from rfl, q_le (by omega) (by omega)]; exact e3)]
      rfl
    · intro J hJ _
      have h0 := mQ_0 (v := 0) hJ
      have j0 : (mU J 75 0 0) 89 0 = nI d := (r0 h0.2.1 lv_0).trans hd
      unfold f_X12_days f_X12_within
      rw [if_neg e1, if_neg e2, q_B, if_neg (by decide), q_G0 (by omega) (by omega), show (0 : Int32).toNatClampNeg = 0 from rfl, j0, nI_add, if_neg (by rw [show (999 : Int32) = nI 999 from rfl, q_le (by omega) (by omega)]; exact e3)]
      rfl
theorem pq_undo {Fu : Nat} {I : mIT} {R : mRT} {L : mLT} (hF : 2200 < Fu) (h : pP I R L) : st_undo Fu I R L pP := by
  obtain ⟨p, n, A, row, na, ac, hl, hp⟩ := h
  have ⟨hW, hq0, ho, hk, hA, hH, hc, hf, hm, hX, hI, hT⟩ := hp
  have hpp := hc.2.1
  unfold st_undo
  by_cases e : na = 0
  · subst e
    exact ⟨_, c_undo0 hX.1, _, m_undo0 hX.2.1, rfl, p, n, A, row, 0, ac, hl, pic_mS hp (mS_r _)⟩
  · obtain ⟨k, rfl⟩ : ∃ k, na = k + 1 := ⟨na - 1, by omega⟩
    have h40 := hA.1
    refine st_acv (L := L) (f2 := fun J => f_X12_undo Fu J) (a := nI k) hp (hA.2 k (by omega)) (⟨by omega, fun i hi => hA.2 i (by omega)⟩ : okA A k ac) ?_ ?_
    · refine wp_m (c_undo1 ho hX.1 (by omega)) ?_
      rintro y ⟨y1, y2, y3, y4, y5, y6⟩
      exact ⟨y1, y2, y4, y5, y3, fun c c1 c2 _ c4 c5 _ _ _ _ => y6 c c1 c2 c4 c5⟩
    · intro J hJ hJa
      refine wp_m (m_undo1 (by omega) ho hJa (by omega)) ?_
      rintro y ⟨y1, y2, y3, y4⟩
      exact ⟨y1, y2, y3, fun c j _ _ c2 c3 => y4 c j c3 (fun q => absurd q c2)⟩
