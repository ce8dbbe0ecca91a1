theorem pq_tower {Fu : Nat} {I : mIT} {R : mRT} {L : mLT} {a1 : Int32} (hF : 2200 < Fu) (h : pP I R L) : st_tower Fu I R L a1 pP := by
  obtain ⟨p, n0, A, row, na, ac, hl, hp⟩ := h
  have hp' := hp
  obtain ⟨hW, ⟨q, hq1, hq2, hq3⟩, ho, hk, hA, hH, hc, hf, hm, hX, hI, ⟨⟨nt, hnt, t1, t13, tb⟩, t01, t21⟩⟩ := hp
  have hpp := hc.2.1
  unfold st_tower
  have thr : f_X11_tower Fu R I a1 = some (.inr (2, I)) → f_X12_tower Fu I L a1 = some (0, mU (mU I 75 0 0) 75 0 1, L) → (∃ o, f_X11_tower Fu R I a1 = some (.inl o) ∧ mWd o.2.2 ∧ ∃ o2, f_X12_tower Fu o.2.1 (mUL L 105 0 (o.1).toInt64) a1 = some o2 ∧ f_X12_thrown Fu o2.2.1 = some 0 ∧ o.1 = o2.1 ∧ o2.2.2 105 0 = (o.1).toInt64 ∧ pP o2.2.1 o.2.2 o2.2.2) ∨ (∃ q, f_X11_tower Fu R I a1 = some (.inr q) ∧ ∃ o2, f_X12_tower Fu q.2 L a1 = some o2 ∧ (q.1 = 2 ∧ f_X12_thrown Fu o2.2.1 = some 1) ∧ pP o2.2.1 R o2.2.2) := fun e1 e2 => Or.inr ⟨(2, I), e1, _, e2, ⟨rfl, mS_th mS_00⟩, p, n0, A, row, na, ac, hl, pic_mS hp' mS_00⟩
  by_cases h0 : a1 < 0
  · refine thr ?_ ?_
    · unfold f_X11_tower
      rw [if_pos h0]
    · unfold f_X12_tower b_X12_tower_22 b_X12_tower_23
      rw [if_pos h0, m_right0 (q_U _ _ _ _) (by decide), q_B, if_pos rfl]
  obtain ⟨n, hn31, rfl⟩ := q_of a1 (Int32.not_lt.mp h0)
  by_cases h1 : n ≤ nt
  · have h700 : n ≤ 700 := by omega
    have hle : nI n ≤ I 1 1 := by rw [t1, q_le (by omega) (by omega)]; exact h1
    have ht : tpe (fun j => (I 80 j).toNatClampNeg) n := ⟨h700, fun j hj => by
      obtain ⟨b, b1, b2, b3⟩ := tb j (by omega)
      dsimp only
      rw [b2, q_cl (by omega)]; exact b1⟩
    have hB : ∀ j, j < n → I 80 j = nI ((fun j => (I 80 j).toNatClampNeg) j) ∧ I 2 j = (nI ((fun j => (I 80 j).toNatClampNeg) j)).toInt8.toInt32 := fun j hj => by
      obtain ⟨b, b1, b2, b3⟩ := tb j (by omega)
      dsimp only
      rw [b2, q_cl (by omega)]
      exact ⟨rfl, b3⟩
    generalize (fun j => (I 80 j).toNatClampNeg) = B at ht hB
    obtain ⟨⟨v, J, R'⟩, hy, hfr, hsh, hr⟩ := c_readTower hF ht hq2 hW hq1 (fun j hj => (hB j hj).2)
    dsimp only at hfr hsh hr
    have hWR := rSh_w hW hq2 hsh
    have R03 : R' 0 3 = some p := by rw [rSh_at hsh (by decide)]; exact hc.1
    have R11 : R' 1 11 = some q := by rw [rSh_at hsh (by decide)]; exact hq1
    have Jc : ∀ c, c ≠ 1 → c < q ∨ q + 18 ≤ c → J c = I c := fun c a b => by rw [hfr.2 c a b, mU_other a, mU_other a]
    have J11 : J 1 1 = 0 := by rw [hfr.1 1 (by omega), q_Uj (by decide), q_U]
    left
    cases er : twS B n (n - tA B n 0 + 1) (tA B n 0) S0 with
    | inl e =>
      rw [er] at hr
      obtain ⟨r1, r2, r3⟩ := hr
      have hv : v ≠ 0 := by rw [r1]; exact bad_ne r2
      have hcl := c_twBad h700 hle hy (wB_of hWR) hv r3
      generalize hC : mU (mU J 0 1 (nI e.2)) 21 0 (J 21 0 + 1) = C at hcl
      have Cc : ∀ c, c ≠ 0 → c ≠ 21 → C c = J c := fun c a b => by rw [← hC, mU_other b, mU_other a]
      have C01 : C 0 1 = nI e.2 := by rw [← hC, mU_other (by decide), q_U]
      have C0j : ∀ j, j ≠ 1 → C 0 j = I 0 j := fun j hj => by rw [← hC, mU_other (by decide), q_Uj hj, Jc 0 (by decide) (by omega)]
      have C21 : C 21 0 = I 21 0 + 1 ∧ ∀ j, j ≠ 0 → C 21 j = I 21 j := ⟨by rw [← hC, q_U, Jc 21 (by decide) (by omega)], fun j hj => by rw [← hC, q_Uj hj, mU_other (by decide), Jc 21 (by decide) (by omega)]⟩
      have Cg : ∀ c, 40 ≤ c → C c = I c := fun c hc => by rw [Cc c (by omega) (by omega), Jc c (by omega) (by omega)]
      refine ⟨_, hcl, hWR, ?_⟩
      dsimp only
      have href : wp (f_X12_tower Fu C (mUL L 105 0 v.toInt64) (nI n)) (fun y => ∃ J2 M, mTyr C (mUL L 105 0 v.toInt64) (.inl e) J2 M ∧ y = (nI e.1, mU J2 81 0 (J2 81 0 + 1), M)) := by
        refine m_towerR hF ht h1 hnt (by rw [Cg 75 (by omega)]; exact t13) (fun j hj => by rw [Cg 80 (by omega)]; exact (hB j hj).1) (fun J2 M hJ => ?_)
        rw [er] at hJ
        have hJ' := hJ
        obtain ⟨_, _, _, _, _, b1, b2, b3⟩ := hJ
        unfold b_X12_tower_129
        refine wp_Be (m_good0 (by rw [b1]; exact bad_ne b2)) (wp_p rfl ?_)
        rw [q_G0 (by omega) (by omega), q_G0 (by omega) (by omega), q_k0, mU_other (show (75 : Nat) ≠ 81 by decide), b1]
        exact wp_s ⟨J2, M, hJ', rfl⟩
      obtain ⟨o2, e2, J2, M, ⟨m0, m13, mj, mc, ml, b1, b2, b3⟩, rfl⟩ := href
      refine ⟨_, e2, ?_, r1, lF_105 ml, ?_⟩
      · unfold f_X12_thrown
        dsimp only
        rw [mU_other (by decide), m0]
      · dsimp only
        have Fc : ∀ c, c ≠ 75 → c ≠ 81 → c < 82 ∨ 88 < c → (mU J2 81 0 (J2 81 0 + 1)) c = C c := fun c a b d => by rw [mU_other b, mc c a d]
        have Fj : ∀ j, (1 ≤ j ∧ j ≤ 7) ∨ 34 < j → (mU J2 81 0 (J2 81 0 + 1)) 75 j = I 75 j := fun j hj => by rw [mU_other (by decide), mj j hj, Cg 75 (by omega)]
        have F13 : (mU J2 81 0 (J2 81 0 + 1)) 75 13 = 0 := by rw [mU_other (by decide), m13]
        have F15 : (mU J2 81 0 (J2 81 0 + 1)) 75 15 = nI e.2 := by rw [mU_other (by decide), b3]
        have F81 : (mU J2 81 0 (J2 81 0 + 1)) 81 0 = I 81 0 + 1 ∧ ∀ j, j ≠ 0 → (mU J2 81 0 (J2 81 0 + 1)) 81 j = I 81 j := ⟨by rw [q_U, mc 81 (by decide) (by omega), Cg 81 (by omega)], fun j hj => by rw [q_Uj hj, mc 81 (by decide) (by omega), Cg 81 (by omega)]⟩
        generalize mU J2 81 0 (J2 81 0 + 1) = F at Fc Fj F13 F15 F81 ⊢
        have Fg : ∀ c, 40 ≤ c → c ≠ 75 → c ≠ 81 → c < 82 ∨ 88 < c → F c = I c := fun c a b d e => by rw [Fc c b d e, Cg c a]
        refine ⟨p, n0, A, row, na, ac, hl, hWR, ⟨q, R11, hq2, hq3⟩, ho, hk, hA, hH, ⟨R03, hpp, ?_, ?_, ?_⟩, ?_, ⟨?_, ?_, ?_⟩, ?_, ?_, ⟨0, by omega, ?_, F13, fun j hj => absurd hj (Nat.not_lt_zero _)⟩, ?_, fun j hj => ?_⟩
        · refine cPl_fr hc.2.2.1 (fun c c1 c2 _ _ _ _ => ?_)
          have hcc : c ≠ 0 ∧ c ≠ 1 ∧ c ≠ 21 ∧ c < 75 ∧ (c < q ∨ q + 18 ≤ c) := by omega
          rw [Fc c (by omega) (by omega) (by omega), Cc c hcc.1 hcc.2.2.1, Jc c hcc.2.1 hcc.2.2.2.2]
        · intro j hj
          rw [Fg 41 (by omega) (by omega) (by omega) (by omega)]
          exact hc.2.2.2.1 j hj
        · exact cCo_f hc.2.2.2.2 (fun c c1 c2 => Fg c (by omega) (by omega) (by omega) (by omega))
        · exact cFv_f hf (fun c c1 c2 => Fg c (by omega) (by omega) (by omega) (by omega))
        · exact mPl_fr hm.1 (fun j j1 j2 => Fj j (by omega)) (Fg 76 (by omega) (by omega) (by omega) (by omega)) (Fg 77 (by omega) (by omega) (by omega) (by omega)) (Fg 78 (by omega) (by omega) (by omega) (by omega)) (Fg 79 (by omega) (by omega) (by omega) (by omega))
        · intro j hj
          rw [Fg 89 (by omega) (by omega) (by omega) (by omega)]
          exact hm.2.1 j hj
        · rw [Fj 47 (by omega)]
          exact hm.2.2
        · exact gX_k (fun c c1 c2 => Fg c (by omega) (by omega) (by omega) (by omega)) (Fg 90 (by omega) (by omega) (by omega) (by omega)) (Fg 99 (by omega) (by omega) (by omega) (by omega)) (Fj 44 (by omega)) (Fj 55 (by omega)) hX
        · exact gI_k (by rw [Fc 0 (by omega) (by omega) (by omega), C0j 10 (by decide)]) (fun c c1 c2 => Fg c (by omega) (by omega) (by omega) (by omega)) (Fg 102 (by omega) (by omega) (by omega) (by omega)) (Fg 103 (by omega) (by omega) (by omega) (by omega)) (Fg 104 (by omega) (by omega) (by omega) (by omega)) (Fj 60 (by omega)) (Fj 61 (by omega)) (Fj 62 (by omega)) hI
        · rw [Fc 1 (by omega) (by omega) (by omega), Cc 1 (by decide) (by decide)]
          exact J11
        · rw [Fc 0 (by omega) (by omega) (by omega), C01, F15]
        · rw [Fc 21 (by omega) (by omega) (by omega)]
          by_cases ej : j = 0
          · rw [ej, C21.1, F81.1, t21 0 (by omega)]
          · rw [C21.2 j ej, F81.2 j ej, t21 j hj]
    | inr S =>
      rw [er] at hr
      obtain ⟨r1, r2, r3⟩ := hr
      subst r1
      obtain ⟨C, hcl, c1, c2, c3, c4, c5, c6, c7, c8, c9⟩ := c_twGood h700 hle hy hWR R03 R11 hpp hq2
      obtain ⟨s1, s2, s3, s4, s5, s6, s7, s8, s9, ⟨e1, s10, e1a, e1b⟩, ⟨e2, s11, e2a, e2b⟩, s12, s13, s14, s15⟩ := r2
      have ⟨o1, o2, o3, o4, o5, o6, o7, o8, _⟩ := r3
      have Cg : ∀ c, 75 ≤ c → C c = I c := fun c hc => by rw [c9 c (by omega) (by omega) (by omega) (by omega) (by omega) (by omega), Jc c (by omega) (by omega)]
      have hWd3 : mWd (mUR (mUR R' 1 11 (some p)) 0 3 (some q)) := mWd_033 (mWd_11 hWR hpp) hq2
      refine ⟨_, hcl, hWd3, ?_⟩
      dsimp only
      have href : wp (f_X12_tower Fu C (mUL L 105 0 (0 : Int32).toInt64) (nI n)) (fun y => ∃ J2 M, mTyr C (mUL L 105 0 (0 : Int32).toInt64) (.inr S) J2 M ∧ mTo S e1 e2 J2 M y) := by
        refine m_towerR hF ht h1 hnt (by rw [Cg 75 (by omega)]; exact t13) (fun j hj => by rw [Cg 80 (by omega)]; exact (hB j hj).1) (fun J2 M hJ => ?_)
        rw [er] at hJ
        have hJ' := hJ
        obtain ⟨_, _, _, _, _, b1, b2, b3, ce, b4⟩ := hJ
        exact wp_m (m_129 hF b1 b4 b3 e1a e1b e2a e2b) (fun y hy => ⟨J2, M, hJ', hy⟩)
      obtain ⟨⟨u, F, N⟩, ee, J2, M, ⟨m0, m13, mj, mc, ml, b1, b2, b3⟩, ⟨w1, w2, w3, w4, w5, w6, w7, w8, w9⟩⟩ := href
      dsimp only at w1 w2 w3 w4 w5 w6 w7 w8 w9
      subst w1 w2
      have Fc : ∀ c, c ≠ 75 → (c < 76 ∨ 79 < c) → c ≠ 89 → (c < 82 ∨ 88 < c) → F c = C c := fun c a b d e => by rw [w9 c a b d, mc c a e]
      refine ⟨_, ee, ?_, rfl, lF_105 ml, ?_⟩
      · unfold f_X12_thrown
        dsimp only
        rw [w8 0 (by omega), m0]
      · dsimp only
        have R3a : (mUR (mUR R' 1 11 (some p)) 0 3 (some q)) 0 3 = some q := by unfold mUR; rw [if_pos ⟨rfl, rfl⟩]
        have R3b : (mUR (mUR R' 1 11 (some p)) 0 3 (some q)) 1 11 = some p := by unfold mUR; rw [if_neg (by decide), if_pos ⟨rfl, rfl⟩]
        have Fp : ∀ c, q ≤ c → c < q + 18 → F c = J c := fun c a b => by rw [Fc c (by omega) (by omega) (by omega) (by omega), c9 c (by omega) (by omega) (by omega) (by omega) (by omega) (by omega)]
        have Fq := Fp q (by omega) (by omega)
        refine ⟨q, 0, plA S e1 e2, S.2.1, 0, fun _ _ => 0, [], hWd3, ⟨p, R3b, hpp, fun e => hq3 e.symm⟩, ⟨o1, o2, o3, o4, o5, o6, o7, s10.2.1, s11.2.1, s10.2.2.2, s11.2.2.2⟩, o8, ⟨Nat.zero_le _, fun i hi => absurd hi (Nat.not_lt_zero _)⟩, ⟨Nat.zero_le _, fun i hi => absurd hi (Nat.not_lt_zero _)⟩, ⟨R3a, hq2, ⟨?_, ?_, ?_, ?_, ?_, ?_, fun r hr => ?_, fun j hj => ?_, fun j hj => ?_, ?_, ?_⟩, fun j hj => ?_, ?_⟩, Or.inl ?_, ⟨w3, w4, ?_⟩, ⟨⟨0, by omega, ?_, ?_, fun i hi => absurd hi (Nat.not_lt_zero _)⟩, ⟨?_, fun i hi => absurd hi (Nat.not_lt_zero _)⟩, ⟨?_, fun i hi => absurd hi (Nat.not_lt_zero _)⟩, ⟨?_, fun i hi => absurd hi (Nat.not_lt_zero _)⟩⟩, Or.inl ⟨?_, w7⟩, ⟨0, by omega, ?_, ?_, fun j hj => absurd hj (Nat.not_lt_zero _)⟩, ?_, fun j hj => ?_⟩
        · rw [Fq]; exact s1
        · rw [Fq]; exact s2
        · rw [Fq]; exact s3
        · rw [Fq]; exact s4
        · rw [Fq]; exact s5
        · rw [Fq]; exact s6
        · rw [Fp (q + 1) (by omega) (by omega)]; exact s7 r hr
        · rw [Fp (q + 2) (by omega) (by omega)]; exact s8 j hj
        · rw [Fp (q + 3) (by omega) (by omega)]; exact s9 j hj
        · exact cRu_fr s10 (Fp _ (by omega) (by omega)) (Fp _ (by omega) (by omega)) (Fp _ (by omega) (by omega))
        · exact cRu_fr s11 (Fp _ (by omega) (by omega)) (Fp _ (by omega) (by omega)) (Fp _ (by omega) (by omega))
        · have hj' : live S.1 j := hj
          have j53 : j < 53 := by unfold live at hj'; omega
          rw [Fc 41 (by omega) (by omega) (by omega) (by omega), Nat.zero_add, c1 j j53]
          exact r0 s12 hj'
        · exact ⟨by rw [Fc 56 (by omega) (by omega) (by omega) (by omega)]; exact c7, by omega, fun k => absurd k (by omega), fun k hk => absurd hk (by omega)⟩
        · rw [Fc 66 (by omega) (by omega) (by omega) (by omega)]; exact c8
        · rw [w8 47 (by omega), mj 47 (by omega), Cg 75 (by omega)]; exact hm.2.2
        · rw [Fc 42 (by omega) (by omega) (by omega) (by omega)]; exact c4
        · rw [Fc 42 (by omega) (by omega) (by omega) (by omega)]; exact c5
        · exact w5
        · rw [Fc 44 (by omega) (by omega) (by omega) (by omega)]; exact c6
        · exact w6
        · rw [Fc 0 (by omega) (by omega) (by omega) (by omega)]; exact c3
        · rw [Fc 1 (by omega) (by omega) (by omega) (by omega), c9 1 (by omega) (by omega) (by omega) (by omega) (by omega) (by omega)]; exact J11
        · rw [w8 13 (by omega)]; exact m13
        · rw [Fc 0 (by omega) (by omega) (by omega) (by omega), c2, w8 15 (by omega), b2]
        · rw [Fc 21 (by omega) (by omega) (by omega) (by omega), Fc 81 (by omega) (by omega) (by omega) (by omega), Cg 81 (by omega), c9 21 (by omega) (by omega) (by omega) (by omega) (by omega) (by omega), Jc 21 (by omega) (by omega)]
          exact t21 j hj
  · refine thr ?_ ?_
    · unfold f_X11_tower f_X6_taped
      rw [if_neg h0, q_B, t1, if_neg (by rw [q_le (by omega) (by omega)]; exact h1)]
    · unfold f_X12_tower b_X12_tower_22 b_X12_tower_23
      rw [if_neg h0, q_Uj (by decide), t13, if_pos (by rw [q_lt (by omega) (by omega)]; omega), m_right0 (q_U _ _ _ _) (by decide), q_B, if_pos rfl]
