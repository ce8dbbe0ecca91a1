theorem ct_split10 (p : Nat → Bool) : (∀ r, 10 ≤ r → p r = false) → fb_ct p 16 = fb_ct p 10 := fun h => by
  have e := fb_ct_split p 10 6
  have z : fb_ct (fun k => p (10 + k)) 6 = 0 := fb_ct_zero.mpr (fun k _ => h _ (by omega))
  rw [z] at e
  exact e
theorem m_bits {Fu : Nat} {p : Nat → Bool} (hF : 701 < Fu) : f_X12_bits Fu (mkB p 10) = some (nI (fb_ct p 10)) := by
  have key : f_X12_bits Fu (mkB p 10) = some (nI (fb_ct (fun r => decide (r < 10) && p r) 16)) := by
    unfold f_X12_bits w_X12_bits_4
    refine q_for (fun i => (mkB p 10, nI (fb_ct (fun r => decide (r < 10) && p r) i), nI i)) 16 _ ?_ ?_ Fu (by omega)
    · intro i hi self
      show b_X12_bits_4 Fu self _ _ (nI i) = _
      unfold b_X12_bits_4
      rw [if_neg (by rw [ge_16 (by omega)]; omega), b_at (by omega), b_mkB (by omega) (by omega), q_1, fb_ct_succ]
      by_cases e : (decide (i < 10) && p i) = true
      · rw [if_pos e, if_pos e, q_1]
      · rw [if_neg e, if_neg e, q_p0]; rfl
    · intro self
      show b_X12_bits_4 Fu self _ _ (nI 16) = _
      unfold b_X12_bits_4
      rw [if_pos (by decide)]
  rw [key]
  congr 2
def mS7 (I J : mIT) : Prop := ∀ c j, kM c j = true → ¬ (c = 75 ∧ j = 47) → J c j = I c j
theorem mPl_7 {I J : mIT} {A : aPl} (h : mPl I A) (f : mS7 I J) : mPl J A := mPl_fr h (fun j _ h2 => f 75 j (kM_75 (by omega)) (by omega)) (funext fun j => f 76 j rfl (by omega)) (funext fun j => f 77 j rfl (by omega)) (funext fun j => f 78 j rfl (by omega)) (funext fun j => f 79 j rfl (by omega))
theorem m_happens {Fu : Nat} {I : mIT} {D : Nat} {A : aPl} {row : Nat → Int32} (h : mPl I A) (ho : okPl A) (hr : rI A I 89 53 row) (hk : okR A D row) : wp (f_X12_happens Fu I) (fun J => rI A J 89 53 (wE A row (I 75 59)).1 ∧ J 75 59 = (wE A row (I 75 59)).2 ∧ mS I J) := by
  have h10 := ho.1
  unfold f_X12_happens
  refine wp_Be (m_draw (n := 8) (by omega) (by omega)) ?_
  dsimp only
  have hp3 : (mU I 75 59 (dS (I 75 59))) 75 1 = nI (pR A) := by rw [q_Uj (by decide)]; exact h.1
  have hm8 : dv (dS (I 75 59)) % 8 < 8 := Nat.mod_lt _ (by omega)
  have hS1 : ∀ s, mS I (mU I 75 59 s) := fun s => mS_u (mS_r I) rfl
  refine wp_i (gt_1 (by omega)) (fun e2 => ?_) (fun e2 => ?_)
  · have ew : wE A row (I 75 59) = (row, dS (I 75 59)) := by unfold wE; rw [if_pos (Or.inr e2)]
    rw [ew]
    exact wp_s ⟨fun j hj => by rw [mU_other (by decide)]; exact hr j hj, q_U _ _ _ _, hS1 _⟩
  · refine wp_i (by rw [hp3, q_eq0 (by omega)]) (fun e => ?_) (fun e => ?_)
    · have ew : wE A row (I 75 59) = (row, dS (I 75 59)) := by unfold wE; rw [if_pos (Or.inl e)]
      rw [ew]
      exact wp_s ⟨fun j hj => by rw [mU_other (by decide)]; exact hr j hj, q_U _ _ _ _, hS1 _⟩
    · have hq : dv (dS (dS (I 75 59))) % pR A < pR A := Nat.mod_lt _ (by omega)
      rw [hp3]
      refine wp_Be (m_draw (n := pR A) (by omega) (by omega)) ?_
      dsimp only
      rw [q_U, mU_mU]
      generalize hrr : dv (dS (dS (I 75 59))) % pR A = r at hq
      generalize hs2 : dS (dS (I 75 59)) = s2 at hrr
      have hJr : rI A (mU I 75 59 s2) 89 53 row := fun j hj => by rw [mU_other (by decide)]; exact hr j hj
      have ew : wE A row (I 75 59) = ((if dv (dS (I 75 59)) % 8 = 0 then (if row (31 + r) = -1 then upE row r else row) else (if row (31 + r) < 0 then row else upS row r)), s2) := by unfold wE; rw [if_neg (by omega), hs2, hrr]
      have hpl : (mU I 75 59 s2) 89 (84 + r) = row (31 + r) := by have := hJr _ (lv_31 hq); rwa [show 53 + (31 + r) = 84 + r by omega] at this
      have hso : (mU I 75 59 s2) 89 (74 + r) = row (21 + r) := by have := hJr _ (lv_21 hq); rwa [show 53 + (21 + r) = 74 + r by omega] at this
      rw [show (84 : Int32) + nI r = nI (84 + r) from nI_add 84 r]
      simp (disch := omega) only [q_GI, q_cl, hpl]
      have f57 : ∀ J : mIT, J = mU I 75 59 s2 → (dv (dS (I 75 59)) % 8 = 0 → row (31 + r) ≠ -1) → wp (b_X12_happens_57 Fu (nI (dv (dS (I 75 59)) % 8)) (nI r) J) (fun J => rI A J 89 53 (wE A row (I 75 59)).1 ∧ J 75 59 = (wE A row (I 75 59)).2 ∧ mS I J) := by
        rintro J rfl hne
        unfold b_X12_happens_57
        refine wp_i (eq_1 (by omega)) (fun e3 => ?_) (fun e3 => ?_)
        · rw [if_neg (by omega)] at ew
          refine wp_Be (m_hang1 (b := 53) (by omega) (by omega) (hJr _ (lv_31 hq))) ?_
          by_cases e4 : row (31 + r) < 0
          · rw [if_pos e4] at ew ⊢
            rw [ew]
            exact wp_p rfl (wp_s ⟨hJr, q_U _ _ _ _, hS1 _⟩)
          · rw [if_neg e4] at ew ⊢
            refine wp_n (by decide) ?_
            obtain ⟨s, hh, f, g1, g2, g3, g4, g5, g6, g7, g8⟩ := hk.2.1 r hq
            rw [show (74 : Int32) + nI r = nI (74 + r) from nI_add 74 r]
            simp (disch := omega) only [q_GI, q_cl, hso, g3, a_9]
            unfold f_X12_kept
            rw [kp_99 _ (by omega), q_B, ew]
            refine wp_s ⟨?_, by rw [mU_other (by decide), q_U], mS_u (hS1 _) (kM_hi (by omega))⟩
            have := rI_up (i := 21 + r) (row' := upS row r) hJr (if_pos rfl) (fun j hj => if_neg hj)
            rw [g3, a_9, show 53 + (21 + r) = 74 + r by omega] at this
            exact this
        · rw [if_pos (by omega), if_neg (hne (by omega))] at ew
          rw [ew]
          exact wp_s ⟨hJr, q_U _ _ _ _, hS1 _⟩
      refine wp_i (q_eq0 (by omega)) (fun e3 => ?_) (fun e3 => f57 _ rfl (fun e4 => absurd e4 e3))
      refine wp_f (fun e4 => ?_) (fun e4 => f57 _ rfl (fun _ => e4))
      rw [if_pos e3, if_pos e4] at ew
      unfold b_X12_happens_57
      refine wp_n (by rw [eq_1 (by omega)]; omega) ?_
      rw [ew]
      refine wp_s ⟨?_, by rw [mU_other (by decide), q_U], mS_u (hS1 _) (kM_hi (by omega))⟩
      have := rI_up (i := 31 + r) (row' := upE row r) hJr (if_pos rfl) (fun j hj => if_neg hj)
      rwa [show 53 + (31 + r) = 84 + r by omega] at this
theorem m_towers {Fu : Nat} {I : mIT} {m w : Nat} {A : aPl} {row : Nat → Int32} {s : Int32} (hF : 701 < Fu) (ho : okPl A) (hk : okR A 999 row) (h : mQ I A row) (hm : m < 61) (hw : w < 3) : wp (f_X12_towers Fu I s (nI m) (nI w)) (fun y => y.1 = sTw A (wN A row s m).1 w ∧ mS (mU I 75 0 0) y.2) := by
  have h0 := mQ_0 (v := 0) h
  have h10 := ho.1
  unfold f_X12_towers
  refine wp_Be (m_what1 (m := 2) (q_U0 I) hw (by omega)) (wp_n ne10 ?_)
  refine wp_Be (m_isDays1 (q_U0 I) hm) (wp_n ne10 ?_)
  refine wp_B (m_tries hF ho h0) ?_
  rintro I1 ⟨h1, h2⟩
  unfold w_X12_towers_37
  refine wp_loop (fun dd (st : Int32 × Int32 × Int32 × mIT) => ∃ (i : Nat) (J : mIT), st = (nI m, nI w, nI i, J) ∧ dd = m - i ∧ i ≤ m ∧ rI A J 89 53 (wN A row s i).1 ∧ J 75 59 = (wN A row s i).2 ∧ mS7 (mU I 75 0 0) J) _ ?_ Fu m _ ⟨0, _, rfl, rfl, by omega, fun j hj => by rw [mU_other (by decide)]; exact h2 j hj, q_U _ _ _ _, fun c j hc _ => mS_u h1 rfl c j hc⟩ (by omega)
  rintro dd st self ⟨i, J, rfl, hdd, hi, f1, f2, f3⟩ hself
  have hJp := mPl_7 h0.1 f3
  show wp (b_X12_towers_37 Fu self (nI m) (nI w) (nI i) J) _
  unfold b_X12_towers_37
  refine wp_i (q_le (by omega) (by omega)) (fun hle => ?_) (fun hlt => ?_)
  · have hie : i = m := by omega
    subst hie
    have hS : mS (mU I 75 0 0) (mU J 75 47 (-1)) := fun c j hc => by
      by_cases e : c = 75 ∧ j = 47
      · obtain ⟨rfl, rfl⟩ := e
        rw [q_U]; exact h0.2.2.symm
      · rw [show mU J 75 47 (-1) c j = J c j from if_neg e]
        exact f3 c j hc e
    have hK := mQ_s ho h0 hS
    have hr53 : rI A (mU J 75 47 (-1)) 89 53 (wN A row s i).1 := fun j hj => by rw [mU_other (by decide)]; exact f1 j hj
    generalize (wN A row s i).1 = rw1 at hr53
    generalize mU J 75 47 (-1) = K at hS hK hr53
    refine wp_Be (m_whereIn (b := 53) hF hK.1 ho (by omega) hr53) ?_
    unfold w_X12_towers_89
    refine wp_loop (fun dd (st : Int32 × Int32 × Int32 × Int32 × mIT) => ∃ (q : Nat), st = (nI w, mkB (sWh A rw1 (-1)) 10, sSz A rw1 q, nI q, K) ∧ dd = pR A - q ∧ q ≤ pR A) _ ?_ Fu (pR A) _ ⟨0, rfl, rfl, by omega⟩ (by omega)
    rintro dq st self2 ⟨q, rfl, hdq, hq⟩ hself2
    show wp (b_X12_towers_89 Fu self2 _ _ _ (nI q) K) _
    unfold b_X12_towers_89
    refine wp_i (by rw [hK.1.1, q_le (by omega) (by omega)]) (fun hle2 => ?_) (fun hlt2 => ?_)
    · have hqe : q = pR A := by omega
      subst hqe
      unfold sTw
      refine wp_i (q_eq0 (by omega)) (fun e => ?_) (fun e => ?_)
      · rw [if_pos e]
        refine wp_Be (m_soundingIn (b := 53) hF hK.1 ho (by omega) hr53) (wp_Be (m_bits hF) (wp_s ⟨?_, hS⟩))
        rw [ct_10 h10 sSd_o]
      · rw [if_neg e]
        refine wp_i (eq_1 (by omega)) (fun e => ?_) (fun e => ?_)
        · rw [if_pos e]
          refine wp_Be (m_whereIn (b := 53) hF hK.1 ho (by omega) hr53) (wp_Be (m_bits hF) (wp_s ⟨?_, hS⟩))
          rw [ct_10 h10 sWh_o]
        · rw [if_neg e]
          exact wp_s ⟨rfl, hS⟩
    · have hq2 : q < pR A := by omega
      have hsz : K 89 (54 + q) = rw1 (1 + q) := by have := hr53 _ (lv_1 hq2); rwa [show 53 + (1 + q) = 54 + q by omega] at this
      rw [show (54 : Int32) + nI q = nI (54 + q) from nI_add 54 q]
      simp (disch := omega) only [q_GI, q_cl, hsz, q_1]
      refine wp_i (b_at1 (by omega) _) (fun e => ?_) (fun e => ?_)
      · rw [b_mkB (by omega) (by omega), decide_eq_true (by omega : q < 10), Bool.true_and] at e
        exact hself2 (pR A - (q + 1)) _ (by omega) ⟨q + 1, by rw [sSz, if_pos e], rfl, by omega⟩
      · rw [b_mkB (by omega) (by omega), decide_eq_true (by omega : q < 10), Bool.true_and] at e
        exact hself2 (pR A - (q + 1)) _ (by omega) ⟨q + 1, by rw [sSz, if_neg e], rfl, by omega⟩
  · have hok := wN_ok (s := s) ho hk i
    refine wp_B (m_happens hJp ho f1 hok) ?_
    rintro K ⟨u1, u2, u3⟩
    rw [f2] at u1 u2
    refine wp_Be (m_draw (n := 10) (by omega) (by omega)) ?_
    dsimp only
    rw [u2]
    generalize hwk : dv (dS (wE A (wN A row s i).1 (wN A row s i).2).2) % 10 = wk
    have hwk9 : wk ≤ 9 := by omega
    generalize hs3 : dS (wE A (wN A row s i).1 (wN A row s i).2).2 = s3 at hwk
    have hm7 : mS7 (mU I 75 0 0) (mU (mU K 75 59 s3) 75 47 (nI wk)) := fun c j hc hn => by
      rw [show mU (mU K 75 59 s3) 75 47 (nI wk) c j = mU K 75 59 s3 c j from if_neg hn, mS_u u3 rfl c j hc]
      exact f3 c j hc hn
    have hokE := wE_ok (s := (wN A row s i).2) ho hok
    obtain ⟨d, hd, hdD⟩ := hokE.1
    refine wp_B (m_dayGoes (b := 53) (w := nI wk) hF (mPl_7 h0.1 hm7) ho (by omega) (fun j hj => by rw [mU_other (by decide), mU_other (by decide)]; exact u1 j hj) hokE hd (by omega) (Or.inr ⟨by rw [q_U, ne_eq, q_eqm1 (by omega)]; simp, by rw [q_U]⟩) ⟨wk, hwk9, rfl⟩) ?_
    rintro J' ⟨v1, v2, v3⟩
    refine hself (m - (i + 1)) _ (by omega) ⟨i + 1, J', by rw [q_1], rfl, by omega, ?_, ?_, fun c j hc hn => ?_⟩
    · show rI A J' 89 53 (wD A (wN A row s i)).1
      unfold wD
      dsimp only
      rw [hs3, hwk]
      exact v1
    · rw [v2 75 (by decide) (by decide) (by decide), q_Uj (by decide), q_U]
      show s3 = (wD A (wN A row s i)).2
      unfold wD
      rw [hs3]
    · by_cases e : c = 89
      · subst e
        by_cases e2 : j < 53
        · rw [v3 j (Or.inl e2)]; exact hm7 _ _ hc hn
        · rw [kM_hi (by omega)] at hc; exact nomatch hc
      · rw [v2 c e (fun e => by subst e; exact nomatch hc) (fun e => by subst e; exact nomatch hc)]
        exact hm7 _ _ hc hn
