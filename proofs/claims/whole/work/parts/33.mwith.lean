/-! one root eaten: the others go on as they would -/
def eO (A : aPl) (r : Nat) (row row' : Nat → Int32) : Prop := row' (31 + r) = -2 ∧ row' 0 = row 0 ∧ ∀ q, q < pR A → q ≠ r → row' (1 + q) = row (1 + q) ∧ row' (11 + q) = row (11 + q) ∧ row' (21 + q) = row (21 + q) ∧ row' (31 + q) = row (31 + q)
theorem eO_day {A : aPl} {r : Nat} {row row' : Nat → Int32} {w : Int32} (ho : okPl A) (h : eO A r row row') : eO A r (sDay A w row) (sDay A w row') := by
  have h10 := ho.1
  obtain ⟨h1, h2, h3⟩ := h
  refine ⟨by rw [sDay_hi (by omega), h1], by rw [sDay_0, sDay_0, h2], fun q hq hn => ?_⟩
  obtain ⟨g1, g2, g3, g4⟩ := h3 q hq hn
  refine ⟨?_, ?_, ?_, ?_⟩
  · rw [sDay_sz hq h10, sDay_sz hq h10, g1, g4, sGr_c h2 g1 g2 g3 g4]
  · rw [sDay_ho (by omega) (by omega), sDay_ho (by omega) (by omega), g2]
  · rw [sDay_so hq h10, sDay_so hq h10, g3, g4]
  · rw [sDay_hi (by omega), sDay_hi (by omega), g4]
theorem eO_nx {A : aPl} {r : Nat} {row row' : Nat → Int32} (ho : okPl A) (h : eO A r row row') : eO A r (sNx A row) (sNx A row') := by
  unfold sNx
  rw [h.2.1]
  exact eO_day ho h
theorem eO_ds {A : aPl} {r : Nat} {row row' : Nat → Int32} (ho : okPl A) (h : eO A r row row') : ∀ k, eO A r (sDs A row k) (sDs A row' k)
  | 0 => h
  | k + 1 => eO_nx ho (eO_ds ho h k)
theorem eO_sd {A : aPl} {r q : Nat} {row row' : Nat → Int32} (h : eO A r row row') : sSd A row' q = (sSd A row q && !(decide (q = r))) := by
  unfold sSd
  by_cases hq : q < pR A
  · rw [decide_eq_true hq, Bool.true_and, Bool.true_and]
    by_cases e : q = r
    · subst e
      rw [h.1, decide_eq_true rfl, Bool.not_true, Bool.and_false, decide_eq_false (by decide), Bool.false_and]
    · obtain ⟨g1, g2, g3, g4⟩ := h.2.2 q hq e
      rw [g3, g4, decide_eq_false e, Bool.not_false, Bool.and_true]
  · rw [decide_eq_false hq, Bool.false_and, Bool.false_and, Bool.false_and]
theorem eO_nt {A : aPl} {r q : Nat} {row row' : Nat → Int32} {m : Int32} (h : eO A r row row') (hq : q < pR A) (hn : q ≠ r) : sNt A row' q m = sNt A row q m := by
  obtain ⟨g1, g2, g3, g4⟩ := h.2.2 q hq hn
  unfold sNt
  rw [h.2.1]
  exact sNo_c h.2.1 g1 g2 g3 g4
theorem sSd_i {A : aPl} {row : Nat → Int32} {q : Nat} (h : sSd A row q = true) : q < pR A := by
  apply Classical.byContradiction
  intro e
  rw [sSd_o q (by omega)] at h
  exact nomatch h
theorem eO_nb {A : aPl} {r : Nat} {row row' : Nat → Int32} (h : eO A r row row') : sNB A row' (sSd A row') = sNB A row (fun q => sSd A row q && !(decide (q = r))) := by
  unfold sNB
  refine orF_c 10 (fun q hq => ?_)
  rw [eO_sd h]
  by_cases e : (sSd A row q && !(decide (q = r))) = true
  · rw [if_pos e, if_pos e]
    rw [Bool.and_eq_true] at e
    have e2 : q ≠ r := fun e3 => by rw [decide_eq_true e3] at e; exact nomatch e.2
    rw [eO_nt h (sSd_i e.1) e2]
  · rw [if_neg e, if_neg e]
def upE (row : Nat → Int32) (r : Nat) : Nat → Int32 := fun j => if j = 31 + r then -2 else row j
theorem upE_ok {A : aPl} {D r : Nat} {row : Nat → Int32} (ho : okPl A) (h : okR A D row) (hr : r < pR A) : okR A D (upE row r) := by
  have h10 := ho.1
  obtain ⟨⟨d, h1, h2⟩, h3, h4⟩ := h
  have e : ∀ j, j ≠ 31 + r → upE row r j = row j := fun j hj => if_neg hj
  have e2 : upE row r (31 + r) = -2 := if_pos rfl
  refine ⟨⟨d, by rw [e 0 (by omega)]; exact h1, h2⟩, fun q hq => ?_, fun q s hq hs hn h0 => ?_⟩
  · obtain ⟨s, hh, f, g1, g2, g3, g4, g5, g6, g7, g8⟩ := h3 q hq
    refine ⟨s, hh, f, by rw [e _ (by omega)]; exact g1, by rw [e _ (by omega)]; exact g2, by rw [e _ (by omega)]; exact g3, g4, g5, g6, g7, ?_⟩
    by_cases n : q = r
    · subst n; rw [e2]; exact Or.inr (Or.inl rfl)
    · rw [e _ (by omega)]; exact g8
  · by_cases n : q = r
    · subst n; rw [e2] at h0; exact absurd h0 (by decide)
    · rw [e (31 + q) (by omega)] at h0 ⊢
      by_cases n2 : s = r
      · subst n2; rw [e2]; intro e3; rw [e3] at h0; exact absurd h0 (by decide)
      · rw [e (31 + s) (by omega)]; exact h4 q s hq hs hn h0
theorem upE_eO {A : aPl} {r : Nat} {row : Nat → Int32} (ho : okPl A) (hr : r < pR A) : eO A r row (upE row r) := by
  have h10 := ho.1
  exact ⟨if_pos rfl, if_neg (by omega), fun q hq hn => ⟨if_neg (by omega), if_neg (by omega), if_neg (by omega), if_neg (by omega)⟩⟩
theorem m_without {Fu : Nat} {I : mIT} {r : Nat} {A : aPl} {row : Nat → Int32} (hF : 701 < Fu) (ho : okPl A) (hk : okR A 999 row) (h : mQ I A row) (hr : r < pR A) : wp (f_X12_without Fu I (nI r)) (fun y => y.1 = lastB (fun k => sTu A (sNB A (sDs A row k) (fun q => sSd A (sDs A row k) q && !(decide (q = r))))) 61 ∧ mS (mU I 75 0 0) y.2) := by
  have h0 := mQ_0 (v := 0) h
  have h10 := ho.1
  have hk2 := upE_ok ho hk hr
  rw [lastB_c (q := sRg A (upE row r)) 61 (fun k _ => by unfold sRg; rw [eO_nb (eO_ds ho (upE_eO ho hr) k)])]
  unfold f_X12_without
  refine wp_Be (m_isRoot1 (q_U0 I) h0.1 ho hr) (wp_n ne10 ?_)
  refine wp_B (m_tries hF ho h0) ?_
  rintro I1 ⟨h1, h2⟩
  rw [show (84 : Int32) + nI r = nI (84 + r) from nI_add 84 r]
  simp (disch := omega) only [q_GI, q_cl]
  unfold w_X12_without_34
  refine wp_loop (fun dd (s : Int32 × Int32 × mIT) => ∃ (i : Nat) (J : mIT), s = (lastB (sRg A (upE row r)) i, nI i, J) ∧ dd = 61 - i ∧ i ≤ 61 ∧ mS (mU I 75 0 0) J ∧ rI A J 89 53 (sDs A (upE row r) i)) _ ?_ Fu 61 _ ⟨0, _, rfl, rfl, by omega, mS_u h1 (kM_hi (by omega)), fun j hj => ?_⟩ (by omega)
  · rintro dd s self ⟨i, J, rfl, hdd, hi, f1, f2⟩ hself
    show wp (b_X12_without_34 Fu self _ (nI i) J) _
    unfold b_X12_without_34
    refine wp_i (gt_60 (by omega)) (fun hle => ?_) (fun hlt => ?_)
    · have hie : i = 61 := by omega
      subst hie
      exact wp_s ⟨rfl, f1⟩
    · have hJ := mQ_s ho h0 f1
      refine wp_B (m_notesIn (b := 53) hF hJ.1 ho hJ.2.2 (by omega) f2 (okR_ds ho hk2 i) (by omega)) ?_
      rintro ⟨v, J'⟩ ⟨e1, e2⟩
      dsimp only at e1 e2 ⊢
      have hJ' := mQ_s ho hJ (mS_n e2)
      refine wp_Be (m_hasTune hF hJ'.1 ho) ?_
      have hd : wp (f_X12_dayGoes Fu J' 53) (fun J'' => mS J' J'' ∧ rI A J'' 89 53 (sDs A (upE row r) (i + 1))) := m_day hF ho hJ' (fun j hj => by rw [e2 89 (by decide) (by decide)]; exact f2 j hj) (okR_ds ho hk2 i) (by omega)
      have nx : ∀ x, x = lastB (sRg A (upE row r)) (i + 1) → wp (oB (f_X12_dayGoes Fu J' 53) (fun r41 => self (x, nI i + 1, r41))) (fun y => y.1 = lastB (sRg A (upE row r)) 61 ∧ mS (mU I 75 0 0) y.2) := by
        intro x hx
        refine wp_B hd ?_
        rintro J'' ⟨g1, g2⟩
        exact hself (61 - (i + 1)) _ (by omega) ⟨i + 1, J'', by rw [q_1, hx], rfl, by omega, mS_t (mS_t f1 (mS_n e2)) g1, g2⟩
      have hv : sTu A v = sRg A (upE row r) i := by rw [e1]; rfl
      rw [hv]
      by_cases e : sRg A (upE row r) i = true
      · rw [if_pos e, if_neg (by decide)]
        exact nx _ (by rw [lastB, if_pos e])
      · rw [if_neg e, if_pos rfl]
        exact nx _ (by rw [lastB, if_neg e])
  · show (mU I1 89 (84 + r) (-2)) 89 (53 + j) = upE row r j
    unfold upE
    by_cases e : j = 31 + r
    · subst e
      rw [if_pos rfl, show 53 + (31 + r) = 84 + r by omega, q_U]
    · rw [if_neg e, q_Uj (by omega)]
      exact h2 j hj
