/-! the acts keep the picture -/
theorem aC_U {I K : mIT} {p j : Nat} {A : aPl} {row : Nat → Int32} {na : Nat} {ac : Nat → Nat → Int32} {v : Int32} (hrw : rI A I 41 0 row) (k1 : cAc K 42 A na ac) (k2 : K 56 4 = 0) (k3 : K 66 4 = 0) (k4 : ∀ c, c ≠ 42 → c ≠ 43 → c ≠ 56 → c ≠ 66 → K c = I c) : aC I p A (rU row j v) na ac (mU K 41 j v) := by
  refine ⟨?_, by rw [mU_other (by decide)]; exact k2, by rw [mU_other (by decide)]; exact k3, rI_U (fun i hi => by rw [k4 41 (by decide) (by decide) (by decide) (by decide)]; exact hrw i hi), fun c c1 c2 c3 c4 c5 _ _ _ _ => by rw [mU_other c1]; exact k4 c c2 c3 c4 c5⟩
  unfold cAc rI at *
  rw [mU_other (by decide), mU_other (by decide)]
  exact k1
theorem mAc_0 {J : mIT} {A : aPl} {na : Nat} {ac : Nat → Nat → Int32} {v : Int32} (h : mAc J 44 90 A na ac) : mAc (mU J 75 0 v) 44 90 A na ac := by
  unfold mAc rI at *
  rw [q_Uj (by decide), mU_other (by decide)]
  exact h
theorem aM_U {J K : mIT} {A : aPl} {j : Nat} {row : Nat → Int32} {na : Nat} {ac : Nat → Nat → Int32} {v : Int32} (hrw : rI A J 89 0 row) (k1 : mAc K 44 90 A na ac) (k2 : mA0 (mU J 75 0 0) K) : aM J A (rU row j v) na ac (mU K 89 j v) ∧ mU K 89 j v 75 0 = 0 := by
  refine ⟨⟨?_, rI_U (fun i hi => ?_), fun c i hc c1 c2 c3 => ?_⟩, ?_⟩
  · unfold mAc rI at *
    rw [mU_other (by decide), mU_other (by decide)]
    exact k1
  · rw [k2 89 _ (by decide) (fun q => absurd q (by decide)), mU_other (by decide)]
    exact hrw i hi
  · rw [mU_other c2, k2 c i c1 (fun q => (c3 q).2)]
    by_cases e : c = 75
    · subst e; rw [q_Uj (c3 rfl).1]
    · rw [mU_other e]
  · rw [mU_other (by decide), k2 75 0 (by decide) (fun _ => by decide), q_U]
theorem ge_aC {I J : mIT} {p : Nat} {A : aPl} {row : Nat → Int32} {na : Nat} {ac : Nat → Nat → Int32} (hpp : p = 3 ∨ p = 22) (h : aC I p A row na ac J) : ∀ c, 75 ≤ c → J c = I c := fun c hc => h.2.2.2.2 c (by omega) (by omega) (by omega) (by omega) (by omega) (by omega) (by omega) (by omega) (by omega)
theorem mAc_ge {I J : mIT} {A : aPl} {na : Nat} {ac : Nat → Nat → Int32} (h : mAc I 44 90 A na ac) (f : ∀ c, 75 ≤ c → J c = I c) : mAc J 44 90 A na ac := by
  unfold mAc rI at *
  rw [f 75 (by omega), f 90 (by omega)]
  exact h
theorem st_act {Fu : Nat} {I : mIT} {R : mRT} {L : mLT} {p n : Nat} {A : aPl} {row row' : Nat → Int32} {na na' : Nat} {ac ac' : Nat → Nat → Int32} {hl : hLs} {a : Int32} {f1 : Option ((Int32 × mIT) ⊕ (Nat × mIT))} {f2 : mIT → Option (Int32 × mIT)} (hp : pic I R p n A row na ac hl) (hr : okR A 999 row') (hA : okA A na' ac') (h1 : wp f1 (fun o => ∃ J, o = .inl (a, J) ∧ aC I p A row' na' ac' J)) (h2 : ∀ J, mQ J A row → mAc J 44 90 A na ac → wp (f2 J) (fun y => y.1 = a ∧ aM J A row' na' ac' y.2 ∧ y.2 75 0 = 0)) : ∃ o, f1 = some (.inl o) ∧ ∃ o2, f2 o.2 = some o2 ∧ f_X12_thrown Fu o2.2 = some 0 ∧ o.1 = o2.1 ∧ pP o2.2 R L := by
  have ⟨hW, hq0, ho, hk, _, hH, hc, hf, hm, hX, hI, hT⟩ := hp
  obtain ⟨o, e1, J, rfl, hJ⟩ := h1
  have g := ge_aC hc.2.1 hJ
  obtain ⟨y, e2, ey, em, e0⟩ := h2 J (mQ_ge hm g) (mAc_ge hX.2.1 g)
  exact ⟨_, e1, y, e2, congrArg some e0, ey.symm, p, 0, A, row', na', ac', hl, pic_act hp hr hA hJ em⟩
theorem st_acv {I : mIT} {R : mRT} {L : mLT} {p n : Nat} {A : aPl} {row row' : Nat → Int32} {na na' : Nat} {ac ac' : Nat → Nat → Int32} {hl : hLs} {a : Int32} {f1 : Option (Int32 × mIT)} {f2 : mIT → Option (Int32 × mIT)} (hp : pic I R p n A row na ac hl) (hr : okR A 999 row') (hA : okA A na' ac') (h1 : wp f1 (fun o => o.1 = a ∧ aC I p A row' na' ac' o.2)) (h2 : ∀ J, mQ J A row → mAc J 44 90 A na ac → wp (f2 J) (fun y => y.1 = a ∧ aM J A row' na' ac' y.2)) : ∃ o, f1 = some o ∧ ∃ o2, f2 o.2 = some o2 ∧ o.1 = o2.1 ∧ pP o2.2 R L := by
  have ⟨hW, hq0, ho, hk, _, hH, hc, hf, hm, hX, hI, hT⟩ := hp
  obtain ⟨o, e1, ea, hJ⟩ := h1
  have g := ge_aC hc.2.1 hJ
  obtain ⟨y, e2, ey, em⟩ := h2 o.2 (mQ_ge hm g) (mAc_ge hX.2.1 g)
  exact ⟨_, e1, y, e2, by rw [ea, ey], p, 0, A, row', na', ac', hl, pic_act hp hr hA hJ em⟩
theorem ge_r21 {I : mIT} {k : Nat} {x : Int32} : ∀ c, 75 ≤ c → mU I 21 k x c = I c := fun c hc => mU_other (by omega)
theorem st_ref {Fu : Nat} {I : mIT} {R : mRT} {L : mLT} {p n : Nat} {A : aPl} {row : Nat → Int32} {na : Nat} {ac : Nat → Nat → Int32} {hl : hLs} {a : Int32} {f1 : Option ((Int32 × mIT) ⊕ (Nat × mIT))} {f2 : mIT → Option (Int32 × mIT)} (hp : pic I R p n A row na ac hl) (h1 : f1 = some (.inl (a, mU I 21 1 (I 21 1 + 1)))) (h2 : ∀ J, mQ J A row → f2 J = some (a, mU (mU J 75 0 0) 81 1 ((mU J 75 0 0) 81 1 + 1))) : ∃ o, f1 = some (.inl o) ∧ ∃ o2, f2 o.2 = some o2 ∧ f_X12_thrown Fu o2.2 = some 0 ∧ o.1 = o2.1 ∧ pP o2.2 R L := by
  have hm := hp.2.2.2.2.2.2.2.2.1
  refine ⟨_, h1, _, h2 _ (mQ_ge hm ge_r21), ?_, rfl, p, n, A, row, na, ac, hl, ?_⟩
  · have e0 : ∀ (K : mIT) (x : Int32), mU (mU K 75 0 0) 81 1 x 75 0 = 0 := fun K x => by rw [mU_other (by decide), q_U]
    exact congrArg some (e0 (mU I 21 1 (I 21 1 + 1)) ((mU (mU I 21 1 (I 21 1 + 1)) 75 0 0) 81 1 + 1))
  · have := pic_ref (k := 1) hp
    have e : (mU (mU I 21 1 (I 21 1 + 1)) 75 0 0) 81 1 = I 81 1 := by rw [mU_other (by decide), mU_other (by decide)]
    show pic (mU (mU (mU I 21 1 (I 21 1 + 1)) 75 0 0) 81 1 ((mU (mU I 21 1 (I 21 1 + 1)) 75 0 0) 81 1 + 1)) R p n A row na ac hl
    rw [e]
    exact this
theorem st_rfv {I : mIT} {R : mRT} {L : mLT} {p n k : Nat} {A : aPl} {row : Nat → Int32} {na : Nat} {ac : Nat → Nat → Int32} {hl : hLs} {a : Int32} {f1 : Option (Int32 × mIT)} {f2 : mIT → Option (Int32 × mIT)} (hp : pic I R p n A row na ac hl) (h1 : f1 = some (a, mU I 21 k (I 21 k + 1))) (h2 : ∀ J, mQ J A row → (∀ c, 75 ≤ c → J c = I c) → f2 J = some (a, mU (mU J 75 0 0) 81 k ((mU J 75 0 0) 81 k + 1))) : ∃ o, f1 = some o ∧ ∃ o2, f2 o.2 = some o2 ∧ o.1 = o2.1 ∧ pP o2.2 R L := by
  have hm := hp.2.2.2.2.2.2.2.2.1
  refine ⟨_, h1, _, h2 _ (mQ_ge hm ge_r21) ge_r21, rfl, p, n, A, row, na, ac, hl, ?_⟩
  have := pic_ref (k := k) hp
  have e : (mU (mU I 21 k (I 21 k + 1)) 75 0 0) 81 k = I 81 k := by rw [mU_other (by decide), mU_other (by decide)]
  show pic (mU (mU (mU I 21 k (I 21 k + 1)) 75 0 0) 81 k ((mU (mU I 21 k (I 21 k + 1)) 75 0 0) 81 k + 1)) R p n A row na ac hl
  rw [e]
  exact this
theorem c_ref {Fu : Nat} {I : mIT} {v : Int32} : f_X11_refuseAct Fu I v = some (v, mU I 21 1 (I 21 1 + 1)) := rfl
theorem m_ref {Fu : Nat} {I : mIT} : f_X12_refuses Fu I 1 = some (-1, mU I 81 1 (I 81 1 + 1)) := rfl
theorem pq_take {Fu : Nat} {I : mIT} {R : mRT} {L : mLT} {a1 : Int32} (hF : 2200 < Fu) (h : pP I R L) : st_take Fu I R L a1 pP := by
  obtain ⟨p, n, A, row, na, ac, hl, hp⟩ := h
  have ⟨hW, hq0, ho, hk, hA, hH, hc, hf, hm, hX, hI, hT⟩ := hp
  have h10 := ho.1
  unfold st_take
  rcases ix a1 (pR A) with hv | ⟨r, hr, rfl⟩
  · right
    exact st_n (f2 := fun J => f_X12_take Fu J a1) hp (by unfold f_X11_take; exact wp_Xr (c_root0 hc.1 hc.2.2.1 hv)) (by unfold f_X12_take; exact wp_Be (m_isRoot0 (q_U0 I) (mQ_0 hm).1 hv) (wp_p rfl (wp_s mS_00)))
  left
  have eh : I (40 + 1) (31 + r) = row (31 + r) := r0 (c := 41) hc.2.2.2.1 (lv_31 hr)
  by_cases e : 0 ≤ row (31 + r)
  · refine st_act (L := L) (f2 := fun J => f_X12_take Fu J (nI r)) (a := row (31 + r)) hp (okR_pl ho hk hr (Or.inl rfl) (fun q => absurd q (by decide))) (okA_p hA hk) ?_ ?_
    · unfold f_X11_take
      refine wp_X (c_root1 hc.1 hc.2.2.1 ho hr) (wp_Be (c_place (by omega)) ?_)
      rw [eh]
      refine wp_p e (wp_B (c_begin ho hc.2.2.2.1 hX.1 hA.1) ?_)
      rintro K ⟨k1, k2, k3, k4⟩
      exact wp_Be (c_setPlace (by omega)) (wp_s ⟨_, rfl, aC_U hc.2.2.2.1 k1 k2 k3 k4⟩)
    · intro J hJ hJa
      have h0 := mQ_0 (v := 0) hJ
      unfold f_X12_take
      refine wp_Be (m_isRoot1 (q_U0 J) h0.1 ho hr) (wp_n ne10 ?_)
      dsimp only
      rw [l_31, q_GI (by omega) (by omega), q_cl (by omega)]
      simp only [r0 h0.2.1 (lv_31 hr)]
      refine wp_p e (wp_B (m_keeps (by omega) ho h0.2.1 (mAc_0 hJa) hA.1) ?_)
      rintro K ⟨k1, k2⟩
      rw [q_GI (by omega) (by omega)]
      exact wp_s ⟨rfl, aM_U hJ.2.1 k1 k2⟩
  · refine st_ref (L := L) (f2 := fun J => f_X12_take Fu J (nI r)) (a := -1) hp ?_ ?_
    · unfold f_X11_take
      rw [c_root1 hc.1 hc.2.2.1 ho hr, oX_l, c_place (by omega), q_B, eh, if_neg e]
      rfl
    · intro J hJ
      have h0 := mQ_0 (v := 0) hJ
      unfold f_X12_take
      rw [m_isRoot1 (q_U0 J) h0.1 ho hr, q_B, if_neg ne10]
      dsimp only
      rw [l_31, q_GI (by omega) (by omega), q_cl (by omega)]
      simp only [r0 h0.2.1 (lv_31 hr)]
      rw [if_neg e]
      rfl
theorem pq_eat {Fu : Nat} {I : mIT} {R : mRT} {L : mLT} {a1 : Int32} (hF : 2200 < Fu) (h : pP I R L) : st_eat Fu I R L a1 pP := by
  obtain ⟨p, n, A, row, na, ac, hl, hp⟩ := h
  have ⟨hW, hq0, ho, hk, hA, hH, hc, hf, hm, hX, hI, hT⟩ := hp
  have h10 := ho.1
  unfold st_eat
  rcases ix a1 (pR A) with hv | ⟨r, hr, rfl⟩
  · right
    exact st_n (f2 := fun J => f_X12_eat Fu J a1) hp (by unfold f_X11_eat; exact wp_Xr (c_root0 hc.1 hc.2.2.1 hv)) (by unfold f_X12_eat; exact wp_Be (m_isRoot0 (q_U0 I) (mQ_0 hm).1 hv) (wp_p rfl (wp_s mS_00)))
  left
  have eh : I (40 + 1) (31 + r) = row (31 + r) := r0 (c := 41) hc.2.2.2.1 (lv_31 hr)
  by_cases e : row (31 + r) = -2
  · refine st_ref (L := L) (f2 := fun J => f_X12_eat Fu J (nI r)) (a := 0) hp ?_ ?_
    · unfold f_X11_eat
      rw [c_root1 hc.1 hc.2.2.1 ho hr, oX_l, c_place (by omega), q_B, eh, if_pos e]
      rfl
    · intro J hJ
      have h0 := mQ_0 (v := 0) hJ
      unfold f_X12_eat
      rw [m_isRoot1 (q_U0 J) h0.1 ho hr, q_B, if_neg ne10]
      dsimp only
      rw [l_31, q_GI (by omega) (by omega), q_cl (by omega)]
      simp only [r0 h0.2.1 (lv_31 hr)]
      rw [if_pos e]
      rfl
  · refine st_act (L := L) (f2 := fun J => f_X12_eat Fu J (nI r)) (a := 1) hp (okR_pl ho hk hr (Or.inr (Or.inl rfl)) (fun q => absurd q (by decide))) (okA_p hA hk) ?_ ?_
    · unfold f_X11_eat
      refine wp_X (c_root1 hc.1 hc.2.2.1 ho hr) (wp_Be (c_place (by omega)) ?_)
      rw [eh]
      refine wp_n e (wp_B (c_begin ho hc.2.2.2.1 hX.1 hA.1) ?_)
      rintro K ⟨k1, k2, k3, k4⟩
      exact wp_Be (c_setPlace (by omega)) (wp_s ⟨_, rfl, aC_U hc.2.2.2.1 k1 k2 k3 k4⟩)
    · intro J hJ hJa
      have h0 := mQ_0 (v := 0) hJ
      unfold f_X12_eat
      refine wp_Be (m_isRoot1 (q_U0 J) h0.1 ho hr) (wp_n ne10 ?_)
      dsimp only
      rw [l_31, q_GI (by omega) (by omega), q_cl (by omega)]
      simp only [r0 h0.2.1 (lv_31 hr)]
      refine wp_n e (wp_B (m_keeps (by omega) ho h0.2.1 (mAc_0 hJa) hA.1) ?_)
      rintro K ⟨k1, k2⟩
      rw [q_GI (by omega) (by omega)]
      exact wp_s ⟨rfl, aM_U hJ.2.1 k1 k2⟩
theorem sOn_m {A : aPl} {row : Nat → Int32} {h : Int32} (h10 : pR A ≤ 10) : sOn A row h = -1 ↔ ∀ q, q < pR A → row (31 + q) ≠ h := by
  unfold sOn
  rw [sFi_m (pR A) 0 (by omega)]
  constructor
  · intro k q hq; exact of_decide_eq_false (k q (by omega) (by omega))
  · intro k q _ hq; exact decide_eq_false (k q (by omega))
theorem sWh_0 {A : aPl} {row : Nat → Int32} {h : Int32} (h10 : pR A ≤ 10) : mkB (sWh A row h) 10 = 0 ↔ ∀ q, q < pR A → row (31 + q) ≠ h := by
  rw [mkB_0]
  unfold sWh
  constructor
  · intro k q hq
    have := k q (by omega)
    rw [decide_eq_true hq, Bool.true_and] at this
    exact of_decide_eq_false this
  · intro k q _
    by_cases e : q < pR A
    · rw [decide_eq_false (k q e), Bool.and_false]
    · rw [decide_eq_false e, Bool.false_and]
theorem pq_hang {Fu : Nat} {I : mIT} {R : mRT} {L : mLT} {a1 a2 : Int32} (hF : 2200 < Fu) (h : pP I R L) : st_hang Fu I R L a1 a2 pP := by
  obtain ⟨p, n, A, row, na, ac, hl, hp⟩ := h
  have ⟨hW, hq0, ho, hk, hA, hH, hc, hf, hm, hX, hI, hT⟩ := hp
  have h10 := ho.1
  unfold st_hang
  rcases ix a1 (pR A) with hv | ⟨r, hr, rfl⟩
  · right
    exact st_n (f2 := fun J => f_X12_hang Fu J a1 a2) hp (by unfold f_X11_hang; exact wp_Xr (c_root0 hc.1 hc.2.2.1 hv)) (by unfold f_X12_hang; exact wp_Be (m_isRoot0 (q_U0 I) (mQ_0 hm).1 hv) (wp_p rfl (wp_s mS_00)))
  rcases ix a2 6 with hv | ⟨k, hk6, rfl⟩
  · right
    exact st_n (f2 := fun J => f_X12_hang Fu J (nI r) a2) hp (by unfold f_X11_hang; rw [c_root1 hc.1 hc.2.2.1 ho hr, oX_l]; exact wp_Xr (c_hook0 hv)) (by unfold f_X12_hang; exact wp_Be (m_isRoot1 (q_U0 I) (mQ_0 hm).1 ho hr) (wp_n ne10 (wp_Be (m_what0 (m := 5) (q_U0 I) (by omega) hv) (wp_p rfl (wp_s mS_00)))))
  left
  have eh : I (40 + 1) (31 + r) = row (31 + r) := r0 (c := 41) hc.2.2.2.1 (lv_31 hr)
  by_cases e : row (31 + r) = -2
  · refine st_ref (L := L) (f2 := fun J => f_X12_hang Fu J (nI r) (nI k)) (a := -2) hp ?_ ?_
    · unfold f_X11_hang
      rw [c_root1 hc.1 hc.2.2.1 ho hr, oX_l, c_hook1 hk6, oX_l, c_place (by omega), q_B, eh, if_pos e]
      rfl
    · intro J hJ
      have h0 := mQ_0 (v := 0) hJ
      apply wp_q
      unfold f_X12_hang
      refine wp_Be (m_isRoot1 (q_U0 J) h0.1 ho hr) (wp_n ne10 (wp_Be (m_what1 (m := 5) (q_U0 J) hk6 (by omega)) (wp_n ne10 ?_)))
      dsimp only
      rw [l_31, q_GI (by omega) (by omega), q_cl (by omega)]
      simp only [r0 h0.2.1 (lv_31 hr)]
      exact wp_p e (wp_Be m_ref (wp_s (congrArg (fun z => (z, mU (mU J 75 0 0) 81 1 (mU J 75 0 0 81 1 + 1))) (show (-1 : Int32) - 1 = -2 by decide))))
  by_cases e2 : ∀ q, q < pR A → row (31 + q) ≠ nI k
  · refine st_act (L := L) (f2 := fun J => f_X12_hang Fu J (nI r) (nI k)) (a := row (31 + r)) hp (okR_pl ho hk hr (Or.inr (Or.inr ⟨k, hk6, rfl⟩)) (fun _ q hq _ => e2 q hq)) (okA_p hA hk) ?_ ?_
    · unfold f_X11_hang
      refine wp_X (c_root1 hc.1 hc.2.2.1 ho hr) (wp_X (c_hook1 hk6) (wp_Be (c_place (by omega)) ?_))
      rw [eh]
      refine wp_n e (wp_Be hc.1 ?_)
      rw [hc.2.2.1.1]
      refine wp_Be (c_rootOn (by omega) h10 hc.2.2.2.1) (wp_p ((sOn_m h10).mpr e2) (wp_B (c_begin ho hc.2.2.2.1 hX.1 hA.1) ?_))
      rintro K ⟨k1, k2, k3, k4⟩
      exact wp_Be (c_setPlace (by omega)) (wp_s ⟨_, rfl, aC_U hc.2.2.2.1 k1 k2 k3 k4⟩)
    · intro J hJ hJa
      have h0 := mQ_0 (v := 0) hJ
      unfold f_X12_hang
      refine wp_Be (m_isRoot1 (q_U0 J) h0.1 ho hr) (wp_n ne10 (wp_Be (m_what1 (m := 5) (q_U0 J) hk6 (by omega)) (wp_n ne10 ?_)))
      dsimp only
      rw [l_31, q_GI (by omega) (by omega), q_cl (by omega)]
      simp only [r0 h0.2.1 (lv_31 hr)]
      refine wp_n e (wp_Be (m_whereIn (b := 0) (by omega) h0.1 ho (by omega) h0.2.1) (wp_p ((sWh_0 h10).mpr e2) (wp_B (m_keeps (by omega) ho h0.2.1 (mAc_0 hJa) hA.1) ?_)))
      rintro K ⟨k1, k2⟩
      rw [q_GI (by omega) (by omega), q_GI (by omega) (by omega)]
      refine wp_s ⟨?_, aM_U hJ.2.1 k1 k2⟩
      show K 89 (31 + r) = _
      rw [k2 89 _ (by decide) (fun q => absurd q (by decide)), r0 h0.2.1 (lv_31 hr)]
  · refine st_ref (L := L) (f2 := fun J => f_X12_hang Fu J (nI r) (nI k)) (a := -2) hp ?_ ?_
    · unfold f_X11_hang
      rw [c_root1 hc.1 hc.2.2.1 ho hr, oX_l, c_hook1 hk6, oX_l, c_place (by omega), q_B, eh, if_neg e, hc.1, q_B, hc.2.2.1.1, c_rootOn (by omega) h10 hc.2.2.2.1, q_B, if_neg (fun q => e2 ((sOn_m h10).mp q))]
      rfl
    · intro J hJ
      have h0 := mQ_0 (v := 0) hJ
      apply wp_q
      unfold f_X12_hang
      refine wp_Be (m_isRoot1 (q_U0 J) h0.1 ho hr) (wp_n ne10 (wp_Be (m_what1 (m := 5) (q_U0 J) hk6 (by omega)) (wp_n ne10 ?_)))
      dsimp only
      rw [l_31, q_GI (by omega) (by omega), q_cl (by omega)]
      simp only [r0 h0.2.1 (lv_31 hr)]
      exact wp_n e (wp_Be (m_whereIn (b := 0) (by omega) h0.1 ho (by omega) h0.2.1) (wp_n (fun q => e2 ((sWh_0 h10).mp q)) (wp_Be m_ref (wp_s (congrArg (fun z => (z, mU (mU J 75 0 0) 81 1 (mU J 75 0 0 81 1 + 1))) (show (-1 : Int32) - 1 = -2 by decide))))))
theorem pq_alter {Fu : Nat} {I : mIT} {R : mRT} {L : mLT} {a1 a2 : Int32} (hF : 2200 < Fu) (h : pP I R L) : st_alter Fu I R L a1 a2 pP := by
  obtain ⟨p, n, A, row, na, ac, hl, hp⟩ := h
  have ⟨hW, hq0, ho, hk, hA, hH, hc, hf, hm, hX, hI, hT⟩ := hp
  have h12 := ho.2.2.2.2.1
  unfold st_alter
  rcases ix a1 (pC A) with hv | ⟨j, hj, rfl⟩
  · right
    refine st_n (f2 := fun J => f_X12_alter Fu J a1 a2) hp (by unfold f_X11_alter; exact wp_Xr (c_chg0 hc.1 hc.2.2.1 hv)) (wp_0 (a := 0) ?_)
    unfold f_X12_alter b_X12_alter_22 b_X12_alter_23
    rw [m_right0 (q_U0 I) (by decide), q_B, if_pos rfl, mU_mU]
    by_cases e : a1 < 0
    · rw [if_pos e]
    · rw [if_neg e, (mQ_0 (v := 0) hm).1.2.2.2.2.1, if_pos (hv.resolve_left e)]
  left
  have eh : I (40 + 1) (41 + j) = row (41 + j) := r0 (c := 41) hc.2.2.2.1 (lv_41 hj)
  have start : ∀ J, mQ J A row → f_X12_alter Fu J (nI j) a2 = b_X12_alter_23 Fu (nI j) a2 1 (mU J 75 0 0) := fun J hJ => by
    unfold f_X12_alter
    rw [if_neg (by rw [q_lt0 (by omega)]; simp), (mQ_0 (v := 0) hJ).1.2.2.2.2.1, if_neg (by rw [q_le (by omega) (by omega)]; omega)]
  by_cases e : isCh a2 = true
  · refine st_act (L := L) (f2 := fun J => f_X12_alter Fu J (nI j) a2) (a := row (41 + j)) hp (okR_ch (j := j) (v := a2) ho hk) (okA_p hA hk) ?_ ?_
    · unfold f_X11_alter
      refine wp_X (c_chg1 hc.1 hc.2.2.1 ho hj) (wp_Be c_isChg ?_)
      rw [if_pos e]
      refine wp_n (by decide) (wp_Be (c_change (by omega)) (wp_B (c_begin ho hc.2.2.2.1 hX.1 hA.1) ?_))
      rintro K ⟨k1, k2, k3, k4⟩
      rw [eh]
      exact wp_Be (c_setChange (by omega)) (wp_s ⟨_, rfl, aC_U hc.2.2.2.1 k1 k2 k3 k4⟩)
    · intro J hJ hJa
      have h0 := mQ_0 (v := 0) hJ
      rw [start J hJ]
      unfold b_X12_alter_23
      refine wp_Be (m_right1 (q_U0 J)) (wp_n ne10 (wp_Be m_isChg ?_))
      rw [if_pos e]
      refine wp_n (by decide) (wp_B (m_keeps (by omega) ho h0.2.1 (mAc_0 hJa) hA.1) ?_)
      rintro K ⟨k1, k2⟩
      rw [l_41, q_GI (by omega) (by omega), q_GI (by omega) (by omega), q_cl (by omega)]
      refine wp_s ⟨?_, aM_U hJ.2.1 k1 k2⟩
      show K 89 (41 + j) = _
      rw [k2 89 _ (by decide) (fun q => absurd q (by decide))]
      exact r0 h0.2.1 (lv_41 hj)
  · refine st_ref (L := L) (f2 := fun J => f_X12_alter Fu J (nI j) a2) (a := -1) hp ?_ ?_
    · unfold f_X11_alter
      rw [c_chg1 hc.1 hc.2.2.1 ho hj, oX_l, c_isChg, q_B, if_neg e]
      rfl
    · intro J hJ
      apply wp_q
      show wp (f_X12_alter Fu J (nI j) a2) _
      rw [start J hJ]
      unfold b_X12_alter_23
      refine wp_Be (m_right1 (q_U0 J)) (wp_n ne10 (wp_Be m_isChg ?_))
      rw [if_neg e]
      exact wp_p rfl (wp_Be m_ref (wp_s rfl))
