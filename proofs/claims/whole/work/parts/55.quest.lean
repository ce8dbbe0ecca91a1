/-! every question keeps the picture -/
theorem oX_l {α β : Type} {a : α} {f : α → Option (β ⊕ (Nat × mIT))} : oX (some (.inl a)) f = f a := rfl
theorem mS_00 {I : mIT} {v : Int32} : mS (mU I 75 0 v) (mU (mU I 75 0 0) 75 0 v) := by
  rw [mU_mU]; exact mS_r _
theorem st_n0 {Fu : Nat} {I : mIT} {R : mRT} {L : mLT} {p n : Nat} {A : aPl} {row : Nat → Int32} {na : Nat} {ac : Nat → Nat → Int32} {hl : hLs} {w : Nat} {v : Int32} {f1 : Option (Int32 ⊕ (Nat × mIT))} {f2 : mIT → Option (Int32 × mIT)} (hp : pic I R p n A row na ac hl) (h1 : f1 = some (.inr (w, I))) (h2 : wp (f2 I) (fun y => mS (mU I 75 0 v) y.2)) : ∃ q, f1 = some (.inr q) ∧ ∃ o2, f2 q.2 = some o2 ∧ (q.1 = w ∧ f_X12_thrown Fu o2.2 = some v) ∧ pP o2.2 R L := by
  obtain ⟨y, e2, em⟩ := h2
  exact ⟨_, h1, y, e2, ⟨rfl, mS_th em⟩, p, n, A, row, na, ac, hl, pic_mS hp em⟩
theorem le2_n {v : Int32} (h : nI 3 ≤ v) : ¬ v ≤ 2 := by
  rw [Int32.le_iff_toInt_le] at *
  have h3 : (nI 3).toInt = 3 := by decide
  have h2 : (2 : Int32).toInt = 2 := by decide
  omega
theorem pq_goes {Fu : Nat} {I : mIT} {R : mRT} {L : mLT} {a1 : Int32} (hF : 2200 < Fu) (h : pP I R L) : st_goes Fu I R L a1 pP := by
  obtain ⟨p, n, A, row, na, ac, hl, hp⟩ := h
  have ⟨hW, hq0, ho, hk, hA, hH, hc, hf, hm, hX, hI, hT⟩ := hp
  have h10 := ho.1
  unfold st_goes
  rcases ix a1 (pR A) with hv | ⟨r, hr, rfl⟩
  · right
    exact st_n (f2 := fun J => f_X12_goes Fu J a1) hp (by unfold f_X11_goes; exact wp_Xr (c_root0 hc.1 hc.2.2.1 hv)) (by unfold f_X12_goes; exact wp_Be (m_isRoot0 (q_U0 I) (mQ_0 hm).1 hv) (wp_p rfl (wp_s mS_00)))
  · left
    exact st_q (L := L) (f2 := fun J => f_X12_goes Fu J (nI r)) hp (c_goes (by omega) ho hk hc hr) (fun J n' hJ => m_goes (by omega) ho hk hJ.2.2.2.2.2.2.2.2.1 hr)
theorem pq_leads {Fu : Nat} {I : mIT} {R : mRT} {L : mLT} {a1 : Int32} (hF : 2200 < Fu) (h : pP I R L) : st_leads Fu I R L a1 pP := by
  obtain ⟨p, n, A, row, na, ac, hl, hp⟩ := h
  have ⟨hW, hq0, ho, hk, hA, hH, hc, hf, hm, hX, hI, hT⟩ := hp
  have h10 := ho.1
  unfold st_leads
  rcases ix a1 (pR A) with hv | ⟨r, hr, rfl⟩
  · right
    exact st_n (f2 := fun J => f_X12_leads Fu J a1) hp (by unfold f_X11_leads; exact wp_Xr (c_root0 hc.1 hc.2.2.1 hv)) (by unfold f_X12_leads; exact wp_Be (m_isRoot0 (q_U0 I) (mQ_0 hm).1 hv) (wp_p rfl (wp_s mS_00)))
  · left
    exact st_q (L := L) (f2 := fun J => f_X12_leads Fu J (nI r)) hp (c_leads (by omega) ho hk hc hr) (fun J n' hJ => m_leads (by omega) ho hk hJ.2.2.2.2.2.2.2.2.1 hr)
theorem pq_without {Fu : Nat} {I : mIT} {R : mRT} {L : mLT} {a1 : Int32} (hF : 2200 < Fu) (h : pP I R L) : st_without Fu I R L a1 pP := by
  obtain ⟨p, n, A, row, na, ac, hl, hp⟩ := h
  have ⟨hW, hq0, ho, hk, hA, hH, hc, hf, hm, hX, hI, hT⟩ := hp
  have h10 := ho.1
  unfold st_without
  rcases ix a1 (pR A) with hv | ⟨r, hr, rfl⟩
  · right
    exact st_n (f2 := fun J => f_X12_without Fu J a1) hp (by unfold f_X11_without; exact wp_Xr (c_root0 hc.1 hc.2.2.1 hv)) (by unfold f_X12_without; exact wp_Be (m_isRoot0 (q_U0 I) (mQ_0 hm).1 hv) (wp_p rfl (wp_s mS_00)))
  · left
    exact st_q (L := L) (f2 := fun J => f_X12_without Fu J (nI r)) hp (c_without (by omega) ho hk hc hr) (fun J n' hJ => m_without (by omega) ho hk hJ.2.2.2.2.2.2.2.2.1 hr)
theorem pq_rings {Fu : Nat} {I : mIT} {R : mRT} {L : mLT} {a1 : Int32} (hF : 2200 < Fu) (h : pP I R L) : st_rings Fu I R L a1 pP := by
  obtain ⟨p, n, A, row, na, ac, hl, hp⟩ := h
  have ⟨hW, hq0, ho, hk, hA, hH, hc, hf, hm, hX, hI, hT⟩ := hp
  have h10 := ho.1
  unfold st_rings
  rcases ix a1 (61) with hv | ⟨r, hr, rfl⟩
  · right
    exact st_n (f2 := fun J => f_X12_rings Fu J a1) hp (by unfold f_X11_rings; exact wp_Xr (c_far0 hv)) (by unfold f_X12_rings; exact wp_Be (m_isDays0 (q_U0 I) (by decide) hv) (wp_p rfl (wp_s mS_00)))
  · left
    exact st_q (L := L) (f2 := fun J => f_X12_rings Fu J (nI r)) hp (c_rings (by omega) ho hk hc hr) (fun J n' hJ => m_rings (by omega) ho hk hJ.2.2.2.2.2.2.2.2.1 hr)
theorem pq_often {Fu : Nat} {I : mIT} {R : mRT} {L : mLT} {a1 : Int32} (hF : 2200 < Fu) (h : pP I R L) : st_often Fu I R L a1 pP := by
  obtain ⟨p, n, A, row, na, ac, hl, hp⟩ := h
  have ⟨hW, hq0, ho, hk, hA, hH, hc, hf, hm, hX, hI, hT⟩ := hp
  have h10 := ho.1
  unfold st_often
  rcases ix a1 (16) with hv | ⟨r, hr, rfl⟩
  · right
    exact st_n (f2 := fun J => f_X12_often Fu J a1) hp (by unfold f_X11_often; exact wp_Xr (c_note0 hv)) (by unfold f_X12_often; exact wp_Be (m_isNote0 (q_U0 I) hv) (wp_p rfl (wp_s mS_00)))
  · left
    exact st_q (L := L) (f2 := fun J => f_X12_often Fu J (nI r)) hp (c_often (by omega) ho hk hc hr) (fun J n' hJ => m_often (by omega) ho hk hJ.2.2.2.2.2.2.2.2.1 hr)
theorem pq_scale {Fu : Nat} {I : mIT} {R : mRT} {L : mLT} {a1 : Int32} (hF : 2200 < Fu) (h : pP I R L) : st_scale Fu I R L a1 pP := by
  obtain ⟨p, n, A, row, na, ac, hl, hp⟩ := h
  have ⟨hW, hq0, ho, hk, hA, hH, hc, hf, hm, hX, hI, hT⟩ := hp
  have h10 := ho.1
  unfold st_scale
  rcases ix a1 (2) with hv | ⟨r, hr, rfl⟩
  · right
    exact st_n (f2 := fun J => f_X12_scale Fu J a1) hp (by unfold f_X11_scale; exact wp_Xr (c_two0 hv)) (by unfold f_X12_scale; exact wp_Be (m_what0 (m := 1) (q_U0 I) (by omega) hv) (wp_p rfl (wp_s mS_00)))
  · left
    exact st_q (L := L) (f2 := fun J => f_X12_scale Fu J (nI r)) hp (c_scale (by omega) ho hk hc hr) (fun J n' hJ => m_scale (by omega) ho hk hJ.2.2.2.2.2.2.2.2.1 hr)
theorem pq_mouth {Fu : Nat} {I : mIT} {R : mRT} {L : mLT} {a1 : Int32} (hF : 2200 < Fu) (h : pP I R L) : st_mouth Fu I R L a1 pP := by
  obtain ⟨p, n, A, row, na, ac, hl, hp⟩ := h
  have ⟨hW, hq0, ho, hk, hA, hH, hc, hf, hm, hX, hI, hT⟩ := hp
  have h10 := ho.1
  unfold st_mouth
  rcases ix a1 (2) with hv | ⟨r, hr, rfl⟩
  · right
    exact st_n (f2 := fun J => f_X12_mouth Fu J a1) hp (by unfold f_X11_mouth; exact wp_Xr (c_two0 hv)) (by unfold f_X12_mouth; exact wp_Be (m_what0 (m := 1) (q_U0 I) (by omega) hv) (wp_p rfl (wp_s mS_00)))
  · left
    exact st_q (L := L) (f2 := fun J => f_X12_mouth Fu J (nI r)) hp (c_mouth (by omega) ho hk hc hr) (fun J n' hJ => m_mouth (by omega) ho hk hJ.2.2.2.2.2.2.2.2.1 hr)
theorem pq_next {Fu : Nat} {I : mIT} {R : mRT} {L : mLT} {a1 : Int32} (hF : 2200 < Fu) (h : pP I R L) : st_next Fu I R L a1 pP := by
  obtain ⟨p, n, A, row, na, ac, hl, hp⟩ := h
  have ⟨hW, hq0, ho, hk, hA, hH, hc, hf, hm, hX, hI, hT⟩ := hp
  have h10 := ho.1
  unfold st_next
  rcases ix a1 (2) with hv | ⟨r, hr, rfl⟩
  · right
    exact st_n (f2 := fun J => f_X12_next Fu J a1) hp (by unfold f_X11_next; exact wp_Xr (c_two0 hv)) (by unfold f_X12_next; exact wp_Be (m_what0 (m := 1) (q_U0 I) (by omega) hv) (wp_p rfl (wp_s mS_00)))
  · left
    exact st_q (L := L) (f2 := fun J => f_X12_next Fu J (nI r)) hp (c_next (by omega) ho hk hc hX.2.2.1 hH hr) (fun J n' hJ => m_next (by omega) ho hk hJ.2.2.2.2.2.2.2.2.1 hJ.2.2.2.2.2.2.2.2.2.1.2.2.2 hH hr)
theorem pq_needed {Fu : Nat} {I : mIT} {R : mRT} {L : mLT} {a1 a2 : Int32} (hF : 2200 < Fu) (h : pP I R L) : st_needed Fu I R L a1 a2 pP := by
  obtain ⟨p, n, A, row, na, ac, hl, hp⟩ := h
  have ⟨hW, hq0, ho, hk, hA, hH, hc, hf, hm, hX, hI, hT⟩ := hp
  have h10 := ho.1
  unfold st_needed
  rcases ix a1 (pR A) with hv | ⟨r, hr, rfl⟩
  · right
    exact st_n (f2 := fun J => f_X12_needed Fu J a1 a2) hp (by unfold f_X11_needed; exact wp_Xr (c_root0 hc.1 hc.2.2.1 hv)) (by unfold f_X12_needed; exact wp_Be (m_isRoot0 (q_U0 I) (mQ_0 hm).1 hv) (wp_p rfl (wp_s mS_00)))
  rcases ix a2 (16) with hv | ⟨q, hq, rfl⟩
  · right
    exact st_n (f2 := fun J => f_X12_needed Fu J (nI r) a2) hp (by unfold f_X11_needed; rw [c_root1 hc.1 hc.2.2.1 ho hr, oX_l]; exact wp_Xr (c_note0 hv)) (by unfold f_X12_needed; exact wp_Be (m_isRoot1 (q_U0 I) (mQ_0 hm).1 ho hr) (wp_n ne10 (wp_Be (m_isNote0 (q_U0 I) hv) (wp_p rfl (wp_s mS_00)))))
  · left
    exact st_q (L := L) (f2 := fun J => f_X12_needed Fu J (nI r) (nI q)) hp (c_needed (by omega) ho hk hc hr hq) (fun J n' hJ => m_needed (by omega) ho hk hJ.2.2.2.2.2.2.2.2.1 hr hq)
theorem pq_grown {Fu : Nat} {I : mIT} {R : mRT} {L : mLT} {a1 a2 : Int32} (hF : 2200 < Fu) (h : pP I R L) : st_grown Fu I R L a1 a2 pP := by
  obtain ⟨p, n, A, row, na, ac, hl, hp⟩ := h
  have ⟨hW, hq0, ho, hk, hA, hH, hc, hf, hm, hX, hI, hT⟩ := hp
  have h10 := ho.1
  unfold st_grown
  rcases ix a1 (pR A) with hv | ⟨r, hr, rfl⟩
  · right
    exact st_n (f2 := fun J => f_X12_grown Fu J a1 a2) hp (by unfold f_X11_grown; exact wp_Xr (c_root0 hc.1 hc.2.2.1 hv)) (by unfold f_X12_grown; exact wp_Be (m_isRoot0 (q_U0 I) (mQ_0 hm).1 hv) (wp_p rfl (wp_s mS_00)))
  rcases ix a2 (16) with hv | ⟨q, hq, rfl⟩
  · right
    exact st_n (f2 := fun J => f_X12_grown Fu J (nI r) a2) hp (by unfold f_X11_grown; rw [c_root1 hc.1 hc.2.2.1 ho hr, oX_l]; exact wp_Xr (c_note0 hv)) (by unfold f_X12_grown; exact wp_Be (m_isRoot1 (q_U0 I) (mQ_0 hm).1 ho hr) (wp_n ne10 (wp_Be (m_isNote0 (q_U0 I) hv) (wp_p rfl (wp_s mS_00)))))
  · left
    exact st_q (L := L) (f2 := fun J => f_X12_grown Fu J (nI r) (nI q)) hp (c_grown (by omega) ho hk hc hr hq) (fun J n' hJ => m_grown (by omega) ho hk hJ.2.2.2.2.2.2.2.2.1 hr hq)
theorem pq_meets {Fu : Nat} {I : mIT} {R : mRT} {L : mLT} {a1 a2 : Int32} (hF : 2200 < Fu) (h : pP I R L) : st_meets Fu I R L a1 a2 pP := by
  obtain ⟨p, n, A, row, na, ac, hl, hp⟩ := h
  have ⟨hW, hq0, ho, hk, hA, hH, hc, hf, hm, hX, hI, hT⟩ := hp
  have h10 := ho.1
  unfold st_meets
  rcases ix a1 (pR A) with hv | ⟨r, hr, rfl⟩
  · right
    exact st_n (f2 := fun J => f_X12_meets Fu J a1 a2) hp (by unfold f_X11_meets; exact wp_Xr (c_root0 hc.1 hc.2.2.1 hv)) (by unfold f_X12_meets; exact wp_Be (m_isRoot0 (q_U0 I) (mQ_0 hm).1 hv) (wp_p rfl (wp_s mS_00)))
  rcases ix a2 (pR A) with hv | ⟨q, hq, rfl⟩
  · right
    exact st_n (f2 := fun J => f_X12_meets Fu J (nI r) a2) hp (by unfold f_X11_meets; rw [c_root1 hc.1 hc.2.2.1 ho hr, oX_l]; exact wp_Xr (c_root0 hc.1 hc.2.2.1 hv)) (by unfold f_X12_meets; exact wp_Be (m_isRoot1 (q_U0 I) (mQ_0 hm).1 ho hr) (wp_n ne10 (wp_Be (m_isRoot0 (q_U0 I) (mQ_0 hm).1 hv) (wp_p rfl (wp_s mS_00)))))
  · left
    exact st_q (L := L) (f2 := fun J => f_X12_meets Fu J (nI r) (nI q)) hp (c_meets (by omega) ho hk hc hr hq) (fun J n' hJ => m_meets (by omega) ho hk hJ.2.2.2.2.2.2.2.2.1 hr hq)
theorem pq_then {Fu : Nat} {I : mIT} {R : mRT} {L : mLT} {a1 a2 : Int32} (hF : 2200 < Fu) (h : pP I R L) : st_then Fu I R L a1 a2 pP := by
  obtain ⟨p, n, A, row, na, ac, hl, hp⟩ := h
  have ⟨hW, hq0, ho, hk, hA, hH, hc, hf, hm, hX, hI, hT⟩ := hp
  have h10 := ho.1
  unfold st_then
  rcases ix a1 (pR A) with hv | ⟨r, hr, rfl⟩
  · right
    exact st_n1 (f2 := fun J => f_X12_then Fu J a1 a2) hp (by unfold f_X11_then; exact wp_Xr (c_root0 hc.1 hc.2.2.1 hv)) (by unfold f_X12_then; exact wp_Be (m_isRoot0 (q_U0 I) (mQ_0 hm).1 hv) (wp_p rfl (wp_s mS_00)))
  rcases ix a2 (61) with hv | ⟨q, hq, rfl⟩
  · right
    exact st_n2 (f2 := fun J => f_X12_then Fu J (nI r) a2) hp (by unfold f_X11_then; rw [c_root1 hc.1 hc.2.2.1 ho hr, oX_l]; exact wp_Xr (c_far0 hv)) (by unfold f_X12_then; exact wp_Be (m_isRoot1 (q_U0 I) (mQ_0 hm).1 ho hr) (wp_n ne10 (wp_Be (m_isDays0 (q_U0 I) (by decide) hv) (wp_p rfl (wp_s mS_00)))))
  · left
    exact st_q (L := L) (f2 := fun J => f_X12_then Fu J (nI r) (nI q)) hp (c_then (by omega) ho hk hc hr hq) (fun J n' hJ => m_then (by omega) ho hk hJ.2.2.2.2.2.2.2.2.1 hr hq)
theorem pq_root {Fu : Nat} {I : mIT} {R : mRT} {L : mLT} {a1 a2 : Int32} (hF : 2200 < Fu) (h : pP I R L) : st_root Fu I R L a1 a2 pP := by
  obtain ⟨p, n, A, row, na, ac, hl, hp⟩ := h
  have ⟨hW, hq0, ho, hk, hA, hH, hc, hf, hm, hX, hI, hT⟩ := hp
  have h10 := ho.1
  unfold st_root
  rcases ix a1 (pR A) with hv | ⟨r, hr, rfl⟩
  · right
    exact st_n (f2 := fun J => f_X12_root Fu J a1 a2) hp (by unfold f_X11_root; exact wp_Xr (c_root0 hc.1 hc.2.2.1 hv)) (by unfold f_X12_root; exact wp_Be (m_isRoot0 (q_U0 I) (mQ_0 hm).1 hv) (wp_p rfl (wp_s mS_00)))
  rcases ix a2 8 with hv | ⟨q, hq, rfl⟩
  · right
    exact st_n (f2 := fun J => f_X12_root Fu J (nI r) a2) hp (c_rootQ0 ho hc hr hv) (by unfold f_X12_root; exact wp_Be (m_isRoot1 (q_U0 I) (mQ_0 hm).1 ho hr) (wp_n ne10 (wp_Be (m_what0 (m := 7) (q_U0 I) (by omega) hv) (wp_p rfl (wp_s mS_00)))))
  · left
    exact st_q (L := L) (f2 := fun J => f_X12_root Fu J (nI r) (nI q)) hp (c_rootQ (by omega) ho hk hc hr hq) (fun J n' hJ => m_rootQ (by omega) ho hk hJ.2.2.2.2.2.2.2.2.1 hr hq)
theorem pq_eaten {Fu : Nat} {I : mIT} {R : mRT} {L : mLT} {a1 : Int32} (hF : 2200 < Fu) (h : pP I R L) : st_eaten Fu I R L a1 pP := by
  obtain ⟨p, n, A, row, na, ac, hl, hp⟩ := h
  have ⟨hW, hq0, ho, hk, hA, hH, hc, hf, hm, hX, hI, hT⟩ := hp
  have h10 := ho.1
  unfold st_eaten
  rcases ix a1 3 with hv | ⟨w, hw, rfl⟩
  · right
    refine st_n (f2 := fun J => f_X12_eaten Fu J a1) hp ?_ (by unfold f_X12_eaten; exact wp_Be (m_what0 (m := 2) (q_U0 I) (by omega) hv) (wp_p rfl (wp_s mS_00)))
    unfold f_X11_eaten
    by_cases e : a1 < 0
    · rw [if_pos e]
    · rw [if_neg e, if_neg (le2_n (hv.resolve_left e))]
  · left
    exact st_q (L := L) (f2 := fun J => f_X12_eaten Fu J (nI w)) hp (c_eaten (by omega) ho hk hc hX.2.2.1 hH hw) (fun J n' hJ => m_eaten (by omega) ho hk hJ.2.2.2.2.2.2.2.2.1 hJ.2.2.2.2.2.2.2.2.2.1.2.2.2 hH hw)
theorem pq_last {Fu : Nat} {I : mIT} {R : mRT} {L : mLT} (hF : 2200 < Fu) (h : pP I R L) : st_last Fu I R L  pP := by
  obtain ⟨p, n, A, row, na, ac, hl, hp⟩ := h
  have ⟨hW, hq0, ho, hk, hA, hH, hc, hf, hm, hX, hI, hT⟩ := hp
  have h10 := ho.1
  unfold st_last
  exact st_a (f2 := fun J => f_X12_last Fu J) hp (c_last (by omega) ho hk hc) (fun J n' hJ => m_last (by omega) ho hk hJ.2.2.2.2.2.2.2.2.1)
theorem pq_earliest {Fu : Nat} {I : mIT} {R : mRT} {L : mLT} (hF : 2200 < Fu) (h : pP I R L) : st_earliest Fu I R L  pP := by
  obtain ⟨p, n, A, row, na, ac, hl, hp⟩ := h
  have ⟨hW, hq0, ho, hk, hA, hH, hc, hf, hm, hX, hI, hT⟩ := hp
  have h10 := ho.1
  unfold st_earliest
  exact st_a (f2 := fun J => f_X12_earliest Fu J) hp (c_earliest (by omega) ho hk hc) (fun J n' hJ => m_earliest (by omega) ho hk hJ.2.2.2.2.2.2.2.2.1)
theorem pq_spare {Fu : Nat} {I : mIT} {R : mRT} {L : mLT} (hF : 2200 < Fu) (h : pP I R L) : st_spare Fu I R L  pP := by
  obtain ⟨p, n, A, row, na, ac, hl, hp⟩ := h
  have ⟨hW, hq0, ho, hk, hA, hH, hc, hf, hm, hX, hI, hT⟩ := hp
  have h10 := ho.1
  unfold st_spare
  exact st_a (f2 := fun J => f_X12_spare Fu J) hp (c_spare (by omega) ho hk hc) (fun J n' hJ => m_spare (by omega) ho hk hJ.2.2.2.2.2.2.2.2.1)
theorem pq_keepers {Fu : Nat} {I : mIT} {R : mRT} {L : mLT} (hF : 2200 < Fu) (h : pP I R L) : st_keepers Fu I R L  pP := by
  obtain ⟨p, n, A, row, na, ac, hl, hp⟩ := h
  have ⟨hW, hq0, ho, hk, hA, hH, hc, hf, hm, hX, hI, hT⟩ := hp
  have h10 := ho.1
  unfold st_keepers
  exact st_a (f2 := fun J => f_X12_keepers Fu J) hp (c_keepers (by omega) ho hk hc) (fun J n' hJ => m_keepers (by omega) ho hk hJ.2.2.2.2.2.2.2.2.1)
theorem pq_soft {Fu : Nat} {I : mIT} {R : mRT} {L : mLT} (hF : 2200 < Fu) (h : pP I R L) : st_soft Fu I R L  pP := by
  obtain ⟨p, n, A, row, na, ac, hl, hp⟩ := h
  have ⟨hW, hq0, ho, hk, hA, hH, hc, hf, hm, hX, hI, hT⟩ := hp
  have h10 := ho.1
  unfold st_soft
  exact st_a (f2 := fun J => f_X12_soft Fu J) hp (c_softQ (by omega) ho hk hc) (fun J n' hJ => m_soft (by omega) ho hk hJ.2.2.2.2.2.2.2.2.1)
theorem pq_length {Fu : Nat} {I : mIT} {R : mRT} {L : mLT} (hF : 2200 < Fu) (h : pP I R L) : st_length Fu I R L  pP := by
  obtain ⟨p, n, A, row, na, ac, hl, hp⟩ := h
  have ⟨hW, hq0, ho, hk, hA, hH, hc, hf, hm, hX, hI, hT⟩ := hp
  have h10 := ho.1
  unfold st_length
  exact st_a (f2 := fun J => f_X12_length Fu J) hp (c_length (by omega) ho hc) (fun J n' hJ => m_length (by omega) ho hk hJ.2.2.2.2.2.2.2.2.1)
theorem pq_isTrue {Fu : Nat} {I : mIT} {R : mRT} {L : mLT} (hF : 2200 < Fu) (h : pP I R L) : st_isTrue Fu I R L  pP := by
  obtain ⟨p, n, A, row, na, ac, hl, hp⟩ := h
  have ⟨hW, hq0, ho, hk, hA, hH, hc, hf, hm, hX, hI, hT⟩ := hp
  have h10 := ho.1
  unfold st_isTrue
  exact st_a (f2 := fun J => f_X12_isTrue Fu J) hp (c_isTrue (by omega) ho hc) (fun J n' hJ => m_isTrue (by omega) ho hk hJ.2.2.2.2.2.2.2.2.1)
theorem pq_longer {Fu : Nat} {I : mIT} {R : mRT} {L : mLT} (hF : 2200 < Fu) (h : pP I R L) : st_longer Fu I R L  pP := by
  obtain ⟨p, n, A, row, na, ac, hl, hp⟩ := h
  have ⟨hW, hq0, ho, hk, hA, hH, hc, hf, hm, hX, hI, hT⟩ := hp
  have h10 := ho.1
  unfold st_longer
  exact st_a (f2 := fun J => f_X12_longer Fu J) hp (c_longer (by omega) ho hc) (fun J n' hJ => m_longer (by omega) ho hk hJ.2.2.2.2.2.2.2.2.1)
theorem pq_towers {Fu : Nat} {I : mIT} {R : mRT} {L : mLT} {a1 a2 a3 : Int32} (hF : 2200 < Fu) (h : pP I R L) : st_towers Fu I R L a1 a2 a3 pP := by
  obtain ⟨p, n, A, row, na, ac, hl, hp⟩ := h
  have ⟨hW, hq0, ho, hk, hA, hH, hc, hf, hm, hX, hI, hT⟩ := hp
  have h10 := ho.1
  unfold st_towers
  rcases ix a3 3 with hv | ⟨w, hw, rfl⟩
  · right
    refine st_n1 (f2 := fun J => f_X12_towers Fu J a1 a2 a3) hp ?_ (by unfold f_X12_towers; exact wp_Be (m_what0 (m := 2) (q_U0 I) (by omega) hv) (wp_p rfl (wp_s mS_00)))
    unfold f_X11_towers
    by_cases e : a3 < 0
    · rw [if_pos e]
    · rw [if_neg e, if_neg (le2_n (hv.resolve_left e))]
  rcases ix a2 61 with hv | ⟨q, hq, rfl⟩
  · right
    refine st_n2 (f2 := fun J => f_X12_towers Fu J a1 a2 (nI w)) hp ?_ (by unfold f_X12_towers; exact wp_Be (m_what1 (m := 2) (q_U0 I) hw (by omega)) (wp_n ne10 (wp_Be (m_isDays0 (q_U0 I) (by decide) hv) (wp_p rfl (wp_s mS_00)))))
    unfold f_X11_towers
    rw [if_neg (by rw [q_lt0 (by omega)]; simp), if_pos (by rw [show (2 : Int32) = nI 2 from rfl, q_le (by omega) (by omega)]; omega)]
    exact wp_Xr (c_far0 hv)
  · left
    exact st_q (L := L) (f2 := fun J => f_X12_towers Fu J a1 (nI q) (nI w)) hp (c_towers (by omega) ho hk hc hq hw) (fun J n' hJ => m_towers (by omega) ho hk hJ.2.2.2.2.2.2.2.2.1 hq hw)
theorem pq_row {Fu : Nat} {I : mIT} {R : mRT} {L : mLT} {a1 : Int32} (hF : 2200 < Fu) (h : pP I R L) : st_row Fu I R L a1 pP := by
  obtain ⟨p, n, A, row, na, ac, hl, hp⟩ := h
  have ⟨hW, hq0, ho, hk, hA, hH, hc, hf, hm, hX, hI, hT⟩ := hp
  have h10 := ho.1
  unfold st_row
  by_cases h0 : pC A = 0
  · right
    exact st_n (f2 := fun J => f_X12_row Fu J a1) hp (by unfold f_X11_row; exact wp_Xr (c_chs0 hc (Or.inr h0))) (by unfold f_X12_row; exact wp_Be (m_isRow0 (q_U0 I) (mQ_0 hm).1 (by decide) (Or.inr h0)) (wp_p rfl (wp_s mS_00)))
  rcases ix a1 1000 with hv | ⟨k, hk2, rfl⟩
  · right
    exact st_n (f2 := fun J => f_X12_row Fu J a1) hp (by unfold f_X11_row; exact wp_Xr (c_chs0 hc (Or.inl hv))) (by unfold f_X12_row; exact wp_Be (m_isRow0 (q_U0 I) (mQ_0 hm).1 (by decide) (Or.inl hv)) (wp_p rfl (wp_s mS_00)))
  · left
    exact st_q (L := L) (f2 := fun J => f_X12_row Fu J (nI k)) hp (c_row (by omega) ho hc (by omega) hk2) (fun J n' hJ => m_row (by omega) ho hk hJ.2.2.2.2.2.2.2.2.1 (by omega) hk2)
theorem pq_at {Fu : Nat} {I : mIT} {R : mRT} {L : mLT} {a1 a2 : Int32} (hF : 2200 < Fu) (h : pP I R L) : st_at Fu I R L a1 a2 pP := by
  obtain ⟨p, n, A, row, na, ac, hl, hp⟩ := h
  have ⟨hW, hq0, ho, hk, hA, hH, hc, hf, hm, hX, hI, hT⟩ := hp
  have h10 := ho.1
  unfold st_at
  by_cases h0 : pC A = 0
  · right
    exact st_n2 (f2 := fun J => f_X12_at Fu J a1 a2) hp (by unfold f_X11_at; exact wp_Xr (c_chs0 hc (Or.inr h0))) (by unfold f_X12_at; exact wp_Be (m_isRow0 (q_U0 I) (mQ_0 hm).1 (by decide) (Or.inr h0)) (wp_p rfl (wp_s mS_00)))
  rcases ix a1 1000 with hv | ⟨k, hk2, rfl⟩
  · right
    exact st_n2 (f2 := fun J => f_X12_at Fu J a1 a2) hp (by unfold f_X11_at; exact wp_Xr (c_chs0 hc (Or.inl hv))) (by unfold f_X12_at; exact wp_Be (m_isRow0 (q_U0 I) (mQ_0 hm).1 (by decide) (Or.inl hv)) (wp_p rfl (wp_s mS_00)))
  have hb : nB A row ≤ 6 := fb_ct_le _ 6
  rcases ix a2 (nB A row) with hv | ⟨q, hq, rfl⟩
  · right
    obtain ⟨o, e1, J, rfl, es, n', eq⟩ := c_at0 (k := k) (by omega : 2000 < Fu) ho hc (by omega) hk2 hv
    have hJ := pic_cS hp es eq
    obtain ⟨y, e2, em⟩ := m_at0 (k := k) (by omega : 2000 < Fu) ho hk hJ.2.2.2.2.2.2.2.2.1 (by omega) hk2 hv
    exact ⟨_, e1, y, e2, Or.inl ⟨rfl, mS_th em⟩, p, n', A, row, na, ac, hl, pic_mS hJ em⟩
  · left
    exact st_q (L := L) (f2 := fun J => f_X12_at Fu J (nI k) (nI q)) hp (c_at (by omega) ho hc (by omega) hk2 hq) (fun J n' hJ => m_at (by omega) ho hk hJ.2.2.2.2.2.2.2.2.1 (by omega) hk2 hq)
theorem pq_order {Fu : Nat} {I : mIT} {R : mRT} {L : mLT} {a1 : Int32} (hF : 2200 < Fu) (h : pP I R L) : st_order Fu I R L a1 pP := by
  obtain ⟨p, n, A, row, na, ac, hl, hp⟩ := h
  have ⟨hW, hq0, ho, hk, hA, hH, hc, hf, hm, hX, hI, hT⟩ := hp
  have h10 := ho.1
  unfold st_order
  obtain ⟨o, e1, h1⟩ := c_order (v := a1) (by omega : 701 < Fu) ho hk hc
  rcases h1 with ⟨i, rfl, hi, J, rfl, ea, es, n', eq⟩ | ⟨hv, J, rfl, es, n', eq⟩
  · left
    have hJ := pic_cS hp es eq
    obtain ⟨y, e2, ey, em⟩ := m_order (by omega : 701 < Fu) ho hk hJ.2.2.2.2.2.2.2.2.1 hi
    exact ⟨_, e1, y, e2, mS_th em, by rw [ea, ey], p, n', A, row, na, ac, hl, pic_mS hJ em⟩
  · right
    have hJ := pic_cS hp es eq
    obtain ⟨y, e2, em⟩ := m_order0 (by omega : 701 < Fu) ho hk hJ.2.2.2.2.2.2.2.2.1 hv
    exact ⟨_, e1, y, e2, ⟨rfl, mS_th em⟩, p, n', A, row, na, ac, hl, pic_mS hJ em⟩
theorem pq_hook {Fu : Nat} {I : mIT} {R : mRT} {L : mLT} {a1 : Int32} (hF : 2200 < Fu) (h : pP I R L) : st_hook Fu I R L a1 pP := by
  obtain ⟨p, n, A, row, na, ac, hl, hp⟩ := h
  have ⟨hW, hq0, ho, hk, hA, hH, hc, hf, hm, hX, hI, hT⟩ := hp
  have h10 := ho.1
  unfold st_hook
  rcases ix a1 (6) (by omega) with hv | ⟨j, hj, rfl⟩
  · right
    exact st_n0 (f2 := fun J => f_X12_hook Fu J a1) hp (by unfold f_X11_hook; exact wp_Xr (c_hook0 hv)) (by unfold f_X12_hook; exact wp_Be (m_what0 (m := 5) (q_U0 I) (by omega) hv) (wp_p rfl (wp_s mS_00)))
  · left
    exact ⟨_, c_hook (by omega) ho hc hj, _, m_hook (by omega) ho hm hj, mS_th (mS_r _), rfl, p, n, A, row, na, ac, hl, pic_mS hp (mS_r _)⟩
theorem pq_tune {Fu : Nat} {I : mIT} {R : mRT} {L : mLT} {a1 : Int32} (hF : 2200 < Fu) (h : pP I R L) : st_tune Fu I R L a1 pP := by
  obtain ⟨p, n, A, row, na, ac, hl, hp⟩ := h
  have ⟨hW, hq0, ho, hk, hA, hH, hc, hf, hm, hX, hI, hT⟩ := hp
  have h10 := ho.1
  unfold st_tune
  have h8 := ho.2.2.2.1
  rcases ix a1 (pT A) (by omega) with hv | ⟨j, hj, rfl⟩
  · right
    exact st_n0 (f2 := fun J => f_X12_tune Fu J a1) hp (c_tune0 hc hv) (wp_0 (m_tune0 hm hv))
  · left
    exact ⟨_, c_tune ho hc hj, _, m_tune ho hm hj, mS_th (mS_r _), rfl, p, n, A, row, na, ac, hl, pic_mS hp (mS_r _)⟩
theorem pq_change {Fu : Nat} {I : mIT} {R : mRT} {L : mLT} {a1 : Int32} (hF : 2200 < Fu) (h : pP I R L) : st_change Fu I R L a1 pP := by
  obtain ⟨p, n, A, row, na, ac, hl, hp⟩ := h
  have ⟨hW, hq0, ho, hk, hA, hH, hc, hf, hm, hX, hI, hT⟩ := hp
  have h10 := ho.1
  unfold st_change
  have h12 := ho.2.2.2.2.1
  rcases ix a1 (pC A) (by omega) with hv | ⟨j, hj, rfl⟩
  · right
    exact st_n0 (f2 := fun J => f_X12_change Fu J a1) hp (by unfold f_X11_change; exact wp_Xr (c_chg0 hc.1 hc.2.2.1 hv)) (wp_0 (m_change0 hm hv))
  · left
    exact ⟨_, c_changeQ ho hc hj, _, m_changeQ ho hm hj, mS_th (mS_r _), rfl, p, n, A, row, na, ac, hl, pic_mS hp (mS_r _)⟩
theorem pq_game {Fu : Nat} {I : mIT} {R : mRT} {L : mLT} {a1 a2 a3 : Int32} (hF : 2200 < Fu) (h : pP I R L) : st_game Fu I R L a1 a2 a3 pP := by
  obtain ⟨p, n, A, row, na, ac, hl, hp⟩ := h
  have ⟨hW, hq0, ho, hk, hA, hH, hc, hf, hm, hX, hI, hT⟩ := hp
  have h10 := ho.1
  have hm0 := mQ_0 (v := 0) hm
  unfold st_game
  rcases ix a1 (pR A) with hv | ⟨r, hr, rfl⟩
  · right
    exact st_n1 (f2 := fun J => f_X12_game Fu J a1 a2 a3) hp (by unfold f_X11_game; exact wp_Xr (c_root0 hc.1 hc.2.2.1 hv)) (by unfold f_X12_game; exact wp_Be (m_isRoot0 (q_U0 I) hm0.1 hv) (wp_p rfl (wp_s mS_00)))
  rcases ix a2 (pR A) with hv | ⟨q, hq, rfl⟩
  · right
    exact st_n1 (f2 := fun J => f_X12_game Fu J (nI r) a2 a3) hp (by unfold f_X11_game; rw [c_root1 hc.1 hc.2.2.1 ho hr, oX_l]; exact wp_Xr (c_root0 hc.1 hc.2.2.1 hv)) (by unfold f_X12_game; exact wp_Be (m_isRoot1 (q_U0 I) hm0.1 ho hr) (wp_n ne10 (wp_Be (m_isRoot0 (q_U0 I) hm0.1 hv) (wp_p rfl (wp_s mS_00)))))
  rcases ix a3 2 with hv | ⟨w, hw, rfl⟩
  · right
    exact st_n1 (f2 := fun J => f_X12_game Fu J (nI r) (nI q) a3) hp (by unfold f_X11_game; rw [c_root1 hc.1 hc.2.2.1 ho hr, oX_l, c_root1 hc.1 hc.2.2.1 ho hq, oX_l]; exact wp_Xr (c_two0 hv)) (by unfold f_X12_game; exact wp_Be (m_isRoot1 (q_U0 I) hm0.1 ho hr) (wp_n ne10 (wp_Be (m_isRoot1 (q_U0 I) hm0.1 ho hq) (wp_n ne10 (wp_Be (m_what0 (m := 1) (q_U0 I) (by omega) hv) (wp_p rfl (wp_s mS_00)))))))
  have e59 : wp (b_X12_game_58 Fu (nI r) (nI q) (nI w) (mU I 75 0 0)) (fun y => mS (mU I 75 0 2) y.2) := by
    unfold b_X12_game_58 b_X12_game_59
    exact wp_Be (m_right0 (q_U0 I) (by decide)) (wp_p rfl (wp_s mS_00))
  have eh : ∀ k, k < pR A → I (40 + 1) (31 + k) = row (31 + k) := fun k hk1 => r0 (c := 41) hc.2.2.2.1 (lv_31 hk1)
  by_cases e : r = q
  · right
    refine st_n2 (f2 := fun J => f_X12_game Fu J (nI r) (nI q) (nI w)) hp ?_ ?_
    · unfold f_X11_game
      rw [c_root1 hc.1 hc.2.2.1 ho hr, oX_l, c_root1 hc.1 hc.2.2.1 ho hq, oX_l, c_two1 hw, oX_l, if_pos (by rw [e])]
    · unfold f_X12_game
      exact wp_Be (m_isRoot1 (q_U0 I) hm0.1 ho hr) (wp_n ne10 (wp_Be (m_isRoot1 (q_U0 I) hm0.1 ho hq) (wp_n ne10 (wp_Be (m_what1 (m := 1) (q_U0 I) hw (by omega)) (wp_n ne10 (wp_p (by rw [e]) e59))))))
  have ne : ¬ (nI r = nI q) := by rw [q_eq (by omega) (by omega)]; exact e
  by_cases er : row (31 + r) < 0
  · right
    refine st_n2 (f2 := fun J => f_X12_game Fu J (nI r) (nI q) (nI w)) hp ?_ ?_
    · unfold f_X11_game
      rw [c_root1 hc.1 hc.2.2.1 ho hr, oX_l, c_root1 hc.1 hc.2.2.1 ho hq, oX_l, c_two1 hw, oX_l, if_neg ne, c_place (by omega), q_B, eh r hr, if_pos er]
    · unfold f_X12_game
      refine wp_Be (m_isRoot1 (q_U0 I) hm0.1 ho hr) (wp_n ne10 (wp_Be (m_isRoot1 (q_U0 I) hm0.1 ho hq) (wp_n ne10 (wp_Be (m_what1 (m := 1) (q_U0 I) hw (by omega)) (wp_n ne10 (wp_n ne (wp_Be (m_hangs (b := 0) (by omega) hm0.2.1 hr (by omega)) ?_)))))))
      exact wp_p (by rw [if_pos er]) e59
  by_cases eq : row (31 + q) < 0
  · right
    refine st_n2 (f2 := fun J => f_X12_game Fu J (nI r) (nI q) (nI w)) hp ?_ ?_
    · unfold f_X11_game
      rw [c_root1 hc.1 hc.2.2.1 ho hr, oX_l, c_root1 hc.1 hc.2.2.1 ho hq, oX_l, c_two1 hw, oX_l, if_neg ne, c_place (by omega), q_B, eh r hr, if_neg er, c_place (by omega), q_B, eh q hq, if_neg (Int32.not_le.mpr eq)]
    · unfold f_X12_game
      refine wp_Be (m_isRoot1 (q_U0 I) hm0.1 ho hr) (wp_n ne10 (wp_Be (m_isRoot1 (q_U0 I) hm0.1 ho hq) (wp_n ne10 (wp_Be (m_what1 (m := 1) (q_U0 I) hw (by omega)) (wp_n ne10 (wp_n ne (wp_Be (m_hangs (b := 0) (by omega) hm0.2.1 hr (by omega)) ?_)))))))
      refine wp_n (by rw [if_neg er]; decide) (wp_Be (m_hangs (b := 0) (by omega) hm0.2.1 hq (by omega)) ?_)
      exact wp_p (by rw [if_pos eq]) e59
  · left
    exact st_q (L := L) (f2 := fun J => f_X12_game Fu J (nI r) (nI q) (nI w)) hp (c_game (by omega) ho hk hc hr hq hw e (Int32.not_lt.mp er) (Int32.not_lt.mp eq)) (fun J n' hJ => m_game (by omega) ho hk hJ.2.2.2.2.2.2.2.2.1 hr hq hw e (Int32.not_lt.mp er) (Int32.not_lt.mp eq))
theorem pq_count {Fu : Nat} {I : mIT} {R : mRT} {L : mLT} {a1 : Int32} (hF : 2200 < Fu) (h : pP I R L) : st_count Fu I R L a1 pP := by
  obtain ⟨p, n, A, row, na, ac, hl, hp⟩ := h
  have ⟨hW, hq0, ho, hk, hA, hH, hc, hf, hm, hX, hI, hT⟩ := hp
  unfold st_count
  rcases ix a1 17 with hv | ⟨k, hk7, rfl⟩
  · right
    exact st_n (f2 := fun J => f_X12_count Fu J a1) hp (c_count0 hv) (wp_0 (m_count0 hv))
  · left
    obtain ⟨⟨o9, _, _, x2, _⟩, y1, z1, z2⟩ := hX
    obtain ⟨⟨nt, _, t1, t2, _⟩, _, t4⟩ := hT
    obtain ⟨o, e1, J, rfl, ea, es, n', eq⟩ := c_count (k := k) (by omega : 701 < Fu) ho hk hc x2 z1.1 t1 (fun j hj => t4 j hj) hk7
    have hJ := pic_cS hp es eq
    have g : ∀ c, 75 ≤ c → J.2 c = I c := fun c hc => es c (kC_k (by omega))
    obtain ⟨y, e2, ey, em⟩ := m_count (k := k) (na := nI na) (nh := nI hl.length) (nt := nI nt) (rf := I 81) (by omega : 701 < Fu) ho hk hJ.2.2.2.2.2.2.2.2.1 (by rw [g 75 (by omega)]; exact y1.1) (by rw [g 75 (by omega)]; exact z2.1) (by rw [g 75 (by omega)]; exact t2) (fun j _ => by rw [g 81 (by omega)]) hk7
    exact ⟨J, e1, y, e2, mS_th em, by rw [ea, ey], p, n', A, row, na, ac, hl, pic_mS hJ em⟩
theorem lt0_m1 {v : Int32} (h : v < 0) (e : v ≠ -1) : v < -1 := by
  rw [Int32.lt_iff_toInt_lt] at *
  have h0 : (0 : Int32).toInt = 0 := by decide
  have h1 : (-1 : Int32).toInt = -1 := by decide
  have h2 : v.toInt ≠ (-1 : Int32).toInt := fun q => e (Int32.toInt_inj.mp q)
  omega
theorem pic_fit {I J : mIT} {R : mRT} {p n : Nat} {A : aPl} {row : Nat → Int32} {na : Nat} {ac : Nat → Nat → Int32} {hl : hLs} (hp : pic I R p n A row na ac hl) (j1 : cFv J A row) (j2 : cFf p I J) : pic J R p n A row na ac hl := by
  have hc := hp.2.2.2.2.2.2.1
  have hpp := hc.2.1
  refine pic_c hp (fun c h => j2 c (by omega) (by omega) (by omega) (by omega) (by omega)) ⟨hc.1, hpp, cPl_fr hc.2.2.1 (fun c c1 c2 c3 c4 _ _ => j2 c (by omega) (by omega) (by omega) c3 c4), fun j hj => by rw [j2 41 (by omega) (by omega) (by omega) (by omega) (by omega)]; exact hc.2.2.2.1 j hj, cCo_f hc.2.2.2.2 (fun c c1 c2 => j2 c (by omega) (by omega) (by omega) (by omega) (by omega))⟩ (Or.inr j1)
theorem pq_fit {Fu : Nat} {I : mIT} {R : mRT} {L : mLT} {a1 : Int32} (hF : 2200 < Fu) (h : pP I R L) : st_fit Fu I R L a1 pP := by
  obtain ⟨p, n, A, row, na, ac, hl, hp⟩ := h
  have ⟨hW, hq0, ho, hk, hA, hH, hc, hf, hm, hX, hI, hT⟩ := hp
  have h8 := ho.2.2.2.1
  unfold st_fit
  by_cases e : a1 = -1
  · subst e
    left
    obtain ⟨o, e1, J, rfl, j1, j2⟩ := c_fitm (by omega : 2000 < Fu) ho hk hc hf
    have hJ := pic_fit hp j1 j2
    obtain ⟨y, e2, ey, em⟩ := m_fitm (by omega : 2000 < Fu) ho hk hJ.2.2.2.2.2.2.2.2.1
    exact ⟨_, e1, y, e2, mS_th em, ey.symm, p, n, A, row, na, ac, hl, pic_mS hJ em⟩
  have no : (a1 < -1 ∨ nI (pT A) ≤ a1) → ∃ q, f_X11_fit Fu R I a1 = some (.inr q) ∧ ∃ o2, f_X12_fit Fu q.2 a1 = some o2 ∧ (q.1 = 1 ∧ f_X12_thrown Fu o2.2 = some 1) ∧ pP o2.2 R L := fun hv => st_n (f2 := fun J => f_X12_fit Fu J a1) hp (c_fit0 hc hv) (wp_0 (m_fit0 hm hv))
  rcases ix a1 (pT A) with (hv | hv) | ⟨k, hk8, rfl⟩
  · exact Or.inr (no (Or.inl (lt0_m1 hv e)))
  · exact Or.inr (no (Or.inr hv))
  · left
    obtain ⟨o, e1, J, rfl, j1, j2⟩ := c_fit (by omega : 2000 < Fu) ho hk hc hf hk8
    have hJ := pic_fit hp j1 j2
    obtain ⟨y, e2, ey, em⟩ := m_fit (by omega : 2000 < Fu) ho hk hJ.2.2.2.2.2.2.2.2.1 hk8
    exact ⟨_, e1, y, e2, mS_th em, ey.symm, p, n, A, row, na, ac, hl, pic_mS hJ em⟩
