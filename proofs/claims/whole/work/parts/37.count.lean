/-! count: what counts in the class and in the reference beside the roots: acts, heard, taped, refused -/
theorem hg_o {A : aPl} {row : Nat → Int32} : ∀ r, pR A ≤ r → hg A row r = false := fun r h => by unfold hg; rw [decide_eq_false (by omega)]; rfl
def sCt (A : aPl) (row : Nat → Int32) (na nh nt : Int32) (rf : Nat → Int32) (k : Nat) : Int32 := if k = 0 then nI (pR A) else if k = 1 then nI (nB A row) else if k = 2 then row 0 else if k = 3 then sWe A (row 0).toNatClampNeg else if k = 4 then pL A else if k = 5 then nI (pT A) else if k = 6 then nI (pC A) else if k = 7 then mkB (sSd A row) 10 else if k = 8 then mkB (sWh A row (-1)) 10 else if k = 9 then mkB (sWh A row (-2)) 10 else if k = 10 then sNB A row (sSd A row) else if k = 11 then na else if k = 12 then nh else if k = 13 then nt else rf (k - 14)
theorem eq_13 {a : Nat} (h : a < 2147483648) : (nI a = (13 : Int32)) = (a = 13) := q_eq (a := a) (b := 13) h (by omega)
theorem eq_14 {a : Nat} (h : a < 2147483648) : (nI a = (14 : Int32)) = (a = 14) := q_eq (a := a) (b := 14) h (by omega)
theorem sb_14 {a : Nat} (h : 14 ≤ a) : nI a - (14 : Int32) = nI (a - 14) := pk_sub (a := a) (b := 14) h
theorem c_count {Fu : Nat} {I : mIT} {R : mRT} {p n k : Nat} {A : aPl} {row : Nat → Int32} {na nh nt : Int32} {rf : Nat → Int32} (hF : 701 < Fu) (ho : okPl A) (hk : okR A 999 row) (h : cQ I R p A row n) (ha : I 42 2 = na) (hh : I 44 3 = nh) (ht : I 1 1 = nt) (hr : ∀ j, j < 3 → I 21 j = rf j) (hk17 : k < 17) : wp (f_X11_count Fu R I (nI k)) (cX I R p A row (sCt A row na nh nt rf k)) := by
  have h10 := ho.1
  have hrow := h.2.2.2.1
  obtain ⟨d, hd, hdD⟩ := hk.1
  have h0 : I 41 0 = row 0 := r0 hrow lv_0
  unfold f_X11_count sCt
  rcases (show k = 0 ∨ k = 1 ∨ k = 2 ∨ k = 3 ∨ k = 4 ∨ k = 5 ∨ k = 6 ∨ k = 7 ∨ k = 8 ∨ k = 9 ∨ k = 10 ∨ k = 11 ∨ k = 12 ∨ k = 13 ∨ k = 14 ∨ k = 15 ∨ k = 16 by omega) with rfl | rfl | rfl | rfl | rfl | rfl | rfl | rfl | rfl | rfl | rfl | rfl | rfl | rfl | rfl | rfl | rfl
  · refine wp_p (by decide) (wp_Be h.1 (wp_s ⟨_, rfl, h.2.2.1.1, cS_r I, n, h⟩))
  · refine wp_n (by decide) (wp_p (by decide) (wp_Be (c_hanging hF ho hk h) (wp_Be (bc _) (wp_s ⟨_, rfl, ?_, cS_r I, n, h⟩))))
    show nI (fb_ct (hg A row) 10) = nI (nB A row)
    rw [ct_10 h10 hg_o, nB_hg ho hk]
  · exact wp_n (by decide) (wp_n (by decide) (wp_p (by decide) (wp_Be c_day (wp_s ⟨_, rfl, h0, cS_r I, n, h⟩))))
  · refine wp_n (by decide) (wp_n (by decide) (wp_n (by decide) (wp_p (by decide) (wp_Be h.1 (wp_Be c_day ?_)))))
    rw [show I (40 + 1) 0 = nI d from h0.trans hd]
    refine wp_Be (c_weather h.2.2.1 ho (by omega)) (wp_s ⟨_, rfl, ?_, cS_r I, n, h⟩)
    show sWe A d = sWe A (row 0).toNatClampNeg
    rw [hd, q_cl (by omega)]
  · exact wp_n (by decide) (wp_n (by decide) (wp_n (by decide) (wp_n (by decide) (wp_p (by decide) (wp_Be h.1 (wp_s ⟨_, rfl, h.2.2.1.2.2.1, cS_r I, n, h⟩))))))
  · exact wp_n (by decide) (wp_n (by decide) (wp_n (by decide) (wp_n (by decide) (wp_n (by decide) (wp_p (by decide) (wp_Be h.1 (wp_s ⟨_, rfl, h.2.2.1.2.2.2.1, cS_r I, n, h⟩)))))))
  · exact wp_n (by decide) (wp_n (by decide) (wp_n (by decide) (wp_n (by decide) (wp_n (by decide) (wp_n (by decide) (wp_p (by decide) (wp_Be h.1 (wp_s ⟨_, rfl, h.2.2.1.2.2.2.2.2.1, cS_r I, n, h⟩))))))))
  · refine wp_n (by decide) (wp_n (by decide) (wp_n (by decide) (wp_n (by decide) (wp_n (by decide) (wp_n (by decide) (wp_n (by decide) (wp_p (by decide) ?_)))))))
    refine wp_B (c_now hF ho hk h) ?_
    rintro ⟨v, J⟩ ⟨e1, e2, n', e3, e4⟩
    exact wp_s ⟨_, rfl, e1, e2, n', e4⟩
  · exact wp_n (by decide) (wp_n (by decide) (wp_n (by decide) (wp_n (by decide) (wp_n (by decide) (wp_n (by decide) (wp_n (by decide) (wp_n (by decide) (wp_p (by decide) (wp_Be (c_bitsAt hF ho h) (wp_s ⟨_, rfl, rfl, cS_r I, n, h⟩))))))))))
  · exact wp_n (by decide) (wp_n (by decide) (wp_n (by decide) (wp_n (by decide) (wp_n (by decide) (wp_n (by decide) (wp_n (by decide) (wp_n (by decide) (wp_n (by decide) (wp_p (by decide) (wp_Be (c_bitsAt hF ho h) (wp_s ⟨_, rfl, rfl, cS_r I, n, h⟩)))))))))))
  · refine wp_n (by decide) (wp_n (by decide) (wp_n (by decide) (wp_n (by decide) (wp_n (by decide) (wp_n (by decide) (wp_n (by decide) (wp_n (by decide) (wp_n (by decide) (wp_n (by decide) (wp_p (by decide) ?_))))))))))
    refine wp_B (c_now hF ho hk h) ?_
    rintro ⟨v, J⟩ ⟨e1, e2, n', e3, e4⟩
    dsimp only at e1 e2 e4 ⊢
    subst e1
    exact wp_Be (c_bits (k := 0) hF h10 e4.2.2.2.2.2.2.2 e3 e4.2.2.2.2.2.1 sSd_o) (wp_s ⟨_, rfl, rfl, e2, n', e4⟩)
  · exact wp_n (by decide) (wp_n (by decide) (wp_n (by decide) (wp_n (by decide) (wp_n (by decide) (wp_n (by decide) (wp_n (by decide) (wp_n (by decide) (wp_n (by decide) (wp_n (by decide) (wp_n (by decide) (wp_p (by decide) (wp_Be (show f_X0_many Fu I 42 = some (I 42 2) from rfl) (wp_s ⟨_, rfl, ha, cS_r I, n, h⟩)))))))))))))
  · exact wp_n (by decide) (wp_n (by decide) (wp_n (by decide) (wp_n (by decide) (wp_n (by decide) (wp_n (by decide) (wp_n (by decide) (wp_n (by decide) (wp_n (by decide) (wp_n (by decide) (wp_n (by decide) (wp_n (by decide) (wp_p (by decide) (wp_Be (show f_X4_many Fu I 44 = some (I 44 3) from rfl) (wp_s ⟨_, rfl, hh, cS_r I, n, h⟩))))))))))))))
  · exact wp_n (by decide) (wp_n (by decide) (wp_n (by decide) (wp_n (by decide) (wp_n (by decide) (wp_n (by decide) (wp_n (by decide) (wp_n (by decide) (wp_n (by decide) (wp_n (by decide) (wp_n (by decide) (wp_n (by decide) (wp_n (by decide) (wp_p (by decide) (wp_Be (show f_X6_taped Fu I = some (I 1 1) from rfl) (wp_s ⟨_, rfl, ht, cS_r I, n, h⟩)))))))))))))))
  · refine wp_n (by decide) (wp_n (by decide) (wp_n (by decide) (wp_n (by decide) (wp_n (by decide) (wp_n (by decide) (wp_n (by decide) (wp_n (by decide) (wp_n (by decide) (wp_n (by decide) (wp_n (by decide) (wp_n (by decide) (wp_n (by decide) (wp_n (by decide) (wp_p (by decide) ?_))))))))))))))
    exact wp_G (by decide) (wp_s ⟨_, rfl, hr 0 (by omega), cS_r I, n, h⟩)
  · refine wp_n (by decide) (wp_n (by decide) (wp_n (by decide) (wp_n (by decide) (wp_n (by decide) (wp_n (by decide) (wp_n (by decide) (wp_n (by decide) (wp_n (by decide) (wp_n (by decide) (wp_n (by decide) (wp_n (by decide) (wp_n (by decide) (wp_n (by decide) (wp_n (by decide) (wp_p (by decide) ?_)))))))))))))))
    exact wp_G (by decide) (wp_s ⟨_, rfl, hr 1 (by omega), cS_r I, n, h⟩)
  · refine wp_n (by decide) (wp_n (by decide) (wp_n (by decide) (wp_n (by decide) (wp_n (by decide) (wp_n (by decide) (wp_n (by decide) (wp_n (by decide) (wp_n (by decide) (wp_n (by decide) (wp_n (by decide) (wp_n (by decide) (wp_n (by decide) (wp_n (by decide) (wp_n (by decide) (wp_n (by decide) (wp_p (by decide) ?_))))))))))))))))
    exact wp_G (by decide) (wp_s ⟨_, rfl, hr 2 (by omega), cS_r I, n, h⟩)
theorem c_count0 {Fu : Nat} {I : mIT} {R : mRT} {v : Int32} (hv : v < 0 ∨ nI 17 ≤ v) : f_X11_count Fu R I v = some (.inr (1, I)) := by
  have hne : ∀ k, k < 17 → ¬ v = nI k := fun k hk e => by
    subst e
    rcases hv with e | e
    · rw [q_lt0 (by omega)] at e; exact e
    · rw [q_le (by omega) (by omega)] at e; omega
  unfold f_X11_count
  rw [if_neg (show ¬ v = 0 from hne 0 (by omega)), if_neg (show ¬ v = 1 from hne 1 (by omega)), if_neg (show ¬ v = 2 from hne 2 (by omega)), if_neg (show ¬ v = 3 from hne 3 (by omega)), if_neg (show ¬ v = 4 from hne 4 (by omega)), if_neg (show ¬ v = 5 from hne 5 (by omega)), if_neg (show ¬ v = 6 from hne 6 (by omega)), if_neg (show ¬ v = 7 from hne 7 (by omega)), if_neg (show ¬ v = 8 from hne 8 (by omega)), if_neg (show ¬ v = 9 from hne 9 (by omega)), if_neg (show ¬ v = 10 from hne 10 (by omega)), if_neg (show ¬ v = 11 from hne 11 (by omega)), if_neg (show ¬ v = 12 from hne 12 (by omega)), if_neg (show ¬ v = 13 from hne 13 (by omega)), if_neg (show ¬ v = 14 from hne 14 (by omega)), if_neg (show ¬ v = 15 from hne 15 (by omega)), if_neg (show ¬ v = 16 from hne 16 (by omega))]
theorem m_count {Fu : Nat} {I : mIT} {k : Nat} {A : aPl} {row : Nat → Int32} {na nh nt : Int32} {rf : Nat → Int32} (hF : 701 < Fu) (ho : okPl A) (hk : okR A 999 row) (h : mQ I A row) (ha : I 75 44 = na) (hh : I 75 55 = nh) (ht : I 75 13 = nt) (hr : ∀ j, j < 3 → I 81 j = rf j) (hk17 : k < 17) : wp (f_X12_count Fu I (nI k)) (fun y => y.1 = sCt A row na nh nt rf k ∧ mS (mU I 75 0 0) y.2) := by
  have h0 := mQ_0 (v := 0) h
  have h10 := ho.1
  have hrow := h0.2.1
  obtain ⟨d, hd, hdD⟩ := hk.1
  have hz : (mU I 75 0 0) 89 0 = row 0 := r0 hrow lv_0
  unfold f_X12_count
  refine wp_Be (m_in1 (m := 16) hk17 (by omega)) ?_
  refine wp_Be (m_right1 (q_U0 I)) (wp_n ne10 ?_)
  dsimp only
  unfold sCt
  rcases (show k = 0 ∨ k = 1 ∨ k = 2 ∨ k = 3 ∨ k = 4 ∨ k = 5 ∨ k = 6 ∨ k = 7 ∨ k = 8 ∨ k = 9 ∨ k = 10 ∨ k = 11 ∨ k = 12 ∨ k = 13 ∨ k = 14 ∨ k = 15 ∨ k = 16 by omega) with rfl | rfl | rfl | rfl | rfl | rfl | rfl | rfl | rfl | rfl | rfl | rfl | rfl | rfl | rfl | rfl | rfl
  · exact wp_p (by decide) (wp_s ⟨h0.1.1, mS_r _⟩)
  · exact wp_n (by decide) (wp_p (by decide) (wp_B (m_bells hF ho hk h0) (fun y hy => wp_s ⟨hy.1, fun c j hc => by rw [hy.2.1 c (fun e => by subst e; exact nomatch hc)]⟩)))
  · exact wp_n (by decide) (wp_n (by decide) (wp_p (by decide) (wp_G (by decide) (wp_s ⟨hz, mS_r _⟩))))
  · refine wp_n (by decide) (wp_n (by decide) (wp_n (by decide) (wp_p (by decide) (wp_G (by decide) ?_))))
    rw [show (mU I 75 0 0) 89 (0 : Int32).toNatClampNeg = nI d from hz.trans hd]
    refine wp_Be (m_weather h0.1 ho h0.2.2 (by omega)) (wp_s ⟨?_, mS_r _⟩)
    show sWe A d = sWe A (row 0).toNatClampNeg
    rw [hd, q_cl (by omega)]
  · exact wp_n (by decide) (wp_n (by decide) (wp_n (by decide) (wp_n (by decide) (wp_p (by decide) (wp_s ⟨h0.1.2.2.1, mS_r _⟩)))))
  · exact wp_n (by decide) (wp_n (by decide) (wp_n (by decide) (wp_n (by decide) (wp_n (by decide) (wp_p (by decide) (wp_s ⟨h0.1.2.2.2.1, mS_r _⟩))))))
  · exact wp_n (by decide) (wp_n (by decide) (wp_n (by decide) (wp_n (by decide) (wp_n (by decide) (wp_n (by decide) (wp_p (by decide) (wp_s ⟨h0.1.2.2.2.2.1, mS_r _⟩)))))))
  · exact wp_n (by decide) (wp_n (by decide) (wp_n (by decide) (wp_n (by decide) (wp_n (by decide) (wp_n (by decide) (wp_n (by decide) (wp_p (by decide) (wp_Be (m_soundingIn (b := 0) hF h0.1 ho (by omega) hrow) (wp_s ⟨rfl, mS_r _⟩)))))))))
  · exact wp_n (by decide) (wp_n (by decide) (wp_n (by decide) (wp_n (by decide) (wp_n (by decide) (wp_n (by decide) (wp_n (by decide) (wp_n (by decide) (wp_p (by decide) (wp_Be (m_whereIn (b := 0) hF h0.1 ho (by omega) hrow) (wp_s ⟨rfl, mS_r _⟩))))))))))
  · exact wp_n (by decide) (wp_n (by decide) (wp_n (by decide) (wp_n (by decide) (wp_n (by decide) (wp_n (by decide) (wp_n (by decide) (wp_n (by decide) (wp_n (by decide) (wp_p (by decide) (wp_Be (m_whereIn (b := 0) hF h0.1 ho (by omega) hrow) (wp_s ⟨rfl, mS_r _⟩)))))))))))
  · exact wp_n (by decide) (wp_n (by decide) (wp_n (by decide) (wp_n (by decide) (wp_n (by decide) (wp_n (by decide) (wp_n (by decide) (wp_n (by decide) (wp_n (by decide) (wp_n (by decide) (wp_p (by decide) (wp_B (m_notesIn (b := 0) hF h0.1 ho h0.2.2 (by omega) hrow hk (by omega)) (fun y hy => wp_s ⟨hy.1, mS_n hy.2⟩))))))))))))
  · exact wp_n (by decide) (wp_n (by decide) (wp_n (by decide) (wp_n (by decide) (wp_n (by decide) (wp_n (by decide) (wp_n (by decide) (wp_n (by decide) (wp_n (by decide) (wp_n (by decide) (wp_n (by decide) (wp_p (by decide) (wp_s ⟨by rw [q_Uj (by decide)]; exact ha, mS_r _⟩))))))))))))
  · exact wp_n (by decide) (wp_n (by decide) (wp_n (by decide) (wp_n (by decide) (wp_n (by decide) (wp_n (by decide) (wp_n (by decide) (wp_n (by decide) (wp_n (by decide) (wp_n (by decide) (wp_n (by decide) (wp_n (by decide) (wp_p (by decide) (wp_s ⟨by rw [q_Uj (by decide)]; exact hh, mS_r _⟩)))))))))))))
  · exact wp_n (by decide) (wp_n (by decide) (wp_n (by decide) (wp_n (by decide) (wp_n (by decide) (wp_n (by decide) (wp_n (by decide) (wp_n (by decide) (wp_n (by decide) (wp_n (by decide) (wp_n (by decide) (wp_n (by decide) (wp_n (by decide) (wp_p (by decide) (wp_s ⟨by rw [q_Uj (by decide)]; exact ht, mS_r _⟩))))))))))))))
  · exact wp_n (by decide) (wp_n (by decide) (wp_n (by decide) (wp_n (by decide) (wp_n (by decide) (wp_n (by decide) (wp_n (by decide) (wp_n (by decide) (wp_n (by decide) (wp_n (by decide) (wp_n (by decide) (wp_n (by decide) (wp_n (by decide) (wp_n (by decide) (wp_G (by decide) (wp_s ⟨by rw [mU_other (by decide)]; exact hr 0 (by omega), mS_r _⟩)))))))))))))))
  · exact wp_n (by decide) (wp_n (by decide) (wp_n (by decide) (wp_n (by decide) (wp_n (by decide) (wp_n (by decide) (wp_n (by decide) (wp_n (by decide) (wp_n (by decide) (wp_n (by decide) (wp_n (by decide) (wp_n (by decide) (wp_n (by decide) (wp_n (by decide) (wp_G (by decide) (wp_s ⟨by rw [mU_other (by decide)]; exact hr 1 (by omega), mS_r _⟩)))))))))))))))
  · exact wp_n (by decide) (wp_n (by decide) (wp_n (by decide) (wp_n (by decide) (wp_n (by decide) (wp_n (by decide) (wp_n (by decide) (wp_n (by decide) (wp_n (by decide) (wp_n (by decide) (wp_n (by decide) (wp_n (by decide) (wp_n (by decide) (wp_n (by decide) (wp_G (by decide) (wp_s ⟨by rw [mU_other (by decide)]; exact hr 2 (by omega), mS_r _⟩)))))))))))))))
theorem m_count0 {Fu : Nat} {I : mIT} {v : Int32} (hv : v < 0 ∨ nI 17 ≤ v) : f_X12_count Fu I v = some (0, mU I 75 0 1) := by
  unfold f_X12_count
  rw [show f_X12_within Fu v 0 16 = some 0 from m_in0 (m := 16) (by omega) hv, q_B, m_right0 (q_U0 I) (by decide), q_B, mU_mU]
  rfl
/-! the order in which they go -/
def rk (A : aPl) (row : Nat → Int32) (r : Nat) : Nat := gv A row r * 10 + r
def bf (A : aPl) (row : Nat → Int32) (r : Nat) : Nat := fb_ct (fun q => hg A row q && decide (rk A row q < rk A row r)) (pR A)
def sOr (A : aPl) (row : Nat → Int32) (i : Nat) : Nat := sFk (fun r => hg A row r && decide (bf A row r = i)) 0 (pR A)
theorem bf_lt {A : aPl} {row : Nat → Int32} {r q : Nat} (hr : r < pR A) (h1 : hg A row r = true) (h : rk A row r < rk A row q) : bf A row r < bf A row q := by
  have h2 := fb_ct_upd (fun q => hg A row q && decide (rk A row q < rk A row r)) true hr
  have e0 : (hg A row r && decide (rk A row r < rk A row r)) = false := by simp
  rw [e0, if_neg Bool.false_ne_true, if_pos (show true = true from rfl)] at h2
  have h3 : fb_ct (fun k => if k = r then true else hg A row k && decide (rk A row k < rk A row r)) (pR A) ≤ bf A row q := by
    refine fb_ct_sub (fun k hk e => ?_)
    by_cases e2 : k = r
    · subst e2; rw [h1, decide_eq_true h]; rfl
    · rw [if_neg e2, Bool.and_eq_true, decide_eq_true_iff] at e
      rw [e.1, decide_eq_true (show rk A row k < rk A row q by omega)]; rfl
  unfold bf at *
  omega
theorem rk_ne {A : aPl} {row : Nat → Int32} {r q : Nat} (hr : r < 10) (hq : q < 10) (h : r ≠ q) : rk A row r ≠ rk A row q := by
  unfold rk
  omega
theorem bf_nB {A : aPl} {D : Nat} {row : Nat → Int32} {r : Nat} (ho : okPl A) (hk : okR A D row) (hr : r < pR A) (h1 : hg A row r = true) : bf A row r < nB A row := by
  rw [nB_hg ho hk]
  have h2 := fb_ct_upd (fun q => hg A row q && decide (rk A row q < rk A row r)) true hr
  have e0 : (hg A row r && decide (rk A row r < rk A row r)) = false := by simp
  rw [e0, if_neg Bool.false_ne_true, if_pos (show true = true from rfl)] at h2
  have h3 : fb_ct (fun k => if k = r then true else hg A row k && decide (rk A row k < rk A row r)) (pR A) ≤ fb_ct (hg A row) (pR A) := by
    refine fb_ct_sub (fun k hk e => ?_)
    by_cases e2 : k = r
    · subst e2; exact h1
    · rw [if_neg e2, Bool.and_eq_true] at e
      exact e.1
  unfold bf
  omega
theorem sOr_ex {A : aPl} {D i : Nat} {row : Nat → Int32} (ho : okPl A) (hk : okR A D row) (hi : i < nB A row) : ∃ r, r < pR A ∧ hg A row r = true ∧ bf A row r = i := by
  have h10 := ho.1
  have hn := nB_hg ho hk
  have ex : ∀ k, ∃ r, k < nB A row → (r < pR A ∧ hg A row r = true ∧ fb_ct (hg A row) r = k) := fun k => by
    by_cases e : k < nB A row
    · obtain ⟨r, h1, h2, h3⟩ := fb_ct_kth (p := hg A row) (k := k) (n := pR A) (by omega)
      exact ⟨r, fun _ => ⟨h1, h2, h3⟩⟩
    · exact ⟨0, fun h => absurd h e⟩
  have hf : ∀ k, k < nB A row → ((ex k).choose < pR A ∧ hg A row (ex k).choose = true ∧ fb_ct (hg A row) (ex k).choose = k) := fun k hk2 => (ex k).choose_spec hk2
  obtain ⟨k, hk1, hk2⟩ := fb_onto (n := nB A row) (f := fun k => bf A row (ex k).choose) (fun k hk2 => bf_nB ho hk (hf k hk2).1 (hf k hk2).2.1) (fun a b hab hb e => by
    have ha1 := hf a (by omega)
    have hb1 := hf b hb
    have hne : (ex a).choose ≠ (ex b).choose := fun e2 => by
      have := ha1.2.2
      rw [e2, hb1.2.2] at this
      omega
    have := rk_ne (A := A) (row := row) (show (ex a).choose < 10 by omega) (show (ex b).choose < 10 by omega) hne
    rcases Nat.lt_or_gt_of_ne this with h | h
    · have := bf_lt ha1.1 ha1.2.1 h
      have e2 : bf A row (ex a).choose = bf A row (ex b).choose := e
      omega
    · have := bf_lt hb1.1 hb1.2.1 h
      have e2 : bf A row (ex a).choose = bf A row (ex b).choose := e
      omega) hi
  exact ⟨_, (hf k hk1).1, (hf k hk1).2.1, hk2⟩
theorem sOr_in {A : aPl} {D i : Nat} {row : Nat → Int32} (ho : okPl A) (hk : okR A D row) (hi : i < nB A row) : sOr A row i < pR A := by
  have h10 := ho.1
  obtain ⟨r, h1, h2, h3⟩ := sOr_ex ho hk hi
  rcases sFk_b (p := fun r => hg A row r && decide (bf A row r = i)) (pR A) 0 with e | e
  · have := sFk_n (p := fun r => hg A row r && decide (bf A row r = i)) (pR A) 0 e (by omega) r (by omega) (by omega)
    rw [h2, decide_eq_true h3] at this
    exact nomatch this
  · unfold sOr; omega
theorem sOr_no {A : aPl} {D i : Nat} {row : Nat → Int32} (ho : okPl A) (hk : okR A D row) (hi : nB A row ≤ i) : sOr A row i = 9999 := by
  have h10 := ho.1
  apply Classical.byContradiction
  intro e
  have h1 := sFk_t (p := fun r => hg A row r && decide (bf A row r = i)) (pR A) 0 e (by omega)
  rw [Bool.and_eq_true, decide_eq_true_iff] at h1
  have h2 : sOr A row i < pR A := by
    rcases sFk_b (p := fun r => hg A row r && decide (bf A row r = i)) (pR A) 0 with e2 | e2
    · exact absurd e2 e
    · unfold sOr; omega
  have h3 := bf_nB ho hk h2 h1.1
  have h4 : bf A row (sOr A row i) = i := h1.2
  omega
theorem sFk_tt {p : Nat → Bool} {i n : Nat} (h : i < n) : sFk p i (n - i) = if p i then i else sFk p (i + 1) (n - (i + 1)) := by
  rw [show n - i = (n - (i + 1)) + 1 by omega, sFk_s]
theorem c_rank {Fu : Nat} {I : mIT} {r : Nat} {A : aPl} {row : Nat → Int32} (hF : 701 < Fu) (ho : okPl A) (h : laid I A row 61) (hrow : rI A I 41 0 row) (hr : r < pR A) (h1 : hg A row r = true) : f_X11_goingRank Fu I (nI r) = some (nI (rk A row r)) := by
  have h10 := ho.1
  have hle := gv_le (A := A) (row := row) (r := r)
  unfold hg at h1
  rw [Bool.and_eq_true, decide_eq_true_iff, decide_eq_true_iff] at h1
  unfold f_X11_goingRank
  rw [c_going hF ho h hrow hr, q_B, if_neg (Int32.not_lt.mpr h1.2)]
  unfold gN rk
  by_cases e : gv A row r = 61
  · rw [if_pos e, if_pos rfl, e, show (61 : Int32) * 10 = nI 610 from rfl, nI_add]
  · rw [if_neg e, if_neg (by rw [q_eqm1 (by omega)]; simp), mr_10, nI_add]
theorem c_before {Fu : Nat} {I : mIT} {R : mRT} {p r : Nat} {A : aPl} {row : Nat → Int32} (hF : 701 < Fu) (ho : okPl A) (h : cQ I R p A row 61) (hr : r < pR A) (h1 : hg A row r = true) : f_X11_goingBefore Fu R I (nI r) (mkB (hg A row) 10) = some (nI (bf A row r)) := by
  have h10 := ho.1
  have hl := h.2.2.2.2.2.2.2
  have hb : ∀ q, q < 10 → rk A row q < 700 := fun q hq => by have := gv_le (A := A) (row := row) (r := q); unfold rk; omega
  unfold f_X11_goingBefore
  rw [c_rank hF ho hl h.2.2.2.1 hr h1, q_B]
  unfold w_X11_goingBefore_12 bf
  refine q_for (fun i => (mkB (hg A row) 10, nI (rk A row r), nI (fb_ct (fun q => hg A row q && decide (rk A row q < rk A row r)) i), nI i)) (pR A) _ ?_ ?_ Fu (by omega)
  · intro i hi self
    show b_X11_goingBefore_12 Fu R I self _ _ _ (nI i) = _
    unfold b_X11_goingBefore_12
    rw [h.1, q_B, h.2.2.1.1, if_neg (by rw [q_le (by omega) (by omega)]; omega)]
    simp (disch := omega) only [b_at1, q_1]
    rw [b_mkB (by omega) (by omega), decide_eq_true (by omega : i < 10), Bool.true_and, fb_ct_succ]
    by_cases e : hg A row i = true
    · rw [if_pos e, c_rank hF ho hl h.2.2.2.1 hi e, q_B, e, Bool.true_and]
      have := hb i (by omega)
      have := hb r (by omega)
      by_cases e2 : rk A row i < rk A row r
      · rw [if_neg (by rw [q_le (by omega) (by omega)]; omega), decide_eq_true e2, if_pos rfl]
      · rw [if_pos (by rw [q_le (by omega) (by omega)]; omega), decide_eq_false e2, if_neg (by simp)]; rfl
    · rw [if_neg e, Bool.eq_false_iff.mpr e, Bool.false_and, if_neg (by simp)]; rfl
  · intro self
    show b_X11_goingBefore_12 Fu R I self _ _ _ (nI (pR A)) = _
    unfold b_X11_goingBefore_12
    rw [h.1, q_B, h.2.2.1.1, if_pos (by rw [q_le (by omega) (by omega)]; omega)]
theorem c_order {Fu : Nat} {I : mIT} {R : mRT} {p n : Nat} {A : aPl} {row : Nat → Int32} {v : Int32} (hF : 701 < Fu) (ho : okPl A) (hk : okR A 999 row) (h : cQ I R p A row n) : wp (f_X11_order Fu R I v) (fun o => ((∃ i, v = nI i ∧ i < nB A row ∧ cX I R p A row (nI (sOr A row i)) o) ∨ ((v < 0 ∨ nI (nB A row) ≤ v) ∧ ∃ J, o = .inr (1, J) ∧ cS I J ∧ ∃ n, cQ J R p A row n))) := by
  have h10 := ho.1
  have hB : nB A row ≤ 6 := fb_ct_le _ 6
  unfold f_X11_order
  refine wp_Be h.1 ?_
  refine wp_B (c_lay (m := 60) hF ho hk h (by omega)) ?_
  rintro J ⟨h1, n', h2, h3, h4⟩
  have hn : n' = 61 := by have := h4.2.2.2.2.2.1; omega
  subst hn
  refine wp_Be (c_hanging hF ho hk h4) ?_
  have hbf : ∀ r, r < pR A → bf A row r ≤ 10 := fun r _ => by have := fb_ct_le (fun q => hg A row q && decide (rk A row q < rk A row r)) (pR A); unfold bf; omega
  unfold w_X11_order_24
  refine wp_loop (fun dd (s : Int32 × Int32 × Int32 × mIT) => ∃ (q : Nat), s = (v, mkB (hg A row) 10, nI q, J) ∧ dd = pR A - q ∧ q ≤ pR A ∧ ∀ r, r < q → hg A row r = true → nI (bf A row r) ≠ v) _ ?_ Fu (pR A) _ ⟨0, rfl, rfl, by omega, fun _ hj => absurd hj (by omega)⟩ (by omega)
  rintro dd s self ⟨q, rfl, hdd, hq, f1⟩ hself
  show wp (b_X11_order_24 Fu R self v _ (nI q) J) _
  unfold b_X11_order_24
  refine wp_Be h.1 ?_
  refine wp_i (by rw [h4.2.2.1.1, q_le (by omega) (by omega)]) (fun hle => ?_) (fun hlt => ?_)
  · have hqe : q = pR A := by omega
    subst hqe
    refine wp_s (Or.inr ⟨?_, J, rfl, h1, _, h4⟩)
    rcases pk_ix v (n := nB A row) (by omega) with e | e | ⟨i, hi, e⟩
    · exact Or.inl e
    · exact Or.inr e
    · obtain ⟨r, g1, g2, g3⟩ := sOr_ex ho hk hi
      exact absurd (by rw [g3, e]) (f1 r g1 g2)
  · have hq2 : q < pR A := by omega
    have nx : (hg A row q = true → nI (bf A row q) ≠ v) → wp (self (v, mkB (hg A row) 10, nI q + 1, J)) (fun o => ((∃ i, v = nI i ∧ i < nB A row ∧ cX I R p A row (nI (sOr A row i)) o) ∨ ((v < 0 ∨ nI (nB A row) ≤ v) ∧ ∃ J, o = .inr (1, J) ∧ cS I J ∧ ∃ n, cQ J R p A row n))) := fun e => hself (pR A - (q + 1)) _ (by omega) ⟨q + 1, by rw [q_1], rfl, by omega, fun r hr h5 => by
      by_cases e2 : r = q
      · subst e2; exact e h5
      · exact f1 r (by omega) h5⟩
    refine wp_i (b_at1 (by omega) _) (fun e => ?_) (fun e => ?_)
    · rw [b_mkB (by omega) (by omega), decide_eq_true (by omega : q < 10), Bool.true_and] at e
      refine wp_Be (c_before hF ho h4 hq2 e) ?_
      refine wp_f (fun e3 => ?_) (fun e3 => nx (fun _ => e3))
      have hi := bf_nB ho hk hq2 e
      refine wp_s (Or.inl ⟨bf A row q, e3.symm, hi, _, rfl, ?_, h1, _, h4⟩)
      have e5 : sOr A row (bf A row q) = q := by
        have t1 := sOr_in ho hk hi
        have t2 := sFk_t (p := fun r => hg A row r && decide (bf A row r = bf A row q)) (pR A) 0 (show sOr A row (bf A row q) ≠ 9999 by omega) (by omega)
        rw [Bool.and_eq_true, decide_eq_true_iff] at t2
        apply Classical.byContradiction
        intro e6
        have t3 : bf A row (sOr A row (bf A row q)) = bf A row q := t2.2
        have := rk_ne (A := A) (row := row) (show sOr A row (bf A row q) < 10 by omega) (show q < 10 by omega) e6
        rcases Nat.lt_or_gt_of_ne this with t | t
        · have := bf_lt t1 t2.1 t; omega
        · have := bf_lt hq2 e t; omega
      rw [e5]
    · rw [b_mkB (by omega) (by omega), decide_eq_true (by omega : q < 10), Bool.true_and] at e
      exact nx (fun e2 => absurd e2 e)
theorem gF_lt {a b : Nat} (ha : a ≤ 61) (hb : b ≤ 61) : (gF a < gF b) = (a < b) := by
  have h : ∀ a, a ≤ 61 → ∃ x, gF a = nI x ∧ x < 10000 ∧ (a < 61 → x = a) ∧ (a = 61 → x = 9999) := fun a ha => by
    unfold gF
    by_cases e : a = 61
    · exact ⟨9999, by rw [if_pos e]; rfl, by omega, by omega, by omega⟩
    · exact ⟨a, by rw [if_neg e], by omega, by omega, by omega⟩
  obtain ⟨x, h1, h2, h3, h4⟩ := h a ha
  obtain ⟨y, g1, g2, g3, g4⟩ := h b hb
  rw [h1, g1, q_lt (by omega) (by omega)]
  apply propext
  omega
theorem gF_eq {a b : Nat} (ha : a ≤ 61) (hb : b ≤ 61) : (gF a = gF b) = (a = b) := by
  apply propext
  constructor
  · intro e
    rcases Nat.lt_trichotomy a b with h | h | h
    · have := (gF_lt ha hb).mpr h; rw [e] at this; exact (Int32.lt_irrefl this).elim
    · exact h
    · have := (gF_lt hb ha).mpr h; rw [e] at this; exact (Int32.lt_irrefl this).elim
  · intro e; rw [e]
theorem gF_m1 {a : Nat} (ha : a ≤ 61) : ¬ gF a = -1 := by
  unfold gF
  by_cases e : a = 61
  · rw [if_pos e]; decide
  · rw [if_neg e, q_eqm1 (by omega)]; simp
theorem m_orderL {Fu : Nat} {I1 : mIT} {i : Nat} {A : aPl} {row : Nat → Int32} (hF : 701 < Fu) (ho : okPl A) (hk : okR A 999 row) (h1 : mPl I1 A) (h2 : ∀ r, r < pR A → I1 94 r = sSr A row r) (hi : i < nB A row) : w_X12_order_40 Fu Fu (nI i) 0 I1 = some (nI (sOr A row i), I1) := by
  have h10 := ho.1
  have hB : nB A row ≤ 6 := fb_ct_le _ 6
  have hsr : ∀ r, r < pR A → (hg A row r = true ∧ sSr A row r = gF (gv A row r)) ∨ (hg A row r = false ∧ sSr A row r = -1) := fun r hr => by
    unfold hg sSr
    rw [decide_eq_true hr, Bool.true_and]
    by_cases e : row (31 + r) < 0
    · right; exact ⟨decide_eq_false (Int32.not_le.mpr e), if_pos e⟩
    · left; exact ⟨decide_eq_true (Int32.not_lt.mp e), if_neg e⟩
  apply wp_q
  unfold w_X12_order_40
  refine wp_loop (fun dd (s : Int32 × Int32 × mIT) => ∃ (q : Nat), s = (nI i, nI q, I1) ∧ dd = pR A - q ∧ q ≤ pR A ∧ sOr A row i = sFk (fun r => hg A row r && decide (bf A row r = i)) q (pR A - q)) _ ?_ Fu (pR A) _ ⟨0, rfl, rfl, by omega, rfl⟩ (by omega)
  rintro dd s self ⟨q, rfl, hdd, hq, f1⟩ hself
  show wp (b_X12_order_40 Fu self (nI i) (nI q) I1) _
  unfold b_X12_order_40
  refine wp_i (by rw [h1.1, q_le (by omega) (by omega)]) (fun hle => ?_) (fun hlt => ?_)
  · exfalso
    have hqe : q = pR A := by omega
    subst hqe
    rw [Nat.sub_self] at f1
    have := sOr_in ho hk hi
    rw [f1] at this
    have e9 : sFk (fun r => hg A row r && decide (bf A row r = i)) (pR A) 0 = 9999 := rfl
    omega
  · have hq2 : q < pR A := by omega
    rw [sFk_tt hq2] at f1
    simp (disch := omega) only [q_GI, q_cl, h2 q hq2]
    rcases hsr q hq2 with ⟨t1, t2⟩ | ⟨t1, t2⟩
    · rw [t2]
      refine wp_n (gF_m1 gv_le) ?_
      unfold w_X12_order_67
      refine wp_loop (fun dd (s : Int32 × Int32 × Int32 × Int32 × mIT) => ∃ (j : Nat), s = (nI i, nI q, nI (fb_ct (fun k => hg A row k && decide (rk A row k < rk A row q)) j), nI j, I1) ∧ dd = pR A - j ∧ j ≤ pR A) _ ?_ Fu (pR A) _ ⟨0, rfl, rfl, by omega⟩ (by omega)
      rintro dj s self2 ⟨j, rfl, hdj, hj⟩ hself2
      have hct := fb_ct_le (fun k => hg A row k && decide (rk A row k < rk A row q)) j
      show wp (b_X12_order_67 Fu self self2 (nI i) (nI q) _ (nI j) I1) _
      unfold b_X12_order_67
      refine wp_i (by rw [h1.1, q_le (by omega) (by omega)]) (fun hle => ?_) (fun hlt2 => ?_)
      · have hje : j = pR A := by omega
        subst hje
        refine wp_i (q_eq (by omega) (by omega)) (fun e => ?_) (fun e => ?_)
        · refine wp_s ?_
          rw [t1, Bool.true_and, decide_eq_true (show bf A row q = i from e), if_pos rfl] at f1
          rw [f1]
        · rw [t1, Bool.true_and, decide_eq_false (show ¬ bf A row q = i from e), if_neg (by simp)] at f1
          exact hself (pR A - (q + 1)) _ (by omega) ⟨q + 1, by rw [q_1], rfl, by omega, f1⟩
      · have hj2 : j < pR A := by omega
        have gq := gv_le (A := A) (row := row) (r := q)
        have gj := gv_le (A := A) (row := row) (r := j)
        simp (disch := omega) only [q_GI, q_cl, h2 q hq2, h2 j hj2, t2, q_1]
        have no : (hg A row j && decide (rk A row j < rk A row q)) = false → wp (self2 (nI i, nI q, nI (fb_ct (fun k => hg A row k && decide (rk A row k < rk A row q)) j) + 0, nI (j + 1), I1)) (fun y => y = (nI (sOr A row i), I1)) := fun e => hself2 (pR A - (j + 1)) _ (by omega) ⟨j + 1, by rw [fb_ct_succ, e, if_neg (by simp), q_p0]; rfl, rfl, by omega⟩
        have yes : (hg A row j && decide (rk A row j < rk A row q)) = true → wp (self2 (nI i, nI q, nI (fb_ct (fun k => hg A row k && decide (rk A row k < rk A row q)) j + 1), nI (j + 1), I1)) (fun y => y = (nI (sOr A row i), I1)) := fun e => hself2 (pR A - (j + 1)) _ (by omega) ⟨j + 1, by rw [fb_ct_succ, e, if_pos rfl], rfl, by omega⟩
        rcases hsr j hj2 with ⟨u1, u2⟩ | ⟨u1, u2⟩
        · rw [u2]
          refine wp_n (gF_m1 gv_le) ?_
          rw [u1, Bool.true_and] at no yes
          refine wp_i (gF_lt gj gq) (fun e => yes (decide_eq_true (by unfold rk; omega))) (fun e => ?_)
          refine wp_i (gF_eq gj gq) (fun e2 => ?_) (fun e2 => no (decide_eq_false (by unfold rk; omega)))
          refine wp_i (q_le (by omega) (by omega)) (fun e3 => no (decide_eq_false (by unfold rk; omega))) (fun e3 => yes (decide_eq_true (by unfold rk; omega)))
        · rw [u2]
          refine wp_p rfl (no ?_)
          rw [u1, Bool.false_and]
    · rw [t2]
      refine wp_p rfl ?_
      rw [t1, Bool.false_and, if_neg (by simp)] at f1
      exact hself (pR A - (q + 1)) _ (by omega) ⟨q + 1, by rw [q_1], rfl, by omega, f1⟩
theorem m_order {Fu : Nat} {I : mIT} {i : Nat} {A : aPl} {row : Nat → Int32} (hF : 701 < Fu) (ho : okPl A) (hk : okR A 999 row) (h : mQ I A row) (hi : i < nB A row) : wp (f_X12_order Fu I (nI i)) (fun y => y.1 = nI (sOr A row i) ∧ mS (mU I 75 0 0) y.2) := by
  have h0 := mQ_0 (v := 0) h
  have hB : nB A row ≤ 6 := fb_ct_le _ 6
  unfold f_X12_order
  refine wp_B (m_bells hF ho hk h0) ?_
  rintro ⟨v, J⟩ ⟨e1, e2, e3⟩
  dsimp only at e1 e2 ⊢
  subst e1
  have hS : mS (mU I 75 0 0) J := fun c j hc => by rw [e2 c (fun e => by subst e; exact nomatch hc)]
  refine wp_n (by rw [q_lt0 (by omega)]; simp) (wp_n (by rw [q_le (by omega) (by omega)]; omega) ?_)
  refine wp_Be (m_right1 (by rw [e2 75 (by decide)]; exact q_U0 I)) (wp_n ne10 ?_)
  refine wp_B (m_laysSoft hF ho hk (mQ_s ho h0 hS)) ?_
  rintro K ⟨u1, u2⟩
  exact wp_e (m_orderL hF ho hk (mQ_s ho (mQ_s ho h0 hS) u1).1 u2 hi) ⟨rfl, mS_t hS u1⟩
theorem m_order0 {Fu : Nat} {I : mIT} {A : aPl} {row : Nat → Int32} {v : Int32} (hF : 701 < Fu) (ho : okPl A) (hk : okR A 999 row) (h : mQ I A row) (hv : v < 0 ∨ nI (nB A row) ≤ v) : wp (f_X12_order Fu I v) (fun y => mS (mU I 75 0 1) y.2) := by
  have h0 := mQ_0 (v := 0) h
  unfold f_X12_order
  refine wp_B (m_bells hF ho hk h0) ?_
  rintro ⟨v1, J⟩ ⟨e1, e2, e3⟩
  dsimp only at e1 e2 ⊢
  subst e1
  have hS : mS (mU I 75 0 1) (mU J 75 0 1) := fun c j hc => by
    by_cases e : c = 75 ∧ j = 0
    · obtain ⟨rfl, rfl⟩ := e
      rw [q_U, q_U]
    · unfold mU
      rw [if_neg e, if_neg e, e2 c (fun e => by subst e; exact nomatch hc)]
      unfold mU
      rw [if_neg e]
  have main : wp (oB (f_X12_right Fu J 0 1) (fun r26 => if r26.1 = 0 then (some (0, r26.2)) else (oB (f_X12_laysSoft Fu r26.2) (fun r35 => w_X12_order_40 Fu Fu v 0 r35)))) (fun y => mS (mU I 75 0 1) y.2) := by
    refine wp_Be (m_right0 (by rw [e2 75 (by decide)]; exact q_U0 I) (by decide)) (wp_p rfl (wp_s hS))
  refine wp_f (fun _ => main) (fun e => wp_p (hv.resolve_left e) main)
