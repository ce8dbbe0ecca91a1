/-! the class reads a token -/
theorem scan_all {q : Nat → Bool} {n : Nat} : ∀ k s, n - s = k → ∀ j, s ≤ j → j < scan q n s → q j = true
  | 0, s, h => fun j h1 h2 => by rw [scan_e (by omega)] at h2; omega
  | k + 1, s, h => fun j h1 h2 => by
    rw [scan_s (by omega)] at h2
    by_cases e : q s = true
    · rw [if_pos e] at h2
      by_cases e2 : j = s
      · rw [e2]; exact e
      · exact scan_all k (s + 1) (by omega) j (by omega) h2
    · rw [if_neg e] at h2; omega
theorem nm_lt {B : Nat → Nat} {a : Nat} : ∀ k, (∀ j, j < k → bD (B (a + j)) = true) → nm B a k < 10 ^ k
  | 0, _ => by show 0 < 1; omega
  | k + 1, h => by
    have h1 := nm_lt k (fun j hj => h j (by omega))
    have h2 := h k (by omega)
    unfold bD at h2
    rw [Bool.and_eq_true, decide_eq_true_iff, decide_eq_true_iff] at h2
    rw [nm, Nat.pow_succ]
    omega
def onlyR (I J : mIT) : Prop := (∀ j, j ≠ 3 → J 1 j = I 1 j) ∧ ∀ c, c ≠ 1 → J c = I c
theorem c_lets {Fu : Nat} {I : mIT} {B : Nat → Nat} {n i0 : Nat} (hF : 2200 < Fu) (ht : tpe B n) (h : cTp I B n) (h3 : I 1 3 = nI i0) (hi0 : i0 ≤ n) : wp (w_X6_step_92 Fu Fu I) (fun J => J 1 3 = nI (scan (fun j => bL (B j)) n i0) ∧ onlyR I J) := by
  have h7 := ht.1
  unfold w_X6_step_92
  refine wp_loop (fun dd (J : mIT) => ∃ i, dd = n - i ∧ i ≤ n ∧ J 1 3 = nI i ∧ scan (fun j => bL (B j)) n i = scan (fun j => bL (B j)) n i0 ∧ onlyR I J) _ ?_ Fu (n - i0) _ ⟨i0, rfl, hi0, h3, rfl, fun _ _ => rfl, fun _ _ => rfl⟩ (by omega)
  rintro dd J self ⟨i, hdd, hi, f3, f4, f5⟩ hself
  show wp (b_X6_step_92 Fu self J) _
  unfold b_X6_step_92
  have hJ : cTp J B n := ⟨by rw [f5.1 2 (by decide)]; exact h.1, fun j hj => by rw [f5.2 2 (by decide)]; exact h.2 j hj⟩
  rw [f3, hJ.1]
  refine wp_i (by rw [q_le (by omega) (by omega)]) (fun e => ?_) (fun e => ?_)
  · refine wp_s ⟨?_, f5⟩
    rw [f3, ← f4, scan_e (by omega)]
  · refine wp_Be (c_byteAt ht hJ hi) (wp_Be (c_isL (tB_lt ht)) ?_)
    rw [tB_at (by omega)]
    by_cases e2 : bL (B i) = true
    · rw [if_pos e2, q_1]
      refine wp_n (by decide) (hself (n - (i + 1)) _ (by omega) ⟨i + 1, rfl, by omega, q_U _ _ _ _, ?_, fun j hj => by rw [q_Uj hj]; exact f5.1 j hj, fun c hc => by rw [mU_other hc]; exact f5.2 c hc⟩)
      rw [← f4, scan_s (by omega : i < n), if_pos e2]
    · rw [if_neg e2]
      refine wp_p rfl (wp_s ⟨?_, f5⟩)
      rw [f3, ← f4, scan_s (by omega : i < n), if_neg e2]
theorem c_digs {Fu : Nat} {I : mIT} {B : Nat → Nat} {n a : Nat} (hF : 2200 < Fu) (ht : tpe B n) (h : cTp I B n) (h3 : I 1 3 = nI a) (ha : a ≤ n) : wp (f_X6_stepNumber Fu I) (fun J => J 1 3 = nI (scan (fun j => bD (B j)) n a) ∧ J 1 7 = nI (scan (fun j => bD (B j)) n a - a) ∧ J 1 8 = nI (nm B a (min 4 (scan (fun j => bD (B j)) n a - a))) ∧ (∀ j, j ≠ 3 → j ≠ 7 → j ≠ 8 → J 1 j = I 1 j) ∧ ∀ c, c ≠ 1 → J c = I c) := by
  have h7 := ht.1
  unfold f_X6_stepNumber w_X6_stepNumber_10
  refine wp_loop (fun dd (J : mIT) => ∃ i, dd = n - i ∧ a ≤ i ∧ i ≤ n ∧ J 1 3 = nI i ∧ J 1 7 = nI (i - a) ∧ J 1 8 = nI (nm B a (min 4 (i - a))) ∧ scan (fun j => bD (B j)) n i = scan (fun j => bD (B j)) n a ∧ (∀ j, j ≠ 3 → j ≠ 7 → j ≠ 8 → J 1 j = I 1 j) ∧ ∀ c, c ≠ 1 → J c = I c) _ ?_ Fu (n - a) _ ⟨a, rfl, Nat.le_refl _, ha, by rw [q_Uj (by decide), q_Uj (by decide)]; exact h3, by rw [q_U, Nat.sub_self]; rfl, by rw [q_Uj (by decide), q_U, Nat.sub_self]; rfl, rfl, fun j j1 j2 j3 => by rw [q_Uj j2, q_Uj j3], fun c hc => by rw [mU_other hc, mU_other hc]⟩ (by omega)
  rintro dd J self ⟨i, hdd, hai, hi, f3, f7, f8, f4, f5, f6⟩ hself
  show wp (b_X6_stepNumber_10 Fu self J) _
  unfold b_X6_stepNumber_10
  have hJ : cTp J B n := ⟨by rw [f5 2 (by decide) (by decide) (by decide)]; exact h.1, fun j hj => by rw [f6 2 (by decide)]; exact h.2 j hj⟩
  rw [f3, hJ.1]
  refine wp_i (by rw [q_le (by omega) (by omega)]) (fun e => ?_) (fun e => ?_)
  · have ei : scan (fun j => bD (B j)) n a = i := by rw [← f4, scan_e (by omega)]
    exact wp_s ⟨by rw [ei]; exact f3, by rw [ei]; exact f7, by rw [ei]; exact f8, f5, f6⟩
  · refine wp_Be (c_byteAt ht hJ hi) (wp_Be (c_isD (tB_lt ht)) ?_)
    rw [tB_at (by omega)]
    by_cases e2 : bD (B i) = true
    · rw [if_pos e2]
      refine wp_n (by decide) ?_
      have hs : scan (fun j => bD (B j)) n (i + 1) = scan (fun j => bD (B j)) n a := by
        rw [← f4, scan_s (by omega : i < n), if_pos e2]
      have hb : 48 ≤ B i := by
        unfold bD at e2
        rw [Bool.and_eq_true, decide_eq_true_iff] at e2
        exact e2.1
      rw [f7, q_1, q_U, show (4 : Int32) = nI 4 from rfl]
      generalize hJ1 : mU J 1 7 (nI (i - a + 1)) = J1
      have g7 : J1 1 7 = nI (i - a + 1) := by rw [← hJ1, q_U]
      have g : ∀ j, j ≠ 7 → J1 1 j = J 1 j := fun j hj => by rw [← hJ1, q_Uj hj]
      have gc : ∀ c, c ≠ 1 → J1 c = J c := fun c hc => by rw [← hJ1, mU_other hc]
      have hJ1t : cTp J1 B n := ⟨by rw [g 2 (by decide)]; exact hJ.1, fun j hj => by rw [gc 2 (by decide)]; exact hJ.2 j hj⟩
      refine wp_i (by rw [q_lt (by omega) (by omega)]) (fun e3 => ?_) (fun e3 => ?_)
      · rw [q_Uj (by decide), g 3 (by decide), f3, q_1]
        refine hself (n - (i + 1)) _ (by omega) ⟨i + 1, rfl, by omega, by omega, q_U _ _ _ _, by rw [q_Uj (by decide), q_Uj (by decide), g7]; congr 1; omega, ?_, hs, fun j j1 j2 j3 => by rw [q_Uj j1, q_Uj j3, g j j2]; exact f5 j j1 j2 j3, fun c hc => by rw [mU_other hc, mU_other hc, gc c hc]; exact f6 c hc⟩
        rw [q_Uj (by decide), q_U, g 8 (by decide), f8]
        congr 2
        omega
      · rw [g 3 (by decide), f3]
        refine wp_Be (c_byteAt ht hJ1t hi) ?_
        rw [tB_at (by omega), g 8 (by decide), f8, ml_10, nI_add, show nI (10 * nm B a (min 4 (i - a)) + B i) - (48 : Int32) = nI (10 * nm B a (min 4 (i - a)) + B i - 48) from pk_sub (b := 48) (by omega), q_Uj (by decide), g 3 (by decide), f3, q_1]
        refine hself (n - (i + 1)) _ (by omega) ⟨i + 1, rfl, by omega, by omega, q_U _ _ _ _, by rw [q_Uj (by decide), q_Uj (by decide), g7]; congr 1; omega, ?_, hs, fun j j1 j2 j3 => by rw [q_Uj j1, q_Uj j3, g j j2]; exact f5 j j1 j2 j3, fun c hc => by rw [mU_other hc, mU_other hc, gc c hc]; exact f6 c hc⟩
        rw [q_Uj (by decide), q_U]
        congr 1
        rw [show min 4 (i + 1 - a) = min 4 (i - a) + 1 by omega, nm, show a + min 4 (i - a) = i by omega]
        omega
    · rw [if_neg e2]
      have ei : scan (fun j => bD (B j)) n a = i := by rw [← f4, scan_s (by omega : i < n), if_neg e2]
      exact wp_p rfl (wp_s ⟨by rw [ei]; exact f3, by rw [ei]; exact f7, by rw [ei]; exact f8, f5, f6⟩)
theorem c_step38 {Fu : Nat} {I : mIT} {B : Nat → Nat} {n a : Nat} (hF : 2200 < Fu) (ht : tpe B n) (h : cTp I B n) (h3 : I 1 3 = nI a) (ha : a ≤ n) : wp (b_X6_step_38 Fu I) (fun J => cTk J B n a ∧ cTf I J) := by
  have h7 := ht.1
  unfold b_X6_step_38
  rw [q_Uj (show (3 : Nat) ≠ 5 by decide), h3]
  generalize hI1 : mU I 1 5 (nI a) = I1
  have f1 : cTf I I1 := by rw [← hI1]; exact cTf_u (cTf_r I) (by omega)
  refine wp_Be (c_byteAt ht (cTp_f h f1) ha) ?_
  have hb := tB_lt (v := a) ht
  generalize hI2 : mU I1 1 6 (nI (tB B n a)) = I2
  have f2 : cTf I I2 := by rw [← hI2]; exact cTf_u f1 (by omega)
  have e3 : I2 1 3 = nI a := by rw [← hI2, q_Uj (by decide), ← hI1, q_Uj (by decide)]; exact h3
  have e5 : I2 1 5 = nI a := by rw [← hI2, q_Uj (by decide), ← hI1, q_U]
  have e6 : I2 1 6 = nI (tB B n a) := by rw [← hI2, q_U]
  have e2 : I2 1 2 = nI n := (cTp_f h f2).1
  rw [e3, e2, e6]
  refine wp_i (by rw [q_lt (by omega) (by omega)]) (fun q => ?_) (fun q => ?_)
  · have eb : tB B n a = B a := tB_at q
    have hB := ht.2 a q
    refine wp_Be (c_isL hb) ?_
    rw [eb]
    by_cases c1 : bL (B a) = true
    · rw [if_pos c1]
      refine wp_n (by decide) ?_
      have f4 : cTf I (mU I2 1 4 1) := cTf_u f2 (by omega)
      refine wp_m (c_lets hF ht (cTp_f h f4) (by rw [q_Uj (by decide)]; exact e3) ha) ?_
      rintro J ⟨j1, j2⟩
      have hE : tE B n a = scan (fun j => bL (B j)) n a := by unfold tE; rw [if_pos q, if_pos c1]
      have hK : tK B n a = 1 := by unfold tK; rw [if_pos q, if_pos c1]
      have fJ : cTf I J := cTf_t f4 ⟨fun j hj => j2.1 j (by omega), j2.2⟩
      exact ⟨⟨cTp_f h fJ, ha, by rw [hE]; exact j1, by rw [hK, j2.1 4 (by decide), q_U]; rfl, by rw [j2.1 5 (by decide), q_Uj (by decide)]; exact e5, by rw [j2.1 6 (by decide), q_Uj (by decide)]; exact e6, fun k => by rw [hK] at k; omega⟩, fJ⟩
    rw [if_neg c1]
    refine wp_p rfl (wp_Be (c_isD hB) ?_)
    by_cases c2 : bD (B a) = true
    · rw [if_pos c2]
      refine wp_n (by decide) ?_
      have f4 : cTf I (mU I2 1 4 2) := cTf_u f2 (by omega)
      refine wp_B (c_digs hF ht (cTp_f h f4) (by rw [q_Uj (by decide)]; exact e3) ha) ?_
      rintro J ⟨j1, j7, j8, j2, j5⟩
      have hE : tE B n a = scan (fun j => bD (B j)) n a := by unfold tE; rw [if_pos q, if_neg c1, if_pos c2]
      have hK : tK B n a = 2 := by unfold tK; rw [if_pos q, if_neg c1, if_pos c2]
      have fJ : cTf I J := cTf_t f4 ⟨fun j hj => j2 j (by omega) (by omega) (by omega), j5⟩
      exact wp_s ⟨⟨cTp_f h fJ, ha, by rw [hE]; exact j1, by rw [hK, j2 4 (by decide) (by decide) (by decide), q_U]; rfl, by rw [j2 5 (by decide) (by decide) (by decide), q_Uj (by decide)]; exact e5, by rw [j2 6 (by decide) (by decide) (by decide), q_Uj (by decide)]; exact e6, fun _ => by unfold tN; rw [hE]; exact ⟨j7, j8⟩⟩, fJ⟩
    rw [if_neg c2]
    refine wp_p rfl ?_
    unfold f_X6_isSign
    rw [c_isSg (B a) hB]
    have hE : tE B n a = a + 1 := by unfold tE; rw [if_pos q, if_neg c1, if_neg c2]
    have fin : ∀ (v : Int32) (kk : Nat), v = nI kk → tK B n a = kk → kk ≠ 2 → wp (some (mU (mU I2 1 4 v) 1 3 ((mU I2 1 4 v) 1 3 + 1))) (fun J => cTk J B n a ∧ cTf I J) := fun v kk hv hk hk2 => by
      rw [q_Uj (show (3 : Nat) ≠ 4 by decide), e3, q_1]
      have fJ : cTf I (mU (mU I2 1 4 v) 1 3 (nI (a + 1))) := cTf_u (cTf_u f2 (by omega)) (by omega)
      exact wp_s ⟨⟨cTp_f h fJ, ha, by rw [q_U, hE], by rw [hk, ← hv, q_Uj (by decide), q_U], by rw [q_Uj (by decide), q_Uj (by decide)]; exact e5, by rw [q_Uj (by decide), q_Uj (by decide)]; exact e6, fun k => by omega⟩, fJ⟩
    by_cases c3 : bS (B a) = true
    · rw [if_pos c3]
      refine wp_Be rfl (wp_n (by decide) (fin 3 3 rfl ?_ (by omega)))
      unfold tK
      rw [if_pos q, if_neg c1, if_neg c2, if_pos c3]
    · rw [if_neg c3]
      refine wp_Be rfl (wp_p rfl (fin 4 4 rfl ?_ (by omega)))
      unfold tK
      rw [if_pos q, if_neg c1, if_neg c2, if_neg c3]
  · have hE : tE B n a = a := if_neg q
    have hK : tK B n a = 0 := if_neg q
    have fJ : cTf I (mU I2 1 4 0) := cTf_u f2 (by omega)
    exact wp_s ⟨⟨cTp_f h fJ, ha, by rw [hE, q_Uj (by decide)]; exact e3, by rw [hK, q_U]; rfl, by rw [q_Uj (by decide)]; exact e5, by rw [q_Uj (by decide)]; exact e6, fun k => by omega⟩, fJ⟩
theorem tA_n {B : Nat → Nat} {n s : Nat} (hs : s ≤ n) : tA B n s ≤ n ∧ s ≤ tA B n s := ⟨(scan_le _ _ rfl).2 hs, (scan_le _ _ rfl).1⟩
theorem c_step {Fu : Nat} {I : mIT} {B : Nat → Nat} {n s : Nat} (hF : 2200 < Fu) (ht : tpe B n) (h : cTp I B n) (h3 : I 1 3 = nI s) (hs : s ≤ n) : wp (f_X6_step Fu I) (fun J => cTk J B n (tA B n s) ∧ cTf I J) := by
  have h7 := ht.1
  unfold f_X6_step w_X6_step_0
  refine wp_loop (fun dd (J : mIT) => ∃ i, dd = n - i ∧ i ≤ n ∧ J 1 3 = nI i ∧ tA B n i = tA B n s ∧ cTf I J) _ ?_ Fu (n - s) _ ⟨s, rfl, hs, h3, rfl, cTf_r I⟩ (by omega)
  rintro dd J self ⟨i, hdd, hi, f3, f4, f5⟩ hself
  show wp (b_X6_step_0 Fu self J) _
  unfold b_X6_step_0
  have hJ := cTp_f h f5
  have fin : tA B n s = i → wp (b_X6_step_38 Fu J) (fun J => cTk J B n (tA B n s) ∧ cTf I J) := fun e => by
    rw [e]
    refine wp_m (c_step38 hF ht hJ f3 hi) ?_
    rintro K ⟨k1, k2⟩
    exact ⟨k1, cTf_t f5 k2⟩
  rw [f3, hJ.1]
  refine wp_i (by rw [q_le (by omega) (by omega)]) (fun e => ?_) (fun e => ?_)
  · exact fin (by rw [← f4]; exact scan_e (by omega))
  · refine wp_Be (c_byteAt ht hJ hi) ?_
    unfold f_X6_isBlank
    rw [c_isW _ (tB_lt ht), tB_at (by omega)]
    by_cases e2 : bW (B i) = true
    · rw [if_pos e2, q_1]
      refine wp_Be rfl (wp_n (by decide) (hself (n - (i + 1)) _ (by omega) ⟨i + 1, rfl, by omega, q_U _ _ _ _, ?_, cTf_u f5 (by omega)⟩))
      rw [← f4]
      unfold tA
      rw [scan_s (by omega : i < n), if_pos e2]
    · rw [if_neg e2]
      refine wp_Be rfl (wp_p rfl (fin ?_))
      rw [← f4]
      unfold tA
      rw [scan_s (by omega : i < n), if_neg e2]
