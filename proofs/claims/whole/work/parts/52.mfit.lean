/-! which root for which note: the reference -/
theorem l1024 (a : Nat) : (1024 : Int32) * nI a = nI (1024 * a) := pk_mul 1024 a
def mFc (I : mIT) (A : aPl) (row : Nat → Int32) : Prop := ∀ k r, k < pT A → r < pR A → I 97 (10 * k + r) = nI (fCo A row k r)
def mFt (I : mIT) (A : aPl) (row : Nat → Int32) (i : Nat) : Prop := ∀ k u, i ≤ k → k < pT A → u < 2 ^ pR A → I 98 (1024 * k + u) = nI (fF (fCo A row) (pR A) (pT A) (pT A - k) u)
theorem m_fitOf {Fu : Nat} {I : mIT} {A : aPl} {row : Nat → Int32} {i k u : Nat} (ho : okPl A) (h4 : I 75 4 = nI (pT A)) (h : mFt I A row i) (hi : i ≤ k) (hk : k ≤ pT A) (hu : u < 2 ^ pR A) : f_X12_fitOf Fu I (nI k) (nI u) = some (nI (fF (fCo A row) (pR A) (pT A) (pT A - k) u)) := by
  have h10 := ho.1
  have h8 := ho.2.2.2.1
  have hp2 := p2_le h10
  unfold f_X12_fitOf
  rw [h4]
  by_cases e : k = pT A
  · rw [if_pos (by rw [e]), e, Nat.sub_self]; rfl
  · rw [if_neg (by rw [q_eq (by omega) (by omega)]; exact e), l1024, nI_add, q_GI (by omega) (by omega), q_cl (by omega), h k u hi (by omega) hu]
theorem m_lf61 {Fu : Nat} {I : mIT} {A : aPl} {row : Nat → Int32} (hF : 2000 < Fu) (ho : okPl A) (hm : mPl I A) (hc : mFc I A row) : wp (w_X12_laysFit_61 Fu Fu (dN (pT A)) I) (fun J => mS I J ∧ J 97 = I 97 ∧ mFt J A row 0) := by
  have h10 := ho.1
  have h8 := ho.2.2.2.1
  have hp2 := p2_le h10
  have hp0 : 0 < 2 ^ pR A := Nat.two_pow_pos _
  unfold w_X12_laysFit_61
  refine wp_loop (fun dd (s : Int32 × mIT) => ∃ (i : Nat) (J : mIT), s = (dN i, J) ∧ dd = i ∧ i ≤ pT A ∧ mS I J ∧ J 97 = I 97 ∧ mFt J A row i) _ ?_ Fu (pT A) _ ⟨pT A, I, rfl, rfl, by omega, mS_r I, rfl, fun k u k1 k2 => absurd k2 (by omega)⟩ (by omega)
  rintro dd s self ⟨i, J, rfl, hdd, hi, f1, f2, f3⟩ hself
  show wp (b_X12_laysFit_61 Fu self (dN i) J) _
  unfold b_X12_laysFit_61
  by_cases e0 : i = 0
  · subst e0
    exact wp_p (by decide) (wp_s ⟨f1, f2, f3⟩)
  obtain ⟨m, rfl⟩ : ∃ m, i = m + 1 := ⟨i - 1, by omega⟩
  have hd : dN (m + 1) = nI m := by unfold dN; rw [if_neg (by omega)]; rfl
  rw [hd]
  refine wp_n (by rw [q_lt0 (by omega)]; simp) ?_
  unfold w_X12_laysFit_67
  refine wp_loop (fun dd (s : Int32 × Int32 × mIT) => ∃ (u : Nat) (K : mIT), s = (nI m, nI u, K) ∧ dd = 2 ^ pR A - u ∧ u ≤ 2 ^ pR A ∧ mS I K ∧ K 97 = I 97 ∧ mFt K A row (m + 1) ∧ ∀ w, w < u → K 98 (1024 * m + w) = nI (fF (fCo A row) (pR A) (pT A) (pT A - m) w)) _ ?_ Fu (2 ^ pR A) _ ⟨0, J, rfl, by omega, by omega, f1, f2, f3, fun w hw => absurd hw (by omega)⟩ (by omega)
  rintro du s selfu ⟨u, K, rfl, hdu, hu, g1, g2, g3, g4⟩ hselfu
  show wp (b_X12_laysFit_67 Fu self selfu (nI m) (nI u) K) _
  unfold b_X12_laysFit_67
  have hK := mPl_s hm g1
  rw [hK.1, b1_nI (pR A) (by omega)]
  refine wp_i (by rw [q_le (by omega) (by omega)]) (fun e => ?_) (fun e => ?_)
  · rw [dN_s]
    refine hself m _ (by omega) ⟨m, K, rfl, rfl, by omega, g1, g2, fun k w k1 k2 k3 => ?_⟩
    by_cases e2 : k = m
    · subst e2; exact g4 w (by omega)
    · exact g3 k w (by omega) k2 k3
  have hu2 : u < 2 ^ pR A := by omega
  unfold w_X12_laysFit_84
  refine wp_loop (fun dd (s : Int32 × Int32 × Int32 × Int32 × mIT) => ∃ r, s = (nI m, nI u, nI (mnF (fG (fCo A row) (pR A) (pT A) (pT A - (m + 1)) u) r), nI r, K) ∧ dd = pR A - r ∧ r ≤ pR A) _ ?_ Fu (pR A) _ ⟨0, rfl, rfl, by omega⟩ (by omega)
  rintro dr s selfr ⟨r, rfl, hdr, hr⟩ hselfr
  show wp (b_X12_laysFit_84 Fu self selfu selfr (nI m) (nI u) (nI _) (nI r) K) _
  unfold b_X12_laysFit_84
  have hml := mnF_le (fG (fCo A row) (pR A) (pT A) (pT A - (m + 1)) u) r
  have hgl := fG_le (R := pR A) (T := pT A) (rem := pT A - (m + 1)) (u := u) (r := r) (fCo_b (A := A) (row := row)) (by omega)
  rw [hK.1, show (9999 : Int32) = nI 9999 from rfl]
  refine wp_i (by rw [q_le (by omega) (by omega)]) (fun e2 => ?_) (fun e2 => ?_)
  · rw [l1024, nI_add, q_GI (by omega) (by omega), q_cl (by omega), q_1]
    have er : r = pR A := by omega
    subst er
    refine hselfu (2 ^ pR A - (u + 1)) _ (by omega) ⟨u + 1, _, rfl, rfl, by omega, mS_u g1 rfl, by rw [mU_other (by decide)]; exact g2, fun k w k1 k2 k3 => by rw [q_Uj (by omega)]; exact g3 k w k1 k2 k3, fun w hw => ?_⟩
    by_cases e3 : w = u
    · subst e3
      rw [q_U, show pT A - m = (pT A - (m + 1)) + 1 by omega, fF_s]
    · rw [q_Uj (by omega)]; exact g4 w (by omega)
  have hr2 : r < pR A := by omega
  rw [q_1]
  refine wp_i (by rw [b_at1 (by omega), b_nI (by omega)]) (fun e3 => ?_) (fun e3 => ?_)
  · have hg : fG (fCo A row) (pR A) (pT A) (pT A - (m + 1)) u r = 9999 := by unfold fG; rw [if_pos e3]
    refine wp_p (by rw [q_le (by omega) (by omega)]; exact hml) (hselfr (pR A - (r + 1)) _ (by omega) ⟨r + 1, ?_, rfl, by omega⟩)
    rw [mnF, hg, Nat.min_eq_left hml]
  · have hg : fG (fCo A row) (pR A) (pT A) (pT A - (m + 1)) u r = fCo A row m r + fF (fCo A row) (pR A) (pT A) (pT A - (m + 1)) (u ||| 2 ^ r) := by
      unfold fG
      rw [if_neg e3, show pT A - (pT A - (m + 1) + 1) = m by omega]
    rw [ml_10, nI_add, q_GI (by omega) (by omega), q_cl (by omega), q_1 m, or_nI (by omega)]
    refine wp_Be (m_fitOf ho hK.2.2.2.1 g3 (by omega) (by omega) (or_lt hu2 hr2)) ?_
    rw [g2, hc m r (by omega) hr2, nI_add, ← hg]
    refine wp_i (by rw [q_le (by omega) (by omega)]) (fun e4 => ?_) (fun e4 => ?_)
    · refine hselfr (pR A - (r + 1)) _ (by omega) ⟨r + 1, ?_, rfl, by omega⟩
      rw [mnF, Nat.min_eq_left e4]
    · refine hselfr (pR A - (r + 1)) _ (by omega) ⟨r + 1, ?_, rfl, by omega⟩
      rw [mnF, Nat.min_eq_right (by omega)]
theorem m_laysFit {Fu : Nat} {I : mIT} {A : aPl} {row : Nat → Int32} (hF : 2000 < Fu) (ho : okPl A) (hk : okR A 999 row) (h : mQ I A row) : wp (f_X12_laysFit Fu I) (fun J => mS I J ∧ mFc J A row ∧ mFt J A row 0) := by
  have h10 := ho.1
  have h8 := ho.2.2.2.1
  unfold f_X12_laysFit w_X12_laysFit_2
  refine wp_loop (fun dd (s : Int32 × mIT) => ∃ (k : Nat) (J : mIT), s = (nI k, J) ∧ dd = pT A - k ∧ k ≤ pT A ∧ mS I J ∧ ∀ k' r, k' < k → r < pR A → J 97 (10 * k' + r) = nI (fCo A row k' r)) _ ?_ Fu (pT A) _ ⟨0, I, rfl, rfl, by omega, mS_r I, fun k' r k1 => absurd k1 (by omega)⟩ (by omega)
  rintro dd s self ⟨k, J, rfl, hdd, hkT, f1, f2⟩ hself
  show wp (b_X12_laysFit_2 Fu self (nI k) J) _
  unfold b_X12_laysFit_2
  have hJ := mQ_s ho h f1
  rw [hJ.1.2.2.2.1]
  refine wp_i (by rw [q_le (by omega) (by omega)]) (fun e => ?_) (fun e => ?_)
  · have ed : nI (pT A) - 1 = dN (pT A) := by
      rw [← dN_s]
      exact Int32.sub_eq_add_neg _ _
    rw [ed]
    have hc : mFc J A row := fun k' r k1 k2 => f2 k' r (by omega) k2
    refine wp_m (m_lf61 hF ho hJ.1 hc) ?_
    rintro K ⟨k1, k2, k3⟩
    exact ⟨mS_t f1 k1, fun k' r a b => by rw [k2]; exact hc k' r a b, k3⟩
  unfold w_X12_laysFit_12
  refine wp_loop (fun dd (s : Int32 × Int32 × mIT) => ∃ (r : Nat) (K : mIT), s = (nI k, nI r, K) ∧ dd = pR A - r ∧ r ≤ pR A ∧ mS I K ∧ (∀ k' r, k' < k → r < pR A → K 97 (10 * k' + r) = nI (fCo A row k' r)) ∧ ∀ r', r' < r → K 97 (10 * k + r') = nI (fCo A row k r')) _ ?_ Fu (pR A) _ ⟨0, J, rfl, rfl, by omega, f1, f2, fun r' hr => absurd hr (by omega)⟩ (by omega)
  rintro dr s selfr ⟨r, K, rfl, hdr, hr, g1, g2, g3⟩ hselfr
  show wp (b_X12_laysFit_12 Fu self selfr (nI k) (nI r) K) _
  unfold b_X12_laysFit_12
  have hK := mQ_s ho h g1
  rw [hK.1.1]
  refine wp_i (by rw [q_le (by omega) (by omega)]) (fun e2 => ?_) (fun e2 => ?_)
  · rw [q_1]
    refine hself (pT A - (k + 1)) _ (by omega) ⟨k + 1, K, rfl, rfl, by omega, g1, fun k' r' k1 k2 => ?_⟩
    by_cases e3 : k' = k
    · subst e3; exact g3 r' (by omega)
    · exact g2 k' r' (by omega) k2
  · rw [q_GI (by omega) (by omega), q_cl (by omega), hK.1.2.2.2.2.2.2.2.1 k (by omega)]
    obtain ⟨t, ht, hte⟩ := ho.2.2.2.2.2.2.1 k (by omega)
    have hfc : fCo A row k r = sCs A row r t := by unfold fCo; rw [hte, q_cl (by omega)]
    rw [hte]
    refine wp_B (m_costOf (by omega) ho hk hK (by omega)) ?_
    rintro ⟨v, M⟩ ⟨u1, u2, u3⟩
    dsimp only at u1 u2 u3 ⊢
    subst u1
    rw [ml_10, nI_add, q_GI (by omega) (by omega), q_cl (by omega), q_1]
    refine hselfr (pR A - (r + 1)) _ (by omega) ⟨r + 1, _, rfl, rfl, by omega, mS_u (mS_t g1 u2) rfl, fun k' r' k1 k2 => by rw [q_Uj (by omega), u3]; exact g2 k' r' k1 k2, fun r' hr' => ?_⟩
    by_cases e3 : r' = r
    · subst e3; rw [q_U, hfc]
    · rw [q_Uj (by omega), u3]; exact g3 r' (by omega)
theorem m_fit69 {Fu : Nat} {I : mIT} {A : aPl} {row : Nat → Int32} {k : Nat} (hF : 2000 < Fu) (ho : okPl A) (hm : mPl I A) (hc : mFc I A row) (ht : mFt I A row 0) (hk : k < pT A) (h0 : fF (fCo A row) (pR A) (pT A) (pT A) 0 < 9999) : w_X12_fit_69 Fu Fu (nI k) 0 (-1) 0 I = some (nI (fB (fCo A row) (pR A) (pT A) k (fU (fCo A row) (pR A) (pT A) k)), I) := by
  have h10 := ho.1
  have h8 := ho.2.2.2.1
  have hp2 := p2_le h10
  have hU := fU_p fCo_b h8 h10 h0
  apply wp_q
  unfold w_X12_fit_69
  refine wp_loop (fun dd (s : Int32 × Int32 × Int32 × Int32 × mIT) => ∃ (i : Nat) (x : Int32), s = (nI k, nI (fU (fCo A row) (pR A) (pT A) i), x, nI i, I) ∧ dd = k + 1 - i ∧ i ≤ k + 1 ∧ (i = k + 1 → x = nI (fB (fCo A row) (pR A) (pT A) k (fU (fCo A row) (pR A) (pT A) k)))) _ ?_ Fu (k + 1) _ ⟨0, -1, rfl, rfl, by omega, fun q => absurd q (by omega)⟩ (by omega)
  rintro dd s self ⟨i, x, rfl, hdd, hi, f1⟩ hself
  show wp (b_X12_fit_69 Fu self (nI k) (nI _) x (nI i) I) _
  unfold b_X12_fit_69
  refine wp_i (by rw [q_lt (by omega) (by omega)]) (fun e => ?_) (fun e => ?_)
  · exact wp_s (by rw [f1 (by omega)])
  obtain ⟨a, b, d⟩ := hU i (by omega)
  obtain ⟨q1, q2, q3, q4, q5⟩ := fB_p fCo_b h8 (show i < pT A by omega) b d
  have ed : nI (pR A) - 1 = dN (pR A) := by
    rw [← dN_s]
    exact Int32.sub_eq_add_neg _ _
  rw [hm.1, ed]
  generalize hu : fU (fCo A row) (pR A) (pT A) i = u at *
  have hfb : fB (fCo A row) (pR A) (pT A) i u = sFk (fun r => decide (fG (fCo A row) (pR A) (pT A) (pT A - (i + 1)) u r = fF (fCo A row) (pR A) (pT A) (pT A - i) u)) 0 (pR A) := rfl
  unfold w_X12_fit_86
  refine wp_loop (fun dd (s : Int32 × Int32 × Int32 × Int32 × Int32 × mIT) => ∃ r, s = (nI k, nI u, kN (sFk (fun r => decide (fG (fCo A row) (pR A) (pT A) (pT A - (i + 1)) u r = fF (fCo A row) (pR A) (pT A) (pT A - i) u)) r (pR A - r)), nI i, dN r, I) ∧ dd = r ∧ r ≤ pR A) _ ?_ Fu (pR A) _ ⟨pR A, by rw [Nat.sub_self]; rfl, rfl, by omega⟩ (by omega)
  rintro dr s selfr ⟨r, rfl, hdr, hr⟩ hselfr
  show wp (b_X12_fit_86 Fu self selfr (nI k) (nI u) _ (nI i) (dN r) I) _
  unfold b_X12_fit_86
  by_cases e0 : r = 0
  · subst e0
    refine wp_p (by decide) ?_
    rw [Nat.sub_zero, ← hfb]
    have ek : kN (fB (fCo A row) (pR A) (pT A) i u) = nI (fB (fCo A row) (pR A) (pT A) i u) := by
      unfold kN
      rw [if_neg (by omega)]
    rw [ek, or_nI (by omega), q_1]
    refine hself (k + 1 - (i + 1)) _ (by omega) ⟨i + 1, _, by rw [fU, hu], rfl, by omega, fun q => ?_⟩
    rw [← show i = k by omega, hu]
  obtain ⟨m, rfl⟩ : ∃ m, r = m + 1 := ⟨r - 1, by omega⟩
  have hd : dN (m + 1) = nI m := by unfold dN; rw [if_neg (by omega)]; rfl
  rw [hd]
  have hs : ∀ P : Nat → Bool, sFk P m (pR A - m) = if P m then m else sFk P (m + 1) (pR A - (m + 1)) := fun P => by
    rw [show pR A - m = (pR A - (m + 1)) + 1 by omega, sFk_s]
  refine wp_n (by rw [q_lt0 (by omega)]; simp) ?_
  rw [dN_s]
  refine wp_i (by rw [b_at0 (by omega), b_nI (by omega)]) (fun e => ?_) (fun e => ?_)
  · rw [ml_10, nI_add, q_GI (by omega) (by omega), q_cl (by omega), q_1, or_nI (by omega)]
    refine wp_Be (m_fitOf ho hm.2.2.2.1 ht (by omega) (by omega) (or_lt b (by omega))) (wp_Be (m_fitOf ho hm.2.2.2.1 ht (by omega) (by omega) b) ?_)
    have hg : fG (fCo A row) (pR A) (pT A) (pT A - (i + 1)) u m = fCo A row i m + fF (fCo A row) (pR A) (pT A) (pT A - (i + 1)) (u ||| 2 ^ m) := by
      unfold fG
      rw [if_neg (by rw [e]; exact Bool.false_ne_true), show pT A - (pT A - (i + 1) + 1) = i by omega]
    have hgl := fG_le (R := pR A) (T := pT A) (rem := pT A - (i + 1)) (u := u) (r := m) (fCo_b (A := A) (row := row)) (by omega)
    rw [hc i m (by omega) (by omega), nI_add, ← hg]
    refine wp_i (by rw [q_eq (by omega) (by omega)]) (fun e2 => ?_) (fun e2 => ?_)
    · refine hselfr m _ (by omega) ⟨m, ?_, rfl, by omega⟩
      rw [hs, decide_eq_true e2, if_pos rfl]
      unfold kN
      rw [if_neg (by omega)]
    · refine hselfr m _ (by omega) ⟨m, ?_, rfl, by omega⟩
      rw [hs, decide_eq_false e2, if_neg Bool.false_ne_true]
  · have hg : fG (fCo A row) (pR A) (pT A) (pT A - (i + 1)) u m = 9999 := by
      unfold fG
      rw [if_pos (by cases h : u.testBit m; exact absurd h e; rfl)]
    refine hselfr m _ (by omega) ⟨m, ?_, rfl, by omega⟩
    rw [hs, decide_eq_false (by omega), if_neg Bool.false_ne_true]
theorem m_fit {Fu : Nat} {I : mIT} {A : aPl} {row : Nat → Int32} {k : Nat} (hF : 2000 < Fu) (ho : okPl A) (hk : okR A 999 row) (h : mQ I A row) (hk1 : k < pT A) : wp (f_X12_fit Fu I (nI k)) (fun y => y.1 = fA A row k ∧ mS (mU I 75 0 0) y.2) := by
  have h8 := ho.2.2.2.1
  have h0 := mQ_0 (v := 0) h
  unfold f_X12_fit
  rw [h0.1.2.2.2.1]
  refine wp_n (nI_nlt1 (by omega)) (wp_n (by rw [q_le (by omega) (by omega)]; omega) ?_)
  unfold b_X12_fit_24
  refine wp_Be (m_right1 (q_U0 I)) (wp_n ne10 (wp_B (m_laysFit hF ho hk h0) ?_))
  rintro J ⟨j1, j2, j3⟩
  have hJ := mQ_s ho h0 j1
  have hb := fF_b (R := pR A) (T := pT A) (fCo_b (A := A) (row := row)) (pT A) 0
  refine wp_Be (m_fitOf (k := 0) (u := 0) ho hJ.1.2.2.2.1 j3 (by omega) (by omega) (Nat.two_pow_pos _)) ?_
  rw [Nat.sub_zero, show (9999 : Int32) = nI 9999 from rfl]
  unfold fA
  refine wp_i (by rw [q_lt (by omega) (by omega)]) (fun e => ?_) (fun e => ?_)
  · rw [if_pos e]
    exact wp_n (nI_nem1 (by omega)) (wp_e (m_fit69 hF ho hJ.1 j2 j3 hk1 e) ⟨rfl, j1⟩)
  · rw [if_neg e]
    exact wp_s ⟨rfl, j1⟩
theorem m_fitm {Fu : Nat} {I : mIT} {A : aPl} {row : Nat → Int32} (hF : 2000 < Fu) (ho : okPl A) (hk : okR A 999 row) (h : mQ I A row) : wp (f_X12_fit Fu I (-1)) (fun y => y.1 = fA0 A row ∧ mS (mU I 75 0 0) y.2) := by
  have h8 := ho.2.2.2.1
  have h0 := mQ_0 (v := 0) h
  unfold f_X12_fit
  rw [h0.1.2.2.2.1]
  refine wp_n (by decide) (wp_n (Int32.not_le.mpr (m1_lt (by omega))) ?_)
  unfold b_X12_fit_24
  refine wp_Be (m_right1 (q_U0 I)) (wp_n ne10 (wp_B (m_laysFit hF ho hk h0) ?_))
  rintro J ⟨j1, j2, j3⟩
  have hJ := mQ_s ho h0 j1
  have hb := fF_b (R := pR A) (T := pT A) (fCo_b (A := A) (row := row)) (pT A) 0
  refine wp_Be (m_fitOf (k := 0) (u := 0) ho hJ.1.2.2.2.1 j3 (by omega) (by omega) (Nat.two_pow_pos _)) ?_
  rw [Nat.sub_zero, show (9999 : Int32) = nI 9999 from rfl]
  unfold fA0
  refine wp_i (by rw [q_lt (by omega) (by omega)]) (fun e => ?_) (fun e => ?_)
  · rw [if_pos e]
    exact wp_p rfl (wp_s ⟨rfl, j1⟩)
  · rw [if_neg e]
    exact wp_s ⟨rfl, j1⟩
theorem m_fit0 {Fu : Nat} {I : mIT} {A : aPl} {row : Nat → Int32} {v : Int32} (h : mQ I A row) (hv : v < -1 ∨ nI (pT A) ≤ v) : f_X12_fit Fu I v = some (0, mU I 75 0 1) := by
  have h0 := mQ_0 (v := 0) h
  unfold f_X12_fit b_X12_fit_23 b_X12_fit_24
  rw [m_right0 (q_U0 I) (by decide), q_B, if_pos rfl, mU_mU]
  by_cases e : v < -1
  · rw [if_pos e]
  · rw [if_neg e, h0.1.2.2.2.1, if_pos (hv.resolve_left e)]
