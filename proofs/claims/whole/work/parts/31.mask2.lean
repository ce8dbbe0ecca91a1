/-! the same, the cells 94 on left alone too -/
theorem m_tries2 {Fu : Nat} {I : mIT} {A : aPl} {row : Nat → Int32} (hF : 701 < Fu) (ho : okPl A) (h : mQ I A row) : wp (f_X12_tries Fu I) (fun J => mS I J ∧ rI A J 89 53 row ∧ J 94 = I 94) := by
  obtain ⟨J, e, h1, h2⟩ := m_tries hF ho h
  obtain ⟨J', e', h3⟩ := m_triesF (Fu := Fu) (I := I) hF
  rw [e'] at e
  cases e
  exact ⟨J, e', h1, h2, h3 94 (by decide)⟩
theorem m_day2 {Fu : Nat} {I : mIT} {D : Nat} {A : aPl} {row0 row : Nat → Int32} (hF : 701 < Fu) (ho : okPl A) (h : mQ I A row0) (hr : rI A I 89 53 row) (hk : okR A D row) (hD : D < 2000) : wp (f_X12_dayGoes Fu I 53) (fun J => mS I J ∧ rI A J 89 53 (sNx A row) ∧ J 94 = I 94) := by
  obtain ⟨d, hd, hdD⟩ := hk.1
  obtain ⟨J, e, h1, h2⟩ := m_day hF ho h hr hk hD
  obtain ⟨J', e', h3, h4, h5⟩ := m_dayGoes (b := 53) (w := sWe A d) hF h.1 ho (by omega) hr hk hd (by omega) (Or.inl ⟨h.2.2, rfl⟩) (sWe_n ho d)
  have e2 : f_X12_dayGoes Fu I 53 = some J' := e'
  rw [e2] at e
  cases e
  exact ⟨J, e2, h1, h2, h4 94 (by decide) (by decide) (by decide)⟩
/-! going soft -/
def sGo (A : aPl) (row : Nat → Int32) (r i k : Nat) : Nat := sFd (fun k => if sDs A row k (21 + r) < pL A then none else some k) 61 i k
theorem sGo_s {A : aPl} {row : Nat → Int32} {r i k : Nat} : sGo A row r i (k + 1) = if sDs A row i (21 + r) < pL A then sGo A row r (i + 1) k else i := by
  unfold sGo
  rw [sFd]
  by_cases e : sDs A row i (21 + r) < pL A
  · rw [if_pos e, if_pos e]
  · rw [if_neg e, if_neg e]
theorem sGo_le {A : aPl} {row : Nat → Int32} {r : Nat} : ∀ k i, i + k ≤ 61 → sGo A row r i k ≤ 61
  | 0, _, _ => Nat.le_refl _
  | k + 1, i, h => by
    rw [sGo_s]
    split
    · exact sGo_le k (i + 1) (by omega)
    · omega
def gv (A : aPl) (row : Nat → Int32) (r : Nat) : Nat := sGo A row r 0 61
theorem gv_le {A : aPl} {row : Nat → Int32} {r : Nat} : gv A row r ≤ 61 := sGo_le 61 0 (by omega)
/-- 9999 for never -/
def gF (n : Nat) : Int32 := if n = 61 then 9999 else nI n
def gN (n : Nat) : Int32 := if n = 61 then -1 else nI n
theorem m_softIn {Fu : Nat} {I : mIT} {r : Nat} {A : aPl} {row : Nat → Int32} (hF : 701 < Fu) (ho : okPl A) (hk : okR A 999 row) (h : mQ I A row) (hr : r < pR A) : wp (f_X12_softIn Fu I (nI r)) (fun y => y.1 = gF (gv A row r) ∧ mS I y.2 ∧ y.2 94 = I 94) := by
  have h10 := ho.1
  unfold f_X12_softIn
  refine wp_B (wp_m (m_tries2 hF ho h) (fun y hy => hy)) ?_
  rintro I1 ⟨h1, h2, h3⟩
  unfold w_X12_softIn_6
  refine wp_loop (fun dd (s : Int32 × Int32 × mIT) => ∃ (i : Nat) (J : mIT), s = (nI r, nI i, J) ∧ dd = 61 - i ∧ i ≤ 61 ∧ mS I J ∧ J 94 = I 94 ∧ rI A J 89 53 (sDs A row i) ∧ gv A row r = sGo A row r i (61 - i)) _ ?_ Fu 61 _ ⟨0, I1, rfl, rfl, by omega, h1, h3, h2, rfl⟩ (by omega)
  rintro dd s self ⟨i, J, rfl, hdd, hi, f1, f94, f2, f3⟩ hself
  show wp (b_X12_softIn_6 Fu self (nI r) (nI i) J) _
  unfold b_X12_softIn_6
  refine wp_i (gt_60 (by omega)) (fun hle => ?_) (fun hlt => ?_)
  · have hie : i = 61 := by omega
    subst hie
    exact wp_s ⟨by rw [f3]; rfl, f1, f94⟩
  · have hJ := mQ_s ho h f1
    have hso : J 89 (74 + r) = sDs A row i (21 + r) := by have := f2 _ (lv_21 hr); rwa [show 53 + (21 + r) = 74 + r by omega] at this
    rw [show (74 : Int32) + nI r = nI (74 + r) from nI_add 74 r]
    simp (disch := omega) only [q_GI, q_cl, hso, hJ.1.2.2.1]
    rw [show 61 - i = (61 - (i + 1)) + 1 by omega, sGo_s] at f3
    refine wp_f (fun e => ?_) (fun e => ?_)
    · rw [if_pos e] at f3
      refine wp_B (m_day2 hF ho hJ f2 (okR_ds ho hk i) (by omega)) ?_
      rintro J' ⟨e1, e2, e3⟩
      exact hself (61 - (i + 1)) _ (by omega) ⟨i + 1, J', by rw [q_1], rfl, by omega, mS_t f1 e1, by rw [e3, f94], e2, f3⟩
    · rw [if_neg e] at f3
      refine wp_s ⟨?_, f1, f94⟩
      rw [f3]
      unfold gF
      rw [if_neg (by omega)]
theorem m_goes {Fu : Nat} {I : mIT} {r : Nat} {A : aPl} {row : Nat → Int32} (hF : 701 < Fu) (ho : okPl A) (hk : okR A 999 row) (h : mQ I A row) (hr : r < pR A) : wp (f_X12_goes Fu I (nI r)) (fun y => y.1 = (if row (31 + r) < 0 then -1 else gN (gv A row r)) ∧ mS (mU I 75 0 0) y.2) := by
  have h0 := mQ_0 (v := 0) h
  have h10 := ho.1
  unfold f_X12_goes
  refine wp_Be (m_isRoot1 (q_U0 I) h0.1 ho hr) (wp_n ne10 ?_)
  refine wp_Be (m_hang1 (b := 0) (by omega) (by omega) (h0.2.1 _ (lv_31 hr))) ?_
  by_cases e : row (31 + r) < 0
  · rw [if_pos e, if_pos rfl, if_pos rfl, if_pos e]
    exact wp_s ⟨rfl, mS_r _⟩
  · rw [if_neg e, if_neg (by decide), if_neg e]
    refine wp_B (m_softIn hF ho hk h0 hr) ?_
    rintro ⟨v, J⟩ ⟨e1, e2, e3⟩
    dsimp only at e1 e2 ⊢
    have hle := gv_le (A := A) (row := row) (r := r)
    subst e1
    unfold gF gN
    by_cases e4 : gv A row r = 61
    · rw [if_pos e4, if_pos rfl, if_pos e4]; exact wp_s ⟨rfl, e2⟩
    · rw [if_neg e4, if_neg (fun e5 => by rw [show (9999 : Int32) = nI 9999 from rfl, q_eq (by omega) (by omega)] at e5; omega), if_neg e4]
      exact wp_s ⟨rfl, e2⟩
/-- softer[r] -/
def sSr (A : aPl) (row : Nat → Int32) (r : Nat) : Int32 := if row (31 + r) < 0 then -1 else gF (gv A row r)
theorem m_laysSoft {Fu : Nat} {I : mIT} {A : aPl} {row : Nat → Int32} (hF : 701 < Fu) (ho : okPl A) (hk : okR A 999 row) (h : mQ I A row) : wp (f_X12_laysSoft Fu I) (fun J => mS I J ∧ ∀ r, r < pR A → J 94 r = sSr A row r) := by
  have h10 := ho.1
  unfold f_X12_laysSoft w_X12_laysSoft_2
  refine wp_loop (fun dd (s : Int32 × mIT) => ∃ (i : Nat) (J : mIT), s = (nI i, J) ∧ dd = pR A - i ∧ i ≤ pR A ∧ mS I J ∧ ∀ r, r < i → J 94 r = sSr A row r) _ ?_ Fu (pR A) _ ⟨0, I, rfl, rfl, by omega, mS_r I, fun _ hj => absurd hj (by omega)⟩ (by omega)
  rintro dd s self ⟨i, J, rfl, hdd, hi, f1, f2⟩ hself
  have hJ := mQ_s ho h f1
  show wp (b_X12_laysSoft_2 Fu self (nI i) J) _
  unfold b_X12_laysSoft_2
  refine wp_i (by rw [hJ.1.1, q_le (by omega) (by omega)]) (fun hle => ?_) (fun hlt => ?_)
  · have hie : i = pR A := by omega
    subst hie
    exact wp_s ⟨f1, f2⟩
  · refine wp_Be (m_hang1 (b := 0) (by omega) (by omega) (hJ.2.1 _ (lv_31 (by omega)))) ?_
    by_cases e : row (31 + i) < 0
    · rw [if_pos e, if_pos rfl]
      simp (disch := omega) only [q_GI, q_cl]
      refine hself (pR A - (i + 1)) _ (by omega) ⟨i + 1, _, by rw [q_1], rfl, by omega, mS_u f1 rfl, fun r hr => ?_⟩
      by_cases e2 : r = i
      · subst e2; rw [q_U]; unfold sSr; rw [if_pos e]
      · rw [q_Uj e2]; exact f2 r (by omega)
    · rw [if_neg e, if_neg (by decide)]
      refine wp_B (m_softIn hF ho hk hJ (by omega)) ?_
      rintro ⟨v, K⟩ ⟨e1, e2, e3⟩
      dsimp only at e1 e2 e3 ⊢
      simp (disch := omega) only [q_GI, q_cl]
      refine hself (pR A - (i + 1)) _ (by omega) ⟨i + 1, _, by rw [q_1], rfl, by omega, mS_u (mS_t f1 e2) rfl, fun r hr => ?_⟩
      by_cases e4 : r = i
      · subst e4; rw [q_U, e1]; unfold sSr; rw [if_neg e]
      · rw [q_Uj e4, e3]; exact f2 r (by omega)
/-- 61 for those that never go, or don't hang -/
def hv (A : aPl) (row : Nat → Int32) (r : Nat) : Nat := if row (31 + r) < 0 then 61 else gv A row r
theorem hv_le {A : aPl} {row : Nat → Int32} {r : Nat} : hv A row r ≤ 61 := by
  unfold hv
  split
  · omega
  · exact gv_le
/-- the first of the least, 10 for none -/
def mnR (f : Nat → Nat) : Nat → Nat
  | 0 => 10
  | n + 1 => if f n < (if mnR f n = 10 then 61 else f (mnR f n)) then n else mnR f n
theorem mnR_lt (f : Nat → Nat) : ∀ n, mnR f n = 10 ∨ (mnR f n < n ∧ f (mnR f n) < 61)
  | 0 => Or.inl rfl
  | n + 1 => by
    have ih := mnR_lt f n
    by_cases h : f n < (if mnR f n = 10 then 61 else f (mnR f n))
    · rw [mnR, if_pos h]
      right
      refine ⟨by omega, ?_⟩
      by_cases h2 : mnR f n = 10
      · rw [if_pos h2] at h; exact h
      · rw [if_neg h2] at h
        rcases ih with e | e
        · contradiction
        · omega
    · rw [mnR, if_neg h]
      rcases ih with e | e
      · exact Or.inl e
      · exact Or.inr ⟨by omega, e.2⟩
theorem hv_p {A : aPl} {row : Nat → Int32} {r : Nat} (e : row (31 + r) < 0) : hv A row r = 61 := if_pos e
theorem hv_n {A : aPl} {row : Nat → Int32} {r : Nat} (e : ¬ row (31 + r) < 0) : hv A row r = gv A row r := if_neg e
def mnI (n : Nat) : Int32 := if n = 10 then -1 else nI n
theorem m_soft {Fu : Nat} {I : mIT} {A : aPl} {row : Nat → Int32} (hF : 701 < Fu) (ho : okPl A) (hk : okR A 999 row) (h : mQ I A row) : wp (f_X12_soft Fu I) (fun y => y.1 = mnI (mnR (hv A row) (pR A)) ∧ mS (mU I 75 0 0) y.2) := by
  have h0 := mQ_0 (v := 0) h
  have h10 := ho.1
  unfold f_X12_soft
  refine wp_B (m_laysSoft hF ho hk h0) ?_
  rintro I1 ⟨h1, h2⟩
  have hI1 := mQ_s ho h0 h1
  unfold w_X12_soft_13
  refine wp_loop (fun dd (s : Int32 × Int32 × mIT) => ∃ (i : Nat), s = (mnI (mnR (hv A row) i), nI i, I1) ∧ dd = pR A - i ∧ i ≤ pR A) _ ?_ Fu (pR A) _ ⟨0, rfl, rfl, by omega⟩ (by omega)
  rintro dd s self ⟨i, rfl, hdd, hi⟩ hself
  show wp (b_X12_soft_13 Fu self _ (nI i) I1) _
  unfold b_X12_soft_13
  refine wp_i (by rw [hI1.1.1, q_le (by omega) (by omega)]) (fun hle => ?_) (fun hlt => ?_)
  · have hie : i = pR A := by omega
    subst hie
    exact wp_s ⟨rfl, h1⟩
  · simp (disch := omega) only [q_GI, q_cl, h2 i (by omega), q_1]
    have keep : mnR (hv A row) (i + 1) = mnR (hv A row) i → wp (self (mnI (mnR (hv A row) i), nI (i + 1), I1)) (fun y => y.1 = mnI (mnR (hv A row) (pR A)) ∧ mS (mU I 75 0 0) y.2) := fun e => hself (pR A - (i + 1)) _ (by omega) ⟨i + 1, by rw [e], rfl, by omega⟩
    have new : mnR (hv A row) (i + 1) = i → wp (self (nI i, nI (i + 1), I1)) (fun y => y.1 = mnI (mnR (hv A row) (pR A)) ∧ mS (mU I 75 0 0) y.2) := fun e => hself (pR A - (i + 1)) _ (by omega) ⟨i + 1, by rw [e]; unfold mnI; rw [if_neg (by omega)], rfl, by omega⟩
    have hlt61 : ∀ m, (if mnR (hv A row) m = 10 then 61 else hv A row (mnR (hv A row) m)) ≤ 61 := fun m => by
      split
      · omega
      · exact hv_le
    by_cases e : row (31 + i) < 0
    · have hve : hv A row i = 61 := by unfold hv; rw [if_pos e]
      have hse : sSr A row i = -1 := by unfold sSr; rw [if_pos e]
      rw [hse, if_pos rfl]
      exact keep (by rw [mnR, if_neg (by rw [hve]; have := hlt61 i; omega)])
    · have hve : hv A row i = gv A row i := by unfold hv; rw [if_neg e]
      have hse : sSr A row i = gF (gv A row i) := by unfold sSr; rw [if_neg e]
      have hle := gv_le (A := A) (row := row) (r := i)
      rw [hse]
      by_cases e2 : gv A row i = 61
      · have hg : gF (gv A row i) = 9999 := by unfold gF; rw [if_pos e2]
        rw [hg, if_neg (by decide), if_pos rfl]
        exact keep (by rw [mnR, if_neg (by rw [hve, e2]; have := hlt61 i; omega)])
      · have hg : gF (gv A row i) = nI (gv A row i) := by unfold gF; rw [if_neg e2]
        rw [hg, if_neg (by rw [q_eqm1 (by omega)]; simp), if_neg (fun e5 => by rw [show (9999 : Int32) = nI 9999 from rfl, q_eq (by omega) (by omega)] at e5; omega)]
        rcases mnR_lt (hv A row) i with e3 | ⟨e3, e4⟩
        · rw [e3, show mnI 10 = -1 from rfl, if_pos rfl]
          exact new (by rw [mnR, e3, if_pos rfl, if_pos (by omega)])
        · have e10 : mnR (hv A row) i ≠ 10 := by omega
          have hmi : mnI (mnR (hv A row) i) = nI (mnR (hv A row) i) := by unfold mnI; rw [if_neg e10]
          rw [if_neg (by rw [hmi, q_eqm1 (by omega)]; simp)]
          have hb : sSr A row (mnR (hv A row) i) = nI (hv A row (mnR (hv A row) i)) := by
            unfold sSr
            have e7 : hv A row (mnR (hv A row) i) < 61 := e4
            by_cases e5 : row (31 + mnR (hv A row) i) < 0
            · exfalso
              have := hv_p (A := A) e5
              omega
            · rw [if_neg e5, hv_n e5]
              have e6 := hv_n (A := A) e5
              unfold gF
              rw [if_neg (by omega)]
          have hb61 : hv A row (mnR (hv A row) i) < 61 := by have := mnR_lt (hv A row) i; omega
          rw [hmi]
          simp (disch := omega) only [q_GI, q_cl, h2 _ (show mnR (hv A row) i < pR A by omega), hb]
          refine wp_i (q_le (by omega) (by omega)) (fun e8 => ?_) (fun e8 => ?_)
          · rw [← hmi]
            exact keep (by rw [mnR, if_neg e10, if_neg (by omega)])
          · exact new (by rw [mnR, if_neg e10, if_pos (by omega)])
theorem m_grown {Fu : Nat} {I : mIT} {r t : Nat} {A : aPl} {row : Nat → Int32} (hF : 701 < Fu) (ho : okPl A) (hk : okR A 999 row) (h : mQ I A row) (hr : r < pR A) (ht : t < 16) : wp (f_X12_grown Fu I (nI r) (nI t)) (fun y => y.1 = (if row (31 + r) = -1 then sFi (fun k => decide (sNt A (sDs A row k) r 0 = nI t)) 0 61 else -1) ∧ mS (mU I 75 0 0) y.2) := by
  have h0 := mQ_0 (v := 0) h
  have h10 := ho.1
  unfold f_X12_grown
  refine wp_Be (m_isRoot1 (q_U0 I) h0.1 ho hr) (wp_n ne10 ?_)
  refine wp_Be (m_isNote1 (q_U0 I) ht) (wp_n ne10 ?_)
  have hpl : (mU I 75 0 0) 89 (31 + r) = row (31 + r) := by have := h0.2.1 _ (lv_31 hr); rwa [Nat.zero_add] at this
  simp (disch := omega) only [l_31, q_GI, q_cl, hpl]
  refine wp_f (fun e => ?_) (fun e => ?_)
  · rw [if_pos e]
    refine wp_B (m_tries hF ho h0) ?_
    rintro I1 ⟨h1, h2⟩
    unfold w_X12_grown_44
    refine wp_loop (fun dd (s : Int32 × Int32 × Int32 × mIT) => ∃ (i : Nat) (J : mIT), s = (nI r, nI t, nI i, J) ∧ dd = 61 - i ∧ i ≤ 61 ∧ mS (mU I 75 0 0) J ∧ rI A J 89 53 (sDs A row i) ∧ sFi (fun k => decide (sNt A (sDs A row k) r 0 = nI t)) 0 61 = sFi (fun k => decide (sNt A (sDs A row k) r 0 = nI t)) i (61 - i)) _ ?_ Fu 61 _ ⟨0, I1, rfl, rfl, by omega, h1, h2, rfl⟩ (by omega)
    rintro dd s self ⟨i, J, rfl, hdd, hi, f1, f2, f3⟩ hself
    show wp (b_X12_grown_44 Fu self (nI r) (nI t) (nI i) J) _
    unfold b_X12_grown_44
    refine wp_i (gt_60 (by omega)) (fun hle => ?_) (fun hlt => ?_)
    · have hie : i = 61 := by omega
      subst hie
      exact wp_s ⟨by rw [f3]; rfl, f1⟩
    · have hJ := mQ_s ho h0 f1
      rw [sFi_t (i := i) (by omega)] at f3
      refine wp_B (m_noteOf (b := 53) hF hJ.1 ho hJ.2.2 (by omega) f2 (okR_ds ho hk i) (by omega) hr) ?_
      rintro ⟨v, K⟩ ⟨u1, u2⟩
      dsimp only at u1 u2 ⊢
      subst u1
      refine wp_f (fun e2 => ?_) (fun e2 => ?_)
      · rw [decide_eq_true e2, if_pos rfl] at f3
        exact wp_s ⟨f3.symm, mS_t f1 (mS_n u2)⟩
      · rw [decide_eq_false e2, if_neg (by simp)] at f3
        refine wp_B (m_day hF ho (mQ_s ho hJ (mS_n u2)) (fun j hj => by rw [u2 89 (by decide) (by decide)]; exact f2 j hj) (okR_ds ho hk i) (by omega)) ?_
        rintro J' ⟨e3, e4⟩
        exact hself (61 - (i + 1)) _ (by omega) ⟨i + 1, J', by rw [q_1], rfl, by omega, mS_t (mS_t f1 (mS_n u2)) e3, e4, f3⟩
  · rw [if_neg e]
    exact wp_s ⟨rfl, mS_r _⟩
def sOf (A : aPl) (row : Nat → Int32) (t : Nat) : Nat → Int32
  | 0 => 0
  | k + 1 => sOf A row t k + ((sNB A (sDs A row (k + 1)) (sSd A (sDs A row (k + 1))) >>> (nI t &&& 31)) &&& 1)
theorem m_often {Fu : Nat} {I : mIT} {t : Nat} {A : aPl} {row : Nat → Int32} (hF : 701 < Fu) (ho : okPl A) (hk : okR A 999 row) (h : mQ I A row) (ht : t < 16) : wp (f_X12_often Fu I (nI t)) (fun y => y.1 = sOf A row t 60 ∧ mS (mU I 75 0 0) y.2) := by
  have h0 := mQ_0 (v := 0) h
  unfold f_X12_often
  refine wp_Be (m_isNote1 (q_U0 I) ht) (wp_n ne10 ?_)
  refine wp_B (m_tries hF ho h0) ?_
  rintro I1 ⟨h1, h2⟩
  unfold w_X12_often_23
  refine wp_loop (fun dd (s : Int32 × Int32 × Int32 × mIT) => ∃ (i : Nat) (J : mIT), s = (nI t, sOf A row t i, nI (i + 1), J) ∧ dd = 60 - i ∧ i ≤ 60 ∧ mS (mU I 75 0 0) J ∧ rI A J 89 53 (sDs A row i)) _ ?_ Fu 60 _ ⟨0, I1, rfl, rfl, by omega, h1, h2⟩ (by omega)
  rintro dd s self ⟨i, J, rfl, hdd, hi, f1, f2⟩ hself
  show wp (b_X12_often_23 Fu self (nI t) _ (nI (i + 1)) J) _
  unfold b_X12_often_23
  refine wp_i (gt_60 (by omega)) (fun hle => ?_) (fun hlt => ?_)
  · have hie : i = 60 := by omega
    subst hie
    exact wp_s ⟨rfl, f1⟩
  · have hJ := mQ_s ho h0 f1
    refine wp_B (m_day hF ho hJ f2 (okR_ds ho hk i) (by omega)) ?_
    rintro J' ⟨e1, e2⟩
    have hJ' := mQ_s ho hJ e1
    refine wp_B (m_notesIn (b := 53) hF hJ'.1 ho hJ'.2.2 (by omega) e2 (okR_ds ho hk (i + 1)) (by omega)) ?_
    rintro ⟨v, K⟩ ⟨u1, u2⟩
    dsimp only at u1 u2 ⊢
    subst u1
    exact hself (60 - (i + 1)) _ (by omega) ⟨i + 1, K, by rw [q_1]; rfl, rfl, by omega, mS_t (mS_t f1 e1) (mS_n u2), fun j hj => by rw [u2 89 (by decide) (by decide)]; exact e2 j hj⟩
