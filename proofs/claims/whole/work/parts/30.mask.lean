theorem ne10 : ¬ (1 : Int32) = 0 := by decide
theorem q_U0 (I : mIT) : (mU I 75 0 0) 75 0 = 0 := q_U _ _ _ _
/-! the reference's tests ahead of an answer -/
theorem m_right1 {Fu : Nat} {I : mIT} {w : Int32} (h : I 75 0 = 0) : f_X12_right Fu I 1 w = some (1, I) := by
  unfold f_X12_right
  rw [if_pos h, if_neg (by decide), if_pos h]
theorem m_right0 {Fu : Nat} {I : mIT} {w : Int32} (h : I 75 0 = 0) (hw : w ≠ 0) : f_X12_right Fu I 0 w = some (0, mU I 75 0 w) := by
  unfold f_X12_right
  rw [if_pos h, if_pos rfl, q_U, if_neg hw]
theorem m_isRoot1 {Fu : Nat} {I : mIT} {A : aPl} {r : Nat} (h : I 75 0 = 0) (hp : mPl I A) (ho : okPl A) (hr : r < pR A) : f_X12_isRoot Fu I (nI r) = some (1, I) := by
  have h10 := ho.1
  unfold f_X12_isRoot
  rw [if_neg (by rw [q_lt0 (by omega)]; simp), hp.1, if_neg (by rw [q_le (by omega) (by omega)]; omega), m_right1 h, q_B]; rfl
theorem m_isRoot0 {Fu : Nat} {I : mIT} {A : aPl} {v : Int32} (h : I 75 0 = 0) (hp : mPl I A) (hv : v < 0 ∨ nI (pR A) ≤ v) : f_X12_isRoot Fu I v = some (0, mU I 75 0 1) := by
  unfold f_X12_isRoot
  rw [m_right0 h (by decide), q_B]
  by_cases e : v < 0
  · rw [if_pos e]; rfl
  · rw [if_neg e, hp.1, if_pos (hv.resolve_left e)]; rfl
theorem m_in1 {Fu : Nat} {j m : Nat} (h : j < m + 1) (hm : m < 1000000) : f_X12_within Fu (nI j) 0 (nI m) = some 1 := by
  unfold f_X12_within
  rw [if_neg (by rw [q_lt0 (by omega)]; simp), if_neg (by rw [q_lt (by omega) (by omega)]; omega)]
theorem m_in0 {Fu : Nat} {v : Int32} {m : Nat} (hm : m < 1000000) (h : v < 0 ∨ nI (m + 1) ≤ v) : f_X12_within Fu v 0 (nI m) = some 0 := by
  unfold f_X12_within
  by_cases e : v < 0
  · rw [if_pos e]
  · rw [if_neg e, if_pos]
    have h2 := h.resolve_left e
    rw [Int32.lt_iff_toInt_lt, nI_toInt (by omega)]
    rw [Int32.le_iff_toInt_le, nI_toInt (by omega)] at h2
    omega
theorem m_what1 {Fu : Nat} {I : mIT} {j m : Nat} (h : I 75 0 = 0) (hj : j < m + 1) (hm : m < 1000000) : f_X12_isWhat Fu I (nI j) (nI m) = some (1, I) := by
  unfold f_X12_isWhat
  rw [m_in1 hj hm, q_B, m_right1 h, q_B]; rfl
theorem m_what0 {Fu : Nat} {I : mIT} {v : Int32} {m : Nat} (h : I 75 0 = 0) (hm : m < 1000000) (hv : v < 0 ∨ nI (m + 1) ≤ v) : f_X12_isWhat Fu I v (nI m) = some (0, mU I 75 0 1) := by
  unfold f_X12_isWhat
  rw [m_in0 hm hv, q_B, m_right0 h (by decide), q_B]; rfl
theorem m_isNote1 {Fu : Nat} {I : mIT} {j : Nat} (h : I 75 0 = 0) (hj : j < 16) : f_X12_isNote Fu I (nI j) = some (1, I) := by
  unfold f_X12_isNote
  rw [show f_X12_within Fu (nI j) 0 15 = some 1 from m_in1 (m := 15) hj (by omega), q_B, m_right1 h, q_B]; rfl
theorem m_isNote0 {Fu : Nat} {I : mIT} {v : Int32} (h : I 75 0 = 0) (hv : v < 0 ∨ nI 16 ≤ v) : f_X12_isNote Fu I v = some (0, mU I 75 0 1) := by
  unfold f_X12_isNote
  rw [show f_X12_within Fu v 0 15 = some 0 from m_in0 (m := 15) (by omega) hv, q_B, m_right0 h (by decide), q_B]; rfl
theorem m_isDays1 {Fu : Nat} {I : mIT} {j : Nat} {w : Int32} (h : I 75 0 = 0) (hj : j < 61) : f_X12_isDays Fu I (nI j) w = some (1, I) := by
  unfold f_X12_isDays
  rw [show f_X12_within Fu (nI j) 0 60 = some 1 from m_in1 (m := 60) hj (by omega), q_B, m_right1 h, q_B]; rfl
theorem m_isDays0 {Fu : Nat} {I : mIT} {v w : Int32} (h : I 75 0 = 0) (hw : w ≠ 0) (hv : v < 0 ∨ nI 61 ≤ v) : f_X12_isDays Fu I v w = some (0, mU I 75 0 w) := by
  unfold f_X12_isDays
  rw [show f_X12_within Fu v 0 60 = some 0 from m_in0 (m := 60) (by omega) hv, q_B, m_right0 h hw, q_B]; rfl
theorem mQ_0 {I : mIT} {A : aPl} {row : Nat → Int32} {v : Int32} (h : mQ I A row) : mQ (mU I 75 0 v) A row := ⟨mPl_fr h.1 (fun j h1 _ => q_Uj (by omega)) (mU_other (by decide)) (mU_other (by decide)) (mU_other (by decide)) (mU_other (by decide)), fun j hj => by rw [mU_other (by decide)]; exact h.2.1 j hj, by rw [q_Uj (by decide)]; exact h.2.2⟩
theorem mU_mU (I : mIT) (k j : Nat) (v w : Int32) : mU (mU I k j v) k j w = mU I k j w := by
  funext a b
  unfold mU
  split <;> simp_all
theorem m_daysGo {Fu : Nat} {I : mIT} {n : Nat} {A : aPl} {row : Nat → Int32} (hF : 701 < Fu) (ho : okPl A) (hk : okR A 999 row) (h : mQ I A row) (hn : n ≤ 60) : wp (f_X12_daysGo Fu I (nI n)) (fun J => mS I J ∧ rI A J 89 53 (sDs A row n)) := by
  unfold f_X12_daysGo
  refine wp_B (m_tries hF ho h) ?_
  rintro I1 ⟨h1, h2⟩
  unfold w_X12_daysGo_6
  refine wp_loop (fun dd (s : Int32 × Int32 × mIT) => ∃ (i : Nat) (J : mIT), s = (nI n, nI i, J) ∧ dd = n - i ∧ i ≤ n ∧ mS I J ∧ rI A J 89 53 (sDs A row i)) _ ?_ Fu n _ ⟨0, I1, rfl, rfl, by omega, h1, h2⟩ (by omega)
  rintro dd s self ⟨i, J, rfl, hdd, hi, f1, f2⟩ hself
  show wp (b_X12_daysGo_6 Fu self (nI n) (nI i) J) _
  unfold b_X12_daysGo_6
  refine wp_i (q_le (by omega) (by omega)) (fun hle => ?_) (fun hlt => ?_)
  · have hie : i = n := by omega
    subst hie
    exact wp_s ⟨f1, f2⟩
  · refine wp_B (m_day hF ho (mQ_s ho h f1) f2 (okR_ds ho hk i) (by omega)) ?_
    rintro J' ⟨e1, e2⟩
    exact hself (n - (i + 1)) _ (by omega) ⟨i + 1, J', by rw [q_1], rfl, by omega, mS_t f1 e1, e2⟩
/-- a question's own post: the answer, nothing of the reference's changed but what is thrown -/
theorem m_then {Fu : Nat} {I : mIT} {n r : Nat} {A : aPl} {row : Nat → Int32} (hF : 701 < Fu) (ho : okPl A) (hk : okR A 999 row) (h : mQ I A row) (hr : r < pR A) (hn : n < 61) : wp (f_X12_then Fu I (nI r) (nI n)) (fun y => y.1 = sNt A (sDs A row n) r 0 ∧ mS (mU I 75 0 0) y.2) := by
  have h0 := mQ_0 (v := 0) h
  unfold f_X12_then
  refine wp_Be (m_isRoot1 (q_U0 I) h0.1 ho hr) (wp_n ne10 ?_)
  refine wp_Be (m_isDays1 (q_U0 I) hn) (wp_n ne10 ?_)
  refine wp_B (m_daysGo hF ho hk h0 (by omega)) ?_
  rintro J ⟨h1, h2⟩
  have hJ := mQ_s ho h0 h1
  refine wp_B (m_noteOf (b := 53) hF hJ.1 ho hJ.2.2 (by omega) h2 (okR_ds ho hk n) (by omega) hr) ?_
  rintro ⟨v, J'⟩ ⟨e1, e2⟩
  exact wp_s ⟨e1, mS_t h1 (mS_n e2)⟩
theorem m_rings {Fu : Nat} {I : mIT} {n : Nat} {A : aPl} {row : Nat → Int32} (hF : 701 < Fu) (ho : okPl A) (hk : okR A 999 row) (h : mQ I A row) (hn : n < 61) : wp (f_X12_rings Fu I (nI n)) (fun y => y.1 = (if sTu A (sNB A (sDs A row n) (sSd A (sDs A row n))) then 1 else 0) ∧ mS (mU I 75 0 0) y.2) := by
  have h0 := mQ_0 (v := 0) h
  unfold f_X12_rings
  refine wp_Be (m_isDays1 (q_U0 I) hn) (wp_n ne10 ?_)
  refine wp_B (m_daysGo hF ho hk h0 (by omega)) ?_
  rintro J ⟨h1, h2⟩
  have hJ := mQ_s ho h0 h1
  refine wp_B (m_notesIn (b := 53) hF hJ.1 ho hJ.2.2 (by omega) h2 (okR_ds ho hk n) (by omega)) ?_
  rintro ⟨v, J'⟩ ⟨e1, e2⟩
  dsimp only at e1 e2 ⊢
  refine wp_Be (m_hasTune hF (mPl_s hJ.1 (mS_n e2)) ho) ?_
  refine wp_G (by split <;> decide) (wp_s ⟨by rw [e1], mS_t h1 (mS_n e2)⟩)
/-! the last one with a property, the first one with it -/
def lastB (p : Nat → Bool) : Nat → Int32
  | 0 => -1
  | n + 1 => if p n then nI n else lastB p n
theorem lastB_c {p q : Nat → Bool} : ∀ n, (∀ k, k < n → p k = q k) → lastB p n = lastB q n
  | 0, _ => rfl
  | n + 1, h => by rw [lastB, lastB, h n (by omega), lastB_c n (fun k hk => h k (by omega))]
def sFi (p : Nat → Bool) (i k : Nat) : Int32 := sFd (fun i => if p i then some (nI i) else none) (-1) i k
theorem sFi_s {p : Nat → Bool} {i k : Nat} : sFi p i (k + 1) = if p i then nI i else sFi p (i + 1) k := by
  unfold sFi
  rw [sFd]
  by_cases e : p i = true
  · rw [if_pos e, if_pos e]
  · rw [if_neg e, if_neg e]
theorem sFi_t {p : Nat → Bool} {i n : Nat} (h : i < n) : sFi p i (n - i) = if p i then nI i else sFi p (i + 1) (n - (i + 1)) := by
  rw [show n - i = (n - (i + 1)) + 1 by omega, sFi_s]
theorem sFi_c {p q : Nat → Bool} {i k : Nat} (h : ∀ j, i ≤ j → j < i + k → p j = q j) : sFi p i k = sFi q i k := sFd_c k i (fun j h1 h2 => by rw [h j h1 h2])
def sRg (A : aPl) (row : Nat → Int32) (k : Nat) : Bool := sTu A (sNB A (sDs A row k) (sSd A (sDs A row k)))
def sEr (A : aPl) (row : Nat → Int32) (k : Nat) : Bool := sTu A (sNB A (sDs A row k) (sFm A (sDs A row k)))
theorem m_last {Fu : Nat} {I : mIT} {A : aPl} {row : Nat → Int32} (hF : 701 < Fu) (ho : okPl A) (hk : okR A 999 row) (h : mQ I A row) : wp (f_X12_last Fu I) (fun y => y.1 = lastB (sRg A row) 61 ∧ mS (mU I 75 0 0) y.2) := by
  have h0 := mQ_0 (v := 0) h
  unfold f_X12_last
  refine wp_B (m_tries hF ho h0) ?_
  rintro I1 ⟨h1, h2⟩
  unfold w_X12_last_13
  refine wp_loop (fun dd (s : Int32 × Int32 × mIT) => ∃ (i : Nat) (J : mIT), s = (lastB (sRg A row) i, nI i, J) ∧ dd = 61 - i ∧ i ≤ 61 ∧ mS (mU I 75 0 0) J ∧ rI A J 89 53 (sDs A row i)) _ ?_ Fu 61 _ ⟨0, I1, rfl, rfl, by omega, h1, h2⟩ (by omega)
  rintro dd s self ⟨i, J, rfl, hdd, hi, f1, f2⟩ hself
  show wp (b_X12_last_13 Fu self _ (nI i) J) _
  unfold b_X12_last_13
  refine wp_i (gt_60 (by omega)) (fun hle => ?_) (fun hlt => ?_)
  · have hie : i = 61 := by omega
    subst hie
    exact wp_s ⟨rfl, f1⟩
  · have hJ := mQ_s ho h0 f1
    refine wp_B (m_notesIn (b := 53) hF hJ.1 ho hJ.2.2 (by omega) f2 (okR_ds ho hk i) (by omega)) ?_
    rintro ⟨v, J'⟩ ⟨e1, e2⟩
    dsimp only at e1 e2 ⊢
    have hJ' := mQ_s ho hJ (mS_n e2)
    refine wp_Be (m_hasTune hF hJ'.1 ho) ?_
    have hd : wp (f_X12_dayGoes Fu J' 53) (fun J'' => mS J' J'' ∧ rI A J'' 89 53 (sDs A row (i + 1))) := m_day hF ho hJ' (fun j hj => by rw [e2 89 (by decide) (by decide)]; exact f2 j hj) (okR_ds ho hk i) (by omega)
    have nx : ∀ x, x = lastB (sRg A row) (i + 1) → wp (oB (f_X12_dayGoes Fu J' 53) (fun r41 => self (x, nI i + 1, r41))) (fun y => y.1 = lastB (sRg A row) 61 ∧ mS (mU I 75 0 0) y.2) := by
      intro x hx
      refine wp_B hd ?_
      rintro J'' ⟨g1, g2⟩
      exact hself (61 - (i + 1)) _ (by omega) ⟨i + 1, J'', by rw [q_1, hx], rfl, by omega, mS_t (mS_t f1 (mS_n e2)) g1, g2⟩
    have hv : sTu A v = sRg A row i := by rw [e1]; rfl
    rw [hv]
    by_cases e : sRg A row i = true
    · rw [if_pos e, if_neg (by decide)]
      exact nx _ (by rw [lastB, if_pos e])
    · rw [if_neg e, if_pos rfl]
      exact nx _ (by rw [lastB, if_neg e])
theorem m_earliest {Fu : Nat} {I : mIT} {A : aPl} {row : Nat → Int32} (hF : 701 < Fu) (ho : okPl A) (hk : okR A 999 row) (h : mQ I A row) : wp (f_X12_earliest Fu I) (fun y => y.1 = sFi (sEr A row) 0 61 ∧ mS (mU I 75 0 0) y.2) := by
  have h0 := mQ_0 (v := 0) h
  have h10 := ho.1
  unfold f_X12_earliest
  refine wp_B (m_tries hF ho h0) ?_
  rintro I1 ⟨h1, h2⟩
  unfold w_X12_earliest_11
  refine wp_loop (fun dd (s : Int32 × mIT) => ∃ (i : Nat) (J : mIT), s = (nI i, J) ∧ dd = 61 - i ∧ i ≤ 61 ∧ mS (mU I 75 0 0) J ∧ rI A J 89 53 (sDs A row i) ∧ sFi (sEr A row) 0 61 = sFi (sEr A row) i (61 - i)) _ ?_ Fu 61 _ ⟨0, I1, rfl, rfl, by omega, h1, h2, rfl⟩ (by omega)
  rintro dd s self ⟨i, J, rfl, hdd, hi, f1, f2, f3⟩ hself
  show wp (b_X12_earliest_11 Fu self (nI i) J) _
  unfold b_X12_earliest_11
  refine wp_i (gt_60 (by omega)) (fun hle => ?_) (fun hlt => ?_)
  · have hie : i = 61 := by omega
    subst hie
    exact wp_s ⟨by rw [f3]; rfl, f1⟩
  · unfold w_X12_earliest_21
    have hds := okR_ds ho hk i
    refine wp_loop (fun dd (s : Int32 × Int32 × Int32 × mIT) => ∃ (q : Nat) (K : mIT), s = (nI i, orF (fun r => if sFm A (sDs A row i) r then (1 : Int32) <<< (sNt A (sDs A row i) r 0 &&& 31) else 0) q, nI q, K) ∧ dd = pR A - q ∧ q ≤ pR A ∧ ∀ c, c ≠ 91 → c ≠ 92 → K c = J c) _ ?_ Fu (pR A) _ ⟨0, J, rfl, rfl, by omega, fun _ _ _ => rfl⟩ (by omega)
    rintro dq s self2 ⟨q, K, rfl, hdq, hq, g1⟩ hself2
    have hK := mQ_s ho h0 (mS_t f1 (mS_n g1))
    have hKr : rI A K 89 53 (sDs A row i) := fun j hj => by rw [g1 89 (by decide) (by decide)]; exact f2 j hj
    show wp (b_X12_earliest_21 Fu self self2 (nI i) _ (nI q) K) _
    unfold b_X12_earliest_21
    refine wp_i (by rw [hK.1.1, q_le (by omega) (by omega)]) (fun hle => ?_) (fun hlt2 => ?_)
    · have hqe : q = pR A := by omega
      subst hqe
      rw [sNB_n h10 sFm_o]
      refine wp_Be (m_hasTune hF hK.1 ho) ?_
      rw [sFi_t (i := i) (by omega)] at f3
      by_cases e : sEr A row i = true
      · rw [if_pos (show sTu A (sNB A (sDs A row i) (sFm A (sDs A row i))) = true from e), if_neg (by decide)]
        rw [if_pos e] at f3
        exact wp_s ⟨f3.symm, mS_t f1 (mS_n g1)⟩
      · rw [if_neg (show ¬ sTu A (sNB A (sDs A row i) (sFm A (sDs A row i))) = true from e), if_pos rfl]
        rw [if_neg e] at f3
        refine wp_B (m_day hF ho hK hKr hds (by omega)) ?_
        rintro J' ⟨e1, e2⟩
        exact hself (61 - (i + 1)) _ (by omega) ⟨i + 1, J', by rw [q_1], rfl, by omega, mS_t (mS_t f1 (mS_n g1)) e1, e2, f3⟩
    · have hq2 : q < pR A := by omega
      have hpl : K 89 (84 + q) = sDs A row i (31 + q) := by have := hKr _ (lv_31 hq2); rwa [show 53 + (31 + q) = 84 + q by omega] at this
      have hso : K 89 (74 + q) = sDs A row i (21 + q) := by have := hKr _ (lv_21 hq2); rwa [show 53 + (21 + q) = 74 + q by omega] at this
      rw [show (84 : Int32) + nI q = nI (84 + q) from nI_add 84 q, show (74 : Int32) + nI q = nI (74 + q) from nI_add 74 q]
      simp (disch := omega) only [q_GI, q_cl, hpl, hso, hK.1.2.2.1]
      have e0 : sFm A (sDs A row i) q = (decide (sDs A row i (31 + q) ≠ -2) && decide (sDs A row i (21 + q) < pL A)) := by unfold sFm; rw [decide_eq_true hq2, Bool.true_and]
      have no : sFm A (sDs A row i) q = false → wp (self2 (nI i, orF (fun r => if sFm A (sDs A row i) r then (1 : Int32) <<< (sNt A (sDs A row i) r 0 &&& 31) else 0) q ||| 0, nI q + 1, K)) (fun y => y.1 = sFi (sEr A row) 0 61 ∧ mS (mU I 75 0 0) y.2) := fun e => hself2 (pR A - (q + 1)) _ (by omega) ⟨q + 1, K, by rw [q_1, orF, e, if_neg (by simp)], rfl, by omega, g1⟩
      refine wp_f (fun e => no ?_) (fun e => ?_)
      · rw [e0, decide_eq_false (fun w => w e), Bool.false_and]
      · refine wp_f (fun e2 => no ?_) (fun e2 => ?_)
        · rw [e0, decide_eq_false (Int32.not_lt.mpr e2), Bool.and_false]
        · refine wp_B (m_noteOf (b := 53) hF hK.1 ho hK.2.2 (by omega) hKr hds (by omega) hq2) ?_
          rintro ⟨v, K'⟩ ⟨u1, u2⟩
          dsimp only at u1 u2 ⊢
          refine hself2 (pR A - (q + 1)) _ (by omega) ⟨q + 1, K', ?_, rfl, by omega, fun c c1 c2 => by rw [u2 c c1 c2]; exact g1 c c1 c2⟩
          rw [q_1, orF, e0, decide_eq_true e, decide_eq_true (Int32.not_le.mp e2), Bool.and_true, if_pos rfl, u1]
