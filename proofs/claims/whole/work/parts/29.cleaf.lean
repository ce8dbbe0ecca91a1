/-! the class's side: notes, days, the course -/
theorem sDay_c {A : aPl} {w : Int32} {row row' : Nat → Int32} (ho : okPl A) (h : ∀ j, live A j → row' j = row j) : ∀ j, live A j → sDay A w row' j = sDay A w row j := by
  have h10 := ho.1
  intro j hj
  have hgr : ∀ r, r < pR A → sGr A row' r w = sGr A row r w := fun r hr => sGr_c (h 0 lv_0) (h _ (lv_1 hr)) (h _ (lv_11 hr)) (h _ (lv_21 hr)) (h _ (lv_31 hr))
  have hj2 := hj
  unfold live at hj2
  rcases hj2 with rfl | ⟨e1, e2⟩ | ⟨e1, e2⟩ | ⟨e1, e2⟩ | ⟨e1, e2⟩ | ⟨e1, e2⟩
  · rw [sDay_0, sDay_0, h 0 lv_0]
  · obtain ⟨r, rfl⟩ : ∃ r, j = 1 + r := ⟨j - 1, by omega⟩
    have hr : r < pR A := by omega
    rw [sDay_sz hr h10, sDay_sz hr h10, h _ (lv_31 hr), h _ (lv_1 hr), hgr r hr]
  · rw [sDay_ho (by omega) (by omega), sDay_ho (by omega) (by omega), h j hj]
  · obtain ⟨r, rfl⟩ : ∃ r, j = 21 + r := ⟨j - 21, by omega⟩
    have hr : r < pR A := by omega
    rw [sDay_so hr h10, sDay_so hr h10, h _ (lv_31 hr), h _ (lv_21 hr)]
  · rw [sDay_hi (by omega), sDay_hi (by omega), h j hj]
  · rw [sDay_hi (by omega), sDay_hi (by omega), h j hj]
theorem c_note {Fu : Nat} {I : mIT} {k p r D : Nat} {A : aPl} {row : Nat → Int32} {more : Int32} (hF : 701 < Fu) (h : cPl I p A) (ho : okPl A) (hr : rI A I (k + 1) 0 row) (hk : okR A D row) (hD : D < 2000) (hrr : r < pR A) : wp (f_X9_noteOf Fu I k p (nI r) more) (fun y => y.1 = sNt A row r more ∧ ∀ c, c ≠ p + 8 → c ≠ p + 9 → y.2 c = I c) := by
  obtain ⟨d, hd, hdD⟩ := hk.1
  have e : ∀ j, live A j → I (k + 1) j = row j := fun j hj => by have := hr j hj; rwa [Nat.zero_add] at this
  obtain ⟨I', g1, g2⟩ := c_noteOf (Fu := Fu) (k := k) (p := p) (row := I (k + 1)) (d := d) (r := r) (more := more) hF h ho (fun _ _ => rfl) (by rw [e 0 lv_0, hd]) (by omega) hrr
  refine wp_e g1 ⟨?_, g2⟩
  unfold sNt
  rw [hd, q_cl (by omega)]
  exact sNo_c (e 0 lv_0) (e _ (lv_1 hrr)) (e _ (lv_11 hrr)) (e _ (lv_21 hrr)) (e _ (lv_31 hrr))
theorem c_pass {Fu : Nat} {I : mIT} {k p : Nat} {A : aPl} {row : Nat → Int32} {w : Int32} (hF : 701 < Fu) (h : cPl I p A) (ho : okPl A) (hr : rI A I (k + 1) 0 row) (hk : k + 1 < p ∨ p + 16 ≤ k + 1) : wp (f_X9_passDay Fu I k p w) (fun J => rI A J (k + 1) 0 (sDay A w row) ∧ ∀ c, c ≠ k + 1 → c ≠ p + 14 → c ≠ p + 15 → J c = I c) := by
  have e : ∀ j, live A j → I (k + 1) j = row j := fun j hj => by have := hr j hj; rwa [Nat.zero_add] at this
  obtain ⟨I', g1, g2, g3⟩ := c_passDay (Fu := Fu) (k := k) (p := p) (row := I (k + 1)) (w := w) hF h ho (fun _ _ => rfl) hk
  refine wp_e g1 ⟨fun j hj => ?_, g3⟩
  rw [Nat.zero_add, g2 j (live_53 ho hj)]
  exact sDay_c ho e j hj
def laid (I : mIT) (A : aPl) (row : Nat → Int32) (n : Nat) : Prop := ∀ k, k < n → (∀ r, r < pR A → I 59 (k * 10 + r) = sNt A (sDs A row k) r 0) ∧ I 60 k = mkB (sSd A (sDs A row k)) 10 ∧ I 61 k = mkB (sFm A (sDs A row k)) 10
def cCo (I : mIT) (A : aPl) (row : Nat → Int32) (n : Nat) : Prop := I 56 4 = nI n ∧ n ≤ 61 ∧ (0 < n → rI A I 58 0 (sDs A row (n - 1))) ∧ laid I A row n
theorem c_setNote {Fu : Nat} {I : mIT} {k r : Nat} {v : Int32} (hk : k < 61) (hr : r < 10) : f_X1_setNote Fu I (nI k) (nI r) v = some (mU I 59 (k * 10 + r) v) := by
  unfold f_X1_setNote
  simp (disch := omega) only [mr_10, nI_add, q_lt0, q_le, if_false, q_cl, q_GI]
  rw [if_neg (by omega)]
theorem c_noteOn {Fu : Nat} {I : mIT} {k r : Nat} (hk : k < 61) (hr : r < 10) : f_X1_noteOn Fu I (nI k) (nI r) = some (I 59 (k * 10 + r)) := by
  unfold f_X1_noteOn
  simp (disch := omega) only [mr_10, nI_add, q_lt0, q_le, if_false, q_cl, q_GI]
  rw [if_neg (by omega)]
theorem c_sndOn {Fu : Nat} {I : mIT} {k : Nat} (hk : k < 61) : f_X1_soundingOn Fu I (nI k) = some (I 60 k) := by
  unfold f_X1_soundingOn
  simp (disch := omega) only [q_lt0, q_le, if_false, q_cl, q_GI]
  rw [if_neg (by omega)]
theorem c_firmOn {Fu : Nat} {I : mIT} {k : Nat} (hk : k < 61) : f_X1_firmOn Fu I (nI k) = some (I 61 k) := by
  unfold f_X1_firmOn
  simp (disch := omega) only [q_lt0, q_le, if_false, q_cl, q_GI]
  rw [if_neg (by omega)]
theorem c_layDay {Fu : Nat} {I : mIT} {k p D : Nat} {A : aPl} {row : Nat → Int32} (hF : 701 < Fu) (hp : p = 3 ∨ p = 22) (h : cPl I p A) (ho : okPl A) (hr : rI A I 58 0 row) (hk : okR A D row) (hD : D < 2000) (hk6 : k < 61) : wp (f_X1_layDay Fu I p (nI k)) (fun J => (∀ c, c ≠ 59 → c ≠ 60 → c ≠ 61 → c ≠ p + 8 → c ≠ p + 9 → J c = I c) ∧ (∀ r, r < pR A → J 59 (k * 10 + r) = sNt A row r 0) ∧ (∀ j, j < k * 10 → J 59 j = I 59 j) ∧ J 60 k = mkB (sSd A row) 10 ∧ J 61 k = mkB (sFm A row) 10 ∧ ∀ j, j ≠ k → J 60 j = I 60 j ∧ J 61 j = I 61 j) := by
  have h10 := ho.1
  unfold f_X1_layDay
  rw [if_neg (by rw [q_lt0 (by omega)]; simp), if_neg (by rw [q_le (by omega) (by omega)]; omega), if_pos (by rw [q_lt (by omega) (by omega)]; omega)]
  unfold w_X1_layDay_31
  refine wp_loop (fun dd (s : Int32 × Int32 × Int32 × Int32 × mIT) => ∃ (i : Nat) (J : mIT), s = (nI k, mkB (fun r => decide (0 ≤ row (31 + r))) i, mkB (fun r => decide (row (31 + r) ≠ -2) && decide (row (21 + r) < pL A)) i, nI i, J) ∧ dd = pR A - i ∧ i ≤ pR A ∧ (∀ c, c ≠ 59 → c ≠ p + 8 → c ≠ p + 9 → J c = I c) ∧ (∀ r, r < i → J 59 (k * 10 + r) = sNt A row r 0) ∧ (∀ j, j < k * 10 → J 59 j = I 59 j)) _ ?_ Fu (pR A) _ ⟨0, I, rfl, rfl, by omega, fun _ _ _ _ => rfl, fun _ hj => absurd hj (by omega), fun _ _ => rfl⟩ (by omega)
  rintro dd s self ⟨i, J, rfl, hdd, hi, f1, f2, f3⟩ hself
  have hJp : cPl J p A := cPl_fr h (fun c c1 c2 c3 c4 _ _ => f1 c (by rcases hp with rfl | rfl <;> omega) c3 c4)
  have hJr : rI A J 58 0 row := fun j hj => by rw [f1 58 (by decide) (by rcases hp with rfl | rfl <;> decide) (by rcases hp with rfl | rfl <;> decide)]; exact hr j hj
  show wp (b_X1_layDay_31 Fu p self (nI k) _ _ (nI i) J) _
  unfold b_X1_layDay_31
  refine wp_i (by rw [hJp.1, q_le (by omega) (by omega)]) (fun hle => ?_) (fun hlt => ?_)
  · have hie : i = pR A := by omega
    subst hie
    simp (disch := omega) only [q_GI, q_cl]
    refine wp_s ⟨fun c c1 c2 c3 c4 c5 => ?_, fun r hr => ?_, fun j hj => ?_, ?_, ?_, fun j hj => ⟨?_, ?_⟩⟩
    · rw [mU_other c3, mU_other c2]; exact f1 c c1 c4 c5
    · rw [mU_other (by decide), mU_other (by decide)]; exact f2 r hr
    · rw [mU_other (by decide), mU_other (by decide)]; exact f3 j hj
    · rw [mU_other (by decide), q_U, mkB_and (by omega), ← mkB_10 h10 sSd_o]
      refine mkB_c (fun r hr => ?_)
      unfold sSd
      rw [decide_eq_true hr, Bool.true_and]
      by_cases e : 0 ≤ row (31 + r)
      · rw [decide_eq_true e, Bool.true_and, Bool.true_and, decide_eq_true (show row (31 + r) ≠ -2 from fun e2 => by rw [e2] at e; exact absurd e (by decide)), Bool.true_and]
      · rw [decide_eq_false e, Bool.false_and, Bool.false_and]
    · rw [q_U, ← mkB_10 h10 sFm_o]
      refine mkB_c (fun r hr => ?_)
      unfold sFm
      rw [decide_eq_true hr, Bool.true_and]
    · rw [mU_other (by decide), q_Uj hj, f1 60 (by decide) (by rcases hp with rfl | rfl <;> decide) (by rcases hp with rfl | rfl <;> decide)]
    · rw [q_Uj hj, mU_other (by decide), f1 61 (by decide) (by rcases hp with rfl | rfl <;> decide) (by rcases hp with rfl | rfl <;> decide)]
  · have hi2 : i < pR A := by omega
    have main : ∀ hv fm, hv = mkB (fun r => decide (0 ≤ row (31 + r))) (i + 1) → fm = (if (decide (row (31 + i) ≠ -2) && decide (row (21 + i) < pL A)) = true then b1 i else 0) → wp (b_X1_layDay_100 Fu p self (nI k) hv (nI i) (mkB (fun r => decide (row (31 + r) ≠ -2) && decide (row (21 + r) < pL A)) i) fm J) (fun J => (∀ c, c ≠ 59 → c ≠ 60 → c ≠ 61 → c ≠ p + 8 → c ≠ p + 9 → J c = I c) ∧ (∀ r, r < pR A → J 59 (k * 10 + r) = sNt A row r 0) ∧ (∀ j, j < k * 10 → J 59 j = I 59 j) ∧ J 60 k = mkB (sSd A row) 10 ∧ J 61 k = mkB (sFm A row) 10 ∧ ∀ j, j ≠ k → J 60 j = I 60 j ∧ J 61 j = I 61 j) := by
      rintro hv fm rfl rfl
      unfold b_X1_layDay_100
      refine wp_B (c_note (k := 57) hF hJp ho hJr hk hD hi2) ?_
      rintro ⟨v, J'⟩ ⟨e1, e2⟩
      dsimp only at e1 e2 ⊢
      refine wp_Be (c_setNote hk6 (by omega)) ?_
      refine hself (pR A - (i + 1)) _ (by omega) ⟨i + 1, _, by rw [q_1]; rfl, rfl, by omega, fun c c1 c2 c3 => ?_, fun r hr => ?_, fun j hj => ?_⟩
      · rw [mU_other c1, e2 c c2 c3]; exact f1 c c1 c2 c3
      · by_cases e : r = i
        · subst e; rw [q_U, e1]
        · rw [q_Uj (by omega), e2 59 (by rcases hp with rfl | rfl <;> decide) (by rcases hp with rfl | rfl <;> decide)]; exact f2 r (by omega)
      · rw [q_Uj (by omega), e2 59 (by rcases hp with rfl | rfl <;> decide) (by rcases hp with rfl | rfl <;> decide)]; exact f3 j hj
    have hpl : J 58 (31 + i) = row (31 + i) := by have := hJr _ (lv_31 hi2); rwa [Nat.zero_add] at this
    have hso : J 58 (21 + i) = row (21 + i) := by have := hJr _ (lv_21 hi2); rwa [Nat.zero_add] at this
    have m65 : ∀ s1, s1 = (if decide (0 ≤ row (31 + i)) = true then b1 i else 0) → wp (b_X1_layDay_65 Fu p self (nI k) (mkB (fun r => decide (row (31 + r) ≠ -2) && decide (row (21 + r) < pL A)) i) (nI i) (row (31 + i)) (mkB (fun r => decide (0 ≤ row (31 + r))) i) s1 J) (fun J => (∀ c, c ≠ 59 → c ≠ 60 → c ≠ 61 → c ≠ p + 8 → c ≠ p + 9 → J c = I c) ∧ (∀ r, r < pR A → J 59 (k * 10 + r) = sNt A row r 0) ∧ (∀ j, j < k * 10 → J 59 j = I 59 j) ∧ J 60 k = mkB (sSd A row) 10 ∧ J 61 k = mkB (sFm A row) 10 ∧ ∀ j, j ≠ k → J 60 j = I 60 j ∧ J 61 j = I 61 j) := by
      intro s1 hs1
      subst hs1
      unfold b_X1_layDay_65
      refine wp_f (fun e => ?_) (fun e => ?_)
      · unfold b_X1_layDay_99
        exact main _ _ (mkB_s _ _).symm (by rw [e]; rfl)
      · refine wp_Be (c_soft (by omega)) ?_
        rw [show J (57 + 1) (21 + i) = row (21 + i) from hso, hJp.2.2.1]
        refine wp_f (fun e2 => ?_) (fun e2 => ?_)
        · unfold b_X1_layDay_99
          exact main _ _ (mkB_s _ _).symm (by rw [decide_eq_false (Int32.not_lt.mpr e2), Bool.and_false, if_neg (by simp)])
        · exact main _ _ (mkB_s _ _).symm (by rw [decide_eq_true (show row (31 + i) ≠ -2 from e), decide_eq_true (Int32.not_le.mp e2), Bool.and_true, if_pos rfl]; rfl)
    refine wp_Be (c_place (by omega)) ?_
    rw [show J (57 + 1) (31 + i) = row (31 + i) from hpl]
    refine wp_f (fun e => ?_) (fun e => ?_)
    · exact m65 _ (by rw [decide_eq_false (Int32.not_le.mpr e), if_neg (by simp)])
    · exact m65 _ (by rw [decide_eq_true (Int32.not_lt.mp e), if_pos rfl]; rfl)
theorem mCp_o {I : mIT} {a b s t n c : Nat} (h : c ≠ b) : mCp I a b s t n c = I c := by
  show (if c = b then va_cpy (I a) (I b) s t n else I c) = I c
  rw [if_neg h]
theorem mCp_i {I : mIT} {a b s t n j : Nat} (h1 : t ≤ j) (h2 : j < t + n) : mCp I a b s t n b j = I a (s + (j - t)) := by
  show (if b = b then va_cpy (I a) (I b) s t n else I b) j = _
  rw [if_pos rfl, pk_cpy_in h1 h2]
theorem mCp_x {I : mIT} {a b s t n j : Nat} (h : j < t ∨ t + n ≤ j) : mCp I a b s t n b j = I b j := by
  show (if b = b then va_cpy (I a) (I b) s t n else I b) j = _
  rw [if_pos rfl, pk_cpy_out h]
theorem c_copy9 {Fu : Nat} {I : mIT} {k m : Nat} : f_X9_copyFrom Fu I k m = some (mCp I (m + 1) (k + 1) 0 0 53) := by
  unfold f_X9_copyFrom
  rw [q_G (by decide)]
  rfl
/-- the class's cells that stay over a question, the course's aside -/
def kC (c : Nat) : Bool := !(c == 11 || c == 12 || c == 17 || c == 18 || c == 30 || c == 31 || c == 36 || c == 37 || (decide (56 ≤ c) && decide (c ≤ 65)) || (decide (69 ≤ c) && decide (c ≤ 74)))
def cS (I J : mIT) : Prop := ∀ c, kC c = true → J c = I c
theorem cS_r (I : mIT) : cS I I := fun _ _ => rfl
theorem cS_t {I J K : mIT} (h1 : cS I J) (h2 : cS J K) : cS I K := fun c h => by rw [h2 c h, h1 c h]
theorem cS_u {I J : mIT} {k i : Nat} {v : Int32} (h : cS I J) (hk : kC k = false) : cS I (mU J k i v) := fun c hc => by
  rw [mU_other (fun e => by subst e; rw [hk] at hc; exact nomatch hc)]
  exact h c hc
/-- what a question wants of the class: n days of the course are laid -/
def cQ (I : mIT) (R : mRT) (p : Nat) (A : aPl) (row : Nat → Int32) (n : Nat) : Prop := R 0 3 = some p ∧ (p = 3 ∨ p = 22) ∧ cPl I p A ∧ rI A I 41 0 row ∧ cCo I A row n
theorem cCo_f {I J : mIT} {A : aPl} {row : Nat → Int32} {n : Nat} (h : cCo I A row n) (f : ∀ c, 56 ≤ c → c ≤ 61 → J c = I c) : cCo J A row n := by
  unfold cCo rI laid
  rw [f 56 (by omega) (by omega), f 58 (by omega) (by omega), f 59 (by omega) (by omega), f 60 (by omega) (by omega), f 61 (by omega) (by omega)]
  exact h
theorem cPl_s {I J : mIT} {p : Nat} {A : aPl} (hp : p = 3 ∨ p = 22) (h : cPl I p A) (f : cS I J) : cPl J p A := cPl_fr h (fun c c1 c2 c3 c4 c5 c6 => f c (by
    unfold kC
    rcases hp with rfl | rfl
    · rw [Bool.not_eq_true', Bool.eq_false_iff]
      intro e
      simp only [Bool.or_eq_true, Bool.and_eq_true, beq_iff_eq, decide_eq_true_eq] at e
      omega
    · rw [Bool.not_eq_true', Bool.eq_false_iff]
      intro e
      simp only [Bool.or_eq_true, Bool.and_eq_true, beq_iff_eq, decide_eq_true_eq] at e
      omega))
/-- a question that leaves the course as it is -/
theorem cQ_s {I J : mIT} {R : mRT} {p : Nat} {A : aPl} {row : Nat → Int32} {n : Nat} (h : cQ I R p A row n) (f : cS I J) (g : ∀ c, 56 ≤ c → c ≤ 61 → J c = I c) : cQ J R p A row n := ⟨h.1, h.2.1, cPl_s h.2.1 h.2.2.1 f, fun j hj => by rw [f 41 rfl]; exact h.2.2.2.1 j hj, cCo_f h.2.2.2.2 g⟩
theorem cS_n {I J : mIT} {p : Nat} (hp : p = 3 ∨ p = 22) (f : ∀ c, c ≠ p + 8 → c ≠ p + 9 → J c = I c) : cS I J := fun c hc => by
  rcases hp with rfl | rfl
  · exact f c (fun e => by subst e; exact nomatch hc) (fun e => by subst e; exact nomatch hc)
  · exact f c (fun e => by subst e; exact nomatch hc) (fun e => by subst e; exact nomatch hc)
theorem cQ_n {I J : mIT} {R : mRT} {p : Nat} {A : aPl} {row : Nat → Int32} {n : Nat} (h : cQ I R p A row n) (f : ∀ c, c ≠ p + 8 → c ≠ p + 9 → J c = I c) : cQ J R p A row n := cQ_s h (cS_n h.2.1 f) (fun c c1 c2 => by
  rcases h.2.1 with rfl | rfl
  · exact f c (by omega) (by omega)
  · exact f c (by omega) (by omega))
theorem c_lay {Fu : Nat} {I : mIT} {R : mRT} {p n m : Nat} {A : aPl} {row : Nat → Int32} (hF : 701 < Fu) (ho : okPl A) (hk : okR A 999 row) (h : cQ I R p A row n) (hm : m ≤ 60) : wp (f_X1_layTo Fu I p 40 (nI m)) (fun J => cS I J ∧ ∃ n', n ≤ n' ∧ m < n' ∧ cQ J R p A row n') := by
  obtain ⟨hR, hp, hpl, hrow, hc1, hc2, hc3, hc4⟩ := h
  have core : ∀ I1 : mIT, (∀ c, c ≠ 58 → I1 c = I c) → rI A I1 58 0 (sDs A row (n - 1)) → wp (w_X1_layTo_21 Fu p 40 Fu (nI m) (nI n) I1) (fun J => cS I J ∧ ∃ n', n ≤ n' ∧ m < n' ∧ cQ J R p A row n') := by
    intro I1 hI1 hw1
    unfold w_X1_layTo_21
    refine wp_loop (fun dd (s : Int32 × Int32 × mIT) => ∃ (i : Nat) (J : mIT), s = (nI m, nI i, J) ∧ dd = 61 - i ∧ i ≤ 61 ∧ n ≤ i ∧ rI A J 58 0 (sDs A row (i - 1)) ∧ laid J A row i ∧ J 56 4 = nI i ∧ ∀ c, (c < 56 ∨ 61 < c) → c ≠ p + 8 → c ≠ p + 9 → c ≠ p + 14 → c ≠ p + 15 → J c = I c) _ ?_ Fu (61 - n) _ ⟨n, I1, rfl, rfl, hc2, by omega, hw1, ?_, by rw [hI1 56 (by decide)]; exact hc1, fun c hc _ _ _ _ => hI1 c (by omega)⟩ (by omega)
    · rintro dd s self ⟨i, J, rfl, hdd, hi, hni, g1, g2, g3, g4⟩ hself
      have fin : m < i → cS I J ∧ ∃ n', n ≤ n' ∧ m < n' ∧ cQ J R p A row n' := fun hmi => by
        have hcs : cS I J := fun c hc => by
          rcases hp with rfl | rfl
          · refine g4 c ?_ (fun e => by subst e; exact nomatch hc) (fun e => by subst e; exact nomatch hc) (fun e => by subst e; exact nomatch hc) (fun e => by subst e; exact nomatch hc)
            apply Classical.byContradiction
            intro e
            unfold kC at hc
            rw [Bool.not_eq_true', Bool.eq_false_iff] at hc
            apply hc
            simp only [Bool.or_eq_true, Bool.and_eq_true, beq_iff_eq, decide_eq_true_eq]
            omega
          · refine g4 c ?_ (fun e => by subst e; exact nomatch hc) (fun e => by subst e; exact nomatch hc) (fun e => by subst e; exact nomatch hc) (fun e => by subst e; exact nomatch hc)
            apply Classical.byContradiction
            intro e
            unfold kC at hc
            rw [Bool.not_eq_true', Bool.eq_false_iff] at hc
            apply hc
            simp only [Bool.or_eq_true, Bool.and_eq_true, beq_iff_eq, decide_eq_true_eq]
            omega
        exact ⟨hcs, i, hni, hmi, hR, hp, cPl_s hp hpl hcs, fun j hj => by rw [hcs 41 rfl]; exact hrow j hj, g3, hi, fun _ => g1, g2⟩
      show wp (b_X1_layTo_21 Fu p 40 self (nI m) (nI i) J) _
      unfold b_X1_layTo_21
      refine wp_i (q_lt (by omega) (by omega)) (fun hmi => wp_s (fin hmi)) (fun hmi => ?_)
      refine wp_i (gt_60 (by omega)) (fun h60 => absurd h60 (by omega)) (fun h60 => ?_)
      have hJp : cPl J p A := cPl_fr hpl (fun c c1 c2 c3 c4 c5 c6 => g4 c (by rcases hp with rfl | rfl <;> omega) c3 c4 c5 c6)
      have hds := okR_ds ho hk i
      have step : ∀ J1 : mIT, rI A J1 58 0 (sDs A row i) → (∀ c, c ≠ 58 → c ≠ p + 14 → c ≠ p + 15 → J1 c = J c) → wp (b_X1_layTo_58 Fu p 40 self (nI m) (nI i) J1) (fun J => cS I J ∧ ∃ n', n ≤ n' ∧ m < n' ∧ cQ J R p A row n') := by
        intro J1 e1 e2
        unfold b_X1_layTo_58
        have hJ1p : cPl J1 p A := cPl_fr hJp (fun c c1 c2 c3 c4 c5 c6 => e2 c (by rcases hp with rfl | rfl <;> omega) c5 c6)
        refine wp_B (c_layDay hF hp hJ1p ho e1 hds (by omega) (by omega)) ?_
        rintro K ⟨u1, u2, u3, u4, u5, u6⟩
        have q58 : ∀ c, 56 ≤ c → c ≠ p + 8 ∧ c ≠ p + 9 ∧ c ≠ p + 14 ∧ c ≠ p + 15 := fun c hc => by rcases hp with rfl | rfl <;> omega
        refine hself (61 - (i + 1)) _ (by omega) ⟨i + 1, _, by rw [q_1], rfl, by omega, by omega, ?_, ?_, by rw [q_U], fun c hc c8 c9 c14 c15 => ?_⟩
        · intro j hj
          rw [mU_other (by decide), u1 58 (by decide) (by decide) (by decide) (q58 58 (by omega)).1 (q58 58 (by omega)).2.1]
          exact e1 j hj
        · intro k hk1
          rw [mU_other (by decide), mU_other (by decide), mU_other (by decide)]
          by_cases e : k = i
          · subst e
            exact ⟨u2, u4, u5⟩
          · obtain ⟨t1, t2, t3⟩ := g2 k (by omega)
            have q := q58 59 (by omega)
            have q2 := q58 60 (by omega)
            have q3 := q58 61 (by omega)
            refine ⟨fun r hr => ?_, ?_, ?_⟩
            · have := ho.1
              rw [u3 _ (by omega), e2 59 (by decide) q.2.2.1 q.2.2.2]; exact t1 r hr
            · rw [(u6 k e).1, e2 60 (by decide) q2.2.2.1 q2.2.2.2]; exact t2
            · rw [(u6 k e).2, e2 61 (by decide) q3.2.2.1 q3.2.2.2]; exact t3
        · rw [mU_other (by omega), u1 c (by omega) (by omega) (by omega) c8 c9, e2 c (by omega) c14 c15]
          exact g4 c hc c8 c9 c14 c15
      refine wp_i (q_le0 (by omega)) (fun h0 => ?_) (fun h0 => ?_)
      · subst h0
        exact step J g1 (fun _ _ _ _ => rfl)
      · obtain ⟨d, hd, hdD⟩ := (okR_ds ho hk (i - 1)).1
        have hJ0 : J 58 0 = nI d := by have := g1 0 lv_0; rw [Nat.zero_add, hd] at this; exact this
        refine wp_Be c_day ?_
        rw [show J (57 + 1) 0 = nI d from hJ0]
        refine wp_Be (c_weather hJp ho (by omega)) ?_
        refine wp_B (c_pass (k := 57) hF hJp ho g1 (by rcases hp with rfl | rfl <;> omega)) ?_
        rintro J1 ⟨e1, e2⟩
        refine step J1 ?_ e2
        have hi1 : sDs A row i = sNx A (sDs A row (i - 1)) := by
          obtain ⟨i', rfl⟩ : ∃ i', i = i' + 1 := ⟨i - 1, by omega⟩
          rfl
        rw [hi1]
        unfold sNx
        rw [hd, q_cl (by omega)]
        exact e1
    · intro k hk1
      rw [hI1 59 (by decide), hI1 60 (by decide), hI1 61 (by decide)]
      exact hc4 k hk1
  unfold f_X1_layTo
  refine wp_i (by rw [hc1, q_eq0 (by omega)]) (fun h0 => ?_) (fun h0 => ?_)
  · subst h0
    refine wp_Be c_copy9 ?_
    rw [mCp_o (by decide), hc1]
    refine core _ (fun c hc => mCp_o hc) (fun j hj => ?_)
    have h53 := live_53 ho hj
    rw [Nat.zero_add, mCp_i (by omega) (by omega), Nat.zero_add, Nat.sub_zero]
    have := hrow j hj
    rwa [Nat.zero_add] at this
  · rw [hc1]
    exact core I (fun _ _ => rfl) (hc3 (by omega))
theorem c_now {Fu : Nat} {I : mIT} {R : mRT} {p n : Nat} {A : aPl} {row : Nat → Int32} (hF : 701 < Fu) (ho : okPl A) (hk : okR A 999 row) (h : cQ I R p A row n) : wp (f_X11_soundingNow Fu R I) (fun y => y.1 = mkB (sSd A row) 10 ∧ cS I y.2 ∧ ∃ n', 0 < n' ∧ cQ y.2 R p A row n') := by
  unfold f_X11_soundingNow
  refine wp_Be h.1 ?_
  refine wp_B (c_lay (m := 0) hF ho hk h (by omega)) ?_
  rintro J ⟨h1, n', h2, h3, h4⟩
  refine wp_Be (c_sndOn (k := 0) (by omega)) ?_
  exact wp_s ⟨(h4.2.2.2.2.2.2.2 0 h3).2.1, h1, n', h3, h4⟩
theorem c_bits {Fu : Nat} {I : mIT} {A : aPl} {row : Nat → Int32} {n k : Nat} {p : Nat → Bool} (hF : 701 < Fu) (h10 : pR A ≤ 10) (h : laid I A row n) (hk : k < n) (hn : n ≤ 61) (hp : ∀ r, pR A ≤ r → p r = false) : f_X1_noteBits Fu I (nI k) (mkB p 10) = some (sNB A (sDs A row k) p) := by
  unfold f_X1_noteBits w_X1_noteBits_5
  refine q_for (fun i => (nI k, mkB p 10, orF (fun r => if p r then (1 : Int32) <<< (sNt A (sDs A row k) r 0 &&& 31) else 0) i, nI i)) 10 _ ?_ ?_ Fu (by omega)
  · intro i hi self
    show b_X1_noteBits_5 Fu I self (nI k) (mkB p 10) (orF _ i) (nI i) = _
    unfold b_X1_noteBits_5
    rw [if_neg (by rw [ge_10 (by omega)]; omega), q_1, orF]
    simp (disch := omega) only [b_at1]
    rw [b_mkB (by omega) (by omega), decide_eq_true hi, Bool.true_and]
    by_cases e : p i = true
    · have hi2 : i < pR A := by
        apply Classical.byContradiction
        intro e2
        rw [hp i (by omega)] at e
        exact nomatch e
      rw [if_pos e, if_pos e, c_noteOn (by omega) (by omega), q_B, (h k hk).1 i hi2]
    · rw [if_neg e, if_neg e, or_z]
  · intro self
    show b_X1_noteBits_5 Fu I self (nI k) (mkB p 10) (orF _ 10) (nI 10) = _
    unfold b_X1_noteBits_5
    rw [if_pos (by decide)]
    rfl
theorem tBits_orF (U : Nat → Int32) : ∀ n, tBits U n = orF (fun k => (1 : Int32) <<< (U k &&& 31)) n
  | 0 => rfl
  | n + 1 => by rw [tBits, orF, tBits_orF U n]
theorem c_isTune {Fu : Nat} {I : mIT} {p : Nat} {A : aPl} {v : Int32} (h : cPl I p A) (ho : okPl A) : f_X5_isTuneIn Fu I p v = some (if sTu A v then 1 else 0) := by
  unfold f_X5_isTuneIn
  rw [h.2.2.2.2.1, tBits_orF]
  have key : (orF (fun k => (1 : Int32) <<< (pU A k &&& 31)) (pT A) &&& (v ^^^ (-1)) = 0) ↔ sTu A v = true := by
    unfold sTu
    rw [decide_eq_true_iff]
    constructor
    · intro e k hk
      obtain ⟨t, ht, hte⟩ := ho.2.2.2.2.2.2.1 k hk
      rw [hte, q_cl (by omega)]
      have e2 : bt (orF (fun k => (1 : Int32) <<< (pU A k &&& 31)) (pT A) &&& (v ^^^ (-1))) t = false := by rw [e]; exact b_0 t
      rw [b_and, b_xm1 _ (by omega), (b_orF (pT A)).mpr ⟨k, hk, by rw [hte, b1_d, b_b1 (by omega) (by omega), decide_eq_true rfl]⟩, Bool.true_and] at e2
      cases hv : bt v t
      · rw [hv] at e2; exact nomatch e2
      · rfl
    · intro e
      apply b_ext
      intro i hi
      rw [b_0, b_and, b_xm1 _ hi, Bool.eq_false_iff]
      intro e2
      rw [Bool.and_eq_true, b_orF] at e2
      obtain ⟨⟨k, hk, hb⟩, e3⟩ := e2
      obtain ⟨t, ht, hte⟩ := ho.2.2.2.2.2.2.1 k hk
      rw [hte, b1_d, b_b1 (by omega) hi, decide_eq_true_iff] at hb
      have e4 := e k hk
      rw [hte, q_cl (by omega), ← hb] at e4
      rw [e4] at e3
      exact nomatch e3
  by_cases e : sTu A v = true
  · rw [if_pos (key.mpr e), if_pos e]
  · rw [if_neg (fun q => e (key.mp q)), if_neg e]
