/-! what sounds, what is firm, where they are; notes as bits; the tune -/
def sSd (A : aPl) (row : Nat → Int32) (r : Nat) : Bool := decide (r < pR A) && (decide (0 ≤ row (31 + r)) && decide (row (21 + r) < pL A))
def sFm (A : aPl) (row : Nat → Int32) (r : Nat) : Bool := decide (r < pR A) && (decide (row (31 + r) ≠ -2) && decide (row (21 + r) < pL A))
def sWh (A : aPl) (row : Nat → Int32) (wh : Int32) (r : Nat) : Bool := decide (r < pR A) && decide (row (31 + r) = wh)
def sNB (A : aPl) (row : Nat → Int32) (p : Nat → Bool) : Int32 := orF (fun r => if p r then (1 : Int32) <<< (sNt A row r 0 &&& 31) else 0) 10
def sTu (A : aPl) (v : Int32) : Bool := decide (∀ k, k < pT A → bt v (pU A k).toNatClampNeg = true)
theorem mkB_10 {p : Nat → Bool} {n : Nat} (hn : n ≤ 10) (h : ∀ r, n ≤ r → p r = false) : mkB p n = mkB p 10 := (orF_z 10 hn (fun r h1 _ => by rw [h r h1]; rfl)).symm
theorem sNB_n {A : aPl} {row : Nat → Int32} {p : Nat → Bool} {n : Nat} (hn : n ≤ 10) (h : ∀ r, n ≤ r → p r = false) : orF (fun r => if p r then (1 : Int32) <<< (sNt A row r 0 &&& 31) else 0) n = sNB A row p := (orF_z 10 hn (fun r h1 _ => by rw [h r h1]; rfl)).symm
theorem sSd_o {A : aPl} {row : Nat → Int32} : ∀ r, pR A ≤ r → sSd A row r = false := fun r h => by unfold sSd; rw [decide_eq_false (by omega)]; rfl
theorem sFm_o {A : aPl} {row : Nat → Int32} : ∀ r, pR A ≤ r → sFm A row r = false := fun r h => by unfold sFm; rw [decide_eq_false (by omega)]; rfl
theorem sWh_o {A : aPl} {row : Nat → Int32} {wh : Int32} : ∀ r, pR A ≤ r → sWh A row wh r = false := fun r h => by unfold sWh; rw [decide_eq_false (by omega)]; rfl
theorem sFd_all {β : Type} {p : Nat → Prop} [DecidablePred p] {a b : β} : ∀ k i, sFd (fun i => if p i then none else some a) b i k = if (∀ j, j < k → p (i + j)) then b else a := by
  intro k
  induction k with
  | zero => intro i; rw [if_pos (fun j hj => absurd hj (by omega))]; rfl
  | succ k ih =>
    intro i
    unfold sFd
    by_cases h : p i
    · rw [if_pos h]
      dsimp only
      rw [ih]
      by_cases h2 : ∀ j, j < k → p (i + 1 + j)
      · rw [if_pos h2, if_pos]
        intro j hj
        cases j with
        | zero => exact h
        | succ j => have := h2 j (by omega); rwa [show i + 1 + j = i + (j + 1) by omega] at this
      · rw [if_neg h2, if_neg]
        intro h3
        exact h2 (fun j hj => by have := h3 (j + 1) (by omega); rwa [show i + (j + 1) = i + 1 + j by omega] at this)
    · rw [if_neg h, if_neg (fun h3 => h (h3 0 (by omega)))]
theorem m_sounds {Fu : Nat} {I : mIT} {b r : Nat} {A : aPl} {row : Nat → Int32} (h : mPl I A) (ho : okPl A) (hb : b ≤ 53) (hr : rI A I 89 b row) (hrr : r < pR A) : f_X12_sounds Fu I (nI b) (nI r) = some (if sSd A row r then 1 else 0) := by
  have h10 := ho.1
  unfold f_X12_sounds
  rw [m_hang1 hb (by omega) (hr _ (lv_31 hrr)), q_B]
  simp (disch := omega) only [a_21, nI_add, q_GI, q_cl, Nat.add_assoc, hr _ (lv_21 hrr), h.2.2.1]
  unfold sSd
  rw [decide_eq_true hrr, Bool.true_and]
  by_cases h1 : row (31 + r) < 0
  · rw [if_pos h1, if_pos rfl, decide_eq_false (Int32.not_le.mpr h1)]; rfl
  · rw [if_neg h1, if_neg (by decide), decide_eq_true (Int32.not_lt.mp h1), Bool.true_and]
    by_cases h2 : pL A ≤ row (21 + r)
    · rw [if_pos h2, decide_eq_false (Int32.not_lt.mpr h2)]; rfl
    · rw [if_neg h2, decide_eq_true (Int32.not_le.mp h2)]; rfl
theorem m_soundingIn {Fu : Nat} {I : mIT} {b : Nat} {A : aPl} {row : Nat → Int32} (hF : 701 < Fu) (h : mPl I A) (ho : okPl A) (hb : b ≤ 53) (hr : rI A I 89 b row) : f_X12_soundingIn Fu I (nI b) = some (mkB (sSd A row) 10) := by
  have h10 := ho.1
  rw [← mkB_10 h10 sSd_o]
  unfold f_X12_soundingIn w_X12_soundingIn_4
  refine q_for (fun i => (nI b, mkB (sSd A row) i, nI i)) (pR A) _ ?_ ?_ Fu (by omega)
  · intro i hi self
    show b_X12_soundingIn_4 Fu I self (nI b) (mkB (sSd A row) i) (nI i) = _
    unfold b_X12_soundingIn_4
    rw [h.1, if_neg (by rw [q_le (by omega) (by omega)]; omega), m_sounds h ho hb hr hi, q_B, mkB_s, q_1]
    by_cases e : sSd A row i = true
    · rw [if_pos e, if_neg (by decide), if_pos e]; rfl
    · rw [if_neg e, if_pos rfl, if_neg e]
  · intro self
    show b_X12_soundingIn_4 Fu I self (nI b) (mkB (sSd A row) (pR A)) (nI (pR A)) = _
    unfold b_X12_soundingIn_4
    rw [h.1, if_pos (by rw [q_le (by omega) (by omega)]; omega)]
theorem m_whereIn {Fu : Nat} {I : mIT} {b : Nat} {A : aPl} {row : Nat → Int32} {wh : Int32} (hF : 701 < Fu) (h : mPl I A) (ho : okPl A) (hb : b ≤ 53) (hr : rI A I 89 b row) : f_X12_whereIn Fu I (nI b) wh = some (mkB (sWh A row wh) 10) := by
  have h10 := ho.1
  rw [← mkB_10 h10 sWh_o]
  unfold f_X12_whereIn w_X12_whereIn_5
  refine q_for (fun i => (nI b, wh, mkB (sWh A row wh) i, nI i)) (pR A) _ ?_ ?_ Fu (by omega)
  · intro i hi self
    show b_X12_whereIn_5 Fu I self (nI b) wh (mkB (sWh A row wh) i) (nI i) = _
    unfold b_X12_whereIn_5
    rw [h.1, if_neg (by rw [q_le (by omega) (by omega)]; omega)]
    simp (disch := omega) only [a_31, nI_add, q_GI, q_cl, Nat.add_assoc, hr _ (lv_31 hi), q_1, mkB_s]
    have e : sWh A row wh i = decide (row (31 + i) = wh) := by unfold sWh; rw [decide_eq_true hi, Bool.true_and]
    rw [e]
    by_cases e2 : row (31 + i) = wh
    · rw [if_pos e2, decide_eq_true e2, if_pos rfl]; rfl
    · rw [if_neg e2, decide_eq_false e2, if_neg (by simp)]
  · intro self
    show b_X12_whereIn_5 Fu I self (nI b) wh (mkB (sWh A row wh) (pR A)) (nI (pR A)) = _
    unfold b_X12_whereIn_5
    rw [h.1, if_pos (by rw [q_le (by omega) (by omega)]; omega)]
theorem m_notesIn {Fu : Nat} {I : mIT} {b D : Nat} {A : aPl} {row : Nat → Int32} (hF : 701 < Fu) (h : mPl I A) (ho : okPl A) (hw : I 75 47 = -1) (hb : b ≤ 53) (hr : rI A I 89 b row) (hk : okR A D row) (hD : D < 2000) : wp (f_X12_notesIn Fu I (nI b)) (fun y => y.1 = sNB A row (sSd A row) ∧ ∀ c, c ≠ 91 → c ≠ 92 → y.2 c = I c) := by
  have h10 := ho.1
  rw [← sNB_n h10 sSd_o]
  unfold f_X12_notesIn w_X12_notesIn_4
  refine wp_loop (fun dd (s : Int32 × Int32 × Int32 × mIT) => ∃ (i : Nat) (J : mIT), s = (nI b, orF (fun r => if sSd A row r then (1 : Int32) <<< (sNt A row r 0 &&& 31) else 0) i, nI i, J) ∧ dd = pR A - i ∧ i ≤ pR A ∧ ∀ c, c ≠ 91 → c ≠ 92 → J c = I c) _ ?_ Fu (pR A) _ ⟨0, I, rfl, rfl, by omega, fun _ _ _ => rfl⟩ (by omega)
  rintro dd s self ⟨i, J, rfl, hdd, hi, f1⟩ hself
  have hJ : mPl J A := mPl_f2 h (fun c _ c2 c3 => f1 c c2 c3)
  have hJr : rI A J 89 b row := fun j hj => by rw [f1 89 (by decide) (by decide)]; exact hr j hj
  show wp (b_X12_notesIn_4 Fu self (nI b) _ (nI i) J) _
  unfold b_X12_notesIn_4
  refine wp_i (by rw [hJ.1, q_le (by omega) (by omega)]) (fun hle => ?_) (fun hlt => ?_)
  · have hie : i = pR A := by omega
    subst hie
    exact wp_s ⟨rfl, f1⟩
  · refine wp_Be (m_sounds hJ ho hb hJr (by omega)) ?_
    by_cases e : sSd A row i = true
    · rw [if_pos e, if_neg (by decide)]
      refine wp_B (m_noteOf hF hJ ho (by rw [f1 75 (by decide) (by decide)]; exact hw) hb hJr hk hD (by omega)) ?_
      rintro ⟨v, J'⟩ ⟨e1, e2⟩
      dsimp only at e1 e2 ⊢
      refine hself (pR A - (i + 1)) _ (by omega) ⟨i + 1, J', ?_, rfl, by omega, fun c c1 c2 => by rw [e2 c c1 c2]; exact f1 c c1 c2⟩
      rw [orF, if_pos e, e1, q_1]
    · rw [if_neg e, if_pos rfl]
      refine hself (pR A - (i + 1)) _ (by omega) ⟨i + 1, J, ?_, rfl, by omega, f1⟩
      rw [orF, if_neg e, q_1]
theorem m_hasTune {Fu : Nat} {I : mIT} {A : aPl} {v : Int32} (hF : 701 < Fu) (h : mPl I A) (ho : okPl A) : f_X12_hasTune Fu I v = some (if sTu A v then 1 else 0) := by
  have h8 := ho.2.2.2.1
  have key : f_X12_hasTune Fu I v = some (sFd (fun i => if bt v (pU A i).toNatClampNeg = true then none else some (0 : Int32)) 1 0 (pT A)) := by
    unfold f_X12_hasTune w_X12_hasTune_2
    refine q_find (fun i => (v, nI i)) (pT A) 1 _ ?_ ?_ Fu (by omega)
    · intro i hi self
      show b_X12_hasTune_2 Fu I self v (nI i) = _
      unfold b_X12_hasTune_2
      obtain ⟨t, ht, hte⟩ := ho.2.2.2.2.2.2.1 i hi
      rw [h.2.2.2.1, if_neg (by rw [q_le (by omega) (by omega)]; omega)]
      simp (disch := omega) only [q_GI, q_cl, h.2.2.2.2.2.2.2.1 i hi, hte, q_1, b_at0]
      cases bt v t <;> simp
    · intro self
      show b_X12_hasTune_2 Fu I self v (nI (pT A)) = _
      unfold b_X12_hasTune_2
      rw [h.2.2.2.1, if_pos (by rw [q_le (by omega) (by omega)]; omega)]
  rw [key, sFd_all]
  unfold sTu
  congr 1
  by_cases e : ∀ k, k < pT A → bt v (pU A k).toNatClampNeg = true
  · rw [if_pos (fun j hj => by rw [Nat.zero_add]; exact e j hj), decide_eq_true e, if_pos rfl]
  · rw [if_neg (fun h3 => e (fun j hj => by have := h3 j hj; rwa [Nat.zero_add] at this)), decide_eq_false e, if_neg (by simp)]
/-! days ahead -/
def sNx (A : aPl) (row : Nat → Int32) : Nat → Int32 := sDay A (sWe A (row 0).toNatClampNeg) row
def sDs (A : aPl) (row : Nat → Int32) : Nat → Nat → Int32
  | 0 => row
  | n + 1 => sNx A (sDs A row n)
theorem sDay_hi {A : aPl} {w : Int32} {row : Nat → Int32} {j : Nat} (h : 31 ≤ j) : sDay A w row j = row j := by
  unfold sDay
  rw [if_neg (by omega), sDy_lo (by omega) (by omega)]
theorem sDay_ho {A : aPl} {w : Int32} {row : Nat → Int32} {j : Nat} (h : 11 ≤ j) (h2 : j < 21) : sDay A w row j = row j := by
  unfold sDay
  rw [if_neg (by omega), sDy_lo (by omega) (by omega)]
theorem sDay_sz {A : aPl} {w : Int32} {row : Nat → Int32} {r : Nat} (hr : r < pR A) (h10 : pR A ≤ 10) : sDay A w row (1 + r) = if row (31 + r) = -1 then (if (60 : Int32) < row (1 + r) + sGr A row r w then 60 else row (1 + r) + sGr A row r w) else row (1 + r) := by
  unfold sDay sDy
  rw [if_neg (by omega), show 30 + (1 + r) = 31 + r by omega, show 1 + r - 1 = r by omega]
  by_cases e : row (31 + r) = -1
  · rw [if_pos ⟨by omega, by omega, by omega, e⟩, if_pos e]
  · rw [if_neg (fun q => e q.2.2.2), if_neg (by omega), if_neg e]
theorem sDay_so {A : aPl} {w : Int32} {row : Nat → Int32} {r : Nat} (hr : r < pR A) (h10 : pR A ≤ 10) : sDay A w row (21 + r) = if 0 ≤ row (31 + r) then (if (99 : Int32) < row (21 + r) + (1 + w / 2) then 99 else row (21 + r) + (1 + w / 2)) else row (21 + r) := by
  unfold sDay sDy
  rw [if_neg (by omega), if_neg (by omega), show 10 + (21 + r) = 31 + r by omega]
  by_cases e : 0 ≤ row (31 + r)
  · rw [if_pos ⟨by omega, by omega, by omega, e⟩, if_pos e]
  · rw [if_neg (fun q => e q.2.2.2), if_neg e]
theorem sDay_0 {A : aPl} {w : Int32} {row : Nat → Int32} : sDay A w row 0 = row 0 + 1 := by unfold sDay; rw [if_pos rfl]
theorem okR_day {A : aPl} {D : Nat} {row : Nat → Int32} {w : Int32} (ho : okPl A) (h : okR A D row) (hw : ∃ k, k ≤ 9 ∧ w = nI k) : okR A (D + 1) (sDay A w row) := by
  have h10 := ho.1
  obtain ⟨⟨d, h1, h2⟩, h3, h4⟩ := h
  obtain ⟨k, hk, rfl⟩ := hw
  refine ⟨⟨d + 1, by rw [sDay_0, h1, q_1], by omega⟩, fun r hr => ?_, fun r q hr hq hn => ?_⟩
  · obtain ⟨s, hh, f, g1, g2, g3, g4, g5, g6, g7, g8⟩ := h3 r hr
    obtain ⟨g, hg, hge⟩ := sGr_b (A := A) (row := row) (r := r) (w := nI k)
    rw [sDay_sz hr h10, sDay_so hr h10, sDay_ho (by omega) (by omega), sDay_hi (by omega), g1, g2, g3, hge, nI_add, k_2, pk_div (by omega) (by omega) (by omega), l_1, nI_add]
    have e1 : ∃ s', s' ≤ 60 ∧ s ≤ s' ∧ (if row (31 + r) = -1 then (if (60 : Int32) < nI (s + g) then 60 else nI (s + g)) else nI s) = nI s' := by
      by_cases e : row (31 + r) = -1
      · rw [if_pos e]; simp (disch := omega) only [gt_60]
        by_cases e2 : 60 < s + g
        · exact ⟨60, by omega, by omega, by rw [if_pos e2]; rfl⟩
        · exact ⟨s + g, by omega, by omega, by rw [if_neg e2]⟩
      · exact ⟨s, by omega, by omega, by rw [if_neg e]⟩
    have e2 : ∃ f', f' ≤ 99 ∧ (if 0 ≤ row (31 + r) then (if (99 : Int32) < nI (f + (1 + k / 2)) then 99 else nI (f + (1 + k / 2))) else nI f) = nI f' := by
      by_cases e : 0 ≤ row (31 + r)
      · rw [if_pos e]; simp (disch := omega) only [gt_99]
        by_cases e2 : 99 < f + (1 + k / 2)
        · exact ⟨99, by omega, by rw [if_pos e2]; rfl⟩
        · exact ⟨f + (1 + k / 2), by omega, by rw [if_neg e2]⟩
      · exact ⟨f, by omega, by rw [if_neg e]⟩
    obtain ⟨s', e3, e4, e5⟩ := e1
    obtain ⟨f', e6, e7⟩ := e2
    exact ⟨s', hh, f', e5, rfl, e7, e3, g5, by omega, e6, g8⟩
  · rw [sDay_hi (by omega), sDay_hi (by omega)]
    exact h4 r q hr hq hn
theorem sWe_n {A : aPl} (ho : okPl A) (d : Nat) : ∃ k, k ≤ 9 ∧ sWe A d = nI k := by
  obtain ⟨h1, h2⟩ := sWe_b ho d
  exact nI_of2 (M := 9) rfl (Int32.not_lt.mpr h1) h2
theorem okR_nx {A : aPl} {D : Nat} {row : Nat → Int32} (ho : okPl A) (h : okR A D row) : okR A (D + 1) (sNx A row) := okR_day ho h (sWe_n ho _)
theorem okR_ds {A : aPl} {D : Nat} {row : Nat → Int32} (ho : okPl A) (h : okR A D row) : ∀ n, okR A (D + n) (sDs A row n)
  | 0 => h
  | n + 1 => okR_nx ho (okR_ds ho h n)
theorem sDs_hi {A : aPl} {row : Nat → Int32} {j : Nat} (h : 31 ≤ j) : ∀ n, sDs A row n j = row j
  | 0 => rfl
  | n + 1 => by rw [sDs, sNx, sDay_hi h]; exact sDs_hi h n
/-! the reference's cells that stay over a question -/
def kM (c j : Nat) : Bool := decide (c < 75) || (decide (76 ≤ c) && decide (c ≤ 81)) || c == 90 || c == 99 || (decide (102 ≤ c) && decide (c ≤ 105)) || (c == 89 && decide (j < 53)) || (c == 75 && (decide (j ≤ 7) || j == 13 || j == 15 || j == 44 || j == 47 || j == 55 || j == 60 || j == 61 || j == 62))
def mS (I J : mIT) : Prop := ∀ c j, kM c j = true → J c j = I c j
theorem mS_r (I : mIT) : mS I I := fun _ _ _ => rfl
theorem mS_t {I J K : mIT} (h1 : mS I J) (h2 : mS J K) : mS I K := fun c j h => by rw [h2 c j h, h1 c j h]
theorem mS_u {I J : mIT} {k i : Nat} {v : Int32} (h : mS I J) (hk : kM k i = false) : mS I (mU J k i v) := fun c j hc => by
  unfold mU
  rw [if_neg]
  · exact h c j hc
  · rintro ⟨rfl, rfl⟩
    rw [hk] at hc
    exact nomatch hc
theorem mS_n {I J : mIT} (f : ∀ c, c ≠ 91 → c ≠ 92 → J c = I c) : mS I J := fun c j h => by
  rw [f c (fun e => by subst e; exact nomatch h) (fun e => by subst e; exact nomatch h)]
theorem kM_hi {j : Nat} (h : 53 ≤ j) : kM 89 j = false := by
  unfold kM
  rw [decide_eq_false (by omega : ¬ j < 53)]
  rfl
/-- what a question wants of the reference -/
def mQ (I : mIT) (A : aPl) (row : Nat → Int32) : Prop := mPl I A ∧ rI A I 89 0 row ∧ I 75 47 = -1
theorem kM_75 {j : Nat} (h : j ≤ 7) : kM 75 j = true := by
  unfold kM
  rw [decide_eq_true h]
  rfl
theorem mPl_s {I J : mIT} {A : aPl} (h : mPl I A) (f : mS I J) : mPl J A := mPl_fr h (fun j _ h2 => f 75 j (kM_75 (by omega))) (funext fun j => f 76 j rfl) (funext fun j => f 77 j rfl) (funext fun j => f 78 j rfl) (funext fun j => f 79 j rfl)
theorem mQ_s {I J : mIT} {A : aPl} {row : Nat → Int32} (ho : okPl A) (h : mQ I A row) (f : mS I J) : mQ J A row := ⟨mPl_s h.1 f, fun j hj => by
    rw [Nat.zero_add, f 89 j (by unfold kM; rw [decide_eq_true (live_53 ho hj)]; rfl)]
    have := h.2.1 j hj
    rwa [Nat.zero_add] at this, by rw [f 75 47 rfl]; exact h.2.2⟩
theorem m_tries {Fu : Nat} {I : mIT} {A : aPl} {row : Nat → Int32} (hF : 701 < Fu) (ho : okPl A) (h : mQ I A row) : wp (f_X12_tries Fu I) (fun J => mS I J ∧ rI A J 89 53 row) := by
  unfold f_X12_tries w_X12_tries_2
  refine wp_loop (fun dd (s : Int32 × mIT) => ∃ (i : Nat) (J : mIT), s = (nI i, J) ∧ dd = 53 - i ∧ i ≤ 53 ∧ mS I J ∧ ∀ j, j < i → J 89 (53 + j) = I 89 j) _ ?_ Fu 53 _ ⟨0, I, rfl, rfl, by omega, mS_r I, fun _ hj => absurd hj (by omega)⟩ (by omega)
  rintro dd s self ⟨i, J, rfl, hdd, hi, f1, f2⟩ hself
  show wp (b_X12_tries_2 Fu self (nI i) J) _
  unfold b_X12_tries_2
  refine wp_i (ge_53 (by omega)) (fun hle => ?_) (fun hlt => ?_)
  · refine wp_s ⟨f1, fun j hj => ?_⟩
    have h53 := live_53 ho hj
    rw [f2 j (by omega)]
    have := h.2.1 j hj
    rwa [Nat.zero_add] at this
  · simp (disch := omega) only [l_53, q_GI, q_cl, q_1]
    refine hself (53 - (i + 1)) _ (by omega) ⟨i + 1, _, rfl, rfl, by omega, mS_u f1 (kM_hi (by omega)), fun j hj => ?_⟩
    by_cases e : j = i
    · subst e
      rw [q_U, f1 89 j (by unfold kM; rw [decide_eq_true (by omega : j < 53)]; rfl)]
    · rw [q_Uj (by omega), f2 j (by omega)]
theorem m_triesF {Fu : Nat} {I : mIT} (hF : 701 < Fu) : wp (f_X12_tries Fu I) (fun J => ∀ c, c ≠ 89 → J c = I c) := by
  unfold f_X12_tries w_X12_tries_2
  refine wp_loop (fun dd (s : Int32 × mIT) => ∃ (i : Nat) (J : mIT), s = (nI i, J) ∧ dd = 53 - i ∧ i ≤ 53 ∧ ∀ c, c ≠ 89 → J c = I c) _ ?_ Fu 53 _ ⟨0, I, rfl, rfl, by omega, fun _ _ => rfl⟩ (by omega)
  rintro dd s self ⟨i, J, rfl, hdd, hi, f1⟩ hself
  show wp (b_X12_tries_2 Fu self (nI i) J) _
  unfold b_X12_tries_2
  refine wp_i (ge_53 (by omega)) (fun hle => wp_s f1) (fun hlt => ?_)
  simp (disch := omega) only [l_53, q_GI, q_cl, q_1]
  exact hself (53 - (i + 1)) _ (by omega) ⟨i + 1, _, rfl, rfl, by omega, fun c hc => by rw [mU_other hc]; exact f1 c hc⟩
theorem m_day {Fu : Nat} {I : mIT} {D : Nat} {A : aPl} {row0 row : Nat → Int32} (hF : 701 < Fu) (ho : okPl A) (h : mQ I A row0) (hr : rI A I 89 53 row) (hk : okR A D row) (hD : D < 2000) : wp (f_X12_dayGoes Fu I 53) (fun J => mS I J ∧ rI A J 89 53 (sNx A row)) := by
  obtain ⟨d, hd, hdD⟩ := hk.1
  refine wp_m (m_dayGoes (b := 53) (w := sWe A d) hF h.1 ho (by omega) hr hk hd (by omega) (Or.inl ⟨h.2.2, rfl⟩) (sWe_n ho d)) ?_
  rintro J ⟨h1, h2, h3⟩
  refine ⟨fun c j hc => ?_, ?_⟩
  · by_cases e : c = 89
    · subst e
      by_cases e2 : j < 53
      · exact h3 j (Or.inl e2)
      · rw [kM_hi (by omega)] at hc; exact nomatch hc
    · rw [h2 c e (fun e => by subst e; exact nomatch hc) (fun e => by subst e; exact nomatch hc)]
  · unfold sNx
    rw [hd, q_cl (by omega)]
    exact h1
