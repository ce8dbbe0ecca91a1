/-! the fewest that keep a tune -/
/-- a note as a number -/
def nt (A : aPl) (row : Nat → Int32) (r : Nat) : Nat := (sNt A row r 0).toNatClampNeg
theorem nt_e {A : aPl} {D r : Nat} {row : Nat → Int32} (hk : okR A D row) (hr : r < pR A) : sNt A row r 0 = nI (nt A row r) ∧ nt A row r < 16 := by
  obtain ⟨g, h1, h2⟩ := sNt_b0 hk hr
  unfold nt
  rw [h2, q_cl (by omega)]
  exact ⟨rfl, by omega⟩
def tn (A : aPl) (t : Nat) : Bool := decide (∃ k, k < pT A ∧ pU A k = nI t)
theorem b_sNB {A : aPl} {D t : Nat} {row : Nat → Int32} {p : Nat → Bool} (h10 : pR A ≤ 10) (hk : okR A D row) (hp : ∀ r, pR A ≤ r → p r = false) (ht : t < 32) : bt (sNB A row p) t = true ↔ ∃ r, r < pR A ∧ p r = true ∧ nt A row r = t := by
  unfold sNB
  rw [b_orF]
  constructor
  · rintro ⟨r, h1, h2⟩
    by_cases e : p r = true
    · rw [if_pos e] at h2
      have hr : r < pR A := by
        apply Classical.byContradiction
        intro e2
        rw [hp r (by omega)] at e
        exact nomatch e
      obtain ⟨g1, g2⟩ := nt_e hk hr
      rw [g1, b1_d, b_b1 (by omega) ht, decide_eq_true_iff] at h2
      exact ⟨r, hr, e, h2.symm⟩
    · rw [if_neg e, b_0] at h2; exact nomatch h2
  · rintro ⟨r, h1, h2, h3⟩
    obtain ⟨g1, g2⟩ := nt_e hk h1
    refine ⟨r, by omega, ?_⟩
    rw [if_pos h2, g1, b1_d, b_b1 (by omega) ht, h3, decide_eq_true rfl]
theorem tu_iff {A : aPl} {D : Nat} {row : Nat → Int32} {p : Nat → Bool} (ho : okPl A) (hk : okR A D row) (hp : ∀ r, pR A ≤ r → p r = false) : sTu A (sNB A row p) = true ↔ ∀ t, t < 16 → tn A t = true → ∃ r, r < pR A ∧ p r = true ∧ nt A row r = t := by
  unfold sTu
  rw [decide_eq_true_iff]
  constructor
  · intro h t ht e
    unfold tn at e
    rw [decide_eq_true_iff] at e
    obtain ⟨k, hk1, hk2⟩ := e
    have := h k hk1
    rw [hk2, q_cl (by omega)] at this
    exact (b_sNB ho.1 hk hp (by omega)).mp this
  · intro h k hk1
    obtain ⟨t, ht, hte⟩ := ho.2.2.2.2.2.2.1 k hk1
    rw [hte, q_cl (by omega)]
    exact (b_sNB ho.1 hk hp (by omega)).mpr (h t ht (decide_eq_true ⟨k, hk1, hte⟩))
/-- the least root that sounds of each note that is needed -/
def gK (A : aPl) (row : Nat → Int32) (r : Nat) : Bool := sSd A row r && (tn A (nt A row r) && decide (∀ q, q < r → sSd A row q = true → nt A row q ≠ nt A row r))
def aT (A : aPl) (row : Nat → Int32) : Bool := sTu A (sNB A row (sSd A row))
def sKe (A : aPl) (row : Nat → Int32) : Int32 := if aT A row then mkB (gK A row) 10 else -1
theorem gK_s {A : aPl} {row : Nat → Int32} {r : Nat} (h : gK A row r = true) : sSd A row r = true ∧ tn A (nt A row r) = true ∧ ∀ q, q < r → sSd A row q = true → nt A row q ≠ nt A row r := by
  unfold gK at h
  rw [Bool.and_eq_true, Bool.and_eq_true, decide_eq_true_iff] at h
  exact h
theorem gK_o {A : aPl} {row : Nat → Int32} : ∀ r, pR A ≤ r → gK A row r = false := fun r h => by unfold gK; rw [sSd_o r h]; rfl
/-- missing notes behind i roots -/
def ms (A : aPl) (row : Nat → Int32) (i t : Nat) : Bool := tn A t && decide (∀ q, q < i → sSd A row q = true → nt A row q ≠ t)
theorem tB_tn {A : aPl} (ho : okPl A) : tBits (pU A) (pT A) = mkB (tn A) 16 := by
  rw [tBits_orF]
  apply b_ext
  intro i hi
  rw [b_mkB (by omega) hi, Bool.eq_iff_iff, b_orF, Bool.and_eq_true, decide_eq_true_iff]
  unfold tn
  rw [decide_eq_true_iff]
  constructor
  · rintro ⟨k, h1, h2⟩
    obtain ⟨t, ht, hte⟩ := ho.2.2.2.2.2.2.1 k h1
    rw [hte, b1_d, b_b1 (by omega) hi, decide_eq_true_iff] at h2
    subst h2
    exact ⟨ht, k, h1, hte⟩
  · rintro ⟨h0, k, h1, h2⟩
    exact ⟨k, h1, by rw [h2, b1_d, b_b1 (by omega) hi, decide_eq_true rfl]⟩
theorem c_keepers {Fu : Nat} {I : mIT} {R : mRT} {p n : Nat} {A : aPl} {row : Nat → Int32} (hF : 701 < Fu) (ho : okPl A) (hk : okR A 999 row) (h : cQ I R p A row n) : wp (f_X11_keepers Fu R I) (cA I R p A row (sKe A row)) := by
  have h10 := ho.1
  unfold f_X11_keepers
  refine wp_B (c_now hF ho hk h) ?_
  rintro ⟨v, J⟩ ⟨e1, e2, n', e3, e4⟩
  dsimp only at e1 e2 e4 ⊢
  subst e1
  refine wp_Be h.1 ?_
  have hstart : J p 7 = mkB (ms A row 0) 16 := by
    rw [e4.2.2.1.2.2.2.2.1, tB_tn ho]
    refine mkB_c (fun t _ => ?_)
    unfold ms
    rw [decide_eq_true (fun q hq => absurd hq (by omega)), Bool.and_true]
  unfold w_X11_keepers_18
  refine wp_loop (fun dd (s : Int32 × Int32 × Int32 × Int32 × mIT) => ∃ (i : Nat), s = (mkB (sSd A row) 10, mkB (ms A row i) 16, mkB (gK A row) i, nI i, J) ∧ dd = pR A - i ∧ i ≤ pR A) _ ?_ Fu (pR A) _ ⟨0, by rw [hstart]; rfl, rfl, by omega⟩ (by omega)
  rintro dd s self ⟨i, rfl, hdd, hi⟩ hself
  show wp (b_X11_keepers_18 Fu R self _ _ _ (nI i) J) _
  unfold b_X11_keepers_18
  refine wp_Be h.1 ?_
  refine wp_i (by rw [e4.2.2.1.1, q_le (by omega) (by omega)]) (fun hle => ?_) (fun hlt => ?_)
  · have hie : i = pR A := by omega
    subst hie
    have hz : (mkB (ms A row (pR A)) 16 = 0) = (aT A row = true) := by
      apply propext
      unfold aT
      rw [tu_iff ho hk sSd_o]
      constructor
      · intro e t ht e5
        apply Classical.byContradiction
        intro e6
        have e7 : bt (mkB (ms A row (pR A)) 16) t = false := by rw [e]; exact b_0 t
        rw [b_mkB (by omega) (by omega), decide_eq_true ht, Bool.true_and] at e7
        unfold ms at e7
        rw [e5, Bool.true_and, decide_eq_false_iff_not] at e7
        exact e7 (fun q hq h8 h9 => e6 ⟨q, hq, h8, h9⟩)
      · intro e
        apply b_ext
        intro t ht
        rw [b_0, b_mkB (by omega) ht]
        by_cases e5 : t < 16
        · rw [decide_eq_true e5, Bool.true_and, Bool.eq_false_iff]
          intro e6
          unfold ms at e6
          rw [Bool.and_eq_true, decide_eq_true_iff] at e6
          obtain ⟨r, g1, g2, g3⟩ := e t e5 e6.1
          exact e6.2 r g1 g2 g3
        · rw [decide_eq_false e5, Bool.false_and]
    unfold sKe
    refine wp_i hz (fun e => ?_) (fun e => ?_)
    · rw [if_pos e]
      exact wp_s ⟨mkB_10 h10 gK_o, e2, n', e4⟩
    · rw [if_neg e]
      exact wp_s ⟨rfl, e2, n', e4⟩
  · have hi2 : i < pR A := by omega
    obtain ⟨g1, g2⟩ := nt_e hk hi2
    simp only [b1_d, q_1]
    have hand : mkB (sSd A row) 10 &&& b1 i = mkB (fun q => sSd A row q && decide (q = i)) 10 := by
      apply b_ext
      intro j hj
      rw [b_and, b_mkB (by omega) hj, b_mkB (by omega) hj, b_b1 (by omega) hj, Bool.and_assoc]
    rw [hand]
    refine wp_Be (c_bits (k := 0) hF h10 e4.2.2.2.2.2.2.2 e3 e4.2.2.2.2.2.1 (fun q hq => by rw [sSd_o q hq]; rfl)) ?_
    have hnb : sNB A (sDs A row 0) (fun q => sSd A row q && decide (q = i)) = if sSd A row i then b1 (nt A row i) else 0 := by
      apply b_ext
      intro t ht
      rw [Bool.eq_iff_iff]
      show bt (sNB A row (fun q => sSd A row q && decide (q = i))) t = true ↔ _
      rw [b_sNB h10 hk (fun q hq => by rw [sSd_o q hq]; rfl) ht]
      by_cases e : sSd A row i = true
      · rw [if_pos e, b_b1 (by omega) ht, decide_eq_true_iff]
        constructor
        · rintro ⟨r, h1, h2, h3⟩
          rw [Bool.and_eq_true, decide_eq_true_iff] at h2
          rw [h2.2] at h3
          exact h3.symm
        · intro e5
          exact ⟨i, hi2, by rw [e, decide_eq_true rfl]; rfl, e5.symm⟩
      · rw [if_neg e, b_0]
        constructor
        · rintro ⟨r, h1, h2, h3⟩
          rw [Bool.and_eq_true, decide_eq_true_iff] at h2
          rw [h2.2] at h2
          exact absurd h2.1 e
        · intro e5; exact nomatch e5
    rw [hnb]
    have no : gK A row i = false → (∀ t, t < 16 → ms A row (i + 1) t = ms A row i t) → wp (self (mkB (sSd A row) 10, mkB (ms A row i) 16, mkB (gK A row) i, nI (i + 1), J)) (cA I R p A row (sKe A row)) := fun e e5 => hself (pR A - (i + 1)) _ (by omega) ⟨i + 1, by rw [mkB_s (gK A row) i, e, if_neg (by simp), or_z, mkB_c (p := ms A row (i + 1)) e5], rfl, by omega⟩
    have hms : ∀ t, ms A row (i + 1) t = (ms A row i t && !(sSd A row i && decide (nt A row i = t))) := fun t => by
      unfold ms
      rw [Bool.and_assoc]
      congr 1
      rw [Bool.eq_iff_iff, decide_eq_true_iff, Bool.and_eq_true, decide_eq_true_iff, Bool.not_eq_true', Bool.eq_false_iff]
      constructor
      · intro h1
        exact ⟨fun q hq => h1 q (by omega), fun e => by
          rw [Bool.and_eq_true, decide_eq_true_iff] at e
          exact h1 i (by omega) e.1 e.2⟩
      · rintro ⟨h1, h2⟩ q hq h3 h4
        by_cases e : q = i
        · subst e; exact h2 (by rw [h3, decide_eq_true h4]; rfl)
        · exact h1 q (by omega) h3 h4
    have hgk : gK A row i = (sSd A row i && ms A row i (nt A row i)) := rfl
    by_cases e : sSd A row i = true
    · rw [if_pos e]
      have ha : (mkB (ms A row i) 16 &&& b1 (nt A row i) = 0) = (ms A row i (nt A row i) = false) := by
        apply propext
        constructor
        · intro e5
          have e6 : bt (mkB (ms A row i) 16 &&& b1 (nt A row i)) (nt A row i) = false := by rw [e5]; exact b_0 _
          rw [b_and, b_mkB (by omega) (by omega), b_b1 (by omega) (by omega), decide_eq_true rfl, decide_eq_true g2, Bool.true_and, Bool.and_true] at e6
          exact e6
        · intro e5
          apply b_ext
          intro t ht
          rw [b_0, b_and, b_mkB (by omega) ht, b_b1 (by omega) ht]
          by_cases e6 : t = nt A row i
          · subst e6; rw [e5]; simp
          · rw [decide_eq_false e6, Bool.and_false]
      refine wp_i ha (fun e5 => no (by rw [hgk, e5, Bool.and_false]) (fun t ht => ?_)) (fun e5 => ?_)
      · rw [hms]
        by_cases e6 : nt A row i = t
        · subst e6; rw [e5]; rfl
        · rw [decide_eq_false e6, Bool.and_false, Bool.not_false, Bool.and_true]
      · have e6 : ms A row i (nt A row i) = true := by simpa using e5
        refine hself (pR A - (i + 1)) _ (by omega) ⟨i + 1, ?_, rfl, by omega⟩
        rw [mkB_s (gK A row) i, show gK A row i = true by rw [hgk, e, e6]; rfl, if_pos rfl]
        congr 2
        apply b_ext
        intro t ht
        rw [b_and, b_xm1 _ ht, b_mkB (by omega) ht, b_mkB (by omega) ht, b_b1 (by omega) ht, hms, e, Bool.true_and, Bool.and_assoc]
        congr 3
        rw [decide_eq_decide]
        exact ⟨fun e => e.symm, fun e => e.symm⟩
    · rw [if_neg e]
      refine wp_p (by apply b_ext; intro t ht; rw [b_and, b_0, Bool.and_false]) (no (by rw [hgk, Bool.eq_false_iff.mpr e, Bool.false_and]) (fun t ht => ?_))
      rw [hms, Bool.eq_false_iff.mpr e, Bool.false_and, Bool.not_false, Bool.and_true]
/-! the reference tries all sets -/
theorem b_nI {n i : Nat} (hi : i < 32) : bt (nI n) i = n.testBit i := by
  unfold bt
  show (BitVec.ofNat 32 n).getLsbD i = _
  rw [BitVec.getLsbD_ofNat, decide_eq_true hi, Bool.true_and]
theorem tb_hi {n i : Nat} (h : n < 1024) (hi : 10 ≤ i) : n.testBit i = false := Nat.testBit_lt_two_pow (Nat.lt_of_lt_of_le h (show 1024 ≤ 2 ^ i from Nat.pow_le_pow_right (n := 2) (by omega) hi))
theorem nI_mkB {n : Nat} (h : n < 1024) : nI n = mkB (fun r => n.testBit r) 10 := by
  apply b_ext
  intro i hi
  rw [b_nI hi, b_mkB (by omega) hi]
  by_cases e : i < 10
  · rw [decide_eq_true e, Bool.true_and]
  · rw [decide_eq_false e, Bool.false_and, tb_hi h (by omega)]
theorem mkB_nI (p : Nat → Bool) : ∃ n, n < 1024 ∧ (∀ r, r < 10 → n.testBit r = p r) ∧ mkB p 10 = nI n := by
  obtain ⟨n, h1, h2⟩ := ex_bits p 10
  refine ⟨n, by omega, h2, ?_⟩
  rw [nI_mkB (by omega), mkB_c h2]
/-- a set that is good: of roots that sound, and the tune is in it -/
def gd (A : aPl) (row : Nat → Int32) (n : Nat) : Prop := (∀ r, r < 10 → n.testBit r = true → sSd A row r = true) ∧ sTu A (sNB A row (fun r => n.testBit r)) = true
theorem gd_at {A : aPl} {D n : Nat} {row : Nat → Int32} (ho : okPl A) (hk : okR A D row) (hn : n < 1024) (h : gd A row n) {t : Nat} (ht : t < 16) (e : tn A t = true) : ∃ r, r < pR A ∧ n.testBit r = true ∧ nt A row r = t := by
  have hp : ∀ r, pR A ≤ r → n.testBit r = false := fun r hr => by
    by_cases e2 : r < 10
    · apply Bool.eq_false_iff.mpr
      intro e3
      have := sSd_i (h.1 r e2 e3)
      omega
    · exact tb_hi hn (by omega)
  exact (tu_iff (p := fun r => n.testBit r) ho hk hp).mp h.2 t ht e
theorem gd_all {A : aPl} {D n : Nat} {row : Nat → Int32} (ho : okPl A) (hk : okR A D row) (hn : n < 1024) (h : gd A row n) : aT A row = true := by
  have h10 := ho.1
  unfold aT
  rw [tu_iff ho hk sSd_o]
  intro t ht e
  obtain ⟨r, h1, h2, h3⟩ := gd_at ho hk hn h ht e
  exact ⟨r, h1, h.1 r (by omega) h2, h3⟩
theorem gd_G {A : aPl} {D g : Nat} {row : Nat → Int32} (ho : okPl A) (hk : okR A D row) (hg : g < 1024) (hb : ∀ r, r < 10 → g.testBit r = gK A row r) (ha : aT A row = true) : gd A row g := by
  have h10 := ho.1
  refine ⟨fun r hr e => (gK_s (by rw [← hb r hr]; exact e)).1, ?_⟩
  rw [tu_iff ho hk (fun r hr => by
    by_cases e2 : r < 10
    · rw [hb r e2]; exact gK_o r hr
    · exact tb_hi hg (by omega))]
  intro t ht e
  unfold aT at ha
  rw [tu_iff ho hk sSd_o] at ha
  obtain ⟨r, ⟨h1, h2, h3⟩, h5⟩ := pk_least (fun r => r < pR A ∧ sSd A row r = true ∧ nt A row r = t) (ha t ht e)
  refine ⟨r, h1, ?_, h3⟩
  rw [hb r (by omega)]
  unfold gK
  rw [h2, h3, e, decide_eq_true]
  · rfl
  · intro q hq h6 h7
    exact h5 q hq ⟨by omega, h6, h7⟩
theorem top_bit : ∀ (k n g : Nat), g < 2 ^ k → n < g → ∃ i, g.testBit i = true ∧ n.testBit i = false ∧ ∀ j, i < j → g.testBit j = n.testBit j := by
  intro k
  induction k with
  | zero => intro n g h1 h2; rw [Nat.pow_zero] at h1; omega
  | succ k ih =>
    intro n g h1 h2
    rw [Nat.pow_succ] at h1
    by_cases h : n / 2 < g / 2
    · obtain ⟨i, g1, g2, g3⟩ := ih (n / 2) (g / 2) (by omega) h
      refine ⟨i + 1, by rw [Nat.testBit_succ]; exact g1, by rw [Nat.testBit_succ]; exact g2, fun j hj => ?_⟩
      cases j with
      | zero => omega
      | succ j => rw [Nat.testBit_succ, Nat.testBit_succ]; exact g3 j (by omega)
    · refine ⟨0, by rw [Nat.testBit_zero, decide_eq_true_iff]; omega, by rw [Nat.testBit_zero, decide_eq_false_iff_not]; omega, fun j hj => ?_⟩
      cases j with
      | zero => omega
      | succ j => rw [Nat.testBit_succ, Nat.testBit_succ, show g / 2 = n / 2 by omega]
/-- no good set is a lesser number -/
theorem gd_least {A : aPl} {D g n : Nat} {row : Nat → Int32} (ho : okPl A) (hk : okR A D row) (hg : g < 1024) (hb : ∀ r, r < 10 → g.testBit r = gK A row r) (hn : n < 1024) (h : gd A row n) : ¬ n < g := by
  intro hlt
  obtain ⟨i, h1, h2, h3⟩ := top_bit 10 n g (by omega) hlt
  have hi : i < 10 := by
    apply Classical.byContradiction
    intro e
    rw [tb_hi hg (by omega)] at h1
    exact nomatch h1
  have hK := gK_s (by rw [← hb i hi]; exact h1)
  obtain ⟨r, g1, g2, g3⟩ := gd_at ho hk hn h (nt_e hk (sSd_i hK.1)).2 hK.2.1
  have h10 := ho.1
  have hrs := h.1 r (by omega) g2
  have hri : i ≤ r := by
    apply Classical.byContradiction
    intro e
    exact hK.2.2 r (by omega) hrs g3
  have hne : r ≠ i := fun e => by subst e; rw [h2] at g2; exact nomatch g2
  have h4 : g.testBit r = true := by rw [h3 r (by omega)]; exact g2
  have hK2 := gK_s (by rw [← hb r (by omega)]; exact h4)
  exact hK2.2.2 i (by omega) hK.1 g3.symm
theorem ct_in {p : Nat → Bool} {r n : Nat} (h : r < n) (e : p r = true) : fb_ct p r < fb_ct p n := by
  have h1 := fb_ct_mono p (show r + 1 ≤ n by omega)
  rw [fb_ct_succ, e, if_pos rfl] at h1
  omega
/-- nor has it fewer roots -/
theorem gd_few {A : aPl} {D g n : Nat} {row : Nat → Int32} (ho : okPl A) (hk : okR A D row) (hg : g < 1024) (hb : ∀ r, r < 10 → g.testBit r = gK A row r) (hn : n < 1024) (h : gd A row n) : fb_ct (fun r => g.testBit r) 10 ≤ fb_ct (fun r => n.testBit r) 10 := by
  have h10 := ho.1
  have ex : ∀ k, ∃ r, k < fb_ct (fun r => g.testBit r) 10 → (∃ i, i < 10 ∧ g.testBit i = true ∧ fb_ct (fun r => g.testBit r) i = k ∧ r < 10 ∧ n.testBit r = true ∧ nt A row r = nt A row i) := fun k => by
    by_cases e : k < fb_ct (fun r => g.testBit r) 10
    · obtain ⟨i, h1, h2, h3⟩ := fb_ct_kth (p := fun r => g.testBit r) e
      have hK := gK_s (by rw [← hb i h1]; exact h2)
      obtain ⟨r, g1, g2, g3⟩ := gd_at ho hk hn h (nt_e hk (sSd_i hK.1)).2 hK.2.1
      exact ⟨r, fun _ => ⟨i, h1, h2, h3, by omega, g2, g3⟩⟩
    · exact ⟨0, fun h => absurd h e⟩
  refine fb_holes _ _ (fun k => fb_ct (fun r => n.testBit r) (ex k).choose) (fun k hk1 => ?_) (fun a b hab hb1 e => ?_)
  · obtain ⟨i, h1, h2, h3, h4, h5, h6⟩ := (ex k).choose_spec hk1
    exact ct_in (p := fun r => n.testBit r) h4 h5
  · obtain ⟨i, h1, h2, h3, h4, h5, h6⟩ := (ex a).choose_spec (by omega)
    obtain ⟨j, g1, g2, g3, g4, g5, g6⟩ := (ex b).choose_spec hb1
    have e2 := fb_ct_kth_one (p := fun r => n.testBit r) h5 g5 e
    rw [e2] at h6
    have e3 : nt A row i = nt A row j := by rw [← h6, ← g6]
    have hKi := gK_s (by rw [← hb i h1]; exact h2)
    have hKj := gK_s (by rw [← hb j g1]; exact g2)
    have e4 : i = j := by
      rcases Nat.lt_trichotomy i j with t | t | t
      · exact absurd e3 (hKj.2.2 i t hKi.1)
      · exact t
      · exact absurd e3.symm (hKi.2.2 j t hKj.1)
    rw [e4, g3] at h3
    omega
theorem m_keepers {Fu : Nat} {I : mIT} {A : aPl} {row : Nat → Int32} (hF : 2000 < Fu) (ho : okPl A) (hk : okR A 999 row) (h : mQ I A row) : wp (f_X12_keepers Fu I) (fun y => y.1 = sKe A row ∧ mS (mU I 75 0 0) y.2) := by
  have h0 := mQ_0 (v := 0) h
  have h10 := ho.1
  obtain ⟨all, a1, a2, a3⟩ := mkB_nI (sSd A row)
  obtain ⟨g, g1, g2, g3⟩ := mkB_nI (gK A row)
  unfold f_X12_keepers
  refine wp_Be (m_soundingIn (b := 0) (by omega) h0.1 ho (by omega) h0.2.1) ?_
  rw [a3]
  have hall : aT A row = true → gd A row all := fun e => ⟨fun r hr e2 => by rw [← a2 r hr]; exact e2, by
    have : sNB A row (fun r => all.testBit r) = sNB A row (sSd A row) := by
      unfold sNB
      exact orF_c 10 (fun r hr => by
        show (if all.testBit r = true then _ else _) = _
        rw [a2 r hr])
    rw [this]; exact e⟩
  have hga : aT A row = true → g ≤ all := fun e => Nat.not_lt.mp (gd_least ho hk g1 g2 a1 (hall e))
  unfold w_X12_keepers_15
  refine wp_loop (fun dd (s : Int32 × Int32 × Int32 × mIT) => ∃ (i : Nat) (J : mIT), s = (nI all, (if aT A row = true ∧ g < i then nI g else -1), nI i, J) ∧ dd = all + 1 - i ∧ i ≤ all + 1 ∧ mS (mU I 75 0 0) J) _ ?_ Fu (all + 1) _ ⟨0, _, by rw [if_neg (by omega)]; rfl, rfl, by omega, mS_r _⟩ (by omega)
  rintro dd s self ⟨i, J, rfl, hdd, hi, f1⟩ hself
  have hJ := mQ_s ho h0 f1
  show wp (b_X12_keepers_15 Fu self _ _ (nI i) J) _
  unfold b_X12_keepers_15
  refine wp_i (q_lt (by omega) (by omega)) (fun hlt => ?_) (fun hge => ?_)
  · have hie : i = all + 1 := by omega
    refine wp_s ⟨?_, f1⟩
    unfold sKe
    by_cases e : aT A row = true
    · have := hga e
      rw [if_pos e, if_pos ⟨e, by omega⟩, g3]
    · rw [if_neg e, if_neg (fun q => e q.1)]
  · have hsub : (nI i &&& (nI all ^^^ (-1)) = 0) = (∀ r, r < 10 → i.testBit r = true → sSd A row r = true) := by
      apply propext
      constructor
      · intro e r hr e2
        have e3 : bt (nI i &&& (nI all ^^^ (-1))) r = false := by rw [e]; exact b_0 r
        rw [b_and, b_xm1 _ (by omega), b_nI (by omega), b_nI (by omega), e2, Bool.true_and, a2 r hr] at e3
        simpa using e3
      · intro e
        apply b_ext
        intro r hr
        rw [b_0, b_and, b_xm1 _ hr, b_nI hr, b_nI hr]
        by_cases e2 : r < 10
        · by_cases e3 : i.testBit r = true
          · rw [e3, a2 r e2, e r e2 e3]; rfl
          · rw [Bool.eq_false_iff.mpr e3, Bool.false_and]
        · rw [tb_hi (show i < 1024 by omega) (by omega), Bool.false_and]
    have keep : ∀ K, mS (mU I 75 0 0) K → (aT A row = true → g ≠ i) → wp (self (nI all, (if aT A row = true ∧ g < i then nI g else -1), nI i + 1, K)) (fun y => y.1 = sKe A row ∧ mS (mU I 75 0 0) y.2) := fun K hK e => hself (all + 1 - (i + 1)) _ (by omega) ⟨i + 1, K, by
      rw [q_1]
      by_cases e2 : aT A row = true ∧ g < i
      · rw [if_pos e2, if_pos ⟨e2.1, by omega⟩]
      · rw [if_neg e2, if_neg (fun q => e2 ⟨q.1, by have := e q.1; omega⟩)], rfl, by omega, hK⟩
    have tryit : (∀ r, r < 10 → i.testBit r = true → sSd A row r = true) → (gd A row i → aT A row = true ∧ g = i) → wp (oB (f_X12_notesOf Fu J (nI i)) (fun r47 => oB (f_X12_hasTune Fu r47.2 r47.1) (fun r50 => if r50 = 0 then (self (nI all, (if aT A row = true ∧ g < i then nI g else -1), (nI i + 1), r47.2)) else (self (nI all, nI i, (nI i + 1), r47.2))))) (fun y => y.1 = sKe A row ∧ mS (mU I 75 0 0) y.2) := by
      intro hs hgd
      rw [nI_mkB (show i < 1024 by omega)]
      refine wp_B (m_notesOf (by omega) ho hJ hk (by omega) (fun r hr => by
        by_cases e2 : r < 10
        · apply Bool.eq_false_iff.mpr
          intro e3
          have := sSd_i (hs r e2 e3)
          omega
        · exact tb_hi (show i < 1024 by omega) (by omega))) ?_
      rintro ⟨v, K⟩ ⟨u1, u2⟩
      dsimp only at u1 u2 ⊢
      rw [← nI_mkB (show i < 1024 by omega)]
      have hK := mS_t f1 (mS_n u2)
      refine wp_Be (m_hasTune (by omega) (mQ_s ho h0 hK).1 ho) ?_
      subst u1
      by_cases e : sTu A (sNB A row (fun r => i.testBit r)) = true
      · rw [if_pos e]
        obtain ⟨e2, e3⟩ := hgd ⟨hs, e⟩
        refine wp_n (by decide) (hself (all + 1 - (i + 1)) _ (by omega) ⟨i + 1, K, ?_, rfl, by omega, hK⟩)
        rw [q_1, if_pos ⟨e2, by omega⟩, e3]
      · rw [if_neg e]
        refine wp_p rfl (keep K hK (fun e2 e3 => e ?_))
        have := (gd_G ho hk g1 g2 e2).2
        rw [← e3]; exact this
    refine wp_i hsub (fun hs => ?_) (fun hs => keep J f1 (fun e e2 => hs (by rw [← e2]; exact (gd_G ho hk g1 g2 e).1)))
    by_cases e : aT A row = true ∧ g < i
    · rw [if_pos e] at keep tryit ⊢
      refine wp_n (by rw [q_eqm1 (by omega)]; simp) ?_
      rw [nI_mkB (show i < 1024 by omega), nI_mkB (show g < 1024 by omega)]
      refine wp_Be (m_bits (by omega)) (wp_Be (m_bits (by omega)) ?_)
      rw [← nI_mkB (show i < 1024 by omega), ← nI_mkB (show g < 1024 by omega)]
      have b1' := fb_ct_le (fun r => i.testBit r) 10
      have b2' := fb_ct_le (fun r => g.testBit r) 10
      refine wp_i (q_le (by omega) (by omega)) (fun e2 => keep J f1 (fun _ => by omega)) (fun e2 => tryit hs (fun e3 => ?_))
      exact absurd (gd_few ho hk g1 g2 (by omega) e3) e2
    · rw [if_neg e] at keep tryit ⊢
      refine wp_p rfl (tryit hs (fun e3 => ?_))
      have ha := gd_all ho hk (by omega) e3
      have := gd_least ho hk g1 g2 (by omega) e3
      exact ⟨ha, by have : ¬ g < i := fun q => e ⟨ha, q⟩
                    omega⟩
