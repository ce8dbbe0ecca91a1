/-! words -/
def wL (v : Nat) : List Nat := [[115, 105, 122, 101], [104, 111, 108, 108, 111, 119], [107, 105, 110, 100], [115, 111, 102, 116], [119, 101, 97, 116, 104, 101, 114], [100, 97, 121], [104, 117, 110, 103], [116, 117, 114, 110, 105, 112], [115, 119, 101, 100, 101], [109, 97, 110, 103, 111, 108, 100], [98, 101, 101, 116], [108, 97, 115, 116, 115], [116, 117, 110, 101], [109, 101, 116, 104, 111, 100], [110, 111, 116, 101], [103, 114, 111, 119, 115], [97, 110, 100], [111, 114], [110, 111, 116]].getD v []
def wC (v : Nat) : Nat := pk (fun j => (wL v).getD j 0) 0 (wL v).length
def wX (k : Nat) : Nat := [0, 7, 8, 9, 10, 4, 11, 12, 13, 14, 15, 17, 16, 18, 0, 1, 2, 3, 5, 6].getD k 0
theorem wX_ok : ∀ k : Nat, k < 20 → 1 ≤ k → mSB.getD k [] = (wL (wX k)).map nI ∧ wX k < 19 := by decide +kernel
theorem wC_ne : ∀ v : Nat, v < 19 → ∀ w : Nat, w < 19 → wC v = wC w → v = w := by decide +kernel
theorem wL_ok : ∀ v : Nat, v < 19 → (wL v).length ≤ 7 ∧ ∀ j : Nat, j < (wL v).length → 97 ≤ (wL v).getD j 0 ∧ (wL v).getD j 0 ≤ 122 := by decide +kernel
theorem m_letters {Fu : Nat} : ∀ v : Nat, v < 19 → f_X12_letters Fu (nI v) = some (nL (wC v)) := by
  intro v hv
  rcases (by omega : v = 0 ∨ v = 1 ∨ v = 2 ∨ v = 3 ∨ v = 4 ∨ v = 5 ∨ v = 6 ∨ v = 7 ∨ v = 8 ∨ v = 9 ∨ v = 10 ∨ v = 11 ∨ v = 12 ∨ v = 13 ∨ v = 14 ∨ v = 15 ∨ v = 16 ∨ v = 17 ∨ v = 18) with rfl | rfl | rfl | rfl | rfl | rfl | rfl | rfl | rfl | rfl | rfl | rfl | rfl | rfl | rfl | rfl | rfl | rfl | rfl <;> rfl
theorem pkw_lt {B : Nat → Nat} {a : Nat} : ∀ m, (∀ j, j < m → 97 ≤ B (a + j) ∧ B (a + j) ≤ 122) → pk B a m < 32 ^ m
  | 0, _ => by show 0 < 1; omega
  | m + 1, h => by
    have h1 := pkw_lt m (fun j hj => h j (by omega))
    have h2 := h m (by omega)
    rw [pk, Nat.pow_succ]
    omega
theorem pk_inj {B C : Nat → Nat} {a b : Nat} : ∀ m m', (∀ j, j < m → 97 ≤ B (a + j) ∧ B (a + j) ≤ 122) → (∀ j, j < m' → 97 ≤ C (b + j) ∧ C (b + j) ≤ 122) → pk B a m = pk C b m' → m = m' ∧ ∀ j, j < m → B (a + j) = C (b + j)
  | 0, 0, _, _, _ => ⟨rfl, fun j hj => absurd hj (by omega)⟩
  | 0, m' + 1, _, h2, e => by
    have := h2 m' (by omega)
    rw [pk, pk] at e
    omega
  | m + 1, 0, h1, _, e => by
    have := h1 m (by omega)
    rw [pk, pk] at e
    omega
  | m + 1, m' + 1, h1, h2, e => by
    have a1 := h1 m (by omega)
    have a2 := h2 m' (by omega)
    rw [pk, pk] at e
    obtain ⟨e1, e2⟩ := pk_inj m m' (fun j hj => h1 j (by omega)) (fun j hj => h2 j (by omega)) (by omega)
    subst e1
    refine ⟨rfl, fun j hj => ?_⟩
    by_cases q : j = m
    · subst q; omega
    · exact e2 j (by omega)
theorem pk_c {B C : Nat → Nat} {a b : Nat} : ∀ m, (∀ j, j < m → B (a + j) = C (b + j)) → pk B a m = pk C b m
  | 0, _ => rfl
  | m + 1, h => by rw [pk, pk, pk_c m (fun j hj => h j (by omega)), h m (by omega)]
theorem sFk_no {p : Nat → Bool} : ∀ k i, (∀ r, i ≤ r → r < i + k → p r = false) → sFk p i k = 9999
  | 0, _, _ => rfl
  | k + 1, i, h => by
    rw [sFk_s, h i (by omega) (by omega), if_neg Bool.false_ne_true]
    exact sFk_no k (i + 1) (fun r r1 r2 => h r (by omega) (by omega))
/-- the word here, as the reference numbers them; 9999: none of them -/
def tW (B : Nat → Nat) (n a : Nat) : Nat := if tK B n a = 1 ∧ tE B n a - a ≤ 7 then sFk (fun v => decide (wC v = pk B a (tE B n a - a))) 0 19 else 9999
theorem nL_inj {x y : Nat} (hx : x < 2 ^ 40) (hy : y < 2 ^ 40) : nL x = nL y ↔ x = y := by
  constructor
  · intro h
    have h1 := congrArg Int64.toInt h
    unfold nL at h1
    rw [Int64.toInt_ofNat_of_lt (by omega), Int64.toInt_ofNat_of_lt (by omega)] at h1
    omega
  · intro h; rw [h]
theorem tE_let {B : Nat → Nat} {n a : Nat} (h : tK B n a = 1) : ∀ j, j < tE B n a - a → 97 ≤ B (a + j) ∧ B (a + j) ≤ 122 := fun j hj => by
  by_cases q : a < n
  · by_cases c1 : bL (B a) = true
    · have hE : tE B n a = scan (fun j => bL (B j)) n a := by unfold tE; rw [if_pos q, if_pos c1]
      rw [hE] at hj
      have := scan_all (q := fun j => bL (B j)) (n := n) _ a rfl (a + j) (by omega) (by omega)
      simp only [bL, Bool.and_eq_true, decide_eq_true_iff] at this
      exact this
    · unfold tK at h
      rw [if_pos q, if_neg c1] at h
      split at h
      · omega
      · split at h <;> omega
  · unfold tK at h
    rw [if_neg q] at h
    omega
theorem tE_le {B : Nat → Nat} {n a : Nat} (ha : a ≤ n) : tE B n a ≤ n ∧ a ≤ tE B n a ∧ (a < n → a < tE B n a) := by
  unfold tE
  by_cases q : a < n
  · rw [if_pos q]
    by_cases c1 : bL (B a) = true
    · rw [if_pos c1]
      have := scan_le (q := fun j => bL (B j)) (n := n) _ (a + 1) rfl
      rw [scan_s q, if_pos c1]
      exact ⟨this.2 (by omega), by omega, by omega⟩
    · rw [if_neg c1]
      by_cases c2 : bD (B a) = true
      · rw [if_pos c2]
        have := scan_le (q := fun j => bD (B j)) (n := n) _ (a + 1) rfl
        rw [scan_s q, if_pos c2]
        exact ⟨this.2 (by omega), by omega, by omega⟩
      · rw [if_neg c2]; omega
  · rw [if_neg q]; omega
theorem tW_is {B : Nat → Nat} {n a v : Nat} (hv : v < 19) : tW B n a = v ↔ tK B n a = 1 ∧ tE B n a - a = (wL v).length ∧ ∀ j, j < (wL v).length → B (a + j) = (wL v).getD j 0 := by
  obtain ⟨l7, ll⟩ := wL_ok v hv
  unfold tW
  constructor
  · intro h
    by_cases c : tK B n a = 1 ∧ tE B n a - a ≤ 7
    · rw [if_pos c] at h
      have hp : wC v = pk B a (tE B n a - a) := by
        by_cases ex : ∃ r, 0 ≤ r ∧ r < 0 + 19 ∧ (fun v => decide (wC v = pk B a (tE B n a - a))) r = true
        · have := (sFk_ex 19 0 ex).1
          rw [h] at this
          exact of_decide_eq_true this
        · exfalso
          have hb := sFk_b (p := fun v => decide (wC v = pk B a (tE B n a - a))) 19 0
          rcases hb with hb | hb
          · omega
          · have := sFk_no (p := fun v => decide (wC v = pk B a (tE B n a - a))) 19 0 (fun r r1 r2 => Bool.eq_false_iff.mpr (fun q => ex ⟨r, r1, r2, q⟩))
            omega
      have := pk_inj (B := fun j => (wL v).getD j 0) (C := B) (a := 0) (b := a) _ _ (fun j hj => by rw [Nat.zero_add]; exact ll j hj) (tE_let c.1) hp
      exact ⟨c.1, this.1.symm, fun j hj => by have := this.2 j hj; rw [Nat.zero_add] at this; exact this.symm⟩
    · rw [if_neg c] at h; omega
  · rintro ⟨h1, h2, h3⟩
    rw [if_pos ⟨h1, by omega⟩]
    have hp : wC v = pk B a (tE B n a - a) := by
      rw [h2]
      exact pk_c _ (fun j hj => by rw [Nat.zero_add]; exact (h3 j hj).symm)
    have ex := sFk_ex (p := fun v => decide (wC v = pk B a (tE B n a - a))) 19 0 ⟨v, by omega, by omega, decide_eq_true hp⟩
    exact wC_ne _ (by omega) v hv ((of_decide_eq_true ex.1).trans hp.symm)
theorem lg_0 {x y : Int64} : (lg_cmp x y = 0) = (x = y) := by
  unfold lg_cmp
  apply propext
  constructor
  · intro h
    by_cases e : x > y
    · rw [if_pos e] at h; exact absurd h (by decide)
    · rw [if_neg e] at h
      by_cases e2 : x = y
      · exact e2
      · rw [if_neg e2] at h; exact absurd h (by decide)
  · intro h
    subst h
    rw [if_neg (Int64.lt_irrefl), if_pos rfl]
theorem m_knownWord {Fu : Nat} {I : mIT} {L : mLT} {B : Nat → Nat} {n a : Nat} (hF : 2200 < Fu) (ht : tpe B n) (h : mTk I L B n a) : f_X12_knownWord Fu I L = some (kN (tW B n a)) := by
  obtain ⟨h1, h2, h3, h4, h5, h6, h7, h8, h9⟩ := h
  have n7 := ht.1
  have hE := tE_le (B := B) h2
  unfold f_X12_knownWord tW
  rw [h4, h6, show (1 : Int32) = nI 1 from rfl, show (7 : Int32) = nI 7 from rfl]
  have hK : tK B n a ≤ 4 := by unfold tK; repeat (first | split | omega)
  by_cases c1 : tK B n a = 1
  · rw [if_pos (by rw [c1])]
    by_cases c2 : tE B n a - a ≤ 7
    · rw [if_pos (by rw [q_le (by omega) (by omega)]; exact c2), if_pos ⟨c1, c2⟩]
      have hL := h9 c1
      rw [Nat.min_eq_right c2] at hL
      have hpl := pkw_lt _ (tE_let c1)
      have h327 : 32 ^ (tE B n a - a) ≤ 32 ^ 7 := Nat.pow_le_pow_right (by omega) c2
      have hw : ∀ v : Nat, v < 19 → wC v < 2 ^ 40 := by decide +kernel
      rw [← sFk_I 19 0 (by omega)]
      unfold w_X12_knownWord_21 sFi
      refine q_find (fun i => nI i) 19 (-1) _ ?_ ?_ Fu (by omega)
      · intro i hi self
        show b_X12_knownWord_21 Fu I L self (nI i) = _
        unfold b_X12_knownWord_21
        rw [show (19 : Int32) = nI 19 from rfl, if_neg (by rw [q_le (by omega) (by omega)]; omega), m_letters i hi, q_B, hL, q_1]
        have e := nL_inj (hw i hi) (Nat.lt_of_lt_of_le hpl (Nat.le_trans h327 (by decide)))
        by_cases q : wC i = pk B a (tE B n a - a)
        · rw [if_pos (by rw [lg_0]; exact e.mpr q), if_pos (show (fun v => decide (wC v = pk B a (tE B n a - a))) i = true from decide_eq_true q)]
        · rw [if_neg (by rw [lg_0]; exact fun k => q (e.mp k)), if_neg (show ¬ (fun v => decide (wC v = pk B a (tE B n a - a))) i = true from fun k => q (of_decide_eq_true k))]
      · intro self
        show b_X12_knownWord_21 Fu I L self (nI 19) = _
        unfold b_X12_knownWord_21
        rw [if_pos (by decide)]
    · rw [if_neg (by rw [q_le (by omega) (by omega)]; exact c2), if_neg (fun q => c2 q.2)]; rfl
  · rw [if_neg (by rw [q_eq (by omega) (by omega)]; exact c1), if_neg (fun q => c1 q.1)]; rfl
theorem c_isAtWord {Fu : Nat} {I : mIT} {B : Nat → Nat} {n a k : Nat} (hF : 2200 < Fu) (ht : tpe B n) (h : cTk I B n a) (hk1 : 1 ≤ k) (hk : k < 20) : f_X6_isAtWord Fu I k = some (if tW B n a = wX k then 1 else 0) := by
  obtain ⟨h1, h2, h3, h4, h5, h6, h7⟩ := h
  have n7 := ht.1
  have hE := tE_le (B := B) h2
  obtain ⟨w1, w2⟩ := wX_ok k hk hk1
  obtain ⟨l7, ll⟩ := wL_ok (wX k) w2
  have hK : tK B n a ≤ 4 := by unfold tK; repeat (first | split | omega)
  have hln : sLN k = (wL (wX k)).length := by unfold sLN; rw [w1, List.length_map]
  have hch : ∀ j, j < (wL (wX k)).length → sCh k j = nI ((wL (wX k)).getD j 0) := fun j hj => by
    unfold sCh
    rw [w1, List.getD_eq_getElem?_getD, List.getElem?_map, List.getD_eq_getElem?_getD, List.getElem?_eq_getElem hj]
    rfl
  unfold f_X6_isAtWord
  rw [h4, h3, h5, show (1 : Int32) = nI 1 from rfl]
  by_cases c1 : tK B n a = 1
  · rw [if_pos (by rw [c1]), pk_sub hE.2.1, show sLn k = nI (wL (wX k)).length by unfold sLn; rw [hln]; rfl]
    by_cases c2 : tE B n a - a = (wL (wX k)).length
    · rw [if_pos (by rw [c2])]
      have key : w_X6_isAtWord_28 Fu I k Fu 0 = some (sFd (fun i => if B (a + i) = (wL (wX k)).getD i 0 then none else some (0 : Int32)) 1 0 (wL (wX k)).length) := by
        unfold w_X6_isAtWord_28
        refine q_find (fun i => nI i) _ 1 _ ?_ ?_ Fu (by omega)
        · intro i hi self
          show b_X6_isAtWord_28 Fu I k self (nI i) = _
          unfold b_X6_isAtWord_28
          have hb := tE_let c1 i (by omega)
          rw [show sLn k = nI (wL (wX k)).length by unfold sLn; rw [hln]; rfl, if_neg (by rw [q_le (by omega) (by omega)]; omega), h5, nI_add, if_neg (by rw [q_lt0 (by omega)]; simp), if_neg (by rw [q_le (by omega) (by omega)]; omega), q_GI (by omega) (by omega), hln, q_GI hi (by omega), q_cl (by omega), q_cl (by omega), h1.2 (a + i) (by omega), i8_l _ (by omega), hch i hi, q_1]
          have hl := ll i hi
          by_cases q : B (a + i) = (wL (wX k)).getD i 0
          · rw [if_pos (by rw [q]), if_pos q]
          · rw [if_neg (by rw [q_eq (by omega) (by omega)]; exact q), if_neg q]
        · intro self
          show b_X6_isAtWord_28 Fu I k self (nI _) = _
          unfold b_X6_isAtWord_28
          rw [show sLn k = nI (wL (wX k)).length by unfold sLn; rw [hln]; rfl, if_pos (by rw [q_le (by omega) (by omega)]; omega)]
      rw [key]
      congr 1
      have all : ∀ m i, sFd (fun i => if B (a + i) = (wL (wX k)).getD i 0 then none else some (0 : Int32)) 1 i m = if (∀ j, j < i + m → i ≤ j → B (a + j) = (wL (wX k)).getD j 0) then 1 else 0 := by
        intro m
        induction m with
        | zero => intro i; rw [if_pos (fun j j1 j2 => absurd j1 (by omega))]; rfl
        | succ m ih =>
          intro i
          rw [sFd]
          by_cases q : B (a + i) = (wL (wX k)).getD i 0
          · rw [if_pos q]
            show sFd _ 1 (i + 1) m = _
            rw [ih (i + 1)]
            by_cases q2 : ∀ j, j < i + (m + 1) → i ≤ j → B (a + j) = (wL (wX k)).getD j 0
            · rw [if_pos q2, if_pos (fun j j1 j2 => q2 j (by omega) (by omega))]
            · rw [if_neg q2, if_neg (fun q3 => q2 (fun j j1 j2 => by
                by_cases e : j = i
                · rw [e]; exact q
                · exact q3 j (by omega) (by omega)))]
          · rw [if_neg q, if_neg (fun q3 => q (q3 i (by omega) (by omega)))]
      rw [all]
      by_cases q : tW B n a = wX k
      · rw [if_pos q, if_pos (fun j j2 _ => ((tW_is w2).mp q).2.2 j (by omega))]; rfl
      · rw [if_neg q, if_neg (fun q3 => q ((tW_is w2).mpr ⟨c1, c2, fun j hj => q3 j (by omega) (by omega)⟩))]
    · rw [if_neg (by rw [q_eq (by omega) (by omega)]; exact c2), if_neg (fun q => c2 ((tW_is w2).mp q).2.1)]
  · rw [if_neg (by rw [q_eq (by omega) (by omega)]; exact c1), if_neg (fun q => c1 ((tW_is w2).mp q).1)]
