/-! rows of places -/
def sw (f : Nat → Nat) (i : Nat) : Nat → Nat := fun q => if q = i then f (i + 1) else if q = i + 1 then f i else f q
def rgs (ch : Int32) (f : Nat → Nat) : Nat → Nat → Nat
  | 0 => f
  | i + 1 => if bt ch i then sw (rgs ch f i) i else rgs ch f i
/-- the row behind k changes of a method of m, n bells -/
def pr (chs : Nat → Int32) (m n : Nat) : Nat → Nat → Nat
  | 0 => fun q => q
  | k + 1 => rgs (chs (k % m)) (pr chs m n k) (n - 1)
def gdP (n : Nat) (f : Nat → Nat) : Prop := (∀ q, q < 6 → f q < 6) ∧ (∀ q, q < n → f q < n) ∧ (∀ q, n ≤ q → f q = q) ∧ (∀ p q, p < 6 → q < 6 → f p = f q → p = q)
theorem sw_l (f : Nat → Nat) (i : Nat) : sw f i i = f (i + 1) := if_pos rfl
theorem sw_r (f : Nat → Nat) (i : Nat) : sw f i (i + 1) = f i := by unfold sw; rw [if_neg (by omega), if_pos rfl]
theorem sw_o {f : Nat → Nat} {i q : Nat} (h1 : q ≠ i) (h2 : q ≠ i + 1) : sw f i q = f q := by unfold sw; rw [if_neg h1, if_neg h2]
theorem sw_good {n i : Nat} {f : Nat → Nat} (hn : n ≤ 6) (hi : i + 1 < n) (h : gdP n f) : gdP n (sw f i) := by
  obtain ⟨h1, h2, h3, h4⟩ := h
  have key : ∀ q, ∃ q', sw f i q = f q' ∧ (q < 6 → q' < 6) ∧ (q < n → q' < n) ∧ q' = (if q = i then i + 1 else if q = i + 1 then i else q) := fun q => by
    by_cases e1 : q = i
    · exact ⟨i + 1, by rw [e1, sw_l], by omega, by omega, by rw [if_pos e1]⟩
    · by_cases e2 : q = i + 1
      · exact ⟨i, by rw [e2, sw_r], by omega, by omega, by rw [if_neg e1, if_pos e2]⟩
      · exact ⟨q, sw_o e1 e2, by omega, by omega, by rw [if_neg e1, if_neg e2]⟩
  refine ⟨fun q hq => ?_, fun q hq => ?_, fun q hq => ?_, fun p q hp hq e => ?_⟩
  · obtain ⟨q', a, b, c, d⟩ := key q; rw [a]; exact h1 q' (b hq)
  · obtain ⟨q', a, b, c, d⟩ := key q; rw [a]; exact h2 q' (c hq)
  · rw [sw_o (by omega) (by omega)]; exact h3 q hq
  · obtain ⟨p', a1, b1', c1, d1⟩ := key p
    obtain ⟨q', a2, b2', c2, d2⟩ := key q
    rw [a1, a2] at e
    have e2 := h4 p' q' (b1' hp) (b2' hq) e
    rw [d1, d2] at e2
    split at e2 <;> split at e2 <;> (try split at e2) <;> (try split at e2) <;> omega
theorem rgs_good {n : Nat} {ch : Int32} {f : Nat → Nat} (hn : n ≤ 6) (h : gdP n f) : ∀ i, i ≤ n - 1 → gdP n (rgs ch f i)
  | 0, _ => h
  | i + 1, hi => by
    rw [rgs]
    by_cases e : bt ch i = true
    · rw [if_pos e]; exact sw_good hn (by omega) (rgs_good hn h i (by omega))
    · rw [if_neg e]; exact rgs_good hn h i (by omega)
theorem id_good (n : Nat) : gdP n (fun q => q) := ⟨fun _ h => h, fun _ h => h, fun _ _ => rfl, fun _ _ _ _ h => h⟩
theorem pr_good {chs : Nat → Int32} {m n : Nat} (hn : n ≤ 6) : ∀ k, gdP n (pr chs m n k)
  | 0 => id_good n
  | k + 1 => rgs_good hn (pr_good hn k) (n - 1) (Nat.le_refl _)
theorem rgs_comp {ch : Int32} {f g : Nat → Nat} : ∀ i q, rgs ch (fun x => f (g x)) i q = f (rgs ch g i q)
  | 0, _ => rfl
  | i + 1, q => by
    rw [rgs, rgs]
    by_cases e : bt ch i = true
    · rw [if_pos e, if_pos e]
      unfold sw
      by_cases e1 : q = i
      · rw [if_pos e1, if_pos e1]; exact rgs_comp i _
      · rw [if_neg e1, if_neg e1]
        by_cases e2 : q = i + 1
        · rw [if_pos e2, if_pos e2]; exact rgs_comp i _
        · rw [if_neg e2, if_neg e2]; exact rgs_comp i _
    · rw [if_neg e, if_neg e]; exact rgs_comp i _
theorem pr_s {chs : Nat → Int32} {m n k q : Nat} : pr chs m n (k + 1) q = pr chs m n k (rgs (chs (k % m)) (fun q => q) (n - 1) q) := rgs_comp (g := fun q => q) (n - 1) q
theorem pr_add {chs : Nat → Int32} {m n a : Nat} : ∀ b q, pr chs m n (a * m + b) q = pr chs m n (a * m) (pr chs m n b q)
  | 0, _ => rfl
  | b + 1, q => by
    rw [← Nat.add_assoc, pr_s, pr_add b, pr_s, show (a * m + b) % m = b % m by rw [Nat.mul_comm, Nat.mul_add_mod]]
def itr (g : Nat → Nat) : Nat → Nat → Nat
  | 0 => fun q => q
  | j + 1 => fun q => itr g j (g q)
theorem pr_itr {chs : Nat → Int32} {m n : Nat} : ∀ j q, pr chs m n (j * m) q = itr (pr chs m n m) j q
  | 0, q => by rw [Nat.zero_mul]; rfl
  | j + 1, q => by rw [Nat.succ_mul, pr_add m, pr_itr j]; rfl
def itL (L : List Nat) : Nat → Nat → Nat
  | 0 => fun q => q
  | j + 1 => fun q => itL L j (L.getD q 0)
def ordB : Bool := (List.range 6).all fun a => (List.range 6).all fun b => if b = a then true else (List.range 6).all fun c => if c = a ∨ c = b then true else (List.range 6).all fun d => if d = a ∨ d = b ∨ d = c then true else (List.range 6).all fun e => if e = a ∨ e = b ∨ e = c ∨ e = d then true else (List.range 6).all fun f => if f = a ∨ f = b ∨ f = c ∨ f = d ∨ f = e then true else (List.range 6).any fun j => (List.range 6).all fun q => decide (itL [a, b, c, d, e, f] (j + 1) q = q)
set_option maxRecDepth 100000 in
theorem ordB_t : ordB = true := by decide +kernel
theorem ord6 {a b c d e f : Nat} (ha : a < 6) (hb : b < 6) (hc : c < 6) (hd : d < 6) (he : e < 6) (hf : f < 6) (n1 : b ≠ a) (n2 : c ≠ a ∧ c ≠ b) (n3 : d ≠ a ∧ d ≠ b ∧ d ≠ c) (n4 : e ≠ a ∧ e ≠ b ∧ e ≠ c ∧ e ≠ d) (n5 : f ≠ a ∧ f ≠ b ∧ f ≠ c ∧ f ≠ d ∧ f ≠ e) : ∃ j, j < 6 ∧ ∀ q, q < 6 → itL [a, b, c, d, e, f] (j + 1) q = q := by
  have h := ordB_t
  unfold ordB at h
  have h := List.all_eq_true.mp h a (List.mem_range.mpr ha)
  have h := List.all_eq_true.mp h b (List.mem_range.mpr hb)
  rw [if_neg n1] at h
  have h := List.all_eq_true.mp h c (List.mem_range.mpr hc)
  rw [if_neg (by omega)] at h
  have h := List.all_eq_true.mp h d (List.mem_range.mpr hd)
  rw [if_neg (by omega)] at h
  have h := List.all_eq_true.mp h e (List.mem_range.mpr he)
  rw [if_neg (by omega)] at h
  have h := List.all_eq_true.mp h f (List.mem_range.mpr hf)
  rw [if_neg (by omega)] at h
  obtain ⟨j, h1, h2⟩ := List.any_eq_true.mp h
  exact ⟨j, List.mem_range.mp h1, fun q hq => of_decide_eq_true (List.all_eq_true.mp h2 q (List.mem_range.mpr hq))⟩
theorem itr_L {g : Nat → Nat} (h : ∀ q, q < 6 → g q < 6) : ∀ j q, q < 6 → itr g j q = itL [g 0, g 1, g 2, g 3, g 4, g 5] j q
  | 0, _, _ => rfl
  | j + 1, q, hq => by
    show itr g j (g q) = itL [g 0, g 1, g 2, g 3, g 4, g 5] j ([g 0, g 1, g 2, g 3, g 4, g 5].getD q 0)
    have e : [g 0, g 1, g 2, g 3, g 4, g 5].getD q 0 = g q := by
      rcases (show q = 0 ∨ q = 1 ∨ q = 2 ∨ q = 3 ∨ q = 4 ∨ q = 5 by omega) with rfl | rfl | rfl | rfl | rfl | rfl <;> rfl
    rw [e]
    exact itr_L h j (g q) (h q hq)
theorem ord_ex {n : Nat} {g : Nat → Nat} (h : gdP n g) : ∃ j, j < 6 ∧ ∀ q, q < 6 → itr g (j + 1) q = q := by
  obtain ⟨h1, -, -, h4⟩ := h
  have ne : ∀ p q, p < 6 → q < 6 → p ≠ q → g p ≠ g q := fun p q hp hq hn e => hn (h4 p q hp hq e)
  obtain ⟨j, hj, e⟩ := ord6 (h1 0 (by omega)) (h1 1 (by omega)) (h1 2 (by omega)) (h1 3 (by omega)) (h1 4 (by omega)) (h1 5 (by omega)) (ne 1 0 (by omega) (by omega) (by omega)) ⟨ne 2 0 (by omega) (by omega) (by omega), ne 2 1 (by omega) (by omega) (by omega)⟩ ⟨ne 3 0 (by omega) (by omega) (by omega), ne 3 1 (by omega) (by omega) (by omega), ne 3 2 (by omega) (by omega) (by omega)⟩ ⟨ne 4 0 (by omega) (by omega) (by omega), ne 4 1 (by omega) (by omega) (by omega), ne 4 2 (by omega) (by omega) (by omega), ne 4 3 (by omega) (by omega) (by omega)⟩ ⟨ne 5 0 (by omega) (by omega) (by omega), ne 5 1 (by omega) (by omega) (by omega), ne 5 2 (by omega) (by omega) (by omega), ne 5 3 (by omega) (by omega) (by omega), ne 5 4 (by omega) (by omega) (by omega)⟩
  exact ⟨j, hj, fun q hq => by rw [itr_L h1 _ q hq]; exact e q hq⟩
def isI (f : Nat → Nat) : Bool := decide (∀ q : Nat, q < 6 → f q = q)
def eqP (f g : Nat → Nat) : Bool := decide (∀ q : Nat, q < 6 → f q = g q)
/-- behind how many changes it is rounds again -/
def ln (chs : Nat → Int32) (m n : Nat) : Nat := sFk (fun i => isI (pr chs m n (i + 1))) 0 72 + 1
theorem ln_ex {chs : Nat → Int32} {m n : Nat} (hn : n ≤ 6) (hm : 0 < m) (hm2 : m ≤ 12) : ∃ i, i < 72 ∧ isI (pr chs m n (i + 1)) = true := by
  obtain ⟨j, hj, e⟩ := ord_ex (pr_good (chs := chs) (m := m) hn m)
  have h1 : (j + 1) * m ≤ 6 * 12 := Nat.mul_le_mul (by omega) hm2
  have h2 : 1 * 1 ≤ (j + 1) * m := Nat.mul_le_mul (by omega) (by omega)
  refine ⟨(j + 1) * m - 1, by omega, ?_⟩
  rw [show (j + 1) * m - 1 + 1 = (j + 1) * m by omega]
  exact decide_eq_true (fun q hq => by rw [pr_itr]; exact e q hq)
theorem ln_b {chs : Nat → Int32} {m n : Nat} (hn : n ≤ 6) (hm : 0 < m) (hm2 : m ≤ 12) : 1 ≤ ln chs m n ∧ ln chs m n ≤ 72 ∧ isI (pr chs m n (ln chs m n)) = true ∧ ∀ i, i + 1 < ln chs m n → isI (pr chs m n (i + 1)) = false := by
  obtain ⟨i, h1, h2⟩ := ln_ex (chs := chs) hn hm hm2
  unfold ln
  rcases sFk_b (p := fun i => isI (pr chs m n (i + 1))) 72 0 with e | e
  · have := sFk_n (p := fun i => isI (pr chs m n (i + 1))) 72 0 e (by omega) i (by omega) (by omega)
    rw [h2] at this
    exact nomatch this
  · refine ⟨by omega, by omega, sFk_t (p := fun i => isI (pr chs m n (i + 1))) 72 0 (by omega) (by omega), fun j hj => ?_⟩
    have key : ∀ k i, ∀ j, i ≤ j → j < sFk (fun i => isI (pr chs m n (i + 1))) i k → sFk (fun i => isI (pr chs m n (i + 1))) i k < i + k → isI (pr chs m n (j + 1)) = false := by
      intro k
      induction k with
      | zero => intro i j _ _ h; omega
      | succ k ih =>
        intro i j h3 h4 h5
        rw [sFk_s] at h4 h5
        by_cases e2 : isI (pr chs m n (i + 1)) = true
        · rw [if_pos e2] at h4; omega
        · rw [if_neg e2] at h4 h5
          by_cases e3 : j = i
          · subst e3; exact Bool.eq_false_iff.mpr e2
          · exact ih (i + 1) j (by omega) h4 (by omega)
    exact key 72 0 j (by omega) (by omega) (by omega)
/-- a row that was there -/
def dup (chs : Nat → Int32) (m n b : Nat) : Bool := decide (∃ a, a < b ∧ eqP (pr chs m n a) (pr chs m n b) = true)
def tw (chs : Nat → Int32) (m n : Nat) : Bool := decide (∃ b, b < ln chs m n ∧ dup chs m n b = true)
def tL (chs : Nat → Int32) (m n : Nat) : Nat := if tw chs m n then 0 else ln chs m n
/-- its number -/
def dn (f : Nat → Nat) : Nat → Nat
  | 0 => 0
  | i + 1 => 10 * dn f i + f i
theorem dn_b {f : Nat → Nat} : ∀ n, (∀ q, q < n → f q < 6) → dn f n < 10 ^ n
  | 0, _ => Nat.lt_succ_self 0
  | n + 1, h => by
    have := dn_b n (fun q hq => h q (by omega))
    have := h n (by omega)
    rw [dn, Nat.pow_succ]
    omega
theorem dn_i {f g : Nat → Nat} : ∀ n, (∀ q, q < n → f q < 6) → (∀ q, q < n → g q < 6) → dn f n = dn g n → ∀ q, q < n → f q = g q
  | 0, _, _, _ => fun q hq => absurd hq (by omega)
  | n + 1, h1, h2, e => by
    have a := h1 n (by omega)
    have b := h2 n (by omega)
    rw [dn, dn] at e
    intro q hq
    by_cases e2 : q = n
    · subst e2; omega
    · exact dn_i n (fun q hq => h1 q (by omega)) (fun q hq => h2 q (by omega)) (by omega) q (by omega)
theorem dn_c {f g : Nat → Nat} : ∀ n, (∀ q, q < n → f q = g q) → dn f n = dn g n
  | 0, _ => rfl
  | n + 1, h => by rw [dn, dn, dn_c n (fun q hq => h q (by omega)), h n (by omega)]
theorem dn_e {n : Nat} {f g : Nat → Nat} (hn : n ≤ 6) (hf : gdP n f) (hg : gdP n g) : (dn f n = dn g n) = (eqP f g = true) := by
  apply propext
  unfold eqP
  rw [decide_eq_true_iff]
  constructor
  · intro e q hq
    by_cases e2 : q < n
    · exact dn_i n (fun q hq => hf.1 q (by omega)) (fun q hq => hg.1 q (by omega)) e q e2
    · rw [hf.2.2.1 q (by omega), hg.2.2.1 q (by omega)]
  · intro e
    exact dn_c n (fun q hq => e q (by omega))
/-! a row in one number -/
def rp (x : Int32) (f : Nat → Nat) : Prop := ∀ i, i < 32 → bt x i = (decide (i < 18) && (f (i / 3)).testBit (i % 3))
theorem tb3 {a j : Nat} (ha : a < 8) (hj : 3 ≤ j) : a.testBit j = false := Nat.testBit_lt_two_pow (Nat.lt_of_lt_of_le ha (show 8 ≤ 2 ^ j from Nat.pow_le_pow_right (n := 2) (by omega) hj))
theorem rp_at {x : Int32} {f : Nat → Nat} {q : Nat} (h : rp x f) (hf : ∀ q, q < 6 → f q < 6) (hq : q < 6) : (x >>> (nI (3 * q) &&& 31)) &&& 7 = nI (f q) := by
  apply b_ext
  intro i hi
  have h7 : bt 7 i = decide (i < 3) := (by decide +kernel : ∀ i, i < 32 → bt 7 i = decide (i < 3)) i hi
  have hfq := hf q hq
  rw [b_and, h7, b_sshr (3 * q) (by omega) x hi, b_nI hi]
  by_cases e : i < 3
  · rw [if_pos (by omega), h _ (by omega), decide_eq_true e, decide_eq_true (by omega), Bool.and_true, Bool.true_and, show (3 * q + i) / 3 = q by omega, show (3 * q + i) % 3 = i by omega]
  · rw [decide_eq_false e, Bool.and_false, tb3 (by omega) (by omega)]
theorem rp_u {x y : Int32} {f g : Nat → Nat} (hx : rp x f) (hy : rp y g) (hf : ∀ q, q < 6 → f q < 6) (hg : ∀ q, q < 6 → g q < 6) : (x = y) = (eqP f g = true) := by
  apply propext
  unfold eqP
  rw [decide_eq_true_iff]
  constructor
  · intro e q hq
    have h1 := rp_at hx hf hq
    rw [e, rp_at hy hg hq, q_eq (by have := hg q hq; omega) (by have := hf q hq; omega)] at h1
    exact h1.symm
  · intro e
    apply b_ext
    intro i hi
    rw [hx i hi, hy i hi]
    by_cases e2 : i < 18
    · rw [e (i / 3) (by omega)]
    · rw [decide_eq_false e2, Bool.false_and, Bool.false_and]
theorem rp_0 : rp 181896 (fun q => q) := by
  unfold rp
  decide +kernel
theorem rp_sw {x : Int32} {f : Nat → Nat} {i : Nat} (h : rp x f) (hf : ∀ q, q < 6 → f q < 6) (hi : i + 1 < 6) : rp (x ^^^ (((nI (f i) ^^^ nI (f (i + 1))) ||| ((nI (f i) ^^^ nI (f (i + 1))) <<< ((3 : Int32) &&& 31))) <<< (nI (3 * i) &&& 31))) (sw f i) := by
  intro j hj
  have fa := hf i (by omega)
  have fb := hf (i + 1) (by omega)
  have u : ∀ k, k < 32 → bt (nI (f i) ^^^ nI (f (i + 1))) k = ((f i).testBit k ^^ (f (i + 1)).testBit k) := fun k hk => by rw [b_xor, b_nI hk, b_nI hk]
  have u3 : ∀ k, 3 ≤ k → k < 32 → bt (nI (f i) ^^^ nI (f (i + 1))) k = false := fun k h3 hk => by rw [u k hk, tb3 (by omega) h3, tb3 (by omega) h3]; rfl
  have w : ∀ k, k < 32 → bt ((nI (f i) ^^^ nI (f (i + 1))) ||| ((nI (f i) ^^^ nI (f (i + 1))) <<< ((3 : Int32) &&& 31))) k = (bt (nI (f i) ^^^ nI (f (i + 1))) k || (decide (3 ≤ k) && bt (nI (f i) ^^^ nI (f (i + 1))) (k - 3))) := fun k hk => by rw [b_or, show bt ((nI (f i) ^^^ nI (f (i + 1))) <<< ((3 : Int32) &&& 31)) k = _ from b_shl 3 (by omega) _ hk]
  rw [b_xor, h j hj, b_shl (3 * i) (by omega) _ hj]
  by_cases e1 : j / 3 = i
  · rw [decide_eq_true (by omega : 3 * i ≤ j), Bool.true_and, w _ (by omega), decide_eq_false (by omega : ¬ 3 ≤ j - 3 * i), Bool.false_and, Bool.or_false, u _ (by omega), e1, sw_l, show j - 3 * i = j % 3 by omega, decide_eq_true (by omega : j < 18), Bool.true_and, Bool.true_and]
    cases (f i).testBit (j % 3) <;> cases (f (i + 1)).testBit (j % 3) <;> rfl
  · by_cases e2 : j / 3 = i + 1
    · rw [decide_eq_true (by omega : 3 * i ≤ j), Bool.true_and, w _ (by omega), decide_eq_true (by omega : 3 ≤ j - 3 * i), Bool.true_and, u3 _ (by omega) (by omega), Bool.false_or, u _ (by omega), e2, sw_r, show j - 3 * i - 3 = j % 3 by omega, decide_eq_true (by omega : j < 18), Bool.true_and, Bool.true_and]
      cases (f i).testBit (j % 3) <;> cases (f (i + 1)).testBit (j % 3) <;> rfl
    · rw [sw_o e1 e2]
      by_cases e3 : 3 * i ≤ j
      · rw [decide_eq_true e3, Bool.true_and, w _ (by omega), decide_eq_true (by omega : 3 ≤ j - 3 * i), Bool.true_and, u3 _ (by omega) (by omega), u3 _ (by omega) (by omega), Bool.or_false, Bool.xor_false]
      · rw [decide_eq_false e3, Bool.false_and, Bool.xor_false]
