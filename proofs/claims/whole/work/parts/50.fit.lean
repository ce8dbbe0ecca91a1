/-! which root for which note -/
def fCo (A : aPl) (row : Nat → Int32) (k r : Nat) : Nat := sCs A row r (pU A k).toNatClampNeg
def mnF (g : Nat → Nat) : Nat → Nat
  | 0 => 9999
  | r + 1 => min (mnF g r) (g r)
/-- rem notes are left, u are used -/
def fF (c : Nat → Nat → Nat) (R T : Nat) : Nat → Nat → Nat
  | 0, _ => 0
  | rem + 1, u => mnF (fun r => if u.testBit r then 9999 else c (T - (rem + 1)) r + fF c R T rem (u ||| 2 ^ r)) R
def fG (c : Nat → Nat → Nat) (R T rem u r : Nat) : Nat := if u.testBit r then 9999 else c (T - (rem + 1)) r + fF c R T rem (u ||| 2 ^ r)
theorem fF_s {c : Nat → Nat → Nat} {R T rem u : Nat} : fF c R T (rem + 1) u = mnF (fG c R T rem u) R := rfl
theorem mnF_le (g : Nat → Nat) : ∀ n, mnF g n ≤ 9999
  | 0 => Nat.le_refl _
  | n + 1 => by rw [mnF]; have := mnF_le g n; omega
theorem mnF_b {g : Nat → Nat} {m : Nat} (h : ∀ r, 9999 ≤ g r ∨ g r ≤ m) : ∀ n, mnF g n = 9999 ∨ mnF g n ≤ m
  | 0 => Or.inl rfl
  | n + 1 => by
    rw [mnF]
    have a := mnF_b h n
    have b := h n
    omega
theorem fF_b {c : Nat → Nat → Nat} {R T : Nat} (hc : ∀ k r, c k r = 9999 ∨ c k r ≤ 20) : ∀ rem u, fF c R T rem u = 9999 ∨ fF c R T rem u ≤ 20 * rem
  | 0, _ => Or.inr (Nat.zero_le _)
  | rem + 1, u => by
    rw [fF_s]
    refine mnF_b (fun r => ?_) R
    unfold fG
    by_cases e : u.testBit r = true
    · rw [if_pos e]; omega
    · rw [if_neg e]
      have a := hc (T - (rem + 1)) r
      have b := fF_b (R := R) (T := T) hc rem (u ||| 2 ^ r)
      omega
theorem fG_b {c : Nat → Nat → Nat} {R T rem u r : Nat} (hc : ∀ k r, c k r = 9999 ∨ c k r ≤ 20) : 9999 ≤ fG c R T rem u r ∨ fG c R T rem u r ≤ 20 * (rem + 1) := by
  unfold fG
  by_cases e : u.testBit r = true
  · rw [if_pos e]; omega
  · rw [if_neg e]
    have a := hc (T - (rem + 1)) r
    have b := fF_b (R := R) (T := T) hc rem (u ||| 2 ^ r)
    omega
theorem fG_le {c : Nat → Nat → Nat} {R T rem u r : Nat} (hc : ∀ k r, c k r = 9999 ∨ c k r ≤ 20) (hr : rem ≤ 8) : fG c R T rem u r ≤ 20000 := by
  unfold fG
  by_cases e : u.testBit r = true
  · rw [if_pos e]; omega
  · rw [if_neg e]
    have a := hc (T - (rem + 1)) r
    have b := fF_b (R := R) (T := T) hc rem (u ||| 2 ^ r)
    omega
/-- the class's number for 'never' -/
def nv (x : Nat) : Nat := if 9999 ≤ x then 1000000 else x
def pc (u : Nat) : Nat := fb_ct (fun r => u.testBit r) 10
theorem or_tb {u r k : Nat} : (u ||| 2 ^ r).testBit k = if k = r then true else u.testBit k := by
  rw [Nat.testBit_or, Nat.testBit_two_pow]
  by_cases e : k = r
  · subst e; simp
  · rw [if_neg e, decide_eq_false (fun q => e q.symm), Bool.or_false]
theorem pc_or {u r : Nat} (hr : r < 10) (h : u.testBit r = false) : pc (u ||| 2 ^ r) = pc u + 1 := by
  unfold pc
  have h1 := fb_ct_upd (fun r => u.testBit r) true hr
  have e0 : (fun r => u.testBit r) r = false := h
  rw [show u.testBit r = false from h, if_neg Bool.false_ne_true, if_pos (show true = true from rfl), Nat.add_zero] at h1
  rw [← h1]
  exact fb_ct_cong (fun k _ => or_tb)
theorem or_lt {u r R : Nat} (hu : u < 2 ^ R) (hr : r < R) : u ||| 2 ^ r < 2 ^ R := Nat.or_lt_two_pow hu (Nat.pow_lt_pow_right (by omega) hr)
theorem or_gt {u r : Nat} (h : u.testBit r = false) : u < u ||| 2 ^ r := by
  have h1 : u ≤ u ||| 2 ^ r := Nat.left_le_or
  have h2 : u ≠ u ||| 2 ^ r := fun e => by
    have : (u ||| 2 ^ r).testBit r = true := by rw [or_tb, if_pos rfl]
    rw [← e, h] at this
    exact nomatch this
  omega
theorem or_eq {u r : Nat} (h : u.testBit r = true) : u ||| 2 ^ r = u := by
  apply Nat.eq_of_testBit_eq
  intro k
  rw [or_tb]
  by_cases e : k = r
  · subst e; rw [if_pos rfl, h]
  · rw [if_neg e]
theorem b1_nI : ∀ r, r < 11 → (1 : Int32) <<< (nI r &&& 31) = nI (2 ^ r) := by decide +kernel
theorem or_nI {u r : Nat} (hr : r < 11) : nI u ||| ((1 : Int32) <<< (nI r &&& 31)) = nI (u ||| 2 ^ r) := by rw [b1_nI r hr, fa_or]
theorem low_nI : ∀ n, n < 11 → ((1 : Int32) <<< (nI n &&& 31)) - 1 = nI (2 ^ n - 1) := by decide +kernel
theorem p2_le {R : Nat} (h : R ≤ 10) : 2 ^ R ≤ 1024 := Nat.pow_le_pow_right (n := 2) (by omega) h
/-- the class's table -/
def lC (A : aPl) (row : Nat → Int32) (u : Nat) : Nat := if pc u ≤ pT A then nv (fF (fCo A row) (pR A) (pT A) (pT A - pc u) u) else 1000000
theorem fCo_b {A : aPl} {row : Nat → Int32} : ∀ k r, fCo A row k r = 9999 ∨ fCo A row k r ≤ 20 := fun _ _ => sCs_b
def cFi (I : mIT) (A : aPl) (row : Nat → Int32) : Prop := I 66 4 = 0 ∨ (I 66 4 = 1 ∧ I 66 2 = nI (pT A) ∧ I 66 3 = nI (pR A) ∧ (∀ k r, k < pT A → r < pR A → I 67 (k * 10 + r) = nI (nv (fCo A row k r))) ∧ ∀ u, u < 2 ^ pR A → I 68 u = nI (lC A row u))
theorem nv_le (x : Nat) : nv x ≤ 1000000 := by unfold nv; split <;> omega
theorem lC_le {A : aPl} {row : Nat → Int32} (u : Nat) : lC A row u ≤ 1000000 := by
  unfold lC
  split
  · exact nv_le _
  · omega
theorem nv_n : nv 9999 = 1000000 := rfl
theorem nv_s {x : Nat} (h : x < 9999) : nv x = x := if_neg (by omega)
theorem nv_g {x : Nat} (h : 9999 ≤ x) : nv x = 1000000 := if_pos h
theorem nv_add {x y : Nat} (hx : x = 9999 ∨ x ≤ 20) (hy : y = 9999 ∨ y ≤ 5000) : (if nv x + nv y < 1000000 then nI (nv x + nv y) else nI 1000000) = nI (nv (x + y)) := by
  rcases hx with rfl | hx
  · rw [nv_n, if_neg (by omega), nv_g (by omega)]
  · rcases hy with rfl | hy
    · rw [nv_n, if_neg (by omega), nv_g (by omega)]
    · rw [nv_s (by omega), nv_s (by omega), nv_s (x := x + y) (by omega), if_pos (by omega)]
theorem nv_min {x y : Nat} : nv (min x y) = if nv y < nv x then nv y else nv x := by
  unfold nv
  by_cases a : 9999 ≤ x
  · by_cases b : 9999 ≤ y
    · rw [if_pos a, if_pos b, if_pos (by omega), if_neg (by omega)]
    · rw [if_pos a, if_neg b, if_neg (by omega), if_pos (by omega)]; omega
  · by_cases b : 9999 ≤ y
    · rw [if_neg a, if_pos b, if_neg (by omega), if_neg (by omega)]; omega
    · rw [if_neg a, if_neg b, if_neg (by omega)]
      by_cases c : y < x
      · rw [if_pos c]; omega
      · rw [if_neg c]; omega
theorem c_leastBy {Fu : Nat} {I : mIT} {A : aPl} {row : Nat → Int32} {k r u : Nat} (ho : okPl A) (hn : ∀ k r, k < pT A → r < pR A → I 67 (k * 10 + r) = nI (nv (fCo A row k r))) (hl : ∀ w, u < w → w < 2 ^ pR A → I 68 w = nI (lC A row w)) (hk : k < pT A) (hr : r < pR A) (hu : u < 2 ^ pR A) (hpc : pc u = k) : f_X2_leastBy Fu I (nI k) (nI r) (nI u) = some (nI (nv (fG (fCo A row) (pR A) (pT A) (pT A - (k + 1)) u r))) := by
  have h10 := ho.1
  have h8 := ho.2.2.2.1
  have hp2 := p2_le h10
  have hor := or_lt hu hr
  unfold f_X2_leastBy
  rw [or_nI (by omega)]
  by_cases e : u.testBit r = true
  · rw [or_eq e, if_pos rfl]
    unfold fG
    rw [if_pos e]; rfl
  · have e' := Bool.eq_false_iff.mpr e
    have hgt := or_gt e'
    rw [if_neg (by rw [q_eq (by omega) (by omega)]; omega), mr_10, nI_add, if_neg (by rw [q_lt0 (by omega)]; simp), if_neg (by rw [q_le (by omega) (by omega)]; omega), if_neg (by rw [q_lt0 (by omega)]; simp), if_pos (by rw [q_lt (by omega) (by omega)]; omega), q_GI (by omega) (by omega), q_GI (by omega) (by omega), q_cl (by omega), q_cl (by omega), hn k r hk hr, hl _ hgt hor, nI_add]
    have hpo := pc_or (show r < 10 by omega) e'
    have n1 := nv_le (fCo A row k r)
    have n2 := lC_le (A := A) (row := row) (u ||| 2 ^ r)
    rw [show (1000000 : Int32) = nI 1000000 from rfl]
    simp (disch := omega) only [q_lt]
    unfold fG
    rw [if_neg e, show pT A - (pT A - (k + 1) + 1) = k by omega]
    have hlu : lC A row (u ||| 2 ^ r) = nv (fF (fCo A row) (pR A) (pT A) (pT A - (k + 1)) (u ||| 2 ^ r)) := by
      unfold lC
      rw [if_pos (by omega), show pT A - pc (u ||| 2 ^ r) = pT A - (k + 1) by omega]
    rw [hlu]
    have b1' := fCo_b (A := A) (row := row) k r
    have b2' := fF_b (R := pR A) (T := pT A) (fCo_b (A := A) (row := row)) (pT A - (k + 1)) (u ||| 2 ^ r)
    generalize fCo A row k r = x at b1'
    generalize fF (fCo A row) (pR A) (pT A) (pT A - (k + 1)) (u ||| 2 ^ r) = y at b2'
    rw [← nv_add b1' (show y = 9999 ∨ y ≤ 5000 by omega)]
theorem c_leastBehind {Fu : Nat} {I : mIT} {A : aPl} {row : Nat → Int32} {u : Nat} (hF : 701 < Fu) (ho : okPl A) (h2 : I 66 2 = nI (pT A)) (h3 : I 66 3 = nI (pR A)) (hn : ∀ k r, k < pT A → r < pR A → I 67 (k * 10 + r) = nI (nv (fCo A row k r))) (hl : ∀ w, u < w → w < 2 ^ pR A → I 68 w = nI (lC A row w)) (hu : u < 2 ^ pR A) : f_X2_leastBehind Fu I (nI u) = some (nI (lC A row u)) := by
  have h10 := ho.1
  have h8 := ho.2.2.2.1
  have hp2 := p2_le h10
  have hpc : pc u ≤ 10 := fb_ct_le _ 10
  unfold f_X2_leastBehind
  rw [nI_mkB (show u < 1024 by omega), bc, q_B, ← nI_mkB (show u < 1024 by omega), h2]
  rw [show fb_ct (fun r => u.testBit r) 10 = pc u from rfl]
  by_cases e : pc u < pT A
  · rw [if_pos (by rw [q_lt (by omega) (by omega)]; exact e)]
    have key : w_X2_leastBehind_34 Fu I Fu (nI u) (nI (pc u)) 1000000 0 = some (nI (nv (mnF (fG (fCo A row) (pR A) (pT A) (pT A - (pc u + 1)) u) (pR A)))) := by
      unfold w_X2_leastBehind_34
      refine q_for (fun i => (nI u, nI (pc u), nI (nv (mnF (fG (fCo A row) (pR A) (pT A) (pT A - (pc u + 1)) u) i)), nI i)) (pR A) _ ?_ ?_ Fu (by omega)
      · intro i hi self
        show b_X2_leastBehind_34 Fu I self (nI u) (nI (pc u)) _ (nI i) = _
        unfold b_X2_leastBehind_34
        rw [h3, if_neg (by rw [q_le (by omega) (by omega)]; omega), c_leastBy ho hn hl e hi hu rfl, q_B, q_1, mnF]
        have n1 := nv_le (mnF (fG (fCo A row) (pR A) (pT A) (pT A - (pc u + 1)) u) i)
        have n2 := nv_le (fG (fCo A row) (pR A) (pT A) (pT A - (pc u + 1)) u i)
        rw [nv_min]
        generalize nv (mnF (fG (fCo A row) (pR A) (pT A) (pT A - (pc u + 1)) u) i) = x at n1
        generalize nv (fG (fCo A row) (pR A) (pT A) (pT A - (pc u + 1)) u i) = y at n2
        by_cases e2 : y < x
        · rw [if_pos (by rw [q_lt (by omega) (by omega)]; exact e2), if_pos e2]
        · rw [if_neg (by rw [q_lt (by omega) (by omega)]; exact e2), if_neg e2]
      · intro self
        show b_X2_leastBehind_34 Fu I self (nI u) (nI (pc u)) _ (nI (pR A)) = _
        unfold b_X2_leastBehind_34
        rw [h3, if_pos (by rw [q_le (by omega) (by omega)]; omega)]
    rw [key]
    unfold lC
    rw [if_pos (by omega), show pT A - pc u = (pT A - (pc u + 1)) + 1 by omega, fF_s]
  · rw [if_neg (by rw [q_lt (by omega) (by omega)]; exact e)]
    unfold lC
    by_cases e2 : pc u = pT A
    · rw [if_pos (by rw [e2]), if_pos (by omega), e2, Nat.sub_self]; rfl
    · rw [if_neg (by rw [q_eq (by omega) (by omega)]; exact e2), if_neg (by omega)]; rfl
theorem c_needs {Fu : Nat} {I : mIT} {p r : Nat} {A : aPl} {row : Nat → Int32} (hF : 701 < Fu) (ho : okPl A) (hk : okR A 999 row) (hp : p = 3 ∨ p = 22) (hpl : cPl I p A) (hrw : rI A I 41 0 row) (hr : r < pR A) (hg : row (31 + r) ≠ -2) (h2 : I 66 2 = nI (pT A)) (h0 : ∀ k, k < pT A → I 67 (k * 10 + r) = 1000000) : wp (f_X2_findNeeds Fu I p 40 (nI r)) (fun J => (∀ k, k < pT A → J 67 (k * 10 + r) = nI (nv (fCo A row k r))) ∧ (∀ j, j % 10 ≠ r → J 67 j = I 67 j) ∧ ∀ c, c ≠ 67 → c ≠ p + 8 → c ≠ p + 9 → J c = I c) := by
  have h10 := ho.1
  have h8 := ho.2.2.2.1
  have hmy := sMy_le row r
  have hp67 : 67 ≠ p + 8 ∧ 67 ≠ p + 9 ∧ 66 ≠ p + 8 ∧ 66 ≠ p + 9 := by rcases hp with rfl | rfl <;> decide
  have hfc : ∀ k, k < pT A → fCo A row k r = sFk (fun m => decide (sNt A row r (nI m) = pU A k)) 0 (sMy row r + 1) := fun k hk1 => by
    obtain ⟨t, ht, hte⟩ := ho.2.2.2.2.2.2.1 k hk1
    unfold fCo sCs
    rw [if_neg hg, hte, q_cl (by omega)]
  unfold f_X2_findNeeds
  refine wp_Be (c_room ho hk hrw hr) ?_
  unfold w_X2_findNeeds_7
  refine wp_loop (fun dd (s : Int32 × Int32 × mIT) => ∃ (i : Nat) (J : mIT), s = (nI r, dN i, J) ∧ dd = i ∧ i ≤ sMy row r + 1 ∧ (∀ k, k < pT A → J 67 (k * 10 + r) = nI (nv (sFk (fun m => decide (sNt A row r (nI m) = pU A k)) i (sMy row r + 1 - i)))) ∧ (∀ j, j % 10 ≠ r → J 67 j = I 67 j) ∧ ∀ c, c ≠ 67 → c ≠ p + 8 → c ≠ p + 9 → J c = I c) _ ?_ Fu (sMy row r + 1) _ ⟨sMy row r + 1, I, by unfold dN; rw [if_neg (by omega)]; rfl, rfl, by omega, fun k hk1 => by rw [Nat.sub_self, h0 k hk1]; rfl, fun _ _ => rfl, fun _ _ _ _ => rfl⟩ (by omega)
  rintro dd s self ⟨i, J, rfl, hdd, hi, f1, f2, f3⟩ hself
  show wp (b_X2_findNeeds_7 Fu p 40 self (nI r) (dN i) J) _
  unfold b_X2_findNeeds_7
  by_cases e0 : i = 0
  · subst e0
    refine wp_p (by decide) (wp_s ⟨fun k hk1 => ?_, f2, f3⟩)
    rw [f1 k hk1, hfc k hk1, Nat.sub_zero]
  · obtain ⟨m, rfl⟩ : ∃ m, i = m + 1 := ⟨i - 1, by omega⟩
    have hd : dN (m + 1) = nI m := by unfold dN; rw [if_neg (by omega)]; rfl
    rw [hd]
    refine wp_n (by rw [q_lt0 (by omega)]; simp) ?_
    have hJp : cPl J p A := cPl_fr hpl (fun c c1 c2 c3 c4 _ _ => f3 c (by rcases hp with rfl | rfl <;> omega) c3 c4)
    have hJr : rI A J (40 + 1) 0 row := fun j hj => by rw [f3 (40 + 1) (by decide) (by rcases hp with rfl | rfl <;> decide) (by rcases hp with rfl | rfl <;> decide)]; exact hrw j hj
    refine wp_B (c_note (k := 40) hF hJp ho hJr hk (by omega) hr) ?_
    rintro ⟨v, K⟩ ⟨u1, u2⟩
    dsimp only at u1 u2 ⊢
    subst u1
    unfold w_X2_findNeeds_25
    refine wp_loop (fun dd (s : Int32 × Int32 × Int32 × Int32 × mIT) => ∃ (k : Nat) (L : mIT), s = (nI r, nI m, sNt A row r (nI m), nI k, L) ∧ dd = pT A - k ∧ k ≤ pT A ∧ (∀ j, j < pT A → L 67 (j * 10 + r) = (if j < k then nI (nv (sFk (fun x => decide (sNt A row r (nI x) = pU A j)) m (sMy row r + 1 - m))) else J 67 (j * 10 + r))) ∧ (∀ j, j % 10 ≠ r → L 67 j = I 67 j) ∧ ∀ c, c ≠ 67 → c ≠ p + 8 → c ≠ p + 9 → L c = I c) _ ?_ Fu (pT A) _ ⟨0, K, rfl, rfl, by omega, fun j _ => by rw [if_neg (by omega), u2 67 hp67.1 hp67.2.1], fun j hj => by rw [u2 67 hp67.1 hp67.2.1]; exact f2 j hj, fun c c1 c2 c3 => by rw [u2 c c2 c3]; exact f3 c c1 c2 c3⟩ (by omega)
    rintro dk s selfk ⟨k, L, rfl, hdk, hk8, g1, g2, g3⟩ hselfk
    show wp (b_X2_findNeeds_25 Fu p 40 self selfk (nI r) (nI m) _ (nI k) L) _
    unfold b_X2_findNeeds_25
    refine wp_i (by rw [g3 66 (by decide) hp67.2.2.1 hp67.2.2.2, h2, q_le (by omega) (by omega)]) (fun hle => ?_) (fun hlt => ?_)
    · rw [dN_s]
      refine hself m _ (by omega) ⟨m, L, rfl, rfl, by omega, fun j hj => ?_, g2, g3⟩
      rw [g1 j hj, if_pos (by omega)]
    · have hk2 : k < pT A := by omega
      have hLp : cPl L p A := cPl_fr hpl (fun c c1 c2 c3 c4 _ _ => g3 c (by rcases hp with rfl | rfl <;> omega) c3 c4)
      refine wp_Be (c_tuneNote (by omega)) ?_
      rw [hLp.2.2.2.2.2.2.2.2.1 k hk2, mr_10, nI_add, q_1]
      have hs2 : ∀ j, sFk (fun x => decide (sNt A row r (nI x) = pU A j)) m (sMy row r + 1 - m) = if decide (sNt A row r (nI m) = pU A j) = true then m else sFk (fun x => decide (sNt A row r (nI x) = pU A j)) (m + 1) (sMy row r + 1 - (m + 1)) := fun j => by
        rw [show sMy row r + 1 - m = (sMy row r + 1 - (m + 1)) + 1 by omega, sFk_s]
      refine wp_f (fun e => ?_) (fun e => ?_)
      · refine wp_n (by rw [q_lt0 (by omega)]; simp) (wp_n (by rw [q_le (by omega) (by omega)]; omega) ?_)
        rw [q_GI (by omega) (by omega), q_cl (by omega)]
        refine hselfk (pT A - (k + 1)) _ (by omega) ⟨k + 1, _, rfl, rfl, by omega, fun j hj => ?_, fun j hj => by rw [q_Uj (by omega)]; exact g2 j hj, fun c c1 c2 c3 => by rw [mU_other c1]; exact g3 c c1 c2 c3⟩
        by_cases e2 : j = k
        · subst e2
          rw [q_U, if_pos (by omega), hs2, decide_eq_true e.symm, if_pos rfl]
          unfold nv
          rw [if_neg (by omega)]
        · rw [q_Uj (by omega), g1 j hj]
          by_cases e3 : j < k
          · rw [if_pos e3, if_pos (by omega)]
          · rw [if_neg e3, if_neg (by omega)]
      · refine hselfk (pT A - (k + 1)) _ (by omega) ⟨k + 1, L, rfl, rfl, by omega, fun j hj => ?_, g2, g3⟩
        rw [g1 j hj]
        by_cases e2 : j = k
        · subst e2
          rw [if_neg (by omega), if_pos (by omega), f1 j hj, hs2, decide_eq_false (fun q => e q.symm), if_neg (by simp)]
        · by_cases e3 : j < k
          · rw [if_pos e3, if_pos (by omega)]
          · rw [if_neg e3, if_neg (by omega)]
