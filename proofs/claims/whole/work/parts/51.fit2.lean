/-! which root for which note: the class works it out -/
def cFv (I : mIT) (A : aPl) (row : Nat → Int32) : Prop := I 66 4 = 1 ∧ I 66 2 = nI (pT A) ∧ I 66 3 = nI (pR A) ∧ (∀ k r, k < pT A → r < pR A → I 67 (k * 10 + r) = nI (nv (fCo A row k r))) ∧ ∀ u, u < 2 ^ pR A → I 68 u = nI (lC A row u)
def cFf (p : Nat) (I J : mIT) : Prop := ∀ c, c ≠ 66 → c ≠ 67 → c ≠ 68 → c ≠ p + 8 → c ≠ p + 9 → J c = I c
theorem nI_nlt1 {k : Nat} (h : k < 2147483648) : ¬ (nI k < -1) := by
  rw [Int32.lt_iff_toInt_lt, nI_toInt h]
  show ¬ ((k : Int) < -1)
  omega
theorem nI_nem1 {k : Nat} (h : k < 2147483648) : ¬ (nI k = -1) := fun e => by
  have := congrArg Int32.toInt e
  rw [nI_toInt h] at this
  have h2 : (-1 : Int32).toInt = -1 := by decide
  omega
theorem m1_lt {k : Nat} (h : k < 2147483648) : (-1 : Int32) < nI k := by
  rw [Int32.lt_iff_toInt_lt, nI_toInt h]
  show (-1 : Int) < k
  omega
theorem nv_b (x : Nat) : nv x < 2147483648 := Nat.lt_of_le_of_lt (nv_le x) (by decide)
theorem c_wo96 {Fu : Nat} {I : mIT} {p : Nat} {A : aPl} {row : Nat → Int32} (hF : 2000 < Fu) (ho : okPl A) (h4 : I 66 4 = 1) (h2 : I 66 2 = nI (pT A)) (h3 : I 66 3 = nI (pR A)) (hn : ∀ k r, k < pT A → r < pR A → I 67 (k * 10 + r) = nI (nv (fCo A row k r))) : wp (w_X2_workOut_96 Fu p 40 Fu (nI (2 ^ pR A - 1)) I) (fun J => cFv J A row ∧ ∀ c, c ≠ 68 → J c = I c) := by
  have h10 := ho.1
  have hp2 := p2_le h10
  have hp0 : 0 < 2 ^ pR A := Nat.two_pow_pos _
  unfold w_X2_workOut_96
  refine wp_loop (fun dd (s : Int32 × mIT) => ∃ (i : Nat) (J : mIT), s = (dN i, J) ∧ dd = i ∧ i ≤ 2 ^ pR A ∧ (∀ w, i ≤ w → w < 2 ^ pR A → J 68 w = nI (lC A row w)) ∧ ∀ c, c ≠ 68 → J c = I c) _ ?_ Fu (2 ^ pR A) _ ⟨2 ^ pR A, I, by unfold dN; rw [if_neg (by omega)], rfl, by omega, fun w w1 w2 => absurd w1 (by omega), fun _ _ => rfl⟩ (by omega)
  rintro dd s self ⟨i, J, rfl, hdd, hi, f1, f2⟩ hself
  show wp (b_X2_workOut_96 Fu p 40 self (dN i) J) _
  unfold b_X2_workOut_96
  by_cases e0 : i = 0
  · subst e0
    refine wp_p (by decide) (wp_s ⟨⟨?_, ?_, ?_, ?_, ?_⟩, f2⟩)
    · rw [f2 66 (by decide)]; exact h4
    · rw [f2 66 (by decide)]; exact h2
    · rw [f2 66 (by decide)]; exact h3
    · rw [f2 67 (by decide)]; exact hn
    · exact fun u hu => f1 u (by omega) hu
  · obtain ⟨m, rfl⟩ : ∃ m, i = m + 1 := ⟨i - 1, by omega⟩
    have hd : dN (m + 1) = nI m := by unfold dN; rw [if_neg (by omega)]; rfl
    rw [hd]
    refine wp_n (by rw [q_lt0 (by omega)]; simp) (wp_n (by rw [q_le (by omega) (by omega)]; omega) ?_)
    refine wp_Be (c_leastBehind (by omega) ho (by rw [f2 66 (by decide)]; exact h2) (by rw [f2 66 (by decide)]; exact h3) (by rw [f2 67 (by decide)]; exact hn) (fun w w1 w2 => f1 w (by omega) w2) (by omega)) ?_
    rw [q_GI (by omega) (by omega), q_cl (by omega), dN_s]
    refine hself m _ (by omega) ⟨m, _, rfl, rfl, by omega, fun w w1 w2 => ?_, fun c hc => by rw [mU_other hc]; exact f2 c hc⟩
    by_cases e : w = m
    · subst e; rw [q_U]
    · rw [q_Uj e]; exact f1 w (by omega) w2
theorem c_wo56 {Fu : Nat} {I : mIT} {p : Nat} {A : aPl} {row : Nat → Int32} (hF : 2000 < Fu) (ho : okPl A) (hk : okR A 999 row) (hp : p = 3 ∨ p = 22) (hpl : cPl I p A) (hrw : rI A I 41 0 row) (h4 : I 66 4 = 1) (h2 : I 66 2 = nI (pT A)) (h3 : I 66 3 = nI (pR A)) (h0 : ∀ j, j < 80 → I 67 j = 1000000) : wp (w_X2_workOut_56 Fu p 40 Fu 0 I) (fun J => cFv J A row ∧ cFf p I J) := by
  have h10 := ho.1
  have h8 := ho.2.2.2.1
  have hp67 : 67 ≠ p + 8 ∧ 67 ≠ p + 9 ∧ 66 ≠ p + 8 ∧ 66 ≠ p + 9 := by rcases hp with rfl | rfl <;> decide
  have hp41 : 40 + 1 ≠ p + 8 ∧ 40 + 1 ≠ p + 9 := by rcases hp with rfl | rfl <;> decide
  unfold w_X2_workOut_56
  refine wp_loop (fun dd (s : Int32 × mIT) => ∃ (i : Nat) (J : mIT), s = (nI i, J) ∧ dd = pR A - i ∧ i ≤ pR A ∧ (∀ k r, k < pT A → r < i → J 67 (k * 10 + r) = nI (nv (fCo A row k r))) ∧ (∀ j, j < 80 → i ≤ j % 10 → J 67 j = 1000000) ∧ ∀ c, c ≠ 67 → c ≠ p + 8 → c ≠ p + 9 → J c = I c) _ ?_ Fu (pR A) _ ⟨0, I, rfl, by omega, by omega, fun k r _ hr => absurd hr (by omega), fun j hj _ => h0 j hj, fun _ _ _ _ => rfl⟩ (by omega)
  rintro dd s self ⟨i, J, rfl, hdd, hi, f1, f2, f3⟩ hself
  show wp (b_X2_workOut_56 Fu p 40 self (nI i) J) _
  unfold b_X2_workOut_56
  have e66 := f3 66 (by decide) hp67.2.2.1 hp67.2.2.2
  rw [e66, h3]
  refine wp_i (by rw [q_le (by omega) (by omega)]) (fun e => ?_) (fun e => ?_)
  · rw [low_nI (pR A) (by omega)]
    refine wp_m (c_wo96 hF ho (by rw [e66]; exact h4) (by rw [e66]; exact h2) (by rw [e66]; exact h3) (fun k r hk1 hr => f1 k r hk1 (by omega))) ?_
    rintro K ⟨k1, k2⟩
    exact ⟨k1, fun c c1 c2 c3 c4 c5 => by rw [k2 c c3, f3 c c2 c4 c5]⟩
  · have hr : i < pR A := by omega
    have e41 := f3 (40 + 1) (by decide) hp41.1 hp41.2
    refine wp_Be (c_place (by omega)) ?_
    rw [e41, r0 (I := I) (c := 41) hrw (lv_31 hr)]
    have hne : ∀ k, k < pT A → (k * 10 + i) % 10 = i := fun k _ => by omega
    refine wp_f (fun e2 => ?_) (fun e2 => ?_)
    · rw [q_1]
      refine hself (pR A - (i + 1)) _ (by omega) ⟨i + 1, J, rfl, rfl, by omega, fun k r hk1 hr1 => ?_, fun j j1 j2 => f2 j j1 (by omega), f3⟩
      by_cases e3 : r = i
      · subst e3
        rw [f2 _ (by omega) (by rw [hne k hk1]; exact Nat.le_refl _)]
        unfold fCo sCs
        rw [if_pos e2]; rfl
      · exact f1 k r hk1 (by omega)
    · refine wp_B (c_needs (by omega) ho hk hp (cPl_fr hpl (fun c c1 c2 c3 c4 _ _ => f3 c (by rcases hp with rfl | rfl <;> omega) c3 c4)) (fun j hj => by rw [f3 41 (by decide) hp41.1 hp41.2]; exact hrw j hj) hr e2 (by rw [e66]; exact h2) (fun k hk1 => f2 _ (by omega) (by rw [hne k hk1]; exact Nat.le_refl _))) ?_
      rintro K ⟨k1, k2, k3⟩
      rw [q_1]
      refine hself (pR A - (i + 1)) _ (by omega) ⟨i + 1, K, rfl, rfl, by omega, fun k r hk1 hr1 => ?_, fun j j1 j2 => ?_, fun c c1 c2 c3 => by rw [k3 c c1 c2 c3]; exact f3 c c1 c2 c3⟩
      · by_cases e3 : r = i
        · subst e3; exact k1 k hk1
        · rw [k2 _ (by omega)]; exact f1 k r hk1 (by omega)
      · rw [k2 _ (by omega)]; exact f2 j j1 (by omega)
theorem c_workOut {Fu : Nat} {I : mIT} {p : Nat} {A : aPl} {row : Nat → Int32} (hF : 2000 < Fu) (ho : okPl A) (hk : okR A 999 row) (hp : p = 3 ∨ p = 22) (hpl : cPl I p A) (hrw : rI A I 41 0 row) (hf : I 66 4 = 0 ∨ cFv I A row) : wp (f_X2_workOut Fu I p 40) (fun J => cFv J A row ∧ cFf p I J) := by
  have h10 := ho.1
  have hp66 : p ≠ 66 ∧ p ≠ 67 := by rcases hp with rfl | rfl <;> decide
  unfold f_X2_workOut
  refine wp_f (fun e => ?_) (fun e => ?_)
  · rw [mU_other hp66.1, mU_other hp66.1, mU_other hp66.1]
    have e6 : I p 6 = nI (pT A) := hpl.2.2.2.1
    have e3 : I p 3 = nI (pR A) := hpl.1
    rw [e6, e3]
    generalize hI1 : mU (mU (mU I 66 4 1) 66 2 (nI (pT A))) 66 3 (nI (pR A)) = I1
    have g : ∀ c, c ≠ 66 → I1 c = I c := fun c hc => by rw [← hI1, mU_other hc, mU_other hc, mU_other hc]
    have g4 : I1 66 4 = 1 := by rw [← hI1, q_Uj (by decide), q_Uj (by decide), q_U]
    have g2 : I1 66 2 = nI (pT A) := by rw [← hI1, q_Uj (by decide), q_U]
    have g3 : I1 66 3 = nI (pR A) := by rw [← hI1, q_U]
    unfold w_X2_workOut_31
    refine wp_loop (fun dd (s : Int32 × mIT) => ∃ (i : Nat) (J : mIT), s = (nI i, J) ∧ dd = 80 - i ∧ i ≤ 80 ∧ (∀ j, j < i → J 67 j = 1000000) ∧ ∀ c, c ≠ 67 → J c = I1 c) _ ?_ Fu 80 _ ⟨0, I1, rfl, rfl, by omega, fun j hj => absurd hj (by omega), fun _ _ => rfl⟩ (by omega)
    rintro dd s self ⟨i, J, rfl, hdd, hi, f1, f2⟩ hself
    show wp (b_X2_workOut_31 Fu p 40 self (nI i) J) _
    unfold b_X2_workOut_31
    refine wp_i (by rw [q_le (by omega) (by omega)]) (fun e => ?_) (fun e => ?_)
    · refine wp_m (c_wo56 hF ho hk hp (cPl_fr hpl (fun c c1 c2 c3 c4 _ _ => by rw [f2 c (by rcases hp with rfl | rfl <;> omega)]; exact g c (by rcases hp with rfl | rfl <;> omega))) (fun j hj => by rw [f2 41 (by decide), g 41 (by decide)]; exact hrw j hj) (by rw [f2 66 (by decide)]; exact g4) (by rw [f2 66 (by decide)]; exact g2) (by rw [f2 66 (by decide)]; exact g3) (fun j hj => f1 j (by omega))) ?_
      rintro K ⟨k1, k2⟩
      exact ⟨k1, fun c c1 c2 c3 c4 c5 => by rw [k2 c c1 c2 c3 c4 c5, f2 c c2, g c c1]⟩
    · rw [q_GI (by omega) (by omega), q_cl (by omega), q_1]
      refine hself (80 - (i + 1)) _ (by omega) ⟨i + 1, _, rfl, rfl, by omega, fun j hj => ?_, fun c hc => by rw [mU_other hc]; exact f2 c hc⟩
      by_cases e2 : j = i
      · subst e2; rw [q_U]
      · rw [q_Uj e2]; exact f1 j (by omega)
  · rcases hf with hf | hf
    · exact absurd hf e
    · exact wp_s ⟨hf, fun _ _ _ _ _ _ => rfl⟩
/-- the first root that keeps the total smallest, and what is used then -/
def fB (c : Nat → Nat → Nat) (R T k u : Nat) : Nat := sFk (fun r => decide (fG c R T (T - (k + 1)) u r = fF c R T (T - k) u)) 0 R
def fU (c : Nat → Nat → Nat) (R T : Nat) : Nat → Nat
  | 0 => 0
  | k + 1 => fU c R T k ||| 2 ^ fB c R T k (fU c R T k)
theorem mnF_at (g : Nat → Nat) : ∀ n, mnF g n < 9999 → ∃ r, r < n ∧ g r = mnF g n
  | 0, h => absurd h (by unfold mnF; omega)
  | n + 1, h => by
    rw [mnF] at h ⊢
    by_cases e : g n ≤ mnF g n
    · exact ⟨n, by omega, by omega⟩
    · obtain ⟨r, h1, h2⟩ := mnF_at g n (by omega)
      exact ⟨r, by omega, by omega⟩
theorem sFk_ex {p : Nat → Bool} : ∀ k i, (∃ r, i ≤ r ∧ r < i + k ∧ p r = true) → p (sFk p i k) = true ∧ i ≤ sFk p i k ∧ sFk p i k < i + k
  | 0, i, h => by obtain ⟨r, h1, h2, _⟩ := h; omega
  | k + 1, i, h => by
    rw [sFk_s]
    by_cases e : p i = true
    · rw [if_pos e]; exact ⟨e, by omega, by omega⟩
    · rw [if_neg e]
      obtain ⟨r, h1, h2, h3⟩ := h
      have hne : r ≠ i := fun q => e (q ▸ h3)
      have := sFk_ex k (i + 1) ⟨r, by omega, by omega, h3⟩
      exact ⟨this.1, by omega, by omega⟩
theorem fB_p {c : Nat → Nat → Nat} {R T k u : Nat} (hc : ∀ k r, c k r = 9999 ∨ c k r ≤ 20) (hT : T ≤ 8) (hk : k < T) (hu : u < 2 ^ R) (hl : fF c R T (T - k) u < 9999) : fB c R T k u < R ∧ fG c R T (T - (k + 1)) u (fB c R T k u) = fF c R T (T - k) u ∧ u.testBit (fB c R T k u) = false ∧ fF c R T (T - (k + 1)) (u ||| 2 ^ fB c R T k u) < 9999 ∧ u ||| 2 ^ fB c R T k u < 2 ^ R := by
  have e : T - k = (T - (k + 1)) + 1 := by omega
  have h1 : ∃ r, r < R ∧ fG c R T (T - (k + 1)) u r = fF c R T (T - k) u := by
    rw [e, fF_s]
    rw [e, fF_s] at hl
    exact mnF_at _ R hl
  obtain ⟨r, hr, hg⟩ := h1
  have h2 := sFk_ex (p := fun r => decide (fG c R T (T - (k + 1)) u r = fF c R T (T - k) u)) R 0 ⟨r, by omega, by omega, decide_eq_true hg⟩
  have h3 : fG c R T (T - (k + 1)) u (fB c R T k u) = fF c R T (T - k) u := of_decide_eq_true h2.1
  have h4 : fB c R T k u < R := by have := h2.2.2; unfold fB; omega
  have h5 : u.testBit (fB c R T k u) = false := by
    apply Bool.eq_false_iff.mpr
    intro q
    unfold fG at h3
    rw [if_pos q] at h3
    omega
  refine ⟨h4, h3, h5, ?_, or_lt hu h4⟩
  unfold fG at h3
  rw [if_neg (by rw [h5]; exact Bool.false_ne_true)] at h3
  omega
theorem fU_p {c : Nat → Nat → Nat} {R T : Nat} (hc : ∀ k r, c k r = 9999 ∨ c k r ≤ 20) (hT : T ≤ 8) (hR : R ≤ 10) (h0 : fF c R T T 0 < 9999) : ∀ k, k ≤ T → pc (fU c R T k) = k ∧ fU c R T k < 2 ^ R ∧ fF c R T (T - k) (fU c R T k) < 9999
  | 0, _ => ⟨(by decide : pc 0 = 0), Nat.two_pow_pos _, h0⟩
  | k + 1, h => by
    obtain ⟨a, b, d⟩ := fU_p hc hT hR h0 k (by omega)
    obtain ⟨h1, h2, h3, h4, h5⟩ := fB_p hc hT (show k < T by omega) b d
    exact ⟨by rw [fU, pc_or (by omega) h3, a], h5, h4⟩
/-- what the class and the reference answer -/
def fA (A : aPl) (row : Nat → Int32) (k : Nat) : Int32 := if fF (fCo A row) (pR A) (pT A) (pT A) 0 < 9999 then nI (fB (fCo A row) (pR A) (pT A) k (fU (fCo A row) (pR A) (pT A) k)) else -2
def fA0 (A : aPl) (row : Nat → Int32) : Int32 := if fF (fCo A row) (pR A) (pT A) (pT A) 0 < 9999 then nI (fF (fCo A row) (pR A) (pT A) (pT A) 0) else -2
theorem lC_0 {A : aPl} {row : Nat → Int32} : lC A row 0 = nv (fF (fCo A row) (pR A) (pT A) (pT A) 0) := by
  unfold lC
  rw [show pc 0 = 0 by decide, if_pos (by omega), Nat.sub_zero]
theorem c_tot {Fu : Nat} {I : mIT} {A : aPl} {row : Nat → Int32} (ho : okPl A) (h : cFv I A row) : f_X2_total Fu I = some (fA0 A row) := by
  have h8 := ho.2.2.2.1
  have hb := fF_b (R := pR A) (T := pT A) (fCo_b (A := A) (row := row)) (pT A) 0
  unfold f_X2_total fA0
  rw [show (0 : Int32).toNatClampNeg = 0 from rfl, h.2.2.2.2 0 (Nat.two_pow_pos _), lC_0, show (1000000 : Int32) = nI 1000000 from rfl, q_G (show inB 0 1024 = true from rfl), q_G (show inB 0 1024 = true from rfl)]
  generalize fF (fCo A row) (pR A) (pT A) (pT A) 0 = x at hb
  rcases hb with hb | hb
  · rw [if_neg (by rw [q_lt (nv_b _) (by omega), nv_g (by omega)]; omega), if_neg (by omega)]
  · rw [if_pos (by rw [q_lt (nv_b _) (by omega), nv_s (by omega)]; omega), if_pos (by omega), nv_s (by omega)]
theorem c_firstBest {Fu : Nat} {I : mIT} {A : aPl} {row : Nat → Int32} {k u : Nat} (hF : 701 < Fu) (ho : okPl A) (h : cFv I A row) (hk : k < pT A) (hu : u < 2 ^ pR A) (hpc : pc u = k) (hl : fF (fCo A row) (pR A) (pT A) (pT A - k) u < 9999) : f_X2_firstBest Fu I (nI k) (nI u) = some (nI (fB (fCo A row) (pR A) (pT A) k u)) := by
  have h10 := ho.1
  have h8 := ho.2.2.2.1
  have hp2 := p2_le h10
  obtain ⟨q1, q2, q3, q4, q5⟩ := fB_p fCo_b h8 hk hu hl
  have hlu : lC A row u = fF (fCo A row) (pR A) (pT A) (pT A - k) u := by
    unfold lC
    rw [hpc, if_pos (by omega), nv_s hl]
  unfold f_X2_firstBest
  rw [if_neg (by rw [q_lt0 (by omega)]; simp), if_neg (by rw [q_le (by omega) (by omega)]; omega), q_GI (by omega) (by omega), q_cl (by omega), h.2.2.2.2 u hu, hlu]
  apply wp_q
  unfold w_X2_firstBest_28
  refine wp_loop (fun dd (s : Int32 × Int32 × Int32 × Int32) => ∃ i, s = (nI k, nI u, nI (fF (fCo A row) (pR A) (pT A) (pT A - k) u), nI i) ∧ dd = pR A - i ∧ i ≤ pR A ∧ fB (fCo A row) (pR A) (pT A) k u = sFk (fun r => decide (fG (fCo A row) (pR A) (pT A) (pT A - (k + 1)) u r = fF (fCo A row) (pR A) (pT A) (pT A - k) u)) i (pR A - i)) _ ?_ Fu (pR A) _ ⟨0, rfl, rfl, by omega, rfl⟩ (by omega)
  rintro dd s self ⟨i, rfl, hdd, hi, f1⟩ hself
  show wp (b_X2_firstBest_28 Fu I self (nI k) (nI u) (nI _) (nI i)) _
  unfold b_X2_firstBest_28
  rw [h.2.2.1]
  by_cases e : i = pR A
  · rw [e, Nat.sub_self] at f1
    have : fB (fCo A row) (pR A) (pT A) k u = 9999 := f1
    omega
  · refine wp_n (by rw [q_le (by omega) (by omega)]; omega) ?_
    rw [show (1000000 : Int32) = nI 1000000 from rfl]
    refine wp_n (by rw [q_le (by omega) (by omega)]; omega) ?_
    refine wp_Be (c_leastBy ho h.2.2.2.1 (fun w _ w2 => h.2.2.2.2 w w2) hk (by omega) hu hpc) ?_
    rw [show pR A - i = (pR A - (i + 1)) + 1 by omega, sFk_s] at f1
    have hg := nv_le (fG (fCo A row) (pR A) (pT A) (pT A - (k + 1)) u i)
    have hgi : nv (fG (fCo A row) (pR A) (pT A) (pT A - (k + 1)) u i) = fF (fCo A row) (pR A) (pT A) (pT A - k) u ↔ fG (fCo A row) (pR A) (pT A) (pT A - (k + 1)) u i = fF (fCo A row) (pR A) (pT A) (pT A - k) u := by
      unfold nv
      split <;> omega
    refine wp_i (by rw [q_eq (by omega) (by omega), hgi]) (fun e2 => ?_) (fun e2 => ?_)
    · rw [decide_eq_true e2, if_pos rfl] at f1
      exact wp_s (by rw [f1])
    · rw [decide_eq_false e2, if_neg Bool.false_ne_true] at f1
      rw [q_1]
      exact hself (pR A - (i + 1)) _ (by omega) ⟨i + 1, rfl, rfl, by omega, f1⟩
theorem c_rootFor {Fu : Nat} {I : mIT} {A : aPl} {row : Nat → Int32} {k : Nat} (hF : 701 < Fu) (ho : okPl A) (h : cFv I A row) (hk : k < pT A) : f_X2_rootFor Fu I (nI k) = some (fA A row k) := by
  have h10 := ho.1
  have h8 := ho.2.2.2.1
  have hp2 := p2_le h10
  have hb := fF_b (R := pR A) (T := pT A) (fCo_b (A := A) (row := row)) (pT A) 0
  unfold f_X2_rootFor fA
  rw [show (0 : Int32).toNatClampNeg = 0 from rfl, h.2.2.2.2 0 (Nat.two_pow_pos _), lC_0, show (1000000 : Int32) = nI 1000000 from rfl, q_G (show inB 0 1024 = true from rfl)]
  by_cases h0 : fF (fCo A row) (pR A) (pT A) (pT A) 0 < 9999
  · have hU := fU_p fCo_b h8 h10 h0
    rw [if_pos (by rw [q_lt (nv_b _) (by omega), nv_s h0]; omega), if_pos h0]
    apply wp_q
    unfold w_X2_rootFor_22
    refine wp_loop (fun dd (s : Int32 × Int32 × Int32 × Int32) => ∃ (i : Nat) (x : Int32), s = (nI k, nI (fU (fCo A row) (pR A) (pT A) i), x, nI i) ∧ dd = k + 1 - i ∧ i ≤ k + 1 ∧ (i = k + 1 → x = nI (fB (fCo A row) (pR A) (pT A) k (fU (fCo A row) (pR A) (pT A) k)))) _ ?_ Fu (k + 1) _ ⟨0, -2, rfl, rfl, by omega, fun q => absurd q (by omega)⟩ (by omega)
    rintro dd s self ⟨i, x, rfl, hdd, hi, f1⟩ hself
    show wp (b_X2_rootFor_22 Fu I self (nI k) (nI _) x (nI i)) _
    unfold b_X2_rootFor_22
    refine wp_i (by rw [q_lt (by omega) (by omega)]) (fun e => ?_) (fun e => ?_)
    · exact wp_s (f1 (by omega))
    · obtain ⟨a, b, d⟩ := hU i (by omega)
      obtain ⟨q1, q2, q3, q4, q5⟩ := fB_p fCo_b h8 (show i < pT A by omega) b d
      refine wp_Be (c_firstBest hF ho h (by omega) b a d) ?_
      refine wp_n (by rw [q_lt0 (by omega)]; simp) ?_
      rw [or_nI (by omega), q_1]
      refine hself (k + 1 - (i + 1)) _ (by omega) ⟨i + 1, _, rfl, rfl, by omega, fun q => ?_⟩
      rw [show i = k by omega]
  · rw [if_neg (by rw [q_lt (nv_b _) (by omega), nv_g (by omega)]; omega), if_neg h0]
theorem c_fit {Fu : Nat} {I : mIT} {R : mRT} {p n k : Nat} {A : aPl} {row : Nat → Int32} (hF : 2000 < Fu) (ho : okPl A) (hk : okR A 999 row) (h : cQ I R p A row n) (hf : I 66 4 = 0 ∨ cFv I A row) (hk1 : k < pT A) : wp (f_X11_fit Fu R I (nI k)) (fun o => ∃ J, o = .inl (fA A row k, J) ∧ cFv J A row ∧ cFf p I J) := by
  have h8 := ho.2.2.2.1
  unfold f_X11_fit
  refine wp_n (nI_nlt1 (by omega)) (wp_Be h.1 ?_)
  rw [show I p 6 = nI (pT A) from h.2.2.1.2.2.2.1]
  refine wp_p (by rw [q_lt (by omega) (by omega)]; exact hk1) (wp_Be h.1 (wp_B (c_workOut hF ho hk h.2.1 h.2.2.1 h.2.2.2.1 hf) ?_))
  rintro J ⟨j1, j2⟩
  refine wp_n (nI_nem1 (by omega)) (wp_Be (c_rootFor (by omega) ho j1 hk1) (wp_s ⟨J, rfl, j1, j2⟩))
theorem c_fitm {Fu : Nat} {I : mIT} {R : mRT} {p n : Nat} {A : aPl} {row : Nat → Int32} (hF : 2000 < Fu) (ho : okPl A) (hk : okR A 999 row) (h : cQ I R p A row n) (hf : I 66 4 = 0 ∨ cFv I A row) : wp (f_X11_fit Fu R I (-1)) (fun o => ∃ J, o = .inl (fA0 A row, J) ∧ cFv J A row ∧ cFf p I J) := by
  have h8 := ho.2.2.2.1
  unfold f_X11_fit
  refine wp_n (by decide) (wp_Be h.1 ?_)
  rw [show I p 6 = nI (pT A) from h.2.2.1.2.2.2.1]
  refine wp_p (m1_lt (by omega)) (wp_Be h.1 (wp_B (c_workOut hF ho hk h.2.1 h.2.2.1 h.2.2.2.1 hf) ?_))
  rintro J ⟨j1, j2⟩
  exact wp_p rfl (wp_Be (c_tot ho j1) (wp_s ⟨J, rfl, j1, j2⟩))
theorem c_fit0 {Fu : Nat} {I : mIT} {R : mRT} {p n : Nat} {A : aPl} {row : Nat → Int32} {v : Int32} (h : cQ I R p A row n) (hv : v < -1 ∨ nI (pT A) ≤ v) : f_X11_fit Fu R I v = some (.inr (1, I)) := by
  unfold f_X11_fit
  by_cases e : v < -1
  · rw [if_pos e]
  · rw [if_neg e, h.1, q_B, show I p 6 = nI (pT A) from h.2.2.1.2.2.2.1, if_neg]
    rcases hv with hv | hv
    · exact absurd hv e
    · exact Int32.not_lt.mpr hv
