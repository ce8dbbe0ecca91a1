/-! the picture that every call keeps -/
def gX (I : mIT) (A : aPl) (na : Nat) (ac : Nat → Nat → Int32) (hl : hLs) : Prop := cAc I 42 A na ac ∧ mAc I 44 90 A na ac ∧ cH I 44 hl ∧ mH I 55 99 hl
def gI (I : mIT) (A : aPl) : Prop := (I 0 10 = 0 ∧ I 75 60 = 0) ∨ (I 0 10 = 1 ∧ I 75 60 = 1 ∧ ∃ row na ac hl, okR A 999 row ∧ okA A na ac ∧ okH hl ∧ rI A I 49 0 row ∧ rI A I 102 0 row ∧ cAc I 50 A na ac ∧ mAc I 61 103 A na ac ∧ cH I 52 hl ∧ mH I 62 104 hl)
def gT (I : mIT) : Prop := (∃ nt, nt ≤ 700 ∧ I 1 1 = nI nt ∧ I 75 13 = nI nt ∧ ∀ j, j < nt → ∃ b, b < 256 ∧ I 80 j = nI b ∧ I 2 j = (nI b).toInt8.toInt32) ∧ I 0 1 = I 75 15 ∧ ∀ j, j < 3 → I 21 j = I 81 j
def kP (c : Nat) : Bool := decide (c ≤ 2) || c == 21 || (decide (42 ≤ c) && decide (c ≤ 55)) || c == 80 || c == 81 || c == 90 || c == 99 || (decide (102 ≤ c) && decide (c ≤ 104))
def k75 (j : Nat) : Bool := j == 13 || j == 15 || j == 44 || j == 55 || j == 60 || j == 61 || j == 62
theorem gX_k {I J : mIT} {A : aPl} {na : Nat} {ac : Nat → Nat → Int32} {hl : hLs} (f : ∀ c, 42 ≤ c → c ≤ 47 → J c = I c) (f9 : J 90 = I 90) (f99 : J 99 = I 99) (f44 : J 75 44 = I 75 44) (f55 : J 75 55 = I 75 55) (h : gX I A na ac hl) : gX J A na ac hl := by
  unfold gX cAc mAc cH mH rI at *
  rw [f 42 (by omega) (by omega), f (42 + 1) (by omega) (by omega), f 44 (by omega) (by omega), f (44 + 1) (by omega) (by omega), f (44 + 2) (by omega) (by omega), f (44 + 3) (by omega) (by omega), f9, f99, f44, f55]
  exact h
theorem gI_k {I J : mIT} {A : aPl} (f0 : J 0 10 = I 0 10) (f : ∀ c, 48 ≤ c → c ≤ 55 → J c = I c) (f2 : J 102 = I 102) (f3 : J 103 = I 103) (f4 : J 104 = I 104) (g0 : J 75 60 = I 75 60) (g1 : J 75 61 = I 75 61) (g2 : J 75 62 = I 75 62) (h : gI I A) : gI J A := by
  unfold gI cAc mAc cH mH rI at *
  rw [f0, f 49 (by omega) (by omega), f 50 (by omega) (by omega), f (50 + 1) (by omega) (by omega), f 52 (by omega) (by omega), f (52 + 1) (by omega) (by omega), f (52 + 2) (by omega) (by omega), f (52 + 3) (by omega) (by omega), f2, f3, f4, g0, g1, g2]
  exact h
theorem gT_k {I J : mIT} (f0 : J 0 1 = I 0 1) (f1 : J 1 1 = I 1 1) (f2 : J 2 = I 2) (f21 : J 21 = I 21) (f80 : J 80 = I 80) (f81 : J 81 = I 81) (g0 : J 75 13 = I 75 13) (g1 : J 75 15 = I 75 15) (h : gT I) : gT J := by
  unfold gT at *
  rw [f0, f1, f2, f21, f80, f81, g0, g1]
  exact h
def pic (I : mIT) (R : mRT) (p n : Nat) (A : aPl) (row : Nat → Int32) (na : Nat) (ac : Nat → Nat → Int32) (hl : hLs) : Prop := mWd R ∧ (∃ q, R 1 11 = some q ∧ (q = 3 ∨ q = 22) ∧ q ≠ p) ∧ okPl A ∧ okR A 999 row ∧ okA A na ac ∧ okH hl ∧ cQ I R p A row n ∧ (I 66 4 = 0 ∨ cFv I A row) ∧ mQ I A row ∧ gX I A na ac hl ∧ gI I A ∧ gT I
def pP (I : mIT) (R : mRT) (_ : mLT) : Prop := ∃ p n A row na ac hl, pic I R p n A row na ac hl
theorem cQ_lt {I J : mIT} {R : mRT} {p n : Nat} {A : aPl} {row : Nat → Int32} (h : cQ I R p A row n) (f : ∀ c, c < 75 → J c = I c) : cQ J R p A row n := ⟨h.1, h.2.1, cPl_fr h.2.2.1 (fun c c1 c2 _ _ _ _ => f c (by rcases h.2.1 with e | e <;> omega)), fun j hj => by rw [f 41 (by omega)]; exact h.2.2.2.1 j hj, cCo_f h.2.2.2.2 (fun c _ c2 => f c (by omega))⟩
theorem cFv_f {I J : mIT} {A : aPl} {row : Nat → Int32} (h : I 66 4 = 0 ∨ cFv I A row) (f : ∀ c, 66 ≤ c → c ≤ 68 → J c = I c) : J 66 4 = 0 ∨ cFv J A row := by
  unfold cFv at *
  rw [f 66 (by omega) (by omega), f 67 (by omega) (by omega), f 68 (by omega) (by omega)]
  exact h
theorem mQ_ge {I J : mIT} {A : aPl} {row : Nat → Int32} (h : mQ I A row) (f : ∀ c, 75 ≤ c → J c = I c) : mQ J A row := ⟨mPl_fr h.1 (fun j _ _ => by rw [f 75 (by omega)]) (f 76 (by omega)) (f 77 (by omega)) (f 78 (by omega)) (f 79 (by omega)), fun j hj => by rw [f 89 (by omega)]; exact h.2.1 j hj, by rw [f 75 (by omega)]; exact h.2.2⟩
theorem pic_c {I J : mIT} {R : mRT} {p n n' : Nat} {A : aPl} {row : Nat → Int32} {na : Nat} {ac : Nat → Nat → Int32} {hl : hLs} (hp : pic I R p n A row na ac hl) (f : ∀ c, c ≤ 2 ∨ c = 21 ∨ (42 ≤ c ∧ c ≤ 55) ∨ 75 ≤ c → J c = I c) (hq : cQ J R p A row n') (hf : J 66 4 = 0 ∨ cFv J A row) : pic J R p n' A row na ac hl := by
  obtain ⟨hW, hq0, ho, hk, hA, hH, hc, _, hm, hX, hI, hT⟩ := hp
  refine ⟨hW, hq0, ho, hk, hA, hH, hq, hf, mQ_ge hm (fun c hc => f c (by omega)), gX_k (fun c c1 c2 => f c (by omega)) (f 90 (by omega)) (f 99 (by omega)) (by rw [f 75 (by omega)]) (by rw [f 75 (by omega)]) hX, ?_, ?_⟩
  · exact gI_k (by rw [f 0 (by omega)]) (fun c c1 c2 => f c (by omega)) (f 102 (by omega)) (f 103 (by omega)) (f 104 (by omega)) (by rw [f 75 (by omega)]) (by rw [f 75 (by omega)]) (by rw [f 75 (by omega)]) hI
  · exact gT_k (by rw [f 0 (by omega)]) (by rw [f 1 (by omega)]) (f 2 (by omega)) (f 21 (by omega)) (f 80 (by omega)) (f 81 (by omega)) (by rw [f 75 (by omega)]) (by rw [f 75 (by omega)]) hT
theorem kC_k {c : Nat} (h : c ≤ 2 ∨ c = 21 ∨ (42 ≤ c ∧ c ≤ 55) ∨ 75 ≤ c) : kC c = true := by
  unfold kC
  simp only [Bool.not_eq_true', Bool.or_eq_false_iff, beq_eq_false_iff_ne, Bool.and_eq_false_iff, decide_eq_false_iff_not]
  omega
theorem pic_cS {I J : mIT} {R : mRT} {p n n' : Nat} {A : aPl} {row : Nat → Int32} {na : Nat} {ac : Nat → Nat → Int32} {hl : hLs} (hp : pic I R p n A row na ac hl) (f : cS I J) (hq : cQ J R p A row n') : pic J R p n' A row na ac hl := pic_c hp (fun c h => f c (kC_k h)) hq (cFv_f hp.2.2.2.2.2.2.2.1 (fun c c1 c2 => f c (by
  unfold kC
  simp only [Bool.not_eq_true', Bool.or_eq_false_iff, beq_eq_false_iff_ne, Bool.and_eq_false_iff, decide_eq_false_iff_not]
  omega)))
theorem kM_lt {c j : Nat} (h : c < 75 ∨ (76 ≤ c ∧ c ≤ 81) ∨ c = 90 ∨ c = 99 ∨ (102 ≤ c ∧ c ≤ 105)) : kM c j = true := by
  unfold kM
  simp only [Bool.or_eq_true, Bool.and_eq_true, decide_eq_true_iff, beq_iff_eq]
  omega
theorem pic_mS {I J : mIT} {R : mRT} {p n : Nat} {A : aPl} {row : Nat → Int32} {na : Nat} {ac : Nat → Nat → Int32} {hl : hLs} {v : Int32} (hp : pic I R p n A row na ac hl) (f : mS (mU I 75 0 v) J) : pic J R p n A row na ac hl := by
  obtain ⟨hW, hq0, ho, hk, hA, hH, hc, hf, hm, hX, hI, hT⟩ := hp
  have g : ∀ c, (c < 75 ∨ (76 ≤ c ∧ c ≤ 81) ∨ c = 90 ∨ c = 99 ∨ (102 ≤ c ∧ c ≤ 105)) → J c = I c := fun c hc => funext fun j => by
    rw [f c j (kM_lt hc), mU_other (by omega)]
  have g5 : ∀ j, kM 75 j = true → j ≠ 0 → J 75 j = I 75 j := fun j h1 h2 => by rw [f 75 j h1, q_Uj h2]
  exact ⟨hW, hq0, ho, hk, hA, hH, cQ_lt hc (fun c hc => g c (Or.inl hc)), cFv_f hf (fun c c1 c2 => g c (by omega)), mQ_s ho (mQ_0 hm) f, gX_k (fun c c1 c2 => g c (by omega)) (g 90 (by omega)) (g 99 (by omega)) (g5 44 rfl (by decide)) (g5 55 rfl (by decide)) hX, gI_k (by rw [g 0 (by omega)]) (fun c c1 c2 => g c (by omega)) (g 102 (by omega)) (g 103 (by omega)) (g 104 (by omega)) (g5 60 rfl (by decide)) (g5 61 rfl (by decide)) (g5 62 rfl (by decide)) hI, gT_k (by rw [g 0 (by omega)]) (by rw [g 1 (by omega)]) (g 2 (by omega)) (g 21 (by omega)) (g 80 (by omega)) (g 81 (by omega)) (g5 13 rfl (by decide)) (g5 15 rfl (by decide)) hT⟩
theorem mS_th {I J : mIT} {v : Int32} {Fu : Nat} (f : mS (mU I 75 0 v) J) : f_X12_thrown Fu J = some v := by
  unfold f_X12_thrown
  rw [f 75 0 rfl, q_U]
/-- a question answered -/
theorem st_q {Fu : Nat} {I : mIT} {R : mRT} {L : mLT} {p n : Nat} {A : aPl} {row : Nat → Int32} {na : Nat} {ac : Nat → Nat → Int32} {hl : hLs} {a : Int32} {f1 : Option ((Int32 × mIT) ⊕ (Nat × mIT))} {f2 : mIT → Option (Int32 × mIT)} (hp : pic I R p n A row na ac hl) (h1 : wp f1 (cX I R p A row a)) (h2 : ∀ J n', pic J R p n' A row na ac hl → wp (f2 J) (fun y => y.1 = a ∧ mS (mU J 75 0 0) y.2)) : ∃ o, f1 = some (.inl o) ∧ ∃ o2, f2 o.2 = some o2 ∧ f_X12_thrown Fu o2.2 = some 0 ∧ o.1 = o2.1 ∧ pP o2.2 R L := by
  obtain ⟨o, e1, J, rfl, ea, es, n', eq⟩ := h1
  have hJ := pic_cS hp es eq
  obtain ⟨y, e2, ey, em⟩ := h2 J.2 n' hJ
  exact ⟨J, e1, y, e2, mS_th em, by rw [ea, ey], p, n', A, row, na, ac, hl, pic_mS hJ em⟩
theorem st_a {I : mIT} {R : mRT} {L : mLT} {p n : Nat} {A : aPl} {row : Nat → Int32} {na : Nat} {ac : Nat → Nat → Int32} {hl : hLs} {a : Int32} {f1 : Option (Int32 × mIT)} {f2 : mIT → Option (Int32 × mIT)} (hp : pic I R p n A row na ac hl) (h1 : wp f1 (cA I R p A row a)) (h2 : ∀ J n', pic J R p n' A row na ac hl → wp (f2 J) (fun y => y.1 = a ∧ mS (mU J 75 0 0) y.2)) : ∃ o, f1 = some o ∧ ∃ o2, f2 o.2 = some o2 ∧ o.1 = o2.1 ∧ pP o2.2 R L := by
  obtain ⟨J, e1, ea, es, n', eq⟩ := h1
  have hJ := pic_cS hp es eq
  obtain ⟨y, e2, ey, em⟩ := h2 J.2 n' hJ
  exact ⟨J, e1, y, e2, by rw [ea, ey], p, n', A, row, na, ac, hl, pic_mS hJ em⟩
/-- a question refused -/
theorem st_n {Fu : Nat} {I : mIT} {R : mRT} {L : mLT} {p n : Nat} {A : aPl} {row : Nat → Int32} {na : Nat} {ac : Nat → Nat → Int32} {hl : hLs} {w : Nat} {v : Int32} {f1 : Option ((Int32 × mIT) ⊕ (Nat × mIT))} {f2 : mIT → Option (Int32 × mIT)} (hp : pic I R p n A row na ac hl) (h1 : f1 = some (.inr (w, I))) (h2 : wp (f2 I) (fun y => mS (mU I 75 0 v) y.2)) : ∃ q, f1 = some (.inr q) ∧ ∃ o2, f2 q.2 = some o2 ∧ (q.1 = w ∧ f_X12_thrown Fu o2.2 = some v) ∧ pP o2.2 R L := by
  obtain ⟨y, e2, em⟩ := h2
  exact ⟨_, h1, y, e2, ⟨rfl, mS_th em⟩, p, n, A, row, na, ac, hl, pic_mS hp em⟩
theorem st_n1 {Fu : Nat} {I : mIT} {R : mRT} {L : mLT} {p n : Nat} {A : aPl} {row : Nat → Int32} {na : Nat} {ac : Nat → Nat → Int32} {hl : hLs} {f1 : Option ((Int32 × mIT) ⊕ (Nat × mIT))} {f2 : mIT → Option (Int32 × mIT)} (hp : pic I R p n A row na ac hl) (h1 : f1 = some (.inr (1, I))) (h2 : wp (f2 I) (fun y => mS (mU I 75 0 1) y.2)) : ∃ q, f1 = some (.inr q) ∧ ∃ o2, f2 q.2 = some o2 ∧ (q.1 = 1 ∧ f_X12_thrown Fu o2.2 = some 1 ∨ q.1 = 2 ∧ f_X12_thrown Fu o2.2 = some 2) ∧ pP o2.2 R L := by
  obtain ⟨q, e, o, e2, e3, e4⟩ := st_n (Fu := Fu) (L := L) hp h1 h2
  exact ⟨q, e, o, e2, Or.inl e3, e4⟩
theorem st_n2 {Fu : Nat} {I : mIT} {R : mRT} {L : mLT} {p n : Nat} {A : aPl} {row : Nat → Int32} {na : Nat} {ac : Nat → Nat → Int32} {hl : hLs} {f1 : Option ((Int32 × mIT) ⊕ (Nat × mIT))} {f2 : mIT → Option (Int32 × mIT)} (hp : pic I R p n A row na ac hl) (h1 : f1 = some (.inr (2, I))) (h2 : wp (f2 I) (fun y => mS (mU I 75 0 2) y.2)) : ∃ q, f1 = some (.inr q) ∧ ∃ o2, f2 q.2 = some o2 ∧ (q.1 = 1 ∧ f_X12_thrown Fu o2.2 = some 1 ∨ q.1 = 2 ∧ f_X12_thrown Fu o2.2 = some 2) ∧ pP o2.2 R L := by
  obtain ⟨q, e, o, e2, e3, e4⟩ := st_n (Fu := Fu) (L := L) hp h1 h2
  exact ⟨q, e, o, e2, Or.inr e3, e4⟩
theorem wp_0 {I : mIT} {x : Option (Int32 × mIT)} {a v : Int32} (h : x = some (a, mU I 75 0 v)) : wp x (fun y => mS (mU I 75 0 v) y.2) := wp_e h (mS_r _)
theorem ix (x : Int32) (n : Nat) (hn : n < 2147483648 := by omega) : (x < 0 ∨ nI n ≤ x) ∨ ∃ j : Nat, j < n ∧ x = nI j := by
  rcases pk_ix x (n := n) hn with h | h | h
  · exact Or.inl (Or.inl h)
  · exact Or.inl (Or.inr h)
  · exact Or.inr h
