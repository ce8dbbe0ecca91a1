/-! the class reads a TEXT -/
theorem wB_of {R : mRT} (h : mWd R) : wB R = true := by
  obtain ⟨h1, h2, h3, h4⟩ := h
  unfold wB
  simp only [Bool.and_eq_true, List.all_eq_true, decide_eq_true_eq]
  refine ⟨⟨⟨fun q hq => h1 q hq, ?_⟩, ?_⟩, ?_⟩
  · cases e : R 0 3 with
    | none => exact Or.inr (Or.inr rfl)
    | some v => rcases h2 v e with rfl | rfl
                · exact Or.inl rfl
                · exact Or.inr (Or.inl rfl)
  · cases e : R 1 11 with
    | none => exact Or.inr (Or.inr rfl)
    | some v => rcases h3 v e with rfl | rfl
                · exact Or.inl rfl
                · exact Or.inr (Or.inl rfl)
  · cases e : R 1 12 with
    | none => exact Or.inr (Or.inr (Or.inr (Or.inr rfl)))
    | some v => rcases h4 v e with rfl | rfl | rfl | rfl
                · exact Or.inl rfl
                · exact Or.inr (Or.inl rfl)
                · exact Or.inr (Or.inr (Or.inl rfl))
                · exact Or.inr (Or.inr (Or.inr (Or.inl rfl)))
theorem mWd_12 {R : mRT} {u : Nat} (hW : mWd R) (hu : u = 7 ∨ u = 13 ∨ u = 26 ∨ u = 32) : mWd (mUR R 1 12 (some u)) :=
  ⟨mSR_mu hW.1 (Or.inr ⟨rfl, Or.inr rfl⟩), fun v hv => hW.2.1 v (by simpa [mUR] using hv), fun v hv => hW.2.2.1 v (by simpa [mUR] using hv), fun v hv => by simp only [mUR, and_self, if_true] at hv; cases hv; exact hu⟩
/-- the rule that was read last -/
def rSh (R R' : mRT) (p : Nat) : Prop := R' = R ∨ ∃ q, (q = p + 4 ∨ q = p + 10) ∧ R' = mUR R 1 12 (some q)
theorem rSh_t {R R' R2 : mRT} {p : Nat} (h : rSh R R' p) (h2 : rSh R' R2 p) : rSh R R2 p := by
  rcases h2 with rfl | ⟨q, hq, rfl⟩
  · exact h
  · rcases h with rfl | ⟨q', _, rfl⟩
    · exact Or.inr ⟨q, hq, rfl⟩
    · refine Or.inr ⟨q, hq, ?_⟩
      funext a b
      unfold mUR
      by_cases e : a = 1 ∧ b = 12
      · rw [if_pos e, if_pos e]
      · rw [if_neg e, if_neg e, if_neg e]
theorem rSh_at {R R' : mRT} {p : Nat} (h : rSh R R' p) {a b : Nat} (hn : ¬ (a = 1 ∧ b = 12)) : R' a b = R a b := by
  rcases h with rfl | ⟨q, _, rfl⟩
  · rfl
  · unfold mUR
    rw [if_neg hn]
theorem rSh_w {R R' : mRT} {p : Nat} (hW : mWd R) (hp : p = 3 ∨ p = 22) (h : rSh R R' p) : mWd R' := by
  rcases h with rfl | ⟨q, hq, rfl⟩
  · exact hW
  · exact mWd_12 hW (by omega)
def S0 : lS := (A0, fun _ => 0, fun _ => false)
theorem okS_0 : okS S0 := ⟨Nat.zero_le _, Nat.zero_le _, ⟨by decide, by decide⟩, Nat.zero_le _, Nat.zero_le _, fun j hj => absurd hj (Nat.not_lt_zero _), fun j hj => absurd hj (Nat.not_lt_zero _), okR_0, rfl, rfl, rfl, fun _ => rfl, ⟨fun _ => rfl, fun q => absurd q (by decide)⟩, ⟨fun _ => rfl, fun q => absurd q (by decide)⟩⟩
theorem c_clear9 {Fu : Nat} {I : mIT} {k : Nat} (hF : 2200 < Fu) : wp (f_X9_clear Fu I k) (fun J => (∀ j, j < 53 → J (k + 1) j = 0) ∧ ∀ c, c ≠ k + 1 → J c = I c) := by
  unfold f_X9_clear w_X9_clear_2
  refine wp_loop (fun d (s : Int32 × mIT) => ∃ i, i ≤ 53 ∧ s.1 = nI i ∧ d = 53 - i ∧ (∀ j, j < i → s.2 (k + 1) j = 0) ∧ ∀ c, c ≠ k + 1 → s.2 c = I c) _ ?_ Fu 53 _ ⟨0, by omega, rfl, rfl, fun j hj => absurd hj (Nat.not_lt_zero _), fun _ _ => rfl⟩ (by omega)
  rintro d ⟨v, J⟩ self ⟨i, hi, e1, hd, h1, h2⟩ hself
  dsimp only at e1 h1 h2
  subst e1
  show wp (b_X9_clear_2 Fu k self (nI i) J) _
  unfold b_X9_clear_2
  refine wp_i (q_le (by omega) (by omega)) (fun c => ?_) (fun c => ?_)
  · exact wp_s ⟨fun j hj => h1 j (by omega), h2⟩
  · rw [q_GI (by omega) (by omega), q_cl (by omega), q_1]
    refine hself (53 - (i + 1)) _ (by omega) ⟨i + 1, by omega, rfl, rfl, fun j hj => ?_, fun c hc => ?_⟩
    · dsimp only
      by_cases e : j = i
      · rw [e, q_U]
      · rw [q_Uj e]; exact h1 j (by omega)
    · dsimp only
      rw [mU_other hc]; exact h2 c hc
theorem c_clear {Fu : Nat} {I : mIT} {p : Nat} (hF : 2200 < Fu) (hp : 3 ≤ p) (h10 : I 1 10 = 0) : wp (f_X5_clear Fu I p) (fun J => cL J p S0 ∧ ∀ c, c < p ∨ p + 18 ≤ c → J c = I c) := by
  unfold f_X5_clear f_X8_clear
  rw [q_B, q_B]
  refine wp_B (c_clear9 hF) ?_
  rintro J ⟨j1, j2⟩
  refine wp_s ?_
  have o : ∀ c, c ≠ p + 17 → J c = (mU (mU (mU (mU (mU (mU (mU (mU (mU (mU I p 3 0) p 4 0) p 5 20) p 6 0) p 7 0) p 8 0) (p + 4) 5 0) (p + 4) 6 0) (p + 10) 5 0) (p + 10) 6 0) c := fun c hc => j2 c hc
  have op : ∀ j, J p j = (mU (mU (mU (mU (mU (mU I p 3 0) p 4 0) p 5 20) p 6 0) p 7 0) p 8 0) p j := fun j => by
    rw [o p (by omega), mU_other (by omega), mU_other (by omega), mU_other (by omega), mU_other (by omega)]
  have o4 : J (p + 4) 5 = 0 ∧ J (p + 4) 6 = 0 := ⟨by rw [o (p + 4) (by omega), mU_other (by omega), mU_other (by omega), q_Uj (by decide), q_U], by rw [o (p + 4) (by omega), mU_other (by omega), mU_other (by omega), q_U]⟩
  have o10 : J (p + 10) 5 = 0 ∧ J (p + 10) 6 = 0 := ⟨by rw [o (p + 10) (by omega), q_Uj (by decide), q_U], by rw [o (p + 10) (by omega), q_U]⟩
  have o1 : J 1 10 = 0 := by
    rw [o 1 (by omega), mU_other (by omega), mU_other (by omega), mU_other (by omega), mU_other (by omega), mU_other (by omega), mU_other (by omega), mU_other (by omega), mU_other (by omega), mU_other (by omega), mU_other (by omega)]
    exact h10
  refine ⟨⟨?_, ?_, ?_, ?_, ?_, ?_, fun r hr => absurd hr (Nat.not_lt_zero _), fun r hr => absurd hr (Nat.not_lt_zero _), fun r hr => absurd hr (Nat.not_lt_zero _), ⟨[], cRu_0 o4.1, rfl, rfl⟩, ⟨[], cRu_0 o10.1, rfl, rfl⟩, fun j hj => ?_, fun k _ _ => ?_, fun _ => o4.2, fun _ => o10.2⟩, fun c hc => ?_⟩
  · rw [op, q_Uj (by decide), q_Uj (by decide), q_Uj (by decide), q_Uj (by decide), q_Uj (by decide), q_U]; rfl
  · rw [op, q_Uj (by decide), q_Uj (by decide), q_Uj (by decide), q_Uj (by decide), q_U]; rfl
  · rw [op, q_Uj (by decide), q_Uj (by decide), q_Uj (by decide), q_U]; rfl
  · rw [op, q_Uj (by decide), q_Uj (by decide), q_U]; rfl
  · rw [op, q_Uj (by decide), q_U]; rfl
  · rw [op, q_U]; rfl
  · rw [live_0 hj]
    exact j1 0 (by omega)
  · rw [o1]
    exact b_0 k
  · rw [o c (by omega), mU_other (by omega), mU_other (by omega), mU_other (by omega), mU_other (by omega), mU_other (by omega), mU_other (by omega), mU_other (by omega), mU_other (by omega), mU_other (by omega), mU_other (by omega)]
/-- how the class's reading comes out -/
def cTw (I0 : mIT) (R : mRT) (p : Nat) (r : pO lS) (y : Int32 × mIT × mRT) : Prop := cFr p I0 y.2.1 ∧ rSh R y.2.2 p ∧ match r with
  | .inl e => y.1 = nI e.1 ∧ (1 ≤ e.1 ∧ e.1 ≤ 5) ∧ y.2.1 1 5 = nI e.2
  | .inr S => y.1 = 0 ∧ cL y.2.1 p S ∧ okS S
theorem c_twLoop {Fu : Nat} {I0 I : mIT} {R : mRT} {p : Nat} {B : Nat → Nat} {n a : Nat} (hF : 2200 < Fu) (ht : tpe B n) (hp : p = 3 ∨ p = 22) (hW : mWd R) (hR : R 1 11 = some p) (hT : cTk I B n a) (hL : cL I p S0) (hf : cFr p I0 I) (h9 : I 1 9 = 0) : wp (w_X6_readTower_40 Fu Fu 1 0 I R) (cTw I0 R p (twS B n (n - a + 1) a S0)) := by
  have h700 := ht.1
  have ha := hT.2.1
  generalize hr : twS B n (n - a + 1) a S0 = r
  unfold w_X6_readTower_40
  refine wp_loop (fun D (s : Int32 × Int32 × mIT × mRT) => (∃ f a' c S, s.1 = 1 ∧ s.2.1 = nI c ∧ c ≤ a' ∧ cTk s.2.2.1 B n a' ∧ cL s.2.2.1 p S ∧ okS S ∧ cFr p I0 s.2.2.1 ∧ s.2.2.1 1 9 = 0 ∧ rSh R s.2.2.2 p ∧ n - a' < f ∧ twS B n f a' S = r ∧ D = n - a' + 1) ∨ (∃ e, s.1 = 0 ∧ r = .inl e ∧ (1 ≤ e.1 ∧ e.1 ≤ 5) ∧ s.2.2.1 1 9 = nI e.1 ∧ s.2.2.1 1 5 = nI e.2 ∧ cFr p I0 s.2.2.1 ∧ rSh R s.2.2.2 p ∧ D = 0)) _ ?_ Fu (n - a + 1) _ (Or.inl ⟨n - a + 1, a, 0, S0, rfl, rfl, Nat.zero_le _, hT, hL, okS_0, hf, h9, Or.inl rfl, by omega, hr, rfl⟩) (by omega)
  rintro D ⟨v2, v3, J, R'⟩ self hinv hself
  dsimp only at hinv
  show wp (b_X6_readTower_40 Fu self v2 v3 J R') _
  unfold b_X6_readTower_40
  rcases hinv with ⟨f, a', c, S, rfl, rfl, hc, hT', hL', hok, hf', h9', hsh, hfu, hr', hD⟩ | ⟨e, rfl, he, hk, q9, q5, qf, qs, hD⟩
  · have hWR := rSh_w hW hp hsh
    have hK := tK_4 (B := B) (n := n) (a := a')
    have ha' := hT'.2.1
    obtain ⟨g0, rfl⟩ : ∃ g0, f = g0 + 1 := ⟨f - 1, by omega⟩
    rw [twS] at hr'
    rw [q_G (wB_of hWR)]
    have done : tK B n a' = 0 → wp (some ((J 1 9), J, R')) (cTw I0 R p r) := fun q => by
      rw [if_pos q] at hr'
      rw [← hr']
      exact wp_s ⟨hf', hsh, h9', hL', hok⟩
    refine wp_i (q_le (a := 700) (by omega) (by omega)) (fun q => ?_) (fun _ => ?_)
    · refine done ?_
      unfold tK
      rw [if_neg (by omega)]
    · refine wp_n (by decide) ?_
      rw [hT'.2.2.2.1]
      refine wp_i (q_eq0 (by omega)) done (fun q => ?_)
      rw [if_neg q] at hr'
      refine wp_B (c_line hF ht (by omega) (by rw [rSh_at hsh (by decide)]; exact hR) (fun u hu => wB_of (mWd_12 hWR (by omega))) hT' hL' (okS_l hok)) ?_
      rintro ⟨y1, K, R2⟩ ⟨hR2, hy⟩
      dsimp only at hR2 hy ⊢
      have hsh2 : rSh R R2 p := rSh_t hsh hR2
      rw [q_G (wB_of (rSh_w hW hp hsh2)), q_1]
      obtain ⟨hyf, hy⟩ := hy
      cases e : leS B n (bdS B n a' S) with
      | inl ee =>
        rw [e] at hy hr'
        obtain ⟨y2, y3, y4⟩ := hy
        exact hself 0 _ (by omega) (Or.inr ⟨ee, y2, hr'.symm, leS_k ha' e, y3, y4, cFr_t hf' hyf, hsh2, rfl⟩)
      | inr z =>
        rw [e] at hy hr'
        obtain ⟨y2, y3, y4, y5⟩ := hy
        dsimp only at y2 y3 y4 y5
        obtain ⟨z1, z2, z3⟩ := leS_ok ha' hok e
        exact hself (n - z.1 + 1) _ (by omega) (Or.inl ⟨g0, z.1, c + 1, z.2, y2, rfl, by omega, y4, y5, z3, cFr_t hf' hyf, by dsimp only; rw [y3]; exact h9', hsh2, by omega, hr', rfl⟩)
  · rw [q_G (wB_of (rSh_w hW hp qs))]
    have fin : wp (some ((J 1 9), J, R')) (cTw I0 R p r) := by
      rw [he]
      exact wp_s ⟨qf, qs, q9, hk, q5⟩
    exact wp_f (fun _ => fin) (fun _ => wp_p rfl fin)
theorem c_readTower {Fu : Nat} {I : mIT} {R : mRT} {p : Nat} {B : Nat → Nat} {n : Nat} (hF : 2200 < Fu) (ht : tpe B n) (hp : p = 3 ∨ p = 22) (hW : mWd R) (hR : R 1 11 = some p) (h2 : ∀ j, j < n → I 2 j = (nI (B j)).toInt8.toInt32) : wp (f_X6_readTower Fu R I (nI n)) (cTw (mU (mU I 1 1 0) 1 2 (nI n)) R p (twS B n (n - tA B n 0 + 1) (tA B n 0) S0)) := by
  unfold f_X6_readTower
  refine wp_Be hR ?_
  generalize hJ : mU (mU (mU (mU (mU I 1 1 0) 1 2 (nI n)) 1 3 0) 1 9 0) 1 10 0 = J
  have j1 : ∀ j, j ≠ 1 → j ≠ 2 → j ≠ 3 → j ≠ 9 → j ≠ 10 → J 1 j = I 1 j := fun j a b c d e => by rw [← hJ, q_Uj e, q_Uj d, q_Uj c, q_Uj b, q_Uj a]
  have jo : ∀ c, c ≠ 1 → J c = I c := fun c hc => by rw [← hJ, mU_other hc, mU_other hc, mU_other hc, mU_other hc, mU_other hc]
  have j10 : J 1 10 = 0 := by rw [← hJ, q_U]
  have j9 : J 1 9 = 0 := by rw [← hJ, q_Uj (by decide), q_U]
  have j3 : J 1 3 = nI 0 := by rw [← hJ, q_Uj (by decide), q_Uj (by decide), q_U]; rfl
  have jf : cFr p (mU (mU I 1 1 0) 1 2 (nI n)) J := by
    rw [← hJ]
    exact cFr_u (cFr_u (cFr_u (cFr_r p _) (by omega)) (by omega)) (by omega)
  have j2 : J 1 2 = nI n := by rw [jf.1 2 (by omega), q_U]
  refine wp_B (c_clear hF (by omega) j10) ?_
  rintro K ⟨k1, k2⟩
  have kT : cTp K B n := ⟨by rw [k2 1 (by omega)]; exact j2, fun j hj => by rw [k2 2 (by omega), jo 2 (by decide)]; exact h2 j hj⟩
  refine wp_B (c_step hF ht kT (by rw [k2 1 (by omega)]; exact j3) (Nat.zero_le _)) ?_
  rintro M ⟨m1, m2⟩
  refine c_twLoop hF ht hp hW hR m1 (cL_s (by omega) k1 m2) ?_ ?_
  · exact cFr_s (cFr_t jf ⟨fun j _ => by rw [k2 1 (by omega)], fun c _ b => k2 c b⟩) m2
  · rw [m2.1 9 (by omega), k2 1 (by omega)]; exact j9
