/-! a game of two -/
def nr (A : aPl) (a : Nat) : Nat → Nat
  | 0 => 0
  | n + 1 => max (nr A a n) (4 - ((a - (pU A n).toNatClampNeg) + ((pU A n).toNatClampNeg - a)))
theorem nr_le (A : aPl) (a : Nat) : ∀ n, nr A a n ≤ 4
  | 0 => by rw [nr]; omega
  | n + 1 => by have := nr_le A a n; rw [nr]; omega
theorem nr_k : ∀ a, a < 16 → ∀ t, t < 16 → ∀ x, x < 5 → (if nI x < ((4 : Int32) - (if 0 ≤ (nI a - nI t) then (nI a - nI t) else 0 - (nI a - nI t))) then ((4 : Int32) - (if 0 ≤ (nI a - nI t) then (nI a - nI t) else 0 - (nI a - nI t))) else nI x) = nI (max x (4 - ((a - t) + (t - a)))) := by decide +kernel
theorem c_near {Fu : Nat} {I : mIT} {p a : Nat} {A : aPl} (hF : 701 < Fu) (h : cPl I p A) (ho : okPl A) (ha : a ≤ 15) : f_X5_nearnessOf Fu I p (nI a) = some (nI (nr A a (pT A))) := by
  have h8 := ho.2.2.2.1
  unfold f_X5_nearnessOf w_X5_nearnessOf_4
  refine q_for (fun i => (nI a, nI (nr A a i), nI i)) (pT A) _ ?_ ?_ Fu (by omega)
  · intro i hi self
    show b_X5_nearnessOf_4 Fu I p self (nI a) (nI (nr A a i)) (nI i) = _
    unfold b_X5_nearnessOf_4
    obtain ⟨t, ht, hte⟩ := ho.2.2.2.2.2.2.1 i hi
    have := nr_le A a i
    rw [h.2.2.2.1, if_neg (by rw [q_le (by omega) (by omega)]; omega), c_tuneNote (by omega), q_B, h.2.2.2.2.2.2.2.2.1 i hi, hte, nr_k a (by omega) t ht _ (by omega), q_1]
    rw [nr, hte, q_cl (by omega)]
  · intro self
    show b_X5_nearnessOf_4 Fu I p self (nI a) (nI (nr A a (pT A))) (nI (pT A)) = _
    unfold b_X5_nearnessOf_4
    rw [h.2.2.2.1, if_pos (by rw [q_le (by omega) (by omega)]; omega)]
def sGn (A : aPl) (row : Nat → Int32) (r x q y : Nat) : Int32 := nI (nr A (sNt A row r (nI x)).toNatClampNeg (pT A)) - (if sNt A row r (nI x) = sNt A row q (nI y) then 2 else 0) - nI x
theorem c_gain {Fu : Nat} {I : mIT} {R : mRT} {p n r x q y : Nat} {A : aPl} {row : Nat → Int32} (hF : 701 < Fu) (ho : okPl A) (hk : okR A 999 row) (h : cQ I R p A row n) (hr : r < pR A) (hq : q < pR A) (gr : row (31 + r) ≠ -2) (hx : x ≤ sMy row r) : wp (f_X11_gainOf Fu R I (nI r) (nI x) (nI q) (nI y)) (fun z => z.1 = sGn A row r x q y ∧ ∀ c, c ≠ p + 8 → c ≠ p + 9 → z.2 c = I c) := by
  obtain ⟨a, ha, hae⟩ := sNt_b ho hk hr gr hx
  unfold f_X11_gainOf
  refine wp_Be h.1 ?_
  refine wp_B (c_note (k := 40) hF h.2.2.1 ho h.2.2.2.1 hk (by omega) hr) ?_
  rintro ⟨v1, J⟩ ⟨e1, e2⟩
  dsimp only at e1 e2 ⊢
  have hJ := cQ_n h e2
  refine wp_Be h.1 ?_
  refine wp_B (c_note (k := 40) hF hJ.2.2.1 ho hJ.2.2.2.1 hk (by omega) hq) ?_
  rintro ⟨v2, K⟩ ⟨u1, u2⟩
  dsimp only at u1 u2 ⊢
  have hK := cQ_n hJ u2
  have hf : ∀ c, c ≠ p + 8 → c ≠ p + 9 → K c = I c := fun c c1 c2 => by rw [u2 c c1 c2, e2 c c1 c2]
  subst e1 u1
  unfold sGn
  rw [hae, q_cl (by omega)]
  refine wp_f (fun e => ?_) (fun e => ?_)
  · rw [if_pos e]
    exact wp_Be h.1 (wp_Be (c_near hF hK.2.2.1 ho ha) (wp_s ⟨rfl, hf⟩))
  · rw [if_neg e]
    exact wp_Be h.1 (wp_Be (c_near hF hK.2.2.1 ho ha) (wp_s ⟨rfl, hf⟩))
theorem m_noteWith {Fu : Nat} {I : mIT} {r x : Nat} {A : aPl} {row : Nat → Int32} (hF : 701 < Fu) (ho : okPl A) (hk : okR A 999 row) (h : mQ I A row) (hr : r < pR A) (gr : row (31 + r) ≠ -2) (hx : x ≤ sMy row r) : wp (f_X12_noteWith Fu I (nI r) (nI x)) (fun y => y.1 = sNt A row r (nI x) ∧ mS I y.2) := by
  have h10 := ho.1
  unfold f_X12_noteWith
  refine wp_B (m_tries hF ho h) ?_
  rintro J ⟨h1, h2⟩
  have e64 : J 89 (64 + r) = row (11 + r) := by have := h2 _ (lv_11 hr); rwa [show 53 + (11 + r) = 64 + r by omega] at this
  rw [show (64 : Int32) + nI r = nI (64 + r) from nI_add 64 r]
  simp (disch := omega) only [q_GI, q_cl, e64]
  have hr2 : rI A (mU J 89 (64 + r) (row (11 + r) + nI x)) 89 53 (upH row r x) := fun j hj => by
    unfold upH
    by_cases e1 : j = 11 + r
    · subst e1; rw [if_pos rfl, show 53 + (11 + r) = 64 + r by omega, q_U]
    · rw [if_neg e1, q_Uj (by omega)]; exact h2 j hj
  have hS : mS I (mU J 89 (64 + r) (row (11 + r) + nI x)) := mS_u h1 (kM_hi (by omega))
  have hK := mQ_s ho h hS
  refine wp_B (m_noteOf (b := 53) hF hK.1 ho hK.2.2 (by omega) hr2 (upH_ok ho hk hr gr hx) (by omega) hr) ?_
  rintro ⟨v, K⟩ ⟨u1, u2⟩
  dsimp only at u1 u2 ⊢
  exact wp_s ⟨by rw [u1, upH_nt], mS_t hS (mS_n u2)⟩
theorem m_gains {Fu : Nat} {I : mIT} {r x q y : Nat} {A : aPl} {row : Nat → Int32} (hF : 701 < Fu) (ho : okPl A) (hk : okR A 999 row) (h : mQ I A row) (hr : r < pR A) (hq : q < pR A) (gr : row (31 + r) ≠ -2) (gq : row (31 + q) ≠ -2) (hx : x ≤ sMy row r) (hy : y ≤ sMy row q) : wp (f_X12_gains Fu I (nI r) (nI q) (nI x) (nI y)) (fun z => z.1 = sGn A row r x q y ∧ mS I z.2) := by
  have h8 := ho.2.2.2.1
  obtain ⟨a, ha, hae⟩ := sNt_b ho hk hr gr hx
  unfold f_X12_gains
  refine wp_B (m_noteWith hF ho hk h hr gr hx) ?_
  rintro ⟨v1, J⟩ ⟨e1, e2⟩
  dsimp only at e1 e2 ⊢
  rw [hae] at e1
  subst e1
  have hJ := mQ_s ho h e2
  unfold w_X12_gains_14
  refine wp_loop (fun dd (s : Int32 × Int32 × Int32 × Int32 × Int32 × Int32 × mIT) => ∃ (i : Nat), s = (nI q, nI x, nI y, nI a, nI (4 - nr A a i), nI i, J) ∧ dd = pT A - i ∧ i ≤ pT A) _ ?_ Fu (pT A) _ ⟨0, rfl, rfl, by omega⟩ (by omega)
  rintro dd s self ⟨i, rfl, hdd, hi⟩ hself
  have hn := nr_le A a i
  show wp (b_X12_gains_14 Fu self _ _ _ _ _ (nI i) J) _
  unfold b_X12_gains_14
  refine wp_i (by rw [hJ.1.2.2.2.1, q_le (by omega) (by omega)]) (fun hle => ?_) (fun hlt => ?_)
  · have hie : i = pT A := by omega
    subst hie
    refine wp_B (m_noteWith hF ho hk hJ hq gq hy) ?_
    rintro ⟨v2, K⟩ ⟨u1, u2⟩
    dsimp only at u1 u2 ⊢
    subst u1
    have e4 : (4 : Int32) - nI (4 - nr A a (pT A)) = nI (nr A a (pT A)) := by
      rw [k_4, pk_sub (by omega)]
      congr 1
      omega
    rw [e4]
    unfold sGn
    rw [hae, q_cl (by omega)]
    refine wp_f (fun e => ?_) (fun e => ?_)
    · rw [if_pos e]; exact wp_s ⟨rfl, mS_t e2 u2⟩
    · rw [if_neg e]; exact wp_s ⟨rfl, mS_t e2 u2⟩
  · have hi2 : i < pT A := by omega
    obtain ⟨t, ht, hte⟩ := ho.2.2.2.2.2.2.1 i hi2
    simp (disch := omega) only [q_GI, q_cl, hJ.1.2.2.2.2.2.2.2.1 i hi2, hte, q_1]
    have hs : nr A a (i + 1) = max (nr A a i) (4 - ((a - t) + (t - a))) := by rw [nr, hte, q_cl (by omega)]
    have go : ∀ z, z = nI (4 - nr A a (i + 1)) → wp (self (nI q, nI x, nI y, nI a, z, nI (i + 1), J)) (fun z => z.1 = sGn A row r x q y ∧ mS I z.2) := fun z hz => hself (pT A - (i + 1)) _ (by omega) ⟨i + 1, by rw [hz], rfl, by omega⟩
    refine wp_i (q_le (by omega) (by omega)) (fun e => ?_) (fun e => ?_)
    · rw [pk_sub e]
      refine wp_i (q_le (by omega) (by omega)) (fun e5 => go _ ?_) (fun e5 => go _ ?_)
      · rw [hs]; congr 1; omega
      · rw [hs]; congr 1; omega
    · rw [pk_sub (show a ≤ t by omega)]
      refine wp_i (q_le (by omega) (by omega)) (fun e5 => go _ ?_) (fun e5 => go _ ?_)
      · rw [hs]; congr 1; omega
      · rw [hs]; congr 1; omega
def mc (row : Nat → Int32) (r : Nat) : Nat := if sMy row r = 0 then 0 else 1
theorem mc_le (row : Nat → Int32) (r : Nat) : mc row r ≤ 1 := by unfold mc; split <;> omega
theorem mc_my {row : Nat → Int32} {r x : Nat} (h : x ≤ mc row r) : x ≤ sMy row r := by
  unfold mc at h
  by_cases e : sMy row r = 0
  · rw [if_pos e] at h; omega
  · rw [if_neg e] at h; omega
theorem c_most {Fu : Nat} {I : mIT} {r D : Nat} {A : aPl} {row : Nat → Int32} (ho : okPl A) (hk : okR A D row) (hrow : rI A I 41 0 row) (hr : r < pR A) : f_X11_mostChoice Fu I (nI r) = some (nI (mc row r)) := by
  have := sMy_le row r
  unfold f_X11_mostChoice mc
  rw [c_room (k := 40) ho hk hrow hr, q_B]
  by_cases e : sMy row r = 0
  · rw [if_pos (by rw [q_le0 (by omega)]; exact e), if_pos e]; rfl
  · rw [if_neg (by rw [q_le0 (by omega)]; exact e), if_neg e]; rfl
def sCn (A : aPl) (row : Nat → Int32) (r x q y : Nat) : Bool := decide (sMy row r = 0) || !(decide (sGn A row r x q y < sGn A row r (1 - x) q y))
theorem c_content {Fu : Nat} {I : mIT} {R : mRT} {p n r x q y : Nat} {A : aPl} {row : Nat → Int32} (hF : 701 < Fu) (ho : okPl A) (hk : okR A 999 row) (h : cQ I R p A row n) (hr : r < pR A) (hq : q < pR A) (gr : row (31 + r) ≠ -2) (hx : x ≤ mc row r) : wp (f_X11_isContent Fu R I (nI r) (nI x) (nI q) (nI y)) (fun z => z.1 = (if sCn A row r x q y then 1 else 0) ∧ ∀ c, c ≠ p + 8 → c ≠ p + 9 → z.2 c = I c) := by
  have hm1 := mc_le row r
  unfold f_X11_isContent sCn
  refine wp_Be (c_most ho hk h.2.2.2.1 hr) ?_
  refine wp_i (q_eq0 (by omega)) (fun e => ?_) (fun e => ?_)
  · have e0 : sMy row r = 0 := by
      unfold mc at e
      apply Classical.byContradiction
      intro e2
      rw [if_neg e2] at e
      omega
    rw [decide_eq_true e0, Bool.true_or, if_pos rfl]
    exact wp_s ⟨rfl, fun _ _ _ => rfl⟩
  · have e0 : ¬ sMy row r = 0 := fun e2 => e (by unfold mc; rw [if_pos e2])
    rw [decide_eq_false e0, Bool.false_or, show (1 : Int32) - nI x = nI (1 - x) from pk_sub (a := 1) (by omega)]
    refine wp_B (c_gain hF ho hk h hr hq gr (show 1 - x ≤ sMy row r by omega)) ?_
    rintro ⟨v1, J⟩ ⟨e1, e2⟩
    dsimp only at e1 e2 ⊢
    refine wp_B (c_gain hF ho hk (cQ_n h e2) hr hq gr (mc_my hx)) ?_
    rintro ⟨v2, K⟩ ⟨u1, u2⟩
    dsimp only at u1 u2 ⊢
    have hf : ∀ c, c ≠ p + 8 → c ≠ p + 9 → K c = I c := fun c c1 c2 => by rw [u2 c c1 c2, e2 c c1 c2]
    subst e1 u1
    refine wp_f (fun e5 => ?_) (fun e5 => ?_)
    · rw [decide_eq_true e5]; exact wp_s ⟨rfl, hf⟩
    · rw [decide_eq_false e5]; exact wp_s ⟨rfl, hf⟩
def gG (P : Nat → Bool) : Nat → Nat × Int32
  | 0 => (0, -1)
  | k + 1 => if P k then ((gG P k).1 + 1, if (gG P k).1 = 0 then nI (10 * (k / 2) + k % 2) else (gG P k).2) else gG P k
theorem gG_s {P : Nat → Bool} (k : Nat) : gG P (k + 1) = if P k then ((gG P k).1 + 1, if (gG P k).1 = 0 then nI (10 * (k / 2) + k % 2) else (gG P k).2) else gG P k := rfl
theorem gG_n {P : Nat → Bool} {k : Nat} (h : P k = false) : gG P (k + 1) = gG P k := by rw [gG_s, h, if_neg (by simp)]
theorem gG_b {P : Nat → Bool} : ∀ k, k ≤ 4 → (gG P k).1 ≤ k ∧ (((gG P k).2 = -1) = ((gG P k).1 = 0))
  | 0, _ => ⟨Nat.le_refl _, by simp [gG]⟩
  | k + 1, h => by
    have ih := gG_b (P := P) k (by omega)
    by_cases e : P k = true
    · rw [gG_s, if_pos e]
      refine ⟨by dsimp only; omega, ?_⟩
      dsimp only
      have e3 : ((gG P k).1 + 1 = 0) = False := by simp
      rw [e3]
      by_cases e2 : (gG P k).1 = 0
      · rw [if_pos e2, q_eqm1 (by omega)]
      · rw [if_neg e2, ih.2]
        exact eq_false e2
    · rw [gG_s, if_neg e]
      exact ⟨by omega, ih.2⟩
def gP (A : aPl) (row : Nat → Int32) (r q k : Nat) : Bool := decide (k / 2 ≤ mc row r) && (decide (k % 2 ≤ mc row q) && (sCn A row r (k / 2) q (k % 2) && sCn A row q (k % 2) r (k / 2)))
def sGm (A : aPl) (row : Nat → Int32) (r q w : Nat) : Int32 := if w = 0 then nI (gG (gP A row r q) 4).1 else (gG (gP A row r q) 4).2
theorem gP_x {A : aPl} {row : Nat → Int32} {r q k : Nat} (h : mc row r < k / 2) : gP A row r q k = false := by unfold gP; rw [decide_eq_false (by omega)]; rfl
theorem gP_y {A : aPl} {row : Nat → Int32} {r q k : Nat} (h : mc row q < k % 2) : gP A row r q k = false := by unfold gP; rw [decide_eq_false (by omega : ¬ k % 2 ≤ mc row q), Bool.false_and, Bool.and_false]
theorem gP_s {A : aPl} {row : Nat → Int32} {r q x y : Nat} (hx : x ≤ mc row r) (hy : y ≤ mc row q) : gP A row r q (2 * x + y) = (sCn A row r x q y && sCn A row q y r x) := by
  have := mc_le row q
  unfold gP
  rw [show (2 * x + y) / 2 = x by omega, show (2 * x + y) % 2 = y by omega, decide_eq_true hx, decide_eq_true hy]
  simp
theorem c_game {Fu : Nat} {I : mIT} {R : mRT} {p n r q w : Nat} {A : aPl} {row : Nat → Int32} (hF : 701 < Fu) (ho : okPl A) (hk : okR A 999 row) (h : cQ I R p A row n) (hr : r < pR A) (hq : q < pR A) (hw : w < 2) (hn : r ≠ q) (hr0 : 0 ≤ row (31 + r)) (hq0 : 0 ≤ row (31 + q)) : wp (f_X11_game Fu R I (nI r) (nI q) (nI w)) (cX I R p A row (sGm A row r q w)) := by
  have h10 := ho.1
  have gr : row (31 + r) ≠ -2 := fun e => by rw [e] at hr0; exact absurd hr0 (by decide)
  have gq : row (31 + q) ≠ -2 := fun e => by rw [e] at hq0; exact absurd hq0 (by decide)
  have mr1 := mc_le row r
  have mq1 := mc_le row q
  unfold f_X11_game
  refine wp_X (c_root1 h.1 h.2.2.1 ho hr) (wp_X (c_root1 h.1 h.2.2.1 ho hq) (wp_X (c_two1 hw) (wp_n (by rw [q_eq (by omega) (by omega)]; exact hn) ?_)))
  refine wp_Be (c_place (by omega)) ?_
  rw [r0 h.2.2.2.1 (lv_31 hr)]
  refine wp_n (Int32.not_lt.mpr hr0) (wp_Be (c_place (by omega)) ?_)
  rw [r0 h.2.2.2.1 (lv_31 hq)]
  refine wp_p hq0 (wp_Be (c_most ho hk h.2.2.2.1 hr) (wp_Be (c_most ho hk h.2.2.2.1 hq) ?_))
  generalize hP : gP A row r q = P
  unfold w_X11_game_76
  refine wp_loop (fun dd (s : Int32 × Int32 × Int32 × Int32 × Int32 × Int32 × Int32 × Int32 × mIT) => ∃ (x : Nat) (J : mIT), s = (nI r, nI q, nI w, nI (gG P (2 * x)).1, (gG P (2 * x)).2, nI (mc row r), nI (mc row q), nI x, J) ∧ dd = mc row r + 1 - x ∧ x ≤ mc row r + 1 ∧ ∀ c, c ≠ p + 8 → c ≠ p + 9 → J c = I c) _ ?_ Fu (mc row r + 1) _ ⟨0, I, rfl, rfl, by omega, fun _ _ _ => rfl⟩ (by omega)
  rintro dd s self ⟨x, J, rfl, hdd, hx, f1⟩ hself
  show wp (b_X11_game_76 Fu R self _ _ _ _ _ _ _ (nI x) J) _
  unfold b_X11_game_76
  refine wp_i (q_lt (by omega) (by omega)) (fun hlt => ?_) (fun hge => ?_)
  · have hxe : x = mc row r + 1 := by omega
    have e4 : gG P (2 * x) = gG P 4 := by
      rcases (show mc row r = 1 ∨ mc row r = 0 by omega) with e | e
      · rw [hxe, e]
      · rw [hxe, e, gG_n (k := 3) (by rw [← hP]; exact gP_x (by omega)), gG_n (k := 2) (by rw [← hP]; exact gP_x (by omega))]
    rw [e4]
    unfold sGm
    rw [hP]
    refine wp_i (q_eq0 (by omega)) (fun e => ?_) (fun e => ?_)
    · rw [if_pos e]; exact wp_s ⟨_, rfl, rfl, cS_n h.2.1 f1, n, cQ_n h f1⟩
    · rw [if_neg e]; exact wp_s ⟨_, rfl, rfl, cS_n h.2.1 f1, n, cQ_n h f1⟩
  · unfold w_X11_game_86
    refine wp_loop (fun dd (s : Int32 × Int32 × Int32 × Int32 × Int32 × Int32 × Int32 × Int32 × Int32 × mIT) => ∃ (y : Nat) (K : mIT), s = (nI r, nI q, nI w, nI (gG P (2 * x + y)).1, (gG P (2 * x + y)).2, nI (mc row r), nI (mc row q), nI x, nI y, K) ∧ dd = mc row q + 1 - y ∧ y ≤ mc row q + 1 ∧ ∀ c, c ≠ p + 8 → c ≠ p + 9 → K c = I c) _ ?_ Fu (mc row q + 1) _ ⟨0, J, rfl, rfl, by omega, f1⟩ (by omega)
    rintro dy s self2 ⟨y, K, rfl, hdy, hy, g1⟩ hself2
    show wp (b_X11_game_86 Fu R self self2 _ _ _ _ _ _ _ _ (nI y) K) _
    unfold b_X11_game_86
    refine wp_i (q_lt (by omega) (by omega)) (fun hlt2 => ?_) (fun hge2 => ?_)
    · have hye : y = mc row q + 1 := by omega
      have e4 : gG P (2 * x + y) = gG P (2 * (x + 1)) := by
        rcases (show mc row q = 1 ∨ mc row q = 0 by omega) with e | e
        · rw [hye, e, show 2 * x + (1 + 1) = 2 * (x + 1) by omega]
        · rw [hye, e, show 2 * (x + 1) = (2 * x + 1) + 1 by omega, gG_n (k := 2 * x + 1) (by rw [← hP]; exact gP_y (by omega))]
      rw [e4]
      exact hself (mc row r + 1 - (x + 1)) _ (by omega) ⟨x + 1, K, by rw [q_1], rfl, by omega, g1⟩
    · have hK := cQ_n h g1
      have hPs : P (2 * x + y) = (sCn A row r x q y && sCn A row q y r x) := by rw [← hP]; exact gP_s (by omega) (by omega)
      have hb := gG_b (P := P) (2 * x + y) (by omega)
      refine wp_B (c_content hF ho hk hK hr hq gr (show x ≤ mc row r by omega)) ?_
      rintro ⟨v1, K1⟩ ⟨e1, e2⟩
      dsimp only at e1 e2 ⊢
      have hf1 : ∀ c, c ≠ p + 8 → c ≠ p + 9 → K1 c = I c := fun c c1 c2 => by rw [e2 c c1 c2, g1 c c1 c2]
      have no : ∀ K', (∀ c, c ≠ p + 8 → c ≠ p + 9 → K' c = I c) → P (2 * x + y) = false → wp (self2 (nI r, nI q, nI w, nI (gG P (2 * x + y)).1, (gG P (2 * x + y)).2, nI (mc row r), nI (mc row q), nI x, nI y + 1, K')) (cX I R p A row (sGm A row r q w)) := fun K' hK' e => hself2 (mc row q + 1 - (y + 1)) _ (by omega) ⟨y + 1, K', by rw [q_1, show 2 * x + (y + 1) = (2 * x + y) + 1 by omega, gG_n e], rfl, by omega, hK'⟩
      subst e1
      by_cases c1 : sCn A row r x q y = true
      · rw [if_pos c1]
        refine wp_n (by decide) ?_
        refine wp_B (c_content hF ho hk (cQ_n h hf1) hq hr gq (show y ≤ mc row q by omega)) ?_
        rintro ⟨v2, K2⟩ ⟨u1, u2⟩
        dsimp only at u1 u2 ⊢
        have hf2 : ∀ c, c ≠ p + 8 → c ≠ p + 9 → K2 c = I c := fun c c1 c2 => by rw [u2 c c1 c2, hf1 c c1 c2]
        subst u1
        by_cases c2 : sCn A row q y r x = true
        · rw [if_pos c2]
          refine wp_n (by decide) ?_
          have e5 : P (2 * x + y) = true := by rw [hPs, c1, c2]; rfl
          have e6 : gG P (2 * x + (y + 1)) = ((gG P (2 * x + y)).1 + 1, if (gG P (2 * x + y)).1 = 0 then nI (10 * x + y) else (gG P (2 * x + y)).2) := by
            rw [show 2 * x + (y + 1) = (2 * x + y) + 1 by omega, gG_s, if_pos e5, show (2 * x + y) / 2 = x by omega, show (2 * x + y) % 2 = y by omega]
          refine wp_i (q_eq0 (by omega)) (fun e7 => ?_) (fun e7 => ?_)
          · rw [if_pos e7] at e6
            exact hself2 (mc row q + 1 - (y + 1)) _ (by omega) ⟨y + 1, K2, by rw [q_1, e6, ml_10, nI_add, q_1], rfl, by omega, hf2⟩
          · rw [if_neg e7] at e6
            exact hself2 (mc row q + 1 - (y + 1)) _ (by omega) ⟨y + 1, K2, by rw [q_1, e6, q_1], rfl, by omega, hf2⟩
        · rw [if_neg c2]
          exact wp_p rfl (no K2 hf2 (by rw [hPs, Bool.eq_false_iff.mpr c2, Bool.and_false]))
      · rw [if_neg c1]
        exact wp_p rfl (no K1 hf1 (by rw [hPs, Bool.eq_false_iff.mpr c1, Bool.false_and]))
theorem m_game {Fu : Nat} {I : mIT} {r q w : Nat} {A : aPl} {row : Nat → Int32} (hF : 701 < Fu) (ho : okPl A) (hk : okR A 999 row) (h : mQ I A row) (hr : r < pR A) (hq : q < pR A) (hw : w < 2) (hn : r ≠ q) (hr0 : 0 ≤ row (31 + r)) (hq0 : 0 ≤ row (31 + q)) : wp (f_X12_game Fu I (nI r) (nI q) (nI w)) (fun y => y.1 = sGm A row r q w ∧ mS (mU I 75 0 0) y.2) := by
  have h0 := mQ_0 (v := 0) h
  have h10 := ho.1
  have gr : row (31 + r) ≠ -2 := fun e => by rw [e] at hr0; exact absurd hr0 (by decide)
  have gq : row (31 + q) ≠ -2 := fun e => by rw [e] at hq0; exact absurd hq0 (by decide)
  have mr1 := mc_le row r
  have mq1 := mc_le row q
  have my1 := sMy_le row r
  have my2 := sMy_le row q
  have core : wp (w_X12_game_107 Fu Fu (nI r) (nI q) (nI w) (nI (mc row r)) (nI (mc row q)) 0 (-1) 0 (mU I 75 0 0)) (fun y => y.1 = sGm A row r q w ∧ mS (mU I 75 0 0) y.2) := by
    unfold sGm
    generalize hP : gP A row r q = P
    unfold w_X12_game_107
    refine wp_loop (fun dd (s : Int32 × Int32 × Int32 × Int32 × Int32 × Int32 × Int32 × Int32 × mIT) => ∃ (k : Nat) (J : mIT), s = (nI r, nI q, nI w, nI (mc row r), nI (mc row q), nI (gG P k).1, (gG P k).2, nI k, J) ∧ dd = 4 - k ∧ k ≤ 4 ∧ mS (mU I 75 0 0) J) _ ?_ Fu 4 _ ⟨0, _, rfl, rfl, by omega, mS_r _⟩ (by omega)
    rintro dd s self ⟨k, J, rfl, hdd, hk4, f1⟩ hself
    show wp (b_X12_game_107 Fu self _ _ _ _ _ _ _ (nI k) J) _
    unfold b_X12_game_107
    refine wp_i (ge_4 (by omega)) (fun hle => ?_) (fun hlt => ?_)
    · have hke : k = 4 := by omega
      subst hke
      refine wp_i (q_eq0 (by omega)) (fun e => ?_) (fun e => ?_)
      · rw [if_pos e]; exact wp_s ⟨rfl, f1⟩
      · rw [if_neg e]; exact wp_s ⟨rfl, f1⟩
    · have hJ := mQ_s ho h0 f1
      have hd2 : nI k / 2 = nI (k / 2) := pk_div (d := 2) (by omega) (by omega) (by omega)
      have hr2 : nI k - nI k / 2 * 2 = nI (k % 2) := pk_rem (d := 2) (by omega) (by omega) (by omega)
      have hb := gG_b (P := P) k hk4
      rw [hr2, hd2]
      have no : ∀ K, mS (mU I 75 0 0) K → P k = false → wp (self (nI r, nI q, nI w, nI (mc row r), nI (mc row q), nI (gG P k).1, (gG P k).2, nI k + 1, K)) (fun y => y.1 = (if w = 0 then nI (gG P 4).1 else (gG P 4).2) ∧ mS (mU I 75 0 0) y.2) := fun K hK e => hself (4 - (k + 1)) _ (by omega) ⟨k + 1, K, by rw [q_1, gG_n e], rfl, by omega, hK⟩
      refine wp_i (q_lt (by omega) (by omega)) (fun e => no J f1 (by rw [← hP]; exact gP_x e)) (fun e => ?_)
      refine wp_i (q_le (by omega) (by omega)) (fun e2 => ?_) (fun e2 => no J f1 (by rw [← hP]; exact gP_y (by omega)))
      have hPs : P k = (sCn A row r (k / 2) q (k % 2) && sCn A row q (k % 2) r (k / 2)) := by
        rw [← hP]
        have := gP_s (A := A) (r := r) (q := q) (show k / 2 ≤ mc row r by omega) e2
        rwa [show 2 * (k / 2) + k % 2 = k by omega] at this
      have s207 : ∀ K, mS (mU I 75 0 0) K → P k = true → wp (b_X12_game_207 Fu self (nI r) (nI q) (nI w) (nI (mc row r)) (nI (mc row q)) (nI (gG P k).1) (gG P k).2 (nI k) (nI (k / 2)) (nI (k % 2)) K) (fun y => y.1 = (if w = 0 then nI (gG P 4).1 else (gG P 4).2) ∧ mS (mU I 75 0 0) y.2) := by
        intro K hK e5
        unfold b_X12_game_207
        have e6 := gG_s (P := P) k
        rw [if_pos e5] at e6
        refine wp_i hb.2 (fun e7 => ?_) (fun e7 => ?_)
        · rw [if_pos e7] at e6
          exact hself (4 - (k + 1)) _ (by omega) ⟨k + 1, K, by rw [q_1, e6, ml_10, nI_add, q_1], rfl, by omega, hK⟩
        · rw [if_neg e7] at e6
          exact hself (4 - (k + 1)) _ (by omega) ⟨k + 1, K, by rw [q_1, e6, q_1], rfl, by omega, hK⟩
      have s173 : ∀ K, mS (mU I 75 0 0) K → sCn A row r (k / 2) q (k % 2) = true → wp (b_X12_game_173 Fu self (nI r) (nI q) (nI w) (nI (mc row r)) (nI (mc row q)) (nI (gG P k).1) (gG P k).2 (nI k) (nI (k / 2)) (nI (k % 2)) K) (fun y => y.1 = (if w = 0 then nI (gG P 4).1 else (gG P 4).2) ∧ mS (mU I 75 0 0) y.2) := by
        intro K hK c1
        have hK2 := mQ_s ho h0 hK
        unfold b_X12_game_173
        refine wp_i (eq_1 (by omega)) (fun e5 => ?_) (fun e5 => ?_)
        · have hm : sMy row q ≠ 0 := fun e6 => by unfold mc at e5; rw [if_pos e6] at e5; omega
          rw [show (1 : Int32) - nI (k % 2) = nI (1 - k % 2) from pk_sub (a := 1) (by omega)]
          refine wp_B (m_gains hF ho hk hK2 hq hr gq gr (show 1 - k % 2 ≤ sMy row q by omega) (mc_my (show k / 2 ≤ mc row r by omega))) ?_
          rintro ⟨v1, K1⟩ ⟨u1, u2⟩
          dsimp only at u1 u2 ⊢
          refine wp_B (m_gains hF ho hk (mQ_s ho hK2 u2) hq hr gq gr (mc_my e2) (mc_my (show k / 2 ≤ mc row r by omega))) ?_
          rintro ⟨v2, K2⟩ ⟨t1, t2⟩
          dsimp only at t1 t2 ⊢
          subst u1 t1
          have hS := mS_t hK (mS_t u2 t2)
          have c2 : sCn A row q (k % 2) r (k / 2) = !(decide (sGn A row q (k % 2) r (k / 2) < sGn A row q (1 - k % 2) r (k / 2))) := by unfold sCn; rw [decide_eq_false hm, Bool.false_or]
          refine wp_f (fun e7 => s207 K2 hS ?_) (fun e7 => no K2 hS ?_)
          · rw [hPs, c1, c2, decide_eq_false (Int32.not_lt.mpr e7)]; rfl
          · rw [hPs, c2, decide_eq_true (Int32.not_le.mp e7), Bool.not_true, Bool.and_false]
        · have hm : sMy row q = 0 := by
            apply Classical.byContradiction
            intro e6
            exact e5 (by unfold mc; rw [if_neg e6])
          refine s207 K hK ?_
          rw [hPs, c1]
          unfold sCn
          rw [decide_eq_true hm]
          rfl
      refine wp_i (eq_1 (by omega)) (fun e5 => ?_) (fun e5 => ?_)
      · have hm : sMy row r ≠ 0 := fun e6 => by unfold mc at e5; rw [if_pos e6] at e5; omega
        rw [show (1 : Int32) - nI (k / 2) = nI (1 - k / 2) from pk_sub (a := 1) (by omega)]
        refine wp_B (m_gains hF ho hk hJ hr hq gr gq (show 1 - k / 2 ≤ sMy row r by omega) (mc_my e2)) ?_
        rintro ⟨v1, K1⟩ ⟨u1, u2⟩
        dsimp only at u1 u2 ⊢
        refine wp_B (m_gains hF ho hk (mQ_s ho hJ u2) hr hq gr gq (mc_my (show k / 2 ≤ mc row r by omega)) (mc_my e2)) ?_
        rintro ⟨v2, K2⟩ ⟨t1, t2⟩
        dsimp only at t1 t2 ⊢
        subst u1 t1
        have hS := mS_t f1 (mS_t u2 t2)
        have c1 : sCn A row r (k / 2) q (k % 2) = !(decide (sGn A row r (k / 2) q (k % 2) < sGn A row r (1 - k / 2) q (k % 2))) := by unfold sCn; rw [decide_eq_false hm, Bool.false_or]
        refine wp_f (fun e7 => no K2 hS ?_) (fun e7 => s173 K2 hS ?_)
        · rw [hPs, c1, decide_eq_true e7]; rfl
        · rw [c1, decide_eq_false e7]; rfl
      · have hm : sMy row r = 0 := by
          apply Classical.byContradiction
          intro e6
          exact e5 (by unfold mc; rw [if_neg e6])
        refine s173 J f1 ?_
        unfold sCn
        rw [decide_eq_true hm]
        rfl
  unfold f_X12_game
  refine wp_Be (m_isRoot1 (q_U0 I) h0.1 ho hr) (wp_n ne10 ?_)
  refine wp_Be (m_isRoot1 (q_U0 I) h0.1 ho hq) (wp_n ne10 ?_)
  refine wp_Be (m_what1 (m := 1) (q_U0 I) hw (by omega)) (wp_n ne10 ?_)
  refine wp_n (by rw [q_eq (by omega) (by omega)]; exact hn) ?_
  refine wp_Be (m_hang1 (b := 0) (by omega) (by omega) (h0.2.1 _ (lv_31 hr))) ?_
  rw [if_neg (Int32.not_lt.mpr hr0)]
  refine wp_n (by decide) (wp_Be (m_hang1 (b := 0) (by omega) (by omega) (h0.2.1 _ (lv_31 hq))) ?_)
  rw [if_neg (Int32.not_lt.mpr hq0)]
  refine wp_n (by decide) ?_
  unfold b_X12_game_59
  refine wp_Be (m_right1 (q_U0 I)) (wp_n ne10 ?_)
  refine wp_Be (m_mayBe ho hk h0.2.1 hr) ?_
  unfold b_X12_game_81
  have e1 : ∀ r, r < pR A → (nI (sMy row r) ≤ 0) = (mc row r = 0) := fun r _ => by
    have := sMy_le row r
    rw [q_le0 (by omega)]
    unfold mc
    by_cases e : sMy row r = 0
    · rw [if_pos e]; simp [e]
    · rw [if_neg e]; simp [e]
  refine wp_i (e1 r hr) (fun e => ?_) (fun e => ?_)
  · rw [e] at core
    refine wp_Be (m_mayBe ho hk h0.2.1 hq) (wp_i (e1 q hq) (fun e2 => ?_) (fun e2 => ?_))
    · rw [e2] at core; exact core
    · rw [show mc row q = 1 by omega] at core; exact core
  · rw [show mc row r = 1 by omega] at core
    refine wp_Be (m_mayBe ho hk h0.2.1 hq) (wp_i (e1 q hq) (fun e2 => ?_) (fun e2 => ?_))
    · rw [e2] at core; exact core
    · rw [show mc row q = 1 by omega] at core; exact core
