def isCh (v : Int32) : Bool := decide (0 ≤ v ∧ v ≤ 31 ∧ (v &&& (v >>> ((1 : Int32) &&& 31))) = 0)
theorem c_isChg {Fu : Nat} {v : Int32} : f_X11_isChangeNumber Fu v = some (if isCh v then 1 else 0) := by
  unfold f_X11_isChangeNumber isCh
  have e32 : (32 ≤ v) ↔ ¬ v ≤ 31 := by
    rw [Int32.not_le, Int32.le_iff_toInt_le, Int32.lt_iff_toInt_lt, show (32 : Int32).toInt = 32 from rfl, show (31 : Int32).toInt = 31 from rfl]
    omega
  by_cases e : v < 0
  · rw [if_pos e, decide_eq_false (fun q => absurd q.1 (Int32.not_le.mpr e))]; rfl
  · rw [if_neg e]
    by_cases e2 : 32 ≤ v
    · rw [if_pos e2, decide_eq_false (fun q => e32.mp e2 q.2.1)]; rfl
    · rw [if_neg e2]
      by_cases e3 : (v &&& (v >>> ((1 : Int32) &&& 31))) = 0
      · rw [if_pos e3, decide_eq_true ⟨Int32.not_lt.mp e, Classical.byContradiction (fun q => e2 (e32.mpr q)), e3⟩]; rfl
      · rw [if_neg e3, decide_eq_false (fun q => e3 q.2.2)]; rfl
theorem m_isChg {Fu : Nat} {v : Int32} : f_X12_isChange Fu v = some (if isCh v then 1 else 0) := by
  unfold f_X12_isChange f_X12_within isCh
  by_cases e : v < 0
  · rw [if_pos e, q_B, if_pos rfl, decide_eq_false (fun q => absurd q.1 (Int32.not_le.mpr e))]; rfl
  · rw [if_neg e]
    by_cases e2 : 31 < v
    · rw [if_pos e2, q_B, if_pos rfl, decide_eq_false (fun q => absurd q.2.1 (Int32.not_le.mpr e2))]; rfl
    · rw [if_neg e2, q_B, if_neg (by decide)]
      by_cases e3 : (v &&& (v >>> ((1 : Int32) &&& 31))) = 0
      · rw [if_pos e3, decide_eq_true ⟨Int32.not_lt.mp e, Int32.not_lt.mp e2, e3⟩]; rfl
      · rw [if_neg e3, decide_eq_false (fun q => e3 q.2.2)]; rfl
def upC (chs : Nat → Int32) (i : Nat) (v : Int32) : Nat → Int32 := fun j => if j = i then v else chs j
def lo (chs : Nat → Int32) (m n : Nat) : Nat → Nat × Int32
  | 0 => (tL chs m n, -1)
  | t + 1 => if nI (t % 32) ≠ chs (t / 32) ∧ isCh (nI (t % 32)) = true ∧ (lo chs m n t).1 < tL (upC chs (t / 32) (nI (t % 32))) m n then (tL (upC chs (t / 32) (nI (t % 32))) m n, nI (100 * (t / 32) + t % 32)) else lo chs m n t
theorem lo_s {chs : Nat → Int32} {m n i v : Nat} (hv : v < 32) : lo chs m n (32 * i + (v + 1)) = if nI v ≠ chs i ∧ isCh (nI v) = true ∧ (lo chs m n (32 * i + v)).1 < tL (upC chs i (nI v)) m n then (tL (upC chs i (nI v)) m n, nI (100 * i + v)) else lo chs m n (32 * i + v) := by
  rw [← Nat.add_assoc, lo, show (32 * i + v) % 32 = v by omega, show (32 * i + v) / 32 = i by omega]
theorem lo_le {chs : Nat → Int32} {m n : Nat} (hn : n ≤ 6) (hm : 0 < m) (hm2 : m ≤ 12) : ∀ t, (lo chs m n t).1 ≤ 72
  | 0 => tL_le hn hm hm2
  | t + 1 => by
    rw [lo]
    split
    · exact tL_le hn hm hm2
    · exact lo_le hn hm hm2 t
theorem cS_r2 {I J : mIT} (f : ∀ c, c ≠ 62 → c ≠ 63 → c ≠ 64 → c ≠ 65 → J c = I c) : cS I J := fun c hc => f c (fun e => by subst e; exact nomatch hc) (fun e => by subst e; exact nomatch hc) (fun e => by subst e; exact nomatch hc) (fun e => by subst e; exact nomatch hc)
theorem cQ_r2 {I J : mIT} {R : mRT} {p n : Nat} {A : aPl} {row : Nat → Int32} (h : cQ I R p A row n) (f : ∀ c, c ≠ 62 → c ≠ 63 → c ≠ 64 → c ≠ 65 → J c = I c) : cQ J R p A row n := cQ_s h (cS_r2 f) (fun c c1 c2 => f c (by omega) (by omega) (by omega) (by omega))
theorem c_chs1 {Fu : Nat} {I : mIT} {R : mRT} {p n k : Nat} {A : aPl} {row : Nat → Int32} (ho : okPl A) (h : cQ I R p A row n) (hm : 0 < pC A) (hk : k < 1000) : f_X11_checkChanges Fu R I (nI k) = some (.inl ()) := by
  have h12 := ho.2.2.2.2.1
  unfold f_X11_checkChanges
  rw [if_neg (by rw [q_lt0 (by omega)]; simp), if_neg (by rw [gt_999 (by omega)]; omega), h.1, q_B, h.2.2.1.2.2.2.2.2.1, if_neg (nI_ne0 hm (by omega))]
theorem c_chs0 {Fu : Nat} {I : mIT} {R : mRT} {p n : Nat} {A : aPl} {row : Nat → Int32} {v : Int32} (h : cQ I R p A row n) (hv : (v < 0 ∨ nI 1000 ≤ v) ∨ pC A = 0) : f_X11_checkChanges Fu R I v = some (.inr (2, I)) := by
  unfold f_X11_checkChanges
  by_cases e : v < 0
  · rw [if_pos e]
  · rw [if_neg e]
    by_cases e2 : 999 < v
    · rw [if_pos e2]
    · have hm : pC A = 0 := by
        rcases hv with (q | q) | q
        · exact absurd q e
        · exact absurd (nle_lt (m := 999) (by omega) q) e2
        · exact q
      rw [if_neg e2, h.1, q_B, h.2.2.1.2.2.2.2.2.1, hm, if_pos (by decide)]
theorem c_row {Fu : Nat} {I : mIT} {R : mRT} {p n k : Nat} {A : aPl} {row : Nat → Int32} (hF : 2000 < Fu) (ho : okPl A) (h : cQ I R p A row n) (hm : 0 < pC A) (hk : k < 1000) : wp (f_X11_row Fu R I (nI k)) (cX I R p A row (nI (dn (pr (chR row) (pC A) (nB A row) k) (nB A row)))) := by
  unfold f_X11_row
  refine wp_X (c_chs1 ho h hm hk) (wp_Be h.1 ?_)
  refine wp_B (c_load (by omega) ho h) ?_
  rintro J ⟨h1, h2⟩
  have hf : ∀ c, c ≠ 62 → c ≠ 63 → c ≠ 64 → c ≠ 65 → J c = I c := fun c c1 c2 c3 _ => h2 c c1 c2 c3
  exact wp_Be (c_numB hF ho hm h1 hk) (wp_s ⟨_, rfl, rfl, cS_r2 hf, n, cQ_r2 h hf⟩)
theorem c_at {Fu : Nat} {I : mIT} {R : mRT} {p n k q : Nat} {A : aPl} {row : Nat → Int32} (hF : 2000 < Fu) (ho : okPl A) (h : cQ I R p A row n) (hm : 0 < pC A) (hk : k < 1000) (hq : q < nB A row) : wp (f_X11_at Fu R I (nI k) (nI q)) (cX I R p A row (nI (bR A row (pr (chR row) (pC A) (nB A row) k q)))) := by
  have hB : nB A row ≤ 6 := fb_ct_le _ 6
  unfold f_X11_at
  refine wp_X (c_chs1 ho h hm hk) (wp_Be h.1 ?_)
  refine wp_B (c_load (by omega) ho h) ?_
  rintro J ⟨h1, h2⟩
  have hf : ∀ c, c ≠ 62 → c ≠ 63 → c ≠ 64 → c ≠ 65 → J c = I c := fun c c1 c2 c3 _ => h2 c c1 c2 c3
  refine wp_n (by rw [q_lt0 (by omega)]; simp) (wp_Be (show f_X7_bells Fu J = some (J 62 3) from rfl) ?_)
  refine wp_p (by rw [h1.1, q_lt (by omega) (by omega)]; exact hq) ?_
  exact wp_Be (c_rootAt hF ho hm h1 hk hq) (wp_s ⟨_, rfl, rfl, cS_r2 hf, n, cQ_r2 h hf⟩)
theorem c_at0 {Fu : Nat} {I : mIT} {R : mRT} {p n k : Nat} {A : aPl} {row : Nat → Int32} {v : Int32} (hF : 2000 < Fu) (ho : okPl A) (h : cQ I R p A row n) (hm : 0 < pC A) (hk : k < 1000) (hv : v < 0 ∨ nI (nB A row) ≤ v) : wp (f_X11_at Fu R I (nI k) v) (fun o => ∃ J, o = .inr (1, J) ∧ cS I J ∧ ∃ n, cQ J R p A row n) := by
  unfold f_X11_at
  refine wp_X (c_chs1 ho h hm hk) (wp_Be h.1 ?_)
  refine wp_B (c_load (by omega) ho h) ?_
  rintro J ⟨h1, h2⟩
  have hf : ∀ c, c ≠ 62 → c ≠ 63 → c ≠ 64 → c ≠ 65 → J c = I c := fun c c1 c2 c3 _ => h2 c c1 c2 c3
  refine wp_f (fun _ => wp_s ⟨J, rfl, cS_r2 hf, n, cQ_r2 h hf⟩) (fun e => wp_Be (show f_X7_bells Fu J = some (J 62 3) from rfl) ?_)
  exact wp_n (by rw [h1.1]; exact Int32.not_lt.mpr (hv.resolve_left e)) (wp_s ⟨J, rfl, cS_r2 hf, n, cQ_r2 h hf⟩)
theorem c_length {Fu : Nat} {I : mIT} {R : mRT} {p n : Nat} {A : aPl} {row : Nat → Int32} (hF : 701 < Fu) (ho : okPl A) (h : cQ I R p A row n) : wp (f_X11_length Fu R I) (cA I R p A row (if pC A = 0 then -1 else nI (ln (chR row) (pC A) (nB A row)))) := by
  have h12 := ho.2.2.2.2.1
  unfold f_X11_length
  refine wp_Be h.1 (wp_i (by rw [h.2.2.1.2.2.2.2.2.1, q_eq0 (by omega)]) (fun e => ?_) (fun e => ?_))
  · rw [if_pos e]; exact wp_s ⟨rfl, cS_r I, n, h⟩
  · rw [if_neg e]
    refine wp_Be h.1 (wp_B (c_load hF ho h) ?_)
    rintro J ⟨h1, h2⟩
    have hf : ∀ c, c ≠ 62 → c ≠ 63 → c ≠ 64 → c ≠ 65 → J c = I c := fun c c1 c2 c3 _ => h2 c c1 c2 c3
    exact wp_Be (c_len hF ho (by omega) h1) (wp_s ⟨rfl, cS_r2 hf, n, cQ_r2 h hf⟩)
theorem c_isTrue {Fu : Nat} {I : mIT} {R : mRT} {p n : Nat} {A : aPl} {row : Nat → Int32} (hF : 701 < Fu) (ho : okPl A) (h : cQ I R p A row n) : wp (f_X11_isTrue Fu R I) (cA I R p A row (if pC A = 0 then 1 else if tw (chR row) (pC A) (nB A row) then 0 else 1)) := by
  have h12 := ho.2.2.2.2.1
  have hB : nB A row ≤ 6 := fb_ct_le _ 6
  unfold f_X11_isTrue
  refine wp_Be h.1 (wp_i (by rw [h.2.2.1.2.2.2.2.2.1, q_eq0 (by omega)]) (fun e => ?_) (fun e => ?_))
  · rw [if_pos e]; exact wp_s ⟨rfl, cS_r I, n, h⟩
  · rw [if_neg e]
    obtain ⟨l1, l2, l3, l4⟩ := ln_b (chs := chR row) hB (show 0 < pC A by omega) h12
    refine wp_Be h.1 (wp_B (c_load hF ho h) ?_)
    rintro J ⟨h1, h2⟩
    refine wp_B (c_tL hF ho (by omega) h1) ?_
    rintro ⟨v, K⟩ ⟨u1, u2⟩
    dsimp only at u1 u2 ⊢
    have hf : ∀ c, c ≠ 62 → c ≠ 63 → c ≠ 64 → c ≠ 65 → K c = I c := fun c c1 c2 c3 c4 => by rw [u2 c c4]; exact h2 c c1 c2 c3
    subst u1
    unfold tL
    by_cases e2 : tw (chR row) (pC A) (nB A row) = true
    · rw [if_pos e2, if_pos e2]
      exact wp_p (by decide) (wp_s ⟨rfl, cS_r2 hf, n, cQ_r2 h hf⟩)
    · rw [if_neg e2, if_neg e2]
      exact wp_n (by rw [q_le0 (by omega)]; omega) (wp_s ⟨rfl, cS_r2 hf, n, cQ_r2 h hf⟩)
theorem c_longer {Fu : Nat} {I : mIT} {R : mRT} {p n : Nat} {A : aPl} {row : Nat → Int32} (hF : 701 < Fu) (ho : okPl A) (h : cQ I R p A row n) : wp (f_X11_longer Fu R I) (cA I R p A row (if pC A = 0 then -1 else (lo (chR row) (pC A) (nB A row) (32 * pC A)).2)) := by
  have h12 := ho.2.2.2.2.1
  have hB : nB A row ≤ 6 := fb_ct_le _ 6
  unfold f_X11_longer
  refine wp_Be h.1 (wp_i (by rw [h.2.2.1.2.2.2.2.2.1, q_eq0 (by omega)]) (fun e => ?_) (fun e => ?_))
  · rw [if_pos e]; exact wp_s ⟨rfl, cS_r I, n, h⟩
  · rw [if_neg e]
    have hm : 0 < pC A := by omega
    refine wp_Be h.1 (wp_B (c_load hF ho h) ?_)
    rintro J ⟨h1, h2⟩
    have core : wp (f_X7_longerBy Fu J) (fun y => y.1 = (lo (chR row) (pC A) (nB A row) (32 * pC A)).2 ∧ ∀ c, c ≠ 64 → c ≠ 65 → y.2 c = J c) := by
      generalize chR row = chs at h1
      have hlo := fun t => lo_le (chs := chs) hB hm h12 t
      have htl := fun chs => tL_le (chs := chs) hB hm h12
      generalize hnB : nB A row = nb at hB hlo htl
      unfold f_X7_longerBy
      refine wp_B (c_tL hF ho hm h1) ?_
      rintro ⟨v, K0⟩ ⟨u1, u2⟩
      dsimp only at u1 u2 ⊢
      rw [hnB] at u1
      subst u1
      unfold w_X7_longerBy_9
      refine wp_loop (fun dd (s : Int32 × Int32 × Int32 × mIT) => ∃ (i : Nat) (K : mIT), s = (nI (lo chs (pC A) nb (32 * i)).1, (lo chs (pC A) nb (32 * i)).2, nI i, K) ∧ dd = pC A - i ∧ i ≤ pC A ∧ (∀ j, j < pC A → K 64 j = chs j) ∧ ∀ c, c ≠ 64 → c ≠ 65 → K c = J c) _ ?_ Fu (pC A) _ ⟨0, K0, rfl, rfl, by omega, fun j hj => by rw [u2 64 (by decide)]; exact h1.2.2.1 j hj, fun c c1 c2 => u2 c c2⟩ (by omega)
      rintro dd s self ⟨i, K, rfl, hdd, hi, f1, f2⟩ hself
      show wp (b_X7_longerBy_9 Fu self _ _ (nI i) K) _
      unfold b_X7_longerBy_9
      refine wp_i (by rw [f2 62 (by decide) (by decide), h1.2.1, q_le (by omega) (by omega)]) (fun hle => ?_) (fun hlt => ?_)
      · have hie : i = pC A := by omega
        subst hie
        exact wp_s ⟨rfl, f2⟩
      · have hi2 : i < pC A := by omega
        refine wp_n (by rw [q_le (by omega) (by omega)]; omega) ?_
        rw [q_GI (by omega) (by omega), q_cl (by omega), f1 i hi2]
        unfold w_X7_longerBy_37
        refine wp_loop (fun dd (s : Int32 × Int32 × Int32 × Int32 × Int32 × mIT) => ∃ (w : Nat) (L : mIT), s = (nI (lo chs (pC A) nb (32 * i + w)).1, (lo chs (pC A) nb (32 * i + w)).2, nI i, chs i, nI w, L) ∧ dd = 32 - w ∧ w ≤ 32 ∧ (∀ j, j < pC A → j ≠ i → L 64 j = chs j) ∧ ∀ c, c ≠ 64 → c ≠ 65 → L c = J c) _ ?_ Fu 32 _ ⟨0, K, rfl, rfl, by omega, fun j hj _ => f1 j hj, f2⟩ (by omega)
        rintro dw s selfw ⟨w, L, rfl, hdw, hw, g1, g2⟩ hselfw
        have hl1 := hlo (32 * i + w)
        show wp (b_X7_longerBy_37 Fu self selfw _ _ (nI i) _ (nI w) L) _
        unfold b_X7_longerBy_37
        refine wp_i (ge_32 (by omega)) (fun hle2 => ?_) (fun hlt2 => ?_)
        · have hwe : w = 32 := by omega
          subst hwe
          rw [q_GI (by omega) (by omega), q_cl (by omega)]
          refine hself (pC A - (i + 1)) _ (by omega) ⟨i + 1, _, by rw [q_1, show 32 * (i + 1) = 32 * i + 32 by omega], rfl, by omega, fun j hj => ?_, fun c c1 c2 => by rw [mU_other c1]; exact g2 c c1 c2⟩
          by_cases e3 : j = i
          · subst e3; rw [q_U]
          · rw [q_Uj e3]; exact g1 j hj e3
        · have es := lo_s (chs := chs) (m := pC A) (n := nb) (i := i) (v := w) (by omega)
          have no : ∀ M : mIT, (∀ j, j < pC A → j ≠ i → M 64 j = chs j) → (∀ c, c ≠ 64 → c ≠ 65 → M c = J c) → ¬ (nI w ≠ chs i ∧ isCh (nI w) = true ∧ (lo chs (pC A) nb (32 * i + w)).1 < tL (upC chs i (nI w)) (pC A) nb) → wp (selfw (nI (lo chs (pC A) nb (32 * i + w)).1, (lo chs (pC A) nb (32 * i + w)).2, nI i, chs i, nI w + 1, M)) (fun y => y.1 = (lo chs (pC A) nb (32 * pC A)).2 ∧ ∀ c, c ≠ 64 → c ≠ 65 → y.2 c = J c) := fun M m1 m2 hc => hselfw (32 - (w + 1)) _ (by omega) ⟨w + 1, M, by rw [q_1, es, if_neg hc], rfl, by omega, m1, m2⟩
          refine wp_f (fun e3 => no L g1 g2 (fun q => q.1 e3)) (fun e3 => ?_)
          refine wp_Be c_isChg ?_
          by_cases e4 : isCh (nI w) = true
          · rw [if_pos e4]
            refine wp_n (by decide) ?_
            rw [q_GI (by omega) (by omega), q_cl (by omega)]
            have hL : cR (mU L 64 i (nI w)) A row (upC chs i (nI w)) := by
              unfold cR
              rw [mU_other (by decide : (62 : Nat) ≠ 64), mU_other (by decide : (63 : Nat) ≠ 64), g2 62 (by decide) (by decide), g2 63 (by decide) (by decide)]
              refine ⟨h1.1, h1.2.1, fun j hj => ?_, h1.2.2.2⟩
              unfold upC
              by_cases e5 : j = i
              · subst e5; rw [q_U, if_pos rfl]
              · rw [q_Uj e5, if_neg e5]; exact g1 j hj e5
            refine wp_B (c_tL hF ho hm hL) ?_
            rintro ⟨v, M⟩ ⟨t1, t2⟩
            dsimp only at t1 t2 ⊢
            rw [hnB] at t1
            subst t1
            have htb := htl (upC chs i (nI w))
            have m1 : ∀ j, j < pC A → j ≠ i → M 64 j = chs j := fun j hj hn => by rw [t2 64 (by decide), q_Uj hn]; exact g1 j hj hn
            have m2 : ∀ c, c ≠ 64 → c ≠ 65 → M c = J c := fun c c1 c2 => by rw [t2 c c2, mU_other c1]; exact g2 c c1 c2
            refine wp_i (q_le (by omega) (by omega)) (fun e5 => no M m1 m2 (fun q => by omega)) (fun e5 => ?_)
            rw [if_pos ⟨e3, e4, by omega⟩] at es
            refine hselfw (32 - (w + 1)) _ (by omega) ⟨w + 1, M, ?_, rfl, by omega, m1, m2⟩
            rw [q_1, es, show (100 : Int32) * nI i = nI (100 * i) from pk_mul 100 i, nI_add]
          · rw [if_neg e4]
            exact wp_p rfl (no L g1 g2 (fun q => e4 q.2.1))
    refine wp_B core ?_
    rintro ⟨v, K⟩ ⟨u1, u2⟩
    have hf : ∀ c, c ≠ 62 → c ≠ 63 → c ≠ 64 → c ≠ 65 → K c = I c := fun c c1 c2 c3 c4 => by
      have : K c = J c := u2 c c3 c4
      rw [this]; exact h2 c c1 c2 c3
    exact wp_s ⟨u1, cS_r2 hf, n, cQ_r2 h hf⟩
/-- leads and meetings -/
def ldP (A : aPl) (row : Nat → Int32) (r i : Nat) : Bool := decide (0 < nB A row ∧ bR A row (pr (chR row) (pC A) (nB A row) i 0) = r)
def sPl (A : aPl) (row : Nat → Int32) (r i : Nat) : Int32 := sFi (fun p => decide (bR A row (pr (chR row) (pC A) (nB A row) i p) = r)) 0 (nB A row)
def mtP (A : aPl) (row : Nat → Int32) (r q i : Nat) : Bool := decide (sPl A row r i - sPl A row q i = 1 ∨ sPl A row r i - sPl A row q i = -1)
theorem sFi_none {p : Nat → Bool} : ∀ k i, (∀ j, i ≤ j → j < i + k → p j = false) → sFi p i k = -1
  | 0, _, _ => rfl
  | k + 1, i, h => by rw [sFi_s, h i (by omega) (by omega), if_neg (by simp)]; exact sFi_none k (i + 1) (fun j h1 h2 => h j (by omega) (by omega))
theorem sFi_some {p : Nat → Bool} : ∀ k i, (∃ j, i ≤ j ∧ j < i + k ∧ p j = true) → ∃ j, i ≤ j ∧ j < i + k ∧ p j = true ∧ sFi p i k = nI j
  | 0, i, ⟨j, h1, h2, _⟩ => by omega
  | k + 1, i, ⟨j, h1, h2, h3⟩ => by
    rw [sFi_s]
    by_cases e : p i = true
    · exact ⟨i, by omega, by omega, e, by rw [if_pos e]⟩
    · have : j ≠ i := fun e2 => by subst e2; exact e h3
      obtain ⟨j', a, b, c, d⟩ := sFi_some k (i + 1) ⟨j, by omega, by omega, h3⟩
      exact ⟨j', by omega, by omega, c, by rw [if_neg e]; exact d⟩
theorem c_leads {Fu : Nat} {I : mIT} {R : mRT} {p n r : Nat} {A : aPl} {row : Nat → Int32} (hF : 701 < Fu) (ho : okPl A) (hk : okR A 999 row) (h : cQ I R p A row n) (hr : r < pR A) : wp (f_X11_leads Fu R I (nI r)) (cX I R p A row (if pC A = 0 then 0 else nI (fb_ct (ldP A row r) (ln (chR row) (pC A) (nB A row))))) := by
  have h12 := ho.2.2.2.2.1
  have h10 := ho.1
  have hB : nB A row ≤ 6 := fb_ct_le _ 6
  unfold f_X11_leads
  refine wp_X (c_root1 h.1 h.2.2.1 ho hr) (wp_Be h.1 (wp_i (by rw [h.2.2.1.2.2.2.2.2.1, q_eq0 (by omega)]) (fun e => ?_) (fun e => ?_)))
  · rw [if_pos e]; exact wp_s ⟨_, rfl, rfl, cS_r I, n, h⟩
  · rw [if_neg e]
    have hm : 0 < pC A := by omega
    obtain ⟨l1, l2, l3, l4⟩ := ln_b (chs := chR row) hB hm h12
    refine wp_Be h.1 (wp_B (c_load hF ho h) ?_)
    rintro J ⟨h1, h2⟩
    have hf : ∀ c, c ≠ 62 → c ≠ 63 → c ≠ 64 → c ≠ 65 → J c = I c := fun c c1 c2 c3 _ => h2 c c1 c2 c3
    have core : f_X7_leadsOf Fu J (nI r) = some (nI (fb_ct (ldP A row r) (ln (chR row) (pC A) (nB A row)))) := by
      unfold f_X7_leadsOf
      rw [c_bellOf hF ho h1 (by omega), q_B, c_len hF ho hm h1, q_B]
      apply wp_q
      unfold w_X7_leadsOf_21
      refine wp_loop (fun dd (s : Int32 × Int32 × Int32 × Int32 × Int32) => ∃ (i : Nat) (y : Int32), s = (sFi (fun j => decide (bR A row j = r)) 0 (nB A row), nI (ln (chR row) (pC A) (nB A row)), y, nI (fb_ct (ldP A row r) i), nI i) ∧ dd = ln (chR row) (pC A) (nB A row) - i ∧ i ≤ ln (chR row) (pC A) (nB A row) ∧ rp y (pr (chR row) (pC A) (nB A row) i)) _ ?_ Fu (ln (chR row) (pC A) (nB A row)) _ ⟨0, _, rfl, rfl, by omega, rp_0⟩ (by omega)
      rintro dd s self ⟨i, y, rfl, hdd, hi, g1⟩ hself
      have hg := pr_good (chs := chR row) (m := pC A) hB i
      have hct := fb_ct_le (ldP A row r) i
      show wp (b_X7_leadsOf_21 Fu J self _ _ y _ (nI i)) _
      unfold b_X7_leadsOf_21
      refine wp_i (q_le (by omega) (by omega)) (fun hle => ?_) (fun hlt => ?_)
      · have hie : i = ln (chR row) (pC A) (nB A row) := by omega
        exact wp_s (by rw [hie])
      · refine wp_Be (c_bell (q := 0) g1 hg.1 (by omega)) ?_
        have hc : (nI (pr (chR row) (pC A) (nB A row) i 0) = sFi (fun j => decide (bR A row j = r)) 0 (nB A row)) = (ldP A row r i = true) := by
          have h6 := hg.1 0 (by omega)
          unfold ldP
          rw [decide_eq_true_iff]
          apply propext
          by_cases e2 : ∃ j, j < nB A row ∧ bR A row j = r
          · obtain ⟨j, hj1, hj2⟩ := e2
            obtain ⟨j', a, b, c, d⟩ := sFi_some (p := fun j => decide (bR A row j = r)) (nB A row) 0 ⟨j, by omega, by omega, decide_eq_true hj2⟩
            rw [d, q_eq (by omega) (by omega)]
            rw [decide_eq_true_iff] at c
            constructor
            · intro e3; exact ⟨by omega, by rw [e3]; exact c⟩
            · rintro ⟨e3, e4⟩
              exact bR_inj ho (hg.2.1 0 e3) (by omega) (by rw [e4, c])
          · rw [sFi_none _ _ (fun j _ hj => decide_eq_false (fun q => e2 ⟨j, by omega, q⟩)), q_eqm1 (by omega)]
            constructor
            · exact False.elim
            · rintro ⟨e3, e4⟩
              exact e2 ⟨_, hg.2.1 0 e3, e4⟩
        refine wp_i hc (fun e2 => ?_) (fun e2 => ?_)
        · refine wp_B (c_one hF ho hm h1 g1 hg (by omega)) (fun z hz => ?_)
          exact hself (ln (chR row) (pC A) (nB A row) - (i + 1)) _ (by omega) ⟨i + 1, z, by rw [q_1, q_1, fb_ct_succ, e2, if_pos rfl], rfl, by omega, hz⟩
        · refine wp_B (c_one hF ho hm h1 g1 hg (by omega)) (fun z hz => ?_)
          exact hself (ln (chR row) (pC A) (nB A row) - (i + 1)) _ (by omega) ⟨i + 1, z, by rw [q_1, q_p0, fb_ct_succ, if_neg e2]; rfl, rfl, by omega, hz⟩
    exact wp_Be core (wp_s ⟨_, rfl, rfl, cS_r2 hf, n, cQ_r2 h hf⟩)
theorem df_1 : ∀ a, a < 6 → ∀ b, b < 6 → decide ((if 0 ≤ (nI a - nI b) then (nI a - nI b) else 0 - (nI a - nI b)) = 1) = decide (nI a - nI b = 1 ∨ nI a - nI b = -1) := by decide +kernel
theorem c_meets {Fu : Nat} {I : mIT} {R : mRT} {p n r q : Nat} {A : aPl} {row : Nat → Int32} (hF : 701 < Fu) (ho : okPl A) (hk : okR A 999 row) (h : cQ I R p A row n) (hr : r < pR A) (hq : q < pR A) : wp (f_X11_meets Fu R I (nI r) (nI q)) (cX I R p A row (if pC A = 0 ∨ r = q ∨ row (31 + r) < 0 ∨ row (31 + q) < 0 then 0 else nI (fb_ct (mtP A row r q) (ln (chR row) (pC A) (nB A row))))) := by
  have h12 := ho.2.2.2.2.1
  have h10 := ho.1
  have hB : nB A row ≤ 6 := fb_ct_le _ 6
  unfold f_X11_meets
  refine wp_X (c_root1 h.1 h.2.2.1 ho hr) (wp_X (c_root1 h.1 h.2.2.1 ho hq) (wp_Be h.1 (wp_i (by rw [h.2.2.1.2.2.2.2.2.1, q_eq0 (by omega)]) (fun e => ?_) (fun e => ?_))))
  · rw [if_pos (Or.inl e)]; exact wp_s ⟨_, rfl, rfl, cS_r I, n, h⟩
  refine wp_i (q_eq (by omega) (by omega)) (fun e2 => ?_) (fun e2 => ?_)
  · rw [if_pos (Or.inr (Or.inl e2))]; exact wp_s ⟨_, rfl, rfl, cS_r I, n, h⟩
  · have hm : 0 < pC A := by omega
    obtain ⟨l1, l2, l3, l4⟩ := ln_b (chs := chR row) hB hm h12
    refine wp_Be h.1 (wp_B (c_load hF ho h) ?_)
    rintro J ⟨h1, h2⟩
    have hf : ∀ c, c ≠ 62 → c ≠ 63 → c ≠ 64 → c ≠ 65 → J c = I c := fun c c1 c2 c3 _ => h2 c c1 c2 c3
    have nohang : ∀ r, row (31 + r) < 0 → sFi (fun j => decide (bR A row j = r)) 0 (nB A row) = -1 := fun r e3 => sFi_none _ _ (fun j _ hj => decide_eq_false (fun e4 => by
      have := bR_hang ho (show j < nB A row by omega)
      rw [e4] at this
      exact absurd this (Int32.not_le.mpr e3)))
    have hang : ∀ r, r < pR A → ¬ row (31 + r) < 0 → ∃ j, j < nB A row ∧ bR A row j = r ∧ sFi (fun j => decide (bR A row j = r)) 0 (nB A row) = nI j := fun r hr e3 => by
      obtain ⟨j, hj1, hj2⟩ := bR_of ho hk hr (Int32.not_lt.mp e3)
      obtain ⟨j', a, b, c, d⟩ := sFi_some (p := fun j => decide (bR A row j = r)) (nB A row) 0 ⟨j, by omega, by omega, decide_eq_true hj2⟩
      rw [decide_eq_true_iff] at c
      exact ⟨j', by omega, c, d⟩
    have core : f_X7_meetingsOf Fu J (nI r) (nI q) = some (if row (31 + r) < 0 ∨ row (31 + q) < 0 then 0 else nI (fb_ct (mtP A row r q) (ln (chR row) (pC A) (nB A row)))) := by
      unfold f_X7_meetingsOf
      rw [c_bellOf hF ho h1 (by omega), q_B, c_bellOf hF ho h1 (by omega), q_B]
      by_cases e3 : row (31 + r) < 0
      · rw [nohang r e3, if_pos rfl, if_pos (Or.inl e3)]
      · obtain ⟨a, a1, a2, a3⟩ := hang r hr e3
        rw [a3, if_neg (by rw [q_eqm1 (by omega)]; simp)]
        by_cases e4 : row (31 + q) < 0
        · rw [nohang q e4, if_pos rfl, if_pos (Or.inr e4)]
        · obtain ⟨b, b1', b2', b3'⟩ := hang q hq e4
          rw [b3', if_neg (by rw [q_eqm1 (by omega)]; simp), c_len hF ho hm h1, q_B, if_neg (fun w => w.elim e3 e4)]
          apply wp_q
          unfold w_X7_meetingsOf_42
          refine wp_loop (fun dd (s : Int32 × Int32 × Int32 × Int32 × Int32 × Int32) => ∃ (i : Nat) (y : Int32), s = (nI a, nI b, nI (ln (chR row) (pC A) (nB A row)), y, nI (fb_ct (mtP A row r q) i), nI i) ∧ dd = ln (chR row) (pC A) (nB A row) - i ∧ i ≤ ln (chR row) (pC A) (nB A row) ∧ rp y (pr (chR row) (pC A) (nB A row) i)) _ ?_ Fu (ln (chR row) (pC A) (nB A row)) _ ⟨0, _, rfl, rfl, by omega, rp_0⟩ (by omega)
          rintro dd s self ⟨i, y, rfl, hdd, hi, g1⟩ hself
          have hg := pr_good (chs := chR row) (m := pC A) hB i
          have hct := fb_ct_le (mtP A row r q) i
          show wp (b_X7_meetingsOf_42 Fu J self _ _ _ y _ (nI i)) _
          unfold b_X7_meetingsOf_42
          refine wp_i (q_le (by omega) (by omega)) (fun hle => ?_) (fun hlt => ?_)
          · have hie : i = ln (chR row) (pC A) (nB A row) := by omega
            exact wp_s (by rw [hie])
          · have pl : ∀ r a, a < nB A row → bR A row a = r → ∃ x, x < 6 ∧ sPl A row r i = nI x ∧ f_X7_placeIn Fu J y (nI a) = some (nI x) := fun r a ha hb => by
              have e6 : sPl A row r i = sFi (fun p => decide (pr (chR row) (pC A) (nB A row) i p = a)) 0 (nB A row) := by
                unfold sPl
                refine sFi_c (fun j _ hj => ?_)
                rw [decide_eq_decide]
                constructor
                · intro e7; exact bR_inj ho (hg.2.1 j (by omega)) ha (by rw [e7, hb])
                · intro e7; rw [e7, hb]
              have surj : ∃ j, j < nB A row ∧ pr (chR row) (pC A) (nB A row) i j = a := fb_onto (f := pr (chR row) (pC A) (nB A row) i) (fun j hj => hg.2.1 j hj) (fun x y hxy hy e7 => absurd (hg.2.2.2 x y (by omega) (by omega) e7) (by omega)) ha
              obtain ⟨j, hj1, hj2⟩ := surj
              obtain ⟨j', t1, t2, t3, t4⟩ := sFi_some (p := fun p => decide (pr (chR row) (pC A) (nB A row) i p = a)) (nB A row) 0 ⟨j, by omega, by omega, decide_eq_true hj2⟩
              exact ⟨j', by omega, by rw [e6, t4], by rw [c_placeIn hF h1 g1 hg (by omega), t4]⟩
            obtain ⟨x1, x2, x3, x4⟩ := pl r a a1 a2
            obtain ⟨z1, z2, z3, z4⟩ := pl q b b1' b2'
            refine wp_Be x4 (wp_Be z4 ?_)
            have hc : ((if 0 ≤ (nI x1 - nI z1) then (nI x1 - nI z1) else 0 - (nI x1 - nI z1)) = 1) = (mtP A row r q i = true) := by
              unfold mtP
              rw [x3, z3, ← df_1 x1 x2 z1 z2, decide_eq_true_eq]
            refine wp_i hc (fun e5 => ?_) (fun e5 => ?_)
            · refine wp_B (c_one hF ho hm h1 g1 hg (by omega)) (fun z hz => ?_)
              exact hself (ln (chR row) (pC A) (nB A row) - (i + 1)) _ (by omega) ⟨i + 1, z, by rw [q_1, q_1, fb_ct_succ, e5, if_pos rfl], rfl, by omega, hz⟩
            · refine wp_B (c_one hF ho hm h1 g1 hg (by omega)) (fun z hz => ?_)
              exact hself (ln (chR row) (pC A) (nB A row) - (i + 1)) _ (by omega) ⟨i + 1, z, by rw [q_1, q_p0, fb_ct_succ, if_neg e5]; rfl, rfl, by omega, hz⟩
    refine wp_Be core (wp_s ⟨_, rfl, ?_, cS_r2 hf, n, cQ_r2 h hf⟩)
    show (if row (31 + r) < 0 ∨ row (31 + q) < 0 then (0 : Int32) else nI (fb_ct (mtP A row r q) (ln (chR row) (pC A) (nB A row)))) = _
    by_cases e3 : row (31 + r) < 0 ∨ row (31 + q) < 0
    · rw [if_pos e3, if_pos (Or.inr (Or.inr e3))]
    · rw [if_neg e3, if_neg (fun w => w.elim e (fun w => w.elim e2 e3))]
