/-! the reference's ringing -/
def mR (J : mIT) (A : aPl) (chs : Nat → Int32) : Prop := J 75 5 = nI (pC A) ∧ ∀ j, j < pC A → J 89 (41 + j) = chs j
theorem mR_q {I : mIT} {A : aPl} {row : Nat → Int32} (h : mQ I A row) : mR I A (chR row) := ⟨h.1.2.2.2.2.1, fun _ hj => r0 h.2.1 (lv_41 hj)⟩
def plc (J : mIT) (f : Nat → Nat) : Prop := ∀ q, q < 6 → J 95 q = nI (f q)
theorem m_rounds {Fu : Nat} {I : mIT} (hF : 701 < Fu) : wp (f_X12_rounds Fu I) (fun J => plc J (fun q => q) ∧ ∀ c, c ≠ 95 → J c = I c) := by
  unfold f_X12_rounds w_X12_rounds_2
  refine wp_loop (fun dd (s : Int32 × mIT) => ∃ (i : Nat) (J : mIT), s = (nI i, J) ∧ dd = 6 - i ∧ i ≤ 6 ∧ (∀ q, q < i → J 95 q = nI q) ∧ ∀ c, c ≠ 95 → J c = I c) _ ?_ Fu 6 _ ⟨0, I, rfl, rfl, by omega, fun _ hj => absurd hj (by omega), fun _ _ => rfl⟩ (by omega)
  rintro dd s self ⟨i, J, rfl, hdd, hi, f1, f2⟩ hself
  show wp (b_X12_rounds_2 Fu self (nI i) J) _
  unfold b_X12_rounds_2
  refine wp_i (ge_6 (by omega)) (fun hle => wp_s ⟨fun q hq => f1 q (by omega), f2⟩) (fun hlt => ?_)
  simp (disch := omega) only [q_GI, q_cl, q_1]
  refine hself (6 - (i + 1)) _ (by omega) ⟨i + 1, _, rfl, rfl, by omega, fun q hq => ?_, fun c hc => by rw [mU_other hc]; exact f2 c hc⟩
  by_cases e : q = i
  · subst e; rw [q_U]
  · rw [q_Uj e]; exact f1 q (by omega)
theorem m_rings0 {Fu : Nat} {I : mIT} {n : Nat} {ch : Int32} {f : Nat → Nat} (hF : 701 < Fu) (hn : n ≤ 6) (h : plc I f) : wp (f_X12_rings0 Fu I ch (nI n)) (fun J => plc J (rgs ch f (n - 1)) ∧ ∀ c, c ≠ 95 → J c = I c) := by
  unfold f_X12_rings0 w_X12_rings0_2
  refine wp_loop (fun dd (s : Int32 × Int32 × Int32 × mIT) => ∃ (i : Nat) (J : mIT), s = (ch, nI n, nI i, J) ∧ dd = n - 1 - i ∧ i ≤ n - 1 ∧ plc J (rgs ch f i) ∧ ∀ c, c ≠ 95 → J c = I c) _ ?_ Fu (n - 1) _ ⟨0, I, rfl, rfl, by omega, h, fun _ _ => rfl⟩ (by omega)
  rintro dd s self ⟨i, J, rfl, hdd, hi, f1, f2⟩ hself
  show wp (b_X12_rings0_2 Fu self ch (nI n) (nI i) J) _
  unfold b_X12_rings0_2
  rw [q_1]
  refine wp_i (q_le (by omega) (by omega)) (fun hle => ?_) (fun hlt => ?_)
  · have hie : i = n - 1 := by omega
    subst hie
    exact wp_s ⟨f1, f2⟩
  · refine wp_i (b_at0 (by omega) _) (fun e => ?_) (fun e => ?_)
    · refine hself (n - 1 - (i + 1)) _ (by omega) ⟨i + 1, J, rfl, rfl, by omega, ?_, f2⟩
      rw [rgs, e, if_neg (by simp)]
      exact f1
    · have e' : bt ch i = true := by simpa using e
      simp (disch := omega) only [q_GI, q_cl, f1 i (by omega), f1 (i + 1) (by omega)]
      refine hself (n - 1 - (i + 1)) _ (by omega) ⟨i + 1, _, rfl, rfl, by omega, fun q hq => ?_, fun c hc => by rw [mU_other hc, mU_other hc]; exact f2 c hc⟩
      rw [rgs, if_pos e']
      by_cases e1 : q = i + 1
      · subst e1; rw [q_U, sw_r]
      · rw [q_Uj e1]
        by_cases e2 : q = i
        · subst e2; rw [q_U, sw_l]
        · rw [q_Uj e2, sw_o e2 e1]; exact f1 q hq
theorem m_rowNum {Fu : Nat} {J : mIT} {n : Nat} {f : Nat → Nat} (hF : 701 < Fu) (hn : n ≤ 6) (h : plc J f) : f_X12_rowNumber Fu J (nI n) = some (nI (dn f n)) := by
  unfold f_X12_rowNumber w_X12_rowNumber_4
  refine q_for (fun i => (nI n, nI (dn f i), nI i)) n _ ?_ ?_ Fu (by omega)
  · intro i hi self
    show b_X12_rowNumber_4 Fu J self (nI n) _ (nI i) = _
    unfold b_X12_rowNumber_4
    rw [if_neg (by rw [q_le (by omega) (by omega)]; omega), q_GI (by omega) (by omega), q_cl (by omega), h i (by omega), ml_10, nI_add, q_1]
    rfl
  · intro self
    show b_X12_rowNumber_4 Fu J self (nI n) _ (nI n) = _
    unfold b_X12_rowNumber_4
    rw [if_pos (by rw [q_le (by omega) (by omega)]; omega)]
theorem m_chAt {J : mIT} {A : aPl} {chs : Nat → Int32} {k : Nat} {α : Type} {g : Int32 → Option α} (ho : okPl A) (hm : 0 < pC A) (h : mR J A chs) (hk : k < 100000) : oG ((J 75 5) != 0) (oG (inB ((41 : Int32) + (nI k - nI k / (J 75 5) * (J 75 5))) 106) (g (J 89 (((41 : Int32) + (nI k - nI k / (J 75 5) * (J 75 5)))).toNatClampNeg))) = g (chs (k % pC A)) := by
  have h12 := ho.2.2.2.2.1
  have hmod : k % pC A < pC A := Nat.mod_lt _ hm
  have hne : (nI (pC A) != 0) = true := by rw [bne_iff_ne]; exact nI_ne0 hm (by omega)
  rw [h.1, q_G hne, pk_rem (by omega) hm (by omega), l_41, q_GI (by omega) (by omega), q_cl (by omega), h.2 _ hmod]
theorem m_ringsMany {Fu : Nat} {I : mIT} {D k : Nat} {A : aPl} {row : Nat → Int32} (hF : 2000 < Fu) (ho : okPl A) (hk : okR A D row) (h : mQ I A row) (hm : 0 < pC A) (hk2 : k < 1000) : wp (f_X12_ringsMany Fu I (nI k)) (fun y => y.1 = nI (nB A row) ∧ plc y.2 (pr (chR row) (pC A) (nB A row) k) ∧ (∀ j, j < nB A row → y.2 93 j = nI (bR A row j)) ∧ ∀ c, c ≠ 93 → c ≠ 95 → y.2 c = I c) := by
  have hB : nB A row ≤ 6 := fb_ct_le _ 6
  unfold f_X12_ringsMany
  refine wp_B (m_bells (by omega) ho hk h) ?_
  rintro ⟨v, J⟩ ⟨e1, e2, e3⟩
  dsimp only at e1 e2 e3 ⊢
  subst e1
  refine wp_B (m_rounds (by omega)) ?_
  rintro K ⟨u1, u2⟩
  have hbR : ∀ j, j < nB A row → K 93 j = nI (bR A row j) := fun j hj => by
    obtain ⟨h', t1, t2, t3, t4⟩ := bR_ex hj
    rw [u2 93 (by decide), ← t3, e3 h' t1 (uh_t.mp t2), t3, t4]
  unfold w_X12_ringsMany_11
  refine wp_loop (fun dd (s : Int32 × Int32 × Int32 × mIT) => ∃ (i : Nat) (L : mIT), s = (nI k, nI (nB A row), nI i, L) ∧ dd = k - i ∧ i ≤ k ∧ plc L (pr (chR row) (pC A) (nB A row) i) ∧ ∀ c, c ≠ 95 → L c = K c) _ ?_ Fu k _ ⟨0, K, rfl, rfl, by omega, u1, fun _ _ => rfl⟩ (by omega)
  rintro dd s self ⟨i, L, rfl, hdd, hi, g1, g2⟩ hself
  have hfr : ∀ c, c ≠ 93 → c ≠ 95 → L c = I c := fun c c1 c2 => by rw [g2 c c2, u2 c c2, e2 c c1]
  show wp (b_X12_ringsMany_11 Fu self (nI k) _ (nI i) L) _
  unfold b_X12_ringsMany_11
  refine wp_i (q_le (by omega) (by omega)) (fun hle => ?_) (fun hlt => ?_)
  · have hie : i = k := by omega
    subst hie
    exact wp_s ⟨rfl, g1, fun j hj => by show L 93 j = _; rw [g2 93 (by decide)]; exact hbR j hj, hfr⟩
  · have hmR : mR L A (chR row) := by
      have := mR_q h
      unfold mR
      rw [hfr 75 (by decide) (by decide), hfr 89 (by decide) (by decide)]
      exact this
    rw [m_chAt (g := fun x => oB (f_X12_rings0 Fu L x (nI (nB A row))) (fun r32 => self (nI k, nI (nB A row), nI i + 1, r32))) ho hm hmR (by omega)]
    refine wp_B (m_rings0 (by omega) hB g1) ?_
    rintro M ⟨t1, t2⟩
    exact hself (k - (i + 1)) _ (by omega) ⟨i + 1, M, by rw [q_1], rfl, by omega, t1, fun c hc => by rw [t2 c hc]; exact g2 c hc⟩
theorem m_lenNow {Fu : Nat} {I : mIT} {A : aPl} {chs : Nat → Int32} {n : Nat} (hF : 701 < Fu) (ho : okPl A) (hm : 0 < pC A) (hn : n ≤ 6) (h : mR I A chs) : wp (f_X12_lengthNow Fu I (nI n)) (fun y => y.1 = nI (ln chs (pC A) n) ∧ y.2 75 52 = (if tw chs (pC A) n then 1 else 0) ∧ (∀ c, c ≠ 75 → c ≠ 95 → c ≠ 96 → y.2 c = I c) ∧ ∀ j, j ≠ 52 → y.2 75 j = I 75 j) := by
  obtain ⟨l1, l2, l3, l4⟩ := ln_b (chs := chs) hn hm ho.2.2.2.2.1
  have hdb : ∀ k, dn (pr chs (pC A) n k) n < 1000000 := fun k => Nat.lt_of_lt_of_le (dn_b n (fun q hq => (pr_good (chs := chs) (m := pC A) hn k).1 q (by omega))) (Nat.pow_le_pow_right (by omega) hn)
  have dne : ∀ a b, (nI (dn (pr chs (pC A) n a) n) = nI (dn (pr chs (pC A) n b) n)) = (eqP (pr chs (pC A) n a) (pr chs (pC A) n b) = true) := fun a b => by
    have := hdb a
    have := hdb b
    rw [q_eq (by omega) (by omega), dn_e hn (pr_good hn a) (pr_good hn b)]
  unfold f_X12_lengthNow
  refine wp_B (m_rounds hF) ?_
  rintro J0 ⟨a1, a2⟩
  refine wp_Be (m_rowNum hF hn (J := mU J0 75 52 0) (f := fun q => q) (fun q hq => by rw [mU_other (by decide)]; exact a1 q hq)) ?_
  rw [q_G0 (by omega) (by omega)]
  unfold w_X12_lengthNow_27
  refine wp_loop (fun dd (s : Int32 × Int32 × Int32 × Int32 × mIT) => ∃ (k : Nat) (b : Bool) (J : mIT), s = (nI n, nI (dn (pr chs (pC A) n 0) n), nI k, (if b then 1 else 0), J) ∧ dd = (ln chs (pC A) n - k) + (if b then 1 else 0) ∧ plc J (pr chs (pC A) n k) ∧ (∀ j, j ≤ k → J 96 j = nI (dn (pr chs (pC A) n j) n)) ∧ ((b = true ∧ k < ln chs (pC A) n ∧ J 75 52 = (if (∃ x, x ≤ k ∧ dup chs (pC A) n x = true) then 1 else 0)) ∨ (b = false ∧ k = ln chs (pC A) n ∧ J 75 52 = (if tw chs (pC A) n then 1 else 0))) ∧ (∀ c, c ≠ 75 → c ≠ 95 → c ≠ 96 → J c = I c) ∧ ∀ j, j ≠ 52 → J 75 j = I 75 j) _ ?_ Fu (ln chs (pC A) n + 1) _ ⟨0, true, _, rfl, rfl, fun q hq => by rw [mU_other (by decide), mU_other (by decide)]; exact a1 q hq, fun j hj => ?_, Or.inl ⟨rfl, by omega, ?_⟩, fun c c1 c2 c3 => by rw [mU_other c3, mU_other c1]; exact a2 c c2, fun j hj => by rw [mU_other (by decide), q_Uj hj, a2 75 (by decide)]⟩ (by omega)
  · rintro dd s self ⟨k, b, J, rfl, hdd, g1, g2, g3, g4, g5⟩ hself
    show wp (b_X12_lengthNow_27 Fu self (nI n) _ (nI k) _ J) _
    unfold b_X12_lengthNow_27
    rcases g3 with ⟨rfl, g6, g7⟩ | ⟨rfl, g6, g7⟩
    · refine wp_n ne10 ?_
      have hJ : mR J A chs := by
        unfold mR
        rw [g5 5 (by decide), g4 89 (by decide) (by decide) (by decide)]
        exact h
      rw [m_chAt (g := fun x => oB (f_X12_rings0 Fu J x (nI n)) (fun r48 => oB (f_X12_rowNumber Fu r48 (nI n)) (fun r56 => if r56 = nI (dn (pr chs (pC A) n 0) n) then (w_X12_lengthNow_77 Fu self Fu (nI n) (nI (dn (pr chs (pC A) n 0) n)) (nI k + 1) 0 r56 0 r48) else (w_X12_lengthNow_77 Fu self Fu (nI n) (nI (dn (pr chs (pC A) n 0) n)) (nI k + 1) 1 r56 0 r48)))) ho hm hJ (by omega)]
      refine wp_B (m_rings0 hF hn g1) ?_
      rintro K ⟨t1, t2⟩
      have t1' : plc K (pr chs (pC A) n (k + 1)) := t1
      refine wp_Be (m_rowNum hF hn t1') ?_
      have hKf : ∀ c, c ≠ 75 → c ≠ 95 → c ≠ 96 → K c = I c := fun c c1 c2 c3 => by rw [t2 c c2]; exact g4 c c1 c2 c3
      have hK5 : ∀ j, j ≠ 52 → K 75 j = I 75 j := fun j hj => by rw [t2 75 (by decide)]; exact g5 j hj
      have hK96 : ∀ j, j ≤ k → K 96 j = nI (dn (pr chs (pC A) n j) n) := fun j hj => by rw [t2 96 (by decide)]; exact g2 j hj
      rw [q_1]
      refine wp_i (dne (k + 1) 0) (fun e => ?_) (fun e => ?_)
      · have e3 : k + 1 = ln chs (pC A) n := by
          apply Classical.byContradiction
          intro e2
          have := l4 k (by omega)
          rw [show isI (pr chs (pC A) n (k + 1)) = true from e] at this
          exact nomatch this
        have fin : wp (self (nI n, nI (dn (pr chs (pC A) n 0) n), nI (k + 1), 0, mU K 96 (k + 1) (nI (dn (pr chs (pC A) n (k + 1)) n)))) (fun y => y.1 = nI (ln chs (pC A) n) ∧ y.2 75 52 = (if tw chs (pC A) n then 1 else 0) ∧ (∀ c, c ≠ 75 → c ≠ 95 → c ≠ 96 → y.2 c = I c) ∧ ∀ j, j ≠ 52 → y.2 75 j = I 75 j) := by
          refine hself 0 _ (by rw [hdd]; simp) ⟨k + 1, false, _, rfl, by rw [← e3]; simp, fun q hq => by rw [mU_other (by decide)]; exact t1' q hq, fun j hj => ?_, Or.inr ⟨rfl, e3, ?_⟩, fun c c1 c2 c3 => by rw [mU_other c3]; exact hKf c c1 c2 c3, fun j hj => by rw [mU_other (by decide)]; exact hK5 j hj⟩
          · by_cases e5 : j = k + 1
            · subst e5; rw [q_U]
            · rw [q_Uj e5]; exact hK96 j (by omega)
          · rw [mU_other (by decide), t2 75 (by decide), g7]
            by_cases e5 : ∃ x, x ≤ k ∧ dup chs (pC A) n x = true
            · obtain ⟨x, x1, x2⟩ := e5
              rw [if_pos ⟨x, x1, x2⟩, tw_t (show x < ln chs (pC A) n by omega) x2, if_pos rfl]
            · rw [if_neg e5, tw_f (fun b hb => Bool.eq_false_iff.mpr (fun q => e5 ⟨b, by omega, q⟩)), if_neg (by simp)]
        unfold w_X12_lengthNow_77
        refine wp_loop (fun dd (s : Int32 × Int32 × Int32 × Int32 × Int32 × Int32 × mIT) => s = (nI n, nI (dn (pr chs (pC A) n 0) n), nI (k + 1), 0, nI (dn (pr chs (pC A) n (k + 1)) n), 0, K)) _ ?_ Fu 0 _ rfl (by omega)
        rintro dj s selfj rfl _
        show wp (b_X12_lengthNow_77 Fu self selfj _ _ (nI (k + 1)) 0 _ 0 K) _
        unfold b_X12_lengthNow_77
        rw [q_GI (by omega) (by omega), q_cl (by omega)]
        exact wp_f (fun _ => fin) (fun _ => wp_p rfl fin)
      · have e3 : k + 1 < ln chs (pC A) n := by
          apply Classical.byContradiction
          intro e2
          have e3 : k + 1 = ln chs (pC A) n := by omega
          rw [← e3] at l3
          exact e l3
        unfold w_X12_lengthNow_77
        refine wp_loop (fun dd (s : Int32 × Int32 × Int32 × Int32 × Int32 × Int32 × mIT) => ∃ (j : Nat) (L : mIT), s = (nI n, nI (dn (pr chs (pC A) n 0) n), nI (k + 1), 1, nI (dn (pr chs (pC A) n (k + 1)) n), nI j, L) ∧ dd = k + 1 - j ∧ j ≤ k + 1 ∧ L 75 52 = (if ((∃ x, x ≤ k ∧ dup chs (pC A) n x = true) ∨ ∃ a, a < j ∧ eqP (pr chs (pC A) n a) (pr chs (pC A) n (k + 1)) = true) then 1 else 0) ∧ (∀ c, c ≠ 75 → L c = K c) ∧ ∀ i, i ≠ 52 → L 75 i = K 75 i) _ ?_ Fu (k + 1) _ ⟨0, K, rfl, rfl, by omega, ?_, fun _ _ => rfl, fun _ _ => rfl⟩ (by omega)
        · rintro dj s selfj ⟨j, L, rfl, hdj, hj, m1, m2, m3⟩ hselfj
          show wp (b_X12_lengthNow_77 Fu self selfj _ _ (nI (k + 1)) 1 _ (nI j) L) _
          unfold b_X12_lengthNow_77
          rw [q_GI (i := k + 1) (by omega) (by omega), q_cl (n := k + 1) (by omega)]
          refine wp_i (q_le (by omega) (by omega)) (fun hle => ?_) (fun hlt => ?_)
          · have hje : j = k + 1 := by omega
            subst hje
            refine hself (ln chs (pC A) n - (k + 1) + 1) _ (by rw [hdd]; simp; omega) ⟨k + 1, true, _, rfl, rfl, fun q hq => by rw [mU_other (by decide), m2 95 (by decide)]; exact t1' q hq, fun i hi => ?_, Or.inl ⟨rfl, e3, ?_⟩, fun c c1 c2 c3 => by rw [mU_other c3, m2 c c1]; exact hKf c c1 c2 c3, fun i hi => by rw [mU_other (by decide), m3 i hi]; exact hK5 i hi⟩
            · by_cases e5 : i = k + 1
              · subst e5; rw [q_U]
              · rw [q_Uj e5, m2 96 (by decide)]; exact hK96 i (by omega)
            · rw [mU_other (by decide), m1]
              have hiff : ((∃ x, x ≤ k ∧ dup chs (pC A) n x = true) ∨ ∃ a, a < k + 1 ∧ eqP (pr chs (pC A) n a) (pr chs (pC A) n (k + 1)) = true) ↔ ∃ x, x ≤ k + 1 ∧ dup chs (pC A) n x = true := by
                constructor
                · rintro (⟨x, x1, x2⟩ | ⟨a, x1, x2⟩)
                  · exact ⟨x, by omega, x2⟩
                  · exact ⟨k + 1, by omega, decide_eq_true ⟨a, x1, x2⟩⟩
                · rintro ⟨x, x1, x2⟩
                  by_cases e5 : x = k + 1
                  · subst e5; right; exact of_decide_eq_true x2
                  · left; exact ⟨x, by omega, x2⟩
              by_cases e5 : ∃ x, x ≤ k + 1 ∧ dup chs (pC A) n x = true
              · rw [if_pos (hiff.mpr e5), if_pos e5]
              · rw [if_neg (fun q => e5 (hiff.mp q)), if_neg e5]
          · refine wp_n ne10 ?_
            have nx : ∀ z, z = (if ((∃ x, x ≤ k ∧ dup chs (pC A) n x = true) ∨ ∃ a, a < j + 1 ∧ eqP (pr chs (pC A) n a) (pr chs (pC A) n (k + 1)) = true) then (1 : Int32) else 0) → wp (selfj (nI n, nI (dn (pr chs (pC A) n 0) n), nI (k + 1), 1, nI (dn (pr chs (pC A) n (k + 1)) n), nI j + 1, mU L 75 52 z)) (fun y => y.1 = nI (ln chs (pC A) n) ∧ y.2 75 52 = (if tw chs (pC A) n then 1 else 0) ∧ (∀ c, c ≠ 75 → c ≠ 95 → c ≠ 96 → y.2 c = I c) ∧ ∀ j, j ≠ 52 → y.2 75 j = I 75 j) := fun z hz => hselfj (k + 1 - (j + 1)) _ (by omega) ⟨j + 1, _, by rw [q_1], rfl, by omega, by rw [q_U, hz], fun c hc => by rw [mU_other hc]; exact m2 c hc, fun i hi => by rw [q_Uj hi]; exact m3 i hi⟩
            by_cases e5 : (∃ x, x ≤ k ∧ dup chs (pC A) n x = true) ∨ ∃ a, a < j ∧ eqP (pr chs (pC A) n a) (pr chs (pC A) n (k + 1)) = true
            · rw [if_pos e5] at m1
              refine wp_n (by rw [m1]; decide) (nx _ ?_)
              rw [if_pos]
              rcases e5 with q | ⟨a, q1, q2⟩
              · exact Or.inl q
              · exact Or.inr ⟨a, by omega, q2⟩
            · rw [if_neg e5] at m1
              refine wp_p m1 ?_
              rw [q_GI (i := j) (by omega) (by omega), q_cl (n := j) (by omega), m2 96 (by decide), hK96 j (by omega)]
              refine wp_i (dne j (k + 1)) (fun e6 => nx _ ?_) (fun e6 => nx _ ?_)
              · rw [if_pos (Or.inr ⟨j, by omega, e6⟩)]
              · rw [if_neg]
                rintro (q | ⟨a, q1, q2⟩)
                · exact e5 (Or.inl q)
                · by_cases e7 : a = j
                  · subst e7; exact e6 q2
                  · exact e5 (Or.inr ⟨a, by omega, q2⟩)
        · rw [t2 75 (by decide), g7]
          by_cases e5 : ∃ x, x ≤ k ∧ dup chs (pC A) n x = true
          · rw [if_pos e5, if_pos (Or.inl e5)]
          · rw [if_neg e5, if_neg (fun q => q.elim e5 (fun ⟨a, q1, _⟩ => absurd q1 (by omega)))]
    · refine wp_p rfl (wp_s ⟨by rw [g6], g7, g4, g5⟩)
  · have hj0 : j = 0 := by omega
    subst hj0
    show (mU _ 96 0 _) 96 0 = _
    rw [q_U]
    rfl
  · rw [mU_other (by decide), q_U, if_neg]
    rintro ⟨x, x1, x2⟩
    have : x = 0 := by omega
    subst this
    unfold dup at x2
    rw [decide_eq_true_iff] at x2
    obtain ⟨a, ha, _⟩ := x2
    omega
