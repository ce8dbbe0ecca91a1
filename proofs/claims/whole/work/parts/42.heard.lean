/-! what is heard: days, notes, whether it sounds -/
abbrev hLs : Type := List (Nat × Nat × Int32)
def okH (hl : hLs) : Prop := hl.length ≤ 8 ∧ ∀ i, i < hl.length → (hl.getD i (0, 0, 0)).1 ≤ 30 ∧ (hl.getD i (0, 0, 0)).2.1 ≤ 15
def cH (I : mIT) (k : Nat) (hl : hLs) : Prop := I k 3 = nI hl.length ∧ ∀ i, i < hl.length → I (k + 1) i = nI (hl.getD i (0, 0, 0)).1 ∧ I (k + 2) i = nI (hl.getD i (0, 0, 0)).2.1 ∧ I (k + 3) i = (hl.getD i (0, 0, 0)).2.2
def mH (I : mIT) (f c : Nat) (hl : hLs) : Prop := I 75 f = nI hl.length ∧ ∀ i, i < hl.length → I c (3 * i) = nI (hl.getD i (0, 0, 0)).1 ∧ I c (3 * i + 1) = nI (hl.getD i (0, 0, 0)).2.1 ∧ I c (3 * i + 2) = (hl.getD i (0, 0, 0)).2.2
/-- all of it is so, those sounding given by the day -/
def hOk (A : aPl) (row : Nat → Int32) (hl : hLs) (pp : Nat → Nat → Bool) : Bool := decide (∀ i, i < hl.length → ((sNB A (sDs A row (hl.getD i (0, 0, 0)).1) (pp (hl.getD i (0, 0, 0)).1) >>> (nI (hl.getD i (0, 0, 0)).2.1 &&& 31)) &&& 1) = (hl.getD i (0, 0, 0)).2.2)
theorem c_agrees {Fu : Nat} {I : mIT} {A : aPl} {row : Nat → Int32} {n : Nat} {hl : hLs} {v3 v4 : Int32} {pp : Nat → Nat → Bool} (hF : 701 < Fu) (ho : okPl A) (h : laid I A row n) (hn : 30 < n) (hn2 : n ≤ 61) (hh : cH I 44 hl) (hok : okH hl) (hp : ∀ k, k ≤ 30 → ∀ r, pR A ≤ r → pp k r = false) (hv : ∀ k, k ≤ 30 → (if nI k < v4 then mkB (sSd A (sDs A row k)) 10 else mkB (sSd A (sDs A row k)) 10 &&& (v3 ^^^ (-1))) = mkB (pp k) 10) : f_X3_agrees Fu I 44 v3 v4 = some (if hOk A row hl pp then 1 else 0) := by
  have hl8 := hok.1
  have key : f_X3_agrees Fu I 44 v3 v4 = some (sFd (fun i => if ((sNB A (sDs A row (hl.getD i (0, 0, 0)).1) (pp (hl.getD i (0, 0, 0)).1) >>> (nI (hl.getD i (0, 0, 0)).2.1 &&& 31)) &&& 1) = (hl.getD i (0, 0, 0)).2.2 then none else some (0 : Int32)) 1 0 hl.length) := by
    unfold f_X3_agrees
    rw [show f_X4_many Fu I 44 = some (I 44 3) from rfl, q_B, hh.1]
    unfold w_X3_agrees_9
    refine q_find (fun i => (v3, v4, nI hl.length, nI i)) hl.length 1 _ ?_ ?_ Fu (by omega)
    · intro i hi self
      show b_X3_agrees_9 Fu I 44 self v3 v4 (nI hl.length) (nI i) = _
      obtain ⟨d1, d2, d3⟩ := hh.2 i hi
      obtain ⟨o1, o2⟩ := hok.2 i hi
      have e50 : ∀ s0, s0 = mkB (pp (hl.getD i (0, 0, 0)).1) 10 → b_X3_agrees_50 Fu I 44 self v3 v4 (nI hl.length) (nI i) (nI (hl.getD i (0, 0, 0)).1) s0 = if ((sNB A (sDs A row (hl.getD i (0, 0, 0)).1) (pp (hl.getD i (0, 0, 0)).1) >>> (nI (hl.getD i (0, 0, 0)).2.1 &&& 31)) &&& 1) = (hl.getD i (0, 0, 0)).2.2 then self (v3, v4, nI hl.length, nI (i + 1)) else some 0 := by
        rintro s0 rfl
        unfold b_X3_agrees_50
        rw [c_bits hF ho.1 h (by omega) hn2 (hp _ o1), q_B]
        unfold f_X4_isSo
        simp (disch := omega) only [q_lt0, q_le, if_false, q_GI, q_cl, d2, d3, q_1]
        rw [if_neg (by omega), if_neg (by omega)]
        by_cases e : ((sNB A (sDs A row (hl.getD i (0, 0, 0)).1) (pp (hl.getD i (0, 0, 0)).1) >>> (nI (hl.getD i (0, 0, 0)).2.1 &&& 31)) &&& 1) = (hl.getD i (0, 0, 0)).2.2
        · rw [if_pos e, if_pos e, q_B, if_neg (by decide)]
        · rw [if_neg e, if_neg e, q_B, if_pos rfl]
      unfold b_X3_agrees_9 f_X4_dayOf
      rw [if_neg (by rw [q_le (by omega) (by omega)]; omega)]
      simp (disch := omega) only [q_lt0, if_false, q_GI, q_cl, d1]
      rw [if_neg (by rw [q_le (by omega) (by omega)]; omega), q_B, c_sndOn (by omega), q_B, (h _ (by omega)).2.1]
      have hvk := hv _ o1
      by_cases e : nI (hl.getD i (0, 0, 0)).1 < v4
      · rw [if_pos e] at hvk ⊢
        rw [e50 _ hvk]
        split <;> rfl
      · rw [if_neg e] at hvk ⊢
        rw [e50 _ hvk]
        split <;> rfl
    · intro self
      show b_X3_agrees_9 Fu I 44 self v3 v4 (nI hl.length) (nI hl.length) = _
      unfold b_X3_agrees_9
      rw [if_pos (by rw [q_le (by omega) (by omega)]; omega)]
  rw [key, sFd_all]
  unfold hOk
  congr 1
  by_cases e : ∀ i, i < hl.length → ((sNB A (sDs A row (hl.getD i (0, 0, 0)).1) (pp (hl.getD i (0, 0, 0)).1) >>> (nI (hl.getD i (0, 0, 0)).2.1 &&& 31)) &&& 1) = (hl.getD i (0, 0, 0)).2.2
  · rw [if_pos (fun j hj => by rw [Nat.zero_add]; exact e j hj), decide_eq_true e, if_pos rfl]
  · rw [if_neg (fun h3 => e (fun j hj => by have := h3 j hj; rwa [Nat.zero_add] at this)), decide_eq_false e, if_neg (by simp)]
/-- those sounding if a root is eaten on a day -/
def ppE (A : aPl) (row : Nat → Int32) (r d k q : Nat) : Bool := sSd A (sDs A row k) q && !(decide (d ≤ k) && decide (q = r))
theorem ppE_o {A : aPl} {row : Nat → Int32} {r d k : Nat} : ∀ q, pR A ≤ q → ppE A row r d k q = false := fun q hq => by unfold ppE; rw [sSd_o q hq]; rfl
theorem c_agE {Fu : Nat} {I : mIT} {A : aPl} {row : Nat → Int32} {n r d : Nat} {hl : hLs} (hF : 701 < Fu) (ho : okPl A) (h : laid I A row n) (hn : 30 < n) (hn2 : n ≤ 61) (hh : cH I 44 hl) (hok : okH hl) (hr : r < 10) (hd : d < 10) : f_X3_agrees Fu I 44 (b1 r) (nI d) = some (if hOk A row hl (ppE A row r d) then 1 else 0) := by
  refine c_agrees hF ho h hn hn2 hh hok (fun k _ => ppE_o) (fun k hk => ?_)
  by_cases e : k < d
  · rw [if_pos (by rw [q_lt (by omega) (by omega)]; exact e)]
    refine mkB_c (fun q _ => ?_)
    unfold ppE
    rw [decide_eq_false (by omega : ¬ d ≤ k), Bool.false_and, Bool.not_false, Bool.and_true]
  · rw [if_neg (by rw [q_lt (by omega) (by omega)]; exact e), mkB_out (by omega) (by omega)]
    refine mkB_c (fun q _ => ?_)
    unfold ppE
    rw [decide_eq_true (by omega : d ≤ k), Bool.true_and]
theorem c_ag0 {Fu : Nat} {I : mIT} {A : aPl} {row : Nat → Int32} {n : Nat} {hl : hLs} (hF : 701 < Fu) (ho : okPl A) (h : laid I A row n) (hn : 30 < n) (hn2 : n ≤ 61) (hh : cH I 44 hl) (hok : okH hl) : f_X3_agrees Fu I 44 0 0 = some (if hOk A row hl (fun k => sSd A (sDs A row k)) then 1 else 0) := by
  refine c_agrees hF ho h hn hn2 hh hok (fun k _ => sSd_o) (fun k hk => ?_)
  rw [if_neg (by rw [show (0 : Int32) = nI 0 from rfl, q_lt (by omega) (by omega)]; omega)]
  apply b_ext
  intro i hi
  rw [b_and, b_xm1 _ hi, b_0, Bool.not_false, Bool.and_true]
/-! the reference's way: all the days again for each -/
theorem m_h33 {Fu : Nat} {J I : mIT} {k D : Nat} {A : aPl} {row0 row : Nat → Int32} {v1 v2 : Int32} {self : Int32 × Int32 × Int32 × mIT → Option (Int32 × mIT)} {Q : Int32 × mIT → Prop} (hF : 701 < Fu) (ho : okPl A) (h : mQ I A row0) (hS : mS I J) (hr : rI A J 89 53 row) (hk : okR A D row) (hD : D < 2000) (hk30 : k ≤ 30) (hself : ∀ K, mS I K → rI A K 89 53 (sNx A row) → K 100 k = sNB A row (sSd A row) → (∀ j, j ≠ k → K 100 j = J 100 j) → K 101 = J 101 → wp (self (v1, v2, nI (k + 1), K)) Q) : wp (b_X12_isHeard_33 Fu self v1 v2 (nI k) J) Q := by
  have hJ := mQ_s ho h hS
  unfold b_X12_isHeard_33
  refine wp_B (m_notesIn (b := 53) hF hJ.1 ho hJ.2.2 (by omega) hr hk hD) ?_
  rintro ⟨v, K⟩ ⟨e1, e2⟩
  dsimp only at e1 e2 ⊢
  simp (disch := omega) only [q_GI, q_cl, q_1]
  have hS2 : mS I (mU K 100 k v) := mS_u (mS_t hS (mS_n e2)) rfl
  have hK := mQ_s ho h hS2
  obtain ⟨d, hd, hdD⟩ := hk.1
  have hr2 : rI A (mU K 100 k v) 89 53 row := fun j hj => by rw [mU_other (by decide), e2 89 (by decide) (by decide)]; exact hr j hj
  obtain ⟨J1, t1, t2, t3⟩ := m_day hF ho hK hr2 hk hD
  obtain ⟨J2, t4, t5, t6, t7⟩ := m_dayGoes (b := 53) (w := sWe A d) hF hK.1 ho (by omega) hr2 hk hd (by omega) (Or.inl ⟨hK.2.2, rfl⟩) (sWe_n ho d)
  have t4' : f_X12_dayGoes Fu (mU K 100 k v) 53 = some J2 := t4
  rw [t4'] at t1
  cases t1
  refine wp_Be t4' (hself J1 (mS_t hS2 t2) t3 ?_ (fun j hj => ?_) ?_)
  · rw [t6 100 (by decide) (by decide) (by decide), q_U, e1]
  · rw [t6 100 (by decide) (by decide) (by decide), q_Uj hj, e2 100 (by decide) (by decide)]
  · rw [t6 101 (by decide) (by decide) (by decide), mU_other (by decide), e2 101 (by decide) (by decide)]
theorem m_h59 {Fu : Nat} {J : mIT} {A : aPl} {row : Nat → Int32} {hl : hLs} {pp : Nat → Nat → Bool} (hF : 701 < Fu) (hh : mH J 55 99 hl) (hok : okH hl) (h1 : ∀ k, k ≤ 30 → J 100 k = sNB A (sDs A row k) (pp k)) : w_X12_isHeard_59 Fu Fu 0 J = some ((if hOk A row hl pp then 1 else 0), J) := by
  have hl8 := hok.1
  apply wp_q
  unfold w_X12_isHeard_59
  refine wp_loop (fun dd (s : Int32 × mIT) => ∃ (i : Nat), s = (nI i, J) ∧ dd = hl.length - i ∧ i ≤ hl.length ∧ ∀ j, j < i → ((sNB A (sDs A row (hl.getD j (0, 0, 0)).1) (pp (hl.getD j (0, 0, 0)).1) >>> (nI (hl.getD j (0, 0, 0)).2.1 &&& 31)) &&& 1) = (hl.getD j (0, 0, 0)).2.2) _ ?_ Fu hl.length _ ⟨0, rfl, rfl, by omega, fun _ hj => absurd hj (by omega)⟩ (by omega)
  rintro dd s self ⟨i, rfl, hdd, hi, f1⟩ hself
  show wp (b_X12_isHeard_59 Fu self (nI i) J) _
  unfold b_X12_isHeard_59
  refine wp_i (by rw [hh.1, q_le (by omega) (by omega)]) (fun hle => ?_) (fun hlt => ?_)
  · have hie : i = hl.length := by omega
    subst hie
    refine wp_s ?_
    unfold hOk
    rw [decide_eq_true f1, if_pos rfl]
  · have hi2 : i < hl.length := by omega
    obtain ⟨d1, d2, d3⟩ := hh.2 i hi2
    obtain ⟨o1, o2⟩ := hok.2 i hi2
    simp (disch := omega) only [ml_3, a_1, a_2, q_GI, q_cl, d1, d2, d3, h1 _ o1, q_1]
    refine wp_f (fun e => ?_) (fun e => ?_)
    · refine hself (hl.length - (i + 1)) _ (by omega) ⟨i + 1, rfl, rfl, by omega, fun j hj => ?_⟩
      by_cases e2 : j = i
      · subst e2; exact e
      · exact f1 j (by omega)
    · refine wp_s ?_
      unfold hOk
      rw [decide_eq_false (fun q => e (q i hi2)), if_neg (by simp)]
theorem mH_s {I J : mIT} {hl : hLs} (h : mH I 55 99 hl) (f : mS I J) : mH J 55 99 hl := by
  unfold mH
  rw [f 75 55 rfl]
  refine ⟨h.1, fun i hi => ?_⟩
  rw [f 99 _ rfl, f 99 _ rfl, f 99 _ rfl]
  exact h.2 i hi
theorem m_heard0 {Fu : Nat} {I : mIT} {A : aPl} {row : Nat → Int32} {hl : hLs} (hF : 701 < Fu) (ho : okPl A) (hk : okR A 999 row) (h : mQ I A row) (hh : mH I 55 99 hl) (hok : okH hl) : wp (f_X12_isHeard Fu I (-1) 0) (fun y => y.1 = (if hOk A row hl (fun k => sSd A (sDs A row k)) then 1 else 0) ∧ mS I y.2) := by
  unfold f_X12_isHeard
  refine wp_B (m_tries hF ho h) ?_
  rintro I1 ⟨h1, h2⟩
  unfold w_X12_isHeard_6
  refine wp_loop (fun dd (s : Int32 × Int32 × Int32 × mIT) => ∃ (i : Nat) (J : mIT), s = (-1, 0, nI i, J) ∧ dd = 31 - i ∧ i ≤ 31 ∧ mS I J ∧ rI A J 89 53 (sDs A row i) ∧ ∀ k, k < i → J 100 k = sNB A (sDs A row k) (sSd A (sDs A row k))) _ ?_ Fu 31 _ ⟨0, I1, rfl, rfl, by omega, h1, h2, fun _ hj => absurd hj (by omega)⟩ (by omega)
  rintro dd s self ⟨i, J, rfl, hdd, hi, f1, f2, f3⟩ hself
  show wp (b_X12_isHeard_6 Fu self (-1) 0 (nI i) J) _
  unfold b_X12_isHeard_6
  refine wp_i (gt_30 (by omega)) (fun hle => ?_) (fun hlt => ?_)
  · exact wp_e (m_h59 (pp := fun k => sSd A (sDs A row k)) hF (mH_s hh f1) hok (fun k hk1 => f3 k (by omega))) ⟨rfl, f1⟩
  · refine wp_p rfl (m_h33 hF ho h f1 f2 (okR_ds ho hk i) (by omega) (by omega) (fun K k1 k2 k3 k4 k5 => ?_))
    refine hself (31 - (i + 1)) _ (by omega) ⟨i + 1, K, rfl, rfl, by omega, k1, k2, fun k hk2 => ?_⟩
    by_cases e : k = i
    · subst e; exact k3
    · rw [k4 k e]; exact f3 k (by omega)
theorem m_heardE {Fu : Nat} {I : mIT} {r d : Nat} {A : aPl} {row : Nat → Int32} {hl : hLs} (hF : 701 < Fu) (ho : okPl A) (hk : okR A 999 row) (h : mQ I A row) (hh : mH I 55 99 hl) (hok : okH hl) (hr : r < pR A) (hd : d < 10) : wp (f_X12_isHeard Fu I (nI r) (nI d)) (fun y => y.1 = (if hOk A row hl (ppE A row r d) then 1 else 0) ∧ mS I y.2 ∧ y.2 101 = I 101 ∧ ∀ k, k ≤ 30 → y.2 100 k = sNB A (sDs A row k) (ppE A row r d k)) := by
  have h10 := ho.1
  unfold f_X12_isHeard
  obtain ⟨I1, t1, h1, h2⟩ := m_tries (Fu := Fu) hF ho h
  obtain ⟨I1', t2, t3⟩ := m_triesF (Fu := Fu) (I := I) hF
  rw [t2] at t1
  cases t1
  refine wp_Be t2 ?_
  unfold w_X12_isHeard_6
  refine wp_loop (fun dd (s : Int32 × Int32 × Int32 × mIT) => ∃ (i : Nat) (J : mIT) (row' : Nat → Int32), s = (nI r, nI d, nI i, J) ∧ dd = 31 - i ∧ i ≤ 31 ∧ mS I J ∧ rI A J 89 53 row' ∧ okR A (999 + i) row' ∧ J 101 = I 101 ∧ ((i ≤ d ∧ row' = sDs A row i) ∨ (d < i ∧ eO A r (sDs A row i) row')) ∧ ∀ k, k < i → J 100 k = sNB A (sDs A row k) (ppE A row r d k)) _ ?_ Fu 31 _ ⟨0, I1, row, rfl, rfl, by omega, h1, h2, hk, t3 101 (by decide), Or.inl ⟨by omega, rfl⟩, fun _ hj => absurd hj (by omega)⟩ (by omega)
  rintro dd s self ⟨i, J, row', rfl, hdd, hi, f1, f2, f3, f101, f4, f5⟩ hself
  show wp (b_X12_isHeard_6 Fu self (nI r) (nI d) (nI i) J) _
  unfold b_X12_isHeard_6
  refine wp_i (gt_30 (by omega)) (fun hle => ?_) (fun hlt => ?_)
  · exact wp_e (m_h59 (pp := ppE A row r d) hF (mH_s hh f1) hok (fun k hk1 => f5 k (by omega))) ⟨rfl, f1, f101, fun k hk1 => f5 k (by omega)⟩
  · refine wp_n (by rw [q_eqm1 (by omega)]; simp) ?_
    refine wp_i (q_eq (by omega) (by omega)) (fun e => ?_) (fun e => ?_)
    · subst e
      have hrow : row' = sDs A row i := by
        rcases f4 with ⟨_, e⟩ | ⟨e, _⟩
        · exact e
        · omega
      subst hrow
      rw [show (84 : Int32) + nI r = nI (84 + r) from nI_add 84 r]
      simp (disch := omega) only [q_GI, q_cl]
      have hr2 : rI A (mU J 89 (84 + r) (-2)) 89 53 (upE (sDs A row i) r) := by
        have := rI_up (i := 31 + r) (row' := upE (sDs A row i) r) f2 (if_pos rfl) (fun j hj => if_neg hj)
        rwa [show 53 + (31 + r) = 84 + r by omega] at this
      have hok2 := upE_ok ho f3 hr
      have heO := upE_eO (row := sDs A row i) ho hr
      refine m_h33 hF ho h (mS_u f1 (kM_hi (by omega))) hr2 hok2 (by omega) (by omega) (fun K k1 k2 k3 k4 k5 => ?_)
      refine hself (31 - (i + 1)) _ (by omega) ⟨i + 1, K, _, rfl, rfl, by omega, k1, k2, okR_nx ho hok2, by rw [k5, mU_other (by decide), f101], Or.inr ⟨by omega, eO_nx ho heO⟩, fun k hk2 => ?_⟩
      by_cases e : k = i
      · subst e
        rw [k3, eO_nb heO]
        congr 1
        funext q
        unfold ppE
        rw [decide_eq_true (Nat.le_refl k), Bool.true_and]
      · rw [k4 k e, mU_other (by decide)]; exact f5 k (by omega)
    · refine m_h33 hF ho h f1 f2 f3 (by omega) (by omega) (fun K k1 k2 k3 k4 k5 => ?_)
      refine hself (31 - (i + 1)) _ (by omega) ⟨i + 1, K, _, rfl, rfl, by omega, k1, k2, okR_nx ho f3, by rw [k5, f101], ?_, fun k hk2 => ?_⟩
      · rcases f4 with ⟨e1, e2⟩ | ⟨e1, e2⟩
        · left; exact ⟨by omega, by rw [e2]; rfl⟩
        · right; exact ⟨by omega, eO_nx ho e2⟩
      · by_cases e2 : k = i
        · subst e2
          rw [k3]
          rcases f4 with ⟨e1, e3⟩ | ⟨e1, e3⟩
          · subst e3
            congr 1
            funext q
            unfold ppE
            rw [decide_eq_false (by omega : ¬ d ≤ k), Bool.false_and, Bool.not_false, Bool.and_true]
          · rw [eO_nb e3]
            congr 1
            funext q
            unfold ppE
            rw [decide_eq_true (by omega : d ≤ k), Bool.true_and]
        · rw [k4 k e2]; exact f5 k (by omega)
/-- which guesses, 10 by the root and the day, are so -/
def eP (A : aPl) (row : Nat → Int32) (hl : hLs) (g : Nat) : Bool := decide (g / 10 < pR A) && (decide (row (31 + g / 10) ≠ -2) && hOk A row hl (ppE A row (g / 10) (g % 10)))
theorem m_isGuess {Fu : Nat} {I : mIT} {g : Nat} {A : aPl} {row : Nat → Int32} {hl : hLs} (hF : 701 < Fu) (ho : okPl A) (hk : okR A 999 row) (h : mQ I A row) (hh : mH I 55 99 hl) (hok : okH hl) (hg : g < 10 * pR A) : wp (f_X12_isGuess Fu I (nI g)) (fun y => y.1 = (if eP A row hl g then 1 else 0) ∧ mS I y.2 ∧ y.2 101 = I 101 ∧ (eP A row hl g = true → ∀ k, k ≤ 30 → y.2 100 k = sNB A (sDs A row k) (ppE A row (g / 10) (g % 10) k))) := by
  have h10 := ho.1
  have hr : g / 10 < pR A := by omega
  unfold f_X12_isGuess
  rw [show nI g / 10 = nI (g / 10) from pk_div (d := 10) (by omega) (by omega) (by omega), show nI g - nI (g / 10) * 10 = nI (g % 10) by rw [← show nI g / 10 = nI (g / 10) from pk_div (d := 10) (by omega) (by omega) (by omega)]; exact pk_rem (d := 10) (by omega) (by omega) (by omega)]
  simp (disch := omega) only [l_31, q_GI, q_cl, r0 h.2.1 (lv_31 hr)]
  have eu : eP A row hl g = (decide (row (31 + g / 10) ≠ -2) && hOk A row hl (ppE A row (g / 10) (g % 10))) := by unfold eP; rw [decide_eq_true hr, Bool.true_and]
  refine wp_f (fun e => ?_) (fun e => ?_)
  · have e2 : eP A row hl g = false := by rw [eu, decide_eq_false (fun q => q e), Bool.false_and]
    rw [e2]
    exact wp_s ⟨rfl, mS_r I, rfl, fun q => nomatch q⟩
  · refine wp_B (m_heardE hF ho hk h hh hok hr (Nat.mod_lt _ (by omega))) ?_
    rintro ⟨v, K⟩ ⟨u1, u2, u3, u4⟩
    dsimp only at u1 u2 u3 u4 ⊢
    have e2 : eP A row hl g = hOk A row hl (ppE A row (g / 10) (g % 10)) := by rw [eu, decide_eq_true (show row (31 + g / 10) ≠ -2 from e), Bool.true_and]
    rw [e2]
    subst u1
    by_cases e3 : hOk A row hl (ppE A row (g / 10) (g % 10)) = true
    · rw [if_pos e3]; exact wp_n (by decide) (wp_s ⟨rfl, u2, u3, fun _ => u4⟩)
    · rw [if_neg e3]; exact wp_p rfl (wp_s ⟨rfl, u2, u3, fun q => absurd q e3⟩)
/-- how many, the first -/
def eG (P : Nat → Bool) : Nat → Nat × Int32
  | 0 => (0, -1)
  | k + 1 => if P k then ((eG P k).1 + 1, if (eG P k).1 = 0 then nI k else (eG P k).2) else eG P k
theorem eG_s {P : Nat → Bool} (k : Nat) : eG P (k + 1) = if P k then ((eG P k).1 + 1, if (eG P k).1 = 0 then nI k else (eG P k).2) else eG P k := rfl
theorem eG_n {P : Nat → Bool} {k : Nat} (h : P k = false) : eG P (k + 1) = eG P k := by rw [eG_s, h, if_neg (by simp)]
theorem eG_b {P : Nat → Bool} : ∀ k, k ≤ 100 → (eG P k).1 ≤ k ∧ (((eG P k).2 = -1) = ((eG P k).1 = 0))
  | 0, _ => ⟨Nat.le_refl _, by simp [eG]⟩
  | k + 1, h => by
    have ih := eG_b (P := P) k (by omega)
    by_cases e : P k = true
    · rw [eG_s, if_pos e]
      refine ⟨by dsimp only; omega, ?_⟩
      dsimp only
      have e3 : ((eG P k).1 + 1 = 0) = False := by simp
      rw [e3]
      by_cases e2 : (eG P k).1 = 0
      · rw [if_pos e2, q_eqm1 (by omega)]
      · rw [if_neg e2, ih.2]
        exact eq_false e2
    · rw [eG_s, if_neg e]
      exact ⟨by omega, ih.2⟩
theorem eG_up {P : Nat → Bool} {m : Nat} : ∀ n, (∀ k, m ≤ k → k < m + n → P k = false) → eG P (m + n) = eG P m
  | 0, _ => rfl
  | n + 1, h => by rw [← Nat.add_assoc, eG_n (h (m + n) (by omega) (by omega))]; exact eG_up n (fun k h1 h2 => h k h1 (by omega))
def sEa (A : aPl) (row : Nat → Int32) (hl : hLs) (w : Nat) : Int32 := if w = 2 then (if hOk A row hl (fun k => sSd A (sDs A row k)) then 1 else 0) else if w = 0 then nI (eG (eP A row hl) (10 * pR A)).1 else (eG (eP A row hl) (10 * pR A)).2
theorem m_eaten {Fu : Nat} {I : mIT} {w : Nat} {A : aPl} {row : Nat → Int32} {hl : hLs} (hF : 701 < Fu) (ho : okPl A) (hk : okR A 999 row) (h : mQ I A row) (hh : mH I 55 99 hl) (hok : okH hl) (hw : w < 3) : wp (f_X12_eaten Fu I (nI w)) (fun y => y.1 = sEa A row hl w ∧ mS (mU I 75 0 0) y.2) := by
  have h0 := mQ_0 (v := 0) h
  have h10 := ho.1
  have hh0 : mH (mU I 75 0 0) 55 99 hl := by
    unfold mH
    rw [q_Uj (by decide), mU_other (by decide)]
    exact hh
  unfold f_X12_eaten
  refine wp_Be (m_what1 (m := 2) (q_U0 I) hw (by omega)) (wp_n ne10 ?_)
  unfold sEa
  refine wp_i (eq_2 (by omega)) (fun e => ?_) (fun e => ?_)
  · rw [if_pos e]
    refine wp_B (m_heard0 hF ho hk h0 hh0 hok) ?_
    rintro ⟨v, K⟩ ⟨u1, u2⟩
    dsimp only at u1 u2 ⊢
    subst u1
    by_cases e3 : hOk A row hl (fun k => sSd A (sDs A row k)) = true
    · rw [if_pos e3]; exact wp_n (by decide) (wp_s ⟨rfl, u2⟩)
    · rw [if_neg e3]; exact wp_p rfl (wp_s ⟨rfl, u2⟩)
  · rw [if_neg e]
    generalize hP : eP A row hl = P
    unfold w_X12_eaten_43
    refine wp_loop (fun dd (s : Int32 × Int32 × Int32 × Int32 × mIT) => ∃ (g : Nat) (J : mIT), s = (nI w, nI (eG P g).1, (eG P g).2, nI g, J) ∧ dd = 10 * pR A - g ∧ g ≤ 10 * pR A ∧ mS (mU I 75 0 0) J) _ ?_ Fu (10 * pR A) _ ⟨0, _, rfl, rfl, by omega, mS_r _⟩ (by omega)
    rintro dd s self ⟨g, J, rfl, hdd, hg, f1⟩ hself
    have hJ := mQ_s ho h0 f1
    show wp (b_X12_eaten_43 Fu self _ _ _ (nI g) J) _
    unfold b_X12_eaten_43
    refine wp_i (by rw [hJ.1.1, ml_10, q_le (by omega) (by omega)]) (fun hle => ?_) (fun hlt => ?_)
    · have hge : g = 10 * pR A := by omega
      subst hge
      refine wp_i (q_eq0 (by omega)) (fun e => ?_) (fun e => ?_)
      · rw [if_pos e]; exact wp_s ⟨rfl, f1⟩
      · rw [if_neg e]; exact wp_s ⟨rfl, f1⟩
    · refine wp_B (m_isGuess hF ho hk hJ (mH_s hh0 f1) hok (by omega)) ?_
      rintro ⟨v, K⟩ ⟨u1, u2, u3, u4⟩
      dsimp only at u1 u2 ⊢
      rw [hP] at u1
      subst u1
      have hb := eG_b (P := P) g (by omega)
      have es := eG_s (P := P) g
      by_cases e3 : P g = true
      · rw [if_pos e3] at es
        rw [if_pos e3]
        refine wp_n (by decide) ?_
        refine wp_i hb.2 (fun e7 => ?_) (fun e7 => ?_)
        · rw [if_pos e7] at es
          exact hself (10 * pR A - (g + 1)) _ (by omega) ⟨g + 1, K, by rw [q_1, q_1, es], rfl, by omega, mS_t f1 u2⟩
        · rw [if_neg e7] at es
          exact hself (10 * pR A - (g + 1)) _ (by omega) ⟨g + 1, K, by rw [q_1, q_1, es], rfl, by omega, mS_t f1 u2⟩
      · rw [if_neg e3] at es
        rw [if_neg e3]
        exact wp_p rfl (hself (10 * pR A - (g + 1)) _ (by omega) ⟨g + 1, K, by rw [q_1, es], rfl, by omega, mS_t f1 u2⟩)
