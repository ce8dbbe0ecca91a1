theorem tl_b : ∀ k, k ≤ 30 → ∀ i, i < 32 → bt (((1 : Int32) <<< ((if (10 : Int32) < nI k + 1 then 10 else nI k + 1) &&& 31)) - 1) i = decide (i < min (k + 1) 10) := by decide +kernel
/-- what the day tells: which roots may have been eaten till then, whether one later -/
noncomputable def eaR (P : Nat → Bool) (k r : Nat) : Bool := @decide (∃ d, d < 10 ∧ d ≤ k ∧ P (10 * r + d) = true) (Classical.propDecidable _)
noncomputable def laR (P : Nat → Bool) (k r : Nat) : Bool := @decide (∃ d, d < 10 ∧ k < d ∧ P (10 * r + d) = true) (Classical.propDecidable _)
theorem eaR_t {P : Nat → Bool} {k r : Nat} : eaR P k r = true ↔ ∃ d, d < 10 ∧ d ≤ k ∧ P (10 * r + d) = true := @decide_eq_true_iff _ (Classical.propDecidable _)
theorem laR_t {P : Nat → Bool} {k r : Nat} : laR P k r = true ↔ ∃ d, d < 10 ∧ k < d ∧ P (10 * r + d) = true := @decide_eq_true_iff _ (Classical.propDecidable _)
theorem eaR_f {P : Nat → Bool} {k r : Nat} : eaR P k r = false ↔ ¬ ∃ d, d < 10 ∧ d ≤ k ∧ P (10 * r + d) = true := @decide_eq_false_iff_not _ (Classical.propDecidable _)
theorem laR_f {P : Nat → Bool} {k r : Nat} : laR P k r = false ↔ ¬ ∃ d, d < 10 ∧ k < d ∧ P (10 * r + d) = true := @decide_eq_false_iff_not _ (Classical.propDecidable _)
theorem c_unlike {Fu : Nat} {J : mIT} {A : aPl} {row : Nat → Int32} {n k : Nat} {P : Nat → Bool} (hF : 701 < Fu) (ho : okPl A) (h : laid J A row n) (hn : 30 < n) (hn2 : n ≤ 61) (hm : ∀ r, r < 10 → J 70 r = mkB (fun d => P (10 * r + d)) 10) (hP : ∀ g, P g = true → g < 10 * pR A) (hk : k ≤ 30) : wp (f_X3_unlikeSets Fu J (nI k)) (fun y => y.1 = nI (uN A row P k) ∧ ∀ c, c ≠ 71 → y.2 c = J c) := by
  have h10 := ho.1
  unfold f_X3_unlikeSets
  refine wp_Be (c_sndOn (by omega)) ?_
  rw [(h k (by omega)).2.1]
  have htl := tl_b k hk
  generalize hT : ((1 : Int32) <<< ((if (10 : Int32) < nI k + 1 then 10 else nI k + 1) &&& 31)) - 1 = T at htl
  have hand : ∀ r, (mkB (fun d => P (10 * r + d)) 10 &&& T = 0) = (eaR P k r = false) := fun r => by
    apply propext
    rw [eaR_f]
    constructor
    · rintro e ⟨d, h1, h2, h3⟩
      have e2 : bt (mkB (fun d => P (10 * r + d)) 10 &&& T) d = false := by rw [e]; exact b_0 d
      rw [b_and, b_mkB (by omega) (by omega), htl d (by omega), decide_eq_true h1, h3, decide_eq_true (by omega)] at e2
      exact nomatch e2
    · intro e
      apply b_ext
      intro i hi
      rw [b_0, b_and, b_mkB (by omega) hi, htl i hi, Bool.eq_false_iff]
      intro e2
      rw [Bool.and_eq_true, Bool.and_eq_true, decide_eq_true_iff, decide_eq_true_iff] at e2
      exact e ⟨i, e2.1.1, by omega, e2.1.2⟩
  have hlat : ∀ r, (mkB (fun d => P (10 * r + d)) 10 &&& (T ^^^ (-1)) = 0) = (laR P k r = false) := fun r => by
    apply propext
    rw [laR_f]
    constructor
    · rintro e ⟨d, h1, h2, h3⟩
      have e2 : bt (mkB (fun d => P (10 * r + d)) 10 &&& (T ^^^ (-1))) d = false := by rw [e]; exact b_0 d
      rw [b_and, b_xm1 _ (by omega), b_mkB (by omega) (by omega), htl d (by omega), decide_eq_true h1, h3, decide_eq_false (by omega)] at e2
      exact nomatch e2
    · intro e
      apply b_ext
      intro i hi
      rw [b_0, b_and, b_xm1 _ hi, b_mkB (by omega) hi, htl i hi, Bool.eq_false_iff]
      intro e2
      rw [Bool.and_eq_true, Bool.and_eq_true, decide_eq_true_iff, Bool.not_eq_true', decide_eq_false_iff_not] at e2
      exact e ⟨i, e2.1.1, by omega, e2.1.2⟩
  have fin : ∀ D : List Int32, D.Nodup → (∀ x, x ∈ D ↔ (∃ r, r < 10 ∧ eaR P k r = true ∧ sNB A (sDs A row k) (fun q => sSd A (sDs A row k) q && !(decide (q = r))) = x) ∨ ((∃ r, r < 10 ∧ laR P k r = true) ∧ sNB A (sDs A row k) (sSd A (sDs A row k)) = x)) → D.length = uN A row P k := by
    intro D d1 d2
    unfold uN
    refine nd_eq d1 (dl_n _ _) (fun x => ?_)
    rw [d2, dl_m]
    have vE : ∀ g, g % 10 ≤ k → vG A row g k = sNB A (sDs A row k) (fun q => sSd A (sDs A row k) q && !(decide (q = g / 10))) := fun g hg => by
      unfold vG
      congr 1
      funext q
      unfold ppE
      rw [decide_eq_true hg, Bool.true_and]
    have vL : ∀ g, k < g % 10 → vG A row g k = sNB A (sDs A row k) (sSd A (sDs A row k)) := fun g hg => by
      unfold vG
      congr 1
      funext q
      unfold ppE
      rw [decide_eq_false (by omega : ¬ g % 10 ≤ k), Bool.false_and, Bool.not_false, Bool.and_true]
    have inG : ∀ g, P g = true → ∃ a, a < (gs P (10 * pR A)).length ∧ (gs P (10 * pR A)).getD a 0 = g := fun g hg => by
      have hm2 : g ∈ gs P (10 * pR A) := gs_m.mpr ⟨hP g hg, hg⟩
      obtain ⟨a, ha, e⟩ := List.mem_iff_getElem.mp hm2
      exact ⟨a, ha, by rw [List.getD_eq_getElem?_getD, List.getElem?_eq_getElem ha]; exact e⟩
    constructor
    · rintro (⟨r, h1, h2, h3⟩ | ⟨⟨r, h1, h2⟩, h3⟩)
      · rw [eaR_t] at h2
        obtain ⟨d, t1, t2, t3⟩ := h2
        obtain ⟨a, ha, e⟩ := inG _ t3
        refine ⟨a, ha, ?_⟩
        rw [e, vE _ (by omega), show (10 * r + d) / 10 = r by omega]
        exact h3
      · rw [laR_t] at h2
        obtain ⟨d, t1, t2, t3⟩ := h2
        obtain ⟨a, ha, e⟩ := inG _ t3
        refine ⟨a, ha, ?_⟩
        rw [e, vL _ (by omega)]
        exact h3
    · rintro ⟨a, ha, e⟩
      have hg : (gs P (10 * pR A)).getD a 0 ∈ gs P (10 * pR A) := by
        rw [List.getD_eq_getElem?_getD, List.getElem?_eq_getElem ha]
        exact List.getElem_mem ha
      generalize (gs P (10 * pR A)).getD a 0 = g at hg e
      obtain ⟨g1, g2⟩ := gs_m.mp hg
      by_cases e2 : g % 10 ≤ k
      · left
        refine ⟨g / 10, by omega, eaR_t.mpr ⟨g % 10, Nat.mod_lt _ (by omega), e2, by rw [show 10 * (g / 10) + g % 10 = g by omega]; exact g2⟩, ?_⟩
        rw [← vE g e2]; exact e
      · right
        refine ⟨⟨g / 10, by omega, laR_t.mpr ⟨g % 10, Nat.mod_lt _ (by omega), by omega, by rw [show 10 * (g / 10) + g % 10 = g by omega]; exact g2⟩⟩, ?_⟩
        rw [← vL g (by omega)]; exact e
  unfold w_X3_unlikeSets_29
  refine wp_loop (fun dd (s : Int32 × Int32 × Int32 × Int32 × Int32 × Int32 × mIT) => ∃ (i : Nat) (D : List Int32) (K : mIT), s = (nI k, mkB (sSd A (sDs A row k)) 10, T, (if (∃ r, r < i ∧ laR P k r = true) then 1 else 0), nI D.length, nI i, K) ∧ dd = 10 - i ∧ i ≤ 10 ∧ D.Nodup ∧ D.length ≤ i ∧ (∀ j, j < D.length → K 71 j = D.getD j 0) ∧ (∀ x, x ∈ D ↔ ∃ r, r < i ∧ eaR P k r = true ∧ sNB A (sDs A row k) (fun q => sSd A (sDs A row k) q && !(decide (q = r))) = x) ∧ ∀ c, c ≠ 71 → K c = J c) _ ?_ Fu 10 _ ⟨0, [], J, by rw [if_neg (fun ⟨r, hr, _⟩ => absurd hr (by omega))]; rfl, rfl, by omega, List.nodup_nil, Nat.le_refl _, fun _ hj => absurd hj (by simp), fun x => ⟨fun h => absurd h (List.not_mem_nil), fun ⟨r, hr, _⟩ => absurd hr (by omega)⟩, fun _ _ => rfl⟩ (by omega)
  rintro dd s self ⟨i, D, K, rfl, hdd, hi, d1, d2, d3, d4, f1⟩ hself
  have hKl := laid_f h (J := K) (fun c c1 c2 => f1 c (by omega))
  have hK70 : ∀ r, r < 10 → K 70 r = mkB (fun d => P (10 * r + d)) 10 := fun r hr => by rw [f1 70 (by decide)]; exact hm r hr
  show wp (b_X3_unlikeSets_29 Fu self _ _ _ _ _ (nI i) K) _
  unfold b_X3_unlikeSets_29
  refine wp_i (q_le (by omega) (by omega)) (fun hle => ?_) (fun hlt => ?_)
  · have hie : i = 10 := by omega
    subst hie
    by_cases e : ∃ r, r < 10 ∧ laR P k r = true
    · rw [if_pos e]
      refine wp_n ne10 ?_
      refine wp_Be (c_bits hF h10 hKl (by omega) hn2 sSd_o) ?_
      refine wp_B (c_withSet hF d2 d3) ?_
      rintro ⟨v, K'⟩ ⟨u1, u2, u3⟩
      dsimp only at u1 u3 ⊢
      refine wp_s ⟨?_, fun c hc => (u3 c hc).trans (f1 c hc)⟩
      rw [u1, fin _ (insL_n d1) (fun x => ?_)]
      rw [insL_m, d4]
      exact ⟨fun h => h.elim Or.inl (fun e2 => Or.inr ⟨e, e2.symm⟩), fun h => h.elim Or.inl (fun e2 => Or.inr e2.2.symm)⟩
    · rw [if_neg e]
      refine wp_p rfl (wp_s ⟨?_, f1⟩)
      rw [fin D d1 (fun x => ?_)]
      rw [d4]
      exact ⟨Or.inl, fun h => h.elim id (fun e2 => absurd e2.1 e)⟩
  · simp (disch := omega) only [q_GI, q_cl, hK70 i (show i < 10 by omega), b1_d]
    have s73 : ∀ (D' : List Int32) (K' : mIT), D'.Nodup → D'.length ≤ i + 1 → (∀ j, j < D'.length → K' 71 j = D'.getD j 0) → (∀ x, x ∈ D' ↔ ∃ r, r < i + 1 ∧ eaR P k r = true ∧ sNB A (sDs A row k) (fun q => sSd A (sDs A row k) q && !(decide (q = r))) = x) → (∀ c, c ≠ 71 → K' c = J c) → wp (b_X3_unlikeSets_73 Fu self (nI k) (mkB (sSd A (sDs A row k)) 10) T (if (∃ r, r < i ∧ laR P k r = true) then 1 else 0) (nI D'.length) (nI i) K') (fun y => y.1 = nI (uN A row P k) ∧ ∀ c, c ≠ 71 → y.2 c = J c) := by
      intro D' K' t1 t2 t3 t4 t5
      have go : ∀ z, z = (if (∃ r, r < i + 1 ∧ laR P k r = true) then (1 : Int32) else 0) → wp (self (nI k, mkB (sSd A (sDs A row k)) 10, T, z, nI D'.length, nI i + 1, K')) (fun y => y.1 = nI (uN A row P k) ∧ ∀ c, c ≠ 71 → y.2 c = J c) := fun z hz => hself (10 - (i + 1)) _ (by omega) ⟨i + 1, D', K', by rw [hz, q_1], rfl, by omega, t1, t2, t3, t4, t5⟩
      unfold b_X3_unlikeSets_73
      by_cases e : ∃ r, r < i ∧ laR P k r = true
      · rw [if_pos e]
        obtain ⟨r, hr, hr2⟩ := e
        exact wp_n (by decide) (go _ (by rw [if_pos ⟨r, by omega, hr2⟩]))
      · rw [if_neg e]
        refine wp_p rfl ?_
        rw [q_GI (by omega) (by omega), q_cl (by omega), show K' 70 i = mkB (fun d => P (10 * i + d)) 10 by rw [t5 70 (by decide)]; exact hm i (by omega)]
        refine wp_i (hlat i) (fun e2 => go _ ?_) (fun e2 => go _ ?_)
        · rw [if_neg]
          rintro ⟨r, hr, hr2⟩
          by_cases e3 : r = i
          · subst e3; rw [e2] at hr2; exact nomatch hr2
          · exact e ⟨r, by omega, hr2⟩
        · rw [if_pos ⟨i, by omega, by simpa using e2⟩]
    refine wp_i (hand i) (fun e => s73 D K d1 (by omega) d3 (fun x => ?_) f1) (fun e => ?_)
    · rw [d4]
      constructor
      · rintro ⟨r, t1, t2, t3⟩; exact ⟨r, by omega, t2, t3⟩
      · rintro ⟨r, t1, t2, t3⟩
        by_cases e3 : r = i
        · subst e3; rw [e] at t2; exact nomatch t2
        · exact ⟨r, by omega, t2, t3⟩
    · have e' : eaR P k i = true := by simpa using e
      rw [mkB_out (by omega) (by omega)]
      refine wp_Be (c_bits hF h10 hKl (by omega) hn2 (fun q hq => by rw [sSd_o q hq]; rfl)) ?_
      refine wp_B (c_withSet hF (by omega) d3) ?_
      rintro ⟨v, K'⟩ ⟨u1, u2, u3⟩
      dsimp only at u1 u2 u3 ⊢
      rw [u1]
      refine s73 _ K' (insL_n d1) ?_ u2 (fun x => ?_) (fun c hc => by rw [u3 c hc]; exact f1 c hc)
      · unfold insL
        split
        · omega
        · rw [List.length_append, List.length_singleton]; omega
      · rw [insL_m, d4]
        constructor
        · rintro (⟨r, t1, t2, t3⟩ | t)
          · exact ⟨r, by omega, t2, t3⟩
          · exact ⟨i, by omega, e', t.symm⟩
        · rintro ⟨r, t1, t2, t3⟩
          by_cases e3 : r = i
          · subst e3; exact Or.inr t3.symm
          · exact Or.inl ⟨r, by omega, t2, t3⟩
theorem c_next {Fu : Nat} {I : mIT} {R : mRT} {p n w : Nat} {A : aPl} {row : Nat → Int32} {hl : hLs} (hF : 701 < Fu) (ho : okPl A) (hk : okR A 999 row) (h : cQ I R p A row n) (hh : cH I 44 hl) (hok : okH hl) (hw : w < 2) : wp (f_X11_next Fu R I (nI w)) (cX I R p A row (sNe A row hl w)) := by
  unfold f_X11_next
  refine wp_X (c_two1 hw) (wp_Be h.1 ?_)
  refine wp_B (c_lay (m := 30) hF ho hk h (by omega)) ?_
  rintro J ⟨h1, n', h2, h3, h4⟩
  have hl4 := h4.2.2.2.2.2.2.2
  have hn61 := h4.2.2.2.2.2.1
  refine wp_Be h.1 (wp_Be (c_bitsAt hF ho h4) ?_)
  rw [h4.2.2.1.1]
  refine wp_B (c_find hF ho hl4 h3 hn61 (cH_s hh h1) hok) ?_
  rintro K ⟨u1, u2, u3, u4⟩
  have hP : ∀ g, eP A row hl g = true → g < 10 * pR A := fun g hg => by
    unfold eP at hg
    rw [Bool.and_eq_true, decide_eq_true_iff] at hg
    omega
  have hKl := laid_f hl4 (J := K) (fun c c1 c2 => u4 c (by omega) (by omega))
  have hub := uN_le (row := row) (P := eP A row hl) ho
  have hnb := nD_b hub
  have core : wp (f_X3_findDay Fu K) (fun L => L 69 4 = (nD (uN A row (eP A row hl)) 31).1 ∧ L 69 5 = nI (nD (uN A row (eP A row hl)) 31).2 ∧ ∀ c, c ≠ 69 → c ≠ 70 → c ≠ 71 → L c = J c) := by
    generalize eP A row hl = P at hP hub hnb u3
    unfold f_X3_findDay w_X3_findDay_12
    refine wp_loop (fun dd (s : Int32 × mIT) => ∃ (i : Nat) (L : mIT), s = (nI i, L) ∧ dd = 31 - i ∧ i ≤ 31 ∧ L 69 4 = (nD (uN A row P) i).1 ∧ L 69 5 = nI (nD (uN A row P) i).2 ∧ ∀ c, c ≠ 69 → c ≠ 71 → L c = K c) _ ?_ Fu 31 _ ⟨0, _, rfl, rfl, by omega, by rw [q_Uj (by decide), q_U]; rfl, by rw [q_U]; rfl, fun c c1 _ => by rw [mU_other c1, mU_other c1]⟩ (by omega)
    rintro dd s self ⟨i, L, rfl, hdd, hi, f1, f2, f3⟩ hself
    show wp (b_X3_findDay_12 Fu self (nI i) L) _
    unfold b_X3_findDay_12
    refine wp_i (gt_30 (by omega)) (fun hle => ?_) (fun hlt => ?_)
    · have hie : i = 31 := by omega
      subst hie
      exact wp_s ⟨f1, f2, fun c c1 c2 c3 => by rw [f3 c c1 c3]; exact u4 c c1 c2⟩
    · refine wp_B (c_unlike hF ho (laid_f hKl (J := L) (fun c c1 c2 => f3 c (by omega) (by omega))) h3 hn61 (fun r hr => by rw [f3 70 (by decide) (by decide)]; exact u3 r hr) hP (show i ≤ 30 by omega)) ?_
      rintro ⟨v, M⟩ ⟨t1, t2⟩
      dsimp only at t1 t2 ⊢
      subst t1
      have b1' := hub i
      have b2' := hnb i
      have es := nD_s (f := uN A row P) i
      refine wp_i (by rw [t2 69 (by decide), f2, q_le (by omega) (by omega)]) (fun e => ?_) (fun e => ?_)
      · rw [if_neg (by omega)] at es
        exact hself (31 - (i + 1)) _ (by omega) ⟨i + 1, M, by rw [q_1], rfl, by omega, by rw [t2 69 (by decide), es]; exact f1, by rw [t2 69 (by decide), es]; exact f2, fun c c1 c2 => by rw [t2 c c2]; exact f3 c c1 c2⟩
      · rw [if_pos (by omega)] at es
        exact hself (31 - (i + 1)) _ (by omega) ⟨i + 1, _, by rw [q_1], rfl, by omega, by rw [q_U, es], by rw [q_Uj (by decide), q_U, es], fun c c1 c2 => by rw [mU_other c1, mU_other c1, t2 c c2]; exact f3 c c1 c2⟩
  refine wp_B core ?_
  rintro L ⟨t1, t2, t3⟩
  unfold sNe
  refine wp_i (q_eq0 (by omega)) (fun e => ?_) (fun e => ?_)
  · rw [if_pos e]
    exact wp_Be (show f_X3_tellingDay Fu L = some (L 69 4) from rfl) (wp_s ⟨_, rfl, t1, cS_t h1 (cS_g t3), n', cQ_g h4 t3⟩)
  · rw [if_neg e]
    exact wp_Be (show f_X3_tellingSets Fu L = some (L 69 5) from rfl) (wp_s ⟨_, rfl, t2, cS_t h1 (cS_g t3), n', cQ_g h4 t3⟩)
theorem m_next {Fu : Nat} {I : mIT} {w : Nat} {A : aPl} {row : Nat → Int32} {hl : hLs} (hF : 701 < Fu) (ho : okPl A) (hk : okR A 999 row) (h : mQ I A row) (hh : mH I 55 99 hl) (hok : okH hl) (hw : w < 2) : wp (f_X12_next Fu I (nI w)) (fun y => y.1 = sNe A row hl w ∧ mS (mU I 75 0 0) y.2) := by
  have h0 := mQ_0 (v := 0) h
  have h10 := ho.1
  have hh0 : mH (mU I 75 0 0) 55 99 hl := by
    unfold mH
    rw [q_Uj (by decide), mU_other (by decide)]
    exact hh
  have hub := uN_le (row := row) (P := eP A row hl) ho
  have hnb := nD_b hub
  unfold f_X12_next sNe
  refine wp_Be (m_what1 (m := 1) (q_U0 I) hw (by omega)) (wp_n ne10 ?_)
  generalize hPe : eP A row hl = P at hub hnb
  unfold w_X12_next_20
  refine wp_loop (fun dd (s : Int32 × Int32 × Int32 × mIT) => ∃ (g : Nat) (J : mIT), s = (nI w, nI (gs P g).length, nI g, J) ∧ dd = 10 * pR A - g ∧ g ≤ 10 * pR A ∧ mS (mU I 75 0 0) J ∧ ∀ a, a < (gs P g).length → ∀ k, k ≤ 30 → J 101 (31 * a + k) = vG A row ((gs P g).getD a 0) k) _ ?_ Fu (10 * pR A) _ ⟨0, _, rfl, rfl, by omega, mS_r _, fun a ha => absurd ha (by simp [gs])⟩ (by omega)
  rintro dd s self ⟨g, J, rfl, hdd, hg, f1, f2⟩ hself
  have hJ := mQ_s ho h0 f1
  have hgl := gs_le P g
  show wp (b_X12_next_20 Fu self _ _ (nI g) J) _
  unfold b_X12_next_20
  refine wp_i (by rw [hJ.1.1, ml_10, q_le (by omega) (by omega)]) (fun hle => ?_) (fun hlt => ?_)
  · have hge : g = 10 * pR A := by omega
    subst hge
    generalize hG : gs P (10 * pR A) = G at f2 hgl
    have huN : ∀ k, uN A row P k = (dl (fun a => vG A row (G.getD a 0) k) G.length).length := fun k => by unfold uN; rw [hG]
    unfold w_X12_next_94
    refine wp_loop (fun dd (s : Int32 × Int32 × Int32 × Int32 × Int32 × mIT) => ∃ (k : Nat), s = (nI w, nI G.length, (nD (uN A row P) k).1, nI (nD (uN A row P) k).2, nI k, J) ∧ dd = 31 - k ∧ k ≤ 31) _ ?_ Fu 31 _ ⟨0, rfl, rfl, by omega⟩ (by omega)
    rintro dk s selfk ⟨k, rfl, hdk, hk31⟩ hselfk
    show wp (b_X12_next_94 Fu selfk _ _ _ _ (nI k) J) _
    unfold b_X12_next_94
    refine wp_i (gt_30 (by omega)) (fun hle2 => ?_) (fun hlt2 => ?_)
    · have hke : k = 31 := by omega
      subst hke
      refine wp_i (q_eq0 (by omega)) (fun e => ?_) (fun e => ?_)
      · rw [if_pos e]; exact wp_s ⟨rfl, f1⟩
      · rw [if_neg e]; exact wp_s ⟨rfl, f1⟩
    · have huk := huN k
      generalize hf : (fun a => vG A row (G.getD a 0) k) = f at huk
      have hJf : ∀ a, a < G.length → J 101 (31 * a + k) = f a := fun a ha => by rw [f2 a ha k (by omega), ← hf]
      have b1' := hub k
      have b2' := hnb k
      unfold w_X12_next_107
      refine wp_loop (fun dd (s : Int32 × Int32 × Int32 × Int32 × Int32 × Int32 × Int32 × mIT) => ∃ (a : Nat), s = (nI w, nI G.length, (nD (uN A row P) k).1, nI (nD (uN A row P) k).2, nI k, nI (dl f a).length, nI a, J) ∧ dd = G.length - a ∧ a ≤ G.length) _ ?_ Fu G.length _ ⟨0, rfl, rfl, by omega⟩ (by omega)
      rintro da s selfa ⟨a, rfl, hda, ha⟩ hselfa
      have hdl := dl_le f a
      show wp (b_X12_next_107 Fu selfk selfa _ _ _ _ _ _ (nI a) J) _
      unfold b_X12_next_107
      refine wp_i (q_le (by omega) (by omega)) (fun hle3 => ?_) (fun hlt3 => ?_)
      · have hae : a = G.length := by omega
        subst hae
        have es := nD_s (f := uN A row P) k
        rw [← huk]
        refine wp_i (q_lt (by omega) (by omega)) (fun e => ?_) (fun e => ?_)
        · rw [if_pos e] at es
          exact hselfk (31 - (k + 1)) _ (by omega) ⟨k + 1, by rw [q_1, es], rfl, by omega⟩
        · rw [if_neg e] at es
          exact hselfk (31 - (k + 1)) _ (by omega) ⟨k + 1, by rw [q_1, es], rfl, by omega⟩
      · unfold w_X12_next_119
        refine wp_loop (fun dd (s : Int32 × Int32 × Int32 × Int32 × Int32 × Int32 × Int32 × Int32 × Int32 × mIT) => ∃ (b : Nat), s = (nI w, nI G.length, (nD (uN A row P) k).1, nI (nD (uN A row P) k).2, nI k, nI (dl f a).length, nI a, (if (∃ c, c < b ∧ f c = f a) then 0 else 1), nI b, J) ∧ dd = a - b ∧ b ≤ a) _ ?_ Fu a _ ⟨0, by rw [if_neg (fun ⟨c, hc, _⟩ => absurd hc (by omega))]; rfl, rfl, by omega⟩ (by omega)
        rintro db s selfb ⟨b, rfl, hdb, hb⟩ hselfb
        have fin : ∀ z, (z = (0 : Int32) ∧ f a ∈ dl f a ∨ z = 1 ∧ ¬ f a ∈ dl f a) → wp (if z = 0 then (selfa (nI w, nI G.length, (nD (uN A row P) k).1, nI (nD (uN A row P) k).2, nI k, nI (dl f a).length + 0, nI a + 1, J)) else (selfa (nI w, nI G.length, (nD (uN A row P) k).1, nI (nD (uN A row P) k).2, nI k, nI (dl f a).length + 1, nI a + 1, J))) (fun y => y.1 = (if w = 0 then (nD (uN A row P) 31).1 else nI (nD (uN A row P) 31).2) ∧ mS (mU I 75 0 0) y.2) := by
          rintro z (⟨rfl, e⟩ | ⟨rfl, e⟩)
          · refine wp_p rfl (hselfa (G.length - (a + 1)) _ (by omega) ⟨a + 1, ?_, rfl, by omega⟩)
            rw [q_1, q_p0, dl, insL, if_pos e]
          · refine wp_n (by decide) (hselfa (G.length - (a + 1)) _ (by omega) ⟨a + 1, ?_, rfl, by omega⟩)
            rw [q_1, q_1, dl, insL, if_neg e, List.length_append, List.length_singleton]
        show wp (b_X12_next_119 Fu selfk selfa selfb _ _ _ _ _ _ _ _ (nI b) J) _
        unfold b_X12_next_119
        refine wp_i (q_le (by omega) (by omega)) (fun hle4 => ?_) (fun hlt4 => ?_)
        · have hbe : b = a := by omega
          subst hbe
          refine fin _ ?_
          by_cases e : ∃ c, c < b ∧ f c = f b
          · rw [if_pos e]; exact Or.inl ⟨rfl, (dl_m b).mpr e⟩
          · rw [if_neg e]; exact Or.inr ⟨rfl, fun q => e ((dl_m b).mp q)⟩
        · by_cases e : ∃ c, c < b ∧ f c = f a
          · rw [if_pos e]
            obtain ⟨c, hc, hc2⟩ := e
            exact wp_p rfl (fin 0 (Or.inl ⟨rfl, (dl_m a).mpr ⟨c, by omega, hc2⟩⟩))
          · rw [if_neg e]
            refine wp_n ne10 ?_
            rw [show (31 : Int32) * nI a = nI (31 * a) from ml_31 a, show (31 : Int32) * nI b = nI (31 * b) from ml_31 b]
            simp (disch := omega) only [nI_add, q_GI, q_cl, hJf a (by omega), hJf b (by omega), q_1]
            refine wp_f (fun e2 => ?_) (fun e2 => ?_)
            · refine hselfb (a - (b + 1)) _ (by omega) ⟨b + 1, ?_, rfl, by omega⟩
              rw [if_pos ⟨b, by omega, e2.symm⟩]
            · refine hselfb (a - (b + 1)) _ (by omega) ⟨b + 1, ?_, rfl, by omega⟩
              rw [if_neg]
              rintro ⟨c, hc, hc2⟩
              by_cases e3 : c = b
              · subst e3; exact e2 hc2.symm
              · exact e ⟨c, by omega, hc2⟩
  · refine wp_B (m_isGuess hF ho hk hJ (mH_s hh0 f1) hok (by omega)) ?_
    rintro ⟨v, K⟩ ⟨u1, u2, u3, u4⟩
    dsimp only at u1 u2 u3 u4 ⊢
    rw [hPe] at u1 u4
    subst u1
    have es := gs_s P g
    by_cases e3 : P g = true
    · rw [if_pos e3] at es ⊢
      refine wp_n (by decide) ?_
      unfold w_X12_next_45
      refine wp_loop (fun dd (s : Int32 × Int32 × Int32 × Int32 × mIT) => ∃ (k : Nat) (L : mIT), s = (nI w, nI (gs P g).length, nI g, nI k, L) ∧ dd = 31 - k ∧ k ≤ 31 ∧ mS (mU I 75 0 0) L ∧ L 100 = K 100 ∧ (∀ j, j < 31 * (gs P g).length → L 101 j = J 101 j) ∧ ∀ i, i < k → L 101 (31 * (gs P g).length + i) = vG A row g i) _ ?_ Fu 31 _ ⟨0, K, rfl, rfl, by omega, mS_t f1 u2, rfl, fun j _ => by rw [u3], fun _ hj => absurd hj (by omega)⟩ (by omega)
      rintro dk s selfk ⟨k, L, rfl, hdk, hk31, l1, l2, l3, l4⟩ hselfk
      show wp (b_X12_next_45 Fu self selfk _ _ (nI g) (nI k) L) _
      unfold b_X12_next_45
      refine wp_i (gt_30 (by omega)) (fun hle2 => ?_) (fun hlt2 => ?_)
      · refine hself (10 * pR A - (g + 1)) _ (by omega) ⟨g + 1, L, ?_, rfl, by omega, l1, fun a ha i hi => ?_⟩
        · rw [es, List.length_append, List.length_singleton, q_1, q_1]
        · rw [es, List.length_append, List.length_singleton] at ha
          rw [es]
          by_cases e4 : a = (gs P g).length
          · subst e4
            rw [l4 i (by omega)]
            simp
          · rw [l3 _ (by omega), f2 a (by omega) i hi]
            rw [List.getD_eq_getElem?_getD, List.getD_eq_getElem?_getD, List.getElem?_append_left (by omega)]
      · rw [show (31 : Int32) * nI (gs P g).length = nI (31 * (gs P g).length) from ml_31 _]
        simp (disch := omega) only [nI_add, q_GI, q_cl, q_1]
        refine hselfk (31 - (k + 1)) _ (by omega) ⟨k + 1, _, rfl, rfl, by omega, mS_u l1 rfl, by rw [mU_other (by decide), l2], fun j hj => by rw [q_Uj (by omega)]; exact l3 j hj, fun i hi => ?_⟩
        by_cases e4 : i = k
        · subst e4
          rw [q_U, l2, u4 e3 i (by omega)]
          rfl
        · rw [q_Uj (by omega)]; exact l4 i (by omega)
    · rw [if_neg e3] at es ⊢
      refine wp_p rfl (hself (10 * pR A - (g + 1)) _ (by omega) ⟨g + 1, K, by rw [es, q_1], rfl, by omega, mS_t f1 u2, fun a ha i hi => ?_⟩)
      rw [es] at ha ⊢
      rw [u3]
      exact f2 a ha i hi
