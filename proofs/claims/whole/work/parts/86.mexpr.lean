/-! the reference reads an EXPR -/
/-- how it comes out: r is what the document says -/
def ePx (I0 : mIT) (L0 : mLT) (c0 : Nat) (B : Nat → Nat) (n : Nat) (r : pO (Nat × xS)) (y : mIT × mLT) : Prop :=
  mXf c0 I0 y.1 ∧ lF L0 y.2 ∧ ((∃ e, r = .inl e ∧ y.1 75 14 = nI e.1 ∧ (1 ≤ e.1 ∧ e.1 ≤ 5) ∧ y.1 75 15 = nI e.2) ∨ (∃ a, r = .inl (1, a) ∧ y.1 75 14 = 0 ∧ y.1 75 15 = I0 75 15 ∧ mTk y.1 y.2 B n a ∧ ¬ sg B n a 59 = true) ∨ (∃ a x, r = .inr (a, x) ∧ xI x a ∧ exDn B n a x = true ∧ y.1 75 14 = 0 ∧ y.1 75 15 = I0 75 15 ∧ mTk y.1 y.2 B n a ∧ y.1 75 32 = nI (c0 + (enc (pwt 1 x.2.1 x.1).1).length) ∧ mCo y.1 86 c0 (pwt 1 x.2.1 x.1).1 ∧ c0 + (enc (pwt 1 x.2.1 x.1).1).length ≤ 2 * a))
/-- how it stands when the loop ends -/
def eX (I0 : mIT) (L0 : mLT) (c0 : Nat) (B : Nat → Nat) (n : Nat) (r : pO (Nat × xS)) (a : Nat) (x : xS) (J : mIT) (M : mLT) : Prop := mPo I0 L0 c0 B n (.inr (a, x)) (J, M) ∧ x.2.2.1 = 0 ∧ xI x a ∧ xB c0 x a ∧ ((exDn B n a x = true ∧ r = .inr (a, x)) ∨ (exDn B n a x = false ∧ r = .inl (1, a)))
theorem m_fin {Fu : Nat} {J : mIT} {c0 : Nat} (hF : 2200 < Fu) {out : eSt} {w : List Nat} (h : mRs J c0 out w) (hv : vC w) (hl : w.length ≤ 80) (hb : c0 + (enp out).length + w.length ≤ 1398) {α : Type} {g : mIT → Option α} {Q : α → Prop} (k : ∀ K, mRf J K c0 → K 75 32 = nI (c0 + (enp (pwt 1 w out).1).length + 1) → ((pwt 1 w out).2 = [] → mCo K 86 c0 (pwt 1 w out).1) → wp (g K) Q) : wp (oB (f_X12_drops Fu J 0) (fun r347 => oB (f_X12_puts Fu r347 0) g)) Q := by
  refine wp_B (m_drops (t := 0) hF (by omega) h hv hl (by omega)) ?_
  rw [show max 1 0 = 1 from rfl]
  have hp := pwt_enp (t := 1) (out := out) hv (Nat.le_refl 1)
  rintro K ⟨⟨k1, k2, k3, k4⟩, kf⟩
  refine wp_Be (m_puts k1 (by omega)) (k _ (mRf_t kf ⟨fun j a b => by rw [q_Uj a, mU_other (by decide)], fun i hi => by rw [mU_other (by decide), q_Uj (by omega)], fun c a b d => by rw [mU_other a, mU_other b]⟩) (q_U _ _ _ _) (fun _ => ⟨?_, fun i hi => ?_⟩))
  · rw [enp_enc, List.length_append, List.length_singleton]
    omega
  · rw [enp_enc, List.length_append, List.length_singleton] at hi
    rw [enp_enc, getD_ap0 hi, mU_other (by decide)]
    by_cases e : i < (enp (pwt 1 w out).1).length
    · rw [if_pos e, q_Uj (by omega)]
      exact k3 i e
    · rw [if_neg e, show i = (enp (pwt 1 w out).1).length by omega, q_U]
theorem okW_d0 {w : List Nat} {out : eSt} (h : okW w 0 11) (ho : wfp out 0 (nb w + 1)) : (pwt 1 w out).2 = [] := by
  obtain ⟨h1, _, _⟩ := pwt_ok (t := 1) (by omega) (Nat.le_refl 11) h ho
  cases hw : (pwt 1 w out).2 with
  | nil => rfl
  | cons c w' =>
    exfalso
    rw [hw] at h1
    rcases h1 with ⟨_, d', e, _⟩ | ⟨r, a1, a2, _⟩
    · omega
    · have : min 11 (rT 1) = 0 := rfl
      unfold rkX at a1
      omega
theorem m_exEnd {Fu : Nat} {I0 : mIT} {L0 : mLT} {c0 : Nat} {B : Nat → Nat} {n : Nat} {r : pO (Nat × xS)} {J : mIT} {M : mLT} (hF : 2200 < Fu) (hn : n ≤ 700) (h : oF I0 L0 c0 B n r J M ∨ ∃ a x, eX I0 L0 c0 B n r a x J M) : wp (b_X12_expression_325 Fu J M) (ePx I0 L0 c0 B n r) := by
  unfold b_X12_expression_325
  rcases h with hB | ⟨a, x, hP, h0, hi, hb, hr⟩
  · refine wp_Be (m_good0 (oF_ne hB)) (wp_p rfl ?_)
    obtain ⟨e, he, q1, q2, q3, ⟨out, w, p1, p2, p3, p4⟩, q5, q6⟩ := hB
    dsimp only at q1 q3 q5 q6 p1
    refine m_fin hF p1 p2 p3 p4 (fun K k1 k2 k3 => wp_s ⟨mXf_c q5 k1, q6, Or.inl ⟨e, he, ?_, q2, ?_⟩⟩)
    · dsimp only
      rw [k1.1 14 (by decide) (by decide)]; exact q1
    · dsimp only
      rw [k1.1 15 (by decide) (by decide)]; exact q3
  · obtain ⟨hg, h15, hT, hx, hfr, hlf⟩ := hP
    dsimp only at hg h15 hT hx hfr hlf
    have ha := hT.2.1
    have hlen := (xI_len hi).1
    have hb' := hb
    unfold xB at hb'
    have hd6 := hi.2.2.1
    refine wp_Be (m_good1 hg) (wp_n (by decide) ?_)
    rw [hx.2.1]
    refine wp_i (q_le (b := 1) (by omega) (by omega)) (fun c1 => ?_) (fun c1 => ?_)
    · have d0 : x.2.2.2.1 = 0 := by omega
      refine m_fin hF hx.1 (xI_vC hi) (by omega) (by omega) (fun K k1 k2 k3 => wp_s ⟨mXf_c hfr k1, hlf, Or.inr ?_⟩)
      have g14 : K 75 14 = 0 := by rw [k1.1 14 (by decide) (by decide)]; exact hg
      have g15 : K 75 15 = I0 75 15 := by rw [k1.1 15 (by decide) (by decide)]; exact h15
      rcases hr with ⟨r1, r2⟩ | ⟨r1, r2⟩
      · have hw : (pwt 1 x.2.1 x.1).2 = [] := by
          obtain ⟨_, _, _, _, _, _, h7, h8⟩ := hi
          rw [if_neg (by omega), d0] at h7
          rw [if_pos h0] at h8
          exact okW_d0 h7 h8
        have hp := pwt_enp (t := 1) (out := x.1) (xI_vC hi) (Nat.le_refl 1)
        rw [hw] at hp
        have hp' : (enp (pwt 1 x.2.1 x.1).1).length = (enp x.1).length + x.2.1.length := hp
        have he : (enc (pwt 1 x.2.1 x.1).1).length = (enp (pwt 1 x.2.1 x.1).1).length + 1 := by rw [enp_enc, List.length_append]; rfl
        exact Or.inr ⟨a, x, r2, hi, r1, g14, g15, mTk_c hT k1, by dsimp only; rw [k2, he]; rfl, k3 hw, by rw [he]; omega⟩
      · refine Or.inl ⟨a, r2, g14, g15, mTk_c hT k1, fun q => ?_⟩
        unfold exDn at r1
        rw [decide_eq_false_iff_not] at r1
        exact r1 ⟨h0, d0, q⟩
    · have r2 : r = .inl (1, a) := by
        rcases hr with ⟨r1, r2⟩ | ⟨r1, r2⟩
        · unfold exDn at r1
          have := (of_decide_eq_true r1).2.1
          omega
        · exact r2
      refine wp_Be (m_wrong hg) (m_fin hF (mRs_w (mRs_w hx.1 (by omega)) (by omega)) (xI_vC hi) (by omega) (by omega) (fun K k1 k2 k3 => wp_s ⟨mXf_c (mXf_u (mXf_u hfr (by omega)) (by omega)) k1, hlf, Or.inl ⟨(1, a), r2, ?_, by omega, ?_⟩⟩))
      · dsimp only
        rw [k1.1 14 (by decide) (by decide), q_Uj (by decide), q_U]; rfl
      · dsimp only
        rw [k1.1 15 (by decide) (by decide), q_U]; exact hT.2.2.2.2.1
theorem pwt_len {t : Nat} : ∀ {w : List Nat} {out : eSt}, (pwt t w out).2.length ≤ w.length
  | [], _ => Nat.le_refl _
  | c :: w, out => by
    rw [pwt]
    by_cases e : c / 10 < t
    · rw [if_pos e]; exact Nat.le_refl _
    · rw [if_neg e, List.length_cons]
      have := pwt_len (t := t) (w := w) (out := out ++ [(nI c, 0)])
      omega
theorem jnX_op {c : Nat} {out : eSt} {w : List Nat} (hc : 10 ≤ c ∧ c ≠ 30) : jnX c out w = ((pwt (c / 10) w out).1, c :: (pwt (c / 10) w out).2) := if_neg (by omega)
theorem opc_s {B : Nat → Nat} {n a c : Nat} (h : sg B n a c = true) : opc B n a = if c = 60 then 40 else if c = 61 then 41 else if c = 43 then 50 else if c = 45 then 51 else if c = 42 then 60 else if c = 47 then 61 else 0 := by
  unfold sg at h
  obtain ⟨h1, h2⟩ := of_decide_eq_true h
  have hs : ∀ c', (sg B n a c' = true) = (c = c') := fun c' => by
    unfold sg
    rw [decide_eq_true_eq, h2]
    exact propext ⟨fun q => q.2, fun q => ⟨h1, q⟩⟩
  have hw : ∀ v, v < 19 → tW B n a ≠ v := fun v hv q => by
    have := ((tW_is hv).mp q).1
    omega
  unfold opc
  rw [if_neg (hw 17 (by omega)), if_neg (hw 16 (by omega))]
  simp only [hs]
theorem m_expr {Fu : Nat} {I : mIT} {L : mLT} {B : Nat → Nat} {n a c0 : Nat} (hF : 2200 < Fu) (ht : tpe B n) (hT : mTk I L B n a) (hg : I 75 14 = 0) (h32 : I 75 32 = nI c0) (hb : c0 + 4 ≤ 2 * a) : wp (f_X12_expression Fu I L) (ePx I L c0 B n (exR B n (n - a + 1) a x0)) := by
  have h7 := ht.1
  have ha := hT.2.1
  unfold f_X12_expression
  refine wp_Be (m_good1 hg) (wp_n (by decide) (wp_Be (m_deep1 (l := 0) (q_U _ _ _ _) (by omega)) ?_))
  generalize hJ : mU (mU (mU (mU I 75 33 0) 75 34 0) 75 34 (nI (0 + 1))) 88 (0 + 1) 0 = J
  have j5 : ∀ j, j ≠ 33 → j ≠ 34 → J 75 j = I 75 j := fun j a b => by rw [← hJ, mU_other (by decide), q_Uj b, q_Uj b, q_Uj a]
  have j33 : J 75 33 = nI 0 := by rw [← hJ, mU_other (by decide), q_Uj (by decide), q_Uj (by decide), q_U]; rfl
  have j34 : J 75 34 = nI 1 := by rw [← hJ, mU_other (by decide), q_U]
  have j8 : ∀ c, c ≠ 75 → c ≠ 88 → J c = I c := fun c a b => by rw [← hJ, mU_other b, mU_other a, mU_other a, mU_other a]
  have j88 : J 88 1 = 0 := by rw [← hJ, q_U]
  generalize hr : exR B n (n - a + 1) a x0 = r
  have jx : mXf c0 I J := ⟨fun j hj => j5 j (by omega) (by omega), fun i _ => by rw [j8 86 (by decide) (by decide)], fun c a _ _ e => j8 c a e⟩
  have hK : oK I L c0 B n r a 1 J L (n - a + 1) a x0 := by
    refine ⟨⟨by dsimp only; rw [j5 14 (by decide) (by decide)]; exact hg, by dsimp only; rw [j5 15 (by decide) (by decide)], mTk_k hT (fun j a b => j5 j (by omega) (by omega)) (j8 80 (by decide) (by decide)), ⟨⟨?_, j33, fun i hi => absurd hi (Nat.not_lt_zero _), trivial⟩, j34, fun d e1 e2 => ?_⟩, jx, lF_r L⟩, xI_0 a, hb, Nat.zero_le _, by decide, rfl, by omega, hr, Nat.le_refl _⟩
    · dsimp only
      rw [j5 32 (by decide) (by decide), h32]; rfl
    · have : d = 0 := Nat.le_zero.mp e1
      subst this
      exact j88
  refine wp_B (m_operand hF ht hK rfl) ?_
  rintro ⟨J1, M1⟩ hop
  dsimp only
  unfold w_X12_expression_29
  have loop := wp_loop (body := fun self (s : Int32 × mIT × mLT) => b_X12_expression_29 Fu self s.1 s.2.1 s.2.2) (fun D (s : Int32 × mIT × mLT) => (∃ f a' x, s.1 = 1 ∧ n - a' < f ∧ exR B n f a' x = r ∧ x.2.2.1 = 0 ∧ xI x a' ∧ xB c0 x a' ∧ mPo I L c0 B n (.inr (a', x)) (s.2.1, s.2.2) ∧ D = n - a' + 2) ∨ (∃ a' x, s.1 = 0 ∧ eX I L c0 B n r a' x s.2.1 s.2.2 ∧ D = 1) ∨ (oF I L c0 B n r s.2.1 s.2.2 ∧ D = 0)) (ePx I L c0 B n r) (by
    rintro D ⟨v1, J, M⟩ self hinv hself
    dsimp only at hinv
    show wp (b_X12_expression_29 Fu self v1 J M) _
    unfold b_X12_expression_29
    rcases hinv with ⟨f, a', x, rfl, hf, hr', h0, hi, hb, hP, hD⟩ | ⟨a', x, rfl, hX, hD⟩ | ⟨hB, hD⟩
    · obtain ⟨hg, h15, hT, hx, hfr, hlf⟩ := hP
      have hP : mPo I L c0 B n (.inr (a', x)) (J, M) := ⟨hg, h15, hT, hx, hfr, hlf⟩
      dsimp only at hg h15 hT hx hfr hlf
      have ha := hT.2.1
      have hlen := (xI_len hi).1
      have hb' := hb
      unfold xB at hb'
      have hd5 : x.2.2.2.1 ≤ 5 := hi.2.2.2.1.resolve_left (by omega)
      have hn0 : x.2.2.2.2.2 = 0 := hi.2.2.2.2.2.1.resolve_left (by omega)
      have hSe : exS B n a' x = exOp B n a' x := if_pos h0
      have hvc := xI_vC hi
      -- it ends here
      have stop : exDn B n a' x = true ∨ exOp B n a' x = .inl (1, a') → wp (self (0, J, M)) (ePx I L c0 B n r) := fun hs => by
        refine hself 1 _ (by omega) (Or.inr (Or.inl ⟨a', x, rfl, ⟨hP, h0, hi, hb, ?_⟩, rfl⟩))
        by_cases e : exDn B n a' x = true
        · left
          refine ⟨e, ?_⟩
          rw [← hr']
          obtain ⟨g, rfl⟩ : ∃ g, f = g + 1 := ⟨f - 1, by omega⟩
          rw [exR, if_pos e]
        · have e' := Bool.eq_false_iff.mpr e
          right
          refine ⟨e', ?_⟩
          rw [← hr']
          exact exR_bad hf e' (by rw [hSe]; exact hs.resolve_left e)
      -- after an operator
      have go : ∀ (K : mIT) (x' : xS) (v : Int32), exOp B n a' x = .inr x' → exDn B n a' x = false → K 75 14 = 0 → K 75 15 = I 75 15 → mTk K M B n a' → mXs K c0 x' → mXf c0 I K → x'.2.2.2.1 ≤ 5 → x'.2.2.1 ≠ 0 → x'.2.2.2.2.2 = 0 → v = (if x'.2.2.1 = 2 then 1 else 0) → wp (oB (f_X12_reads Fu K M) (fun r286 => oB (f_X12_operand Fu r286.1 r286.2 v) (fun r291 => self (1, r291.1, r291.2)))) (ePx I L c0 B n r) := fun K x' v eo ed k14 k15 kT kx kf kd ks kn kv => by
        have es : exS B n a' x = .inr x' := by rw [hSe]; exact eo
        obtain ⟨g1, g2, g3, g4, g5, g6⟩ := exR_go hf ed hi es
        refine wp_B (m_nx hF ht kT) ?_
        rintro ⟨K2, N2⟩ ⟨y1, y2, y3⟩
        dsimp only at y1 y2 y3 ⊢
        have hK2 : oK I L c0 B n r (nx B n a') v K2 N2 (f - 1) (nx B n a') x' := ⟨⟨by dsimp only; rw [y2.1 14 (by omega)]; exact k14, by dsimp only; rw [y2.1 15 (by omega)]; exact k15, y1, mXs_s kx y2, mXf_s kf y2, lF_t hlf y3⟩, g6, exS_b hi es hb, kd, ks, kv, g2, by rw [← g1]; exact hr', Nat.le_refl _⟩
        refine wp_B (m_operand hF ht hK2 kn) ?_
        rintro ⟨K3, N3⟩ hy
        rcases hy with hB | ⟨f3, a3, x3, z1, z2, z3, z4, z5, z6, z7⟩
        · exact hself 0 _ (by omega) (Or.inr (Or.inr ⟨hB, rfl⟩))
        · have hz : a3 ≤ n := z6.2.2.1.2.1
          exact hself (n - a3 + 2) _ (by omega) (Or.inl ⟨f3, a3, x3, rfl, z1, z2, z3, z4, z5, z6, rfl⟩)
      -- an operator of strength t
      have hdn : ∀ c, opc B n a' = c → c ≠ 0 → exDn B n a' x = false := fun c hc hc0 => by
        refine decide_eq_false (fun q => ?_)
        have q3 := q.2.2
        have o := opc_s q3
        rw [hc] at o
        exact hc0 o
      have hcl : ∀ c, opc B n a' = c → c ≠ 0 → ¬ (sg B n a' 41 = true ∧ 0 < x.2.2.2.1) := fun c hc hc0 q => by
        have o := opc_s q.1
        rw [hc] at o
        exact hc0 o
      have join : ∀ (c : Nat) (v1 v2 : Int32) (s : Bool), opc B n a' = c → (c = 10 ∨ c = 20 ∨ c = 40 ∨ c = 41 ∨ c = 50 ∨ c = 51 ∨ c = 60 ∨ c = 61) → v2 = mC0 c → ∀ (J1 : mIT), mRs J1 c0 (pwt (max 1 (c / 10)) x.2.1 x.1).1 (pwt (max 1 (c / 10)) x.2.1 x.1).2 → mRf J J1 c0 → ∀ (g : mIT → Option (mIT × mLT)), (∀ K, mRs K c0 (jnX c x.1 x.2.1).1 (jnX c x.1 x.2.1).2 → mRf J K c0 → wp (g K) (ePx I L c0 B n r)) → wp (oB (f_X12_waitsFor Fu J1 v2) g) (ePx I L c0 B n r) := fun c v1 v2 s hc hcc hv2 J1 q1 q2 g kk => by
        have hm : max 1 (c / 10) = c / 10 := by omega
        rw [hm] at q1
        have hp := pwt_len (t := c / 10) (w := x.2.1) (out := x.1)
        refine wp_B (m_waits (c := c) hv2 q1 (by omega)) ?_
        rintro K ⟨k1, k2⟩
        refine kk K ?_ (mRf_t q2 k2)
        rw [jnX_op (by omega)]
        exact k1
      have drp : ∀ (t : Nat), t ≤ 6 → wp (f_X12_drops Fu J (nI t)) (fun J1 => mRs J1 c0 (pwt (max 1 t) x.2.1 x.1).1 (pwt (max 1 t) x.2.1 x.1).2 ∧ mRf J J1 c0) := fun t ht6 => m_drops hF ht6 hx.1 hvc (by omega) (by omega)
      have c34 : ∀ K, mRf J K c0 → K 75 34 = nI (x.2.2.2.1 + 1) := fun K kf => by rw [kf.1 34 (by decide) (by decide)]; exact hx.2.1
      have c88 : ∀ K, mRf J K c0 → K 88 = J 88 := fun K kf => kf.2.2 88 (by decide) (by decide) (by decide)
      have cg : ∀ K, mRf J K c0 → K 75 14 = 0 ∧ K 75 15 = I 75 15 ∧ mTk K M B n a' ∧ mXf c0 I K := fun K kf => ⟨by rw [kf.1 14 (by decide) (by decide)]; exact hg, by rw [kf.1 15 (by decide) (by decide)]; exact h15, mTk_c hT kf, mXf_c hfr kf⟩
      -- sums and products
      have sum : ∀ (c : Nat) (v2 : Int32), opc B n a' = c → (c = 50 ∨ c = 51 ∨ c = 60 ∨ c = 61) → v2 = mC0 c → ∀ (J1 : mIT), mRs J1 c0 (pwt (max 1 (c / 10)) x.2.1 x.1).1 (pwt (max 1 (c / 10)) x.2.1 x.1).2 → mRf J J1 c0 → wp (oB (f_X12_waitsFor Fu J1 v2) (fun r282 => oB (f_X12_reads Fu r282 M) (fun r286 => oB (f_X12_operand Fu r286.1 r286.2 0) (fun r291 => self (1, r291.1, r291.2))))) (ePx I L c0 B n r) := fun c v2 hc hcc hv2 J1 q1 q2 => by
        refine join c 1 v2 false hc (by omega) hv2 J1 q1 q2 _ (fun K k1 k2 => ?_)
        obtain ⟨e1, e2, e3, e4⟩ := cg K k2
        refine go K ((jnX c x.1 x.2.1).1, (jnX c x.1 x.2.1).2, 1, x.2.2.2.1, x.2.2.2.2.1, x.2.2.2.2.2) 0 ?_ (hdn c hc (by omega)) e1 e2 e3 ⟨k1, c34 K k2, fun d d1 d2 => by rw [c88 K k2]; exact hx.2.2 d d1 d2⟩ e4 hd5 (by dsimp only; omega) hn0 rfl
        unfold exOp
        rw [if_neg (hcl c hc (by omega)), hc, if_neg (by omega), if_neg (by omega), if_neg (by omega), if_neg (by omega), if_neg (by omega)]
      -- those that set the chain
      have chn : ∀ (c : Nat) (v2 u : Int32) (b : Bool), opc B n a' = c → ((c = 10 ∨ c = 20) ∧ b = false ∨ (c = 40 ∨ c = 41) ∧ b = true) → ¬ ((c = 40 ∨ c = 41) ∧ x.2.2.2.2.1 x.2.2.2.1 = true) → u = (if b then 0 else 1) → v2 = mC0 c → ∀ (J1 : mIT), mRs J1 c0 (pwt (max 1 (c / 10)) x.2.1 x.1).1 (pwt (max 1 (c / 10)) x.2.1 x.1).2 → mRf J J1 c0 → wp (oB (f_X12_waitsFor Fu J1 v2) (fun r161 => oG (inB (r161 75 34) 9) (oB (f_X12_reads Fu (mU r161 88 ((r161 75 34)).toNatClampNeg (if b then 1 else 0)) M) (fun r175 => oB (f_X12_operand Fu r175.1 r175.2 u) (fun r180 => self (1, r180.1, r180.2)))))) (ePx I L c0 B n r) := fun c v2 u b hc hcc hch hu hv2 J1 q1 q2 => by
        refine join c 1 v2 b hc (by omega) hv2 J1 q1 q2 _ (fun K k1 k2 => ?_)
        obtain ⟨e1, e2, e3, e4⟩ := cg K k2
        rw [c34 K k2, q_GI (by omega) (by omega), q_cl (by omega)]
        refine go _ ((jnX c x.1 x.2.1).1, (jnX c x.1 x.2.1).2, (if b then 1 else 2), x.2.2.2.1, chU x.2.2.2.2.1 x.2.2.2.1 b, x.2.2.2.2.2) u ?_ (hdn c hc (by omega)) (by rw [mU_other (by decide)]; exact e1) (by rw [mU_other (by decide)]; exact e2) (mTk_k e3 (fun j _ _ => by rw [mU_other (by decide)]) (mU_other (by decide))) ⟨mRs_k k1 (by rw [mU_other (by decide)]) (by rw [mU_other (by decide)]) (mU_other (by decide)) (mU_other (by decide)), by rw [mU_other (by decide)]; exact c34 K k2, fun d d1 d2 => ?_⟩ (mXf_t e4 ⟨fun j _ => by rw [mU_other (by decide)], fun i _ => by rw [mU_other (by decide)], fun c _ _ _ e => by rw [mU_other e]⟩) hd5 (by dsimp only; cases b <;> decide) hn0 (by rw [hu]; cases b <;> rfl)
        · unfold exOp
          rw [if_neg (hcl c hc (by omega)), hc, if_neg (by omega), if_neg hch]
          rcases hcc with ⟨h1, rfl⟩ | ⟨h1, rfl⟩
          · rw [if_pos h1, if_neg (by omega), if_pos h1]; rfl
          · rw [if_neg (by omega), if_pos h1]; rfl
        · dsimp only at d1
          show mU K 88 (x.2.2.2.1 + 1) (if b then 1 else 0) 88 (d + 1) = if chU x.2.2.2.2.1 x.2.2.2.1 b d then 1 else 0
          by_cases e : d = x.2.2.2.1
          · rw [show chU x.2.2.2.2.1 x.2.2.2.1 b d = b from if_pos e, e, q_U]
          · rw [show chU x.2.2.2.2.1 x.2.2.2.1 b d = x.2.2.2.2.1 d from if_neg e, q_Uj (by omega), c88 K k2]
            exact hx.2.2 d d1 d2
      -- comparisons
      have rest : (opc B n a' = 40 ∨ opc B n a' = 41 → x.2.2.2.2.1 x.2.2.2.1 = true) → tW B n a' ≠ 16 → tW B n a' ≠ 17 → wp (b_X12_expression_186 Fu self 1 J M) (ePx I L c0 B n r) := fun hch n16 n17 => by
        have b204 : sg B n a' 43 = true ∨ sg B n a' 45 = true → wp (b_X12_expression_204 Fu self 1 J M) (ePx I L c0 B n r) := fun hs => by
          unfold b_X12_expression_204
          refine wp_B (drp 5 (by omega)) ?_
          rintro J1 ⟨q1, q2⟩
          refine wp_Be (m_isSgn (c := 43) ht (mTk_c hT q2) (by omega)) ?_
          by_cases c43 : sg B n a' 43 = true
          · rw [if_pos c43]
            exact wp_n (by decide) (sum 50 8 (opc_s c43) (by omega) rfl J1 q1 q2)
          · rw [if_neg c43]
            exact wp_p rfl (sum 51 9 (opc_s (hs.resolve_left c43)) (by omega) rfl J1 q1 q2)
        have b259 : sg B n a' 42 = true ∨ sg B n a' 47 = true → wp (b_X12_expression_259 Fu self 1 J M) (ePx I L c0 B n r) := fun hs => by
          unfold b_X12_expression_259
          refine wp_B (drp 6 (by omega)) ?_
          rintro J1 ⟨q1, q2⟩
          refine wp_Be (m_isSgn (c := 42) ht (mTk_c hT q2) (by omega)) ?_
          by_cases c42 : sg B n a' 42 = true
          · rw [if_pos c42]
            exact wp_n (by decide) (sum 60 10 (opc_s c42) (by omega) rfl J1 q1 q2)
          · rw [if_neg c42]
            exact wp_p rfl (sum 61 11 (opc_s (hs.resolve_left c42)) (by omega) rfl J1 q1 q2)
        unfold b_X12_expression_186
        refine wp_Be (m_isSgn (c := 43) ht hT (by omega)) ?_
        by_cases c43 : sg B n a' 43 = true
        · rw [if_pos c43]
          exact wp_n (by decide) (b204 (Or.inl c43))
        rw [if_neg c43]
        refine wp_p rfl (wp_Be (m_isSgn (c := 45) ht hT (by omega)) ?_)
        by_cases c45 : sg B n a' 45 = true
        · rw [if_pos c45]
          exact wp_n (by decide) (b204 (Or.inr c45))
        rw [if_neg c45]
        refine wp_p rfl (wp_Be (m_isSgn (c := 42) ht hT (by omega)) ?_)
        by_cases c42 : sg B n a' 42 = true
        · rw [if_pos c42]
          exact wp_n (by decide) (b259 (Or.inl c42))
        rw [if_neg c42]
        refine wp_p rfl (wp_Be (m_isSgn (c := 47) ht hT (by omega)) ?_)
        by_cases c47 : sg B n a' 47 = true
        · rw [if_pos c47]
          exact wp_n (by decide) (b259 (Or.inr c47))
        rw [if_neg c47]
        refine wp_p rfl (wp_Be (m_isSgn (c := 41) ht hT (by omega)) ?_)
        have hoc : opc B n a' = 0 ∨ ((opc B n a' = 40 ∨ opc B n a' = 41) ∧ x.2.2.2.2.1 x.2.2.2.1 = true) := by
          by_cases e0 : opc B n a' = 40 ∨ opc B n a' = 41
          · exact Or.inr ⟨e0, hch e0⟩
          · left
            unfold opc at e0 ⊢
            rw [if_neg n17, if_neg n16] at e0 ⊢
            by_cases c60 : sg B n a' 60 = true
            · rw [if_pos c60] at e0; exact absurd (Or.inl rfl) e0
            · rw [if_neg c60] at e0 ⊢
              by_cases c61 : sg B n a' 61 = true
              · rw [if_pos c61] at e0; exact absurd (Or.inr rfl) e0
              · rw [if_neg c61, if_neg c43, if_neg c45, if_neg c42, if_neg c47]
        by_cases c41 : sg B n a' 41 = true
        · rw [if_pos c41]
          have o0 : opc B n a' = 0 := opc_s c41
          refine wp_n (by decide) (wp_Be (m_isOpened hF hx.1 hvc (by omega)) ?_)
          have hz : 0 ∈ x.2.1 ↔ 0 < x.2.2.2.1 := okW_0 hi.2.2.2.2.2.2.1
          by_cases cd : 0 < x.2.2.2.1
          · rw [if_pos (hz.mpr cd)]
            have h7 := hi.2.2.2.2.2.2.1
            have h8 := hi.2.2.2.2.2.2.2
            rw [if_neg (by omega)] at h7
            rw [if_pos h0] at h8
            have hcl := okW_close h7 cd h8
            refine wp_n (by decide) (wp_B (m_closes hF ht hT hx hi hb cd hcl.2.2.1) ?_)
            rintro ⟨K, N⟩ ⟨y1, y2, y3, y4, y5, y6⟩
            dsimp only at y1 y2 y3 y4 y5 y6 ⊢
            have es : exS B n a' x = .inr ((pwt 1 x.2.1 x.1).1, (pwt 1 x.2.1 x.1).2.tail, 0, x.2.2.2.1 - 1, x.2.2.2.2.1, x.2.2.2.2.2) := by
              rw [hSe]
              unfold exOp
              rw [if_pos ⟨c41, cd⟩]
            obtain ⟨g1, g2, g3, g4, g5, g6⟩ := exR_go hf (decide_eq_false (fun q => by have := q.2.1; omega)) hi es
            exact hself (n - nx B n a' + 2) _ (by omega) (Or.inl ⟨f - 1, nx B n a', _, rfl, g2, by rw [← g1]; exact hr', rfl, g6, exS_b hi es hb, ⟨by dsimp only; rw [y3]; exact hg, by dsimp only; rw [y4]; exact h15, y1, y2, mXf_t hfr y5, lF_t hlf y6⟩, rfl⟩)
          · rw [if_neg (fun q => cd (hz.mp q))]
            refine wp_p rfl (stop (Or.inr ?_))
            unfold exOp
            rw [if_neg (fun q => cd q.2), if_pos o0]
        · rw [if_neg c41]
          refine wp_p rfl (stop (Or.inr ?_))
          unfold exOp
          rw [if_neg (fun q => c41 q.1)]
          rcases hoc with o | o
          · rw [if_pos o]
          · rw [if_neg (by omega), if_pos o]
      have cmp : sg B n a' 60 = true ∨ sg B n a' 61 = true → tW B n a' ≠ 16 → tW B n a' ≠ 17 → wp (b_X12_expression_127 Fu self 1 J M) (ePx I L c0 B n r) := fun hs n16 n17 => by
        unfold b_X12_expression_127
        rw [hx.2.1, q_GI (by omega) (by omega), q_cl (by omega), hx.2.2 _ (Nat.le_refl _) (by omega)]
        by_cases ch : x.2.2.2.2.1 x.2.2.2.1 = true
        · rw [if_pos ch]
          exact wp_n (by decide) (rest (fun _ => ch) n16 n17)
        · rw [if_neg ch]
          refine wp_p rfl (wp_B (drp 4 (by omega)) ?_)
          rintro J1 ⟨q1, q2⟩
          refine wp_Be (m_isSgn (c := 60) ht (mTk_c hT q2) (by omega)) ?_
          unfold b_X12_expression_161
          by_cases c60 : sg B n a' 60 = true
          · rw [if_pos c60]
            exact wp_n (by decide) (chn 40 6 0 true (opc_s c60) (Or.inr ⟨Or.inl rfl, rfl⟩) (fun q => ch q.2) rfl rfl J1 q1 q2)
          · rw [if_neg c60]
            exact wp_p rfl (chn 41 7 0 true (opc_s (hs.resolve_left c60)) (Or.inr ⟨Or.inr rfl, rfl⟩) (fun q => ch q.2) rfl rfl J1 q1 q2)
      refine wp_n (by decide) (wp_Be (m_good1 hg) (wp_n (by decide) (wp_Be (m_knownWord hF ht hT) ?_)))
      refine wp_i (kN_is (v := 16) (by omega)) (fun c16 => ?_) (fun c16 => wp_i (kN_is (v := 17) (by omega)) (fun c17 => ?_) (fun c17 => ?_))
      · rw [c16]
        unfold b_X12_expression_57
        refine wp_p (by decide) ?_
        unfold b_X12_expression_69
        refine wp_B (drp 2 (by omega)) ?_
        rintro J1 ⟨q1, q2⟩
        refine wp_p (by decide) ?_
        unfold b_X12_expression_84
        exact chn 20 4 1 false (by unfold opc; rw [if_neg (by omega), if_pos c16]) (Or.inl ⟨Or.inr rfl, rfl⟩) (fun q => by have := q.1; omega) rfl rfl J1 q1 q2
      · rw [c17]
        unfold b_X12_expression_57
        refine wp_n (by decide) ?_
        unfold b_X12_expression_69
        refine wp_B (drp 1 (by omega)) ?_
        rintro J1 ⟨q1, q2⟩
        refine wp_n (by decide) ?_
        unfold b_X12_expression_84
        exact chn 10 5 1 false (by unfold opc; rw [if_pos c17]) (Or.inl ⟨Or.inl rfl, rfl⟩) (fun q => by have := q.1; omega) rfl rfl J1 q1 q2
      · refine wp_Be (m_isSgn (c := 60) ht hT (by omega)) ?_
        by_cases c60 : sg B n a' 60 = true
        · rw [if_pos c60]
          exact wp_n (by decide) (cmp (Or.inl c60) c16 c17)
        rw [if_neg c60]
        refine wp_p rfl (wp_Be (m_isSgn (c := 61) ht hT (by omega)) ?_)
        by_cases c61 : sg B n a' 61 = true
        · rw [if_pos c61]
          exact wp_n (by decide) (cmp (Or.inr c61) c16 c17)
        rw [if_neg c61]
        refine wp_p rfl (rest (fun q => ?_) c16 c17)
        exfalso
        unfold opc at q
        rw [if_neg c17, if_neg c16, if_neg c60, if_neg c61] at q
        split at q <;> (try split at q) <;> (try split at q) <;> (try split at q) <;> omega
    · refine wp_p rfl (m_exEnd hF h7 (Or.inr ⟨a', x, hX⟩))
    · exact wp_f (fun _ => m_exEnd hF h7 (Or.inl hB)) (fun _ => wp_Be (m_good0 (oF_ne hB)) (wp_p rfl (m_exEnd hF h7 (Or.inl hB)))))
  rcases hop with hB | ⟨f3, a3, x3, z1, z2, z3, z4, z5, z6, z7⟩
  · exact loop Fu 0 _ (Or.inr (Or.inr ⟨hB, rfl⟩)) (by omega)
  · exact loop Fu (n - a3 + 2) _ (Or.inl ⟨f3, a3, x3, rfl, z1, z2, z3, z4, z5, z6, rfl⟩) (by omega)
