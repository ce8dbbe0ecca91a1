/-! the reference reads a root's line -/
def mEc (I : mIT) (j : Nat) (b : Bool) (out : eSt) (ce : Nat) : Prop := if b = true then ∃ c, I 75 j = nI c ∧ mCo I 86 c out ∧ c + (enc out).length ≤ ce else I 75 j = -1
def mL (I : mIT) (S : lS) (ce : Nat) : Prop := I 75 25 = nI (pR S.1) ∧ I 75 26 = nI (pN S.1) ∧ I 75 27 = (if S.2.2 5 = true then pL S.1 else -1) ∧ I 75 28 = nI (pT S.1) ∧ I 75 29 = nI (pC S.1) ∧ (∀ r, r < pR S.1 → I 82 r = pK S.1 r) ∧ (∀ j, j < pN S.1 → I 83 j = pW S.1 j) ∧ (∀ j, j < pT S.1 → I 84 j = pU S.1 j) ∧ rI S.1 I 85 0 S.2.1 ∧ mEc I 30 (S.2.2 8) (pNo S.1) ce ∧ mEc I 31 (S.2.2 9) (pGr S.1) ce ∧ I 75 32 = nI ce ∧ ce ≤ 1400
theorem mE_k {I J : mIT} {j : Nat} {b : Bool} {out : eSt} {ce ce' : Nat} (h : mEc I j b out ce) (hc : ce ≤ ce') (f : J 75 j = I 75 j) (f6 : ∀ i, i < ce → J 86 i = I 86 i) : mEc J j b out ce' := by
  unfold mEc at h ⊢
  by_cases e : b = true
  · rw [if_pos e] at h ⊢
    obtain ⟨c, h1, h2, h3⟩ := h
    exact ⟨c, by rw [f]; exact h1, ⟨h2.1, fun i hi => by rw [f6 _ (by omega)]; exact h2.2 i hi⟩, by omega⟩
  · rw [if_neg e] at h ⊢
    rw [f]; exact h
/-- what the reading of a TEXT leaves as it was -/
def mFx (I J : mIT) : Prop := (∀ j, j < 14 ∨ j = 16 ∨ j = 17 ∨ 34 < j → J 75 j = I 75 j) ∧ ∀ c, c ≠ 75 → c < 82 ∨ 88 < c → J c = I c
theorem mFx_r (I : mIT) : mFx I I := ⟨fun _ _ => rfl, fun _ _ _ => rfl⟩
theorem mFx_t {I J K : mIT} (h1 : mFx I J) (h2 : mFx J K) : mFx I K := ⟨fun j hj => by rw [h2.1 j hj, h1.1 j hj], fun c a b => by rw [h2.2 c a b, h1.2 c a b]⟩
theorem mFx_s {I J K : mIT} (h1 : mFx I J) (h2 : mTf J K) : mFx I K := mFx_t h1 ⟨fun j hj => h2.1 j (by omega), fun c a _ => h2.2 c a⟩
theorem mFx_u {I J : mIT} {j : Nat} {v : Int32} (h1 : mFx I J) (hj : 14 ≤ j ∧ j ≤ 34 ∧ j ≠ 16 ∧ j ≠ 17) : mFx I (mU J 75 j v) := mFx_t h1 ⟨fun i hi => q_Uj (by omega), fun c a _ => mU_other a⟩
theorem mFx_c {I J : mIT} {c j : Nat} {v : Int32} (h1 : mFx I J) (hc : 82 ≤ c ∧ c ≤ 88) : mFx I (mU J c j v) := mFx_t h1 ⟨fun i hi => by rw [mU_other (by omega)], fun d a b => mU_other (by omega)⟩
theorem mFx_x {I J K : mIT} {c0 : Nat} (h1 : mFx I J) (h2 : mXf c0 J K) : mFx I K := mFx_t h1 ⟨fun j hj => h2.1 j (by omega), fun c a b => h2.2.2 c a (by omega) (by omega) (by omega)⟩
def mBo (I0 : mIT) (L0 : mLT) (B : Nat → Nat) (n : Nat) (r : pO (Nat × lS)) (y : mIT × mLT) : Prop := mFx I0 y.1 ∧ lF L0 y.2 ∧ match r with
  | .inl e => (y.1 75 14 = nI e.1 ∧ k15 e.1 ∧ y.1 75 15 = nI e.2) ∨ (e.1 = 1 ∧ y.1 75 14 = 0 ∧ y.1 75 15 = I0 75 15 ∧ mTk y.1 y.2 B n e.2 ∧ ¬ sg B n e.2 59 = true)
  | .inr z => y.1 75 14 = 0 ∧ y.1 75 15 = I0 75 15 ∧ mTk y.1 y.2 B n z.1 ∧ ∃ ce, mL y.1 z.2 ce ∧ ce ≤ 2 * z.1
def mBd (I : mIT) (k a : Nat) : mIT := mU (mU I 75 14 (nI k)) 75 15 (nI a)
theorem mBd_14 {I : mIT} {k a : Nat} : mBd I k a 75 14 = nI k := by unfold mBd; rw [q_Uj (by decide), q_U]
theorem mBd_15 {I : mIT} {k a : Nat} : mBd I k a 75 15 = nI a := q_U _ _ _ _
theorem m_wr {Fu : Nat} {I : mIT} {L : mLT} {B : Nat → Nat} {n a k : Nat} {v : Int32} (hv : v = nI k) (hT : mTk I L B n a) (h : I 75 14 = 0) : f_X12_wrong Fu I v = some (mBd I k a) := by
  rw [m_wrong h, hT.2.2.2.2.1, hv]
  rfl
theorem m_number0 {Fu : Nat} {I : mIT} {L : mLT} {v1 v2 : Int32} (h : I 75 14 ≠ 0) : f_X12_number Fu I L v1 v2 = some (0, I, L) := by
  unfold f_X12_number
  rw [m_good0 h, q_B, if_pos rfl]
theorem m_number {Fu : Nat} {I : mIT} {L : mLT} {B : Nat → Nat} {n a lo hi : Nat} (hF : 2200 < Fu) (ht : tpe B n) (hT : mTk I L B n a) (hg : I 75 14 = 0) (hlo : lo < 100000) (hhi : hi < 100000) : wp (f_X12_number Fu I L (nI lo) (nI hi)) (fun y => (numS B n a lo hi = 0 ∧ y.1 = nI (tN B n a) ∧ mTk y.2.1 y.2.2 B n (nx B n a) ∧ mTf I y.2.1 ∧ lF L y.2.2) ∨ (¬ numS B n a lo hi = 0 ∧ y.2.1 = mBd I (numS B n a lo hi) a ∧ y.2.2 = L)) := by
  have h700 := ht.1
  have hK := tK_4 (B := B) (n := n) (a := a)
  have hE := tE_le (B := B) hT.2.1
  obtain ⟨t1, t2, t3, t4, t5, t6, t7, t8, t9⟩ := hT
  have hT : mTk I L B n a := ⟨t1, t2, t3, t4, t5, t6, t7, t8, t9⟩
  unfold f_X12_number
  refine wp_Be (m_good1 hg) (wp_n (by decide) ?_)
  rw [t4, t6]
  refine wp_i (q_eq (b := 2) (by omega) (by omega)) (fun c2 => ?_) (fun c2 => ?_)
  · rw [if_pos c2] at t7
    have hN := tN_lt (B := B) (n := n) (a := a) c2
    rw [t7, show (4 : Int32) = nI 4 from rfl]
    have bad : ¬ (tE B n a - a ≤ 4 ∧ lo ≤ tN B n a ∧ tN B n a ≤ hi) → wp (b_X12_number_49 Fu I L) (fun y => (numS B n a lo hi = 0 ∧ y.1 = nI (tN B n a) ∧ mTk y.2.1 y.2.2 B n (nx B n a) ∧ mTf I y.2.1 ∧ lF L y.2.2) ∨ (¬ numS B n a lo hi = 0 ∧ y.2.1 = mBd I (numS B n a lo hi) a ∧ y.2.2 = L)) := fun q => by
      have e2 : numS B n a lo hi = 2 := by unfold numS; rw [if_pos c2, if_neg q]
      unfold b_X12_number_49
      refine wp_Be (m_wr (k := 2) rfl hT hg) (wp_Be (m_good0 (by rw [mBd_14]; decide)) (wp_p rfl (wp_s (Or.inr ?_))))
      rw [e2]
      exact ⟨by decide, rfl, rfl⟩
    refine wp_i (q_lt (by omega) (by omega)) (fun c4 => bad (by omega)) (fun c4 => ?_)
    refine wp_i (q_lt (by omega) (by omega)) (fun cl => bad (by omega)) (fun cl => ?_)
    refine wp_i (q_le (by omega) (by omega)) (fun ch => ?_) (fun ch => bad (by omega))
    refine wp_Be (m_good1 hg) (wp_n (by decide) (wp_B (m_nx hF ht hT) ?_))
    rintro y ⟨y1, y2, y3⟩
    refine wp_s (Or.inl ⟨?_, rfl, y1, y2, y3⟩)
    unfold numS
    rw [if_pos c2, if_pos (by omega)]
  · refine wp_Be (m_wr (k := 1) rfl hT hg) (wp_Be (m_good0 (by rw [mBd_14]; decide)) (wp_p rfl (wp_s (Or.inr ?_))))
    have e1 : numS B n a lo hi = 1 := by unfold numS; rw [if_neg c2]
    rw [e1]
    exact ⟨by decide, rfl, rfl⟩
theorem mTk_uu {I : mIT} {L : mLT} {B : Nat → Nat} {n a j : Nat} {v : Int32} (h : mTk I L B n a) (hj : 23 < j) : mTk (mU I 75 j v) L B n a := mTk_k h (fun i _ _ => q_Uj (by omega)) (mU_other (by decide))
theorem m_hangsT {Fu : Nat} {K : mIT} {S : lS} {v : Int32} (hF : 2200 < Fu) (h10 : pR S.1 ≤ 10) (h25 : K 75 25 = nI (pR S.1)) (h85 : ∀ q, q < pR S.1 → K 85 (31 + q) = S.2.1 (31 + q)) : wp (f_X12_hangsThere Fu K v) (fun y => (hgT S v ∧ y = 1) ∨ (¬ hgT S v ∧ y = 0)) := by
  unfold f_X12_hangsThere w_X12_hangsThere_2
  refine wp_loop (fun d (s : Int32 × Int32) => ∃ i, i ≤ pR S.1 ∧ s.1 = v ∧ s.2 = nI i ∧ d = pR S.1 - i ∧ ∀ q, q < i → S.2.1 (31 + q) ≠ v) _ ?_ Fu (pR S.1) _ ⟨0, Nat.zero_le _, rfl, rfl, rfl, fun q hq => absurd hq (Nat.not_lt_zero _)⟩ (by omega)
  rintro d ⟨v1, v2⟩ self ⟨i, hi, e1, e2, hd, hq⟩ hself
  dsimp only at e1 e2
  subst e1 e2
  show wp (b_X12_hangsThere_2 Fu K self v1 (nI i)) _
  unfold b_X12_hangsThere_2
  rw [h25]
  refine wp_i (q_le (by omega) (by omega)) (fun c => ?_) (fun c => ?_)
  · refine wp_s (Or.inr ⟨?_, rfl⟩)
    rintro ⟨q, q1, q2⟩
    exact hq q (by omega) q2
  · rw [show (31 : Int32) + nI i = nI (31 + i) from nI_add 31 i, q_GI (by omega) (by omega), q_cl (by omega), h85 i (by omega)]
    refine wp_f (fun c2 => wp_s (Or.inl ⟨⟨i, by omega, c2⟩, rfl⟩)) (fun c2 => ?_)
    rw [q_1]
    refine hself (pR S.1 - (i + 1)) _ (by omega) ⟨i + 1, by omega, rfl, rfl, rfl, fun q q1 => ?_⟩
    by_cases e : q = i
    · rw [e]; exact c2
    · exact hq q (by omega)
/-- while a root's line is read -/
def mRt (I J : mIT) (r : Nat) : Prop := (∀ j, j < 14 ∨ (15 < j ∧ j < 18) ∨ 23 < j → J 75 j = I 75 j) ∧ (∀ j, j ≠ r → J 82 j = I 82 j) ∧ (∀ j, j ≠ 1 + r → j ≠ 11 + r → j ≠ 21 + r → j ≠ 31 + r → J 85 j = I 85 j) ∧ ∀ c, c ≠ 75 → c ≠ 82 → c ≠ 85 → J c = I c
theorem mRt_r (I : mIT) (r : Nat) : mRt I I r := ⟨fun _ _ => rfl, fun _ _ => rfl, fun _ _ _ _ _ => rfl, fun _ _ _ _ => rfl⟩
theorem mRt_t {I J K : mIT} {r : Nat} (h1 : mRt I J r) (h2 : mRt J K r) : mRt I K r := ⟨fun j hj => by rw [h2.1 j hj, h1.1 j hj], fun j hj => by rw [h2.2.1 j hj, h1.2.1 j hj], fun j a b c d => by rw [h2.2.2.1 j a b c d, h1.2.2.1 j a b c d], fun c a b d => by rw [h2.2.2.2 c a b d, h1.2.2.2 c a b d]⟩
theorem mRt_s {I J K : mIT} {r : Nat} (h1 : mRt I J r) (h2 : mTf J K) : mRt I K r := mRt_t h1 ⟨fun j hj => h2.1 j (by omega), fun j _ => by rw [h2.2 82 (by decide)], fun j _ _ _ _ => by rw [h2.2 85 (by decide)], fun c a _ _ => h2.2 c a⟩
theorem mRt_2 {I J : mIT} {r : Nat} {v : Int32} (h1 : mRt I J r) : mRt I (mU J 82 r v) r := mRt_t h1 ⟨fun j _ => by rw [mU_other (by decide)], fun j hj => q_Uj hj, fun j _ _ _ _ => by rw [mU_other (by decide)], fun c _ b _ => mU_other b⟩
theorem mRt_5 {I J : mIT} {r i : Nat} {v : Int32} (h1 : mRt I J r) (hi : i = 1 + r ∨ i = 11 + r ∨ i = 21 + r ∨ i = 31 + r) : mRt I (mU J 85 i v) r := mRt_t h1 ⟨fun j _ => by rw [mU_other (by decide)], fun j hj => by rw [mU_other (by decide)], fun j a b c d => q_Uj (by omega), fun c _ _ d => mU_other d⟩
theorem mRt_b {I J : mIT} {r k a : Nat} (h1 : mRt I J r) : mRt I (mBd J k a) r := mRt_t h1 ⟨fun j hj => by unfold mBd; rw [q_Uj (by omega), q_Uj (by omega)], fun j _ => by unfold mBd; rw [mU_other (by decide), mU_other (by decide)], fun j _ _ _ _ => by unfold mBd; rw [mU_other (by decide), mU_other (by decide)], fun c a _ _ => by unfold mBd; rw [mU_other a, mU_other a]⟩
theorem mRt_x {I J : mIT} {r : Nat} (h : mRt I J r) : mFx I J := ⟨fun j hj => h.1 j (by omega), fun c a b => h.2.2.2 c a (by omega) (by omega)⟩
theorem mL_add {I J : mIT} {S : lS} {ce : Nat} {k s h pl : Int32} (hL : mL I S ce) (h10 : pR S.1 < 10) (f : mRt I J (pR S.1)) (hk : J 82 (pR S.1) = k) (h1 : J 85 (1 + pR S.1) = s) (h2 : J 85 (11 + pR S.1) = h) (h3 : J 85 (21 + pR S.1) = 0) (h4 : J 85 (31 + pR S.1) = pl) : mL (mU J 75 25 (nI (pR S.1 + 1))) (addR S k s h pl) ce := by
  obtain ⟨l1, l2, l3, l4, l5, l6, l7, l8, l9, l10, l11, l12, l13⟩ := hL
  have o : ∀ j, j ≠ 25 → (23 < j) → (mU J 75 25 (nI (pR S.1 + 1))) 75 j = I 75 j := fun j a b => by rw [q_Uj a]; exact f.1 j (by omega)
  refine ⟨q_U _ _ _ _, ?_, ?_, ?_, ?_, fun r hr => ?_, fun j hj => ?_, fun j hj => ?_, fun j hj => ?_, ?_, ?_, ?_, l13⟩
  · rw [o 26 (by decide) (by decide)]; exact l2
  · rw [o 27 (by decide) (by decide)]; exact l3
  · rw [o 28 (by decide) (by decide)]; exact l4
  · rw [o 29 (by decide) (by decide)]; exact l5
  · have hr' : r < pR S.1 + 1 := hr
    show _ = if r = pR S.1 then k else pK S.1 r
    rw [mU_other (by decide)]
    by_cases e : r = pR S.1
    · rw [if_pos e, e]; exact hk
    · rw [if_neg e, f.2.1 r e]; exact l6 r (by omega)
  · rw [mU_other (by decide), f.2.2.2 83 (by decide) (by decide) (by decide)]; exact l7 j hj
  · rw [mU_other (by decide), f.2.2.2 84 (by decide) (by decide) (by decide)]; exact l8 j hj
  · rw [mU_other (by decide), Nat.zero_add]
    show _ = if j = 1 + pR S.1 then s else if j = 11 + pR S.1 then h else if j = 21 + pR S.1 then 0 else if j = 31 + pR S.1 then pl else S.2.1 j
    by_cases e1 : j = 1 + pR S.1
    · rw [if_pos e1, e1]; exact h1
    by_cases e2 : j = 11 + pR S.1
    · rw [if_neg e1, if_pos e2, e2]; exact h2
    by_cases e3 : j = 21 + pR S.1
    · rw [if_neg e1, if_neg e2, if_pos e3, e3]; exact h3
    by_cases e4 : j = 31 + pR S.1
    · rw [if_neg e1, if_neg e2, if_neg e3, if_pos e4, e4]; exact h4
    rw [if_neg e1, if_neg e2, if_neg e3, if_neg e4, f.2.2.1 j e1 e2 e3 e4]
    have hl : live S.1 j := by
      have e5 : pR (addR S k s h pl).1 = pR S.1 + 1 := rfl
      have e6 : pC (addR S k s h pl).1 = pC S.1 := rfl
      unfold live at hj ⊢
      rw [e5, e6] at hj
      omega
    have := l9 j hl
    rw [Nat.zero_add] at this
    exact this
  · exact mE_k l10 (Nat.le_refl _) (o 30 (by decide) (by decide)) (fun i _ => by rw [mU_other (by decide), f.2.2.2 86 (by decide) (by decide) (by decide)])
  · exact mE_k l11 (Nat.le_refl _) (o 31 (by decide) (by decide)) (fun i _ => by rw [mU_other (by decide), f.2.2.2 86 (by decide) (by decide) (by decide)])
  · rw [o 32 (by decide) (by decide)]; exact l12
