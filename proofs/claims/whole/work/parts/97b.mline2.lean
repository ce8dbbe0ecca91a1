theorem mBd_f {I : mIT} {k a : Nat} : mFx I (mBd I k a) := mFx_u (mFx_u (mFx_r I) (by omega)) (by omega)
theorem tW_len {B : Nat → Nat} {n a v : Nat} (hv : v < 19) (h : tW B n a = v) (ha : a ≤ n) : a + (wL v).length ≤ nx B n a := by
  have h1 := (tW_is hv).mp h
  have h2 := tE_le (B := B) ha
  have h3 := tA_n (B := B) h2.1
  unfold nx
  omega
theorem m_line {Fu : Nat} {I : mIT} {L : mLT} {B : Nat → Nat} {n a ce : Nat} {S : lS} (hF : 2200 < Fu) (ht : tpe B n) (hT : mTk I L B n a) (hg : I 75 14 = 0) (hL : mL I S ce) (hce : ce ≤ 2 * a) (ho : okS S) : wp (f_X12_line Fu I L) (mLo I L B n (leS B n (bdS B n a S))) := by
  have h700 := ht.1
  have ha := hT.2.1
  have hw := tW_lt (B := B) (n := n) (a := a)
  have hn1 := nx_ge (B := B) ha
  obtain ⟨o1, o2, o3, o4, o5, o6, o7, o8, o9, o10, o11, o12, o13, o14⟩ := ho
  unfold f_X12_line
  refine wp_Be (m_knownWord hF ht hT) ?_
  generalize hwd : tW B n a = w at hw
  -- a line seen twice
  have twice : bdS B n a S = .inl (5, a) → wp (oB (f_X12_isSign Fu (mBd I 5 a) 59) (fun r297 => oB (f_X12_need Fu (mBd I 5 a) L r297) (fun r300 => some (r300.1, r300.2)))) (mLo I L B n (leS B n (bdS B n a S))) := fun e => by
    rw [e]
    exact m_tail hF ht ⟨mBd_f, lF_r L, Or.inl ⟨mBd_14 (I := I) (k := 5) (a := a), k15_5, mBd_15 (I := I) (k := 5) (a := a)⟩⟩
  have bdk : ∀ k, lwd w = k → 4 ≤ k → k ≤ 9 → bdS B n a S = if S.2.2 k = true then .inl (5, a) else bdK B n (nx B n a) S k := fun k hk k4 k9 => by
    unfold bdS
    rw [hwd, hk, if_neg (by omega), if_neg (by omega)]
  by_cases r7 : 7 ≤ w ∧ w ≤ 10
  · have ek : kN w = nI w := by unfold kN; rw [if_neg (by omega)]
    have el : lwd w = w - 7 := by
      rcases (by omega : w = 7 ∨ w = 8 ∨ w = 9 ∨ w = 10) with rfl | rfl | rfl | rfl <;> rfl
    rw [ek]
    refine wp_n (by rw [show (7 : Int32) = nI 7 from rfl, q_lt (by omega) (by omega)]; omega) (wp_n (by rw [show (10 : Int32) = nI 10 from rfl, q_lt (by omega) (by omega)]; omega) ?_)
    rw [show nI w - (7 : Int32) = nI (w - 7) from pk_sub (b := 7) (by omega)]
    refine wp_B (m_root hF ht hT hg hL hce o1) ?_
    rintro y hy
    have eb : bdS B n a S = rtS B n a S (nI (w - 7)) := by
      unfold bdS
      rw [hwd, el, if_neg (by omega), if_pos (by omega)]
    rw [eb]
    exact m_tail hF ht hy
  have b28 : wp (b_X12_line_28 Fu (kN w) I L) (mLo I L B n (leS B n (bdS B n a S))) := by
    unfold b_X12_line_28
    have kis : ∀ v, v < 19 → (kN w = nI v) = (w = v) := fun v hv => by rw [← hwd]; exact kN_is hv
    refine wp_i (kis 4 (by omega)) (fun c => ?_) (fun n4 => ?_)
    · have eb := bdk 4 (by rw [c]; rfl) (by omega) (by omega)
      rw [hL.2.1]
      refine wp_i (q_le0 (by omega)) (fun q => ?_) (fun q => ?_)
      · rw [o9, decide_eq_false (by omega), if_neg Bool.false_ne_true] at eb
        unfold b_X12_line_46
        refine wp_B (m_begin1 hF ht hT hg) ?_
        rintro ⟨v, J, M⟩ ⟨y1, y2, y3, y4⟩
        dsimp only at y1 y2 y3 y4 ⊢
        refine wp_n (by rw [y1]; decide) (wp_B (m_rowL (off := 0) (mx := 10) (hi := 9) (ch := false) hF ht (by decide) (by decide) (by decide) (by omega) (by omega) (by decide) y2 (by rw [y3.1 14 (by omega)]; exact hg)) ?_)
        rintro ⟨v2, K, N⟩ ⟨z1, z2, z3⟩
        dsimp only at z1 z2 z3 ⊢
        refine m_tail hF ht ?_
        rw [eb]
        have eK : bdK B n (nx B n a) S 4 = rwL (setW S) (rwS B n 10 9 false (n - nx B n a + 1) (nx B n a) []) := by unfold bdK; rw [if_pos rfl]
        rw [eK]
        refine ⟨mFx_u (mFx_t (mFx_s (mFx_r I) y3) (mRo_x (by omega) z1)) (by omega), lF_t y4 z2, ?_⟩
        cases er : rwS B n 10 9 false (n - nx B n a + 1) (nx B n a) [] with
        | inl e =>
          rw [er] at z3
          exact Or.inl ⟨by dsimp only; rw [q_Uj (by decide)]; exact z3.1, z3.2.1, by dsimp only; rw [q_Uj (by decide)]; exact z3.2.2⟩
        | inr z =>
          rw [er] at z3
          obtain ⟨w1, w2, w3, w4, w5⟩ := z3
          have hz := rwS_ge _ _ _ _ hn1.2 er
          refine ⟨by dsimp only; rw [q_Uj (by decide)]; exact w2, by dsimp only; rw [q_Uj (by decide), w3, y3.1 15 (by omega)], mTk_uu w4 (by omega), ce, ?_, by dsimp only; omega⟩
          dsimp only
          rw [w1]
          exact mL_W (mL_s hL y3) z1 w5
      · rw [o9, decide_eq_true (by omega), if_pos rfl] at eb
        unfold b_X12_line_46
        exact wp_Be (m_begin0 hT hg) (wp_p rfl (twice eb))
    refine wp_i (kis 11 (by omega)) (fun c => ?_) (fun n11 => ?_)
    · have eb := bdk 5 (by rw [c]; rfl) (by omega) (by omega)
      rw [hL.2.2.1]
      by_cases q : S.2.2 5 = true
      · rw [if_pos q] at eb ⊢
        refine wp_n ?_ ?_
        · intro e
          have := o3.1
          rw [e] at this
          exact absurd this (by decide)
        · unfold b_X12_line_93
          exact wp_Be (m_begin0 hT hg) (wp_p rfl (twice eb))
      · rw [if_neg q] at eb ⊢
        refine wp_p rfl ?_
        unfold b_X12_line_93
        refine wp_B (m_begin1 hF ht hT hg) ?_
        rintro ⟨v, J, M⟩ ⟨y1, y2, y3, y4⟩
        dsimp only at y1 y2 y3 y4 ⊢
        refine wp_n (by rw [y1]; decide) (wp_B (m_number (lo := 1) (hi := 99) hF ht y2 (by rw [y3.1 14 (by omega)]; exact hg) (by omega) (by omega)) ?_)
        rintro ⟨v2, K, N⟩ hy
        dsimp only at hy ⊢
        refine m_tail hF ht ?_
        rw [eb]
        have eK : bdK B n (nx B n a) S 5 = lsS B n (nx B n a) S := by unfold bdK; rw [if_neg (by decide), if_pos rfl]
        rw [eK]
        unfold lsS
        have hn2 := nx_ge (B := B) hn1.2
        rcases hy with ⟨e, z1, z2, z3, z4⟩ | ⟨e, z1, z2⟩
        · rw [if_pos e]
          refine ⟨mFx_u (mFx_s (mFx_s (mFx_r I) y3) z3) (by omega), lF_t y4 z4, by dsimp only; rw [q_Uj (by decide), z3.1 14 (by omega), y3.1 14 (by omega)]; exact hg, by dsimp only; rw [q_Uj (by decide), z3.1 15 (by omega), y3.1 15 (by omega)], mTk_uu z2 (by omega), ce, ?_, by dsimp only; omega⟩
          dsimp only
          rw [z1]
          exact mL_L (mL_s (mL_s hL y3) z3)
        · rw [if_neg e]
          refine ⟨?_, by dsimp only; rw [z2]; exact y4, Or.inl ⟨by dsimp only; rw [q_Uj (by decide), z1, mBd_14], numS_k e, by dsimp only; rw [q_Uj (by decide), z1, mBd_15]⟩⟩
          dsimp only
          rw [z1]
          exact mFx_u (mFx_t (mFx_s (mFx_r I) y3) mBd_f) (by omega)
    refine wp_i (kis 12 (by omega)) (fun c => ?_) (fun n12 => ?_)
    · have eb := bdk 6 (by rw [c]; rfl) (by omega) (by omega)
      rw [hL.2.2.2.1]
      refine wp_i (q_le0 (by omega)) (fun q => ?_) (fun q => ?_)
      · rw [o10, decide_eq_false (by omega), if_neg Bool.false_ne_true] at eb
        unfold b_X12_line_132
        refine wp_B (m_begin1 hF ht hT hg) ?_
        rintro ⟨v, J, M⟩ ⟨y1, y2, y3, y4⟩
        dsimp only at y1 y2 y3 y4 ⊢
        refine wp_n (by rw [y1]; decide) (wp_B (m_rowL (off := 0) (mx := 8) (hi := 15) (ch := false) hF ht (by decide) (by decide) (by decide) (by omega) (by omega) (by decide) y2 (by rw [y3.1 14 (by omega)]; exact hg)) ?_)
        rintro ⟨v2, K, N⟩ ⟨z1, z2, z3⟩
        dsimp only at z1 z2 z3 ⊢
        refine m_tail hF ht ?_
        rw [eb]
        have eK : bdK B n (nx B n a) S 6 = rwL (setU S) (rwS B n 8 15 false (n - nx B n a + 1) (nx B n a) []) := by unfold bdK; rw [if_neg (by decide), if_neg (by decide), if_pos rfl]
        rw [eK]
        refine ⟨mFx_u (mFx_t (mFx_s (mFx_r I) y3) (mRo_x (by omega) z1)) (by omega), lF_t y4 z2, ?_⟩
        cases er : rwS B n 8 15 false (n - nx B n a + 1) (nx B n a) [] with
        | inl e =>
          rw [er] at z3
          exact Or.inl ⟨by dsimp only; rw [q_Uj (by decide)]; exact z3.1, z3.2.1, by dsimp only; rw [q_Uj (by decide)]; exact z3.2.2⟩
        | inr z =>
          rw [er] at z3
          obtain ⟨w1, w2, w3, w4, w5⟩ := z3
          have hz := rwS_ge _ _ _ _ hn1.2 er
          refine ⟨by dsimp only; rw [q_Uj (by decide)]; exact w2, by dsimp only; rw [q_Uj (by decide), w3, y3.1 15 (by omega)], mTk_uu w4 (by omega), ce, ?_, by dsimp only; omega⟩
          dsimp only
          rw [w1]
          exact mL_U (mL_s hL y3) z1 w5
      · rw [o10, decide_eq_true (by omega), if_pos rfl] at eb
        unfold b_X12_line_132
        exact wp_Be (m_begin0 hT hg) (wp_p rfl (twice eb))
    refine wp_i (kis 13 (by omega)) (fun c => ?_) (fun n13 => ?_)
    · have eb := bdk 7 (by rw [c]; rfl) (by omega) (by omega)
      rw [hL.2.2.2.2.1]
      refine wp_i (q_le0 (by omega)) (fun q => ?_) (fun q => ?_)
      · rw [o11, decide_eq_false (by omega), if_neg Bool.false_ne_true] at eb
        unfold b_X12_line_178
        refine wp_B (m_begin1 hF ht hT hg) ?_
        rintro ⟨v, J, M⟩ ⟨y1, y2, y3, y4⟩
        dsimp only at y1 y2 y3 y4 ⊢
        refine wp_n (by rw [y1]; decide) (wp_B (m_rowL (off := 41) (mx := 12) (hi := 31) (ch := true) hF ht (by decide) (by decide) (by decide) (by omega) (by omega) (by decide) y2 (by rw [y3.1 14 (by omega)]; exact hg)) ?_)
        rintro ⟨v2, K, N⟩ ⟨z1, z2, z3⟩
        dsimp only at z1 z2 z3 ⊢
        refine m_tail hF ht ?_
        rw [eb]
        have eK : bdK B n (nx B n a) S 7 = rwL (setM S) (rwS B n 12 31 true (n - nx B n a + 1) (nx B n a) []) := by unfold bdK; rw [if_neg (by decide), if_neg (by decide), if_neg (by decide), if_pos rfl]
        rw [eK]
        refine ⟨mFx_u (mFx_t (mFx_s (mFx_r I) y3) (mRo_x (by omega) z1)) (by omega), lF_t y4 z2, ?_⟩
        cases er : rwS B n 12 31 true (n - nx B n a + 1) (nx B n a) [] with
        | inl e =>
          rw [er] at z3
          exact Or.inl ⟨by dsimp only; rw [q_Uj (by decide)]; exact z3.1, z3.2.1, by dsimp only; rw [q_Uj (by decide)]; exact z3.2.2⟩
        | inr z =>
          rw [er] at z3
          obtain ⟨w1, w2, w3, w4, w5⟩ := z3
          have hz := rwS_ge _ _ _ _ hn1.2 er
          refine ⟨by dsimp only; rw [q_Uj (by decide)]; exact w2, by dsimp only; rw [q_Uj (by decide), w3, y3.1 15 (by omega)], mTk_uu w4 (by omega), ce, ?_, by dsimp only; omega⟩
          dsimp only
          rw [w1]
          exact mL_M (mL_s hL y3) o1 z1 w5
      · rw [o11, decide_eq_true (by omega), if_pos rfl] at eb
        unfold b_X12_line_178
        exact wp_Be (m_begin0 hT hg) (wp_p rfl (twice eb))
    refine wp_i (kis 14 (by omega)) (fun c => ?_) (fun n14 => ?_)
    · have eb := bdk 8 (by rw [c]; rfl) (by omega) (by omega)
      have hE := hL.2.2.2.2.2.2.2.2.2.1
      unfold mEc at hE
      by_cases q : S.2.2 8 = true
      · rw [if_pos q] at eb hE
        obtain ⟨c', hc1, hc2, hc3⟩ := hE
        have := hc2.1
        rw [hc1]
        refine wp_n (by rw [q_eqm1 (by omega)]; exact id) ?_
        unfold b_X12_line_226
        exact wp_Be (m_begin0 hT hg) (wp_p rfl (twice eb))
      · rw [if_neg q] at eb hE
        rw [hE]
        refine wp_p rfl ?_
        unfold b_X12_line_226
        refine wp_B (m_begin1 hF ht hT hg) ?_
        rintro ⟨v, J, M⟩ ⟨y1, y2, y3, y4⟩
        dsimp only at y1 y2 y3 y4 ⊢
        have hLJ := mL_s hL y3
        have J32 : J 75 32 = nI ce := hLJ.2.2.2.2.2.2.2.2.2.2.2.1
        rw [J32]
        have hl := tW_len (v := 14) (by omega) (by rw [hwd, c]) ha
        have hl' : a + 4 ≤ nx B n a := hl
        have JT : mTk (mU J 75 30 (nI ce)) M B n (nx B n a) := mTk_uu y2 (by omega)
        refine wp_n (by rw [y1]; decide) (wp_B (m_expr (c0 := ce) hF ht JT (by rw [q_Uj (by decide), y3.1 14 (by omega)]; exact hg) (by rw [q_Uj (by decide)]; exact J32) (by omega)) ?_)
        rintro ⟨K, N⟩ ⟨z1, z2, z3⟩
        dsimp only at z1 z2 z3 ⊢
        refine m_tail hF ht ?_
        rw [eb]
        have eK : bdK B n (nx B n a) S 8 = exL (setN S) (exR B n (n - nx B n a + 1) (nx B n a) x0) := by unfold bdK; rw [if_neg (by decide), if_neg (by decide), if_neg (by decide), if_neg (by decide), if_pos rfl]
        rw [eK]
        have e15 : (mU J 75 30 (nI ce)) 75 15 = I 75 15 := by rw [q_Uj (by decide), y3.1 15 (by omega)]
        refine ⟨mFx_x (mFx_u (mFx_s (mFx_r I) y3) (by omega)) z1, lF_t y4 z2, ?_⟩
        rcases z3 with ⟨e, w1, w2, w3, w4⟩ | ⟨a', w1, w2, w3, w4, w5⟩ | ⟨a', x, w1, w2, w3, w4, w5, w6, w7, w8, w9⟩
        · rw [w1]
          exact Or.inl ⟨w2, w3, w4⟩
        · rw [w1]
          exact Or.inr ⟨rfl, w2, by rw [← e15]; exact w3, w4, w5⟩
        · rw [w1]
          exact ⟨w4, by rw [← e15]; exact w5, w6, _, mL_N hLJ z1 w7 w8, w9⟩
    refine wp_i (kis 15 (by omega)) (fun c => ?_) (fun n15 => ?_)
    · have eb := bdk 9 (by rw [c]; rfl) (by omega) (by omega)
      have hE := hL.2.2.2.2.2.2.2.2.2.2.1
      unfold mEc at hE
      by_cases q : S.2.2 9 = true
      · rw [if_pos q] at eb hE
        obtain ⟨c', hc1, hc2, hc3⟩ := hE
        have := hc2.1
        rw [hc1]
        refine wp_n (by rw [q_eqm1 (by omega)]; exact id) ?_
        unfold b_X12_line_267
        exact wp_Be (m_begin0 hT hg) (wp_p rfl (twice eb))
      · rw [if_neg q] at eb hE
        rw [hE]
        refine wp_p rfl ?_
        unfold b_X12_line_267
        refine wp_B (m_begin1 hF ht hT hg) ?_
        rintro ⟨v, J, M⟩ ⟨y1, y2, y3, y4⟩
        dsimp only at y1 y2 y3 y4 ⊢
        have hLJ := mL_s hL y3
        have J32 : J 75 32 = nI ce := hLJ.2.2.2.2.2.2.2.2.2.2.2.1
        rw [J32]
        have hl := tW_len (v := 15) (by omega) (by rw [hwd, c]) ha
        have hl' : a + 5 ≤ nx B n a := hl
        have JT : mTk (mU J 75 31 (nI ce)) M B n (nx B n a) := mTk_uu y2 (by omega)
        refine wp_n (by rw [y1]; decide) (wp_B (m_expr (c0 := ce) hF ht JT (by rw [q_Uj (by decide), y3.1 14 (by omega)]; exact hg) (by rw [q_Uj (by decide)]; exact J32) (by omega)) ?_)
        rintro ⟨K, N⟩ ⟨z1, z2, z3⟩
        dsimp only at z1 z2 z3 ⊢
        refine m_tail hF ht ?_
        rw [eb]
        have eK : bdK B n (nx B n a) S 9 = exL (setG S) (exR B n (n - nx B n a + 1) (nx B n a) x0) := by unfold bdK; rw [if_neg (by decide), if_neg (by decide), if_neg (by decide), if_neg (by decide), if_neg (by decide)]
        rw [eK]
        have e15 : (mU J 75 31 (nI ce)) 75 15 = I 75 15 := by rw [q_Uj (by decide), y3.1 15 (by omega)]
        refine ⟨mFx_x (mFx_u (mFx_s (mFx_r I) y3) (by omega)) z1, lF_t y4 z2, ?_⟩
        rcases z3 with ⟨e, w1, w2, w3, w4⟩ | ⟨a', w1, w2, w3, w4, w5⟩ | ⟨a', x, w1, w2, w3, w4, w5, w6, w7, w8, w9⟩
        · rw [w1]
          exact Or.inl ⟨w2, w3, w4⟩
        · rw [w1]
          exact Or.inr ⟨rfl, w2, by rw [← e15]; exact w3, w4, w5⟩
        · rw [w1]
          exact ⟨w4, by rw [← e15]; exact w5, w6, _, mL_G hLJ z1 w7 w8, w9⟩
    have eb : bdS B n a S = .inl (1, a) := by
      have e : lwd w = 10 := by
        unfold lwd
        rw [if_neg (by omega), if_neg (by omega), if_neg (by omega), if_neg (by omega), if_neg n4, if_neg n11, if_neg n12, if_neg n13, if_neg n14, if_neg n15]
      unfold bdS
      rw [hwd, e, if_pos rfl]
    rw [eb]
    exact wp_Be (m_wr (k := 1) rfl hT hg) (m_tail hF ht ⟨mBd_f, lF_r L, Or.inl ⟨mBd_14 (I := I) (k := 1) (a := a), k15_1, mBd_15 (I := I) (k := 1) (a := a)⟩⟩)
  refine wp_f (fun _ => b28) (fun c7 => wp_f (fun _ => b28) (fun c10 => ?_))
  exfalso
  unfold kN at c7 c10
  by_cases e9 : w = 9999
  · rw [if_pos e9] at c7; exact c7 (by decide)
  · rw [if_neg e9, show (7 : Int32) = nI 7 from rfl, q_lt (by omega) (by omega)] at c7
    rw [if_neg e9, show (10 : Int32) = nI 10 from rfl, q_lt (by omega) (by omega)] at c10
    omega
