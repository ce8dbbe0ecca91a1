/-! the reference reads a row of numbers -/
def mRoF (k1 off : Nat) (I J : mIT) : Prop := (∀ j, j < 14 ∨ (15 < j ∧ j < 18) ∨ 23 < j → J 75 j = I 75 j) ∧ (∀ j, j < off → J k1 j = I k1 j) ∧ ∀ c, c ≠ 75 → c ≠ k1 → J c = I c
theorem mRo_r (k1 off : Nat) (I : mIT) : mRoF k1 off I I := ⟨fun _ _ => rfl, fun _ _ => rfl, fun _ _ _ => rfl⟩
theorem mRo_t {k1 off : Nat} {I J K : mIT} (h1 : mRoF k1 off I J) (h2 : mRoF k1 off J K) : mRoF k1 off I K := ⟨fun j hj => by rw [h2.1 j hj, h1.1 j hj], fun j hj => by rw [h2.2.1 j hj, h1.2.1 j hj], fun c a b => by rw [h2.2.2 c a b, h1.2.2 c a b]⟩
theorem mRo_s {k1 off : Nat} {I J K : mIT} (hk : k1 ≠ 75) (h1 : mRoF k1 off I J) (h2 : mTf J K) : mRoF k1 off I K := mRo_t h1 ⟨fun j hj => h2.1 j (by omega), fun j _ => by rw [h2.2 k1 hk], fun c a _ => h2.2 c a⟩
theorem mRo_b {k1 off k a : Nat} {I J : mIT} (hk : k1 ≠ 75) (h1 : mRoF k1 off I J) : mRoF k1 off I (mBd J k a) := mRo_t h1 ⟨fun j hj => by unfold mBd; rw [q_Uj (by omega), q_Uj (by omega)], fun j _ => by unfold mBd; rw [mU_other hk, mU_other hk], fun c a _ => by unfold mBd; rw [mU_other a, mU_other a]⟩
theorem mRo_k {k1 off j : Nat} {I J : mIT} {v : Int32} (hk : k1 ≠ 75) (h1 : mRoF k1 off I J) (hj : off ≤ j) : mRoF k1 off I (mU J k1 j v) := mRo_t h1 ⟨fun i hi => by rw [mU_other (by omega)], fun i hi => q_Uj (by omega), fun c _ b => mU_other b⟩
theorem mRo_x {k1 off : Nat} {I J : mIT} (hk : 82 ≤ k1 ∧ k1 ≤ 88) (h : mRoF k1 off I J) : mFx I J := ⟨fun j hj => h.1 j (by omega), fun c a b => h.2.2 c a (by omega)⟩
def mRw (I : mIT) (L : mLT) (B : Nat → Nat) (n k1 off : Nat) (r : pO (Nat × List Int32)) (y : Int32 × mIT × mLT) : Prop := mRoF k1 off I y.2.1 ∧ lF L y.2.2 ∧ match r with
  | .inl e => y.2.1 75 14 = nI e.1 ∧ k15 e.1 ∧ y.2.1 75 15 = nI e.2
  | .inr z => y.1 = nI z.2.length ∧ y.2.1 75 14 = 0 ∧ y.2.1 75 15 = I 75 15 ∧ mTk y.2.1 y.2.2 B n z.1 ∧ ∀ j, j < z.2.length → y.2.1 k1 (off + j) = z.2.getD j 0
theorem m_rowL {Fu : Nat} {I : mIT} {L : mLT} {B : Nat → Nat} {n a k1 off mx hi : Nat} {ch : Bool} {v5 : Int32} (hF : 2200 < Fu) (ht : tpe B n) (hk : k1 ≠ 75 ∧ k1 ≠ 80) (hsz : off + mx ≤ (mT k1).2) (hs2 : (mT k1).2 < 1000) (hmx : 1 ≤ mx) (hhi : hi < 100) (hv : (v5 = 0) = (ch = false)) (hT : mTk I L B n a) (hg : I 75 14 = 0) : wp (f_X12_readsMany Fu I L k1 (nI off) (nI mx) (nI hi) v5) (mRw I L B n k1 off (rwS B n mx hi ch (n - a + 1) a [])) := by
  have h700 := ht.1
  have ha := hT.2.1
  generalize hr : rwS B n mx hi ch (n - a + 1) a [] = r
  unfold f_X12_readsMany w_X12_readsMany_6
  refine wp_loop (fun D (s : Int32 × Int32 × Int32 × Int32 × Int32 × Int32 × mIT × mLT) => ∃ f a' l, s.1 = nI off ∧ s.2.1 = nI mx ∧ s.2.2.1 = nI hi ∧ v5 = s.2.2.2.1 ∧ s.2.2.2.2.1 = nI l.length ∧ l.length ≤ mx ∧ mTk s.2.2.2.2.2.2.1 s.2.2.2.2.2.2.2 B n a' ∧ s.2.2.2.2.2.2.1 75 14 = 0 ∧ s.2.2.2.2.2.2.1 75 15 = I 75 15 ∧ (∀ j, j < l.length → s.2.2.2.2.2.2.1 k1 (off + j) = l.getD j 0) ∧ mRoF k1 off I s.2.2.2.2.2.2.1 ∧ lF L s.2.2.2.2.2.2.2 ∧ n - a' < f ∧ rwS B n mx hi ch f a' l = r ∧ ((s.2.2.2.2.2.1 = 1 ∧ (l = [] ∨ tK B n a' = 2) ∧ D = n - a' + 1) ∨ (s.2.2.2.2.2.1 = 0 ∧ l ≠ [] ∧ ¬ tK B n a' = 2 ∧ D = 0))) _ ?_ Fu (n - a + 1) _ ⟨n - a + 1, a, [], rfl, rfl, rfl, rfl, rfl, Nat.zero_le _, hT, hg, rfl, fun j hj => absurd hj (Nat.not_lt_zero _), mRo_r k1 off I, lF_r L, by omega, hr, Or.inl ⟨rfl, Or.inl rfl, rfl⟩⟩ (by omega)
  clear hr
  rintro D ⟨x1, x2, x3, x4, x5, x6, J, M⟩ self ⟨f, a', l, e1, e2, e3, e4, e5, hl, hT', hg', h15, hrow, hfr, hlf, hf, hr, hc⟩ hself
  dsimp only at e1 e2 e3 e4 e5 hT' hg' h15 hrow hfr hlf hc
  subst e1 e2 e3 e4 e5
  show wp (b_X12_readsMany_6 Fu k1 self (nI off) (nI mx) (nI hi) v5 (nI l.length) x6 J M) _
  unfold b_X12_readsMany_6
  have ha' := hT'.2.1
  have hK := tK_4 (B := B) (n := n) (a := a')
  have hE := tE_le (B := B) ha'
  obtain ⟨g0, rfl⟩ : ∃ g0, f = g0 + 1 := ⟨f - 1, by omega⟩
  rw [rwS] at hr
  rcases hc with ⟨rfl, hk2, hD⟩ | ⟨rfl, hne, hk2, hD⟩
  · refine wp_n (by decide) (wp_Be (m_good1 hg') (wp_n (by decide) ?_))
    -- after a fault
    have bad80 : ∀ q : Nat, k15 q → r = .inl (q, a') → wp (b_X12_readsMany_80 Fu k1 self (nI off) (nI mx) (nI hi) v5 (nI l.length) (mBd J q a') M) (mRw I L B n k1 off r) := fun q hq he => by
      have hb : mBd J q a' 75 14 ≠ 0 := by rw [mBd_14]; exact bad_ne hq
      unfold b_X12_readsMany_80
      refine wp_Be (m_number0 hb) (wp_Be (m_good0 hb) (wp_p rfl ?_))
      rw [he]
      exact wp_s ⟨mRo_b hk.1 hfr, hlf, mBd_14 (I := J) (k := q) (a := a'), hq, mBd_15 (I := J) (k := q) (a := a')⟩
    -- a number is read
    have go80 : l.length < mx → (numS B n a' 0 hi = 0 → (ch = true → isCh (nI (tN B n a')) = true)) → wp (b_X12_readsMany_80 Fu k1 self (nI off) (nI mx) (nI hi) v5 (nI l.length) J M) (mRw I L B n k1 off r) := fun hlm hch => by
      unfold b_X12_readsMany_80
      refine wp_B (m_number (lo := 0) hF ht hT' hg' (by omega) (by omega)) ?_
      rintro ⟨v, J1, M1⟩ hy
      dsimp only at hy ⊢
      rcases hy with ⟨e, y1, y2, y3, y4⟩ | ⟨e, y1, y2⟩
      · have n2 := numS_2 e
        rw [if_pos n2.1, if_pos ⟨hlm, e, hch e⟩] at hr
        have han : a' < n := tK_0 (B := B) (n := n) (by omega)
        have hnx := nx_gt (B := B) han
        subst y1
        refine wp_Be (m_good1 (by rw [y3.1 14 (by omega)]; exact hg')) (wp_n (by decide) ?_)
        rw [show nI off + nI l.length = nI (off + l.length) from nI_add _ _, q_GI (by omega) (by omega), q_cl (by omega), q_1]
        generalize hKK : mU J1 k1 (off + l.length) (nI (tN B n a')) = K
        have KT : mTk K M1 B n (nx B n a') := by
          rw [← hKK]
          exact mTk_k y2 (fun j _ _ => by rw [mU_other (by omega)]) (mU_other (by omega))
        have K7 : ∀ j, K 75 j = J1 75 j := fun j => by rw [← hKK, mU_other (by omega)]
        have KR : mRoF k1 off I K := by rw [← hKK]; exact mRo_k hk.1 (mRo_s hk.1 hfr y3) (by omega)
        have hlen : (l ++ [nI (tN B n a')]).length = l.length + 1 := by rw [List.length_append]; rfl
        have Kv : ∀ j, j < (l ++ [nI (tN B n a')]).length → K k1 (off + j) = (l ++ [nI (tN B n a')]).getD j 0 := fun j hj => by
          rw [hlen] at hj
          rw [getD_ap0 hj, ← hKK]
          by_cases ej : j < l.length
          · rw [if_pos ej, q_Uj (by omega), y3.2 k1 hk.1]; exact hrow j ej
          · rw [if_neg ej, show j = l.length by omega, q_U]
        have hK2 := tK_4 (B := B) (n := n) (a := nx B n a')
        rw [KT.2.2.2.1]
        refine wp_i (q_eq (b := 2) (by omega) (by omega)) (fun c2 => ?_) (fun c2 => ?_)
        · exact hself (n - nx B n a' + 1) _ (by omega) ⟨g0, nx B n a', l ++ [nI (tN B n a')], rfl, rfl, rfl, rfl, by dsimp only; rw [hlen], by rw [hlen]; omega, KT, by dsimp only; rw [K7, y3.1 14 (by omega)]; exact hg', by dsimp only; rw [K7, y3.1 15 (by omega)]; exact h15, Kv, KR, lF_t hlf y4, by omega, hr, Or.inl ⟨rfl, Or.inr c2, rfl⟩⟩
        · exact hself 0 _ (by omega) ⟨g0, nx B n a', l ++ [nI (tN B n a')], rfl, rfl, rfl, rfl, by dsimp only; rw [hlen], by rw [hlen]; omega, KT, by dsimp only; rw [K7, y3.1 14 (by omega)]; exact hg', by dsimp only; rw [K7, y3.1 15 (by omega)]; exact h15, Kv, KR, lF_t hlf y4, by omega, hr, Or.inr ⟨rfl, by simp, c2, rfl⟩⟩
      · have hb : J1 75 14 ≠ 0 := by rw [y1, mBd_14]; exact bad_ne (numS_k e)
        refine wp_Be (m_good0 hb) (wp_p rfl ?_)
        have he : r = .inl (numS B n a' 0 hi, a') := by
          rw [← hr]
          by_cases c2 : tK B n a' = 2
          · rw [if_pos c2, if_neg (fun q => e q.2.1), numS_n c2 e]
          · rw [if_neg c2, if_pos (hk2.resolve_right c2)]
            unfold numS
            rw [if_neg c2]
        rw [he, y1, y2]
        exact wp_s ⟨mRo_b hk.1 hfr, hlf, mBd_14 (I := J) (k := numS B n a' 0 hi) (a := a'), numS_k e, mBd_15 (I := J) (k := numS B n a' 0 hi) (a := a')⟩
    have go37 : l.length < mx → wp (b_X12_readsMany_37 Fu k1 self (nI off) (nI mx) (nI hi) v5 (nI l.length) J M) (mRw I L B n k1 off r) := fun hlm => by
      unfold b_X12_readsMany_37
      refine wp_Be (m_good1 hg') (wp_n (by decide) ?_)
      refine wp_i hv (fun c => go80 hlm (fun _ q => by rw [c] at q; exact absurd q (by decide))) (fun c => ?_)
      have ch1 : ch = true := by cases ch with
        | false => exact absurd rfl c
        | true => rfl
      rw [hT'.2.2.2.1]
      refine wp_i (q_eq (b := 2) (by omega) (by omega)) (fun c2 => ?_) (fun c2 => go80 hlm (fun q => absurd (numS_2 q).1 c2))
      have h22 := hT'.2.2.2.2.2.2.1
      rw [if_pos c2] at h22
      rw [hT'.2.2.2.2.2.1, h22, show (4 : Int32) = nI 4 from rfl]
      refine wp_i (q_lt (by omega) (by omega)) (fun c4 => go80 hlm (fun q => by have := numS_2 q; omega)) (fun c4 => ?_)
      refine wp_Be m_isChg ?_
      by_cases c6 : isCh (nI (tN B n a')) = true
      · rw [if_pos c6]
        exact wp_n (by decide) (go80 hlm (fun _ _ => c6))
      · rw [if_neg c6]
        refine wp_p rfl (wp_Be (m_wr (k := 2) rfl hT' hg') (bad80 2 k15_2 ?_))
        rw [← hr, if_pos c2, if_neg (fun q => c6 (q.2.2 ch1))]
    refine wp_i (q_eq (by omega) (by omega)) (fun c3 => ?_) (fun c3 => go37 (by omega))
    have c2 : tK B n a' = 2 := hk2.resolve_left (fun q => by rw [q] at c3; have : 0 = mx := c3; omega)
    rw [hT'.2.2.2.1]
    refine wp_p (by rw [c2]; rfl) (wp_Be (m_wr (k := 2) rfl hT' hg') ?_)
    unfold b_X12_readsMany_37
    refine wp_Be (m_good0 (by rw [mBd_14]; decide)) (wp_p rfl (bad80 2 k15_2 ?_))
    rw [← hr, if_pos c2, if_neg (fun q => by omega)]
  · rw [if_neg hk2, if_neg hne] at hr
    refine wp_p rfl ?_
    rw [← hr]
    exact wp_s ⟨hfr, hlf, rfl, hg', h15, hT', hrow⟩
