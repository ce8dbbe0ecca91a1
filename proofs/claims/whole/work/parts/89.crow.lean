/-! the class reads a row of numbers -/
theorem tBits_c {U V : Nat → Int32} : ∀ n, (∀ j, j < n → U j = V j) → tBits U n = tBits V n
  | 0, _ => rfl
  | n + 1, h => by rw [tBits, tBits, tBits_c n (fun j hj => h j (by omega)), h n (by omega)]
theorem numS_2 {B : Nat → Nat} {n a lo hi : Nat} (h : numS B n a lo hi = 0) : tK B n a = 2 ∧ tE B n a - a ≤ 4 ∧ lo ≤ tN B n a ∧ tN B n a ≤ hi := by
  unfold numS at h
  by_cases q : tK B n a = 2
  · rw [if_pos q] at h
    by_cases q2 : tE B n a - a ≤ 4 ∧ lo ≤ tN B n a ∧ tN B n a ≤ hi
    · exact ⟨q, q2⟩
    · rw [if_neg q2] at h; omega
  · rw [if_neg q] at h; omega
theorem numS_n {B : Nat → Nat} {n a lo hi : Nat} (hk : tK B n a = 2) (h : ¬ numS B n a lo hi = 0) : numS B n a lo hi = 2 := by
  unfold numS at h ⊢
  rw [if_pos hk] at h ⊢
  by_cases q2 : tE B n a - a ≤ 4 ∧ lo ≤ tN B n a ∧ tN B n a ≤ hi
  · rw [if_pos q2] at h; exact absurd rfl h
  · rw [if_neg q2]
/-- a number is put to the row -/
def cAd (Fu : Nat) (R : mRT) (p : Nat) (v : Int32) (mx hi : Nat) (g : List Int32 → lS) : Prop := ∀ (J : mIT) (l : List Int32) (w : Nat), cL J p (g l) → l.length < mx → w ≤ hi → J 1 8 = nI w → ∀ (v2 v3 v4 : Int32) (k : Int32 × Int32 × Int32 × Int32 × mIT → Option (Int32 × mIT)), ∃ K, b_X6_readRow_76 Fu R k v v2 v3 v4 J = oB (f_X6_step Fu K) (fun r127 => k (v, v2, v3, v4 + 1, r127)) ∧ cL K p (g (l ++ [nI w])) ∧ K 1 = J 1 ∧ K 2 = J 2 ∧ cFr p J K
theorem c_rowL {Fu : Nat} {I : mIT} {R : mRT} {p : Nat} {B : Nat → Nat} {n a : Nat} {g : List Int32 → lS} {v : Int32} {mx hi : Nat} {ch : Bool} (hF : 2200 < Fu) (ht : tpe B n) (hp : 3 ≤ p) (hmx : 1 ≤ mx ∧ mx < 100) (hhi : hi < 100) (hv : (v = 7) = (ch = true)) (hT : cTk I B n a) (hL : cL I p (g [])) (hA : cAd Fu R p v mx hi g) : wp (f_X6_readRow Fu R I v (nI mx) (nI hi)) (cBo I p B n (rwL g (rwS B n mx hi ch (n - a + 1) a []))) := by
  have h700 := ht.1
  have hK := tK_4 (B := B) (n := n) (a := a)
  unfold f_X6_readRow
  rw [hT.2.2.2.1]
  refine wp_i (q_eq (b := 2) (by omega) (by omega)) (fun k2 => ?_) (fun k2 => ?_)
  · unfold w_X6_readRow_17
    refine wp_loop (fun D (s : Int32 × Int32 × Int32 × Int32 × mIT) => ∃ f a' l, v = s.1 ∧ s.2.1 = nI mx ∧ s.2.2.1 = nI hi ∧ s.2.2.2.1 = nI l.length ∧ l.length ≤ mx ∧ (l = [] → tK B n a' = 2) ∧ cTk s.2.2.2.2 B n a' ∧ cL s.2.2.2.2 p (g l) ∧ cFr p I s.2.2.2.2 ∧ s.2.2.2.2 1 9 = I 1 9 ∧ n - a' < f ∧ rwS B n mx hi ch f a' l = rwS B n mx hi ch (n - a + 1) a [] ∧ D = n - a') _ ?_ Fu (n - a) _ ⟨n - a + 1, a, [], rfl, rfl, rfl, rfl, Nat.zero_le _, fun _ => k2, hT, hL, cFr_r p I, rfl, by omega, rfl, rfl⟩ (by omega)
    rintro D ⟨v', x2, x3, x4, J⟩ self ⟨f, a', l, e1, e2, e3, e4, hl, hne, hT', hL', hfr, h9, hf, hr, hD⟩ hself
    dsimp only at e1 e2 e3 e4 hT' hL' hfr h9
    subst e1 e2 e3 e4
    show wp (b_X6_readRow_17 Fu R self v (nI mx) (nI hi) (nI l.length) J) _
    unfold b_X6_readRow_17
    have hK' := tK_4 (B := B) (n := n) (a := a')
    obtain ⟨g0, rfl⟩ : ∃ g0, f = g0 + 1 := ⟨f - 1, by omega⟩
    rw [rwS] at hr
    refine wp_n (by rw [q_lt (by omega) (by omega)]; omega) ?_
    rw [hT'.2.2.2.1]
    refine wp_i (q_eq (b := 2) (by omega) (by omega)) (fun c2 => ?_) (fun c2 => ?_)
    · rw [if_pos c2] at hr
      have han : a' < n := tK_0 (B := B) (n := n) (by omega)
      have hnx := nx_gt (B := B) han
      refine wp_i (q_eq (by omega) (by omega)) (fun c3 => ?_) (fun c3 => ?_)
      · rw [if_neg (fun q => by omega)] at hr
        rw [← hr]
        exact c_bad rfl hT' hfr
      · refine wp_Be (c_num (lo := 0) ht hT' (by omega) (by omega)) ?_
        by_cases c4 : numS B n a' 0 hi = 0
        · rw [if_pos c4]
          refine wp_n (show ¬ ((1 : Int32) = 0) by decide) ?_
          dsimp only
          have n2 := numS_2 c4
          have v8 : J 1 8 = nI (tN B n a') := (hT'.2.2.2.2.2.2 c2).2
          rw [v8]
          have good : (ch = true → isCh (nI (tN B n a')) = true) → wp (b_X6_readRow_76 Fu R self v (nI mx) (nI hi) (nI l.length) J) (cBo I p B n (rwL g (rwS B n mx hi ch (n - a + 1) a []))) := fun hc => by
            rw [if_pos ⟨by omega, c4, hc⟩] at hr
            obtain ⟨K, b1, b2, b3, b4, b5⟩ := hA J l (tN B n a') hL' (by omega) n2.2.2.2 v8 (nI mx) (nI hi) (nI l.length) self
            rw [b1]
            have hTK : cTk K B n a' := cTk_k hT' (fun j _ _ => by rw [b3]) b4
            refine wp_B (c_nx hF ht hTK) ?_
            rintro K2 ⟨t2, f2⟩
            refine hself (n - nx B n a') _ (by omega) ⟨g0, nx B n a', l ++ [nI (tN B n a')], rfl, rfl, rfl, ?_, ?_, fun q => absurd q (by simp), t2, cL_s hp b2 f2, cFr_s (cFr_t hfr b5) f2, ?_, by omega, hr, rfl⟩
            · dsimp only
              rw [List.length_append, q_1]; rfl
            · rw [List.length_append]
              show l.length + 1 ≤ mx
              omega
            · dsimp only
              rw [f2.1 9 (by omega), b3]; exact h9
          refine wp_i hv (fun c5 => ?_) (fun c5 => good (fun q => absurd q c5))
          refine wp_Be c_isChg ?_
          by_cases c6 : isCh (nI (tN B n a')) = true
          · rw [if_pos c6]
            exact wp_n (by decide) (good (fun _ => c6))
          · rw [if_neg c6]
            refine wp_p rfl ?_
            rw [if_neg (fun q => c6 (q.2.2 c5))] at hr
            rw [← hr]
            exact c_bad rfl hT' hfr
        · rw [if_neg c4]
          refine wp_p rfl ?_
          rw [if_neg (fun q => c4 q.2.1)] at hr
          rw [← hr, numS_n c2 c4]
          exact c_badn hT' hfr
    · rw [if_neg c2, if_neg (fun q => c2 (hne q))] at hr
      rw [← hr]
      exact wp_s ⟨hfr, rfl, h9, hT', hL'⟩
  · rw [show n - a + 1 = (n - a) + 1 from rfl, rwS, if_neg k2, if_pos rfl]
    exact c_bad rfl hT (cFr_r p I)
theorem c_adW {Fu : Nat} {R : mRT} {p : Nat} {S : lS} (hp : 3 ≤ p) (hR : R 1 11 = some p) : cAd Fu R p 4 10 9 (setW S) := by
  intro J l w hL hl hw h8 v2 v3 v4 k
  obtain ⟨h1, h2, h3, h4, h5, h6, h7, g8, h9, g10, h11, h12, h13, h14, h15⟩ := hL
  have h2' : J p 4 = nI l.length := h2
  refine ⟨mU (mU J (p + 2) l.length (nI w)) p 4 (nI (l.length + 1)), ?_, ⟨?_, ?_, ?_, ?_, ?_, ?_, fun r hr => ?_, fun j hj => ?_, fun j hj => ?_, ?_, ?_, fun j hj => ?_, fun j a b => ?_, fun q => ?_, fun q => ?_⟩, ?_, ?_, ?_⟩
  · unfold b_X6_readRow_76 f_X5_addWeather
    rw [if_pos rfl, hR, q_B, mU_other (show p ≠ p + 2 by omega), h2', if_neg (by rw [q_lt0 (by omega)]; exact id), if_neg (by rw [q_le (by omega) (by omega)]; omega), q_GI hl (by omega), q_cl (by omega), q_1, q_B, h8]
  · rw [q_Uj (by decide), mU_other (by omega)]; exact h1
  · rw [q_U]
    show _ = nI (l ++ [nI w]).length
    rw [List.length_append]; rfl
  · rw [q_Uj (by decide), mU_other (by omega)]; exact h3
  · rw [q_Uj (by decide), mU_other (by omega)]; exact h4
  · rw [q_Uj (by decide), mU_other (by omega)]; exact h5
  · rw [q_Uj (by decide), mU_other (by omega)]; exact h6
  · rw [mU_other (by omega), mU_other (by omega)]; exact h7 r hr
  · have hj' : j < (l ++ [nI w]).length := hj
    rw [List.length_append] at hj'
    have hj2 : j < l.length + 1 := hj'
    show _ = (l ++ [nI w]).getD j 0
    rw [mU_other (by omega), getD_ap0 hj2]
    by_cases e : j < l.length
    · rw [if_pos e, q_Uj (by omega)]; exact g8 j e
    · rw [if_neg e, show j = l.length by omega, q_U]
  · rw [mU_other (by omega), mU_other (by omega)]; exact h9 j hj
  · exact cE_k g10 (by rw [mU_other (by omega), mU_other (by omega)]) (by rw [mU_other (by omega), mU_other (by omega)]) (by rw [mU_other (by omega), mU_other (by omega)])
  · exact cE_k h11 (by rw [mU_other (by omega), mU_other (by omega)]) (by rw [mU_other (by omega), mU_other (by omega)]) (by rw [mU_other (by omega), mU_other (by omega)])
  · rw [mU_other (by omega), mU_other (by omega)]; exact h12 j hj
  · rw [mU_other (by omega), mU_other (by omega)]; exact h13 j a b
  · rw [mU_other (by omega), mU_other (by omega)]; exact h14 q
  · rw [mU_other (by omega), mU_other (by omega)]; exact h15 q
  · rw [mU_other (by omega), mU_other (by omega)]
  · rw [mU_other (by omega), mU_other (by omega)]
  · exact cFr_p (cFr_p (cFr_r p J) hp (by omega)) hp (by omega)
theorem c_adU {Fu : Nat} {R : mRT} {p : Nat} {S : lS} (hp : 3 ≤ p) (hR : R 1 11 = some p) : cAd Fu R p 6 8 15 (setU S) := by
  intro J l w hL hl hw g8 v2 v3 v4 k
  obtain ⟨h1, h2, h3, h4, h5, h6, h7, h8, h9, g10, h11, h12, h13, h14, h15⟩ := hL
  have h4' : J p 6 = nI l.length := h4
  have h5' : J p 7 = tBits (fun j => l.getD j 0) l.length := h5
  refine ⟨mU (mU (mU J (p + 3) l.length (nI w)) p 7 (tBits (fun j => l.getD j 0) l.length ||| ((1 : Int32) <<< (nI w &&& 31)))) p 6 (nI (l.length + 1)), ?_, ⟨?_, ?_, ?_, ?_, ?_, ?_, fun r hr => ?_, fun j hj => ?_, fun j hj => ?_, ?_, ?_, fun j hj => ?_, fun j a b => ?_, fun q => ?_, fun q => ?_⟩, ?_, ?_, ?_⟩
  · unfold b_X6_readRow_76 f_X5_addTuneNote
    rw [if_neg (by decide), if_pos rfl, hR, q_B, q_Uj (show (6 : Nat) ≠ 7 by decide), mU_other (show p ≠ p + 3 by omega), h4', h5', if_neg (by rw [q_lt0 (by omega)]; exact id), if_neg (by rw [q_le (by omega) (by omega)]; omega), q_GI hl (by omega), q_cl (by omega), q_1, q_B, g8]
  · rw [q_Uj (by decide), q_Uj (by decide), mU_other (by omega)]; exact h1
  · rw [q_Uj (by decide), q_Uj (by decide), mU_other (by omega)]; exact h2
  · rw [q_Uj (by decide), q_Uj (by decide), mU_other (by omega)]; exact h3
  · rw [q_U]
    show _ = nI (l ++ [nI w]).length
    rw [List.length_append]; rfl
  · rw [q_Uj (by decide), q_U]
    show _ = tBits (fun j => (l ++ [nI w]).getD j 0) (l ++ [nI w]).length
    rw [List.length_append]
    show _ = tBits (fun j => (l ++ [nI w]).getD j 0) (l.length + 1)
    rw [tBits, getD_ap0 (by omega), if_neg (by omega), tBits_c (U := fun j => (l ++ [nI w]).getD j 0) (V := fun j => l.getD j 0) l.length (fun j hj => by rw [getD_ap0 (by omega), if_pos hj])]
  · rw [q_Uj (by decide), q_Uj (by decide), mU_other (by omega)]; exact h6
  · rw [mU_other (by omega), mU_other (by omega), mU_other (by omega)]; exact h7 r hr
  · rw [mU_other (by omega), mU_other (by omega), mU_other (by omega)]; exact h8 j hj
  · have hj' : j < (l ++ [nI w]).length := hj
    rw [List.length_append] at hj'
    have hj2 : j < l.length + 1 := hj'
    show _ = (l ++ [nI w]).getD j 0
    rw [mU_other (by omega), mU_other (by omega), getD_ap0 hj2]
    by_cases e : j < l.length
    · rw [if_pos e, q_Uj (by omega)]; exact h9 j e
    · rw [if_neg e, show j = l.length by omega, q_U]
  · exact cE_k g10 (by rw [mU_other (by omega), mU_other (by omega), mU_other (by omega)]) (by rw [mU_other (by omega), mU_other (by omega), mU_other (by omega)]) (by rw [mU_other (by omega), mU_other (by omega), mU_other (by omega)])
  · exact cE_k h11 (by rw [mU_other (by omega), mU_other (by omega), mU_other (by omega)]) (by rw [mU_other (by omega), mU_other (by omega), mU_other (by omega)]) (by rw [mU_other (by omega), mU_other (by omega), mU_other (by omega)])
  · rw [mU_other (by omega), mU_other (by omega), mU_other (by omega)]; exact h12 j hj
  · rw [mU_other (by omega), mU_other (by omega), mU_other (by omega)]; exact h13 j a b
  · rw [mU_other (by omega), mU_other (by omega), mU_other (by omega)]; exact h14 q
  · rw [mU_other (by omega), mU_other (by omega), mU_other (by omega)]; exact h15 q
  · rw [mU_other (by omega), mU_other (by omega), mU_other (by omega)]
  · rw [mU_other (by omega), mU_other (by omega), mU_other (by omega)]
  · exact cFr_p (cFr_p (cFr_p (cFr_r p J) hp (by omega)) hp (by omega)) hp (by omega)
theorem c_adM {Fu : Nat} {R : mRT} {p : Nat} {S : lS} (hp : 3 ≤ p) (hR : R 1 11 = some p) (h10r : pR S.1 ≤ 10) : cAd Fu R p 7 12 31 (setM S) := by
  intro J l w hL hl hw g8 v2 v3 v4 k
  obtain ⟨h1, h2, h3, h4, h5, h6, h7, h8, h9, g10, h11, h12, h13, h14, h15⟩ := hL
  have h6' : J p 8 = nI l.length := h6
  refine ⟨mU (mU J (p + 17) (41 + l.length) (nI w)) p 8 (nI (l.length + 1)), ?_, ⟨?_, ?_, ?_, ?_, ?_, ?_, fun r hr => ?_, fun j hj => ?_, fun j hj => ?_, ?_, ?_, fun j hj => ?_, fun j a b => ?_, fun q => ?_, fun q => ?_⟩, ?_, ?_, ?_⟩
  · unfold b_X6_readRow_76 f_X5_addChange f_X9_setChange
    rw [if_neg (by decide), if_neg (by decide), hR, q_B, h6', show (12 : Int32) = nI 12 from rfl, if_neg (by rw [q_le (by omega) (by omega)]; omega), show (41 : Int32) = nI 41 from rfl, c_set (by omega), q_B, q_B, mU_other (show p ≠ p + 16 + 1 by omega), h6', q_1, q_B, g8]
  · rw [q_Uj (by decide), mU_other (by omega)]; exact h1
  · rw [q_Uj (by decide), mU_other (by omega)]; exact h2
  · rw [q_Uj (by decide), mU_other (by omega)]; exact h3
  · rw [q_Uj (by decide), mU_other (by omega)]; exact h4
  · rw [q_Uj (by decide), mU_other (by omega)]; exact h5
  · rw [q_U]
    show _ = nI (l ++ [nI w]).length
    rw [List.length_append]; rfl
  · rw [mU_other (by omega), mU_other (by omega)]; exact h7 r hr
  · rw [mU_other (by omega), mU_other (by omega)]; exact h8 j hj
  · rw [mU_other (by omega), mU_other (by omega)]; exact h9 j hj
  · exact cE_k g10 (by rw [mU_other (by omega), mU_other (by omega)]) (by rw [mU_other (by omega), mU_other (by omega)]) (by rw [mU_other (by omega), mU_other (by omega)])
  · exact cE_k h11 (by rw [mU_other (by omega), mU_other (by omega)]) (by rw [mU_other (by omega), mU_other (by omega)]) (by rw [mU_other (by omega), mU_other (by omega)])
  · have q1 : pR (setM S (l ++ [nI w])).1 = pR S.1 := rfl
    have q2 : pC (setM S (l ++ [nI w])).1 = l.length + 1 := by
      show (l ++ [nI w]).length = _
      rw [List.length_append]; rfl
    have q3 : pR (setM S l).1 = pR S.1 := rfl
    have q4 : pC (setM S l).1 = l.length := rfl
    unfold live at hj
    rw [q1, q2] at hj
    rw [mU_other (by omega), Nat.zero_add]
    show _ = if 41 ≤ j then (l ++ [nI w]).getD (j - 41) 0 else S.2.1 j
    by_cases e : j = 41 + l.length
    · rw [if_pos (by omega), getD_ap0 (by omega), if_neg (by omega), e, q_U]
    · have hl' : live (setM S l).1 j := by
        unfold live
        rw [q3, q4]
        omega
      have := h12 j hl'
      rw [Nat.zero_add] at this
      rw [q_Uj e, this]
      show (if 41 ≤ j then l.getD (j - 41) 0 else S.2.1 j) = _
      by_cases e4 : 41 ≤ j
      · rw [if_pos e4, if_pos e4, getD_ap0 (by omega), if_pos (by omega)]
      · rw [if_neg e4, if_neg e4]
  · rw [mU_other (by omega), mU_other (by omega)]; exact h13 j a b
  · rw [mU_other (by omega), mU_other (by omega)]; exact h14 q
  · rw [mU_other (by omega), mU_other (by omega)]; exact h15 q
  · rw [mU_other (by omega), mU_other (by omega)]
  · rw [mU_other (by omega), mU_other (by omega)]
  · exact cFr_p (cFr_p (cFr_r p J) hp (by omega)) hp (by omega)
