theorem c_checkNum1 {Fu : Nat} {I : mIT} {B : Nat → Nat} {n a lo hi : Nat} (h : cTk I B n a) (hK : tK B n a = 2) (h4 : tE B n a - a ≤ 4) (hN : tN B n a < 100000) (hl : lo ≤ tN B n a) (hh : tN B n a ≤ hi) (hi2 : hi < 100000) : f_X6_checkNumber Fu I (nI lo) (nI hi) = some (1, I) := by
  obtain ⟨h1, h2, h3, h4', h5, h6, h7⟩ := h
  obtain ⟨n7, n8⟩ := h7 hK
  unfold f_X6_checkNumber
  rw [h4', hK, if_pos (show nI 2 = (2 : Int32) from rfl), n7, n8, show (4 : Int32) = nI 4 from rfl, if_neg (by rw [q_lt (by omega) (by omega)]; omega), if_neg (by rw [q_lt (by omega) (by omega)]; omega), if_pos (by rw [q_le (by omega) (by omega)]; omega)]
theorem tN_lt {B : Nat → Nat} {n a : Nat} (h : tK B n a = 2) : tN B n a < 10000 := by
  have hall : ∀ j, j < min 4 (tE B n a - a) → bD (B (a + j)) = true := fun j hj => by
    by_cases q : a < n
    · unfold tK at h
      rw [if_pos q] at h
      by_cases c1 : bL (B a) = true
      · rw [if_pos c1] at h; omega
      · rw [if_neg c1] at h
        by_cases c2 : bD (B a) = true
        · have hE : tE B n a = scan (fun j => bD (B j)) n a := by unfold tE; rw [if_pos q, if_neg c1, if_pos c2]
          rw [hE] at hj
          exact scan_all (q := fun j => bD (B j)) (n := n) _ a rfl (a + j) (by omega) (by omega)
        · rw [if_neg c2] at h
          split at h <;> omega
    · unfold tK at h
      rw [if_neg q] at h
      omega
  have := nm_lt _ hall
  unfold tN
  have h2 : 10 ^ min 4 (tE B n a - a) ≤ 10 ^ 4 := Nat.pow_le_pow_right (by omega) (by omega)
  omega
theorem c_readOd {Fu : Nat} {I : mIT} {R : mRT} {B : Nat → Nat} {n a q : Nat} {x : xS} (hF : 2200 < Fu) (ht : tpe B n) (h : cTk I B n a) (hx : cXs I q x) (hi : xI x a) (hs : x.2.2.1 ≠ 0) (hR : R 1 12 = some q) (hq : 3 ≤ q) : wp (f_X6_readOperand Fu R I) (xPo I q B n a (exOd B n a x)) := by
  have ha : a ≤ 700 := Nat.le_trans h.2.1 ht.1
  have hlen := xI_len hi
  obtain ⟨out, w, st, d, ch, k⟩ := x
  obtain ⟨i1, i2, i3, i4, i5, i6, i7, i8⟩ := hi
  obtain ⟨x1, x2, x3, x4, x5⟩ := hx
  dsimp only at i1 i2 i3 i4 i5 i6 i7 i8 x1 x2 x3 x4 x5 hs hlen
  have hK4 := tK_4 (B := B) (n := n) (a := a)
  have h4 := h.2.2.2.1
  have he : cRe I q := ⟨out, w, x1, hlen.2, by omega, by omega⟩
  unfold f_X6_readOperand exOd
  dsimp only
  rw [x3, x2, h4, show (6 : Int32) = nI 6 from rfl, show (2 : Int32) = nI 2 from rfl, show (1 : Int32) = nI 1 from rfl]
  refine wp_i (q_lt (by omega) (by omega)) (fun c1 => ?_) (fun c1 => ?_)
  · rw [if_neg (show ¬ 6 ≤ d by omega)]
    have m103 : ¬ (st = 2 ∧ tW B n a = 18) → wp (b_X6_readOperand_103 Fu R I) (xPo I q B n a (if sg B n a 40 = true then .inr (out, 0 :: w, 2, d + 1, chU ch (d + 1) false, 0) else if tK B n a = 1 then (if tW B n a ≤ 6 then .inr (out ++ [(2, nI (tW B n a))], w, 0, d, ch, 0) else .inl (3, a)) else if tK B n a = 2 then (if tE B n a - a ≤ 4 then .inr (out ++ [(1, nI (tN B n a))], w, 0, d, ch, 0) else .inl (2, a)) else .inl (1, a))) := by
      intro _
      unfold b_X6_readOperand_103
      have hT := cTk_u (j := 16) (v := 0) h (by omega)
      have f0 := xFr_u (j := 16) (v := 0) hq (xFr_r q I) (by omega)
      have r0' := cRs_u (j := 16) (v := 0) hq x1
      generalize hI1 : mU I 1 16 0 = I1 at hT f0 r0'
      have he1 : cRe I1 q := ⟨out, w, r0', hlen.2, by omega, by omega⟩
      have g16 : I1 1 16 = 0 := by rw [← hI1, q_U]
      have g : ∀ j, j ≠ 16 → I1 1 j = I 1 j := fun j hj => by rw [← hI1, q_Uj hj]
      rw [show (40 : Int32) = nI 40 from rfl]
      refine wp_Be (c_sg ht hT (by omega)) ?_
      by_cases c3 : sg B n a 40 = true
      · rw [if_pos c3, if_pos c3]
        refine wp_n (by decide) (wp_Be hR (wp_B (c_join (c := 0) hF (by omega) r0' hlen.2 (by omega) (by omega)) ?_))
        rintro K ⟨k1, k2⟩
        have gK : ∀ j, K 1 j = I1 1 j := fun j => by rw [k2.2 1 (by omega) (by omega) (by omega) (by omega)]
        have e14 : K 1 14 + 1 = nI (d + 1) := by rw [gK, g 14 (by decide), x3, q_1]
        have hj0 : jnX 0 out w = (out, 0 :: w) := by unfold jnX; rw [if_pos (Or.inr rfl)]
        rw [hj0] at k1
        rw [e14, q_U, q_Uj (show (15 : Nat) ≠ 14 by decide)]
        refine wp_s ⟨rfl, cTk_u (cTk_u (cTk_u (cTk_c hq hT k2) (by omega)) (by omega)) (by omega), ⟨cRs_u hq (cRs_u hq (cRs_u hq k1)), by dsimp only; rw [q_U]; rfl, by dsimp only; rw [q_Uj (by decide), q_Uj (by decide), q_U], fun e he => ?_, by dsimp only; rw [q_Uj (by decide), q_Uj (by decide), q_Uj (by decide), gK]; exact g16⟩, xFr_u hq (xFr_u hq (xFr_u hq (xFr_c hq f0 k2) (by omega)) (by omega)) (by omega)⟩
        dsimp only
        rw [q_Uj (by decide), q_U, gK, g 15 (by decide), bt_clr (by omega) he]
        unfold chU
        by_cases ee : e = d + 1
        · rw [if_pos ee, if_pos ee]
        · rw [if_neg ee, if_neg ee]; exact x4 e he
      · rw [if_neg c3, if_neg c3]
        have g4 : I1 1 4 = nI (tK B n a) := by rw [g 4 (by decide)]; exact h4
        refine wp_p rfl (wp_Be (c_valWord hF ht hT) ?_)
        rw [g4, show (1 : Int32) = nI 1 from rfl]
        have put : ∀ (v1 v2 : Int32), a < 700 → wp (oB (f_X8_putOperand Fu I1 q v1 v2) (fun r237 => some (nI 1, (mU r237 1 13 (0 : Int32))))) (xPo I q B n a (.inr (out ++ [(v1, v2)], w, 0, d, ch, 0))) := by
          intro v1 v2 ha7
          refine wp_B (c_putOd r0' (by omega)) ?_
          rintro K ⟨k1, k2⟩
          have gK : ∀ j, K 1 j = I1 1 j := fun j => by rw [k2.2 1 (by omega) (by omega) (by omega) (by omega)]
          refine wp_s ⟨rfl, cTk_u (cTk_c hq hT k2) (by omega), ⟨cRs_u hq k1, by dsimp only; rw [q_U]; rfl, by dsimp only; rw [q_Uj (by decide), gK, g 14 (by decide)]; exact x3, fun e he => by dsimp only; rw [q_Uj (by decide), gK, g 15 (by decide)]; exact x4 e he, by dsimp only; rw [q_Uj (by decide), gK]; exact g16⟩, xFr_u hq (xFr_c hq f0 k2) (by omega)⟩
        refine wp_i (q_eq (by omega) (by omega)) (fun c4 => ?_) (fun c4 => ?_)
        · rw [if_pos c4]
          by_cases c5 : tW B n a ≤ 6
          · rw [if_pos c5, if_pos c5]
            refine wp_n (nI_nem1 (by omega)) ?_
            unfold b_X6_readOperand_183 b_X6_readOperand_204 b_X6_readOperand_221
            rw [g4, c4]
            exact wp_p rfl (wp_Be hR (wp_p rfl (wp_p rfl (put 2 _ (Nat.lt_of_lt_of_le (tK_0 (B := B) (n := n) (by omega)) ht.1)))))
          · rw [if_neg c5, if_neg c5]
            exact wp_p rfl (c_refu hq rfl hT f0 he1)
        · rw [if_neg c4]
          unfold b_X6_readOperand_183
          rw [g4, show (1 : Int32) = nI 1 from rfl]
          refine wp_n (by rw [q_eq (by omega) (by omega)]; exact c4) ?_
          by_cases c5 : tK B n a = 2
          · rw [if_pos c5]
            have hN := tN_lt c5
            by_cases c6 : tE B n a - a ≤ 4
            · rw [if_pos c6]
              refine wp_Be (c_checkNum1 (lo := 0) (hi := 9999) hT c5 c6 (by omega) (by omega) (by omega) (by omega)) (wp_n ne10 ?_)
              unfold b_X6_readOperand_204 b_X6_readOperand_221
              dsimp only
              simp only [g4, c5, (hT.2.2.2.2.2.2 c5).2]
              exact wp_Be hR (wp_n (by decide) (wp_n (by decide) (put 1 _ (Nat.lt_of_lt_of_le (tK_0 (B := B) (n := n) (by omega)) ht.1))))
            · rw [if_neg c6]
              unfold f_X6_checkNumber
              rw [g4, c5, if_pos (show nI 2 = (2 : Int32) from rfl), (hT.2.2.2.2.2.2 c5).1, show (4 : Int32) = nI 4 from rfl, if_pos (by
                have := tE_le (B := B) h.2.1
                have := ht.1
                rw [q_lt (by omega) (by omega)]; omega)]
              refine wp_Be rfl (wp_p rfl (wp_s ⟨rfl, ?_, ?_, cRe_u hq he1, xFb_o hq f0⟩))
              · show mU I1 1 9 2 1 9 = _
                rw [q_U]; rfl
              · show mU I1 1 9 2 1 5 = _
                rw [q_Uj (by decide)]
                exact hT.2.2.2.2.1
          · rw [if_neg c5]
            unfold f_X6_checkNumber
            rw [g4, show (2 : Int32) = nI 2 from rfl, if_neg (by rw [q_eq (by omega) (by omega)]; exact c5)]
            refine wp_Be rfl (wp_p rfl (wp_s ⟨rfl, ?_, ?_, cRe_u hq he1, xFb_o hq f0⟩))
            · show mU I1 1 9 1 1 9 = _
              rw [q_U]; rfl
            · show mU I1 1 9 1 1 5 = _
              rw [q_Uj (by decide)]
              exact hT.2.2.2.2.1
    refine wp_i (q_eq (by omega) (by omega)) (fun c2 => ?_) (fun c2 => ?_)
    · refine wp_Be (c_isAtWord (k := 13) hF ht h (by omega) (by omega)) ?_
      rw [show wX 13 = 18 from rfl]
      by_cases c3 : tW B n a = 18
      · rw [if_pos c3, if_pos (show st = 2 ∧ tW B n a = 18 from ⟨c2, c3⟩)]
        refine wp_n (by decide) (wp_Be hR ?_)
        rw [x5, nI_add]
        refine wp_B (c_join (c := 30) hF (by omega) (cRs_u hq x1) hlen.2 (by omega) (by omega)) ?_
        rintro K ⟨k1, k2⟩
        have gK : ∀ j, K 1 j = mU I 1 16 (nI (k + 1)) 1 j := fun j => by rw [k2.2 1 (by omega) (by omega) (by omega) (by omega)]
        have hj0 : jnX 30 out w = (out, 30 :: w) := by unfold jnX; rw [if_pos (Or.inl rfl)]
        rw [hj0] at k1
        have hT := cTk_c hq (cTk_u (j := 16) (v := nI (k + 1)) h (by omega)) k2
        have f0 := xFr_c hq (xFr_u (j := 16) (v := nI (k + 1)) hq (xFr_r q I) (by omega)) k2
        rw [gK 16, q_U]
        refine wp_i (q_le (by omega) (by omega)) (fun c4 => ?_) (fun c4 => ?_)
        · rw [if_pos c4]
          exact wp_s ⟨rfl, hT, ⟨k1, by dsimp only; rw [gK, q_Uj (by decide), x2, c2], by dsimp only; rw [gK, q_Uj (by decide)]; exact x3, fun e he => by dsimp only; rw [gK, q_Uj (by decide)]; exact x4 e he, by dsimp only; rw [gK, q_U]⟩, f0⟩
        · rw [if_neg c4]
          have han : a < n := tK_0 (B := B) (n := n) (by have := ((tW_is (by omega : 18 < 19)).mp c3).1; omega)
          have h7 := ht.1
          have heK : cRe K q := ⟨out, 30 :: w, k1, fun c hc => by
            rcases List.mem_cons.mp hc with rfl | hc
            · omega
            · exact hlen.2 c hc, by rw [List.length_cons]; omega, by rw [List.length_cons]; omega⟩
          refine wp_Be rfl (wp_p rfl (wp_s ⟨rfl, ?_, ?_, cRe_u hq heK, xFb_o hq f0⟩))
          · show mU K 1 9 (nI 2) 1 9 = _
            rw [q_U]
          · show mU K 1 9 (nI 2) 1 5 = _
            rw [q_Uj (by decide)]
            exact hT.2.2.2.2.1
      · rw [if_neg c3, if_neg (show ¬ (st = 2 ∧ tW B n a = 18) from fun e => c3 e.2)]
        exact wp_p rfl (m103 (fun e => c3 e.2))
    · rw [if_neg (show ¬ (st = 2 ∧ tW B n a = 18) from fun e => c2 e.1)]
      exact m103 (fun e => c2 e.1)
  · rw [if_pos (show 6 ≤ d by omega)]
    refine wp_i (q_eq (by omega) (by omega)) (fun c2 => ?_) (fun c2 => wp_i (q_eq (by omega) (by omega)) (fun c3 => ?_) (fun c3 => ?_))
    · rw [if_pos (Or.inl c2)]
      exact c_refu hq rfl h (xFr_r q I) he
    · rw [if_pos (Or.inr (Or.inl c3))]
      exact c_refu hq rfl h (xFr_r q I) he
    · rw [show (40 : Int32) = nI 40 from rfl]
      refine wp_Be (c_sg ht h (by omega)) ?_
      by_cases c4 : sg B n a 40 = true
      · rw [if_pos c4, if_pos (Or.inr (Or.inr c4))]
        exact wp_n (by decide) (c_refu hq rfl h (xFr_r q I) he)
      · rw [if_neg c4, if_neg (show ¬ (tK B n a = 2 ∨ tK B n a = 1 ∨ sg B n a 40 = true) by rintro (e | e | e) <;> contradiction)]
        exact wp_p rfl (c_refu hq rfl h (xFr_r q I) he)
