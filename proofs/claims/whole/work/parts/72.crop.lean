/-! the class reads an operator, an operand -/
def xFb (q : Nat) (I J : mIT) : Prop := (∀ j, j < 3 ∨ (9 < j ∧ j < 13) ∨ 16 < j → J 1 j = I 1 j) ∧ (∀ j, j ≠ 5 → j ≠ 6 → J q j = I q j) ∧ ∀ c, c ≠ 1 → c ≠ q → c ≠ q + 1 → c ≠ q + 2 → c ≠ q + 3 → J c = I c
def cRe (J : mIT) (q : Nat) : Prop := ∃ (out : eSt) (w : List Nat), cRs J q out w ∧ vW w ∧ w.length ≤ 80 ∧ out.length + w.length ≤ 700
def xPo (I : mIT) (q : Nat) (B : Nat → Nat) (n a : Nat) (r : pO xS) (y : Int32 × mIT) : Prop := match r with
  | .inl e => y.1 = 0 ∧ y.2 1 9 = nI e.1 ∧ y.2 1 5 = nI e.2 ∧ cRe y.2 q ∧ xFb q I y.2
  | .inr x' => y.1 = 1 ∧ cTk y.2 B n a ∧ cXs y.2 q x' ∧ xFr q I y.2
theorem xFr_u {q j : Nat} {I J : mIT} {v : Int32} (hq : 3 ≤ q) (h : xFr q I J) (hj : 13 ≤ j ∧ j ≤ 16) : xFr q I (mU J 1 j v) := ⟨fun i hi => by rw [q_Uj (by omega)]; exact h.1 i hi, fun i a b => by rw [mU_other (by omega)]; exact h.2.1 i a b, fun c a b d e f => by rw [mU_other a]; exact h.2.2 c a b d e f⟩
theorem xFr_c {q : Nat} {I J K : mIT} (hq : 3 ≤ q) (h : xFr q I J) (f : cRf q J K) : xFr q I K := ⟨fun j hj => by rw [f.2 1 (by omega) (by omega) (by omega) (by omega)]; exact h.1 j hj, fun j a b => by rw [f.1 j a b]; exact h.2.1 j a b, fun c a b d e g => by rw [f.2 c b d e g]; exact h.2.2 c a b d e g⟩
theorem xFb_o {q : Nat} {I J : mIT} {v : Int32} (hq : 3 ≤ q) (h : xFr q I J) : xFb q I (mU J 1 9 v) := ⟨fun i hi => by rw [q_Uj (by omega)]; exact h.1 i (by omega), fun i a b => by rw [mU_other (by omega)]; exact h.2.1 i a b, fun c a b d e f => by rw [mU_other a]; exact h.2.2 c a b d e f⟩
theorem cTk_u {I : mIT} {B : Nat → Nat} {n a j : Nat} {v : Int32} (h : cTk I B n a) (hj : 9 ≤ j) : cTk (mU I 1 j v) B n a := cTk_k h (fun i _ _ => q_Uj (by omega)) (mU_other (by decide))
theorem cTk_c {I J : mIT} {B : Nat → Nat} {n a q : Nat} (hq : 3 ≤ q) (h : cTk I B n a) (f : cRf q I J) : cTk J B n a := cTk_k h (fun i _ _ => by rw [f.2 1 (by omega) (by omega) (by omega) (by omega)]) (f.2 2 (by omega) (by omega) (by omega) (by omega))
theorem cRs_u {I : mIT} {q j : Nat} {v : Int32} {out : eSt} {w : List Nat} (hq : 3 ≤ q) (h : cRs I q out w) : cRs (mU I 1 j v) q out w := by
  obtain ⟨h1, h2, h3, h4⟩ := h
  exact ⟨by rw [mU_other (by omega)]; exact h1, by rw [mU_other (by omega)]; exact h2, fun i hi => by rw [mU_other (by omega), mU_other (show q + 2 ≠ 1 by omega)]; exact h3 i hi, wtI_f (fun i hi => by rw [mU_other (by omega)]) h4⟩
theorem cRe_u {J : mIT} {q j : Nat} {v : Int32} (hq : 3 ≤ q) (h : cRe J q) : cRe (mU J 1 j v) q := by
  obtain ⟨out, w, h1, h2⟩ := h
  exact ⟨out, w, cRs_u hq h1, h2⟩
theorem c_refu {Fu : Nat} {I J : mIT} {q : Nat} {B : Nat → Nat} {n a k : Nat} {v : Int32} (hq : 3 ≤ q) (hk : v = nI k) (h : cTk J B n a) (f : xFr q I J) (he : cRe J q) : wp (oB (f_X6_refuse Fu J v) (fun r84 => oG (isB r84.1) (some (r84.1, r84.2)))) (xPo I q B n a (.inl (k, a))) := by
  refine wp_s ⟨rfl, ?_, ?_, cRe_u hq he, xFb_o hq f⟩
  · show mU J 1 9 v 1 9 = _
    rw [q_U, hk]
  · show mU J 1 9 v 1 5 = _
    rw [q_Uj (by decide)]
    exact h.2.2.2.2.1
theorem c_readOp {Fu : Nat} {I : mIT} {R : mRT} {B : Nat → Nat} {n a q : Nat} {x : xS} (hF : 2200 < Fu) (ht : tpe B n) (h : cTk I B n a) (hx : cXs I q x) (hi : xI x a) (hs : x.2.2.1 = 0) (hR : R 1 12 = some q) (hq : 3 ≤ q) : wp (f_X6_readOperator Fu R I) (xPo I q B n a (exOp B n a x)) := by
  have ha : a ≤ 700 := Nat.le_trans h.2.1 ht.1
  have hlen := xI_len hi
  obtain ⟨out, w, st, d, ch, k⟩ := x
  obtain ⟨i1, i2, i3, i4, i5, i6, i7, i8⟩ := hi
  obtain ⟨x1, x2, x3, x4, x5⟩ := hx
  dsimp only at i1 i2 i3 i4 i5 i6 i7 i8 x1 x2 x3 x4 x5 hs hlen
  subst hs
  have d5 : d ≤ 5 := i4.resolve_left (by omega)
  have he : cRe I q := ⟨out, w, x1, hlen.2, by omega, by omega⟩
  rw [if_neg (by omega)] at i7
  rw [if_pos rfl] at i8
  unfold f_X6_readOperator exOp
  dsimp only
  rw [show (41 : Int32) = nI 41 from rfl, c_sg ht h (by omega)]
  have main : ¬ (sg B n a 41 = true ∧ 0 < d) → wp (b_X6_readOperator_35 Fu R I) (xPo I q B n a (if opc B n a = 0 then .inl (1, a) else if (opc B n a = 40 ∨ opc B n a = 41) ∧ ch d = true then .inl (1, a) else .inr ((jnX (opc B n a) out w).1, (jnX (opc B n a) out w).2, (if opc B n a = 10 ∨ opc B n a = 20 then 2 else 1), d, (if opc B n a = 40 ∨ opc B n a = 41 then chU ch d true else if opc B n a = 10 ∨ opc B n a = 20 then chU ch d false else ch), k))) := by
    intro _
    unfold b_X6_readOperator_35 b_X6_readOperator_52
    refine wp_Be (c_opHere hF ht h) ?_
    by_cases c0 : opc B n a = 0
    · rw [if_pos c0, c0]
      refine wp_n (by decide) (wp_n (by decide) ?_)
      unfold b_X6_readOperator_57
      exact wp_p rfl (c_refu hq rfl h (xFr_r q I) he)
    rw [if_neg c0]
    obtain ⟨hop, han⟩ := opc_ok c0
    have eo : oC (opc B n a) = nI (opc B n a) := if_neg c0
    rw [eo]
    generalize opc B n a = c at hop c0 eo
    have hbit : (((I 1 15) >>> ((I 1 14) &&& 31)) &&& 1 = 1) = (ch d = true) := by
      rw [x3, b_at1 (by omega), x4 d (by omega)]
    have fin : ∀ (J : mIT) (s : Nat) (ch' : Nat → Bool), cTk J B n a → cRs J q out w → J 1 14 = nI d → (∀ d, d ≤ 6 → bt (J 1 15) d = ch' d) → J 1 16 = nI k → xFr q I J → s ≤ 2 → wp (oB (R 1 12) (fun p163 => oB (f_X8_join Fu (mU J 1 13 (nI s)) p163 (nI c)) (fun r167 => some ((1 : Int32), r167)))) (xPo I q B n a (.inr ((jnX c out w).1, (jnX c out w).2, s, d, ch', k))) := by
      intro J s ch' j1 j2 j3 j4 j5 j6 hs2
      refine wp_Be hR (wp_B (c_join hF (by omega) (cRs_u hq j2) hlen.2 (by omega) (by omega)) ?_)
      rintro K ⟨k1, k2⟩
      have g : ∀ j, K 1 j = mU J 1 13 (nI s) 1 j := fun j => by rw [k2.2 1 (by omega) (by omega) (by omega) (by omega)]
      refine wp_s ⟨rfl, cTk_c hq (cTk_u j1 (by omega)) k2, ⟨k1, by dsimp only; rw [g, q_U], by dsimp only; rw [g, q_Uj (by decide)]; exact j3, fun e he => by dsimp only; rw [g, q_Uj (by decide)]; exact j4 e he, by dsimp only; rw [g, q_Uj (by decide)]; exact j5⟩, xFr_c hq (xFr_u hq j6 (by omega)) k2⟩
    by_cases cc : c = 40 ∨ c = 41
    · have e57 : wp (b_X6_readOperator_57 Fu R (nI c) 1 I) (xPo I q B n a (if (c = 40 ∨ c = 41) ∧ ch d = true then .inl (1, a) else .inr ((jnX c out w).1, (jnX c out w).2, (if c = 10 ∨ c = 20 then 2 else 1), d, (if c = 40 ∨ c = 41 then chU ch d true else if c = 10 ∨ c = 20 then chU ch d false else ch), k))) := by
        unfold b_X6_readOperator_57
        refine wp_n (nI_nem1 (by omega)) (wp_n (by decide) ?_)
        refine wp_i hbit (fun e => ?_) (fun e => ?_)
        · rw [if_pos ⟨cc, e⟩]
          exact c_refu hq rfl h (xFr_r q I) he
        · rw [if_neg (fun k => e k.2), if_pos cc, if_neg (by omega)]
          unfold b_X6_readOperator_88 b_X6_readOperator_105 b_X6_readOperator_149
          rw [show (10 : Int32) = nI 10 from rfl, show (20 : Int32) = nI 20 from rfl]
          refine wp_n (by rw [q_eq (by omega) (by omega)]; omega) (wp_n (by rw [q_eq (by omega) (by omega)]; omega) (wp_n (by decide) (wp_p rfl ?_)))
          refine fin _ 1 _ (cTk_u h (by omega)) (cRs_u hq x1) (by rw [q_Uj (by decide)]; exact x3) (fun e he => ?_) (by rw [q_Uj (by decide)]; exact x5) (xFr_u hq (xFr_r q I) (by omega)) (by omega)
          rw [q_U, x3, bt_or (by omega) he]
          unfold chU
          by_cases ee : e = d
          · rw [if_pos ee, if_pos ee]
          · rw [if_neg ee, if_neg ee]; exact x4 e he
      rw [show (40 : Int32) = nI 40 from rfl, show (41 : Int32) = nI 41 from rfl]
      refine wp_i (by rw [q_eq (by omega) (by omega)]) (fun _ => e57) (fun q1 => wp_i (by rw [q_eq (by omega) (by omega)]) (fun _ => e57) (fun q2 => ?_))
      omega
    · rw [if_neg (show ¬ ((c = 40 ∨ c = 41) ∧ ch d = true) from fun k => cc k.1), if_neg cc]
      rw [show (40 : Int32) = nI 40 from rfl, show (41 : Int32) = nI 41 from rfl]
      refine wp_n (by rw [q_eq (by omega) (by omega)]; omega) (wp_n (by rw [q_eq (by omega) (by omega)]; omega) ?_)
      unfold b_X6_readOperator_57
      refine wp_n (nI_nem1 (by omega)) (wp_p rfl ?_)
      unfold b_X6_readOperator_88 b_X6_readOperator_100 b_X6_readOperator_105 b_X6_readOperator_149
      rw [show (10 : Int32) = nI 10 from rfl, show (20 : Int32) = nI 20 from rfl]
      have lg : c = 10 ∨ c = 20 → wp (oB (R 1 12) (fun p163 => oB (f_X8_join Fu (mU (mU I 1 15 ((I 1 15) &&& (((1 : Int32) <<< ((I 1 14) &&& 31)) ^^^ (-1 : Int32)))) 1 13 2) p163 (nI c)) (fun r167 => some ((1 : Int32), r167)))) (xPo I q B n a (.inr ((jnX c out w).1, (jnX c out w).2, (if c = 10 ∨ c = 20 then 2 else 1), d, (if c = 10 ∨ c = 20 then chU ch d false else ch), k))) := fun cl => by
        rw [if_pos cl, if_pos cl]
        refine fin _ 2 _ (cTk_u h (by omega)) (cRs_u hq x1) (by rw [q_Uj (by decide)]; exact x3) (fun e he => ?_) (by rw [q_Uj (by decide)]; exact x5) (xFr_u hq (xFr_r q I) (by omega)) (by omega)
        rw [q_U, x3, bt_clr (by omega) he]
        unfold chU
        by_cases ee : e = d
        · rw [if_pos ee, if_pos ee]
        · rw [if_neg ee, if_neg ee]; exact x4 e he
      refine wp_i (by rw [q_eq (by omega) (by omega)]) (fun q1 => ?_) (fun q1 => wp_i (by rw [q_eq (by omega) (by omega)]) (fun q2 => ?_) (fun q2 => ?_))
      · exact wp_p rfl (wp_n (by decide) (wp_n (by decide) (lg (Or.inl q1))))
      · exact wp_p rfl (wp_n (by decide) (wp_n (by decide) (lg (Or.inr q2))))
      · rw [if_neg (show ¬ (c = 10 ∨ c = 20) by omega), if_neg (show ¬ (c = 10 ∨ c = 20) by omega)]
        exact wp_p rfl (wp_p rfl (wp_p rfl (fin I 1 ch h x1 x3 x4 x5 (xFr_r q I) (by omega))))
  refine wp_Be rfl ?_
  by_cases c1 : sg B n a 41 = true
  · rw [if_pos c1]
    refine wp_n (by decide) ?_
    rw [x3]
    refine wp_i (q_le0 (by omega)) (fun e => ?_) (fun e => ?_)
    · rw [if_neg (by omega)]
      exact main (by omega)
    · rw [if_pos ⟨c1, by omega⟩]
      obtain ⟨k1, k2, k3, k4⟩ := okW_close i7 (by omega) i8
      have hln : (pwt 1 w out).2.length ≤ 80 := by
        have := (pwt_ok (t := 1) (by omega) (Nat.le_refl 11) i7 i8).1
        have := okW_len (by decide) this
        have e0 : min 11 (rT 1) = 0 := rfl
        omega
      refine wp_Be hR (wp_B (c_close hF x1 hlen.2 (by omega) (by omega) k3 hln) ?_)
      rintro K ⟨g1, g2⟩
      have g : ∀ j, K 1 j = I 1 j := fun j => by rw [g2.2 1 (by omega) (by omega) (by omega) (by omega)]
      refine wp_s ⟨rfl, cTk_u (cTk_c hq h g2) (by omega), ⟨cRs_u hq g1, by dsimp only; rw [q_Uj (by decide), g]; exact x2, ?_, fun e he => by dsimp only; rw [q_Uj (by decide), g]; exact x4 e he, by dsimp only; rw [q_Uj (by decide), g]; exact x5⟩, xFr_u hq (xFr_c hq (xFr_r q I) g2) (by omega)⟩
      dsimp only
      rw [q_U, g, x3]
      exact pk_sub (b := 1) (by omega)
  · rw [if_neg c1, if_neg (show ¬ (sg B n a 41 = true ∧ 0 < d) from fun k => c1 k.1)]
    exact wp_p rfl (main (fun k => c1 k.1))
