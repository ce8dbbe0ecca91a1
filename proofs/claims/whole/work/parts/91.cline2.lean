theorem xFb_cFr {p q : Nat} {I J : mIT} (hp : 3 ≤ p) (hq : p ≤ q ∧ q + 3 < p + 18) (h : xFb q I J) : cFr p I J := ⟨fun j hj => h.1 j (by omega), fun c a b => h.2.2 c a (by omega) (by omega) (by omega) (by omega)⟩
theorem xFr_cFr {p q : Nat} {I J : mIT} (hp : 3 ≤ p) (hq : p ≤ q ∧ q + 3 < p + 18) (h : xFr q I J) : cFr p I J := ⟨fun j hj => h.1 j (by omega), fun c a b => h.2.2 c a (by omega) (by omega) (by omega) (by omega)⟩
theorem c_noteL {Fu : Nat} {I : mIT} {R : mRT} {p : Nat} {B : Nat → Nat} {n a : Nat} {S : lS} (hF : 2200 < Fu) (ht : tpe B n) (hp : 3 ≤ p) (hT : cTk I B n a) (ha1 : 1 ≤ a) (hL : cL I p (setN S [])) (h6 : I (p + 4) 6 = 0) (hw : wB (mUR R 1 12 (some (p + 4))) = true) : wp (f_X6_readExpr Fu R I (p + 4)) (fun y => y.2.2 = mUR R 1 12 (some (p + 4)) ∧ cBo I p B n (exL (setN S) (exR B n (n - a + 1) a x0)) (y.1, y.2.1)) := by
  have h700 := ht.1
  refine wp_m (c_readExpr hF ht hT ha1 hw (by omega) (cE_0 hL.2.2.2.2.2.2.2.2.2.1) h6) ?_
  rintro ⟨y1, J, R'⟩ ⟨hR, hx⟩
  refine ⟨hR, ?_⟩
  cases e : exR B n (n - a + 1) a x0 with
  | inl ee =>
    rw [e] at hx
    obtain ⟨k1, k2, k3, k4⟩ := hx
    exact ⟨xFb_cFr hp (by omega) k4, k1, k2, k3⟩
  | inr z =>
    rw [e] at hx
    obtain ⟨k1, k2, k3, k4, k5, k6⟩ := hx
    dsimp only at k1 k2 k5 k6
    obtain ⟨w1, w2⟩ := ex_fin k3 k4
    have hz := k2.2.1
    obtain ⟨h1, h2, h3, h4, h5, g6, h7, h8, h9, g10, h11, h12, h13, h14, h15⟩ := hL
    have o : ∀ c, p ≤ c → c ≠ p + 4 → c ≠ p + 5 → c ≠ p + 6 → c ≠ p + 7 → J c = I c := fun c a b d e f => k6.2.2 c (by omega) (by omega) (by omega) (by omega) (by omega)
    have o0 : J p = I p := o p (by omega) (by omega) (by omega) (by omega) (by omega)
    refine ⟨xFr_cFr hp (by omega) k6, k1, k6.1 9 (by omega), k2, ⟨?_, ?_, ?_, ?_, ?_, ?_, fun r hr => ?_, fun j hj => ?_, fun j hj => ?_, cE_of k5 w1 (Nat.le_trans w2 (Nat.le_trans hz h700)), ?_, fun j hj => ?_, fun i a b => ?_, fun q => ?_, fun q => ?_⟩⟩
    · dsimp only; rw [o0]; exact h1
    · dsimp only; rw [o0]; exact h2
    · dsimp only; rw [o0]; exact h3
    · dsimp only; rw [o0]; exact h4
    · dsimp only; rw [o0]; exact h5
    · dsimp only; rw [o0]; exact g6
    · dsimp only; rw [o (p + 1) (by omega) (by omega) (by omega) (by omega) (by omega)]; exact h7 r hr
    · dsimp only; rw [o (p + 2) (by omega) (by omega) (by omega) (by omega) (by omega)]; exact h8 j hj
    · dsimp only; rw [o (p + 3) (by omega) (by omega) (by omega) (by omega) (by omega)]; exact h9 j hj
    · exact cE_k h11 (by dsimp only; rw [o (p + 10) (by omega) (by omega) (by omega) (by omega) (by omega)]) (o _ (by omega) (by omega) (by omega) (by omega) (by omega)) (o _ (by omega) (by omega) (by omega) (by omega) (by omega))
    · dsimp only; rw [o (p + 17) (by omega) (by omega) (by omega) (by omega) (by omega)]; exact h12 j hj
    · dsimp only; rw [k6.1 10 (by omega)]; exact h13 i a b
    · exact absurd q (by show ¬ (true = false); decide)
    · dsimp only; rw [o (p + 10) (by omega) (by omega) (by omega) (by omega) (by omega)]; exact h15 q
theorem c_grows {Fu : Nat} {I : mIT} {R : mRT} {p : Nat} {B : Nat → Nat} {n a : Nat} {S : lS} (hF : 2200 < Fu) (ht : tpe B n) (hp : 3 ≤ p) (hT : cTk I B n a) (ha1 : 1 ≤ a) (hL : cL I p (setG S [])) (h6 : I (p + 10) 6 = 0) (hw : wB (mUR R 1 12 (some (p + 10))) = true) : wp (f_X6_readExpr Fu R I (p + 10)) (fun y => y.2.2 = mUR R 1 12 (some (p + 10)) ∧ cBo I p B n (exL (setG S) (exR B n (n - a + 1) a x0)) (y.1, y.2.1)) := by
  have h700 := ht.1
  refine wp_m (c_readExpr hF ht hT ha1 hw (by omega) (cE_0 hL.2.2.2.2.2.2.2.2.2.2.1) h6) ?_
  rintro ⟨y1, J, R'⟩ ⟨hR, hx⟩
  refine ⟨hR, ?_⟩
  cases e : exR B n (n - a + 1) a x0 with
  | inl ee =>
    rw [e] at hx
    obtain ⟨k1, k2, k3, k4⟩ := hx
    exact ⟨xFb_cFr hp (by omega) k4, k1, k2, k3⟩
  | inr z =>
    rw [e] at hx
    obtain ⟨k1, k2, k3, k4, k5, k6⟩ := hx
    dsimp only at k1 k2 k5 k6
    obtain ⟨w1, w2⟩ := ex_fin k3 k4
    have hz := k2.2.1
    obtain ⟨h1, h2, h3, h4, h5, g6, h7, h8, h9, g10, h11, h12, h13, h14, h15⟩ := hL
    have o : ∀ c, p ≤ c → c ≠ p + 10 → c ≠ p + 11 → c ≠ p + 12 → c ≠ p + 13 → J c = I c := fun c a b d e f => k6.2.2 c (by omega) (by omega) (by omega) (by omega) (by omega)
    have o0 : J p = I p := o p (by omega) (by omega) (by omega) (by omega) (by omega)
    refine ⟨xFr_cFr hp (by omega) k6, k1, k6.1 9 (by omega), k2, ⟨?_, ?_, ?_, ?_, ?_, ?_, fun r hr => ?_, fun j hj => ?_, fun j hj => ?_, ?_, cE_of k5 w1 (Nat.le_trans w2 (Nat.le_trans hz h700)), fun j hj => ?_, fun i a b => ?_, fun q => ?_, fun q => ?_⟩⟩
    · dsimp only; rw [o0]; exact h1
    · dsimp only; rw [o0]; exact h2
    · dsimp only; rw [o0]; exact h3
    · dsimp only; rw [o0]; exact h4
    · dsimp only; rw [o0]; exact h5
    · dsimp only; rw [o0]; exact g6
    · dsimp only; rw [o (p + 1) (by omega) (by omega) (by omega) (by omega) (by omega)]; exact h7 r hr
    · dsimp only; rw [o (p + 2) (by omega) (by omega) (by omega) (by omega) (by omega)]; exact h8 j hj
    · dsimp only; rw [o (p + 3) (by omega) (by omega) (by omega) (by omega) (by omega)]; exact h9 j hj
    · exact cE_k g10 (by dsimp only; rw [o (p + 4) (by omega) (by omega) (by omega) (by omega) (by omega)]) (o _ (by omega) (by omega) (by omega) (by omega) (by omega)) (o _ (by omega) (by omega) (by omega) (by omega) (by omega))
    · dsimp only; rw [o (p + 17) (by omega) (by omega) (by omega) (by omega) (by omega)]; exact h12 j hj
    · dsimp only; rw [k6.1 10 (by omega)]; exact h13 i a b
    · dsimp only; rw [o (p + 4) (by omega) (by omega) (by omega) (by omega) (by omega)]; exact h14 q
    · exact absurd q (by show ¬ (true = false); decide)
theorem c_lasts {Fu : Nat} {I : mIT} {R : mRT} {p : Nat} {B : Nat → Nat} {n a : Nat} {S : lS} (hF : 2200 < Fu) (ht : tpe B n) (hp : 3 ≤ p) (hR : R 1 11 = some p) (hT : cTk I B n a) (hL : cL I p (S.1, S.2.1, mk S 5)) : wp (f_X6_readLasts Fu R I) (cBo I p B n (lsS B n a S)) := by
  unfold f_X6_readLasts lsS
  refine wp_Be (c_num (lo := 1) (hi := 99) ht hT (by omega) (by omega)) ?_
  by_cases e : numS B n a 1 99 = 0
  · rw [if_pos e, if_pos e]
    refine wp_n (show ¬ ((1 : Int32) = 0) by decide) (wp_Be hR ?_)
    dsimp only
    have n2 := numS_2 e
    rw [(hT.2.2.2.2.2.2 n2.1).2]
    have hT' : cTk (mU I p 5 (nI (tN B n a))) B n a := cTk_k hT (fun j _ _ => by rw [mU_other (by omega)]) (mU_other (by omega))
    have hL' : cL (mU I p 5 (nI (tN B n a))) p (setL S (nI (tN B n a))) := by
      obtain ⟨h1, h2, h3, h4, h5, h6, h7, h8, h9, g10, h11, h12, h13, h14, h15⟩ := hL
      refine ⟨?_, ?_, q_U _ _ _ _, ?_, ?_, ?_, fun r hr => ?_, fun j hj => ?_, fun j hj => ?_, ?_, ?_, fun j hj => ?_, fun i a b => ?_, fun q => ?_, fun q => ?_⟩
      · rw [q_Uj (by decide)]; exact h1
      · rw [q_Uj (by decide)]; exact h2
      · rw [q_Uj (by decide)]; exact h4
      · rw [q_Uj (by decide)]; exact h5
      · rw [q_Uj (by decide)]; exact h6
      · rw [mU_other (by omega)]; exact h7 r hr
      · rw [mU_other (by omega)]; exact h8 j hj
      · rw [mU_other (by omega)]; exact h9 j hj
      · exact cE_k g10 (by rw [mU_other (by omega)]) (by rw [mU_other (by omega)]) (by rw [mU_other (by omega)])
      · exact cE_k h11 (by rw [mU_other (by omega)]) (by rw [mU_other (by omega)]) (by rw [mU_other (by omega)])
      · rw [mU_other (by omega)]; exact h12 j hj
      · rw [mU_other (by omega)]; exact h13 i a b
      · rw [mU_other (by omega)]; exact h14 q
      · rw [mU_other (by omega)]; exact h15 q
    refine wp_B (c_nx hF ht hT') ?_
    rintro J ⟨t, f⟩
    refine wp_s ⟨cFr_s (cFr_p (cFr_r p I) hp (by omega)) f, rfl, ?_, t, cL_s hp hL' f⟩
    dsimp only
    rw [f.1 9 (by omega), mU_other (by omega)]
  · rw [if_neg e, if_neg e]
    exact wp_p rfl (c_badn hT (cFr_r p I))
theorem c_tail {Fu : Nat} {I : mIT} {R' : mRT} {p : Nat} {B : Nat → Nat} {n : Nat} {r : pO (Nat × lS)} {y : Int32 × mIT} (hF : 2200 < Fu) (ht : tpe B n) (hp : 3 ≤ p) (h : cBo I p B n r y) : wp (if y.1 = 0 then (some ((0 : Int32), y.2, R')) else (oB (f_X6_readLineEnd Fu y.2) (fun r125 => if r125.1 = 0 then (some ((0 : Int32), r125.2, R')) else (some ((1 : Int32), r125.2, R'))))) (fun z => z.2.2 = R' ∧ cBo I p B n (leS B n r) (z.1, z.2.1)) := by
  obtain ⟨hf, h⟩ := h
  cases r with
  | inl e =>
    obtain ⟨h1, h2, h3⟩ := h
    exact wp_p h1 (wp_s ⟨rfl, hf, rfl, h2, h3⟩)
  | inr z =>
    obtain ⟨h1, h2, h3, h4⟩ := h
    refine wp_n (by rw [h1]; decide) ?_
    unfold f_X6_readLineEnd
    show wp _ (fun w : Int32 × mIT × mRT => w.2.2 = R' ∧ cBo I p B n (if sg B n z.1 59 = true then .inr (nx B n z.1, z.2) else .inl (1, z.1)) (w.1, w.2.1))
    rw [show (59 : Int32) = nI 59 from rfl, c_sg (c := 59) ht h3 (by omega), q_B]
    by_cases e : sg B n z.1 59 = true
    · rw [if_pos e, if_pos e, if_neg (by decide)]
      have := c_nx hF ht h3
      refine wp_B (wp_B this (fun K hK => wp_s (Q := fun w : Int32 × mIT => w.1 = 1 ∧ cTk w.2 B n (nx B n z.1) ∧ cTf y.2 w.2) ⟨rfl, hK⟩)) ?_
      rintro w ⟨w1, w2, w3⟩
      refine wp_n (by rw [w1]; decide) (wp_s ⟨rfl, cFr_s hf w3, rfl, ?_, w2, cL_s hp h4 w3⟩)
      dsimp only
      rw [w3.1 9 (by omega)]; exact h2
    · rw [if_neg e, if_neg e, if_pos rfl]
      refine wp_B (c_bad (k := 1) rfl h3 hf) ?_
      rintro w ⟨w1, w2, w3, w4⟩
      exact wp_p w2 (wp_s ⟨rfl, w1, rfl, w3, w4⟩)
def lOk (S : lS) : Prop := pR S.1 ≤ 10 ∧ (S.2.2 4 = false → pN S.1 = 0) ∧ (S.2.2 6 = false → pT S.1 = 0) ∧ (S.2.2 7 = false → pC S.1 = 0) ∧ (S.2.2 8 = false → pNo S.1 = []) ∧ (S.2.2 9 = false → pGr S.1 = [])
theorem c_line {Fu : Nat} {I : mIT} {R : mRT} {p : Nat} {B : Nat → Nat} {n a : Nat} {S : lS} (hF : 2200 < Fu) (ht : tpe B n) (hp : 3 ≤ p) (hR : R 1 11 = some p) (hw : ∀ q, q = p + 4 ∨ q = p + 10 → wB (mUR R 1 12 (some q)) = true) (hT : cTk I B n a) (hL : cL I p S) (hok : lOk S) : wp (f_X6_readLine Fu R I) (fun y => (y.2.2 = R ∨ ∃ q, (q = p + 4 ∨ q = p + 10) ∧ y.2.2 = mUR R 1 12 (some q)) ∧ cBo I p B n (leS B n (bdS B n a S)) (y.1, y.2.1)) := by
  obtain ⟨o1, o2, o3, o4, o5, o6⟩ := hok
  have hle := lwd_le (tW B n a)
  unfold f_X6_readLine bdS
  refine wp_Be (c_lineWord hF ht hT) ?_
  have tail : ∀ (r : pO (Nat × lS)) (x : Option (Int32 × mIT)), wp x (cBo I p B n r) → wp (oB x (fun r118 => if r118.1 = 0 then (some ((0 : Int32), r118.2, R)) else (oB (f_X6_readLineEnd Fu r118.2) (fun r125 => if r125.1 = 0 then (some ((0 : Int32), r125.2, R)) else (some ((1 : Int32), r125.2, R)))))) (fun y => (y.2.2 = R ∨ ∃ q, (q = p + 4 ∨ q = p + 10) ∧ y.2.2 = mUR R 1 12 (some q)) ∧ cBo I p B n (leS B n r) (y.1, y.2.1)) := fun r x hx => wp_B hx (fun y hy => wp_m (c_tail hF ht hp hy) (fun z hz => ⟨Or.inl hz.1, hz.2⟩))
  by_cases e10 : lwd (tW B n a) = 10
  · rw [if_pos e10, if_pos e10]
    refine wp_p rfl ?_
    unfold f_X6_refuse
    refine wp_Be rfl ?_
    dsimp only
    rw [q_G (by decide)]
    exact wp_s ⟨Or.inl rfl, cFr_u (cFr_r p I) (by omega), rfl, by dsimp only; rw [q_U]; rfl, by dsimp only; rw [q_Uj (by decide)]; exact hT.2.2.2.2.1⟩
  rw [if_neg e10, if_neg e10]
  refine wp_n (by rw [q_eqm1 (by omega)]; exact id) ?_
  by_cases e4 : lwd (tW B n a) < 4
  · rw [if_pos e4]
    refine wp_n (by rw [show (4 : Int32) = nI 4 from rfl, q_le (by omega) (by omega)]; omega) ?_
    exact tail _ _ (c_root hF ht hp hR hT hL o1)
  rw [if_neg e4]
  refine wp_p (by rw [show (4 : Int32) = nI 4 from rfl, q_le (by omega) (by omega)]; omega) ?_
  have hbit : bt (I 1 10) (lwd (tW B n a)) = S.2.2 (lwd (tW B n a)) := hL.2.2.2.2.2.2.2.2.2.2.2.2.1 _ (by omega) (by omega)
  have han : a < n := tK_0 (B := B) (n := n) (by
    intro q
    have : tW B n a = 9999 := by
      unfold tW
      rw [if_neg (by omega)]
    rw [this] at e10
    exact e10 rfl)
  have hnx := nx_gt (B := B) han
  refine wp_i (b_at1 (by omega) _) (fun q => ?_) (fun q => ?_)
  · rw [hbit] at q
    rw [if_pos q]
    unfold f_X6_refuse
    refine wp_Be rfl ?_
    dsimp only
    rw [q_G (by decide)]
    exact wp_s ⟨Or.inl rfl, cFr_u (cFr_r p I) (by omega), rfl, by dsimp only; rw [q_U]; rfl, by dsimp only; rw [q_Uj (by decide)]; exact hT.2.2.2.2.1⟩
  · rw [hbit] at q
    rw [if_neg q]
    have qf := Bool.eq_false_iff.mpr q
    generalize lwd (tW B n a) = k at *
    have hM := cL_0 hp hL (show 4 ≤ k ∧ k ≤ 9 by omega)
    have hMT : cTk (cMk I k) B n a := cTk_u hT (by omega)
    have hM9 : cMk I k 1 9 = I 1 9 := q_Uj (by decide)
    have hMf : cFr p I (cMk I k) := cFr_u (cFr_r p I) (by omega)
    refine wp_B (c_nx hF ht hMT) ?_
    rintro J ⟨t, f⟩
    have hLJ := cL_s hp hM f
    have fJ : cFr p I J := cFr_s hMf f
    have J9 : J 1 9 = I 1 9 := by rw [f.1 9 (by omega)]; exact hM9
    have up : ∀ (r : pO (Nat × lS)) (y : Int32 × mIT), cBo J p B n r y → cBo I p B n r y := fun r y hy => by
      obtain ⟨y1, y2⟩ := hy
      refine ⟨cFr_t fJ y1, ?_⟩
      cases r with
      | inl e => exact y2
      | inr z => exact ⟨y2.1, by rw [← J9]; exact y2.2.1, y2.2.2⟩
    rcases (by omega : k = 4 ∨ k = 5 ∨ k = 6 ∨ k = 7 ∨ k = 8 ∨ k = 9) with rfl | rfl | rfl | rfl | rfl | rfl
    · rw [show bdK B n (nx B n a) S 4 = rwL (setW S) (rwS B n 10 9 false (n - nx B n a + 1) (nx B n a) []) by unfold bdK; rw [if_pos rfl]]
      refine wp_p rfl (tail _ _ (wp_m (c_rowL (mx := 10) (hi := 9) (ch := false) hF ht hp (by omega) (by omega) (by decide) t (cL_W hLJ (o2 qf)) (c_adW hp hR)) (up _)))
    · rw [show bdK B n (nx B n a) S 5 = lsS B n (nx B n a) S by unfold bdK; rw [if_neg (by decide), if_pos rfl]]
      refine wp_n (by decide) (wp_p rfl (tail _ _ (wp_m (c_lasts hF ht hp hR t hLJ) (up _))))
    · rw [show bdK B n (nx B n a) S 6 = rwL (setU S) (rwS B n 8 15 false (n - nx B n a + 1) (nx B n a) []) by unfold bdK; rw [if_neg (by decide), if_neg (by decide), if_pos rfl]]
      refine wp_n (by decide) (wp_n (by decide) (wp_p rfl (tail _ _ (wp_m (c_rowL (mx := 8) (hi := 15) (ch := false) hF ht hp (by omega) (by omega) (by decide) t (cL_U hLJ (o3 qf)) (c_adU hp hR)) (up _)))))
    · rw [show bdK B n (nx B n a) S 7 = rwL (setM S) (rwS B n 12 31 true (n - nx B n a + 1) (nx B n a) []) by unfold bdK; rw [if_neg (by decide), if_neg (by decide), if_neg (by decide), if_pos rfl]]
      refine wp_n (by decide) (wp_n (by decide) (wp_n (by decide) (wp_p rfl (tail _ _ (wp_m (c_rowL (mx := 12) (hi := 31) (ch := true) hF ht hp (by omega) (by omega) (by decide) t (cL_M hLJ (o4 qf) o1) (c_adM hp hR o1)) (up _))))))
    · rw [show bdK B n (nx B n a) S 8 = exL (setN S) (exR B n (n - nx B n a + 1) (nx B n a) x0) by unfold bdK; rw [if_neg (by decide), if_neg (by decide), if_neg (by decide), if_neg (by decide), if_pos rfl]]
      refine wp_n (by decide) (wp_n (by decide) (wp_n (by decide) (wp_n (by decide) (wp_p rfl (wp_Be hR (wp_B (c_noteL hF ht hp t (by omega) (cL_N hLJ (o5 qf)) ?_ (hw _ (Or.inl rfl))) ?_))))))
      · rw [f.2 (p + 4) (by omega), mU_other (by omega)]
        exact hL.2.2.2.2.2.2.2.2.2.2.2.2.2.1 qf
      · rintro y ⟨y1, y2⟩
        rw [q_G (by rw [y1]; exact hw _ (Or.inl rfl))]
        exact wp_m (c_tail hF ht hp (up _ _ y2)) (fun z hz => ⟨Or.inr ⟨p + 4, Or.inl rfl, by rw [hz.1, y1]⟩, hz.2⟩)
    · rw [show bdK B n (nx B n a) S 9 = exL (setG S) (exR B n (n - nx B n a + 1) (nx B n a) x0) by unfold bdK; rw [if_neg (by decide), if_neg (by decide), if_neg (by decide), if_neg (by decide), if_neg (by decide)]]
      refine wp_n (by decide) (wp_n (by decide) (wp_n (by decide) (wp_n (by decide) (wp_n (by decide) (wp_Be hR (wp_B (c_grows hF ht hp t (by omega) (cL_G hLJ (o6 qf)) ?_ (hw _ (Or.inr rfl))) ?_))))))
      · rw [f.2 (p + 10) (by omega), mU_other (by omega)]
        exact hL.2.2.2.2.2.2.2.2.2.2.2.2.2.2 qf
      · rintro y ⟨y1, y2⟩
        rw [q_G (by rw [y1]; exact hw _ (Or.inr rfl))]
        exact wp_m (c_tail hF ht hp (up _ _ y2)) (fun z hz => ⟨Or.inr ⟨p + 10, Or.inr rfl, by rw [hz.1, y1]⟩, hz.2⟩)
