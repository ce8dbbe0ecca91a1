/-! the reference's part of an operand, held against the document's -/
def mPo (I : mIT) (L : mLT) (c0 : Nat) (B : Nat → Nat) (n : Nat) (r : pO (Nat × xS)) (y : mIT × mLT) : Prop := match r with
  | .inl e => y.1 75 14 = nI e.1 ∧ (1 ≤ e.1 ∧ e.1 ≤ 5) ∧ y.1 75 15 = nI e.2 ∧ mRe y.1 c0 ∧ mXf c0 I y.1 ∧ lF L y.2
  | .inr z => y.1 75 14 = 0 ∧ y.1 75 15 = I 75 15 ∧ mTk y.1 y.2 B n z.1 ∧ mXs y.1 c0 z.2 ∧ mXf c0 I y.1 ∧ lF L y.2
def pNx (B : Nat → Nat) (n a : Nat) (r : pO xS) : pO (Nat × xS) := match r with
  | .inl e => .inl e
  | .inr x => .inr (nx B n a, x)
theorem lF_r (L : mLT) : lF L L := fun _ _ _ => rfl
theorem lF_t {L M N : mLT} (h1 : lF L M) (h2 : lF M N) : lF L N := fun c j hn => by rw [h2 c j hn, h1 c j hn]
theorem mXs_s {I J : mIT} {c0 : Nat} {x : xS} (h : mXs I c0 x) (f : mTf I J) : mXs J c0 x := ⟨mRs_s h.1 f, by rw [f.1 34 (by omega)]; exact h.2.1, fun d a b => by rw [f.2 88 (by decide)]; exact h.2.2 d a b⟩
theorem m_nx {Fu : Nat} {I : mIT} {L : mLT} {B : Nat → Nat} {n a : Nat} (hF : 2200 < Fu) (ht : tpe B n) (h : mTk I L B n a) : wp (f_X12_reads Fu I L) (fun y => mTk y.1 y.2 B n (nx B n a) ∧ mTf I y.1 ∧ lF L y.2) := m_reads hF ht h.1 h.2.2.1 (tE_le h.2.1).1
theorem mTk_c {I J : mIT} {L : mLT} {B : Nat → Nat} {n a c0 : Nat} (h : mTk I L B n a) (f : mRf I J c0) : mTk J L B n a := mTk_k h (fun j _ _ => f.1 j (by omega) (by omega)) (f.2.2 80 (by decide) (by decide) (by decide))
theorem mRe_i {I : mIT} {c0 : Nat} {out : eSt} {w : List Nat} (h : mRs I c0 out w) (hv : vC w) (hl : w.length ≤ 80) (hb : c0 + (enp out).length + w.length ≤ 1398) : mRe I c0 := ⟨out, w, h, hv, hl, hb⟩
theorem xI_vC {x : xS} {a : Nat} (h : xI x a) : vC x.2.1 := by
  obtain ⟨_, _, _, _, _, _, h7, _⟩ := h
  exact vC_ok h7
theorem tW_lt {B : Nat → Nat} {n a : Nat} : tW B n a = 9999 ∨ tW B n a < 19 := by
  unfold tW
  by_cases e : tK B n a = 1 ∧ tE B n a - a ≤ 7
  · rw [if_pos e]
    rcases sFk_b (p := fun v => decide (wC v = pk B a (tE B n a - a))) 19 0 with h | h
    · exact Or.inl h
    · exact Or.inr (by omega)
  · rw [if_neg e]; exact Or.inl rfl
/-- after a fault all that remains is put down -/
theorem m_partbad {Fu : Nat} {I : mIT} {L : mLT} {B : Nat → Nat} {n a c0 k : Nat} {x : xS} {v : Int32} {u1 u2 : Int32} (hk : v = nI k) (hk5 : 1 ≤ k ∧ k ≤ 5) (hT : mTk I L B n a) (hg : I 75 14 = 0) (hx : mXs I c0 x) (hi : xI x a) (hb : c0 + (enp x.1).length + x.2.1.length + 4 ≤ 2 * a) (hn : n ≤ 700) (h12 : u1 = 1 ∨ u1 = 2) : wp (oB (f_X12_wrong Fu I v) (fun r => oB (f_X12_puts Fu r u1) (fun r1 => oB (f_X12_puts Fu r1 u2) (fun r2 => oB (f_X12_isGood Fu r2) (fun r92 => if r92 = 0 then (some (r2, L)) else (oB (f_X12_reads Fu r2 L) (fun r99 => some (r99.1, r99.2)))))))) (mPo I L c0 B n (.inl (k, a))) := by
  have ha := hT.2.1
  have hlen := (xI_len hi).1
  refine wp_Be (m_wrong hg) ?_
  rw [hT.2.2.2.2.1, hk]
  refine m_put2 (c0 := c0) (out := x.1) (w := x.2.1) (mRs_w (mRs_w hx.1 (by omega)) (by omega)) (by omega) h12 (fun J j1 j2 => ?_)
  have e14 : J 75 14 = nI k := by rw [j2.1 14 (by omega) (by omega), q_Uj (by decide), q_U]
  refine wp_Be (m_good0 (by rw [e14]; rcases (by omega : k = 1 ∨ k = 2 ∨ k = 3 ∨ k = 4 ∨ k = 5) with rfl | rfl | rfl | rfl | rfl <;> decide)) (wp_p rfl (wp_s ⟨e14, hk5, by dsimp only; rw [j2.1 15 (by omega) (by omega), q_U], ?_, mXf_c (mXf_u (mXf_u (mXf_r c0 I) (by omega)) (by omega)) j2, lF_r L⟩))
  refine mRe_i j1 (xI_vC hi) (by omega) ?_
  rw [enp_ap, List.length_append, show (enp [(u1, u2)]).length = 2 by rw [enp, if_pos h12]; rfl]
  omega
theorem m_partgood {Fu : Nat} {I : mIT} {L : mLT} {B : Nat → Nat} {n a c0 : Nat} {x : xS} {u1 u2 : Int32} (hF : 2200 < Fu) (ht : tpe B n) (hT : mTk I L B n a) (hg : I 75 14 = 0) (hx : mXs I c0 x) (hi : xI x a) (hb : c0 + (enp x.1).length + x.2.1.length + 4 ≤ 2 * a) (h12 : u1 = 1 ∨ u1 = 2) : wp (oB (f_X12_puts Fu I u1) (fun r1 => oB (f_X12_puts Fu r1 u2) (fun r2 => oB (f_X12_isGood Fu r2) (fun r92 => if r92 = 0 then (some (r2, L)) else (oB (f_X12_reads Fu r2 L) (fun r99 => some (r99.1, r99.2))))))) (mPo I L c0 B n (.inr (nx B n a, (x.1 ++ [(u1, u2)], x.2.1, 0, x.2.2.2.1, x.2.2.2.2.1, 0)))) := by
  have ha := hT.2.1
  have h7 := ht.1
  refine m_put2 (c0 := c0) (out := x.1) (w := x.2.1) hx.1 (by omega) h12 (fun J j1 j2 => ?_)
  refine wp_Be (m_good1 (by rw [j2.1 14 (by omega) (by omega)]; exact hg)) (wp_n (by decide) (wp_B (m_nx hF ht (mTk_c hT j2)) ?_))
  rintro y ⟨y1, y2, y3⟩
  refine wp_s ⟨by rw [y2.1 14 (by omega), j2.1 14 (by omega) (by omega)]; exact hg, by rw [y2.1 15 (by omega), j2.1 15 (by omega) (by omega)], y1, ⟨mRs_s j1 y2, ?_, fun d a b => ?_⟩, mXf_s (mXf_c (mXf_r c0 I) j2) y2, y3⟩
  · rw [y2.1 34 (by omega), j2.1 34 (by omega) (by omega)]; exact hx.2.1
  · rw [y2.2 88 (by decide), j2.2.2 88 (by decide) (by decide) (by decide)]; exact hx.2.2 d a b
theorem m_part29 {Fu : Nat} {I : mIT} {L : mLT} {m : Nat} (h : I 75 32 = nI m) (hm : m < 1400) : b_X12_part_29 Fu I L = oB (f_X12_puts Fu I 1) (fun r31 => oB (f_X12_puts Fu r31 (I 75 22)) (fun r39 => oB (f_X12_isGood Fu r39) (fun r92 => if r92 = 0 then (some (r39, L)) else (oB (f_X12_reads Fu r39 L) (fun r99 => some (r99.1, r99.2)))))) := by
  unfold b_X12_part_29
  rw [m_puts h hm, q_B, q_B, q_Uj (show (22 : Nat) ≠ 32 by decide), mU_other (show (75 : Nat) ≠ 86 by decide)]
theorem m_part {Fu : Nat} {I : mIT} {L : mLT} {B : Nat → Nat} {n a c0 : Nat} {x : xS} (hF : 2200 < Fu) (ht : tpe B n) (hT : mTk I L B n a) (hg : I 75 14 = 0) (hx : mXs I c0 x) (hi : xI x a) (hb : c0 + (enp x.1).length + x.2.1.length + 4 ≤ 2 * a) (hd : x.2.2.2.1 ≤ 5) (h18 : ¬ (x.2.2.1 = 2 ∧ tW B n a = 18)) (h40 : ¬ sg B n a 40 = true) : wp (f_X12_part Fu I L) (mPo I L c0 B n (pNx B n a (exOd B n a x))) := by
  have hK := tK_4 (B := B) (n := n) (a := a)
  have h7 := ht.1
  have ha := hT.2.1
  have hE := tE_le (B := B) ha
  have hlen := (xI_len hi).1
  obtain ⟨t1, t2, t3, t4, t5, t6, t7, t8, t9⟩ := hT
  have hT : mTk I L B n a := ⟨t1, t2, t3, t4, t5, t6, t7, t8, t9⟩
  unfold f_X12_part exOd
  rw [if_neg (show ¬ 6 ≤ x.2.2.2.1 by omega), if_neg h18, if_neg h40, t4]
  refine wp_Be (m_good1 hg) (wp_n (by decide) (wp_i (q_eq (b := 2) (by omega) (by omega)) (fun c2 => ?_) (fun c2 => wp_i (q_eq (b := 1) (by omega) (by omega)) (fun c1 => ?_) (fun c1 => ?_))))
  · rw [if_neg (show ¬ tK B n a = 1 by omega), if_pos c2, t6, show (4 : Int32) = nI 4 from rfl]
    rw [if_pos c2] at t7
    refine wp_i (q_le (by omega) (by omega)) (fun c4 => ?_) (fun c4 => ?_)
    · rw [if_pos c4, m_part29 (m := c0 + (enp x.1).length) hx.1.1 (by omega), t7]
      exact m_partgood hF ht hT hg hx hi hb (Or.inl rfl)
    · rw [if_neg c4]
      have := m_partbad (Fu := Fu) (u1 := 1) (u2 := I 75 22) (v := 2) (k := 2) rfl (by omega) hT hg hx hi hb h7 (Or.inl rfl)
      rw [m_wrong hg, q_B] at this ⊢
      rw [m_part29 (m := c0 + (enp x.1).length) (by rw [q_Uj (by decide), q_Uj (by decide)]; exact hx.1.1) (by omega), q_Uj (show (22 : Nat) ≠ 15 by decide), q_Uj (show (22 : Nat) ≠ 14 by decide)]
      exact this
  · rw [if_pos c1]
    refine wp_Be (m_knownWord hF ht hT) ?_
    by_cases c6 : tW B n a ≤ 6
    · rw [if_pos c6]
      have ek : kN (tW B n a) = nI (tW B n a) := by unfold kN; rw [if_neg (by omega)]
      rw [ek, show (6 : Int32) = nI 6 from rfl]
      refine wp_n (by rw [q_lt0 (by omega)]; exact id) (wp_p (by rw [q_le (by omega) (by omega)]; exact c6) ?_)
      exact m_partgood hF ht hT hg hx hi hb (Or.inr rfl)
    · rw [if_neg c6]
      have bad : wp (b_X12_part_68 Fu (kN (tW B n a)) I L) (mPo I L c0 B n (.inl (3, a))) := m_partbad (Fu := Fu) (u1 := 2) (u2 := kN (tW B n a)) (v := 3) (k := 3) rfl (by omega) hT hg hx hi hb h7 (Or.inr rfl)
      refine wp_f (fun _ => bad) (fun q => wp_f (fun q2 => ?_) (fun _ => bad))
      exfalso
      have hw := tW_lt (B := B) (n := n) (a := a)
      unfold kN at q q2
      by_cases e9 : tW B n a = 9999
      · rw [if_pos e9] at q; exact q (by decide)
      · rw [if_neg e9, show (6 : Int32) = nI 6 from rfl, q_le (by omega) (by omega)] at q2
        omega
  · rw [if_neg c1, if_neg c2]
    refine wp_Be (m_wrong hg) ?_
    have e14 : (mU (mU I 75 14 1) 75 15 (I 75 20)) 75 14 = nI 1 := by rw [q_Uj (by decide), q_U]; rfl
    refine wp_Be (m_good0 (by rw [e14]; decide)) (wp_p rfl (wp_s ⟨e14, by omega, by dsimp only; rw [q_U, t5], ?_, mXf_u (mXf_u (mXf_r c0 I) (by omega)) (by omega), lF_r L⟩))
    exact mRe_i (mRs_w (mRs_w hx.1 (by omega)) (by omega)) (xI_vC hi) (by omega) (by omega)
