/-! the class reads a root's line -/
theorem c_nx {Fu : Nat} {I : mIT} {B : Nat → Nat} {n a : Nat} (hF : 2200 < Fu) (ht : tpe B n) (h : cTk I B n a) : wp (f_X6_step Fu I) (fun J => cTk J B n (nx B n a) ∧ cTf I J) := c_step hF ht h.1 h.2.2.1 (tE_le h.2.1).1
theorem c_bad {Fu : Nat} {I0 J : mIT} {p : Nat} {B : Nat → Nat} {n a k : Nat} {v : Int32} (hv : v = nI k) (h : cTk J B n a) (f : cFr p I0 J) : wp (oB (f_X6_refuse Fu J v) (fun r => oG (isB r.1) (some (r.1, r.2)))) (cBo I0 p B n (.inl (k, a))) := by
  unfold f_X6_refuse
  refine wp_Be rfl ?_
  dsimp only
  rw [q_G (by decide)]
  exact wp_s ⟨cFr_u f (by omega), rfl, by dsimp only; rw [q_U, hv], by dsimp only; rw [q_Uj (by decide)]; exact h.2.2.2.2.1⟩
theorem c_badn {I0 J : mIT} {p : Nat} {B : Nat → Nat} {n a k : Nat} (h : cTk J B n a) (f : cFr p I0 J) : wp (some ((0 : Int32), mU J 1 9 (nI k))) (cBo I0 p B n (.inl (k, a))) := wp_s ⟨cFr_u f (by omega), rfl, by dsimp only; rw [q_U], by dsimp only; rw [q_Uj (by decide)]; exact h.2.2.2.2.1⟩
def cAdd (I : mIT) (p r : Nat) (k s h pl : Int32) : mIT := mU (mU (mU (mU (mU (mU I (p + 1) r k) (p + 17) (1 + r) s) (p + 17) (11 + r) h) (p + 17) (21 + r) 0) (p + 17) (31 + r) pl) p 3 (nI (r + 1))
theorem cAdd_p {I : mIT} {p r j : Nat} {k s h pl : Int32} (hj : j ≠ 3) : cAdd I p r k s h pl p j = I p j := by
  unfold cAdd
  rw [q_Uj hj, mU_other (by omega), mU_other (by omega), mU_other (by omega), mU_other (by omega), mU_other (by omega)]
theorem cAdd_1 {I : mIT} {p r j : Nat} {k s h pl : Int32} : cAdd I p r k s h pl (p + 1) j = if j = r then k else I (p + 1) j := by
  unfold cAdd
  rw [mU_other (by omega), mU_other (by omega), mU_other (by omega), mU_other (by omega), mU_other (by omega)]
  by_cases e : j = r
  · rw [if_pos e, e, q_U]
  · rw [if_neg e, q_Uj e]
theorem cAdd_17 {I : mIT} {p r j : Nat} {k s h pl : Int32} (hr : r < 10) : cAdd I p r k s h pl (p + 17) j = if j = 1 + r then s else if j = 11 + r then h else if j = 21 + r then 0 else if j = 31 + r then pl else I (p + 17) j := by
  unfold cAdd
  rw [mU_other (by omega)]
  by_cases e4 : j = 31 + r
  · rw [if_neg (by omega), if_neg (by omega), if_neg (by omega), if_pos e4, e4, q_U]
  rw [q_Uj e4]
  by_cases e3 : j = 21 + r
  · rw [if_neg (by omega), if_neg (by omega), if_pos e3, e3, q_U]
  rw [q_Uj e3]
  by_cases e2 : j = 11 + r
  · rw [if_neg (by omega), if_pos e2, e2, q_U]
  rw [q_Uj e2]
  by_cases e1 : j = 1 + r
  · rw [if_pos e1, e1, q_U]
  rw [q_Uj e1, mU_other (by omega), if_neg e1, if_neg e2, if_neg e3, if_neg e4]
theorem cAdd_o {I : mIT} {p r c : Nat} {k s h pl : Int32} (h0 : c ≠ p) (h1 : c ≠ p + 1) (h2 : c ≠ p + 17) : cAdd I p r k s h pl c = I c := by
  unfold cAdd
  rw [mU_other h0, mU_other h2, mU_other h2, mU_other h2, mU_other h2, mU_other h1]
theorem c_addRoot {Fu : Nat} {I : mIT} {p r : Nat} {k s h pl : Int32} (hr : I p 3 = nI r) (h10 : r < 10) : f_X5_addRoot Fu I p k s h pl = some (cAdd I p r k s h pl) := by
  unfold f_X5_addRoot f_X9_setRoot
  rw [mU_other (show p ≠ p + 1 by omega), hr, if_neg (by rw [q_lt0 (by omega)]; exact id), if_neg (by rw [q_le (by omega) (by omega)]; omega), q_GI h10 (by omega), q_cl (by omega), show (1 : Int32) = nI 1 from rfl, show (11 : Int32) = nI 11 from rfl, show (21 : Int32) = nI 21 from rfl, show (31 : Int32) = nI 31 from rfl, c_set (by omega), q_B, c_set (by omega), q_B, c_set (by omega), q_B, c_set (by omega), q_B, q_B, mU_other (show p ≠ p + 16 + 1 by omega), mU_other (show p ≠ p + 16 + 1 by omega), mU_other (show p ≠ p + 16 + 1 by omega), mU_other (show p ≠ p + 16 + 1 by omega), mU_other (show p ≠ p + 1 by omega), hr, show nI r + nI 1 = nI (r + 1) from nI_add r 1]
  rfl
theorem cL_add {I : mIT} {p : Nat} {S : lS} {k s h pl : Int32} (hp : 3 ≤ p) (hL : cL I p S) (h10 : pR S.1 < 10) : cL (cAdd I p (pR S.1) k s h pl) p (addR S k s h pl) := by
  obtain ⟨h1, h2, h3, h4, h5, h6, h7, h8, h9, g10, h11, h12, h13, h14, h15⟩ := hL
  refine ⟨q_U _ _ _ _, ?_, ?_, ?_, ?_, ?_, fun r hr => ?_, fun j hj => ?_, fun j hj => ?_, ?_, ?_, fun j hj => ?_, fun j a b => ?_, fun q => ?_, fun q => ?_⟩
  · rw [cAdd_p (by decide)]; exact h2
  · rw [cAdd_p (by decide)]; exact h3
  · rw [cAdd_p (by decide)]; exact h4
  · rw [cAdd_p (by decide)]; exact h5
  · rw [cAdd_p (by decide)]; exact h6
  · have hr' : r < pR S.1 + 1 := hr
    show _ = if r = pR S.1 then k else pK S.1 r
    rw [cAdd_1]
    by_cases e : r = pR S.1
    · rw [if_pos e, if_pos e]
    · rw [if_neg e, if_neg e]; exact h7 r (by omega)
  · rw [cAdd_o (by omega) (by omega) (by omega)]; exact h8 j hj
  · rw [cAdd_o (by omega) (by omega) (by omega)]; exact h9 j hj
  · exact cE_k g10 (by rw [cAdd_o (by omega) (by omega) (by omega)]) (cAdd_o (by omega) (by omega) (by omega)) (cAdd_o (by omega) (by omega) (by omega))
  · exact cE_k h11 (by rw [cAdd_o (by omega) (by omega) (by omega)]) (cAdd_o (by omega) (by omega) (by omega)) (cAdd_o (by omega) (by omega) (by omega))
  · rw [Nat.zero_add, cAdd_17 h10]
    show _ = if j = 1 + pR S.1 then s else if j = 11 + pR S.1 then h else if j = 21 + pR S.1 then 0 else if j = 31 + pR S.1 then pl else S.2.1 j
    by_cases e1 : j = 1 + pR S.1
    · rw [if_pos e1, if_pos e1]
    by_cases e2 : j = 11 + pR S.1
    · rw [if_neg e1, if_neg e1, if_pos e2, if_pos e2]
    by_cases e3 : j = 21 + pR S.1
    · rw [if_neg e1, if_neg e1, if_neg e2, if_neg e2, if_pos e3, if_pos e3]
    by_cases e4 : j = 31 + pR S.1
    · rw [if_neg e1, if_neg e1, if_neg e2, if_neg e2, if_neg e3, if_neg e3, if_pos e4, if_pos e4]
    rw [if_neg e1, if_neg e1, if_neg e2, if_neg e2, if_neg e3, if_neg e3, if_neg e4, if_neg e4]
    have hl : live S.1 j := by
      have e5 : pR (addR S k s h pl).1 = pR S.1 + 1 := rfl
      have e6 : pC (addR S k s h pl).1 = pC S.1 := rfl
      unfold live at hj ⊢
      rw [e5, e6] at hj
      omega
    have := h12 j hl
    rw [Nat.zero_add] at this
    exact this
  · rw [cAdd_o (by omega) (by omega) (by omega)]; exact h13 j a b
  · rw [cAdd_o (by omega) (by omega) (by omega)]; exact h14 q
  · rw [cAdd_o (by omega) (by omega) (by omega)]; exact h15 q
theorem c_rt3 {Fu : Nat} {I0 J : mIT} {p : Nat} {B : Nat → Nat} {n a : Nat} {S : lS} {k s h pl : Int32} (hp : 3 ≤ p) (hT : cTk J B n a) (hL : cL J p S) (h10 : pR S.1 < 10) (f : cFr p I0 J) (h9 : J 1 9 = I0 1 9) : wp (oB (f_X5_addRoot Fu J p k s h pl) (fun r140 => some ((1 : Int32), r140))) (cBo I0 p B n (.inr (a, addR S k s h pl))) := by
  refine wp_Be (c_addRoot hL.1 h10) (wp_s ⟨cFr_t f ⟨fun j _ => ?_, fun c _ b => cAdd_o (by omega) (by omega) (by omega)⟩, rfl, ?_, cTk_k hT (fun j _ _ => ?_) ?_, cL_add hp hL h10⟩)
  · dsimp only
    rw [cAdd_o (by omega) (by omega) (by omega)]
  · dsimp only
    rw [cAdd_o (by omega) (by omega) (by omega)]; exact h9
  · dsimp only
    rw [cAdd_o (by omega) (by omega) (by omega)]
  · exact cAdd_o (by omega) (by omega) (by omega)
theorem c_root {Fu : Nat} {I : mIT} {R : mRT} {p : Nat} {B : Nat → Nat} {n a : Nat} {S : lS} {k : Int32} (hF : 2200 < Fu) (ht : tpe B n) (hp : 3 ≤ p) (hR : R 1 11 = some p) (hT : cTk I B n a) (hL : cL I p S) (h10 : pR S.1 ≤ 10) : wp (f_X6_readRoot Fu R I k) (cBo I p B n (rtS B n a S k)) := by
  unfold f_X6_readRoot rtS
  refine wp_Be hR ?_
  rw [hL.1, show (10 : Int32) = nI 10 from rfl]
  refine wp_i (q_lt (by omega) (by omega)) (fun c10 => ?_) (fun c10 => ?_)
  · rw [if_pos c10]
    refine wp_B (c_nx hF ht hT) ?_
    rintro J1 ⟨t1, f1⟩
    have L1 := cL_s hp hL f1
    have F1 := cFr_s (cFr_r p I) f1
    have n1 : J1 1 9 = I 1 9 := f1.1 9 (by omega)
    refine wp_Be (c_num (lo := 1) (hi := 60) ht t1 (by omega) (by omega)) ?_
    unfold rt1
    by_cases e1 : numS B n (nx B n a) 1 60 = 0
    · rw [if_pos e1, if_pos e1]
      refine wp_n (show ¬ ((1 : Int32) = 0) by decide) ?_
      dsimp only
      have e1' := e1
      unfold numS at e1'
      have k1 : tK B n (nx B n a) = 2 := by
        by_cases q : tK B n (nx B n a) = 2
        · exact q
        · rw [if_neg q] at e1'; omega
      rw [if_pos k1] at e1'
      have b1 : tE B n (nx B n a) - nx B n a ≤ 4 ∧ 1 ≤ tN B n (nx B n a) ∧ tN B n (nx B n a) ≤ 60 := by
        by_cases q : tE B n (nx B n a) - nx B n a ≤ 4 ∧ 1 ≤ tN B n (nx B n a) ∧ tN B n (nx B n a) ≤ 60
        · exact q
        · rw [if_neg q] at e1'; omega
      have v1 : J1 1 8 = nI (tN B n (nx B n a)) := (t1.2.2.2.2.2.2 k1).2
      have hmin : (if J1 1 8 - 1 < 20 then J1 1 8 - 1 else 20) = nI (min 20 (tN B n (nx B n a) - 1)) := by
        rw [v1, q_m1 (by omega), show (20 : Int32) = nI 20 from rfl]
        by_cases q : tN B n (nx B n a) - 1 < 20
        · rw [if_pos (by rw [q_lt (by omega) (by omega)]; exact q)]
          congr 1
          omega
        · rw [if_neg (by rw [q_lt (by omega) (by omega)]; exact q)]
          congr 1
          omega
      rw [hmin, v1]
      refine wp_B (c_nx hF ht t1) ?_
      rintro J2 ⟨t2, f2⟩
      have L2 := cL_s hp L1 f2
      have F2 := cFr_s F1 f2
      have n2 : J2 1 9 = I 1 9 := by rw [f2.1 9 (by omega)]; exact n1
      refine wp_Be (c_num (lo := 0) ht t2 (by omega) (by omega)) ?_
      unfold rt2
      by_cases e2 : numS B n (nx B n (nx B n a)) 0 (min 20 (tN B n (nx B n a) - 1)) = 0
      · rw [if_pos e2, if_pos e2]
        refine wp_n (show ¬ ((1 : Int32) = 0) by decide) ?_
        dsimp only
        have k2 : tK B n (nx B n (nx B n a)) = 2 := by
          by_cases q : tK B n (nx B n (nx B n a)) = 2
          · exact q
          · unfold numS at e2; rw [if_neg q] at e2; omega
        have v2 : J2 1 8 = nI (tN B n (nx B n (nx B n a))) := (t2.2.2.2.2.2.2 k2).2
        rw [v2]
        refine wp_B (c_nx hF ht t2) ?_
        rintro J3 ⟨t3, f3⟩
        have L3 := cL_s hp L2 f3
        have F3 := cFr_s F2 f3
        have n3 : J3 1 9 = I 1 9 := by rw [f3.1 9 (by omega)]; exact n2
        have hK3 := tK_4 (B := B) (n := n) (a := nx B n (nx B n (nx B n a)))
        unfold rt3
        rw [t3.2.2.2.1]
        refine wp_i (q_eq (b := 2) (by omega) (by omega)) (fun k3 => ?_) (fun k3 => ?_)
        · rw [if_pos k3]
          refine wp_Be (c_num (lo := 0) (hi := 5) ht t3 (by omega) (by omega)) ?_
          by_cases e3 : numS B n (nx B n (nx B n (nx B n a))) 0 5 = 0
          · rw [if_pos e3, if_pos e3]
            refine wp_n (show ¬ ((1 : Int32) = 0) by decide) (wp_Be hR (wp_Be hR ?_))
            dsimp only
            have v3 : J3 1 8 = nI (tN B n (nx B n (nx B n (nx B n a)))) := (t3.2.2.2.2.2.2 k3).2
            rw [v3, L3.1]
            refine wp_Be (c_rootOn (by omega) h10 L3.2.2.2.2.2.2.2.2.2.2.2.1) ?_
            refine wp_i (propext (sOn_m h10)) (fun q => ?_) (fun q => ?_)
            · rw [if_neg (fun ⟨r, r1, r2⟩ => q r r1 r2)]
              refine wp_B (c_nx hF ht t3) ?_
              rintro J4 ⟨t4, f4⟩
              refine wp_Be hR ?_
              exact c_rt3 hp t4 (cL_s hp L3 f4) c10 (cFr_s F3 f4) (by rw [f4.1 9 (by omega)]; exact n3)
            · rw [if_pos (by
                apply Classical.byContradiction
                intro q2
                exact q (fun r r1 r2 => q2 ⟨r, r1, r2⟩))]
              exact c_bad rfl t3 F3
          · rw [if_neg e3, if_neg e3]
            refine wp_p rfl ?_
            have e32 : numS B n (nx B n (nx B n (nx B n a))) 0 5 = 2 := by
              unfold numS at e3 ⊢
              rw [if_pos k3] at e3 ⊢
              split at e3
              · exact absurd rfl e3
              · rw [if_neg (by assumption)]
            rw [e32]
            exact c_badn t3 F3
        · rw [if_neg k3]
          exact wp_Be hR (c_rt3 hp t3 L3 c10 F3 n3)
      · rw [if_neg e2, if_neg e2]
        exact wp_p rfl (c_badn t2 F2)
    · rw [if_neg e1, if_neg e1]
      exact wp_p rfl (c_badn t1 F1)
  · rw [if_neg c10]
    exact c_bad rfl hT (cFr_r p I)
