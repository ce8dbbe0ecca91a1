/-! the reference reads a token -/
def mTq (I : mIT) (B : Nat → Nat) (n : Nat) : Prop := I 75 17 = nI n ∧ ∀ j, j < n → I 80 j = nI (B j)
theorem m_byteAt {Fu : Nat} {I : mIT} {B : Nat → Nat} {n v : Nat} (ht : tpe B n) (h : mTq I B n) (hv : v ≤ n) : f_X12_byteAt Fu I (nI v) = some (nI (tB B n v)) := by
  have h7 := ht.1
  unfold f_X12_byteAt tB
  rw [h.1]
  by_cases e : v < n
  · rw [if_neg (by rw [q_le (by omega) (by omega)]; omega), q_GI (by omega) (by omega), q_cl (by omega), h.2 v e, if_pos e]
  · rw [if_pos (by rw [q_le (by omega) (by omega)]; omega), if_neg e]; rfl
theorem m_isL {Fu b : Nat} (hb : b < 256) : f_X12_isLetter Fu (nI b) = some (if bL b then 1 else 0) := c_isL (Fu := Fu) hb
theorem m_isD {Fu b : Nat} (hb : b < 256) : f_X12_isDigit Fu (nI b) = some (if bD b then 1 else 0) := c_isD (Fu := Fu) hb
def nL (x : Nat) : Int64 := Int64.ofNat x
def pk (B : Nat → Nat) (a : Nat) : Nat → Nat
  | 0 => 0
  | k + 1 => 32 * pk B a k + (B (a + k) - 96)
theorem nL_5 : ∀ y : Nat, y < 32 → (nI y).toInt64 = nL y := by decide +kernel
theorem nL_or {x y : Nat} (hy : y < 32) : (nL x <<< ((5 : Int32).toInt64 &&& 63)) ||| nL y = nL (32 * x + y) := by
  rw [show ((5 : Int32).toInt64 &&& 63) = (5 : Int64) by decide]
  apply Int64.toBitVec_inj.mp
  rw [Int64.toBitVec_or, Int64.toBitVec_shiftLeft]
  rw [show ((5 : Int64).toBitVec.smod 64) = 5#64 by decide]
  unfold nL
  show (BitVec.ofNat 64 x <<< 5#64) ||| BitVec.ofNat 64 y = BitVec.ofNat 64 (32 * x + y)
  apply BitVec.eq_of_getLsbD_eq
  intro i hi
  have e : 32 * x + y = x <<< 5 ||| y := by
    rw [← Nat.shiftLeft_add_eq_or_of_lt (by omega : y < 2 ^ 5), Nat.shiftLeft_eq]
    omega
  rw [e]
  simp only [BitVec.getLsbD_or, BitVec.getLsbD_ofNat, Nat.testBit_or, BitVec.shiftLeft_eq', BitVec.getLsbD_shiftLeft, Nat.testBit_shiftLeft]
  simp only [show (5#64).toNat = 5 from rfl, hi, decide_true, Bool.true_and]
  by_cases e5 : i < 5
  · rw [decide_eq_true e5, decide_eq_false (by omega : ¬ 5 ≤ i)]; rfl
  · rw [decide_eq_false e5, decide_eq_true (by omega : 5 ≤ i), decide_eq_true (by omega : i - 5 < 64)]; rfl
theorem nL_l {x b : Nat} (h1 : 97 ≤ b) (h2 : b ≤ 122) : (nL x <<< ((5 : Int32).toInt64 &&& 63)) ||| (nI b - (96 : Int32)).toInt64 = nL (32 * x + (b - 96)) := by
  rw [show nI b - (96 : Int32) = nI (b - 96) from pk_sub (b := 96) (by omega), nL_5 _ (by omega), nL_or (by omega)]
def lF (L M : mLT) : Prop := ∀ c j, ¬ (c = 75 ∧ j = 24) → M c j = L c j
theorem lF_u {L M : mLT} {v : Int64} (h : lF L M) : lF L (mUL M 75 24 v) := fun c j hn => by
  unfold mUL
  rw [if_neg hn]
  exact h c j hn
theorem lU (L : mLT) (v : Int64) : (mUL L 75 24 v) 75 24 = v := by
  unfold mUL
  rw [if_pos ⟨rfl, rfl⟩]
def mTf (I J : mIT) : Prop := (∀ j, j < 18 ∨ 23 < j → J 75 j = I 75 j) ∧ ∀ c, c ≠ 75 → J c = I c
theorem mTf_r (I : mIT) : mTf I I := ⟨fun _ _ => rfl, fun _ _ => rfl⟩
theorem mTf_t {I J K : mIT} (h1 : mTf I J) (h2 : mTf J K) : mTf I K := ⟨fun j hj => by rw [h2.1 j hj, h1.1 j hj], fun c hc => by rw [h2.2 c hc, h1.2 c hc]⟩
theorem mTf_u {I J : mIT} {j : Nat} {v : Int32} (h : mTf I J) (hj : 18 ≤ j ∧ j ≤ 23) : mTf I (mU J 75 j v) := ⟨fun i hi => by rw [q_Uj (by omega)]; exact h.1 i hi, fun c hc => by rw [mU_other hc]; exact h.2 c hc⟩
theorem mTq_f {I J : mIT} {B : Nat → Nat} {n : Nat} (h : mTq I B n) (f : mTf I J) : mTq J B n := ⟨by rw [f.1 17 (by omega)]; exact h.1, fun j hj => by rw [f.2 80 (by decide)]; exact h.2 j hj⟩
def mTk (I : mIT) (L : mLT) (B : Nat → Nat) (n a : Nat) : Prop := mTq I B n ∧ a ≤ n ∧ I 75 18 = nI (tE B n a) ∧ I 75 19 = nI (tK B n a) ∧ I 75 20 = nI a ∧ I 75 21 = nI (tE B n a - a) ∧ I 75 22 = nI (if tK B n a = 2 then tN B n a else 0) ∧ I 75 23 = nI (tB B n a) ∧ (tK B n a = 1 → L 75 24 = nL (pk B a (min 7 (tE B n a - a))))
theorem m_lets {Fu : Nat} {I : mIT} {L : mLT} {B : Nat → Nat} {n a : Nat} (hF : 2200 < Fu) (ht : tpe B n) (h : mTq I B n) (h18 : I 75 18 = nI a) (h20 : I 75 20 = nI a) (hL : L 75 24 = nL 0) (ha : a ≤ n) : wp (w_X12_reads_108 Fu Fu I L) (fun y => y.1 75 18 = nI (scan (fun j => bL (B j)) n a) ∧ y.1 75 19 = 1 ∧ y.1 75 21 = nI (scan (fun j => bL (B j)) n a - a) ∧ y.2 75 24 = nL (pk B a (min 7 (scan (fun j => bL (B j)) n a - a))) ∧ lF L y.2 ∧ (∀ j, j ≠ 18 → j ≠ 19 → j ≠ 21 → y.1 75 j = I 75 j) ∧ ∀ c, c ≠ 75 → y.1 c = I c) := by
  have h7 := ht.1
  unfold w_X12_reads_108
  refine wp_loop (fun dd (s : mIT × mLT) => ∃ i, dd = n - i ∧ a ≤ i ∧ i ≤ n ∧ s.1 75 18 = nI i ∧ s.2 75 24 = nL (pk B a (min 7 (i - a))) ∧ lF L s.2 ∧ scan (fun j => bL (B j)) n i = scan (fun j => bL (B j)) n a ∧ (∀ j, j ≠ 18 → s.1 75 j = I 75 j) ∧ ∀ c, c ≠ 75 → s.1 c = I c) _ ?_ Fu (n - a) _ ⟨a, rfl, Nat.le_refl _, ha, h18, by rw [Nat.sub_self]; exact hL, fun _ _ _ => rfl, rfl, fun _ _ => rfl, fun _ _ => rfl⟩ (by omega)
  rintro dd ⟨J, M⟩ self ⟨i, hdd, hai, hi, f3, f7, f8, f4, f5, f6⟩ hself
  dsimp only at f3 f7 f8 f5 f6
  show wp (b_X12_reads_108 Fu self J M) _
  unfold b_X12_reads_108
  have hJ : mTq J B n := ⟨by rw [f5 17 (by decide)]; exact h.1, fun j hj => by rw [f6 80 (by decide)]; exact h.2 j hj⟩
  have g20 : J 75 20 = nI a := by rw [f5 20 (by decide)]; exact h20
  rw [f3, g20]
  refine wp_Be (m_byteAt ht hJ hi) (wp_Be (m_isL (tB_lt ht)) ?_)
  by_cases e2 : i < n ∧ bL (B i) = true
  · obtain ⟨ein, el⟩ := e2
    have hb := el
    unfold bL at hb
    rw [Bool.and_eq_true, decide_eq_true_iff, decide_eq_true_iff] at hb
    rw [tB_at ein, if_pos el]
    have hs : scan (fun j => bL (B j)) n (i + 1) = scan (fun j => bL (B j)) n a := by
      rw [← f4, scan_s ein, if_pos el]
    refine wp_n (by decide) ?_
    rw [pk_sub hai, show (7 : Int32) = nI 7 from rfl, q_1]
    refine wp_i (by rw [q_le (by omega) (by omega)]) (fun e3 => ?_) (fun e3 => ?_)
    · refine hself (n - (i + 1)) _ (by omega) ⟨i + 1, rfl, by omega, by omega, by dsimp only; rw [q_U], ?_, f8, hs, fun j hj => by dsimp only; rw [q_Uj hj]; exact f5 j hj, fun c hc => by dsimp only; rw [mU_other hc]; exact f6 c hc⟩
      dsimp only
      rw [f7]
      congr 2
      omega
    · refine wp_Be (m_byteAt ht hJ hi) ?_
      rw [tB_at ein, f7, nL_l hb.1 hb.2]
      refine hself (n - (i + 1)) _ (by omega) ⟨i + 1, rfl, by omega, by omega, by dsimp only; rw [q_U], ?_, lF_u f8, hs, fun j hj => by dsimp only; rw [q_Uj hj]; exact f5 j hj, fun c hc => by dsimp only; rw [mU_other hc]; exact f6 c hc⟩
      dsimp only
      rw [lU]
      congr 1
      rw [show min 7 (i + 1 - a) = min 7 (i - a) + 1 by omega, pk, show a + min 7 (i - a) = i by omega]
  · have ei : scan (fun j => bL (B j)) n a = i := by
      rw [← f4]
      by_cases ein : i < n
      · rw [scan_s ein, if_neg (fun q => e2 ⟨ein, q⟩)]
      · exact scan_e (by omega)
    have en : bL (tB B n i) = false := by
      by_cases ein : i < n
      · rw [tB_at ein]; exact Bool.eq_false_iff.mpr (fun q => e2 ⟨ein, q⟩)
      · unfold tB; rw [if_neg ein]; rfl
    rw [en, if_neg Bool.false_ne_true]
    refine wp_p rfl (wp_s ?_)
    dsimp only
    rw [ei]
    refine ⟨by rw [q_Uj (by decide), q_Uj (by decide)]; exact f3, by rw [q_Uj (by decide), q_U], ?_, f7, f8, fun j j1 j2 j3 => by rw [q_Uj j3, q_Uj j2]; exact f5 j j1, fun c hc => by rw [mU_other hc, mU_other hc]; exact f6 c hc⟩
    rw [q_U, q_Uj (by decide), q_Uj (by decide), f3, g20, pk_sub hai]
theorem m_digs {Fu : Nat} {I : mIT} {L : mLT} {B : Nat → Nat} {n a : Nat} (hF : 2200 < Fu) (ht : tpe B n) (h : mTq I B n) (h18 : I 75 18 = nI a) (h20 : I 75 20 = nI a) (h22 : I 75 22 = 0) (ha : a ≤ n) : wp (w_X12_reads_187 Fu Fu I L) (fun y => y.1 75 18 = nI (scan (fun j => bD (B j)) n a) ∧ y.1 75 19 = 2 ∧ y.1 75 21 = nI (scan (fun j => bD (B j)) n a - a) ∧ y.1 75 22 = nI (nm B a (min 4 (scan (fun j => bD (B j)) n a - a))) ∧ y.2 = L ∧ (∀ j, j ≠ 18 → j ≠ 19 → j ≠ 21 → j ≠ 22 → y.1 75 j = I 75 j) ∧ ∀ c, c ≠ 75 → y.1 c = I c) := by
  have h7 := ht.1
  unfold w_X12_reads_187
  refine wp_loop (fun dd (s : mIT × mLT) => ∃ i, dd = n - i ∧ a ≤ i ∧ i ≤ n ∧ s.1 75 18 = nI i ∧ s.1 75 22 = nI (nm B a (min 4 (i - a))) ∧ s.2 = L ∧ scan (fun j => bD (B j)) n i = scan (fun j => bD (B j)) n a ∧ (∀ j, j ≠ 18 → j ≠ 22 → s.1 75 j = I 75 j) ∧ ∀ c, c ≠ 75 → s.1 c = I c) _ ?_ Fu (n - a) _ ⟨a, rfl, Nat.le_refl _, ha, h18, by rw [Nat.sub_self]; exact h22, rfl, rfl, fun _ _ _ => rfl, fun _ _ => rfl⟩ (by omega)
  rintro dd ⟨J, M⟩ self ⟨i, hdd, hai, hi, f3, f7, f8, f4, f5, f6⟩ hself
  dsimp only at f3 f7 f8 f5 f6
  subst f8
  show wp (b_X12_reads_187 Fu self J M) _
  unfold b_X12_reads_187
  have hJ : mTq J B n := ⟨by rw [f5 17 (by decide) (by decide)]; exact h.1, fun j hj => by rw [f6 80 (by decide)]; exact h.2 j hj⟩
  have g20 : J 75 20 = nI a := by rw [f5 20 (by decide) (by decide)]; exact h20
  rw [f3, g20]
  refine wp_Be (m_byteAt ht hJ hi) (wp_Be (m_isD (tB_lt ht)) ?_)
  by_cases e2 : i < n ∧ bD (B i) = true
  · obtain ⟨ein, el⟩ := e2
    have hb := el
    unfold bD at hb
    rw [Bool.and_eq_true, decide_eq_true_iff, decide_eq_true_iff] at hb
    rw [tB_at ein, if_pos el]
    have hs : scan (fun j => bD (B j)) n (i + 1) = scan (fun j => bD (B j)) n a := by
      rw [← f4, scan_s ein, if_pos el]
    refine wp_n (by decide) ?_
    rw [pk_sub hai, show (4 : Int32) = nI 4 from rfl]
    refine wp_i (by rw [q_le (by omega) (by omega)]) (fun e3 => ?_) (fun e3 => ?_)
    · rw [q_1]
      refine hself (n - (i + 1)) _ (by omega) ⟨i + 1, rfl, by omega, by omega, by dsimp only; rw [q_U], ?_, rfl, hs, fun j hj h2 => by dsimp only; rw [q_Uj hj]; exact f5 j hj h2, fun c hc => by dsimp only; rw [mU_other hc]; exact f6 c hc⟩
      dsimp only
      rw [q_Uj (by decide), f7]
      congr 2
      omega
    · refine wp_Be (m_byteAt ht hJ hi) ?_
      rw [tB_at ein, f7, ml_10, nI_add, show nI (10 * nm B a (min 4 (i - a)) + B i) - (48 : Int32) = nI (10 * nm B a (min 4 (i - a)) + B i - 48) from pk_sub (b := 48) (by omega), q_Uj (by decide), f3, q_1]
      refine hself (n - (i + 1)) _ (by omega) ⟨i + 1, rfl, by omega, by omega, by dsimp only; rw [q_U], ?_, rfl, hs, fun j hj h2 => by dsimp only; rw [q_Uj hj, q_Uj h2]; exact f5 j hj h2, fun c hc => by dsimp only; rw [mU_other hc, mU_other hc]; exact f6 c hc⟩
      dsimp only
      rw [q_Uj (by decide), q_U]
      congr 1
      rw [show min 4 (i + 1 - a) = min 4 (i - a) + 1 by omega, nm, show a + min 4 (i - a) = i by omega]
      omega
  · have ei : scan (fun j => bD (B j)) n a = i := by
      rw [← f4]
      by_cases ein : i < n
      · rw [scan_s ein, if_neg (fun q => e2 ⟨ein, q⟩)]
      · exact scan_e (by omega)
    have en : bD (tB B n i) = false := by
      by_cases ein : i < n
      · rw [tB_at ein]; exact Bool.eq_false_iff.mpr (fun q => e2 ⟨ein, q⟩)
      · unfold tB; rw [if_neg ein]; rfl
    rw [en, if_neg Bool.false_ne_true]
    refine wp_p rfl (wp_s ?_)
    dsimp only
    rw [ei]
    refine ⟨by rw [q_Uj (by decide), q_Uj (by decide)]; exact f3, by rw [q_Uj (by decide), q_U], ?_, by rw [q_Uj (by decide), q_Uj (by decide)]; exact f7, rfl, fun j j1 j2 j3 j4 => by rw [q_Uj j3, q_Uj j2]; exact f5 j j1 j4, fun c hc => by rw [mU_other hc, mU_other hc]; exact f6 c hc⟩
    rw [q_U, q_Uj (by decide), q_Uj (by decide), f3, g20, pk_sub hai]
theorem m_sg {α : Type} {b : Nat} (hb : b < 256) {x y : α} : (if nI b = 59 then x else if nI b = 40 then x else if nI b = 41 then x else if nI b = 43 then x else if nI b = 45 then x else if nI b = 42 then x else if nI b = 47 then x else if nI b = 60 then x else if nI b = 61 then x else y) = if bS b then x else y := by
  have h := c_isSg b hb
  by_cases e : bS b = true
  · rw [if_pos e] at h ⊢
    repeat (split at h; · simp_all)
    exact absurd (Option.some.inj h) (by decide)
  · rw [if_neg e] at h ⊢
    repeat (split at h; · exact absurd (Option.some.inj h) (by decide))
    simp_all
theorem m_reads50 {Fu : Nat} {I : mIT} {L : mLT} {B : Nat → Nat} {n a : Nat} (hF : 2200 < Fu) (ht : tpe B n) (h : mTq I B n) (h18 : I 75 18 = nI a) (ha : a ≤ n) : wp (b_X12_reads_50 Fu I L) (fun y => mTk y.1 y.2 B n a ∧ mTf I y.1 ∧ lF L y.2) := by
  have h7 := ht.1
  unfold b_X12_reads_50
  rw [h18]
  generalize hI1 : mU (mU I 75 20 (nI a)) 75 22 0 = I1
  have f1 : mTf I I1 := by rw [← hI1]; exact mTf_u (mTf_u (mTf_r I) (by omega)) (by omega)
  have a18 : I1 75 18 = nI a := by rw [← hI1, q_Uj (by decide), q_Uj (by decide)]; exact h18
  have a20 : I1 75 20 = nI a := by rw [← hI1, q_Uj (by decide), q_U]
  have a22 : I1 75 22 = 0 := by rw [← hI1, q_U]
  rw [a18]
  refine wp_Be (m_byteAt ht (mTq_f h f1) ha) ?_
  have hb := tB_lt (v := a) ht
  generalize hI2 : mU I1 75 23 (nI (tB B n a)) = I2
  have f2 : mTf I I2 := by rw [← hI2]; exact mTf_u f1 (by omega)
  have b18 : I2 75 18 = nI a := by rw [← hI2, q_Uj (by decide)]; exact a18
  have b20 : I2 75 20 = nI a := by rw [← hI2, q_Uj (by decide)]; exact a20
  have b22 : I2 75 22 = 0 := by rw [← hI2, q_Uj (by decide)]; exact a22
  have b23 : I2 75 23 = nI (tB B n a) := by rw [← hI2, q_U]
  have b17 : I2 75 17 = nI n := (mTq_f h f2).1
  have l0 : (mUL L 75 24 (0 : Int64)) 75 24 = nL 0 := lU _ _
  have lf : lF L (mUL L 75 24 (0 : Int64)) := lF_u (fun _ _ _ => rfl)
  rw [b18, b17]
  refine wp_i (by rw [q_lt (by omega) (by omega)]) (fun q => ?_) (fun q => ?_)
  · have eb : tB B n a = B a := tB_at q
    have hB := ht.2 a q
    refine wp_Be (m_isL hb) ?_
    rw [eb]
    by_cases c1 : bL (B a) = true
    · rw [if_pos c1]
      refine wp_n (by decide) (wp_m (m_lets hF ht (mTq_f h f2) b18 b20 l0 ha) ?_)
      rintro ⟨J, M⟩ ⟨j1, j2, j3, j4, j5, j6, j7⟩
      dsimp only at j1 j2 j3 j4 j5 j6 j7 ⊢
      have hE : tE B n a = scan (fun j => bL (B j)) n a := by unfold tE; rw [if_pos q, if_pos c1]
      have hK : tK B n a = 1 := by unfold tK; rw [if_pos q, if_pos c1]
      have fJ : mTf I J := mTf_t f2 ⟨fun j hj => j6 j (by omega) (by omega) (by omega), j7⟩
      exact ⟨⟨mTq_f h fJ, ha, by rw [hE]; exact j1, by rw [hK]; exact j2, by rw [j6 20 (by decide) (by decide) (by decide)]; exact b20, by rw [hE]; exact j3, by rw [hK, if_neg (by decide), j6 22 (by decide) (by decide) (by decide)]; exact b22, by rw [j6 23 (by decide) (by decide) (by decide)]; exact b23, fun _ => by rw [hE]; exact j4⟩, fJ, fun c j hn => by rw [j5 c j hn]; exact lf c j hn⟩
    rw [if_neg c1]
    refine wp_p rfl (wp_Be (m_isD hB) ?_)
    by_cases c2 : bD (B a) = true
    · rw [if_pos c2]
      refine wp_n (by decide) (wp_m (m_digs hF ht (mTq_f h f2) b18 b20 b22 ha) ?_)
      rintro ⟨J, M⟩ ⟨j1, j2, j3, j4, j5, j6, j7⟩
      dsimp only at j1 j2 j3 j4 j5 j6 j7 ⊢
      have hE : tE B n a = scan (fun j => bD (B j)) n a := by unfold tE; rw [if_pos q, if_neg c1, if_pos c2]
      have hK : tK B n a = 2 := by unfold tK; rw [if_pos q, if_neg c1, if_pos c2]
      have fJ : mTf I J := mTf_t f2 ⟨fun j hj => j6 j (by omega) (by omega) (by omega) (by omega), j7⟩
      exact ⟨⟨mTq_f h fJ, ha, by rw [hE]; exact j1, by rw [hK]; exact j2, by rw [j6 20 (by decide) (by decide) (by decide) (by decide)]; exact b20, by rw [hE]; exact j3, by rw [hK, if_pos rfl]; unfold tN; rw [hE]; exact j4, by rw [j6 23 (by decide) (by decide) (by decide) (by decide)]; exact b23, fun k => by rw [hK] at k; omega⟩, fJ, by rw [j5]; exact lf⟩
    rw [if_neg c2]
    refine wp_p rfl ?_
    rw [m_sg hB]
    have hE : tE B n a = a + 1 := by unfold tE; rw [if_pos q, if_neg c1, if_neg c2]
    have fin : ∀ (v : Int32) (kk : Nat), v = nI kk → tK B n a = kk → kk ≠ 2 → kk ≠ 1 → ∀ J : mIT, J = mU (mU (mU I2 75 18 (nI (a + 1))) 75 19 v) 75 21 (nI (a + 1) - nI a) → mTk J (mUL L 75 24 0) B n a ∧ mTf I J ∧ lF L (mUL L 75 24 0) := fun v kk hv hk hk2 hk1 J eJ => by
      subst eJ
      have fJ : mTf I (mU (mU (mU I2 75 18 (nI (a + 1))) 75 19 v) 75 21 (nI (a + 1) - nI a)) := mTf_u (mTf_u (mTf_u f2 (by omega)) (by omega)) (by omega)
      refine ⟨⟨mTq_f h fJ, ha, by rw [q_Uj (by decide), q_Uj (by decide), q_U, hE], by rw [q_Uj (by decide), q_U, hk, hv], by rw [q_Uj (by decide), q_Uj (by decide), q_Uj (by decide)]; exact b20, by rw [q_U, hE, pk_sub (by omega)], by rw [hk, if_neg hk2, q_Uj (by decide), q_Uj (by decide), q_Uj (by decide)]; exact b22, by rw [q_Uj (by decide), q_Uj (by decide), q_Uj (by decide)]; exact b23, fun k => by omega⟩, fJ, lf⟩
    rw [q_1]
    by_cases c3 : bS (B a) = true
    · rw [if_pos c3]
      unfold b_X12_reads_323
      refine wp_s (fin 3 3 rfl ?_ (by omega) (by omega) _ ?_)
      · unfold tK
        rw [if_pos q, if_neg c1, if_neg c2, if_pos c3]
      · dsimp only
        rw [q_Uj (show (18 : Nat) ≠ 19 by decide), q_U, q_Uj (show (20 : Nat) ≠ 19 by decide), q_Uj (show (20 : Nat) ≠ 18 by decide), b20]
    · rw [if_neg c3]
      refine wp_s (fin 4 4 rfl ?_ (by omega) (by omega) _ ?_)
      · unfold tK
        rw [if_pos q, if_neg c1, if_neg c2, if_neg c3]
      · dsimp only
        rw [q_Uj (show (18 : Nat) ≠ 19 by decide), q_U, q_Uj (show (20 : Nat) ≠ 19 by decide), q_Uj (show (20 : Nat) ≠ 18 by decide), b20]
  · have hE : tE B n a = a := if_neg q
    have hK : tK B n a = 0 := if_neg q
    refine wp_s ?_
    dsimp only
    rw [q_Uj (show (18 : Nat) ≠ 19 by decide), q_Uj (show (20 : Nat) ≠ 19 by decide), b18, b20]
    have fJ : mTf I (mU (mU I2 75 19 0) 75 21 (nI a - nI a)) := mTf_u (mTf_u f2 (by omega)) (by omega)
    exact ⟨⟨mTq_f h fJ, ha, by rw [hE, q_Uj (by decide), q_Uj (by decide)]; exact b18, by rw [hK, q_Uj (by decide), q_U]; rfl, by rw [q_Uj (by decide), q_Uj (by decide)]; exact b20, by rw [q_U, hE, pk_sub (by omega)], by rw [hK, if_neg (by decide), q_Uj (by decide), q_Uj (by decide)]; exact b22, by rw [q_Uj (by decide), q_Uj (by decide)]; exact b23, fun k => by omega⟩, fJ, lf⟩
theorem m_reads {Fu : Nat} {I : mIT} {L : mLT} {B : Nat → Nat} {n s : Nat} (hF : 2200 < Fu) (ht : tpe B n) (h : mTq I B n) (h18 : I 75 18 = nI s) (hs : s ≤ n) : wp (f_X12_reads Fu I L) (fun y => mTk y.1 y.2 B n (tA B n s) ∧ mTf I y.1 ∧ lF L y.2) := by
  have h7 := ht.1
  unfold f_X12_reads w_X12_reads_0
  refine wp_loop (fun dd (s' : mIT × mLT) => ∃ i, dd = n - i ∧ i ≤ n ∧ s'.1 75 18 = nI i ∧ tA B n i = tA B n s ∧ mTf I s'.1 ∧ s'.2 = L) _ ?_ Fu (n - s) _ ⟨s, rfl, hs, h18, rfl, mTf_r I, rfl⟩ (by omega)
  rintro dd ⟨J, M⟩ self ⟨i, hdd, hi, f3, f4, f5, f6⟩ hself
  dsimp only at f3 f5 f6
  subst f6
  show wp (b_X12_reads_0 Fu self J M) _
  unfold b_X12_reads_0
  have hJ := mTq_f h f5
  have fin : tA B n s = i → wp (b_X12_reads_50 Fu J M) (fun y => mTk y.1 y.2 B n (tA B n s) ∧ mTf I y.1 ∧ lF M y.2) := fun e => by
    rw [e]
    refine wp_m (m_reads50 hF ht hJ f3 hi) ?_
    rintro K ⟨k1, k2, k3⟩
    exact ⟨k1, mTf_t f5 k2, k3⟩
  rw [f3, hJ.1]
  refine wp_i (by rw [q_le (by omega) (by omega)]) (fun e => ?_) (fun e => ?_)
  · exact fin (by rw [← f4]; exact scan_e (by omega))
  · have hB := ht.2 i (by omega)
    have go : bW (B i) = true → wp (self (mU J 75 18 (nI i + 1), M)) (fun y => mTk y.1 y.2 B n (tA B n s) ∧ mTf I y.1 ∧ lF M y.2) := fun e2 => by
      rw [q_1]
      refine hself (n - (i + 1)) _ (by omega) ⟨i + 1, rfl, by omega, by dsimp only; rw [q_U], ?_, mTf_u f5 (by omega), rfl⟩
      rw [← f4]
      unfold tA
      rw [scan_s (by omega : i < n), if_pos e2]
    refine wp_Be (m_byteAt ht hJ hi) ?_
    rw [tB_at (by omega), show (32 : Int32) = nI 32 from rfl]
    refine wp_i (by rw [q_eq (by omega) (by omega)]) (fun e3 => ?_) (fun e3 => ?_)
    · exact go (by rw [e3]; rfl)
    · refine wp_Be (m_byteAt ht hJ hi) ?_
      rw [tB_at (by omega), show (10 : Int32) = nI 10 from rfl]
      refine wp_i (by rw [q_eq (by omega) (by omega)]) (fun e4 => ?_) (fun e4 => ?_)
      · exact go (by rw [e4]; rfl)
      · refine fin ?_
        rw [← f4]
        unfold tA
        rw [scan_s (by omega : i < n), if_neg]
        unfold bW
        rw [Bool.or_eq_true, beq_iff_eq, beq_iff_eq]
        omega
