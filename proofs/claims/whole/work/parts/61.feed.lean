/-! the tape -/
def by8 (v : Int32) (s : Nat) : Nat := ((v >>> (nI s &&& 31)) &&& 255).toNatClampNeg
theorem by8_e (v : Int32) (s : Nat) : (v >>> (nI s &&& 31)) &&& 255 = nI (by8 v s) ∧ by8 v s < 256 := by
  obtain ⟨j, hj, e⟩ := pk_andE (v >>> (nI s &&& 31)) (m := 255) 8 (by decide)
  unfold by8
  rw [e, q_cl (by omega)]
  exact ⟨rfl, hj⟩
theorem bt_255 : ∀ i : Nat, i < 32 → bt 255 i = decide (i < 8) := by decide +kernel
theorem by8_u {v : Int32} {s : Nat} (hs : s ≤ 24) : ((v.toUInt32 >>> ((nI s).toUInt32 &&& Int32.toUInt32 31)).toInt32) &&& 255 = (v >>> (nI s &&& 31)) &&& 255 := by
  apply b_ext
  intro i hi
  rw [b_and, b_and, b_ushr s (by omega), bt_255 i hi]
  by_cases e : i < 8
  · rw [b_sshr s (by omega) v hi, if_pos (by omega)]
  · rw [decide_eq_false e, Bool.and_false, Bool.and_false]
theorem i8_255 (z : Int32) : z.toInt8 = (z &&& 255).toInt8 := by
  apply Int8.toBitVec_inj.mp
  apply BitVec.eq_of_getLsbD_eq
  intro i hi
  have h255 : ∀ i : Nat, i < 8 → (Int32.toBitVec 255).getLsbD i = true := by decide +kernel
  rw [Int32.toBitVec_toInt8, Int32.toBitVec_toInt8, BitVec.getLsbD_signExtend, BitVec.getLsbD_signExtend]
  simp only [Int32.toBitVec_and, BitVec.getLsbD_and, h255 i hi, Bool.and_true]
  simp [show i < 32 by omega]
theorem by8_c {v : Int32} {s : Nat} (hs : s ≤ 24) : ((((v.toUInt32 >>> ((nI s).toUInt32 &&& Int32.toUInt32 31)).toInt32).toInt8.toInt32)).toInt8.toInt32 = (nI (by8 v s)).toInt8.toInt32 := by
  rw [Int8.toInt8_toInt32, i8_255, by8_u hs, (by8_e v s).1]
def sh8 (i : Nat) : Int32 := if i < 4 then nI (24 - 8 * i) else -8
theorem sh8_s : ∀ i : Nat, i < 4 → sh8 i + (-8) = sh8 (i + 1) := by decide +kernel
theorem sh8_n : ∀ i : Nat, i < 4 → sh8 i = nI (24 - 8 * i) := fun i hi => if_pos hi
def tP (nt : Nat) (T : Nat → Nat) (v : Int32) : Nat → Nat := fun j => if j < nt then T j else by8 v (24 - 8 * (j - nt))
def cT (I : mIT) (nt : Nat) (T : Nat → Nat) : Prop := I 1 1 = nI nt ∧ ∀ j, j < nt → I 2 j = (nI (T j)).toInt8.toInt32
def mTp (I : mIT) (nt : Nat) (T : Nat → Nat) : Prop := I 75 13 = nI nt ∧ ∀ j, j < nt → I 80 j = nI (T j)
theorem c_put {Fu : Nat} {I : mIT} {nt : Nat} {T : Nat → Nat} {v : Int32} (hF : 701 < Fu) (hn : nt + 4 ≤ 700) (h : cT I nt T) : wp (f_X6_putBytes Fu I v) (fun J => cT J (nt + 4) (tP nt T v) ∧ (∀ j, j ≠ 1 → J 1 j = I 1 j) ∧ ∀ c, c ≠ 1 → c ≠ 2 → J c = I c) := by
  unfold f_X6_putBytes w_X6_putBytes_3
  refine wp_loop (fun dd (s : Int32 × Int32 × mIT) => ∃ (i : Nat) (J : mIT), s = (v, sh8 i, J) ∧ dd = 4 - i ∧ i ≤ 4 ∧ J 1 1 = nI (nt + i) ∧ (∀ j, j < nt + i → J 2 j = (nI (tP nt T v j)).toInt8.toInt32) ∧ (∀ j, j ≠ 1 → J 1 j = I 1 j) ∧ ∀ c, c ≠ 1 → c ≠ 2 → J c = I c) _ ?_ Fu 4 _ ⟨0, I, rfl, rfl, by omega, h.1, fun j hj => by unfold tP; rw [if_pos (by omega)]; exact h.2 j (by omega), fun _ _ => rfl, fun _ _ _ => rfl⟩ (by omega)
  rintro dd s self ⟨i, J, rfl, hdd, hi, f1, f2, f3, f4⟩ hself
  show wp (b_X6_putBytes_3 Fu self v (sh8 i) J) _
  unfold b_X6_putBytes_3
  by_cases e : i = 4
  · subst e
    exact wp_p (by decide) (wp_s ⟨⟨f1, f2⟩, f3, f4⟩)
  · rw [sh8_s i (by omega), sh8_n i (by omega)]
    refine wp_n (by rw [q_lt0 (by omega)]; simp) ?_
    rw [mU_other (show (1 : Nat) ≠ 2 by decide), f1]
    refine wp_n (by rw [q_lt0 (by omega)]; simp) (wp_n (by rw [q_le (by omega) (by omega)]; omega) ?_)
    rw [q_GI (by omega) (by omega), q_cl (by omega), by8_c (by omega), q_1]
    refine hself (4 - (i + 1)) _ (by omega) ⟨i + 1, _, rfl, rfl, by omega, q_U _ _ _ _, fun j hj => ?_, fun j hj => by rw [q_Uj hj, mU_other (by decide)]; exact f3 j hj, fun c c1 c2 => by rw [mU_other c1, mU_other c2]; exact f4 c c1 c2⟩
    rw [mU_other (by decide)]
    by_cases e2 : j = nt + i
    · subst e2
      unfold tP
      rw [q_U, if_neg (by omega), show nt + i - nt = i by omega]
    · rw [q_Uj e2]; exact f2 j (by omega)
theorem m_lays {Fu : Nat} {I : mIT} {nt : Nat} {T : Nat → Nat} {v : Int32} (hF : 701 < Fu) (hn : nt + 4 ≤ 700) (h : mTp I nt T) : wp (f_X12_lays Fu I v) (fun J => mTp J (nt + 4) (tP nt T v) ∧ (∀ j, j ≠ 13 → J 75 j = I 75 j) ∧ ∀ c, c ≠ 75 → c ≠ 80 → J c = I c) := by
  unfold f_X12_lays w_X12_lays_3
  refine wp_loop (fun dd (s : Int32 × Int32 × mIT) => ∃ (i : Nat) (J : mIT), s = (v, sh8 i, J) ∧ dd = 4 - i ∧ i ≤ 4 ∧ J 75 13 = nI (nt + i) ∧ (∀ j, j < nt + i → J 80 j = nI (tP nt T v j)) ∧ (∀ j, j ≠ 13 → J 75 j = I 75 j) ∧ ∀ c, c ≠ 75 → c ≠ 80 → J c = I c) _ ?_ Fu 4 _ ⟨0, I, rfl, rfl, by omega, h.1, fun j hj => by unfold tP; rw [if_pos (by omega)]; exact h.2 j (by omega), fun _ _ => rfl, fun _ _ _ => rfl⟩ (by omega)
  rintro dd s self ⟨i, J, rfl, hdd, hi, f1, f2, f3, f4⟩ hself
  show wp (b_X12_lays_3 Fu self v (sh8 i) J) _
  unfold b_X12_lays_3
  by_cases e : i = 4
  · subst e
    exact wp_p (by decide) (wp_s ⟨⟨f1, f2⟩, f3, f4⟩)
  · rw [sh8_s i (by omega), sh8_n i (by omega)]
    refine wp_n (by rw [q_lt0 (by omega)]; simp) ?_
    rw [mU_other (show (75 : Nat) ≠ 80 by decide), f1, q_GI (by omega) (by omega), q_cl (by omega), (by8_e v _).1, q_1]
    refine hself (4 - (i + 1)) _ (by omega) ⟨i + 1, _, rfl, rfl, by omega, q_U _ _ _ _, fun j hj => ?_, fun j hj => by rw [q_Uj hj, mU_other (by decide)]; exact f3 j hj, fun c c1 c2 => by rw [mU_other c1, mU_other c2]; exact f4 c c1 c2⟩
    rw [mU_other (by decide)]
    by_cases e2 : j = nt + i
    · subst e2
      unfold tP
      rw [q_U, if_neg (by omega), show nt + i - nt = i by omega]
    · rw [q_Uj e2]; exact f2 j (by omega)
def tP5 (nt : Nat) (T : Nat → Nat) (a b c d e : Int32) : Nat → Nat := tP (nt + 16) (tP (nt + 12) (tP (nt + 8) (tP (nt + 4) (tP nt T a) b) c) d) e
theorem c_feed {Fu : Nat} {I : mIT} {nt : Nat} {T : Nat → Nat} {a b c d e : Int32} (hF : 701 < Fu) (hn : nt ≤ 680) (h : cT I nt T) : wp (f_X11_feed Fu I a b c d e) (fun y => y.1 = nI (nt + 20) ∧ cT y.2 (nt + 20) (tP5 nt T a b c d e) ∧ ∀ c, c ≠ 1 → c ≠ 2 → y.2 c = I c) := by
  unfold f_X11_feed f_X6_taped
  refine wp_Be rfl (wp_p (by rw [h.1, show (680 : Int32) = nI 680 from rfl, q_le (by omega) (by omega)]; exact hn) ?_)
  refine wp_B (c_put hF (by omega) h) ?_
  rintro J1 ⟨h1, _, g1⟩
  refine wp_B (c_put hF (by omega) h1) ?_
  rintro J2 ⟨h2, _, g2⟩
  refine wp_B (c_put hF (by omega) h2) ?_
  rintro J3 ⟨h3, _, g3⟩
  refine wp_B (c_put hF (by omega) h3) ?_
  rintro J4 ⟨h4, _, g4⟩
  refine wp_B (c_put hF (by omega) h4) ?_
  rintro J5 ⟨h5, _, g5⟩
  exact wp_Be rfl (wp_s ⟨h5.1, h5, fun c c1 c2 => by dsimp only; rw [g5 c c1 c2, g4 c c1 c2, g3 c c1 c2, g2 c c1 c2, g1 c c1 c2]⟩)
theorem m_feed {Fu : Nat} {I : mIT} {nt : Nat} {T : Nat → Nat} {a b c d e : Int32} (hF : 701 < Fu) (hn : nt ≤ 680) (h : mTp I nt T) : wp (f_X12_feed Fu I a b c d e) (fun y => y.1 = nI (nt + 20) ∧ mTp y.2 (nt + 20) (tP5 nt T a b c d e) ∧ (∀ j, j ≠ 0 → j ≠ 13 → y.2 75 j = I 75 j) ∧ ∀ c, c ≠ 75 → c ≠ 80 → y.2 c = I c) := by
  have h0 : mTp (mU I 75 0 0) nt T := ⟨by rw [q_Uj (by decide)]; exact h.1, fun j hj => by rw [mU_other (by decide)]; exact h.2 j hj⟩
  unfold f_X12_feed
  refine wp_p (by rw [h0.1, show (20 : Int32) = nI 20 from rfl, nI_add, show (700 : Int32) = nI 700 from rfl, q_le (by omega) (by omega)]; omega) ?_
  refine wp_B (m_lays hF (by omega) h0) ?_
  rintro J1 ⟨h1, q1, g1⟩
  refine wp_B (m_lays hF (by omega) h1) ?_
  rintro J2 ⟨h2, q2, g2⟩
  refine wp_B (m_lays hF (by omega) h2) ?_
  rintro J3 ⟨h3, q3, g3⟩
  refine wp_B (m_lays hF (by omega) h3) ?_
  rintro J4 ⟨h4, q4, g4⟩
  refine wp_B (m_lays hF (by omega) h4) ?_
  rintro J5 ⟨h5, q5, g5⟩
  exact wp_s ⟨h5.1, h5, fun j j1 j2 => by dsimp only; rw [q5 j j2, q4 j j2, q3 j j2, q2 j j2, q1 j j2, q_Uj j1], fun c c1 c2 => by dsimp only; rw [g5 c c1 c2, g4 c c1 c2, g3 c c1 c2, g2 c c1 c2, g1 c c1 c2, mU_other c1]⟩
theorem tP_lt {nt : Nat} {T : Nat → Nat} {v : Int32} (h : ∀ j, j < nt → T j < 256) : ∀ j, tP nt T v j < 256 ∨ False := fun j => by
  unfold tP
  split
  · exact Or.inl (h j (by assumption))
  · exact Or.inl (by8_e v _).2
theorem tP5_lt {nt : Nat} {T : Nat → Nat} {a b c d e : Int32} (h : ∀ j, j < nt → T j < 256) : ∀ j, tP5 nt T a b c d e j < 256 := fun j => by
  unfold tP5
  exact (tP_lt (fun j _ => (tP_lt (fun j _ => (tP_lt (fun j _ => (tP_lt (fun j _ => (tP_lt h j).resolve_right id) j).resolve_right id) j).resolve_right id) j).resolve_right id) j).resolve_right id
theorem pq_feed {Fu : Nat} {I : mIT} {R : mRT} {L : mLT} {a1 a2 a3 a4 a5 : Int32} (hF : 2200 < Fu) (h : pP I R L) : st_feed Fu I R L a1 a2 a3 a4 a5 pP := by
  obtain ⟨p, n, A, row, na, ac, hl, hp⟩ := h
  have ⟨hW, hq0, ho, hk, hA, hH, hc, hf, hm, hX, hI, hT⟩ := hp
  have hpp := hc.2.1
  unfold st_feed
  obtain ⟨⟨nt, n7, t1, t2, t3⟩, t4, t5⟩ := hT
  by_cases e : nt ≤ 680
  · have eT : ∀ j, j < nt → (I 80 j).toNatClampNeg < 256 ∧ I 80 j = nI (I 80 j).toNatClampNeg ∧ I 2 j = (nI (I 80 j).toNatClampNeg).toInt8.toInt32 := fun j hj => by
      obtain ⟨b, b1, b2, b3⟩ := t3 j hj
      rw [b2, q_cl (by omega)]
      exact ⟨b1, rfl, b3⟩
    obtain ⟨J, e1, j0, j1, j2⟩ := c_feed (Fu := Fu) (T := fun j => (I 80 j).toNatClampNeg) (a := a1) (b := a2) (c := a3) (d := a4) (e := a5) (by omega) e ⟨t1, fun j hj => (eT j hj).2.2⟩
    obtain ⟨K, e2, k0, k1, k2, k3⟩ := m_feed (Fu := Fu) (I := J.2) (T := fun j => (I 80 j).toNatClampNeg) (a := a1) (b := a2) (c := a3) (d := a4) (e := a5) (by omega) e ⟨by rw [j2 75 (by decide) (by decide)]; exact t2, fun j hj => by rw [j2 80 (by decide) (by decide)]; exact (eT j hj).2.1⟩
    refine ⟨J, e1, K, e2, by rw [j0, k0], p, n, A, row, na, ac, hl, ?_⟩
    have f : ∀ c, c ≠ 1 → c ≠ 2 → c ≠ 75 → c ≠ 80 → K.2 c = I c := fun c a b d e => by rw [k3 c d e, j2 c a b]
    have f5 : ∀ j, j ≠ 0 → j ≠ 13 → K.2 75 j = I 75 j := fun j a b => by rw [k2 j a b, j2 75 (by decide) (by decide)]
    refine ⟨hW, hq0, ho, hk, hA, hH, ⟨hc.1, hpp, cPl_fr hc.2.2.1 (fun c a1 a2 _ _ _ _ => f c (by omega) (by omega) (by omega) (by omega)), fun j hj => by rw [f 41 (by omega) (by omega) (by omega) (by omega)]; exact hc.2.2.2.1 j hj, cCo_f hc.2.2.2.2 (fun c a1 a2 => f c (by omega) (by omega) (by omega) (by omega))⟩, cFv_f hf (fun c a1 a2 => f c (by omega) (by omega) (by omega) (by omega)), ?_, ?_, ?_, ?_⟩
    · exact ⟨mPl_fr hm.1 (fun j a1 a2 => f5 j (by omega) (by omega)) (f 76 (by omega) (by omega) (by omega) (by omega)) (f 77 (by omega) (by omega) (by omega) (by omega)) (f 78 (by omega) (by omega) (by omega) (by omega)) (f 79 (by omega) (by omega) (by omega) (by omega)), fun j hj => by rw [f 89 (by omega) (by omega) (by omega) (by omega)]; exact hm.2.1 j hj, by rw [f5 47 (by omega) (by omega)]; exact hm.2.2⟩
    · exact gX_k (fun c a1 a2 => f c (by omega) (by omega) (by omega) (by omega)) (f 90 (by omega) (by omega) (by omega) (by omega)) (f 99 (by omega) (by omega) (by omega) (by omega)) (f5 44 (by omega) (by omega)) (f5 55 (by omega) (by omega)) hX
    · exact gI_k (by rw [f 0 (by omega) (by omega) (by omega) (by omega)]) (fun c a1 a2 => f c (by omega) (by omega) (by omega) (by omega)) (f 102 (by omega) (by omega) (by omega) (by omega)) (f 103 (by omega) (by omega) (by omega) (by omega)) (f 104 (by omega) (by omega) (by omega) (by omega)) (f5 60 (by omega) (by omega)) (f5 61 (by omega) (by omega)) (f5 62 (by omega) (by omega)) hI
    · refine ⟨⟨nt + 20, by omega, by rw [k3 1 (by decide) (by decide)]; exact j1.1, k1.1, fun j hj => ⟨_, tP5_lt (fun j hj => (eT j hj).1) j, k1.2 j hj, by rw [k3 2 (by decide) (by decide)]; exact j1.2 j hj⟩⟩, by rw [f 0 (by omega) (by omega) (by omega) (by omega), f5 15 (by omega) (by omega)]; exact t4, fun j hj => by rw [f 21 (by omega) (by omega) (by omega) (by omega), f 81 (by omega) (by omega) (by omega) (by omega)]; exact t5 j hj⟩
  · refine ⟨(-1, I), ?_, (-1, mU I 75 0 0), ?_, rfl, p, n, A, row, na, ac, hl, pic_mS hp (mS_r _)⟩
    · unfold f_X11_feed f_X6_taped
      rw [q_B, t1, if_neg (by rw [show (680 : Int32) = nI 680 from rfl, q_le (by omega) (by omega)]; exact e)]
    · unfold f_X12_feed
      dsimp only
      rw [q_Uj (by decide), t2, if_neg (by rw [show (20 : Int32) = nI 20 from rfl, nI_add, show (700 : Int32) = nI 700 from rfl, q_le (by omega) (by omega)]; omega)]
