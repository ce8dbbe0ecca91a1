/-! the acts that may be undone -/
def cAc (I : mIT) (c : Nat) (A : aPl) (na : Nat) (ac : Nat → Nat → Int32) : Prop := ∃ o, o < 40 ∧ I c 1 = nI o ∧ I c 2 = nI na ∧ ∀ i, i < na → rI A I (c + 1) (53 * ((o + i) % 40)) (ac i)
def mAc (I : mIT) (f c : Nat) (A : aPl) (na : Nat) (ac : Nat → Nat → Int32) : Prop := I 75 f = nI na ∧ ∀ i, i < na → rI A I c (53 * i) (ac i)
def okA (A : aPl) (na : Nat) (ac : Nat → Nat → Int32) : Prop := na ≤ 40 ∧ ∀ i, i < na → okR A 999 (ac i)
def acN (na : Nat) : Nat := if na = 40 then 40 else na + 1
def acP (na : Nat) (ac : Nat → Nat → Int32) (row : Nat → Int32) : Nat → Nat → Int32 := fun i => if i = acN na - 1 then row else if na = 40 then ac (i + 1) else ac i
theorem okA_p {A : aPl} {na : Nat} {ac : Nat → Nat → Int32} {row : Nat → Int32} (h : okA A na ac) (hr : okR A 999 row) : okA A (acN na) (acP na ac row) := by
  have h1 := h.1
  refine ⟨by unfold acN; split <;> omega, fun i hi => ?_⟩
  unfold acP
  split
  · exact hr
  · rename_i e
    unfold acN at hi e
    split
    · rename_i e2
      rw [if_pos e2] at hi e
      exact h.2 (i + 1) (by omega)
    · rename_i e2
      rw [if_neg e2] at hi e
      exact h.2 i (by omega)
theorem rI_f {A : aPl} {I J : mIT} {c b : Nat} {row : Nat → Int32} (h : rI A I c b row) (f : ∀ j, live A j → J c (b + j) = I c (b + j)) : rI A J c b row := fun j hj => by rw [f j hj]; exact h j hj
theorem rem40 {a : Nat} (h : a < 2147483648) : nI a - nI a / (40 : Int32) * (40 : Int32) = nI (a % 40) := pk_rem (d := 40) h (by omega) (by omega)
theorem r53 (a : Nat) : nI a * (53 : Int32) = nI (a * 53) := pk_mul a 53
theorem l53 (a : Nat) : (53 : Int32) * nI a = nI (53 * a) := pk_mul 53 a
theorem cpB_nI {s t n l0 l1 : Nat} (h1 : s + n ≤ l0) (h2 : t + n ≤ l1) (h3 : l0 < 2147483648) (h4 : l1 < 2147483648) : cpB (nI s) (nI t) (nI n) l0 l1 = true := by
  unfold cpB
  apply decide_eq_true
  rw [q_cl (by omega), q_cl (by omega), q_cl (by omega), q_lt0 (by omega), q_lt0 (by omega), q_lt0 (by omega)]
  simp
  omega
theorem c_save {Fu : Nat} {I : mIT} {k s : Nat} (hs : s + 53 ≤ 2120) : f_X9_saveTo Fu I k 43 (nI s) = some (mCp I (k + 1) 43 0 s 53) := by
  unfold f_X9_saveTo
  rw [if_neg (by rw [q_lt0 (by omega)]; simp), show (nI (mT 43).2) - (53 : Int32) = nI 2067 from rfl, if_neg (by rw [q_lt (by omega) (by omega)]; omega), q_G (show cpB 0 (nI s) 53 53 (mT 43).2 = true from cpB_nI (s := 0) (n := 53) (l0 := 53) (l1 := 2120) (by omega) hs (by omega) (by omega)), q_cl (by omega)]
  rfl
theorem c_loadA {Fu : Nat} {I : mIT} {k s : Nat} (hs : s + 53 ≤ 2120) : f_X9_loadFrom Fu I k 43 (nI s) = some (mCp I 43 (k + 1) s 0 53) := by
  unfold f_X9_loadFrom
  rw [if_neg (by rw [q_lt0 (by omega)]; simp), show (nI (mT 43).2) - (53 : Int32) = nI 2067 from rfl, if_neg (by rw [q_lt (by omega) (by omega)]; omega), q_G (show cpB (nI s) 0 53 (mT 43).2 53 = true from cpB_nI (t := 0) (n := 53) (l0 := 2120) (l1 := 53) hs (by omega) (by omega) (by omega)), q_cl (by omega)]
  rfl
theorem c_begin {Fu : Nat} {I : mIT} {A : aPl} {row : Nat → Int32} {na : Nat} {ac : Nat → Nat → Int32} (ho : okPl A) (hrw : rI A I 41 0 row) (h : cAc I 42 A na ac) (hn : na ≤ 40) : wp (f_X11_beginAct Fu I) (fun J => cAc J 42 A (acN na) (acP na ac row) ∧ J 56 4 = 0 ∧ J 66 4 = 0 ∧ ∀ c, c ≠ 42 → c ≠ 43 → c ≠ 56 → c ≠ 66 → J c = I c) := by
  obtain ⟨o, ho40, h1, h2, h3⟩ := h
  unfold f_X11_beginAct f_X0_keep
  rw [h1, h2, nI_add, rem40 (by omega), r53, c_save (by omega), q_B, mCp_o (by decide), h1, h2]
  have hs : ∀ i, i < 40 → i ≠ (o + na) % 40 → rI A (mCp I 41 43 0 ((o + na) % 40 * 53) 53) 43 (53 * i) = rI A I 43 (53 * i) := fun i hi hne => by
    funext rw2
    unfold rI
    apply propext
    constructor
    · intro q j hj
      have := live_53 ho hj
      rw [← q j hj, mCp_x (by omega)]
    · intro q j hj
      have := live_53 ho hj
      rw [mCp_x (by omega), q j hj]
  have hs2 : rI A (mCp I 41 43 0 ((o + na) % 40 * 53) 53) 43 (53 * ((o + na) % 40)) row := fun j hj => by
    have := live_53 ho hj
    rw [mCp_i (by omega) (by omega), ← hrw j hj]
    congr 1
    omega
  have fin : ∀ J : mIT, cAc J 42 A (acN na) (acP na ac row) → (∀ c, c ≠ 42 → c ≠ 43 → J c = I c) → wp (oB (some J) (fun r8 => oB (f_X11_forgetWork Fu r8) (fun r12 => some r12))) (fun J => cAc J 42 A (acN na) (acP na ac row) ∧ J 56 4 = 0 ∧ J 66 4 = 0 ∧ ∀ c, c ≠ 42 → c ≠ 43 → c ≠ 56 → c ≠ 66 → J c = I c) := fun J g1 g2 => by
    unfold f_X11_forgetWork f_X1_clear f_X2_clear
    refine wp_s ⟨?_, ?_, ?_, ?_⟩
    · unfold cAc rI
      simp only [mU_other (show (42 : Nat) ≠ 66 by decide), mU_other (show (42 : Nat) ≠ 56 by decide), mU_other (show (42 : Nat) + 1 ≠ 66 by decide), mU_other (show (42 : Nat) + 1 ≠ 56 by decide)]
      exact g1
    · rw [mU_other (by decide), q_U]
    · rw [q_U]
    · intro c c1 c2 c3 c4
      rw [mU_other c4, mU_other c3, g2 c c1 c2]
  by_cases e : na = 40
  · subst e
    rw [if_pos (by decide), q_1, rem40 (by omega)]
    refine fin _ ⟨(o + 1) % 40, by omega, q_U _ _ _ _, by rw [q_Uj (by decide), mCp_o (by decide)]; exact h2, fun i hi => ?_⟩ (fun c c1 c2 => by rw [mU_other c1, mCp_o c2])
    have hi' : i < 40 := hi
    have e1 : ((o + 1) % 40 + i) % 40 = (o + (i + 1)) % 40 := by omega
    rw [e1]
    show rI A (fun a => mU _ 42 1 _ a) (42 + 1) _ _
    have e2 : ∀ rw2, rI A (mU (mCp I 41 43 0 ((o + 40) % 40 * 53) 53) 42 1 (nI ((o + 1) % 40))) 43 (53 * ((o + (i + 1)) % 40)) rw2 = rI A (mCp I 41 43 0 ((o + 40) % 40 * 53) 53) 43 (53 * ((o + (i + 1)) % 40)) rw2 := fun rw2 => by
      unfold rI
      rw [mU_other (by decide)]
    have e3 : acP 40 ac row i = if i = 39 then row else ac (i + 1) := rfl
    rw [e3]
    refine (e2 _).mpr ?_
    by_cases e4 : i = 39
    · rw [if_pos e4, show (o + (i + 1)) % 40 = (o + 40) % 40 by omega]; exact hs2
    · rw [if_neg e4, hs _ (by omega) (by omega)]; exact h3 (i + 1) (by omega)
  · rw [if_neg (by rw [show (40 : Int32) = nI 40 from rfl, q_le (by omega) (by omega)]; omega), q_1]
    have e0 : acN na = na + 1 := if_neg e
    rw [e0]
    rw [e0] at fin
    refine fin _ ⟨o, ho40, by rw [q_Uj (by decide), mCp_o (by decide)]; exact h1, q_U _ _ _ _, fun i hi => ?_⟩ (fun c c1 c2 => by rw [mU_other c1, mCp_o c2])
    have e2 : ∀ rw2, rI A (mU (mCp I 41 43 0 ((o + na) % 40 * 53) 53) 42 2 (nI (na + 1))) 43 (53 * ((o + i) % 40)) rw2 = rI A (mCp I 41 43 0 ((o + na) % 40 * 53) 53) 43 (53 * ((o + i) % 40)) rw2 := fun rw2 => by
      unfold rI
      rw [mU_other (by decide)]
    have e3 : acP na ac row i = if i = na then row else ac i := by
      unfold acP
      rw [e0, if_neg e]
      rfl
    rw [e3]
    refine (e2 _).mpr ?_
    by_cases e4 : i = na
    · rw [if_pos e4, e4]; exact hs2
    · rw [if_neg e4, hs _ (by omega) (by omega)]; exact h3 i (by omega)
/-- but for the acts -/
def mA0 (I J : mIT) : Prop := ∀ c j, c ≠ 90 → (c = 75 → j ≠ 44) → J c j = I c j
theorem m_keeps {Fu : Nat} {I : mIT} {A : aPl} {row : Nat → Int32} {na : Nat} {ac : Nat → Nat → Int32} (hF : 2200 < Fu) (ho : okPl A) (hrw : rI A I 89 0 row) (h : mAc I 44 90 A na ac) (hn : na ≤ 40) : wp (f_X12_keeps Fu I) (fun J => mAc J 44 90 A (acN na) (acP na ac row) ∧ mA0 I J) := by
  have last : ∀ (K : mIT) (m : Nat) (bc : Nat → Nat → Int32), m < 40 → K 75 44 = nI m → mA0 I K → (∀ i, i < m → rI A K 90 (53 * i) (bc i)) → wp (w_X12_keeps_52 Fu Fu 0 K) (fun J => (J 75 44 = nI (m + 1) ∧ (∀ i, i < m → rI A J 90 (53 * i) (bc i)) ∧ rI A J 90 (53 * m) row) ∧ mA0 I J) := by
    intro K m bc hm h44 hK hb
    unfold w_X12_keeps_52
    refine wp_loop (fun dd (s : Int32 × mIT) => ∃ (i : Nat) (J : mIT), s = (nI i, J) ∧ dd = 53 - i ∧ i ≤ 53 ∧ (∀ j, j < i → J 90 (53 * m + j) = I 89 j) ∧ (∀ j, j < 53 * m → J 90 j = K 90 j) ∧ ∀ c, c ≠ 90 → J c = K c) _ ?_ Fu 53 _ ⟨0, K, rfl, rfl, by omega, fun j hj => absurd hj (by omega), fun _ _ => rfl, fun _ _ => rfl⟩ (by omega)
    rintro dd s self ⟨i, J, rfl, hdd, hi, f1, f2, f3⟩ hself
    show wp (b_X12_keeps_52 Fu self (nI i) J) _
    unfold b_X12_keeps_52
    have e44 : J 75 44 = nI m := by rw [f3 75 (by decide)]; exact h44
    rw [e44, show (53 : Int32) = nI 53 from rfl]
    refine wp_i (by rw [q_le (by omega) (by omega)]) (fun e => ?_) (fun e => ?_)
    · rw [q_1]
      refine wp_s ⟨⟨q_U _ _ _ _, fun k hk j hj => ?_, fun j hj => ?_⟩, fun c j c1 c2 => ?_⟩
      · have := live_53 ho hj
        rw [mU_other (by decide), f2 _ (by omega)]
        exact hb k hk j hj
      · have := live_53 ho hj
        rw [mU_other (by decide), f1 j (by omega), ← hrw j hj, Nat.zero_add]
      · by_cases ec : c = 75
        · subst ec
          rw [q_Uj (c2 rfl), f3 75 (by decide)]
          exact hK 75 j c1 c2
        · rw [mU_other ec, f3 c c1]
          exact hK c j c1 c2
    · rw [← show (53 : Int32) = nI 53 from rfl, l53, nI_add, q_GI (by omega) (by omega), q_GI (by omega) (by omega), q_cl (by omega), q_cl (by omega), q_1]
      refine hself (53 - (i + 1)) _ (by omega) ⟨i + 1, _, rfl, rfl, by omega, fun j hj => ?_, fun j hj => by rw [q_Uj (by omega)]; exact f2 j hj, fun c hc => by rw [mU_other hc]; exact f3 c hc⟩
      by_cases e2 : j = i
      · subst e2
        rw [q_U, f3 89 (by decide)]
        exact hK 89 j (by decide) (fun q => absurd q (by decide))
      · rw [q_Uj (by omega)]; exact f1 j (by omega)
  unfold f_X12_keeps
  rw [h.1]
  by_cases e : na = 40
  · subst e
    refine wp_p (by decide) ?_
    unfold w_X12_keeps_12
    refine wp_loop (fun dd (s : Int32 × mIT) => ∃ (i : Nat) (J : mIT), s = (nI i, J) ∧ dd = 2120 - i ∧ 53 ≤ i ∧ i ≤ 2120 ∧ (∀ j, j + 53 < i → J 90 j = I 90 (j + 53)) ∧ (∀ j, i ≤ j + 53 → J 90 j = I 90 j) ∧ ∀ c, c ≠ 90 → J c = I c) _ ?_ Fu 2067 _ ⟨53, I, rfl, rfl, by omega, by omega, fun j hj => absurd hj (by omega), fun _ _ => rfl, fun _ _ => rfl⟩ (by omega)
    rintro dd s self ⟨i, J, rfl, hdd, hi1, hi, f1, f2, f3⟩ hself
    show wp (b_X12_keeps_12 Fu self (nI i) J) _
    unfold b_X12_keeps_12
    rw [show (2120 : Int32) = nI 2120 from rfl]
    refine wp_i (by rw [q_le (by omega) (by omega)]) (fun e => ?_) (fun e => ?_)
    · have e44 : J 75 44 = nI 40 := by rw [f3 75 (by decide)]; exact h.1
      rw [e44]
      refine wp_m (last _ 39 (fun i => ac (i + 1)) (by omega) (q_U _ _ _ _) (fun c j c1 c2 => ?_) (fun k hk j hj => ?_)) ?_
      · by_cases ec : c = 75
        · subst ec
          rw [q_Uj (c2 rfl), f3 75 (by decide)]
        · rw [mU_other ec, f3 c c1]
      · have := live_53 ho hj
        rw [mU_other (by decide), f1 _ (by omega), ← h.2 (k + 1) (by omega) j hj]
        congr 1
        omega
      · rintro K ⟨⟨k1, k2, k3⟩, k4⟩
        refine ⟨⟨k1, fun k hk => ?_⟩, k4⟩
        have hk' : k < 40 := hk
        have e3 : acP 40 ac row k = if k = 39 then row else ac (k + 1) := rfl
        rw [e3]
        by_cases e4 : k = 39
        · rw [if_pos e4, e4]; exact k3
        · rw [if_neg e4]; exact k2 k (by omega)
    · rw [show nI i - (53 : Int32) = nI (i - 53) from pk_sub (b := 53) hi1, q_GI (by omega) (by omega), q_GI (by omega) (by omega), q_cl (by omega), q_cl (by omega), q_1]
      refine hself (2120 - (i + 1)) _ (by omega) ⟨i + 1, _, rfl, rfl, by omega, by omega, fun j hj => ?_, fun j hj => by rw [q_Uj (by omega)]; exact f2 j (by omega), fun c hc => by rw [mU_other hc]; exact f3 c hc⟩
      by_cases e2 : j = i - 53
      · subst e2
        rw [q_U, f2 i (by omega)]
        congr 1
        omega
      · rw [q_Uj (by omega)]; exact f1 j (by omega)
  · refine wp_n (by rw [show (40 : Int32) = nI 40 from rfl, q_eq (by omega) (by omega)]; exact e) ?_
    refine wp_m (last I na ac (by omega) h.1 (fun _ _ _ _ => rfl) h.2) ?_
    rintro K ⟨⟨k1, k2, k3⟩, k4⟩
    have e0 : acN na = na + 1 := if_neg e
    rw [e0]
    refine ⟨⟨k1, fun k hk => ?_⟩, k4⟩
    have e3 : acP na ac row k = if k = na then row else ac k := by
      unfold acP
      rw [e0, if_neg e]
      rfl
    rw [e3]
    by_cases e4 : k = na
    · rw [if_pos e4, e4]; exact k3
    · rw [if_neg e4]; exact k2 k (by omega)
theorem c_undo1 {Fu : Nat} {I : mIT} {A : aPl} {na : Nat} {ac : Nat → Nat → Int32} (ho : okPl A) (h : cAc I 42 A (na + 1) ac) (hn : na < 40) : wp (f_X11_undo Fu I) (fun y => y.1 = nI na ∧ cAc y.2 42 A na ac ∧ rI A y.2 41 0 (ac na) ∧ y.2 56 4 = 0 ∧ y.2 66 4 = 0 ∧ ∀ c, c ≠ 41 → c ≠ 42 → c ≠ 56 → c ≠ 66 → y.2 c = I c) := by
  obtain ⟨o, ho40, h1, h2, h3⟩ := h
  unfold f_X11_undo f_X0_undoInto
  rw [h2]
  rw [if_pos (by rw [q_0lt (by omega)]; omega), show nI (na + 1) - 1 = nI na from pk_sub (a := na + 1) (b := 1) (by omega), q_U, q_Uj (by decide), h1, nI_add, rem40 (by omega), r53, c_loadA (by omega), q_B, q_B]
  dsimp only
  refine wp_n ne10 ?_
  unfold f_X11_forgetWork f_X1_clear f_X2_clear f_X0_many
  refine wp_s ?_
  dsimp only
  refine ⟨?_, ?_, ?_, ?_, ?_, ?_⟩
  · rw [mU_other (by decide), mU_other (by decide), mCp_o (by decide), q_U]
  · refine ⟨o, ho40, ?_, ?_, fun i hi j hj => ?_⟩
    · rw [mU_other (by decide), mU_other (by decide), mCp_o (by decide), q_Uj (by decide), h1]
    · rw [mU_other (by decide), mU_other (by decide), mCp_o (by decide), q_U]
    · rw [mU_other (by decide), mU_other (by decide), mCp_o (by decide), mU_other (by decide)]
      exact h3 i (by omega) j hj
  · intro j hj
    have := live_53 ho hj
    rw [mU_other (by decide), mU_other (by decide), mCp_i (by omega) (by omega), mU_other (by decide), ← h3 na (by omega) j hj]
    congr 1
    omega
  · rw [mU_other (by decide), q_U]
  · exact q_U _ _ _ _
  · intro c c1 c2 c3 c4
    rw [mU_other c4, mU_other c3, mCp_o c1, mU_other c2]
theorem c_undo0 {Fu : Nat} {I : mIT} {A : aPl} {ac : Nat → Nat → Int32} (h : cAc I 42 A 0 ac) : f_X11_undo Fu I = some (-1, I) := by
  obtain ⟨o, ho40, h1, h2, h3⟩ := h
  unfold f_X11_undo f_X0_undoInto
  rw [h2]
  rfl
theorem m_undo1 {Fu : Nat} {I : mIT} {A : aPl} {na : Nat} {ac : Nat → Nat → Int32} (hF : 701 < Fu) (ho : okPl A) (h : mAc I 44 90 A (na + 1) ac) (hn : na < 40) : wp (f_X12_undo Fu I) (fun y => y.1 = nI na ∧ mAc y.2 44 90 A na ac ∧ rI A y.2 89 0 (ac na) ∧ ∀ c j, (c = 75 → j ≠ 0 ∧ j ≠ 44) → (c = 89 → 53 ≤ j) → y.2 c j = I c j) := by
  unfold f_X12_undo
  rw [q_Uj (by decide), h.1]
  refine wp_n (by rw [q_eq0 (by omega)]; omega) ?_
  rw [show nI (na + 1) - 1 = nI na from pk_sub (a := na + 1) (b := 1) (by omega)]
  generalize hI1 : mU (mU I 75 0 0) 75 44 (nI na) = I1
  have g : ∀ c, c ≠ 75 → I1 c = I c := fun c hc => by rw [← hI1, mU_other hc, mU_other hc]
  have g44 : I1 75 44 = nI na := by rw [← hI1, q_U]
  have gj : ∀ j, j ≠ 0 → j ≠ 44 → I1 75 j = I 75 j := fun j j1 j2 => by rw [← hI1, q_Uj j2, q_Uj j1]
  unfold w_X12_undo_26
  refine wp_loop (fun dd (s : Int32 × mIT) => ∃ (i : Nat) (J : mIT), s = (nI i, J) ∧ dd = 53 - i ∧ i ≤ 53 ∧ (∀ j, j < i → J 89 j = I 90 (53 * na + j)) ∧ (∀ j, 53 ≤ j → J 89 j = I 89 j) ∧ ∀ c, c ≠ 89 → J c = I1 c) _ ?_ Fu 53 _ ⟨0, I1, rfl, rfl, by omega, fun j hj => absurd hj (by omega), fun _ _ => by rw [g 89 (by decide)], fun _ _ => rfl⟩ (by omega)
  rintro dd s self ⟨i, J, rfl, hdd, hi, f1, f2, f3⟩ hself
  show wp (b_X12_undo_26 Fu self (nI i) J) _
  unfold b_X12_undo_26
  have e44 : J 75 44 = nI na := by rw [f3 75 (by decide)]; exact g44
  rw [e44, show (53 : Int32) = nI 53 from rfl]
  refine wp_i (by rw [q_le (by omega) (by omega)]) (fun e => ?_) (fun e => ?_)
  · refine wp_s ⟨rfl, ⟨e44, fun k hk j hj => ?_⟩, fun j hj => ?_, fun c j c1 c2 => ?_⟩
    · show J 90 _ = _
      rw [f3 90 (by decide), g 90 (by decide)]
      exact h.2 k (by omega) j hj
    · have := live_53 ho hj
      show J 89 _ = _
      rw [Nat.zero_add, f1 j (by omega)]
      exact h.2 na (by omega) j hj
    · show J c j = _
      by_cases e8 : c = 89
      · subst e8; exact f2 j (c2 rfl)
      · rw [f3 c e8]
        by_cases e9 : c = 75
        · subst e9; exact gj j (c1 rfl).1 (c1 rfl).2
        · rw [g c e9]
  · rw [← show (53 : Int32) = nI 53 from rfl, l53, nI_add, q_GI (by omega) (by omega), q_GI (by omega) (by omega), q_cl (by omega), q_cl (by omega), q_1]
    refine hself (53 - (i + 1)) _ (by omega) ⟨i + 1, _, rfl, rfl, by omega, fun j hj => ?_, fun j hj => by rw [q_Uj (by omega)]; exact f2 j hj, fun c hc => by rw [mU_other hc]; exact f3 c hc⟩
    by_cases e2 : j = i
    · subst e2
      rw [q_U, f3 90 (by decide), g 90 (by decide)]
    · rw [q_Uj e2]; exact f1 j (by omega)
theorem m_undo0 {Fu : Nat} {I : mIT} {A : aPl} {ac : Nat → Nat → Int32} (h : mAc I 44 90 A 0 ac) : f_X12_undo Fu I = some (-1, mU I 75 0 0) := by
  unfold f_X12_undo
  rw [q_Uj (by decide), h.1]
  rfl
