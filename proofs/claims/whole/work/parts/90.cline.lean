/-! the class reads a line -/
def esM (J : mIT) (q : Nat) : Nat → Nat → eSt
  | 0, _ => []
  | m + 1, i => (J (q + 1) i, J (q + 2) i) :: esM J q m (i + 1)
theorem esM_len {J : mIT} {q : Nat} : ∀ m i, (esM J q m i).length = m
  | 0, _ => rfl
  | m + 1, i => by rw [esM, List.length_cons, esM_len m (i + 1)]
theorem esM_get {J : mIT} {q : Nat} : ∀ m k i, i < m → (esM J q m k).getD i (0, 0) = (J (q + 1) (k + i), J (q + 2) (k + i))
  | 0, _, _, h => by omega
  | m + 1, k, 0, _ => rfl
  | m + 1, k, i + 1, h => by
    rw [esM, List.getD_cons_succ, esM_get m (k + 1) i (by omega), show k + 1 + i = k + (i + 1) by omega]
theorem esM_ok {J : mIT} {q : Nat} : ∀ (out : eSt) (k : Nat), (∀ i, i < out.length → J (q + 1) (k + i) = (out.getD i (0, 0)).1 ∧ (((out.getD i (0, 0)).1 = 1 ∨ (out.getD i (0, 0)).1 = 2) → J (q + 2) (k + i) = (out.getD i (0, 0)).2)) → enc (esM J q out.length k) = enc out ∧ ∀ d, wfd out d → wfd (esM J q out.length k) d
  | [], _, _ => ⟨rfl, fun _ h => h⟩
  | e :: out, k, h => by
    have h0 := h 0 (by rw [List.length_cons]; omega)
    have e1 : J (q + 1) k = e.1 := h0.1
    have e2 : e.1 = 1 ∨ e.1 = 2 → J (q + 2) k = e.2 := h0.2
    obtain ⟨i1, i2⟩ := esM_ok out (k + 1) (fun i hi => by
      have := h (i + 1) (by rw [List.length_cons]; omega)
      rw [List.getD_cons_succ, show k + (i + 1) = k + 1 + i by omega] at this
      exact this)
    rw [List.length_cons, esM]
    constructor
    · rw [enc, enc, i1]
      dsimp only
      rw [e1]
      by_cases c : e.1 = 1 ∨ e.1 = 2
      · rw [if_pos c, if_pos c, e2 c]
      · rw [if_neg c, if_neg c]
    · intro d hd
      rcases hd with ⟨a1, a2, a3⟩ | ⟨a1, a2, a4, a3⟩ | ⟨a1, a2, a3⟩ | ⟨a1, a2, a3⟩
      · exact Or.inl ⟨by rw [← a1]; exact e1, a2, i2 _ a3⟩
      · exact Or.inr (Or.inl ⟨by rw [← a1]; exact e1, a2, by dsimp only; rw [e2 (Or.inr a1)]; exact a4, i2 _ a3⟩)
      · exact Or.inr (Or.inr (Or.inl ⟨by rw [← a1]; exact e1, a2, i2 _ a3⟩))
      · exact Or.inr (Or.inr (Or.inr ⟨by dsimp only; rw [e1]; exact a1, a2, i2 _ a3⟩))
theorem cE_of {J : mIT} {q : Nat} {out : eSt} {w : List Nat} (h : cRs J q out w) (hw : wfp out 0 1) (hl : out.length ≤ 700) : cE J q out := by
  obtain ⟨h1, h2, h3, h4⟩ := h
  obtain ⟨e1, e2⟩ := esM_ok (J := J) (q := q) out 0 (fun i hi => by rw [Nat.zero_add]; exact h3 i hi)
  refine ⟨esM J q out.length 0, ⟨by rw [esM_len]; exact h1, by rw [esM_len]; exact hl, fun i hi => ?_, Or.inr (e2 0 (wfp_wfd hw))⟩, e1, esM_len _ _⟩
  rw [esM_len] at hi
  rw [esM_get _ _ _ hi, Nat.zero_add]
  exact ⟨rfl, rfl⟩
theorem ex_fin {B : Nat → Nat} {n a : Nat} {x : xS} (hi : xI x a) (hd : exDn B n a x = true) : wfp (pwt 1 x.2.1 x.1).1 0 1 ∧ (pwt 1 x.2.1 x.1).1.length ≤ a := by
  obtain ⟨d1, d2, d3⟩ := of_decide_eq_true hd
  obtain ⟨h1, _, _, _, _, _, h7, h8⟩ := hi
  rw [if_neg (by omega), d2] at h7
  rw [if_pos d1] at h8
  have hw := okW_d0 h7 h8
  obtain ⟨_, k2, k3⟩ := pwt_ok (t := 1) (by omega) (Nat.le_refl 11) h7 h8
  rw [hw] at k2 k3
  refine ⟨k2, ?_⟩
  have k3' : (pwt 1 x.2.1 x.1).1.length + 0 = x.1.length + x.2.1.length := k3
  omega
theorem bt_or9 {x : Int32} {d i : Nat} (hd : d ≤ 9) (hi : i ≤ 9) : bt (x ||| ((1 : Int32) <<< (nI d &&& 31))) i = if i = d then true else bt x i := by
  have key : ∀ d : Nat, d ≤ 9 → ∀ i : Nat, i ≤ 9 → bt ((1 : Int32) <<< (nI d &&& 31)) i = decide (i = d) := by decide +kernel
  rw [b_or, key d hd i hi]
  by_cases e : i = d
  · rw [if_pos e, decide_eq_true e, Bool.or_true]
  · rw [if_neg e, decide_eq_false e, Bool.or_false]
theorem c_lineWord {Fu : Nat} {I : mIT} {B : Nat → Nat} {n a : Nat} (hF : 2200 < Fu) (ht : tpe B n) (h : cTk I B n a) : f_X6_lineWord Fu I = some (if lwd (tW B n a) = 10 then -1 else nI (lwd (tW B n a))) := by
  apply wp_q
  unfold f_X6_lineWord
  refine wp_Be (c_isAtWord (k := 1) hF ht h (by omega) (by omega)) ?_
  rw [show wX 1 = 7 from rfl]
  by_cases e1 : tW B n a = 7
  · rw [if_pos e1, e1]; exact wp_n (by decide) (wp_s rfl)
  rw [if_neg e1]
  refine wp_p rfl (wp_Be (c_isAtWord (k := 2) hF ht h (by omega) (by omega)) ?_)
  rw [show wX 2 = 8 from rfl]
  by_cases e2 : tW B n a = 8
  · rw [if_pos e2, e2]; exact wp_n (by decide) (wp_s rfl)
  rw [if_neg e2]
  refine wp_p rfl (wp_Be (c_isAtWord (k := 3) hF ht h (by omega) (by omega)) ?_)
  rw [show wX 3 = 9 from rfl]
  by_cases e3 : tW B n a = 9
  · rw [if_pos e3, e3]; exact wp_n (by decide) (wp_s rfl)
  rw [if_neg e3]
  refine wp_p rfl (wp_Be (c_isAtWord (k := 4) hF ht h (by omega) (by omega)) ?_)
  rw [show wX 4 = 10 from rfl]
  by_cases e4 : tW B n a = 10
  · rw [if_pos e4, e4]; exact wp_n (by decide) (wp_s rfl)
  rw [if_neg e4]
  refine wp_p rfl (wp_Be (c_isAtWord (k := 5) hF ht h (by omega) (by omega)) ?_)
  rw [show wX 5 = 4 from rfl]
  by_cases e5 : tW B n a = 4
  · rw [if_pos e5, e5]; exact wp_n (by decide) (wp_s rfl)
  rw [if_neg e5]
  refine wp_p rfl (wp_Be (c_isAtWord (k := 6) hF ht h (by omega) (by omega)) ?_)
  rw [show wX 6 = 11 from rfl]
  by_cases e6 : tW B n a = 11
  · rw [if_pos e6, e6]; exact wp_n (by decide) (wp_s rfl)
  rw [if_neg e6]
  refine wp_p rfl (wp_Be (c_isAtWord (k := 7) hF ht h (by omega) (by omega)) ?_)
  rw [show wX 7 = 12 from rfl]
  by_cases e7 : tW B n a = 12
  · rw [if_pos e7, e7]; exact wp_n (by decide) (wp_s rfl)
  rw [if_neg e7]
  refine wp_p rfl (wp_Be (c_isAtWord (k := 8) hF ht h (by omega) (by omega)) ?_)
  rw [show wX 8 = 13 from rfl]
  by_cases e8 : tW B n a = 13
  · rw [if_pos e8, e8]; exact wp_n (by decide) (wp_s rfl)
  rw [if_neg e8]
  refine wp_p rfl (wp_Be (c_isAtWord (k := 9) hF ht h (by omega) (by omega)) ?_)
  rw [show wX 9 = 14 from rfl]
  by_cases e9 : tW B n a = 14
  · rw [if_pos e9, e9]; exact wp_n (by decide) (wp_s rfl)
  rw [if_neg e9]
  refine wp_p rfl (wp_Be (c_isAtWord (k := 10) hF ht h (by omega) (by omega)) ?_)
  rw [show wX 10 = 15 from rfl]
  by_cases e10 : tW B n a = 15
  · rw [if_pos e10, e10]; exact wp_n (by decide) (wp_s rfl)
  rw [if_neg e10]
  refine wp_p rfl (wp_s ?_)
  have e : lwd (tW B n a) = 10 := by
    unfold lwd
    rw [if_neg e1, if_neg e2, if_neg e3, if_neg e4, if_neg e5, if_neg e6, if_neg e7, if_neg e8, if_neg e9, if_neg e10]
  rw [if_pos e]
theorem lwd_le (w : Nat) : lwd w ≤ 10 := by
  unfold lwd
  repeat' split
  all_goals omega
/-! a line of its kind is seen -/
def cMk (I : mIT) (k : Nat) : mIT := mU I 1 10 (I 1 10 ||| ((1 : Int32) <<< (nI k &&& 31)))
theorem cMk_o {I : mIT} {k c : Nat} (h : c ≠ 1) : cMk I k c = I c := mU_other h
theorem cMk_b {I : mIT} {k p : Nat} {S : lS} (hL : cL I p S) (hk : 4 ≤ k ∧ k ≤ 9) : ∀ i, 4 ≤ i → i ≤ 9 → bt (cMk I k 1 10) i = mk S k i := fun i a b => by
  unfold cMk mk
  rw [q_U, bt_or9 hk.2 b, hL.2.2.2.2.2.2.2.2.2.2.2.2.1 i a b]
theorem cL_0 {I : mIT} {p k : Nat} {S : lS} (hp : 3 ≤ p) (hL : cL I p S) (hk : 4 ≤ k ∧ k ≤ 9) : cL (cMk I k) p (S.1, S.2.1, mk S k) := by
  have hb := cMk_b hL hk
  have hL' : cL I p S := hL
  obtain ⟨h1, h2, h3, h4, h5, h6, h7, h8, h9, g10, h11, h12, h13, h14, h15⟩ := hL
  have o : ∀ c, p ≤ c → cMk I k c = I c := fun c hc => cMk_o (by omega)
  unfold cL rI
  rw [o p (by omega), o (p + 1) (by omega), o (p + 2) (by omega), o (p + 3) (by omega), o (p + 17) (by omega), o (p + 4) (by omega), o (p + 10) (by omega)]
  refine ⟨h1, h2, h3, h4, h5, h6, h7, h8, h9, cE_k g10 (by rw [o (p + 4) (by omega)]) (o _ (by omega)) (o _ (by omega)), cE_k h11 (by rw [o (p + 10) (by omega)]) (o _ (by omega)) (o _ (by omega)), h12, hb, fun q => h14 ?_, fun q => h15 ?_⟩
  · have q' : mk S k 8 = false := q
    unfold mk at q'
    by_cases e : 8 = k
    · rw [if_pos e] at q'; exact absurd q' (by decide)
    · rw [if_neg e] at q'; exact q'
  · have q' : mk S k 9 = false := q
    unfold mk at q'
    by_cases e : 9 = k
    · rw [if_pos e] at q'; exact absurd q' (by decide)
    · rw [if_neg e] at q'; exact q'
theorem cL_W {I : mIT} {p : Nat} {S : lS} (h : cL I p (S.1, S.2.1, mk S 4)) (h0 : pN S.1 = 0) : cL I p (setW S []) := by
  obtain ⟨h1, h2, h3, h4, h5, h6, h7, h8, h9, g10, h11, h12, h13, h14, h15⟩ := h
  have h2' : I p 4 = nI (pN S.1) := h2
  rw [h0] at h2'
  exact ⟨h1, h2', h3, h4, h5, h6, h7, fun j hj => absurd hj (Nat.not_lt_zero _), h9, g10, h11, h12, h13, h14, h15⟩
theorem cL_U {I : mIT} {p : Nat} {S : lS} (h : cL I p (S.1, S.2.1, mk S 6)) (h0 : pT S.1 = 0) : cL I p (setU S []) := by
  obtain ⟨h1, h2, h3, h4, h5, h6, h7, h8, h9, g10, h11, h12, h13, h14, h15⟩ := h
  have h4' : I p 6 = nI (pT S.1) := h4
  have h5' : I p 7 = tBits (pU S.1) (pT S.1) := h5
  rw [h0] at h4' h5'
  exact ⟨h1, h2, h3, h4', h5', h6, h7, h8, fun j hj => absurd hj (Nat.not_lt_zero _), g10, h11, h12, h13, h14, h15⟩
theorem cL_M {I : mIT} {p : Nat} {S : lS} (h : cL I p (S.1, S.2.1, mk S 7)) (h0 : pC S.1 = 0) (h10r : pR S.1 ≤ 10) : cL I p (setM S []) := by
  obtain ⟨h1, h2, h3, h4, h5, h6, h7, h8, h9, g10, h11, h12, h13, h14, h15⟩ := h
  have h6' : I p 8 = nI (pC S.1) := h6
  rw [h0] at h6'
  refine ⟨h1, h2, h3, h4, h5, h6', h7, h8, h9, g10, h11, fun j hj => ?_, h13, h14, h15⟩
  have q1 : pR (setM S []).1 = pR S.1 := rfl
  have q2 : pC (setM S []).1 = 0 := rfl
  unfold live at hj
  rw [q1, q2] at hj
  have hl : live (S.1, S.2.1, mk S 7).1 j := by
    show live S.1 j
    unfold live
    omega
  rw [h12 j hl]
  show _ = if 41 ≤ j then _ else S.2.1 j
  rw [if_neg (by omega)]
theorem cL_N {I : mIT} {p : Nat} {S : lS} (h : cL I p (S.1, S.2.1, mk S 8)) (h0 : pNo S.1 = []) : cL I p (setN S []) := by
  obtain ⟨h1, h2, h3, h4, h5, h6, h7, h8, h9, g10, h11, h12, h13, h14, h15⟩ := h
  have g10' : cE I (p + 4) (pNo S.1) := g10
  rw [h0] at g10'
  exact ⟨h1, h2, h3, h4, h5, h6, h7, h8, h9, g10', h11, h12, h13, h14, h15⟩
theorem cL_G {I : mIT} {p : Nat} {S : lS} (h : cL I p (S.1, S.2.1, mk S 9)) (h0 : pGr S.1 = []) : cL I p (setG S []) := by
  obtain ⟨h1, h2, h3, h4, h5, h6, h7, h8, h9, g10, h11, h12, h13, h14, h15⟩ := h
  have g11' : cE I (p + 10) (pGr S.1) := h11
  rw [h0] at g11'
  exact ⟨h1, h2, h3, h4, h5, h6, h7, h8, h9, g10, g11', h12, h13, h14, h15⟩
theorem cE_0 {I : mIT} {q : Nat} (h : cE I q []) : I q 5 = 0 := by
  obtain ⟨es, h1, _, h3⟩ := h
  have : es.length = 0 := h3
  rw [h1.1, this]
  rfl
