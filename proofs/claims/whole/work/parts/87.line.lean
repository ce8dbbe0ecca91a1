/-! a line as the document reads it -/
abbrev lS : Type := aPl × (Nat → Int32) × (Nat → Bool)
/-- 0: a number of lo to hi stands here; else the fault -/
def numS (B : Nat → Nat) (n a lo hi : Nat) : Nat := if tK B n a = 2 then (if tE B n a - a ≤ 4 ∧ lo ≤ tN B n a ∧ tN B n a ≤ hi then 0 else 2) else 1
def rwS (B : Nat → Nat) (n mx hi : Nat) (ch : Bool) : Nat → Nat → List Int32 → pO (Nat × List Int32)
  | 0, a, _ => .inl (0, a)
  | f + 1, a, l => if tK B n a = 2 then (if l.length < mx ∧ numS B n a 0 hi = 0 ∧ (ch = true → isCh (nI (tN B n a)) = true) then rwS B n mx hi ch f (nx B n a) (l ++ [nI (tN B n a)]) else .inl (2, a)) else if l = [] then .inl (1, a) else .inr (a, l)
def mk (S : lS) (k : Nat) : Nat → Bool := fun i => if i = k then true else S.2.2 i
/-- some root of the TEXT hangs there -/
def hgT (S : lS) (h : Int32) : Prop := ∃ q, q < pR S.1 ∧ S.2.1 (31 + q) = h
def addR (S : lS) (k s h pl : Int32) : lS := (((pR S.1 + 1, pN S.1, pL S.1, pT S.1, pC S.1), (fun r => if r = pR S.1 then k else pK S.1 r), pW S.1, pU S.1, pNo S.1, pGr S.1), (fun j => if j = 1 + pR S.1 then s else if j = 11 + pR S.1 then h else if j = 21 + pR S.1 then 0 else if j = 31 + pR S.1 then pl else S.2.1 j), S.2.2)
noncomputable def rt3 (B : Nat → Nat) (n a : Nat) (S : lS) (k s h : Int32) : pO (Nat × lS) := if tK B n a = 2 then (if numS B n a 0 5 = 0 then (@ite (pO (Nat × lS)) (hgT S (nI (tN B n a))) (Classical.propDecidable _) (.inl (4, a)) (.inr (nx B n a, addR S k s h (nI (tN B n a))))) else .inl (2, a)) else .inr (a, addR S k s h (-1))
noncomputable def rt2 (B : Nat → Nat) (n a : Nat) (S : lS) (k : Int32) (s : Nat) : pO (Nat × lS) := if numS B n a 0 (min 20 (s - 1)) = 0 then rt3 B n (nx B n a) S k (nI s) (nI (tN B n a)) else .inl (numS B n a 0 (min 20 (s - 1)), a)
noncomputable def rt1 (B : Nat → Nat) (n a : Nat) (S : lS) (k : Int32) : pO (Nat × lS) := if numS B n a 1 60 = 0 then rt2 B n (nx B n a) S k (tN B n a) else .inl (numS B n a 1 60, a)
noncomputable def rtS (B : Nat → Nat) (n a : Nat) (S : lS) (k : Int32) : pO (Nat × lS) := if pR S.1 < 10 then rt1 B n (nx B n a) S k else .inl (2, a)
def setW (S : lS) (l : List Int32) : lS := (((pR S.1, l.length, pL S.1, pT S.1, pC S.1), pK S.1, (fun j => l.getD j 0), pU S.1, pNo S.1, pGr S.1), S.2.1, mk S 4)
def setL (S : lS) (v : Int32) : lS := (((pR S.1, pN S.1, v, pT S.1, pC S.1), pK S.1, pW S.1, pU S.1, pNo S.1, pGr S.1), S.2.1, mk S 5)
def setU (S : lS) (l : List Int32) : lS := (((pR S.1, pN S.1, pL S.1, l.length, pC S.1), pK S.1, pW S.1, (fun j => l.getD j 0), pNo S.1, pGr S.1), S.2.1, mk S 6)
def setM (S : lS) (l : List Int32) : lS := (((pR S.1, pN S.1, pL S.1, pT S.1, l.length), pK S.1, pW S.1, pU S.1, pNo S.1, pGr S.1), (fun j => if 41 ≤ j then l.getD (j - 41) 0 else S.2.1 j), mk S 7)
def setN (S : lS) (e : eSt) : lS := (((pR S.1, pN S.1, pL S.1, pT S.1, pC S.1), pK S.1, pW S.1, pU S.1, e, pGr S.1), S.2.1, mk S 8)
def setG (S : lS) (e : eSt) : lS := (((pR S.1, pN S.1, pL S.1, pT S.1, pC S.1), pK S.1, pW S.1, pU S.1, pNo S.1, e), S.2.1, mk S 9)
def rwL (g : List Int32 → lS) (r : pO (Nat × List Int32)) : pO (Nat × lS) := match r with
  | .inl e => .inl e
  | .inr z => .inr (z.1, g z.2)
def exL (g : eSt → lS) (r : pO (Nat × xS)) : pO (Nat × lS) := match r with
  | .inl e => .inl e
  | .inr z => .inr (z.1, g (pwt 1 z.2.2.1 z.2.1).1)
def lsS (B : Nat → Nat) (n a : Nat) (S : lS) : pO (Nat × lS) := if numS B n a 1 99 = 0 then .inr (nx B n a, setL S (nI (tN B n a))) else .inl (numS B n a 1 99, a)
/-- which line the word begins: 0 to 3 roots, 4 weather, 5 lasts, 6 tune, 7 method, 8 note, 9 grows, 10 none -/
def lwd (w : Nat) : Nat := if w = 7 then 0 else if w = 8 then 1 else if w = 9 then 2 else if w = 10 then 3 else if w = 4 then 4 else if w = 11 then 5 else if w = 12 then 6 else if w = 13 then 7 else if w = 14 then 8 else if w = 15 then 9 else 10
/-- a line but for its end -/
noncomputable def bdK (B : Nat → Nat) (n a : Nat) (S : lS) (k : Nat) : pO (Nat × lS) :=
  if k = 4 then rwL (setW S) (rwS B n 10 9 false (n - a + 1) a [])
  else if k = 5 then lsS B n a S
  else if k = 6 then rwL (setU S) (rwS B n 8 15 false (n - a + 1) a [])
  else if k = 7 then rwL (setM S) (rwS B n 12 31 true (n - a + 1) a [])
  else if k = 8 then exL (setN S) (exR B n (n - a + 1) a x0)
  else exL (setG S) (exR B n (n - a + 1) a x0)
noncomputable def bdS (B : Nat → Nat) (n a : Nat) (S : lS) : pO (Nat × lS) :=
  if lwd (tW B n a) = 10 then .inl (1, a)
  else if lwd (tW B n a) < 4 then rtS B n a S (nI (lwd (tW B n a)))
  else if S.2.2 (lwd (tW B n a)) = true then .inl (5, a)
  else bdK B n (nx B n a) S (lwd (tW B n a))
def leS (B : Nat → Nat) (n : Nat) (r : pO (Nat × lS)) : pO (Nat × lS) := match r with
  | .inl e => .inl e
  | .inr z => if sg B n z.1 59 = true then .inr (nx B n z.1, z.2) else .inl (1, z.1)
noncomputable def twS (B : Nat → Nat) (n : Nat) : Nat → Nat → lS → pO lS
  | 0, a, _ => .inl (0, a)
  | f + 1, a, S => if tK B n a = 0 then .inr S else match leS B n (bdS B n a S) with
    | .inl e => .inl e
    | .inr z => twS B n f z.1 z.2
/-! the class's side -/
def cE (I : mIT) (q : Nat) (out : eSt) : Prop := ∃ es, cRu I q es ∧ enc es = enc out ∧ es.length = out.length
def cL (I : mIT) (p : Nat) (S : lS) : Prop := I p 3 = nI (pR S.1) ∧ I p 4 = nI (pN S.1) ∧ I p 5 = pL S.1 ∧ I p 6 = nI (pT S.1) ∧ I p 7 = tBits (pU S.1) (pT S.1) ∧ I p 8 = nI (pC S.1) ∧ (∀ r, r < pR S.1 → I (p + 1) r = pK S.1 r) ∧ (∀ j, j < pN S.1 → I (p + 2) j = pW S.1 j) ∧ (∀ j, j < pT S.1 → I (p + 3) j = pU S.1 j) ∧ cE I (p + 4) (pNo S.1) ∧ cE I (p + 10) (pGr S.1) ∧ rI S.1 I (p + 17) 0 S.2.1 ∧ (∀ k, 4 ≤ k → k ≤ 9 → bt (I 1 10) k = S.2.2 k) ∧ (S.2.2 8 = false → I (p + 4) 6 = 0) ∧ (S.2.2 9 = false → I (p + 10) 6 = 0)
/-- what the reading of a TEXT leaves as it was -/
def cFr (p : Nat) (I J : mIT) : Prop := (∀ j, j < 3 → J 1 j = I 1 j) ∧ ∀ c, c ≠ 1 → c < p ∨ p + 18 ≤ c → J c = I c
theorem cFr_r (p : Nat) (I : mIT) : cFr p I I := ⟨fun _ _ => rfl, fun _ _ _ => rfl⟩
theorem cFr_t {p : Nat} {I J K : mIT} (h1 : cFr p I J) (h2 : cFr p J K) : cFr p I K := ⟨fun j hj => by rw [h2.1 j hj, h1.1 j hj], fun c a b => by rw [h2.2 c a b, h1.2 c a b]⟩
theorem cFr_s {p : Nat} {I J K : mIT} (h1 : cFr p I J) (h2 : cTf J K) : cFr p I K := cFr_t h1 ⟨fun j hj => h2.1 j (Or.inl hj), fun c a _ => h2.2 c a⟩
theorem cFr_u {p j : Nat} {I J : mIT} {v : Int32} (h1 : cFr p I J) (hj : 3 ≤ j) : cFr p I (mU J 1 j v) := cFr_t h1 ⟨fun i hi => q_Uj (by omega), fun c a _ => mU_other a⟩
theorem cFr_p {p c j : Nat} {I J : mIT} {v : Int32} (h1 : cFr p I J) (hp : 3 ≤ p) (hc : p ≤ c ∧ c < p + 18) : cFr p I (mU J c j v) := cFr_t h1 ⟨fun i hi => by rw [mU_other (by omega)], fun d a b => mU_other (by omega)⟩
def cBo (I0 : mIT) (p : Nat) (B : Nat → Nat) (n : Nat) (r : pO (Nat × lS)) (y : Int32 × mIT) : Prop := cFr p I0 y.2 ∧ match r with
  | .inl e => y.1 = 0 ∧ y.2 1 9 = nI e.1 ∧ y.2 1 5 = nI e.2
  | .inr z => y.1 = 1 ∧ y.2 1 9 = I0 1 9 ∧ cTk y.2 B n z.1 ∧ cL y.2 p z.2
theorem cE_k {I J : mIT} {q : Nat} {out : eSt} (h : cE I q out) (h5 : J q 5 = I q 5) (h1 : J (q + 1) = I (q + 1)) (h2 : J (q + 2) = I (q + 2)) : cE J q out := by
  obtain ⟨es, ⟨a1, a2, a3, a4⟩, e1, e2⟩ := h
  exact ⟨es, ⟨by rw [h5]; exact a1, a2, by rw [h1, h2]; exact a3, a4⟩, e1, e2⟩
theorem cL_k {I J : mIT} {p : Nat} {S : lS} (hp : 3 ≤ p) (h : cL I p S) (f : ∀ c, p ≤ c → c < p + 18 → J c = I c) (f10 : J 1 10 = I 1 10) : cL J p S := by
  obtain ⟨h1, h2, h3, h4, h5, h6, h7, h8, h9, h10, h11, h12, h13, h14, h15⟩ := h
  have e0 := f p (by omega) (by omega)
  have e4 := f (p + 4) (by omega) (by omega)
  have e10 := f (p + 10) (by omega) (by omega)
  unfold cL rI
  rw [e0, f (p + 1) (by omega) (by omega), f (p + 2) (by omega) (by omega), f (p + 3) (by omega) (by omega), f (p + 17) (by omega) (by omega), f10, e4, e10]
  exact ⟨h1, h2, h3, h4, h5, h6, h7, h8, h9, cE_k h10 (by rw [e4]) (f _ (by omega) (by omega)) (f _ (by omega) (by omega)), cE_k h11 (by rw [e10]) (f _ (by omega) (by omega)) (f _ (by omega) (by omega)), h12, h13, h14, h15⟩
theorem cL_s {I J : mIT} {p : Nat} {S : lS} (hp : 3 ≤ p) (h : cL I p S) (f : cTf I J) : cL J p S := cL_k hp h (fun c a _ => f.2 c (by omega)) (f.1 10 (by omega))
theorem c_num {Fu : Nat} {I : mIT} {B : Nat → Nat} {n a lo hi : Nat} (ht : tpe B n) (h : cTk I B n a) (hlo : lo < 100000) (hhi : hi < 100000) : f_X6_checkNumber Fu I (nI lo) (nI hi) = some (if numS B n a lo hi = 0 then ((1 : Int32), I) else (0, mU I 1 9 (nI (numS B n a lo hi)))) := by
  have hK := tK_4 (B := B) (n := n) (a := a)
  obtain ⟨h1, h2, h3, h4, h5, h6, h7⟩ := h
  have hE := tE_le (B := B) h2
  have h700 := ht.1
  unfold f_X6_checkNumber f_X6_refuse
  rw [h4]
  by_cases c2 : tK B n a = 2
  · obtain ⟨g1, g2⟩ := h7 c2
    have hN := tN_lt (B := B) (n := n) (a := a) c2
    rw [c2, if_pos (show nI 2 = (2 : Int32) from rfl), g1, g2, show (4 : Int32) = nI 4 from rfl]
    have bad : ¬ (tE B n a - a ≤ 4 ∧ lo ≤ tN B n a ∧ tN B n a ≤ hi) → some ((0 : Int32), mU I 1 9 2) = some (if numS B n a lo hi = 0 then ((1 : Int32), I) else (0, mU I 1 9 (nI (numS B n a lo hi)))) := fun q => by
      have e : numS B n a lo hi = 2 := by unfold numS; rw [if_pos c2, if_neg q]
      rw [e, if_neg (by decide)]
      rfl
    by_cases c4 : tE B n a - a ≤ 4
    · rw [if_neg (show ¬ nI 4 < nI (tE B n a - a) by rw [q_lt (by omega) (by omega)]; omega)]
      by_cases cl : lo ≤ tN B n a
      · rw [if_neg (show ¬ nI (tN B n a) < nI lo by rw [q_lt (by omega) (by omega)]; omega)]
        by_cases ch : tN B n a ≤ hi
        · have e : numS B n a lo hi = 0 := by unfold numS; rw [if_pos c2, if_pos ⟨c4, cl, ch⟩]
          rw [if_pos (show nI (tN B n a) ≤ nI hi by rw [q_le (by omega) (by omega)]; exact ch), e, if_pos rfl]
        · rw [if_neg (show ¬ nI (tN B n a) ≤ nI hi by rw [q_le (by omega) (by omega)]; exact ch)]
          exact bad (fun q => ch q.2.2)
      · rw [if_pos (show nI (tN B n a) < nI lo by rw [q_lt (by omega) (by omega)]; omega)]
        exact bad (fun q => cl q.2.1)
    · rw [if_pos (show nI 4 < nI (tE B n a - a) by rw [q_lt (by omega) (by omega)]; omega)]
      exact bad (fun q => c4 q.1)
  · have e : numS B n a lo hi = 1 := by unfold numS; rw [if_neg c2]
    rw [if_neg (show ¬ nI (tK B n a) = 2 by rw [show (2 : Int32) = nI 2 from rfl, q_eq (by omega) (by omega)]; exact c2), e, if_neg (by decide)]
    rfl
