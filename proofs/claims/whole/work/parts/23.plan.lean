/-! what a TEXT tells: (roots, weather numbers, lasting, tune's notes, changes), kinds, weather, tune, the two rules -/
abbrev aPl : Type := (Nat × Nat × Int32 × Nat × Nat) × (Nat → Int32) × (Nat → Int32) × (Nat → Int32) × eSt × eSt
def pR (A : aPl) : Nat := A.1.1
def pN (A : aPl) : Nat := A.1.2.1
def pL (A : aPl) : Int32 := A.1.2.2.1
def pT (A : aPl) : Nat := A.1.2.2.2.1
def pC (A : aPl) : Nat := A.1.2.2.2.2
def pK (A : aPl) : Nat → Int32 := A.2.1
def pW (A : aPl) : Nat → Int32 := A.2.2.1
def pU (A : aPl) : Nat → Int32 := A.2.2.2.1
def pNo (A : aPl) : eSt := A.2.2.2.2.1
def pGr (A : aPl) : eSt := A.2.2.2.2.2
def okPl (A : aPl) : Prop := pR A ≤ 10 ∧ pN A ≤ 10 ∧ (1 ≤ pL A ∧ pL A ≤ 99) ∧ pT A ≤ 8 ∧ pC A ≤ 12 ∧ (∀ j, j < pN A → 0 ≤ pW A j ∧ pW A j ≤ 9) ∧ (∀ j, j < pT A → ∃ t, t < 16 ∧ pU A j = nI t) ∧ (pNo A).length ≤ 700 ∧ (pGr A).length ≤ 700 ∧ (pNo A = [] ∨ wfd (pNo A) 0) ∧ (pGr A = [] ∨ wfd (pGr A) 0)
/-- the tune as bits -/
def tBits (U : Nat → Int32) : Nat → Int32
  | 0 => 0
  | n + 1 => tBits U n ||| ((1 : Int32) <<< (U n &&& 31))
/-- the class's Plan at p -/
def cPl (I : mIT) (p : Nat) (A : aPl) : Prop := I p 3 = nI (pR A) ∧ I p 4 = nI (pN A) ∧ I p 5 = pL A ∧ I p 6 = nI (pT A) ∧ I p 7 = tBits (pU A) (pT A) ∧ I p 8 = nI (pC A) ∧ (∀ r, r < pR A → I (p + 1) r = pK A r) ∧ (∀ j, j < pN A → I (p + 2) j = pW A j) ∧ (∀ j, j < pT A → I (p + 3) j = pU A j) ∧ cRu I (p + 4) (pNo A) ∧ cRu I (p + 10) (pGr A)
theorem cRu_fr {I J : mIT} {q : Nat} {es : eSt} (h : cRu I q es) (h0 : J q = I q) (h1 : J (q + 1) = I (q + 1)) (h2 : J (q + 2) = I (q + 2)) : cRu J q es := by
  unfold cRu
  rw [h0, h1, h2]
  exact h
theorem cPl_fr {I J : mIT} {p : Nat} {A : aPl} (h : cPl I p A) (hc : ∀ c, p ≤ c → c < p + 16 → c ≠ p + 8 → c ≠ p + 9 → c ≠ p + 14 → c ≠ p + 15 → J c = I c) : cPl J p A := by
  obtain ⟨h1, h2, h3, h4, h5, h6, h7, h8, h9, h10, h11⟩ := h
  have e0 := hc p (by omega) (by omega) (by omega) (by omega) (by omega) (by omega)
  have e1 := hc (p + 1) (by omega) (by omega) (by omega) (by omega) (by omega) (by omega)
  have e2 := hc (p + 2) (by omega) (by omega) (by omega) (by omega) (by omega) (by omega)
  have e3 := hc (p + 3) (by omega) (by omega) (by omega) (by omega) (by omega) (by omega)
  unfold cPl
  rw [e0, e1, e2, e3]
  exact ⟨h1, h2, h3, h4, h5, h6, h7, h8, h9, cRu_fr h10 (hc _ (by omega) (by omega) (by omega) (by omega) (by omega) (by omega)) (hc _ (by omega) (by omega) (by omega) (by omega) (by omega) (by omega)) (hc _ (by omega) (by omega) (by omega) (by omega) (by omega) (by omega)), cRu_fr h11 (hc _ (by omega) (by omega) (by omega) (by omega) (by omega) (by omega)) (hc _ (by omega) (by omega) (by omega) (by omega) (by omega) (by omega)) (hc _ (by omega) (by omega) (by omega) (by omega) (by omega) (by omega))⟩
/-! what the rows say -/
def sWe (A : aPl) (d : Nat) : Int32 := if pN A = 0 then 4 else pW A (d % pN A)
def sCl (v m : Int32) : Int32 := if v < 0 then 0 else if m < v then m else v
def sV (A : aPl) (row : Nat → Int32) (r : Nat) (more w : Int32) : Nat → Int32 := fun m => [row (1 + r), row (11 + r) + more, pK A r, row (21 + r), w, row 0, if row (31 + r) < 0 then 0 else 1].getD m 0
def sNo (A : aPl) (row : Nat → Int32) (d r : Nat) (more : Int32) : Int32 := if pNo A = [] then (if (0 : Int32) < 15 - (row (1 + r) - row (11 + r) - more) / 2 then 15 - (row (1 + r) - row (11 + r) - more) / 2 else 0) else sCl (sEv (sV A row r more (sWe A d)) (pNo A)) 15
def sGr (A : aPl) (row : Nat → Int32) (r : Nat) (w : Int32) : Int32 := if pGr A = [] then (if 5 ≤ w then 0 else 1) else sCl (sEv (sV A row r 0 w) (pGr A)) 9
theorem sWe_b {A : aPl} (h : okPl A) (d : Nat) : 0 ≤ sWe A d ∧ sWe A d ≤ 9 := by
  unfold sWe
  split
  · decide
  · rename_i hn
    exact h.2.2.2.2.2.1 _ (Nat.mod_lt _ (by omega))
theorem c_weather {Fu : Nat} {I : mIT} {p d : Nat} {A : aPl} (h : cPl I p A) (ho : okPl A) (hd : d < 2000) : f_X5_weatherOn Fu I p (nI d) = some (sWe A d) := by
  obtain ⟨-, h2, -, -, -, -, -, h8, -⟩ := h
  obtain ⟨-, o2, -⟩ := ho
  unfold f_X5_weatherOn sWe
  rw [h2]
  by_cases hn : pN A = 0
  · rw [hn, if_pos (by decide), if_pos rfl]
  · rw [if_neg (by rw [show (0 : Int32) = nI 0 from rfl, q_le (by omega) (by omega)]; omega), if_neg hn, if_pos (by rw [q_0le (by omega)]; trivial), pk_rem (by omega) (by omega) (by omega)]
    have hm : d % pN A < pN A := Nat.mod_lt _ (by omega)
    have hne : (nI (pN A) != 0) = true := by
      rw [bne_iff_ne]
      intro e
      rw [show (0 : Int32) = nI 0 from rfl, q_eq (by omega) (by omega)] at e
      exact hn e
    rw [q_G hne, if_neg (by rw [q_le (by omega) (by omega)]; omega), q_G (q_in (by omega) (by omega)), q_cl (by omega), h8 _ hm]
theorem c_told {Fu : Nat} {I : mIT} {q : Nat} {es : eSt} (h : cRu I q es) : f_X8_isTold Fu I q = some (if es = [] then 0 else 1) := by
  unfold f_X8_isTold
  rw [h.1]
  have hl := h.2.1
  by_cases he : es = []
  · subst he; rfl
  · have : 0 < es.length := List.length_pos_iff.mpr he
    rw [if_neg (by rw [show (0 : Int32) = nI 0 from rfl, q_le (by omega) (by omega)]; omega), if_neg he]
theorem c_noteOf {Fu : Nat} {I : mIT} {k p d r : Nat} {A : aPl} {row : Nat → Int32} {more : Int32} (hF : 701 < Fu) (h : cPl I p A) (ho : okPl A) (hr : ∀ j, j < 53 → I (k + 1) j = row j) (hd : row 0 = nI d) (hd2 : d < 2000) (hrr : r < pR A) :
    ∃ I', f_X9_noteOf Fu I k p (nI r) more = some (sNo A row d r more, I') ∧ ∀ c, c ≠ p + 8 → c ≠ p + 9 → I' c = I c := by
  have hr10 : r < 10 := by have := ho.1; omega
  have hru := h.2.2.2.2.2.2.2.2.2.1
  unfold f_X9_noteOf sNo
  rw [c_told hru, q_B]
  by_cases he : pNo A = []
  · rw [if_pos he, if_pos he, if_pos rfl, c_size hr10, q_B, c_hollow hr10, q_B, hr _ (by omega), hr _ (by omega)]
    exact ⟨I, rfl, fun _ _ _ => rfl⟩
  · rw [if_neg he, if_neg he, if_neg (by decide), c_day, q_B, hr 0 (by omega), hd, c_weather h ho hd2, q_B, c_size hr10, q_B, c_hollow hr10, q_B, c_kind hr10, q_B, c_soft hr10, q_B, q_B, c_place hr10, q_B, hr _ (by omega), hr _ (by omega), hr _ (by omega), hr _ (by omega), h.2.2.2.2.2.2.1 r hrr]
    have fin : ∀ hg : Int32, hg = (if row (31 + r) < 0 then 0 else 1) → ∃ I', (oB (f_X8_worth Fu I (p + 4) (row (1 + r)) (row (11 + r) + more) (pK A r) (row (21 + r)) (sWe A d) (nI d) hg) fun r67 => oB (f_X11_within Fu r67.1 15) fun r76 => some (r76, r67.2)) = some (sCl (sEv (sV A row r more (sWe A d)) (pNo A)) 15, I') ∧ ∀ c, c ≠ p + 8 → c ≠ p + 9 → I' c = I c := by
      intro hg hh
      obtain ⟨I', g1, g2⟩ := c_worth hru he hF (row (1 + r)) (row (11 + r) + more) (pK A r) (row (21 + r)) (sWe A d) (nI d) hg
      refine ⟨I', ?_, fun c c8 c9 => g2 c c8 c9⟩
      rw [g1, q_B, c_within (by decide), q_B, hh, ← hd]
      rfl
    by_cases hp : row (31 + r) < 0
    · rw [if_pos hp]
      exact fin 0 (by rw [if_pos hp])
    · rw [if_neg hp]
      exact fin 1 (by rw [if_neg hp])
theorem c_growthOf {Fu : Nat} {I : mIT} {k p r : Nat} {A : aPl} {row : Nat → Int32} {w : Int32} (hF : 701 < Fu) (h : cPl I p A) (ho : okPl A) (hr : ∀ j, j < 53 → I (k + 1) j = row j) (hrr : r < pR A) :
    ∃ I', f_X9_growthOf Fu I k p (nI r) w = some (sGr A row r w, I') ∧ ∀ c, c ≠ p + 14 → c ≠ p + 15 → I' c = I c := by
  have hr10 : r < 10 := by have := ho.1; omega
  have hru := h.2.2.2.2.2.2.2.2.2.2
  unfold f_X9_growthOf sGr
  rw [c_told hru, q_B]
  by_cases he : pGr A = []
  · rw [if_pos he, if_pos he, if_pos rfl]
    by_cases hw : 5 ≤ w
    · rw [if_pos hw, if_pos hw]; exact ⟨I, rfl, fun _ _ _ => rfl⟩
    · rw [if_neg hw, if_neg hw]; exact ⟨I, rfl, fun _ _ _ => rfl⟩
  · rw [if_neg he, if_neg he, if_neg (by decide), c_size hr10, q_B, c_hollow hr10, q_B, c_kind hr10, q_B, c_soft hr10, q_B, c_day, q_B, c_place hr10, q_B, hr _ (by omega), hr _ (by omega), hr _ (by omega), hr _ (by omega), hr _ (by omega), h.2.2.2.2.2.2.1 r hrr]
    have fin : ∀ hg : Int32, hg = (if row (31 + r) < 0 then 0 else 1) → ∃ I', (oB (f_X8_worth Fu I (p + 10) (row (1 + r)) (row (11 + r)) (pK A r) (row (21 + r)) w (row 0) hg) fun r54 => oB (f_X11_within Fu r54.1 9) fun r63 => some (r63, r54.2)) = some (sCl (sEv (sV A row r 0 w) (pGr A)) 9, I') ∧ ∀ c, c ≠ p + 14 → c ≠ p + 15 → I' c = I c := by
      intro hg hh
      obtain ⟨I', g1, g2⟩ := c_worth hru he hF (row (1 + r)) (row (11 + r)) (pK A r) (row (21 + r)) w (row 0) hg
      refine ⟨I', ?_, fun c c8 c9 => g2 c c8 c9⟩
      rw [g1, q_B, c_within (by decide), q_B, hh]
      unfold sV sCl
      rw [Int32.add_zero]
    by_cases hp : row (31 + r) < 0
    · rw [if_pos hp]
      exact fin 0 (by rw [if_pos hp])
    · rw [if_neg hp]
      exact fin 1 (by rw [if_neg hp])
