/-- the row behind a DAY with weather w, the roots below i done -/
def sDy (A : aPl) (w : Int32) (row : Nat → Int32) (i : Nat) : Nat → Int32 := fun j =>
  if 1 ≤ j ∧ j < 1 + i ∧ j < 11 ∧ row (30 + j) = -1 then (if (60 : Int32) < row j + sGr A row (j - 1) w then 60 else row j + sGr A row (j - 1) w)
  else if 21 ≤ j ∧ j < 21 + i ∧ j < 31 ∧ 0 ≤ row (10 + j) then (if (99 : Int32) < row j + (1 + w / 2) then 99 else row j + (1 + w / 2))
  else row j
def sDay (A : aPl) (w : Int32) (row : Nat → Int32) : Nat → Int32 := fun j => if j = 0 then row 0 + 1 else sDy A w row (pR A) j
theorem sDy_0 (A : aPl) (w : Int32) (row : Nat → Int32) : sDy A w row 0 = row := by
  funext j
  unfold sDy
  rw [if_neg (by omega), if_neg (by omega)]
theorem sGr_c {A : aPl} {row row' : Nat → Int32} {r : Nat} {w : Int32} (h0 : row' 0 = row 0) (h1 : row' (1 + r) = row (1 + r)) (h2 : row' (11 + r) = row (11 + r)) (h3 : row' (21 + r) = row (21 + r)) (h4 : row' (31 + r) = row (31 + r)) : sGr A row' r w = sGr A row r w := by
  unfold sGr sV
  rw [h0, h1, h2, h3, h4]
theorem sNo_c {A : aPl} {row row' : Nat → Int32} {d r : Nat} {more : Int32} (h0 : row' 0 = row 0) (h1 : row' (1 + r) = row (1 + r)) (h2 : row' (11 + r) = row (11 + r)) (h3 : row' (21 + r) = row (21 + r)) (h4 : row' (31 + r) = row (31 + r)) : sNo A row' d r more = sNo A row d r more := by
  unfold sNo sV
  rw [h0, h1, h2, h3, h4]
theorem sDy_lo {A : aPl} {w : Int32} {row : Nat → Int32} {i j : Nat} (h : ¬ (1 ≤ j ∧ j < 1 + i ∧ j < 11)) (h2 : ¬ (21 ≤ j ∧ j < 21 + i ∧ j < 31)) : sDy A w row i j = row j := by
  unfold sDy
  rw [if_neg (fun q => h ⟨q.1, q.2.1, q.2.2.1⟩), if_neg (fun q => h2 ⟨q.1, q.2.1, q.2.2.1⟩)]
/-- one root more -/
theorem sDy_s {A : aPl} {w : Int32} {row : Nat → Int32} {i : Nat} (hi : i < 10) : sDy A w row (i + 1) = fun j =>
    if j = 1 + i then (if row (31 + i) = -1 then (if (60 : Int32) < row (1 + i) + sGr A row i w then 60 else row (1 + i) + sGr A row i w) else row (1 + i))
    else if j = 21 + i then (if 0 ≤ row (31 + i) then (if (99 : Int32) < row (21 + i) + (1 + w / 2) then 99 else row (21 + i) + (1 + w / 2)) else row (21 + i))
    else sDy A w row i j := by
  funext j
  by_cases h1 : j = 1 + i
  · subst h1
    rw [if_pos rfl]
    unfold sDy
    rw [show 30 + (1 + i) = 31 + i by omega, show 1 + i - 1 = i by omega]
    by_cases hp : row (31 + i) = -1
    · rw [if_pos ⟨by omega, by omega, by omega, hp⟩, if_pos hp]
    · rw [if_neg (fun q => hp q.2.2.2), if_neg (by omega), if_neg hp]
  · rw [if_neg h1]
    by_cases h2 : j = 21 + i
    · subst h2
      rw [if_pos rfl]
      unfold sDy
      rw [show 10 + (21 + i) = 31 + i by omega]
      rw [if_neg (by omega)]
      by_cases hp : 0 ≤ row (31 + i)
      · rw [if_pos ⟨by omega, by omega, by omega, hp⟩, if_pos hp]
      · rw [if_neg (fun q => hp q.2.2.2), if_neg hp]
    · rw [if_neg h2]
      unfold sDy
      have e1 : (1 ≤ j ∧ j < 1 + (i + 1) ∧ j < 11 ∧ row (30 + j) = -1) = (1 ≤ j ∧ j < 1 + i ∧ j < 11 ∧ row (30 + j) = -1) := propext ⟨fun q => ⟨q.1, by omega, q.2.2⟩, fun q => ⟨q.1, by omega, q.2.2⟩⟩
      have e2 : (21 ≤ j ∧ j < 21 + (i + 1) ∧ j < 31 ∧ 0 ≤ row (10 + j)) = (21 ≤ j ∧ j < 21 + i ∧ j < 31 ∧ 0 ≤ row (10 + j)) := propext ⟨fun q => ⟨q.1, by omega, q.2.2⟩, fun q => ⟨q.1, by omega, q.2.2⟩⟩
      simp only [e1, e2]
theorem c_passDay {Fu : Nat} {I : mIT} {k p : Nat} {A : aPl} {row : Nat → Int32} {w : Int32} (hF : 701 < Fu) (h : cPl I p A) (ho : okPl A) (hr : ∀ j, j < 53 → I (k + 1) j = row j) (hk : k + 1 < p ∨ p + 16 ≤ k + 1) :
    ∃ I', f_X9_passDay Fu I k p w = some I' ∧ (∀ j, j < 53 → I' (k + 1) j = sDay A w row j) ∧ ∀ c, c ≠ k + 1 → c ≠ p + 14 → c ≠ p + 15 → I' c = I c := by
  have h10 := ho.1
  have key : ∃ y : mIT, ((∀ j, j < 53 → y (k + 1) j = sDay A w row j) ∧ ∀ c, c ≠ k + 1 → c ≠ p + 14 → c ≠ p + 15 → y c = I c) ∧ w_X9_passDay_2 Fu k p Fu w 0 I = some y := by
    unfold w_X9_passDay_2
    refine q_loop (fun dd (s : Int32 × Int32 × mIT) => ∃ i, dd = pR A - i ∧ i ≤ pR A ∧ s.1 = w ∧ s.2.1 = nI i ∧ (∀ j, j < 53 → s.2.2 (k + 1) j = sDy A w row i j) ∧ ∀ c, c ≠ k + 1 → c ≠ p + 14 → c ≠ p + 15 → s.2.2 c = I c) _ ?_ Fu (pR A) (w, 0, I) ⟨0, rfl, by omega, rfl, rfl, fun j hj => by rw [sDy_0]; exact hr j hj, fun _ _ _ _ => rfl⟩ (by omega)
    rintro dd ⟨v2, v3, J⟩ ⟨i, hd, hi, h1, h2, hrow, hfr⟩
    dsimp only at h1 h2 hrow hfr ⊢
    subst h1 h2
    have hJ : cPl J p A := cPl_fr h (fun c c1 c2 _ _ c5 c6 => hfr c (by omega) c5 c6)
    have hJ3 : J p 3 = nI (pR A) := hJ.1
    by_cases hlt : pR A ≤ i
    · right
      have hie : i = pR A := by omega
      refine ⟨mU J (k + 1) 0 (row 0 + 1), ⟨fun j hj => ?_, fun c c1 c2 c3 => by rw [← hfr c c1 c2 c3]; exact mU_other c1⟩, fun self => ?_⟩
      · unfold sDay
        by_cases hj0 : j = 0
        · subst hj0; rw [q_U, if_pos rfl]
        · rw [q_Uj hj0, if_neg hj0, hrow j hj, hie]
      · unfold b_X9_passDay_2
        rw [hJ3, if_pos (by rw [q_le (by omega) (by omega)]; exact hlt), c_day, q_B, hrow 0 (by omega), sDy_lo (by omega) (by omega), show (0 : Int32) = nI 0 from rfl, c_set (by omega), q_B]
    · left
      have hi10 : i < 10 := by omega
      have hsz : J (k + 1) (1 + i) = row (1 + i) := by rw [hrow _ (by omega), sDy_lo (by omega) (by omega)]
      have hso : J (k + 1) (21 + i) = row (21 + i) := by rw [hrow _ (by omega), sDy_lo (by omega) (by omega)]
      have hpl : J (k + 1) (31 + i) = row (31 + i) := by rw [hrow _ (by omega), sDy_lo (by omega) (by omega)]
      by_cases hp : row (31 + i) = -1
      · obtain ⟨J', g1, g2⟩ := c_growthOf (w := v2) hF hJ ho hrow (by omega : i < pR A)
        have hgr : sGr A (sDy A v2 row i) i v2 = sGr A row i v2 := sGr_c (sDy_lo (by omega) (by omega)) (sDy_lo (by omega) (by omega)) (sDy_lo (by omega) (by omega)) (sDy_lo (by omega) (by omega)) (sDy_lo (by omega) (by omega))
        rw [hgr] at g1
        refine ⟨pR A - (i + 1), (v2, nI (i + 1), mU J' (k + 1) (1 + i) (if (60 : Int32) < row (1 + i) + sGr A row i v2 then 60 else row (1 + i) + sGr A row i v2)), by omega, ⟨i + 1, rfl, by omega, rfl, rfl, fun j hj => ?_, fun c c1 c2 c3 => ?_⟩, fun self => ?_⟩
        · rw [sDy_s hi10]
          dsimp only
          by_cases e1 : j = 1 + i
          · subst e1; rw [q_U, if_pos rfl, if_pos hp]
          · rw [q_Uj e1, if_neg e1, g2 _ (by omega) (by omega), hrow j hj]
            by_cases e2 : j = 21 + i
            · subst e2; rw [if_pos rfl, if_neg (by rw [hp]; decide), sDy_lo (by omega) (by omega)]
            · rw [if_neg e2]
        · dsimp only; rw [mU_other c1, g2 c c2 c3]; exact hfr c c1 c2 c3
        · unfold b_X9_passDay_2
          rw [hJ3, if_neg (by rw [q_le (by omega) (by omega)]; exact hlt), c_place hi10, q_B, hpl, if_pos hp, c_size hi10, q_B, hsz, g1, q_B, show (1 : Int32) = nI 1 from rfl, c_set (by omega), q_B, nI_add]
      · by_cases hp2 : row (31 + i) < 0
        · refine ⟨pR A - (i + 1), (v2, nI (i + 1), J), by omega, ⟨i + 1, rfl, by omega, rfl, rfl, fun j hj => ?_, hfr⟩, fun self => ?_⟩
          · rw [sDy_s hi10]
            dsimp only
            by_cases e1 : j = 1 + i
            · subst e1; rw [if_pos rfl, if_neg hp, hsz]
            · rw [if_neg e1]
              by_cases e2 : j = 21 + i
              · subst e2; rw [if_pos rfl, if_neg (by grind), hso]
              · rw [if_neg e2, hrow j hj]
          · unfold b_X9_passDay_2
            rw [hJ3, if_neg (by rw [q_le (by omega) (by omega)]; exact hlt), c_place hi10, q_B, hpl, if_neg hp, if_pos hp2, q_1]
        · refine ⟨pR A - (i + 1), (v2, nI (i + 1), mU J (k + 1) (21 + i) (if (99 : Int32) < row (21 + i) + (1 + v2 / 2) then 99 else row (21 + i) + (1 + v2 / 2))), by omega, ⟨i + 1, rfl, by omega, rfl, rfl, fun j hj => ?_, fun c c1 c2 c3 => ?_⟩, fun self => ?_⟩
          · rw [sDy_s hi10]
            dsimp only
            by_cases e1 : j = 1 + i
            · subst e1; rw [if_pos rfl, if_neg hp, q_Uj (by omega), hsz]
            · rw [if_neg e1]
              by_cases e2 : j = 21 + i
              · subst e2; rw [if_pos rfl, if_pos (Int32.not_lt.mp hp2), q_U]
              · rw [if_neg e2, q_Uj e2, hrow j hj]
          · dsimp only; rw [mU_other c1]; exact hfr c c1 c2 c3
          · unfold b_X9_passDay_2
            rw [hJ3, if_neg (by rw [q_le (by omega) (by omega)]; exact hlt), c_place hi10, q_B, hpl, if_neg hp, if_neg hp2, c_soften hi10, q_B, hso, q_1]
  obtain ⟨y, ⟨g1, g2⟩, g3⟩ := key
  exact ⟨y, g3, g1, g2⟩
