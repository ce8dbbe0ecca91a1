/-! the EXPR as a row of steps: (step, operand), steps as the class numbers them -/
abbrev eSt : Type := List (Int32 × Int32)
def jn (s a b : Int32) : Int32 := if s = 10 then (if a = 0 then (if b = 0 then 0 else 1) else 1) else if s = 20 then (if a = 0 then 0 else if b = 0 then 0 else 1) else if s = 40 then (if b ≤ a then 0 else 1) else if s = 41 then (if a = b then 1 else 0) else if s = 50 then a + b else if s = 51 then a - b else if s = 60 then a * b else if b = 0 then 0 else a / b
def isOp (s : Int32) : Prop := s = 10 ∨ s = 20 ∨ s = 40 ∨ s = 41 ∨ s = 50 ∨ s = 51 ∨ s = 60 ∨ s = 61
def evs (vals : Nat → Int32) (s o : Int32) (st : List Int32) : List Int32 :=
  if s = 1 then o :: st else if s = 2 then vals o.toNatClampNeg :: st else if s = 30 then (match st with
    | a :: t => (if a = 0 then 1 else 0) :: t
    | [] => []) else (match st with
    | b :: a :: t => jn s a b :: t
    | _ => [])
def ev (vals : Nat → Int32) : eSt → List Int32 → List Int32
  | [], st => st
  | e :: es, st => ev vals es (evs vals e.1 e.2 st)
/-- it never wants an operand that isn't there, nor more than forty at once; one is left -/
def wfd : eSt → Nat → Prop
  | [], d => d = 1
  | e :: es, d => (e.1 = 1 ∧ d < 40 ∧ wfd es (d + 1)) ∨ (e.1 = 2 ∧ d < 40 ∧ (∃ m, m < 7 ∧ e.2 = nI m) ∧ wfd es (d + 1)) ∨ (e.1 = 30 ∧ 1 ≤ d ∧ wfd es d) ∨ (isOp e.1 ∧ 2 ≤ d ∧ wfd es (d - 1))
def sEv (vals : Nat → Int32) (es : eSt) : Int32 := (ev vals es []).headD 0
def cRu (I : mIT) (q : Nat) (es : eSt) : Prop := I q 5 = nI es.length ∧ es.length ≤ 700 ∧ (∀ i, i < es.length → I (q + 1) i = (es.getD i (0, 0)).1 ∧ I (q + 2) i = (es.getD i (0, 0)).2) ∧ (es = [] ∨ wfd es 0)
theorem c_joined {Fu : Nat} {s a b : Int32} (h : isOp s) : f_X8_joined Fu s a b = some (jn s a b) := by
  unfold f_X8_joined jn oG
  rcases h with rfl | rfl | rfl | rfl | rfl | rfl | rfl | rfl <;> grind
theorem c_opN {Fu : Nat} {I : mIT} {q i : Nat} (h : i < 700) (hs : I (q + 1) i = 1) : f_X8_operandAt Fu I q (nI i) = some (I (q + 2) i) := by
  unfold f_X8_operandAt
  simp (disch := omega) only [q_lt0, q_le, q_lt, if_false, q_cl]
  rw [if_neg (by omega), if_pos (by omega), q_G (q_in (by omega) (by omega)), q_G (q_in (by omega) (by omega)), if_pos hs]
theorem c_opV {Fu : Nat} {I : mIT} {q i m : Nat} (h : i < 700) (hs : I (q + 1) i = 2) (hm : m < 7) (ho : I (q + 2) i = nI m) : f_X8_operandAt Fu I q (nI i) = some (I (q + 4) m) := by
  unfold f_X8_operandAt
  simp (disch := omega) only [q_lt0, q_le, q_lt, if_false, q_cl]
  rw [if_neg (by omega), if_pos (by omega), q_G (q_in (by omega) (by omega)), q_G (q_in (by omega) (by omega)), if_neg (by rw [hs]; decide), ho]
  simp (disch := omega) only [q_lt0, q_le, q_lt, if_false, q_cl]
  rw [if_neg (by omega), q_G (q_in (by omega) (by omega))]
/-- a stack in a table, its top last -/
def sTk (I : mIT) (c : Nat) (st : List Int32) : Prop := ∀ j, j < st.length → I c j = st.getD (st.length - 1 - j) 0
theorem sTk_push {I : mIT} {c : Nat} {st : List Int32} (h : sTk I c st) (x : Int32) : sTk (mU I c st.length x) c (x :: st) := by
  intro j hj
  by_cases e : j = st.length
  · subst e
    rw [q_U]
    simp
  · have hj' : j < st.length := by simp at hj; omega
    rw [q_Uj e, h j hj']
    have : (x :: st).length - 1 - j = (st.length - 1 - j) + 1 := by simp; omega
    rw [this]
    rfl
theorem sTk_top {I : mIT} {c : Nat} {a : Int32} {st : List Int32} (h : sTk I c (a :: st)) : I c st.length = a := by
  have := h st.length (by simp)
  rw [this]
  simp
theorem sTk_pop {I : mIT} {c : Nat} {a : Int32} {st : List Int32} (h : sTk I c (a :: st)) : sTk I c st := by
  intro j hj
  rw [h j (by simp; omega)]
  have : (a :: st).length - 1 - j = (st.length - 1 - j) + 1 := by simp; omega
  rw [this]
  rfl
theorem sTk_c {I I' : mIT} {c : Nat} {st : List Int32} (h : sTk I c st) (e : I' c = I c) : sTk I' c st := fun j hj => by rw [e]; exact h j hj
set_option maxHeartbeats 1000000 in
theorem c_worthL {Fu : Nat} {I0 : mIT} {q : Nat} {es : eSt} {vals : Nat → Int32} (hm : I0 q 5 = nI es.length) (hL : es.length ≤ 700) (hes : ∀ i, i < es.length → I0 (q + 1) i = (es.getD i (0, 0)).1 ∧ I0 (q + 2) i = (es.getD i (0, 0)).2) (hv : ∀ m, m < 7 → I0 (q + 4) m = vals m) (hw : wfd es 0) (hF : 701 < Fu) :
    ∃ y : Int32 × mIT, (y.1 = sEv vals es ∧ ∀ c, c ≠ q + 5 → y.2 c = I0 c) ∧ w_X8_worth_60 Fu q Fu 0 0 I0 = some y := by
  unfold w_X8_worth_60
  refine q_loop (fun d (s : Int32 × Int32 × mIT) => ∃ (pre rest : eSt) (st : List Int32), es = pre ++ rest ∧ d = rest.length ∧ s.1 = nI st.length ∧ s.2.1 = nI pre.length ∧ wfd rest st.length ∧ (ev vals rest st).headD 0 = sEv vals es ∧ sTk s.2.2 (q + 5) st ∧ (∀ c, c ≠ q + 5 → s.2.2 c = I0 c) ∧ st.length ≤ 40) (fun y : Int32 × mIT => y.1 = sEv vals es ∧ ∀ c, c ≠ q + 5 → y.2 c = I0 c) ?_ Fu es.length (0, 0, I0) ⟨[], es, [], rfl, rfl, rfl, rfl, hw, rfl, (fun j hj => by simp at hj), (fun _ _ => rfl), by simp⟩ (by omega)
  rintro d ⟨v8, v9, J⟩ ⟨pre, rest, st, he, hd, h1, h2, hwf, hev, hst, hfr, h40⟩
  dsimp only at h1 h2 hst hfr ⊢
  subst h1 h2
  have hJ5 : J q 5 = nI es.length := by rw [hfr q (by omega)]; exact hm
  have hlen : es.length = pre.length + rest.length := by rw [he, List.length_append]
  cases rest with
  | nil =>
    right
    have hs1 : st.length = 1 := hwf
    obtain ⟨x, rfl⟩ := List.length_eq_one_iff.mp hs1
    refine ⟨(x, J), ⟨hev, hfr⟩, fun self => ?_⟩
    have hx := sTk_top hst
    unfold b_X8_worth_60
    have hl0 : es.length = pre.length := by simp at hlen; exact hlen
    rw [hJ5, if_pos (by rw [q_le (by omega) (by omega)]; omega), q_G (show inB (0 : Int32) 40 = true by decide)]
    show some (J (q + 5) 0, J) = _
    rw [show J (q + 5) 0 = x from hx]
  | cons e rest =>
    have hi : pre.length < es.length := by rw [hlen]; simp
    have hge : es.getD pre.length (0, 0) = e := by rw [he]; simp
    have hsJ : J (q + 1) pre.length = e.1 := by rw [hfr (q + 1) (by omega), (hes _ hi).1, hge]
    have hoJ : J (q + 2) pre.length = e.2 := by rw [hfr (q + 2) (by omega), (hes _ hi).2, hge]
    have hvJ : ∀ m, m < 7 → J (q + 4) m = vals m := fun m hm => by rw [hfr (q + 4) (by omega)]; exact hv m hm
    left
    have he' : es = (pre ++ [e]) ++ rest := by rw [he]; simp
    have hpl : (pre ++ [e]).length = pre.length + 1 := by simp
    have base : ∀ self, b_X8_worth_60 Fu q self (nI st.length) (nI pre.length) J = (if e.1 = 1 then b_X8_worth_100 Fu q self (nI st.length) (nI pre.length) J else if e.1 = 2 then b_X8_worth_100 Fu q self (nI st.length) (nI pre.length) J else if e.1 = 30 then (if nI st.length < 1 then self (nI st.length, nI pre.length + 1, J) else if nI 40 < nI st.length then self (nI st.length, nI pre.length + 1, J) else oG (inB (nI st.length - 1) 40) (if J (q + 5) (nI st.length - 1).toNatClampNeg = 0 then oG (inB (nI st.length - 1) 40) (self (nI st.length, nI pre.length + 1, mU J (q + 5) (nI st.length - 1).toNatClampNeg 1)) else oG (inB (nI st.length - 1) 40) (self (nI st.length, nI pre.length + 1, mU J (q + 5) (nI st.length - 1).toNatClampNeg 0)))) else (if nI st.length < 2 then self (nI st.length, nI pre.length + 1, J) else if nI 40 < nI st.length then self (nI st.length, nI pre.length + 1, J) else oG (inB (nI st.length + -1 - 1) 40) (oG (inB (nI st.length + -1) 40) (oB (f_X8_joined Fu e.1 (J (q + 5) (nI st.length + -1 - 1).toNatClampNeg) (J (q + 5) (nI st.length + -1).toNatClampNeg)) fun r => oG (inB (nI st.length + -1 - 1) 40) (self (nI st.length + -1, nI pre.length + 1, mU J (q + 5) (nI st.length + -1 - 1).toNatClampNeg r)))))) := by
      intro self
      unfold b_X8_worth_60
      rw [hJ5, if_neg (by rw [q_le (by omega) (by omega)]; omega), if_neg (by rw [q_le (by omega) (by omega)]; omega), q_G (q_in (by omega) (by omega)), q_cl (by omega), hsJ]
    rcases hwf with ⟨h1, h2, h3⟩ | ⟨h1, h2, ⟨m, hm7, hm2⟩, h3⟩ | ⟨h1, h2, h3⟩ | ⟨h1, h2, h3⟩
    · refine ⟨rest.length, (nI (st.length + 1), nI (pre.length + 1), mU J (q + 5) st.length e.2), by rw [hd]; simp, ⟨pre ++ [e], rest, e.2 :: st, he', rfl, rfl, by rw [hpl], h3, ?_, sTk_push hst _, fun c hc => by rw [← hfr c hc]; exact mU_other hc, by simp; omega⟩, fun self => ?_⟩
      · rw [← hev]; simp only [ev, evs, h1, if_pos]
      · rw [base, if_pos h1]
        unfold b_X8_worth_100
        rw [if_neg (by rw [q_lt0 (by omega)]; simp), if_neg (by rw [q_le (by omega) (by omega)]; omega), c_opN (by omega) (by rw [hsJ, h1]), q_B, q_G (q_in (by omega) (by omega)), q_1, q_1, q_cl (by omega), hoJ]
    · refine ⟨rest.length, (nI (st.length + 1), nI (pre.length + 1), mU J (q + 5) st.length (vals m)), by rw [hd]; simp, ⟨pre ++ [e], rest, vals m :: st, he', rfl, rfl, by rw [hpl], h3, ?_, sTk_push hst _, fun c hc => by rw [← hfr c hc]; exact mU_other hc, by simp; omega⟩, fun self => ?_⟩
      · rw [← hev]; simp only [ev, evs, h1, hm2]; rw [if_neg (by decide), if_pos trivial, q_cl (by omega)]
      · rw [base, if_neg (by rw [h1]; decide), if_pos h1]
        unfold b_X8_worth_100
        rw [if_neg (by rw [q_lt0 (by omega)]; simp), if_neg (by rw [q_le (by omega) (by omega)]; omega), c_opV (m := m) (by omega) (by rw [hsJ, h1]) hm7 (by rw [hoJ, hm2]), q_B, q_G (q_in (by omega) (by omega)), q_1, q_1, q_cl (by omega), hvJ m hm7]
    · obtain ⟨a, st, rfl⟩ : ∃ a t, st = a :: t := by
        cases st with
        | nil => simp at h2
        | cons a t => exact ⟨a, t, rfl⟩
      have ht := sTk_top hst
      have hlt : (a :: st).length = st.length + 1 := rfl
      refine ⟨rest.length, (nI (st.length + 1), nI (pre.length + 1), mU J (q + 5) st.length (if a = 0 then 1 else 0)), by rw [hd]; simp, ⟨pre ++ [e], rest, (if a = 0 then 1 else 0) :: st, he', rfl, rfl, by rw [hpl], h3, ?_, sTk_push (sTk_pop hst) _, fun c hc => by rw [← hfr c hc]; exact mU_other hc, h40⟩, fun self => ?_⟩
      · rw [← hev]; show _ = (ev vals rest (evs vals e.1 e.2 (a :: st))).headD 0; unfold evs; rw [h1, if_neg (by decide : ¬ (30 : Int32) = 1), if_neg (by decide : ¬ (30 : Int32) = 2), if_pos rfl]
      · rw [base, if_neg (by rw [h1]; decide), if_neg (by rw [h1]; decide), if_pos h1, hlt]
        rw [hlt] at h40
        rw [if_neg (by rw [show (1 : Int32) = nI 1 from rfl, q_lt (by omega) (by omega)]; omega), if_neg (by rw [q_lt (by omega) (by omega)]; omega), q_m1 (by omega), Nat.add_sub_cancel, q_G (q_in (by omega) (by omega)), q_cl (by omega), ht, q_1]
        by_cases ha : a = 0
        · rw [if_pos ha, if_pos ha, q_G (q_in (by omega) (by omega))]
        · rw [if_neg ha, if_neg ha, q_G (q_in (by omega) (by omega))]
    · obtain ⟨b, a, st, rfl⟩ : ∃ b a t, st = b :: a :: t := by
        match st, h2 with
        | b :: a :: t, _ => exact ⟨b, a, t, rfl⟩
      have ht := sTk_top hst
      have ht2 := sTk_top (sTk_pop hst)
      have hlt : (b :: a :: st).length = st.length + 2 := rfl
      have hne : e.1 ≠ 1 ∧ e.1 ≠ 2 ∧ e.1 ≠ 30 := by rcases h1 with h | h | h | h | h | h | h | h <;> rw [h] <;> decide
      refine ⟨rest.length, (nI (st.length + 1), nI (pre.length + 1), mU J (q + 5) st.length (jn e.1 a b)), by rw [hd]; simp, ⟨pre ++ [e], rest, jn e.1 a b :: st, he', rfl, rfl, by rw [hpl], h3, ?_, sTk_push (sTk_pop (sTk_pop hst)) _, fun c hc => by rw [← hfr c hc]; exact mU_other hc, by simp at h40 ⊢; omega⟩, fun self => ?_⟩
      · rw [← hev]; simp only [ev, evs, hne, if_false]
      · rw [base, if_neg hne.1, if_neg hne.2.1, if_neg hne.2.2, hlt]
        rw [hlt] at h40
        rw [if_neg (by rw [show (2 : Int32) = nI 2 from rfl, q_lt (by omega) (by omega)]; omega), if_neg (by rw [q_lt (by omega) (by omega)]; omega), q_pm1 (by omega), show st.length + 2 - 1 = st.length + 1 from rfl, q_m1 (by omega), Nat.add_sub_cancel, q_G (q_in (by omega) (by omega)), q_G (q_in (by omega) (by omega)), q_cl (by omega), q_cl (by omega), ht2, show J (q + 5) (st.length + 1) = b from ht, c_joined h1, q_B, q_G (q_in (by omega) (by omega)), q_1]
theorem c_worth {Fu : Nat} {I : mIT} {q : Nat} {es : eSt} (hr : cRu I q es) (hne : es ≠ []) (hF : 701 < Fu) (v1 v2 v3 v4 v5 v6 v7 : Int32) :
    ∃ I', f_X8_worth Fu I q v1 v2 v3 v4 v5 v6 v7 = some (sEv (fun m => [v1, v2, v3, v4, v5, v6, v7].getD m 0) es, I') ∧ ∀ c, c ≠ q + 4 → c ≠ q + 5 → I' c = I c := by
  obtain ⟨h1, h2, h3, h4⟩ := hr
  have hw : wfd es 0 := h4.resolve_left hne
  unfold f_X8_worth
  rw [q_G (show inB (0 : Int32) 7 = true by decide), q_G (show inB (1 : Int32) 7 = true by decide), q_G (show inB (2 : Int32) 7 = true by decide), q_G (show inB (3 : Int32) 7 = true by decide), q_G (show inB (4 : Int32) 7 = true by decide), q_G (show inB (5 : Int32) 7 = true by decide), q_G (show inB (6 : Int32) 7 = true by decide)]
  generalize hJ : (mU (mU (mU (mU (mU (mU (mU I (q + 4) ((0 : Int32)).toNatClampNeg v1) (q + 4) ((1 : Int32)).toNatClampNeg v2) (q + 4) ((2 : Int32)).toNatClampNeg v3) (q + 4) ((3 : Int32)).toNatClampNeg v4) (q + 4) ((4 : Int32)).toNatClampNeg v5) (q + 4) ((5 : Int32)).toNatClampNeg v6) (q + 4) ((6 : Int32)).toNatClampNeg v7) = J
  have hJc : ∀ c, c ≠ q + 4 → J c = I c := fun c hc => by rw [← hJ]; simp only [mU_other hc]
  have hJv : ∀ m, m < 7 → J (q + 4) m = [v1, v2, v3, v4, v5, v6, v7].getD m 0 := by
    intro m hm
    rw [← hJ]
    rcases (show m = 0 ∨ m = 1 ∨ m = 2 ∨ m = 3 ∨ m = 4 ∨ m = 5 ∨ m = 6 by omega) with rfl | rfl | rfl | rfl | rfl | rfl | rfl <;> simp [mU, q_k0, q_k1, q_k2, q_k3, q_k4, q_k5, q_k6]
  obtain ⟨y, ⟨g1, g2⟩, g3⟩ := c_worthL (Fu := Fu) (I0 := J) (q := q) (es := es) (vals := fun m => [v1, v2, v3, v4, v5, v6, v7].getD m 0) (by rw [hJc q (by omega)]; exact h1) h2 (fun i hi => by rw [hJc (q + 1) (by omega), hJc (q + 2) (by omega)]; exact h3 i hi) hJv hw hF
  refine ⟨y.2, ?_, fun c c4 c5 => by rw [g2 c c5, hJc c c4]⟩
  rw [g3, ← g1]
