/-! the reference's code of an EXPR -/
def mOp (s : Int32) : Int32 := if s = 30 then 3 else if s = 20 then 4 else if s = 10 then 5 else if s = 40 then 6 else if s = 41 then 7 else if s = 50 then 8 else if s = 51 then 9 else if s = 60 then 10 else 11
def enc : eSt → List Int32
  | [] => [0]
  | e :: es => if e.1 = 1 ∨ e.1 = 2 then e.1 :: e.2 :: enc es else mOp e.1 :: enc es
def mCo (I : mIT) (c at0 : Nat) (es : eSt) : Prop := at0 + (enc es).length ≤ 1400 ∧ ∀ i, i < (enc es).length → I c (at0 + i) = (enc es).getD i 0
theorem m_works {Fu : Nat} {s a b : Int32} (h : isOp s) : f_X12_works Fu (mOp s) a b = some (jn s a b) := by
  unfold f_X12_works jn oG mOp
  rcases h with rfl | rfl | rfl | rfl | rfl | rfl | rfl | rfl <;> grind
theorem enc_pos (es : eSt) : 0 < (enc es).length := by
  cases es with
  | nil => simp [enc]
  | cons e es => unfold enc; split <;> simp
set_option maxHeartbeats 1000000 in
theorem m_reckons {Fu : Nat} {I0 : mIT} {at0 : Nat} {es : eSt} {vals : Nat → Int32} (hc : mCo I0 79 at0 es) (hv : ∀ m, m < 7 → I0 91 m = vals m) (hw : wfd es 0) (hF : es.length < Fu) :
    ∃ I', f_X12_reckons Fu I0 (nI at0) = some (sEv vals es, I') ∧ ∀ c, c ≠ 92 → I' c = I0 c := by
  unfold f_X12_reckons w_X12_reckons_4
  have key : ∃ y : Int32 × mIT, (y.1 = sEv vals es ∧ ∀ c, c ≠ 92 → y.2 c = I0 c) ∧ loopF (fun self (s : Int32 × Int32 × mIT) => b_X12_reckons_4 Fu self s.1 s.2.1 s.2.2) Fu (0, nI at0, I0) = some y := by
    refine q_loop (fun d (s : Int32 × Int32 × mIT) => ∃ (rest : eSt) (st : List Int32) (k : Nat), d = rest.length ∧ s.1 = nI st.length ∧ s.2.1 = nI k ∧ wfd rest st.length ∧ (ev vals rest st).headD 0 = sEv vals es ∧ sTk s.2.2 92 st ∧ (∀ c, c ≠ 92 → s.2.2 c = I0 c) ∧ mCo I0 79 k rest ∧ st.length ≤ 40) (fun y : Int32 × mIT => y.1 = sEv vals es ∧ ∀ c, c ≠ 92 → y.2 c = I0 c) ?_ Fu es.length (0, nI at0, I0) ⟨es, [], at0, rfl, rfl, rfl, hw, rfl, (fun j hj => by simp at hj), (fun _ _ => rfl), hc, by simp⟩ (by omega)
    rintro d ⟨v2, v3, J⟩ ⟨rest, st, k, hd, h1, h2, hwf, hev, hst, hfr, hco, h40⟩
    dsimp only at h1 h2 hst hfr ⊢
    subst h1 h2
    have hJ : ∀ j, J 79 j = I0 79 j := fun j => by rw [hfr 79 (by omega)]
    obtain ⟨hl, hco⟩ := hco
    have hpos := enc_pos rest
    have h0 := hco 0 hpos
    rw [Nat.add_zero] at h0
    cases rest with
    | nil =>
      right
      have hs1 : st.length = 1 := hwf
      obtain ⟨x, rfl⟩ := List.length_eq_one_iff.mp hs1
      refine ⟨(x, J), ⟨hev, hfr⟩, fun self => ?_⟩
      have hx := sTk_top hst
      have h00 : J 79 k = 0 := by rw [hJ, h0]; rfl
      unfold b_X12_reckons_4
      simp only [enc, List.length_singleton] at hl
      rw [q_G (q_in (by omega) (by omega)), q_cl (by omega), if_pos h00, q_G (show inB (0 : Int32) 950 = true by decide)]
      show some (J 92 0, J) = _
      rw [show J 92 0 = x from hx]
    | cons e rest =>
      left
      have stp : ∀ (k' : Nat), mCo I0 79 k' rest → k' + (enc rest).length ≤ 1400 := fun k' h => h.1
      rcases hwf with ⟨h1, h2, h3⟩ | ⟨h1, h2, ⟨m, hm7, hm2⟩, h3⟩ | ⟨h1, h2, h3⟩ | ⟨h1, h2, h3⟩
      · have he : enc (e :: rest) = e.1 :: e.2 :: enc rest := by rw [enc, if_pos (Or.inl h1)]
        rw [he] at hl hco h0
        have hk0 : J 79 k = 1 := by rw [hJ, h0, ← h1]; rfl
        have hk1 : J 79 (k + 1) = e.2 := by rw [hJ, hco 1 (by simp)]; rfl
        have hl2 : k + 2 + (enc rest).length ≤ 1400 := by simp at hl; omega
        have hp := enc_pos rest
        refine ⟨rest.length, (nI (st.length + 1), nI (k + 2), mU J 92 st.length e.2), by rw [hd]; simp, ⟨rest, e.2 :: st, k + 2, rfl, rfl, rfl, h3, ?_, sTk_push hst _, fun c hc => by rw [← hfr c hc]; exact mU_other hc, ⟨hl2, fun i hi => ?_⟩, by simp; omega⟩, fun self => ?_⟩
        · rw [← hev]; simp only [ev, evs, h1, if_pos]
        · have := hco (i + 2) (by simp; omega)
          rw [show k + 2 + i = k + (i + 2) by omega, this]; rfl
        · unfold b_X12_reckons_4 b_X12_reckons_36
          rw [q_G (q_in (by omega) (by omega)), q_cl (by omega), hk0, if_neg (by decide), q_G (q_in (by omega) (by omega)), if_pos rfl, if_pos rfl, q_1, q_G (q_in (by omega) (by omega)), q_G (q_in (by omega) (by omega)), q_1, q_1, q_cl (by omega), q_cl (by omega), hk1]
      · have he : enc (e :: rest) = e.1 :: e.2 :: enc rest := by rw [enc, if_pos (Or.inr h1)]
        rw [he] at hl hco h0
        have hk0 : J 79 k = 2 := by rw [hJ, h0, ← h1]; rfl
        have hk1 : J 79 (k + 1) = nI m := by rw [hJ, hco 1 (by simp), ← hm2]; rfl
        have hl2 : k + 2 + (enc rest).length ≤ 1400 := by simp at hl; omega
        have hp := enc_pos rest
        have hvm : J 91 m = vals m := by rw [hfr 91 (by omega)]; exact hv m hm7
        refine ⟨rest.length, (nI (st.length + 1), nI (k + 2), mU J 92 st.length (vals m)), by rw [hd]; simp, ⟨rest, vals m :: st, k + 2, rfl, rfl, rfl, h3, ?_, sTk_push hst _, fun c hc => by rw [← hfr c hc]; exact mU_other hc, ⟨hl2, fun i hi => ?_⟩, by simp; omega⟩, fun self => ?_⟩
        · rw [← hev]; simp only [ev, evs, h1, hm2]; rw [if_neg (by decide), if_pos trivial, q_cl (by omega)]
        · have := hco (i + 2) (by simp; omega)
          rw [show k + 2 + i = k + (i + 2) by omega, this]; rfl
        · unfold b_X12_reckons_4 b_X12_reckons_36
          rw [q_G (q_in (by omega) (by omega)), q_cl (by omega), hk0, if_neg (by decide), q_G (q_in (by omega) (by omega)), if_neg (by decide), if_pos rfl, if_neg (by decide), q_1, q_G (q_in (by omega) (by omega)), q_cl (by omega), hk1, q_G (q_in (by omega) (by omega)), q_G (q_in (by omega) (by omega)), q_1, q_1, q_cl (by omega), q_cl (by omega), hvm]
      · have he : enc (e :: rest) = 3 :: enc rest := by rw [enc, if_neg (by rw [h1]; decide), h1]; rfl
        rw [he] at hl hco h0
        have hk0 : J 79 k = 3 := by rw [hJ, h0]; rfl
        have hl2 : k + 1 + (enc rest).length ≤ 1400 := by simp at hl; omega
        have hp := enc_pos rest
        obtain ⟨a, st, rfl⟩ : ∃ a t, st = a :: t := by
          cases st with
          | nil => simp at h2
          | cons a t => exact ⟨a, t, rfl⟩
        have ht := sTk_top hst
        have hlt : (a :: st).length = st.length + 1 := rfl
        refine ⟨rest.length, (nI (st.length + 1), nI (k + 1), mU J 92 st.length (if a = 0 then 1 else 0)), by rw [hd]; simp, ⟨rest, (if a = 0 then 1 else 0) :: st, k + 1, rfl, rfl, rfl, h3, ?_, sTk_push (sTk_pop hst) _, fun c hc => by rw [← hfr c hc]; exact mU_other hc, ⟨hl2, fun i hi => ?_⟩, h40⟩, fun self => ?_⟩
        · rw [← hev]; show _ = (ev vals rest (evs vals e.1 e.2 (a :: st))).headD 0; unfold evs; rw [h1, if_neg (by decide : ¬ (30 : Int32) = 1), if_neg (by decide : ¬ (30 : Int32) = 2), if_pos rfl]
        · have := hco (i + 1) (by simp; omega)
          rw [show k + 1 + i = k + (i + 1) by omega, this]; rfl
        · unfold b_X12_reckons_4
          rw [hlt] at h40
          rw [hlt, q_G (q_in (by omega) (by omega)), q_cl (by omega), hk0, if_neg (by decide), q_G (q_in (by omega) (by omega)), if_neg (by decide), if_neg (by decide), if_pos rfl, q_m1 (by omega), Nat.add_sub_cancel, q_G (q_in (by omega) (by omega)), q_cl (by omega), ht, q_1]
          by_cases ha : a = 0
          · rw [if_pos ha, if_pos ha, q_G (q_in (by omega) (by omega))]
          · rw [if_neg ha, if_neg ha, q_G (q_in (by omega) (by omega))]
      · have hne : e.1 ≠ 1 ∧ e.1 ≠ 2 ∧ e.1 ≠ 30 := by rcases h1 with h | h | h | h | h | h | h | h <;> rw [h] <;> decide
        have hmo : mOp e.1 ≠ 0 ∧ mOp e.1 ≠ 1 ∧ mOp e.1 ≠ 2 ∧ mOp e.1 ≠ 3 := by rcases h1 with h | h | h | h | h | h | h | h <;> rw [h] <;> decide
        have he : enc (e :: rest) = mOp e.1 :: enc rest := by rw [enc, if_neg (by rintro (h | h) <;> simp_all)]
        rw [he] at hl hco h0
        have hk0 : J 79 k = mOp e.1 := by rw [hJ, h0]; rfl
        have hl2 : k + 1 + (enc rest).length ≤ 1400 := by simp at hl; omega
        have hp := enc_pos rest
        obtain ⟨b, a, st, rfl⟩ : ∃ b a t, st = b :: a :: t := by
          match st, h2 with
          | b :: a :: t, _ => exact ⟨b, a, t, rfl⟩
        have ht := sTk_top hst
        have ht2 := sTk_top (sTk_pop hst)
        have hlt : (b :: a :: st).length = st.length + 2 := rfl
        refine ⟨rest.length, (nI (st.length + 1), nI (k + 1), mU J 92 st.length (jn e.1 a b)), by rw [hd]; simp, ⟨rest, jn e.1 a b :: st, k + 1, rfl, rfl, rfl, h3, ?_, sTk_push (sTk_pop (sTk_pop hst)) _, fun c hc => by rw [← hfr c hc]; exact mU_other hc, ⟨hl2, fun i hi => ?_⟩, by simp at h40 ⊢; omega⟩, fun self => ?_⟩
        · rw [← hev]; simp only [ev, evs, hne, if_false]
        · have := hco (i + 1) (by simp; omega)
          rw [show k + 1 + i = k + (i + 1) by omega, this]; rfl
        · unfold b_X12_reckons_4
          rw [hlt] at h40
          rw [hlt, q_G (q_in (by omega) (by omega)), q_cl (by omega), hk0, if_neg hmo.1, q_G (q_in (by omega) (by omega)), if_neg hmo.2.1, if_neg hmo.2.2.1, if_neg hmo.2.2.2, q_pm1 (by omega), show st.length + 2 - 1 = st.length + 1 from rfl, q_m1 (by omega), Nat.add_sub_cancel, q_G (q_in (by omega) (by omega)), q_G (q_in (by omega) (by omega)), q_cl (by omega), q_cl (by omega), ht2, show J 92 (st.length + 1) = b from ht, m_works h1, q_B, q_G (q_in (by omega) (by omega)), q_1]
  obtain ⟨y, ⟨g1, g2⟩, g3⟩ := key
  exact ⟨y.2, by rw [g3, ← g1], g2⟩
