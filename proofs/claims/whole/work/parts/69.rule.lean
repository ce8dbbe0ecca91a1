/-! the class's rule while it is read -/
def wtI (I : mIT) (q : Nat) : List Nat → Prop
  | [] => True
  | c :: w => I (q + 3) w.length = nI c ∧ wtI I q w
def vW (w : List Nat) : Prop := ∀ c, c ∈ w → c < 100 ∧ (c = 0 ∨ 10 ≤ c)
def cRs (I : mIT) (q : Nat) (out : eSt) (w : List Nat) : Prop := I q 5 = nI out.length ∧ I q 6 = nI w.length ∧ (∀ i, i < out.length → I (q + 1) i = (out.getD i (0, 0)).1 ∧ (((out.getD i (0, 0)).1 = 1 ∨ (out.getD i (0, 0)).1 = 2) → I (q + 2) i = (out.getD i (0, 0)).2)) ∧ wtI I q w
def cRf (q : Nat) (I J : mIT) : Prop := (∀ j, j ≠ 5 → j ≠ 6 → J q j = I q j) ∧ ∀ c, c ≠ q → c ≠ q + 1 → c ≠ q + 2 → c ≠ q + 3 → J c = I c
theorem cRf_r (q : Nat) (I : mIT) : cRf q I I := ⟨fun _ _ _ => rfl, fun _ _ _ _ _ => rfl⟩
theorem cRf_t {q : Nat} {I J K : mIT} (h1 : cRf q I J) (h2 : cRf q J K) : cRf q I K := ⟨fun j a b => by rw [h2.1 j a b, h1.1 j a b], fun c a b d e => by rw [h2.2 c a b d e, h1.2 c a b d e]⟩
theorem vW_ok : ∀ {w : List Nat} {d b : Nat}, okW w d b → vW w
  | [], _, _, _ => fun c hc => absurd hc (List.not_mem_nil)
  | e :: w, d, b, h => fun c hc => by
    rcases List.mem_cons.mp hc with rfl | hc
    · rcases h with ⟨rfl, _⟩ | ⟨r, h1, _⟩
      · omega
      · unfold rkX at h1; omega
    · rcases h with ⟨_, d', _, h2⟩ | ⟨r, _, _, h3⟩
      · exact vW_ok h2 c hc
      · exact vW_ok h3 c hc
theorem wtI_f {I J : mIT} {q : Nat} : ∀ {w : List Nat}, (∀ i, i < w.length → J (q + 3) i = I (q + 3) i) → wtI I q w → wtI J q w
  | [], _, _ => trivial
  | c :: w, f, h => ⟨by rw [f w.length (by rw [List.length_cons]; omega)]; exact h.1, wtI_f (fun i hi => f i (by rw [List.length_cons]; omega)) h.2⟩
theorem getD_ap1 {out : eSt} {x : Int32 × Int32} {i : Nat} (hi : i < out.length + 1) : (out ++ [x]).getD i (0, 0) = if i < out.length then out.getD i (0, 0) else x := by
  by_cases e : i < out.length
  · rw [if_pos e, List.getD_eq_getElem?_getD, List.getD_eq_getElem?_getD, List.getElem?_append_left e]
  · rw [if_neg e, List.getD_eq_getElem?_getD, List.getElem?_append_right (by omega), show i - out.length = 0 by omega]
    rfl
theorem nI_no12 {c : Nat} (h : c < 100) (h1 : 10 ≤ c) : ¬ (nI c = 1 ∨ nI c = 2) := by
  rintro (e | e)
  · have := (q_eq (a := c) (b := 1) (by omega) (by omega)).mp e
    omega
  · have := (q_eq (a := c) (b := 2) (by omega) (by omega)).mp e
    omega
theorem c_pwt {Fu : Nat} {I : mIT} {q t : Nat} {out : eSt} {w : List Nat} (hF : 2200 < Fu) (ht : 1 ≤ t ∧ t ≤ 6) (h : cRs I q out w) (hv : vW w) (hl : w.length ≤ 80) (ho : out.length + w.length ≤ 700) : wp (f_X8_putWaiting Fu I q (nI t)) (fun J => cRs J q (pwt t w out).1 (pwt t w out).2 ∧ cRf q I J) := by
  unfold f_X8_putWaiting w_X8_putWaiting_0
  refine wp_loop (fun dd (s : Int32 × mIT) => ∃ (w' : List Nat) (out' : eSt) (J : mIT), s = (nI t, J) ∧ dd = w'.length ∧ cRs J q out' w' ∧ vW w' ∧ w'.length ≤ 80 ∧ out'.length + w'.length ≤ 700 ∧ pwt t w' out' = pwt t w out ∧ cRf q I J) _ ?_ Fu w.length _ ⟨w, out, I, rfl, rfl, h, hv, hl, ho, rfl, cRf_r q I⟩ (by omega)
  rintro dd s self ⟨w', out', J, rfl, hdd, f1, f2, f3, f4, f5, f6⟩ hself
  show wp (b_X8_putWaiting_0 Fu q self (nI t) J) _
  unfold b_X8_putWaiting_0
  obtain ⟨r1, r2, r3, r4⟩ := f1
  cases w' with
  | nil =>
    rw [r2]
    refine wp_p (by decide) (wp_s ⟨?_, f6⟩)
    rw [← f5]
    exact ⟨r1, r2, r3, r4⟩
  | cons c w' =>
    rw [List.length_cons] at r2 f3 f4 hdd
    have hc := f2 c (List.mem_cons_self)
    have e6 : J q 6 - 1 = nI w'.length := by
      rw [r2]
      exact pk_sub (a := w'.length + 1) (b := 1) (by omega)
    have htop : J (q + 3) w'.length = nI c := r4.1
    rw [e6]
    refine wp_n (by rw [r2, q_le0 (by omega)]; omega) (wp_n (by rw [r2, q_lt (by omega) (by omega)]; omega) ?_)
    rw [q_GI (by omega) (by omega), q_cl (by omega), htop, show nI c / (10 : Int32) = nI (c / 10) from pk_div (d := 10) (by omega) (by omega) (by omega)]
    rw [pwt] at f5
    refine wp_i (by rw [q_lt (by omega) (by omega)]) (fun e => ?_) (fun e => ?_)
    · rw [if_pos e] at f5
      refine wp_s ⟨?_, f6⟩
      rw [← f5]
      exact ⟨r1, r2, r3, r4⟩
    · rw [if_neg e] at f5
      have h10 : 10 ≤ c := by omega
      rw [q_Uj (show (5 : Nat) ≠ 6 by decide), r1]
      refine wp_n (by rw [q_lt0 (by omega)]; simp) (wp_n (by rw [q_le (by omega) (by omega)]; omega) ?_)
      rw [q_U, q_GI (by omega) (by omega), q_GI (by omega) (by omega), q_cl (by omega), q_cl (by omega), mU_other (show q + 3 ≠ q by omega), htop, mU_other (show q ≠ q + 1 by omega), q_Uj (show (5 : Nat) ≠ 6 by decide), r1, q_1]
      refine hself w'.length _ (by omega) ⟨w', out' ++ [(nI c, 0)], _, rfl, rfl, ⟨?_, ?_, fun i hi => ?_, ?_⟩, fun x hx => f2 x (List.mem_cons_of_mem _ hx), by omega, by rw [List.length_append]; show out'.length + 1 + w'.length ≤ 700; omega, f5, ?_⟩
      · rw [q_U, List.length_append]; rfl
      · rw [q_Uj (by decide), mU_other (by omega), q_U]
      · rw [List.length_append] at hi
        have hi' : i < out'.length + 1 := hi
        rw [getD_ap1 hi', mU_other (show q + 1 ≠ q by omega), mU_other (show q + 2 ≠ q by omega), mU_other (show q + 2 ≠ q + 1 by omega), mU_other (show q + 2 ≠ q by omega)]
        by_cases ei : i < out'.length
        · rw [if_pos ei, q_Uj (by omega), mU_other (by omega)]
          exact r3 i ei
        · have : i = out'.length := by omega
          subst this
          rw [if_neg ei, q_U]
          exact ⟨rfl, fun k => absurd k (nI_no12 hc.1 h10)⟩
      · refine wtI_f (fun i hi => ?_) r4.2
        rw [mU_other (by omega), mU_other (by omega), mU_other (by omega)]
      · refine cRf_t f6 ⟨fun j a b => ?_, fun k a b d e => ?_⟩
        · rw [q_Uj a, mU_other (by omega), q_Uj b]
        · rw [mU_other a, mU_other b, mU_other a]
theorem c_push {Fu : Nat} {I : mIT} {q c : Nat} {out : eSt} {w : List Nat} (h : cRs I q out w) (hl : w.length < 80) : wp (b_X8_join_18 Fu q (nI c) I) (fun J => cRs J q out (c :: w) ∧ cRf q I J) := by
  obtain ⟨r1, r2, r3, r4⟩ := h
  unfold b_X8_join_18
  rw [r2]
  refine wp_n (by rw [q_lt0 (by omega)]; simp) (wp_n (by rw [q_le (by omega) (by omega)]; omega) ?_)
  rw [q_GI (by omega) (by omega), q_cl (by omega), mU_other (show q ≠ q + 3 by omega), r2, q_1]
  refine wp_s ⟨⟨by rw [q_Uj (by decide), mU_other (by omega)]; exact r1, q_U _ _ _ _, fun i hi => ?_, ⟨by rw [mU_other (by omega), q_U], wtI_f (fun i hi => by rw [mU_other (by omega), q_Uj (by omega)]) r4⟩⟩, fun j a b => by rw [q_Uj b, mU_other (by omega)], fun k a b d e => by rw [mU_other a, mU_other e]⟩
  rw [mU_other (by omega), mU_other (by omega), mU_other (show q + 2 ≠ q by omega), mU_other (show q + 2 ≠ q + 3 by omega)]
  exact r3 i hi
theorem c_join {Fu : Nat} {I : mIT} {q c : Nat} {out : eSt} {w : List Nat} (hF : 2200 < Fu) (hc : c = 0 ∨ (10 ≤ c ∧ c < 70)) (h : cRs I q out w) (hv : vW w) (hl : w.length < 80) (ho : out.length + w.length ≤ 700) : wp (f_X8_join Fu I q (nI c)) (fun J => cRs J q (jnX c out w).1 (jnX c out w).2 ∧ cRf q I J) := by
  unfold f_X8_join jnX
  rw [show (30 : Int32) = nI 30 from rfl]
  by_cases e : c = 30 ∨ c = 0
  · rw [if_pos e]
    by_cases e1 : c = 30
    · exact wp_p (by rw [e1]) (c_push h hl)
    · refine wp_n (by rw [q_eq (by omega) (by omega)]; exact e1) (wp_p ?_ (c_push h hl))
      rw [e.resolve_left e1]
      rfl
  · rw [if_neg e]
    refine wp_n (by rw [q_eq (by omega) (by omega)]; omega) (wp_n (by rw [q_eq0 (by omega)]; omega) ?_)
    rw [show nI c / (10 : Int32) = nI (c / 10) from pk_div (d := 10) (by omega) (by omega) (by omega)]
    refine wp_B (c_pwt hF (by omega) h hv (by omega) ho) ?_
    rintro J ⟨j1, j2⟩
    have hlen : ∀ (w : List Nat) (out : eSt), (pwt (c / 10) w out).2.length ≤ w.length := by
      intro w
      induction w with
      | nil => intro out; exact Nat.le_refl _
      | cons x w ih =>
        intro out
        rw [pwt]
        by_cases ex : x / 10 < c / 10
        · rw [if_pos ex]; exact Nat.le_refl _
        · rw [if_neg ex]
          have := ih (out ++ [(nI x, 0)])
          rw [List.length_cons]
          omega
    have := hlen w out
    refine wp_m (c_push j1 (by omega)) ?_
    rintro K ⟨k1, k2⟩
    exact ⟨k1, cRf_t j2 k2⟩
theorem c_close {Fu : Nat} {I : mIT} {q : Nat} {out : eSt} {w : List Nat} (hF : 2200 < Fu) (h : cRs I q out w) (hv : vW w) (hl : w.length ≤ 80) (ho : out.length + w.length ≤ 700) (hne : (pwt 1 w out).2 ≠ []) (hln : (pwt 1 w out).2.length ≤ 80) : wp (f_X8_close Fu I q) (fun J => cRs J q (pwt 1 w out).1 (pwt 1 w out).2.tail ∧ cRf q I J) := by
  unfold f_X8_close
  refine wp_B (c_pwt (t := 1) hF (by omega) h hv hl ho) ?_
  rintro J ⟨⟨r1, r2, r3, r4⟩, j2⟩
  cases hw : (pwt 1 w out).2 with
  | nil => exact absurd hw hne
  | cons c w' =>
    rw [hw] at r2 r4 hln
    rw [List.length_cons] at r2 hln
    rw [r2]
    refine wp_n (by rw [q_le0 (by omega)]; omega) ?_
    rw [show nI (w'.length + 1) - 1 = nI w'.length from pk_sub (a := w'.length + 1) (b := 1) (by omega)]
    refine wp_s ⟨⟨by rw [q_Uj (by decide)]; exact r1, q_U _ _ _ _, fun i hi => ?_, wtI_f (fun i hi => by rw [mU_other (by omega)]) r4.2⟩, cRf_t j2 ⟨fun j a b => by rw [q_Uj b], fun k a _ _ _ => by rw [mU_other a]⟩⟩
    rw [mU_other (by omega), mU_other (show q + 2 ≠ q by omega)]
    exact r3 i hi
theorem c_putOd {Fu : Nat} {I : mIT} {q : Nat} {out : eSt} {w : List Nat} {v1 v2 : Int32} (h : cRs I q out w) (ho : out.length < 700) : wp (f_X8_putOperand Fu I q v1 v2) (fun J => cRs J q (out ++ [(v1, v2)]) w ∧ cRf q I J) := by
  obtain ⟨r1, r2, r3, r4⟩ := h
  unfold f_X8_putOperand
  rw [r1]
  refine wp_n (by rw [q_lt0 (by omega)]; simp) (wp_n (by rw [q_le (by omega) (by omega)]; omega) (wp_n (by rw [q_le (by omega) (by omega)]; omega) ?_))
  rw [mU_other (show q ≠ q + 1 by omega), mU_other (show q ≠ q + 2 by omega), mU_other (show q ≠ q + 1 by omega), r1, q_GI (by omega) (by omega), q_GI (by omega) (by omega), q_cl (by omega), q_1]
  refine wp_s ⟨⟨by rw [q_U, List.length_append]; rfl, by rw [q_Uj (by decide), mU_other (by omega), mU_other (by omega)]; exact r2, fun i hi => ?_, wtI_f (fun i hi => by rw [mU_other (by omega), mU_other (by omega), mU_other (by omega)]) r4⟩, fun j a b => by rw [q_Uj a, mU_other (by omega), mU_other (by omega)], fun k a b d e => by rw [mU_other a, mU_other d, mU_other b]⟩
  rw [List.length_append] at hi
  have hi' : i < out.length + 1 := hi
  rw [getD_ap1 hi', mU_other (show q + 1 ≠ q by omega), mU_other (show q + 1 ≠ q + 2 by omega), mU_other (show q + 2 ≠ q by omega)]
  by_cases ei : i < out.length
  · rw [if_pos ei, q_Uj (by omega), q_Uj (by omega), mU_other (show q + 2 ≠ q + 1 by omega)]
    exact r3 i ei
  · have : i = out.length := by omega
    subst this
    rw [if_neg ei, q_U, q_U]
    exact ⟨rfl, fun _ => rfl⟩
theorem c_fin {Fu : Nat} {I : mIT} {q : Nat} {out : eSt} {w : List Nat} (hF : 2200 < Fu) (h : cRs I q out w) (hv : vW w) (hl : w.length ≤ 80) (ho : out.length + w.length ≤ 700) : wp (f_X8_finish Fu I q) (fun J => cRs J q (pwt 1 w out).1 (pwt 1 w out).2 ∧ cRf q I J) := by
  unfold f_X8_finish
  refine wp_B (c_pwt (t := 1) hF (by omega) h hv hl ho) ?_
  rintro J hJ
  exact wp_s hJ
