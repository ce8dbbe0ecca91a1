theorem m_drops {Fu : Nat} {I : mIT} {c0 t : Nat} {out : eSt} {w : List Nat} (hF : 2200 < Fu) (ht : t ≤ 6) (h : mRs I c0 out w) (hv : vC w) (hl : w.length ≤ 80) (ho : c0 + (enp out).length + w.length ≤ 1400) : wp (f_X12_drops Fu I (nI t)) (fun J => mRs J c0 (pwt (max 1 t) w out).1 (pwt (max 1 t) w out).2 ∧ mRf I J c0) := by
  unfold f_X12_drops w_X12_drops_0
  refine wp_loop (fun dd (s : Int32 × mIT) => ∃ (w' : List Nat) (out' : eSt) (J : mIT), s = (nI t, J) ∧ dd = w'.length ∧ mRs J c0 out' w' ∧ vC w' ∧ w'.length ≤ 80 ∧ c0 + (enp out').length + w'.length ≤ 1400 ∧ pwt (max 1 t) w' out' = pwt (max 1 t) w out ∧ mRf I J c0) _ ?_ Fu w.length _ ⟨w, out, I, rfl, rfl, h, hv, hl, ho, rfl, mRf_r I c0⟩ (by omega)
  rintro dd s self ⟨w', out', J, rfl, hdd, f1, f2, f3, f4, f5, f6⟩ hself
  show wp (b_X12_drops_0 Fu self (nI t) J) _
  unfold b_X12_drops_0
  obtain ⟨r1, r2, r3, r4⟩ := f1
  cases w' with
  | nil =>
    rw [r2]
    refine wp_p (by decide) (wp_s ⟨?_, f6⟩)
    rw [← f5]
    exact ⟨r1, r2, r3, r4⟩
  | cons c w' =>
    rw [List.length_cons] at r2 f3 f4 hdd
    have hc := f2 c (List.mem_cons_self)
    have e6 : J 75 33 - 1 = nI w'.length := by
      rw [r2]
      exact pk_sub (a := w'.length + 1) (b := 1) (by omega)
    have htop : J 87 w'.length = mC0 c := r4.1
    rw [e6]
    refine wp_n (by rw [r2, q_le0 (by omega)]; omega) ?_
    rw [q_GI (by omega) (by omega), q_cl (by omega), htop]
    refine wp_Be (mC_open hc) ?_
    rw [pwt] at f5
    by_cases e0 : c = 0
    · rw [if_pos e0]
      rw [if_pos (show c / 10 < max 1 t by omega)] at f5
      refine wp_n (by decide) (wp_s ⟨?_, f6⟩)
      rw [← f5]
      exact ⟨r1, r2, r3, r4⟩
    · rw [if_neg e0]
      refine wp_p rfl ?_
      rw [q_GI (by omega) (by omega)]
      refine wp_Be (mC_str (hc.resolve_left e0)) ?_
      refine wp_i (q_lt (by omega) (by omega)) (fun e => ?_) (fun e => ?_)
      · rw [if_pos (show c / 10 < max 1 t by omega)] at f5
        refine wp_s ⟨?_, f6⟩
        rw [← f5]
        exact ⟨r1, r2, r3, r4⟩
      · rw [if_neg (show ¬ c / 10 < max 1 t by omega)] at f5
        have e1 : enp [(nI c, (0 : Int32))] = [mC0 c] := by
          unfold mC0
          rw [if_neg e0, enp, if_neg (by rcases hc.resolve_left e0 with rfl | rfl | rfl | rfl | rfl | rfl | rfl | rfl | rfl <;> decide)]
          rfl
        rw [q_U, q_GI (by omega) (by omega), q_cl (by omega), mU_other (show (87 : Nat) ≠ 75 by decide), htop]
        refine wp_Be (m_puts (m := c0 + (enp out').length) (by rw [q_Uj (by decide)]; exact r1) (by omega)) ?_
        refine hself w'.length _ (by omega) ⟨w', out' ++ [(nI c, 0)], _, rfl, rfl, ⟨?_, ?_, fun i hi => ?_, ?_⟩, fun x hx => f2 x (List.mem_cons_of_mem _ hx), by omega, ?_, f5, ?_⟩
        · rw [q_U, enp_ap, e1, List.length_append]; rfl
        · rw [q_Uj (by decide), mU_other (by decide), q_U]
        · rw [enp_ap, e1, List.length_append] at hi
          have hi' : i < (enp out').length + 1 := hi
          rw [enp_ap, e1, getD_ap0 hi', mU_other (by decide)]
          by_cases ei : i < (enp out').length
          · rw [if_pos ei, q_Uj (by omega), mU_other (by decide)]
            exact r3 i ei
          · have : i = (enp out').length := by omega
            subst this
            rw [if_neg ei, q_U]
        · exact wtM_f (fun i hi => by rw [mU_other (by decide), mU_other (by decide), mU_other (by decide)]) r4.2
        · rw [enp_ap, e1, List.length_append]
          show c0 + ((enp out').length + 1) + w'.length ≤ 1400
          omega
        · refine mRf_t f6 ⟨fun j a b => ?_, fun i hi => ?_, fun k a b d => ?_⟩
          · rw [q_Uj a, mU_other (by decide), q_Uj b]
          · rw [mU_other (by decide), q_Uj (by omega), mU_other (by decide)]
          · rw [mU_other a, mU_other b, mU_other a]
theorem m_waits {Fu : Nat} {I : mIT} {c0 c : Nat} {out : eSt} {w : List Nat} {v : Int32} (hv : v = mC0 c) (h : mRs I c0 out w) (hl : w.length < 900) : wp (f_X12_waitsFor Fu I v) (fun J => mRs J c0 out (c :: w) ∧ mRf I J c0) := by
  obtain ⟨r1, r2, r3, r4⟩ := h
  unfold f_X12_waitsFor
  rw [mU_other (show (75 : Nat) ≠ 87 by decide), r2, q_GI (by omega) (by omega), q_cl (by omega), q_1]
  refine wp_s ⟨⟨by rw [q_Uj (by decide), mU_other (by decide)]; exact r1, q_U _ _ _ _, fun i hi => by rw [mU_other (by decide), mU_other (by decide)]; exact r3 i hi, ⟨by rw [mU_other (by decide), q_U, hv], wtM_f (fun i hi => by rw [mU_other (by decide), q_Uj (by omega)]) r4⟩⟩, fun j a b => by rw [q_Uj b, mU_other (by decide)], fun i hi => by rw [mU_other (by decide), mU_other (by decide)], fun k a b d => by rw [mU_other a, mU_other d]⟩
