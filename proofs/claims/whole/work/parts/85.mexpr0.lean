/-! has a parenthesis begun, and its end -/
theorem okW_0 : ∀ {w : List Nat} {d b : Nat}, okW w d b → (0 ∈ w ↔ 0 < d)
  | [], d, _, h => by
    have : d = 0 := h
    subst this
    exact ⟨fun q => absurd q (List.not_mem_nil), fun q => absurd q (by omega)⟩
  | c :: w, d, b, h => by
    rcases h with ⟨rfl, d', h1, _⟩ | ⟨r, h1, _, h3⟩
    · exact ⟨fun _ => by omega, fun _ => List.mem_cons_self⟩
    · have hc : c ≠ 0 := by unfold rkX at h1; omega
      rw [← okW_0 h3, List.mem_cons]
      exact ⟨fun q => q.resolve_left (fun k => hc k.symm), Or.inr⟩
theorem m_isOpened {Fu : Nat} {I : mIT} {c0 : Nat} {out : eSt} {w : List Nat} (hF : 2200 < Fu) (h : mRs I c0 out w) (hv : vC w) (hl : w.length ≤ 80) : f_X12_isOpened Fu I = some (if 0 ∈ w then 1 else 0) := by
  apply wp_q
  unfold f_X12_isOpened w_X12_isOpened_7
  rw [h.2.1]
  refine wp_loop (fun d (s : Int32) => ∃ w' : List Nat, s = nI w'.length - 1 ∧ wtM I w' ∧ vC w' ∧ (0 ∈ w' ↔ 0 ∈ w) ∧ d = w'.length ∧ w'.length ≤ 80) _ ?_ Fu w.length _ ⟨w, rfl, h.2.2.2, hv, Iff.rfl, rfl, hl⟩ (by omega)
  rintro d s self ⟨w', rfl, f1, f2, f3, f4, f5⟩ hself
  show wp (b_X12_isOpened_7 Fu I self _) _
  unfold b_X12_isOpened_7
  cases w' with
  | nil =>
    refine wp_p (by decide) (wp_p (by decide) (wp_s ?_))
    rw [if_neg (fun q => absurd (f3.mpr q) (List.not_mem_nil))]
  | cons c w' =>
    rw [List.length_cons] at f4 f5 ⊢
    rw [q_m1 (by omega), Nat.add_sub_cancel]
    have hc := f2 c List.mem_cons_self
    refine wp_n (by rw [q_lt0 (by omega)]; exact id) ?_
    rw [q_GI (by omega) (by omega), q_cl (by omega), f1.1]
    refine wp_Be (mC_open hc) ?_
    by_cases e : c = 0
    · rw [if_pos e]
      refine wp_n (by decide) (wp_n (by rw [q_lt0 (by omega)]; exact id) (wp_s ?_))
      rw [if_pos (f3.mp (by rw [e]; exact List.mem_cons_self))]
    · rw [if_neg e]
      refine wp_p rfl ?_
      refine hself w'.length _ (by omega) ⟨w', (Int32.sub_eq_add_neg _ _).symm, f1.2, fun x hx => f2 x (List.mem_cons_of_mem _ hx), ?_, rfl, by omega⟩
      rw [← f3, List.mem_cons]
      exact ⟨Or.inr, fun q => q.resolve_left (fun k => e k.symm)⟩
theorem m_closes {Fu : Nat} {I : mIT} {L : mLT} {B : Nat → Nat} {n a c0 : Nat} {x : xS} (hF : 2200 < Fu) (ht : tpe B n) (hT : mTk I L B n a) (hx : mXs I c0 x) (hi : xI x a) (hb : xB c0 x a) (hd : 0 < x.2.2.2.1) (hne : (pwt 1 x.2.1 x.1).2 ≠ []) : wp (f_X12_closes Fu I L) (fun y => mTk y.1 y.2 B n (nx B n a) ∧ mXs y.1 c0 ((pwt 1 x.2.1 x.1).1, (pwt 1 x.2.1 x.1).2.tail, 0, x.2.2.2.1 - 1, x.2.2.2.2.1, x.2.2.2.2.2) ∧ y.1 75 14 = I 75 14 ∧ y.1 75 15 = I 75 15 ∧ mXf c0 I y.1 ∧ lF L y.2) := by
  have h7 := ht.1
  have ha := hT.2.1
  have hb' := hb
  unfold xB at hb'
  have hd6 := hi.2.2.1
  have hlen := (xI_len hi).1
  unfold f_X12_closes
  refine wp_B (m_drops (t := 0) hF (by omega) hx.1 (xI_vC hi) (by omega) (by omega)) ?_
  rw [show max 1 0 = 1 from rfl]
  rintro J ⟨j1, j2⟩
  have e34 : J 75 34 = nI (x.2.2.2.1 + 1) := by rw [j2.1 34 (by omega) (by omega)]; exact hx.2.1
  obtain ⟨c, w', hw⟩ : ∃ c w', (pwt 1 x.2.1 x.1).2 = c :: w' := by
    cases h : (pwt 1 x.2.1 x.1).2 with
    | nil => exact absurd h hne
    | cons c w' => exact ⟨c, w', rfl⟩
  rw [hw] at j1 ⊢
  obtain ⟨r1, r2, r3, r4⟩ := j1
  rw [q_Uj (show (34 : Nat) ≠ 33 by decide), e34, q_m1 (by omega), Nat.add_sub_cancel, r2, List.length_cons, q_m1 (by omega), Nat.add_sub_cancel]
  generalize hK : mU (mU J 75 33 (nI w'.length)) 75 34 (nI x.2.2.2.1) = K
  have k1 : mRs K c0 (pwt 1 x.2.1 x.1).1 w' := by
    rw [← hK]
    exact ⟨by rw [q_Uj (by decide), q_Uj (by decide)]; exact r1, by rw [q_Uj (by decide), q_U], fun i hi => by rw [mU_other (by decide), mU_other (by decide)]; exact r3 i hi, wtM_f (fun i _ => by rw [mU_other (by decide), mU_other (by decide)]) r4.2⟩
  have k2 : mTk K L B n a := by
    rw [← hK]
    exact mTk_k (mTk_c hT j2) (fun j j1 j2 => by rw [q_Uj (by omega), q_Uj (by omega)]) (by rw [mU_other (by decide), mU_other (by decide)])
  have k3 : ∀ j, j ≠ 32 → j ≠ 33 → j ≠ 34 → K 75 j = I 75 j := fun j a b c => by rw [← hK, q_Uj c, q_Uj b]; exact j2.1 j a b
  have k4 : K 75 34 = nI x.2.2.2.1 := by rw [← hK, q_U]
  have k5 : ∀ c, c ≠ 75 → K c = J c := fun c hc => by rw [← hK, mU_other hc, mU_other hc]
  refine wp_B (m_nx hF ht k2) ?_
  rintro y ⟨y1, y2, y3⟩
  refine wp_s ⟨y1, ⟨mRs_s k1 y2, ?_, fun d e1 e2 => ?_⟩, ?_, ?_, ?_, y3⟩
  · dsimp only
    rw [y2.1 34 (by omega), k4, Nat.sub_add_cancel hd]
  · dsimp only at e1 ⊢
    rw [y2.2 88 (by decide), k5 88 (by decide), j2.2.2 88 (by decide) (by decide) (by decide)]
    exact hx.2.2 d (by omega) e2
  · dsimp only
    rw [y2.1 14 (by omega), k3 14 (by decide) (by decide) (by decide)]
  · dsimp only
    rw [y2.1 15 (by omega), k3 15 (by decide) (by decide) (by decide)]
  · refine mXf_s (J := K) ?_ y2
    refine mXf_t (mXf_c (mXf_r c0 I) j2) ⟨fun j hj => ?_, fun i _ => by rw [k5 86 (by decide)], fun c a _ _ _ => k5 c a⟩
    rw [k3 j (by omega) (by omega) (by omega), j2.1 j (by omega) (by omega)]
