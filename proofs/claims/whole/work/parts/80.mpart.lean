/-! the reference's part of an operand: a number or a value -/
theorem m_put2 {Fu : Nat} {I : mIT} {c0 : Nat} {out : eSt} {w : List Nat} {v1 v2 : Int32} {α : Type} {f : mIT → Option α} {Q : α → Prop} (h : mRs I c0 out w) (hb : c0 + (enp out).length + 2 ≤ 1400) (h12 : v1 = 1 ∨ v1 = 2) (k : ∀ J, mRs J c0 (out ++ [(v1, v2)]) w → mRf I J c0 → wp (f J) Q) : wp (oB (f_X12_puts Fu I v1) (fun r => oB (f_X12_puts Fu r v2) f)) Q := by
  obtain ⟨r1, r2, r3, r4⟩ := h
  refine wp_Be (m_puts r1 (by omega)) (wp_Be (m_puts (m := c0 + (enp out).length + 1) (q_U _ _ _ _) (by omega)) (k _ ⟨?_, ?_, fun i hi => ?_, ?_⟩ ⟨fun j a b => ?_, fun i hi => ?_, fun c a b d => ?_⟩))
  · rw [q_U, enp_ap, List.length_append, show enp [(v1, v2)] = [v1, v2] by rw [enp, if_pos h12]; rfl]
    show nI (c0 + (enp out).length + 1 + 1) = nI (c0 + ((enp out).length + 2))
    congr 1
  · rw [q_Uj (by decide), mU_other (by decide), q_Uj (by decide), mU_other (by decide)]; exact r2
  · have e2 : enp [(v1, v2)] = [v1, v2] := by rw [enp, if_pos h12]; rfl
    rw [enp_ap, e2, List.length_append] at hi
    have hi' : i < (enp out).length + 2 := hi
    rw [enp_ap, e2, show enp out ++ [v1, v2] = (enp out ++ [v1]) ++ [v2] by rw [List.append_assoc]; rfl]
    have hl1 : (enp out ++ [v1]).length = (enp out).length + 1 := by rw [List.length_append]; rfl
    rw [getD_ap0 (by rw [hl1]; omega), hl1, mU_other (by decide)]
    by_cases ea : i < (enp out).length + 1
    · rw [if_pos ea, q_Uj (by omega), mU_other (by decide), getD_ap0 ea]
      by_cases eb : i < (enp out).length
      · rw [if_pos eb, q_Uj (by omega)]; exact r3 i eb
      · have : i = (enp out).length := by omega
        subst this
        rw [if_neg eb, q_U]
    · have : i = (enp out).length + 1 := by omega
      subst this
      rw [if_neg ea, show c0 + ((enp out).length + 1) = c0 + (enp out).length + 1 by omega, q_U]
  · exact wtM_f (fun i hi => by rw [mU_other (by decide), mU_other (by decide), mU_other (by decide), mU_other (by decide)]) r4
  · rw [q_Uj a, mU_other (by decide), q_Uj a, mU_other (by decide)]
  · rw [mU_other (by decide), q_Uj (by omega), mU_other (by decide), q_Uj (by omega)]
  · rw [mU_other a, mU_other b, mU_other a, mU_other b]
