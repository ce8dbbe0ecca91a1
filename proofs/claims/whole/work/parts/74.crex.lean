/-! the class reads a whole EXPR -/
def xRe (I : mIT) (q : Nat) (B : Nat → Nat) (n : Nat) (r : pO (Nat × xS)) (y : Int32 × mIT) : Prop := match r with
  | .inl e => y.1 = 0 ∧ y.2 1 9 = nI e.1 ∧ y.2 1 5 = nI e.2 ∧ xFb q I y.2
  | .inr z => y.1 = 1 ∧ cTk y.2 B n z.1 ∧ xI z.2 z.1 ∧ exDn B n z.1 z.2 = true ∧ cRs y.2 q (pwt 1 z.2.2.1 z.2.1).1 (pwt 1 z.2.2.1 z.2.1).2 ∧ xFr q I y.2
theorem c_whole {Fu : Nat} {I : mIT} {B : Nat → Nat} {n a q : Nat} {x : xS} (ht : tpe B n) (h : cTk I B n a) (hx : cXs I q x) (hi : xI x a) : f_X6_isExprWhole Fu I = some (if exDn B n a x then 1 else 0) := by
  obtain ⟨_, i2, i3, _⟩ := hi
  obtain ⟨_, x2, x3, _, _⟩ := hx
  unfold f_X6_isExprWhole exDn
  rw [x2, x3]
  by_cases c1 : x.2.2.1 = 0
  · rw [if_pos (by rw [c1]; rfl)]
    by_cases c2 : x.2.2.2.1 = 0
    · rw [if_pos (by rw [c2]; rfl), show (59 : Int32) = nI 59 from rfl, c_sg ht h (by omega), q_B]
      by_cases c3 : sg B n a 59 = true
      · rw [if_pos c3, if_neg (by decide), decide_eq_true ⟨c1, c2, c3⟩]; rfl
      · rw [if_neg c3, if_pos rfl, decide_eq_false (fun k => c3 k.2.2)]; rfl
    · rw [if_neg (by rw [q_eq0 (by omega)]; exact c2), decide_eq_false (fun k => c2 k.2.1)]; rfl
  · rw [if_neg (by rw [q_eq0 (by omega)]; exact c1), decide_eq_false (fun k => c1 k.1)]; rfl
theorem cXs_f {I J : mIT} {q : Nat} {x : xS} (hq : 3 ≤ q) (h : cXs I q x) (f : cTf I J) : cXs J q x := by
  obtain ⟨⟨h1, h2, h3, h4⟩, x2, x3, x4, x5⟩ := h
  refine ⟨⟨by rw [f.2 q (by omega)]; exact h1, by rw [f.2 q (by omega)]; exact h2, fun i hi => by rw [f.2 (q + 1) (by omega), f.2 (q + 2) (by omega)]; exact h3 i hi, wtI_f (fun i hi => by rw [f.2 (q + 3) (by omega)]) h4⟩, by rw [f.1 13 (by omega)]; exact x2, by rw [f.1 14 (by omega)]; exact x3, fun d hd => by rw [f.1 15 (by omega)]; exact x4 d hd, by rw [f.1 16 (by omega)]; exact x5⟩
theorem xFr_s {q : Nat} {I J K : mIT} (hq : 3 ≤ q) (h : xFr q I J) (f : cTf J K) : xFr q I K := ⟨fun j hj => by rw [f.1 j (by omega)]; exact h.1 j hj, fun j a b => by rw [f.2 q (by omega)]; exact h.2.1 j a b, fun c a b d e g => by rw [f.2 c a]; exact h.2.2 c a b d e g⟩
theorem c_exLoop {Fu : Nat} {R : mRT} {B : Nat → Nat} {n q : Nat} {I0 : mIT} (hF : 2200 < Fu) (ht : tpe B n) (hR : R 1 12 = some q) (hw : wB R = true) (hq : 3 ≤ q) : ∀ (f N : Nat) (I : mIT) (a v : Nat) (x : xS), f < N → n - a < f → cTk I B n a → cXs I q x → xI x a → v < a → xFr q I0 I → wp (w_X6_readExpr_29 Fu q N 1 (nI v) I R) (fun y => y.2.2 = R ∧ xRe I0 q B n (exR B n f a x) (y.1, y.2.1)) := by
  intro f
  induction f with
  | zero => intro N I a v x _ h2; omega
  | succ f ih =>
    intro N I a v x hN hf h hx hi hv hfr
    obtain ⟨N', rfl⟩ : ∃ N', N = N' + 1 := ⟨N - 1, by omega⟩
    have ha := h.2.1
    have h7 := ht.1
    have hlen := xI_len hi
    show wp (b_X6_readExpr_29 Fu q (fun s => w_X6_readExpr_29 Fu q N' s.1 s.2.1 s.2.2.1 s.2.2.2) 1 (nI v) I R) _
    unfold b_X6_readExpr_29
    rw [q_G hw, show (700 : Int32) = nI 700 from rfl, exR]
    refine wp_n (by rw [q_le (by omega) (by omega)]; omega) (wp_n (by decide) (wp_Be (c_whole ht h hx hi) ?_))
    by_cases e : exDn B n a x = true
    · rw [if_pos e, if_pos e]
      refine wp_n (by decide) (wp_Be hR (wp_B (c_fin hF hx.1 hlen.2 (by omega) (by have := hi.1; omega)) ?_))
      rintro J ⟨j1, j2⟩
      rw [q_G (by decide)]
      exact wp_s ⟨rfl, rfl, cTk_c hq h j2, hi, e, j1, xFr_c hq hfr j2⟩
    · rw [if_neg e, if_neg e]
      refine wp_p rfl ?_
      have go : ∀ (r : pO xS) (y : Int32 × mIT), r = exS B n a x → xPo I q B n a r y → wp (if y.1 = 0 then w_X6_readExpr_29 Fu q N' y.1 (nI v + 1) y.2 R else oB (f_X6_step Fu y.2) (fun r71 => w_X6_readExpr_29 Fu q N' y.1 (nI v + 1) r71 R)) (fun y => y.2.2 = R ∧ xRe I0 q B n (match exS B n a x with
          | .inl e => .inl e
          | .inr x' => exR B n f (nx B n a) x') (y.1, y.2.1)) := by
        intro r y hr hy
        rw [← hr]
        cases r with
        | inl ee =>
          obtain ⟨y1, y2, y3, y4, y5⟩ := hy
          obtain ⟨out', w', z1, z2, z3, z4⟩ := y4
          rw [y1]
          refine wp_p rfl ?_
          obtain ⟨N2, rfl⟩ : ∃ N2, N' = N2 + 1 := ⟨N' - 1, by omega⟩
          show wp (b_X6_readExpr_29 Fu q (fun s => w_X6_readExpr_29 Fu q N2 s.1 s.2.1 s.2.2.1 s.2.2.2) 0 (nI v + 1) y.2 R) _
          unfold b_X6_readExpr_29
          rw [q_G hw]
          have fin : wp (oB (R 1 12) (fun p81 => oB (f_X8_finish Fu y.2 p81) (fun r84 => oG (isB 0) (some ((0 : Int32), r84, R))))) (fun y => y.2.2 = R ∧ xRe I0 q B n (.inl ee) (y.1, y.2.1)) := by
            refine wp_Be hR (wp_B (c_fin hF z1 z2 z3 z4) ?_)
            rintro J ⟨j1, j2⟩
            rw [q_G (by decide)]
            have g : ∀ j, J 1 j = y.2 1 j := fun j => by rw [j2.2 1 (by omega) (by omega) (by omega) (by omega)]
            refine wp_s ⟨rfl, rfl, by dsimp only; rw [g]; exact y2, by dsimp only; rw [g]; exact y3, fun j hj => by dsimp only; rw [g, y5.1 j hj]; exact hfr.1 j (by omega), fun j a b => by dsimp only; rw [j2.1 j a b, y5.2.1 j a b]; exact hfr.2.1 j a b, fun c a b d e f => by dsimp only; rw [j2.2 c b d e f, y5.2.2 c a b d e f]; exact hfr.2.2 c a b d e f⟩
          exact wp_f (fun _ => fin) (fun _ => wp_p rfl fin)
        | inr x' =>
          obtain ⟨y1, y2, y3, y4⟩ := hy
          obtain ⟨k1, k2⟩ := exS_ok hi hr.symm
          have hn := nx_gt (B := B) k2
          rw [y1]
          refine wp_n (by decide) (wp_B (c_step hF ht y2.1 y2.2.2.1 (tE_le (B := B) y2.2.1).1) ?_)
          rintro J ⟨j1, j2⟩
          rw [q_1]
          exact ih N' J (nx B n a) (v + 1) x' (by omega) (by omega) j1 (cXs_f hq y3 j2) k1 (by omega) (xFr_s hq (xFr_t hfr y4) j2)
      rw [hx.2.1]
      by_cases es : x.2.2.1 = 0
      · refine wp_p (by rw [es]; rfl) (wp_B (c_readOp hF ht h hx hi es hR hq) ?_)
        intro y hy
        exact go (exOp B n a x) y (by unfold exS; rw [if_pos es]) hy
      · refine wp_n (by have := hi.2.1; rw [q_eq0 (by omega)]; exact es) (wp_B (c_readOd hF ht h hx hi es hR hq) ?_)
        intro y hy
        exact go (exOd B n a x) y (by unfold exS; rw [if_neg es]) hy
