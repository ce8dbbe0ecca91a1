/-- every call: class and reference return, agree, and keep the picture P -/
def lwSteps (Fu : Nat) (P : mIT → mRT → mLT → Prop) : Prop := (∀ (I : mIT) (R : mRT) (L : mLT) (a1 : Int32) (a2 : Int32) (a3 : Int32) (a4 : Int32) (a5 : Int32), P I R L → st_feed Fu I R L a1 a2 a3 a4 a5 P) ∧ (∀ (I : mIT) (R : mRT) (L : mLT) (a1 : Int32), P I R L → st_tower Fu I R L a1 P) ∧ (∀ (I : mIT) (R : mRT) (L : mLT) , P I R L → st_fault Fu I R L  P) ∧ (∀ (I : mIT) (R : mRT) (L : mLT) (a1 : Int32), P I R L → st_count Fu I R L a1 P) ∧ (∀ (I : mIT) (R : mRT) (L : mLT) (a1 : Int32) (a2 : Int32), P I R L → st_root Fu I R L a1 a2 P) ∧ (∀ (I : mIT) (R : mRT) (L : mLT) (a1 : Int32), P I R L → st_hook Fu I R L a1 P) ∧ (∀ (I : mIT) (R : mRT) (L : mLT) (a1 : Int32), P I R L → st_tune Fu I R L a1 P) ∧ (∀ (I : mIT) (R : mRT) (L : mLT) (a1 : Int32), P I R L → st_change Fu I R L a1 P) ∧ (∀ (I : mIT) (R : mRT) (L : mLT) (a1 : Int32), P I R L → st_days Fu I R L a1 P) ∧ (∀ (I : mIT) (R : mRT) (L : mLT) (a1 : Int32) (a2 : Int32), P I R L → st_hang Fu I R L a1 a2 P) ∧ (∀ (I : mIT) (R : mRT) (L : mLT) (a1 : Int32), P I R L → st_take Fu I R L a1 P) ∧ (∀ (I : mIT) (R : mRT) (L : mLT) (a1 : Int32) (a2 : Int32), P I R L → st_hollow Fu I R L a1 a2 P) ∧ (∀ (I : mIT) (R : mRT) (L : mLT) (a1 : Int32), P I R L → st_eat Fu I R L a1 P) ∧ (∀ (I : mIT) (R : mRT) (L : mLT) (a1 : Int32) (a2 : Int32), P I R L → st_alter Fu I R L a1 a2 P) ∧ (∀ (I : mIT) (R : mRT) (L : mLT) , P I R L → st_undo Fu I R L  P) ∧ (∀ (I : mIT) (R : mRT) (L : mLT) (a1 : Int32) (a2 : Int32), P I R L → st_then Fu I R L a1 a2 P) ∧ (∀ (I : mIT) (R : mRT) (L : mLT) (a1 : Int32), P I R L → st_goes Fu I R L a1 P) ∧ (∀ (I : mIT) (R : mRT) (L : mLT) (a1 : Int32), P I R L → st_rings Fu I R L a1 P) ∧ (∀ (I : mIT) (R : mRT) (L : mLT) , P I R L → st_last Fu I R L  P) ∧ (∀ (I : mIT) (R : mRT) (L : mLT) , P I R L → st_soft Fu I R L  P) ∧ (∀ (I : mIT) (R : mRT) (L : mLT) (a1 : Int32), P I R L → st_order Fu I R L a1 P) ∧ (∀ (I : mIT) (R : mRT) (L : mLT) (a1 : Int32), P I R L → st_row Fu I R L a1 P) ∧ (∀ (I : mIT) (R : mRT) (L : mLT) (a1 : Int32) (a2 : Int32), P I R L → st_at Fu I R L a1 a2 P) ∧ (∀ (I : mIT) (R : mRT) (L : mLT) , P I R L → st_length Fu I R L  P) ∧ (∀ (I : mIT) (R : mRT) (L : mLT) , P I R L → st_isTrue Fu I R L  P) ∧ (∀ (I : mIT) (R : mRT) (L : mLT) , P I R L → st_longer Fu I R L  P) ∧ (∀ (I : mIT) (R : mRT) (L : mLT) (a1 : Int32), P I R L → st_fit Fu I R L a1 P) ∧ (∀ (I : mIT) (R : mRT) (L : mLT) , P I R L → st_keepers Fu I R L  P) ∧ (∀ (I : mIT) (R : mRT) (L : mLT) , P I R L → st_earliest Fu I R L  P) ∧ (∀ (I : mIT) (R : mRT) (L : mLT) (a1 : Int32) (a2 : Int32) (a3 : Int32), P I R L → st_hear Fu I R L a1 a2 a3 P) ∧ (∀ (I : mIT) (R : mRT) (L : mLT) , P I R L → st_forget Fu I R L  P) ∧ (∀ (I : mIT) (R : mRT) (L : mLT) (a1 : Int32), P I R L → st_eaten Fu I R L a1 P) ∧ (∀ (I : mIT) (R : mRT) (L : mLT) (a1 : Int32), P I R L → st_next Fu I R L a1 P) ∧ (∀ (I : mIT) (R : mRT) (L : mLT) (a1 : Int32) (a2 : Int32) (a3 : Int32), P I R L → st_game Fu I R L a1 a2 a3 P) ∧ (∀ (I : mIT) (R : mRT) (L : mLT) (a1 : Int32) (a2 : Int32) (a3 : Int32), P I R L → st_towers Fu I R L a1 a2 a3 P) ∧ (∀ (I : mIT) (R : mRT) (L : mLT) (a1 : Int32) (a2 : Int32), P I R L → st_needed Fu I R L a1 a2 P) ∧ (∀ (I : mIT) (R : mRT) (L : mLT) (a1 : Int32) (a2 : Int32), P I R L → st_grown Fu I R L a1 a2 P) ∧ (∀ (I : mIT) (R : mRT) (L : mLT) (a1 : Int32), P I R L → st_scale Fu I R L a1 P) ∧ (∀ (I : mIT) (R : mRT) (L : mLT) (a1 : Int32), P I R L → st_mouth Fu I R L a1 P) ∧ (∀ (I : mIT) (R : mRT) (L : mLT) (a1 : Int32), P I R L → st_leads Fu I R L a1 P) ∧ (∀ (I : mIT) (R : mRT) (L : mLT) (a1 : Int32) (a2 : Int32), P I R L → st_meets Fu I R L a1 a2 P) ∧ (∀ (I : mIT) (R : mRT) (L : mLT) (a1 : Int32), P I R L → st_without Fu I R L a1 P) ∧ (∀ (I : mIT) (R : mRT) (L : mLT) (a1 : Int32), P I R L → st_often Fu I R L a1 P) ∧ (∀ (I : mIT) (R : mRT) (L : mLT) , P I R L → st_spare Fu I R L  P) ∧ (∀ (I : mIT) (R : mRT) (L : mLT) , P I R L → st_image Fu I R L  P) ∧ (∀ (I : mIT) (R : mRT) (L : mLT) , P I R L → st_restore Fu I R L  P)
theorem lw_in {j c Ln : Nat} (hL : Ln ≤ 3072) (h : 6 * j + 6 ≤ Ln) (hc : c < 6) : vp_in (nI (6 * j) + nI c) Ln := by
  rw [nI_add]
  exact vp_in_nI (by omega) (by omega)
theorem lw_gt {j Ln : Nat} (hL : Ln ≤ 3072) (hj : j ≤ 512) : (nI Ln - 6 < nI (6 * j)) ↔ Ln < 6 * j + 6 := by
  rw [Int32.lt_iff_toInt_lt, nI_toInt (by omega), Int32.toInt_sub, nI_toInt (by omega)]
  have e6 : (6 : Int32).toInt = 6 := by decide
  rw [e6]
  have e : ((Ln : Int) - 6).bmod (2 ^ 32) = (Ln : Int) - 6 := by
    apply Int.bmod_eq_of_le <;> omega
  rw [e]
  omega
set_option maxRecDepth 20000 in
theorem lw_loop {X : mXT} {E : mEn} (hC : mC X E mLaw RL code) (hN : va_Nc "java/lang/IllegalArgumentException" "java/util/NoSuchElementException" X.2.2.2.1) (hr : X.2.2.2.2.2.2.2.2.2.2.1 = (1147, 45333)) {b Ln : Nat} {xs : Nat → Int32} (hX : va_X b Ln xs X.2.2.2.1 E.2.2.1 ∧ b < mB E) (hLn : Ln ≤ 3072) {Fu : Nat} {P : mIT → mRT → mLT → Prop} (hPW : ∀ I R L, P I R L → mWd R) (hS : lwSteps Fu P) (hfin : ∀ (i : Int32) (I : mIT) (R : mRT) (L : mLT) (k z : Nat), k ≤ 1147 → z ≤ 45333 → mG X E 2424 [(0, .ref b), (1, .ref (mB E + 0)), (2, .ref (mB E + 75)), (3, .ref (mB E + 105)), (4, .int i)] [] 106 1 I R L k z) : ∀ (d j : Nat) (I : mIT) (R : mRT) (L : mLT) (k z : Nat), P I R L → Ln < 6 * (j + d) + 6 → j ≤ 512 → k ≤ 106 + j → z ≤ 37039 + 6 * j → mG X E 23 [(0, .ref b), (1, .ref (mB E + 0)), (2, .ref (mB E + 75)), (3, .ref (mB E + 105)), (4, .int (nI (6 * j)))] [] 106 1 I R L k z := by
  intro d
  induction d with
  | zero =>
    intro j I R L k z hP h1 h2 h3 h4
    refine g_iload hC dL_law_23 (q := 4) rfl ?_
    refine g_aload_n hC dL_law_25 (i := 0) rfl (q := 0) rfl ?_
    refine g_scl hC hX dL_law_26 ?_
    refine g_bipush hC dL_law_27 (v := (6 : Int32)) (by decide) ?_
    refine g_isub hC dL_law_29 ?_
    refine g_ic_gt hC dL_law_30 (tgt := 2424) (by decide) (fun _ => hfin _ _ _ _ _ _ (by omega) (by omega)) (fun ne => absurd ((lw_gt hLn h2).mpr (by omega)) ne)
  | succ d ih =>
    intro j I R L k z hP h1 h2 h3 h4
    refine g_iload hC dL_law_23 (q := 4) rfl ?_
    refine g_aload_n hC dL_law_25 (i := 0) rfl (q := 0) rfl ?_
    refine g_scl hC hX dL_law_26 ?_
    refine g_bipush hC dL_law_27 (v := (6 : Int32)) (by decide) ?_
    refine g_isub hC dL_law_29 ?_
    refine g_ic_gt hC dL_law_30 (tgt := 2424) (by decide) (fun _ => hfin _ _ _ _ _ _ (by omega) (by omega)) (fun ne => ?_)
    have hge : 6 * j + 6 ≤ Ln := by
      have := mt (lw_gt hLn h2).mpr ne
      omega
    have hk : k + 1 ≤ 1147 ∧ z + 6 ≤ 45333 := ⟨by omega, by omega⟩
    have hW := hPW I R L hP
    have hi0 : vp_in (nI (6 * j)) Ln := vp_in_nI (by omega) (by omega)
    have hi1 : vp_in (nI (6 * j) + 1) Ln := lw_in (c := 1) hLn hge (by omega)
    have hi2 : vp_in (nI (6 * j) + 2) Ln := lw_in (c := 2) hLn hge (by omega)
    have hi3 : vp_in (nI (6 * j) + 3) Ln := lw_in (c := 3) hLn hge (by omega)
    have hi4 : vp_in (nI (6 * j) + 4) Ln := lw_in (c := 4) hLn hge (by omega)
    have hi5 : vp_in (nI (6 * j) + 5) Ln := lw_in (c := 5) hLn hge (by omega)
    have kk : ∀ (I' : mIT) (R' : mRT) (L' : mLT), P I' R' L' → mG X E 2418 [(0, .ref b), (1, .ref (mB E + 0)), (2, .ref (mB E + 75)), (3, .ref (mB E + 105)), (4, .int (nI (6 * j)))] [] 106 1 I' R' L' (k + 1) (z + 6) := by
      intro I' R' L' hP'
      refine g_iinc hC dL_law_2418 rfl (q := 4) rfl (w := nI (6 * (j + 1))) ?_ (by decide) (lv' := [(4, .int (nI (6 * (j + 1)))), (0, .ref b), (1, .ref (mB E + 0)), (2, .ref (mB E + 75)), (3, .ref (mB E + 105))]) rfl ?_
      · exact nI_add (6 * j) 6
      · refine g_goto hC dL_law_2421 (tgt := 23) (by decide) ?_
        refine g_lv [1, 2, 3, 4, 0] rfl ?_
        exact ih (j + 1) I' R' L' (k + 1) (z + 6) hP' (by omega) (by omega) (by omega) (by omega)
    refine g_aload_n hC dL_law_33 (i := 0) rfl (q := 0) rfl ?_
    refine g_iload hC dL_law_34 (q := 4) rfl ?_
    refine g_scr hC hX hi0 dL_law_36 ?_
    refine g_bipush hC dL_law_37 (v := (63 : Int32)) (by decide) ?_
    refine g_iand hC dL_law_39 ?_
    refine g_nm (fun y hy => ?_)
    by_cases c0 : y = 0
    · refine g_tabI hC dL_law_40 (off := 200) (tgt := 240) (by rw [c0]; decide) (by rw [c0]; decide) (by rw [c0]; rfl) (by decide) ?_
      exact lc_feed hC hN hr hX hW hk hi1 rfl hi2 rfl hi3 rfl hi4 rfl hi5 rfl (hS.1 I R L _ _ _ _ _ hP) kk
    by_cases c1 : y = 1
    · refine g_tabI hC dL_law_40 (off := 273) (tgt := 313) (by rw [c1]; decide) (by rw [c1]; decide) (by rw [c1]; rfl) (by decide) ?_
      exact lc_tower hC hN hr hX hW hk hi1 rfl (hS.2.1 I R L _ hP) kk
    by_cases c2 : y = 2
    · refine g_tabI hC dL_law_40 (off := 329) (tgt := 369) (by rw [c2]; decide) (by rw [c2]; decide) (by rw [c2]; rfl) (by decide) ?_
      exact lc_fault hC hN hr hX hW hk  (hS.2.2.1 I R L  hP) kk
    by_cases c3 : y = 3
    · refine g_tabI hC dL_law_40 (off := 342) (tgt := 382) (by rw [c3]; decide) (by rw [c3]; decide) (by rw [c3]; rfl) (by decide) ?_
      exact lc_count hC hN hr hX hW hk hi1 rfl (hS.2.2.2.1 I R L _ hP) kk
    by_cases c4 : y = 4
    · refine g_tabI hC dL_law_40 (off := 398) (tgt := 438) (by rw [c4]; decide) (by rw [c4]; decide) (by rw [c4]; rfl) (by decide) ?_
      exact lc_root hC hN hr hX hW hk hi1 rfl hi2 rfl (hS.2.2.2.2.1 I R L _ _ hP) kk
    by_cases c5 : y = 5
    · refine g_tabI hC dL_law_40 (off := 466) (tgt := 506) (by rw [c5]; decide) (by rw [c5]; decide) (by rw [c5]; rfl) (by decide) ?_
      exact lc_hook hC hN hr hX hW hk hi1 rfl (hS.2.2.2.2.2.1 I R L _ hP) kk
    by_cases c6 : y = 6
    · refine g_tabI hC dL_law_40 (off := 522) (tgt := 562) (by rw [c6]; decide) (by rw [c6]; decide) (by rw [c6]; rfl) (by decide) ?_
      exact lc_tune hC hN hr hX hW hk hi1 rfl (hS.2.2.2.2.2.2.1 I R L _ hP) kk
    by_cases c7 : y = 7
    · refine g_tabI hC dL_law_40 (off := 578) (tgt := 618) (by rw [c7]; decide) (by rw [c7]; decide) (by rw [c7]; rfl) (by decide) ?_
      exact lc_change hC hN hr hX hW hk hi1 rfl (hS.2.2.2.2.2.2.2.1 I R L _ hP) kk
    by_cases c8 : y = 8
    · refine g_tabI hC dL_law_40 (off := 634) (tgt := 674) (by rw [c8]; decide) (by rw [c8]; decide) (by rw [c8]; rfl) (by decide) ?_
      exact lc_days hC hN hr hX hW hk hi1 rfl (hS.2.2.2.2.2.2.2.2.1 I R L _ hP) kk
    by_cases c9 : y = 9
    · refine g_tabI hC dL_law_40 (off := 659) (tgt := 699) (by rw [c9]; decide) (by rw [c9]; decide) (by rw [c9]; rfl) (by decide) ?_
      exact lc_hang hC hN hr hX hW hk hi1 rfl hi2 rfl (hS.2.2.2.2.2.2.2.2.2.1 I R L _ _ hP) kk
    by_cases c10 : y = 10
    · refine g_tabI hC dL_law_40 (off := 727) (tgt := 767) (by rw [c10]; decide) (by rw [c10]; decide) (by rw [c10]; rfl) (by decide) ?_
      exact lc_take hC hN hr hX hW hk hi1 rfl (hS.2.2.2.2.2.2.2.2.2.2.1 I R L _ hP) kk
    by_cases c11 : y = 11
    · refine g_tabI hC dL_law_40 (off := 783) (tgt := 823) (by rw [c11]; decide) (by rw [c11]; decide) (by rw [c11]; rfl) (by decide) ?_
      exact lc_hollow hC hN hr hX hW hk hi1 rfl hi2 rfl (hS.2.2.2.2.2.2.2.2.2.2.2.1 I R L _ _ hP) kk
    by_cases c12 : y = 12
    · refine g_tabI hC dL_law_40 (off := 851) (tgt := 891) (by rw [c12]; decide) (by rw [c12]; decide) (by rw [c12]; rfl) (by decide) ?_
      exact lc_eat hC hN hr hX hW hk hi1 rfl (hS.2.2.2.2.2.2.2.2.2.2.2.2.1 I R L _ hP) kk
    by_cases c13 : y = 13
    · refine g_tabI hC dL_law_40 (off := 914) (tgt := 954) (by rw [c13]; decide) (by rw [c13]; decide) (by rw [c13]; rfl) (by decide) ?_
      exact lc_alter hC hN hr hX hW hk hi1 rfl hi2 rfl (hS.2.2.2.2.2.2.2.2.2.2.2.2.2.1 I R L _ _ hP) kk
    by_cases c14 : y = 14
    · refine g_tabI hC dL_law_40 (off := 982) (tgt := 1022) (by rw [c14]; decide) (by rw [c14]; decide) (by rw [c14]; rfl) (by decide) ?_
      exact lc_undo hC hN hr hX hW hk  (hS.2.2.2.2.2.2.2.2.2.2.2.2.2.2.1 I R L  hP) kk
    by_cases c15 : y = 15
    · refine g_tabI hC dL_law_40 (off := 995) (tgt := 1035) (by rw [c15]; decide) (by rw [c15]; decide) (by rw [c15]; rfl) (by decide) ?_
      exact lc_then hC hN hr hX hW hk hi1 rfl hi2 rfl (hS.2.2.2.2.2.2.2.2.2.2.2.2.2.2.2.1 I R L _ _ hP) kk
    by_cases c16 : y = 16
    · refine g_tabI hC dL_law_40 (off := 1063) (tgt := 1103) (by rw [c16]; decide) (by rw [c16]; decide) (by rw [c16]; rfl) (by decide) ?_
      exact lc_goes hC hN hr hX hW hk hi1 rfl (hS.2.2.2.2.2.2.2.2.2.2.2.2.2.2.2.2.1 I R L _ hP) kk
    by_cases c17 : y = 17
    · refine g_tabI hC dL_law_40 (off := 1119) (tgt := 1159) (by rw [c17]; decide) (by rw [c17]; decide) (by rw [c17]; rfl) (by decide) ?_
      exact lc_rings hC hN hr hX hW hk hi1 rfl (hS.2.2.2.2.2.2.2.2.2.2.2.2.2.2.2.2.2.1 I R L _ hP) kk
    by_cases c18 : y = 18
    · refine g_tabI hC dL_law_40 (off := 1182) (tgt := 1222) (by rw [c18]; decide) (by rw [c18]; decide) (by rw [c18]; rfl) (by decide) ?_
      exact lc_last hC hN hr hX hW hk  (hS.2.2.2.2.2.2.2.2.2.2.2.2.2.2.2.2.2.2.1 I R L  hP) kk
    by_cases c19 : y = 19
    · refine g_tabI hC dL_law_40 (off := 1195) (tgt := 1235) (by rw [c19]; decide) (by rw [c19]; decide) (by rw [c19]; rfl) (by decide) ?_
      exact lc_soft hC hN hr hX hW hk  (hS.2.2.2.2.2.2.2.2.2.2.2.2.2.2.2.2.2.2.2.1 I R L  hP) kk
    by_cases c20 : y = 20
    · refine g_tabI hC dL_law_40 (off := 1208) (tgt := 1248) (by rw [c20]; decide) (by rw [c20]; decide) (by rw [c20]; rfl) (by decide) ?_
      exact lc_order hC hN hr hX hW hk hi1 rfl (hS.2.2.2.2.2.2.2.2.2.2.2.2.2.2.2.2.2.2.2.2.1 I R L _ hP) kk
    by_cases c21 : y = 21
    · refine g_tabI hC dL_law_40 (off := 1264) (tgt := 1304) (by rw [c21]; decide) (by rw [c21]; decide) (by rw [c21]; rfl) (by decide) ?_
      exact lc_row hC hN hr hX hW hk hi1 rfl (hS.2.2.2.2.2.2.2.2.2.2.2.2.2.2.2.2.2.2.2.2.2.1 I R L _ hP) kk
    by_cases c22 : y = 22
    · refine g_tabI hC dL_law_40 (off := 1320) (tgt := 1360) (by rw [c22]; decide) (by rw [c22]; decide) (by rw [c22]; rfl) (by decide) ?_
      exact lc_at hC hN hr hX hW hk hi1 rfl hi2 rfl (hS.2.2.2.2.2.2.2.2.2.2.2.2.2.2.2.2.2.2.2.2.2.2.1 I R L _ _ hP) kk
    by_cases c23 : y = 23
    · refine g_tabI hC dL_law_40 (off := 1388) (tgt := 1428) (by rw [c23]; decide) (by rw [c23]; decide) (by rw [c23]; rfl) (by decide) ?_
      exact lc_length hC hN hr hX hW hk  (hS.2.2.2.2.2.2.2.2.2.2.2.2.2.2.2.2.2.2.2.2.2.2.2.1 I R L  hP) kk
    by_cases c24 : y = 24
    · refine g_tabI hC dL_law_40 (off := 1401) (tgt := 1441) (by rw [c24]; decide) (by rw [c24]; decide) (by rw [c24]; rfl) (by decide) ?_
      exact lc_isTrue hC hN hr hX hW hk  (hS.2.2.2.2.2.2.2.2.2.2.2.2.2.2.2.2.2.2.2.2.2.2.2.2.1 I R L  hP) kk
    by_cases c25 : y = 25
    · refine g_tabI hC dL_law_40 (off := 1414) (tgt := 1454) (by rw [c25]; decide) (by rw [c25]; decide) (by rw [c25]; rfl) (by decide) ?_
      exact lc_longer hC hN hr hX hW hk  (hS.2.2.2.2.2.2.2.2.2.2.2.2.2.2.2.2.2.2.2.2.2.2.2.2.2.1 I R L  hP) kk
    by_cases c26 : y = 26
    · refine g_tabI hC dL_law_40 (off := 1427) (tgt := 1467) (by rw [c26]; decide) (by rw [c26]; decide) (by rw [c26]; rfl) (by decide) ?_
      exact lc_fit hC hN hr hX hW hk hi1 rfl (hS.2.2.2.2.2.2.2.2.2.2.2.2.2.2.2.2.2.2.2.2.2.2.2.2.2.2.1 I R L _ hP) kk
    by_cases c27 : y = 27
    · refine g_tabI hC dL_law_40 (off := 1483) (tgt := 1523) (by rw [c27]; decide) (by rw [c27]; decide) (by rw [c27]; rfl) (by decide) ?_
      exact lc_keepers hC hN hr hX hW hk  (hS.2.2.2.2.2.2.2.2.2.2.2.2.2.2.2.2.2.2.2.2.2.2.2.2.2.2.2.1 I R L  hP) kk
    by_cases c28 : y = 28
    · refine g_tabI hC dL_law_40 (off := 1496) (tgt := 1536) (by rw [c28]; decide) (by rw [c28]; decide) (by rw [c28]; rfl) (by decide) ?_
      exact lc_earliest hC hN hr hX hW hk  (hS.2.2.2.2.2.2.2.2.2.2.2.2.2.2.2.2.2.2.2.2.2.2.2.2.2.2.2.2.1 I R L  hP) kk
    by_cases c29 : y = 29
    · refine g_tabI hC dL_law_40 (off := 1509) (tgt := 1549) (by rw [c29]; decide) (by rw [c29]; decide) (by rw [c29]; rfl) (by decide) ?_
      exact lc_hear hC hN hr hX hW hk hi1 rfl hi2 rfl hi3 rfl (hS.2.2.2.2.2.2.2.2.2.2.2.2.2.2.2.2.2.2.2.2.2.2.2.2.2.2.2.2.2.1 I R L _ _ _ hP) kk
    by_cases c30 : y = 30
    · refine g_tabI hC dL_law_40 (off := 1574) (tgt := 1614) (by rw [c30]; decide) (by rw [c30]; decide) (by rw [c30]; rfl) (by decide) ?_
      exact lc_forget hC hN hr hX hW hk  (hS.2.2.2.2.2.2.2.2.2.2.2.2.2.2.2.2.2.2.2.2.2.2.2.2.2.2.2.2.2.2.1 I R L  hP) kk
    by_cases c31 : y = 31
    · refine g_tabI hC dL_law_40 (off := 1585) (tgt := 1625) (by rw [c31]; decide) (by rw [c31]; decide) (by rw [c31]; rfl) (by decide) ?_
      exact lc_eaten hC hN hr hX hW hk hi1 rfl (hS.2.2.2.2.2.2.2.2.2.2.2.2.2.2.2.2.2.2.2.2.2.2.2.2.2.2.2.2.2.2.2.1 I R L _ hP) kk
    by_cases c32 : y = 32
    · refine g_tabI hC dL_law_40 (off := 1641) (tgt := 1681) (by rw [c32]; decide) (by rw [c32]; decide) (by rw [c32]; rfl) (by decide) ?_
      exact lc_next hC hN hr hX hW hk hi1 rfl (hS.2.2.2.2.2.2.2.2.2.2.2.2.2.2.2.2.2.2.2.2.2.2.2.2.2.2.2.2.2.2.2.2.1 I R L _ hP) kk
    by_cases c33 : y = 33
    · refine g_tabI hC dL_law_40 (off := 1697) (tgt := 1737) (by rw [c33]; decide) (by rw [c33]; decide) (by rw [c33]; rfl) (by decide) ?_
      exact lc_game hC hN hr hX hW hk hi1 rfl hi2 rfl hi3 rfl (hS.2.2.2.2.2.2.2.2.2.2.2.2.2.2.2.2.2.2.2.2.2.2.2.2.2.2.2.2.2.2.2.2.2.1 I R L _ _ _ hP) kk
    by_cases c34 : y = 34
    · refine g_tabI hC dL_law_40 (off := 1777) (tgt := 1817) (by rw [c34]; decide) (by rw [c34]; decide) (by rw [c34]; rfl) (by decide) ?_
      exact lc_towers hC hN hr hX hW hk hi1 rfl hi2 rfl hi3 rfl (hS.2.2.2.2.2.2.2.2.2.2.2.2.2.2.2.2.2.2.2.2.2.2.2.2.2.2.2.2.2.2.2.2.2.2.1 I R L _ _ _ hP) kk
    by_cases c35 : y = 35
    · refine g_tabI hC dL_law_40 (off := 1857) (tgt := 1897) (by rw [c35]; decide) (by rw [c35]; decide) (by rw [c35]; rfl) (by decide) ?_
      exact lc_needed hC hN hr hX hW hk hi1 rfl hi2 rfl (hS.2.2.2.2.2.2.2.2.2.2.2.2.2.2.2.2.2.2.2.2.2.2.2.2.2.2.2.2.2.2.2.2.2.2.2.1 I R L _ _ hP) kk
    by_cases c36 : y = 36
    · refine g_tabI hC dL_law_40 (off := 1925) (tgt := 1965) (by rw [c36]; decide) (by rw [c36]; decide) (by rw [c36]; rfl) (by decide) ?_
      exact lc_grown hC hN hr hX hW hk hi1 rfl hi2 rfl (hS.2.2.2.2.2.2.2.2.2.2.2.2.2.2.2.2.2.2.2.2.2.2.2.2.2.2.2.2.2.2.2.2.2.2.2.2.1 I R L _ _ hP) kk
    by_cases c37 : y = 37
    · refine g_tabI hC dL_law_40 (off := 1993) (tgt := 2033) (by rw [c37]; decide) (by rw [c37]; decide) (by rw [c37]; rfl) (by decide) ?_
      exact lc_scale hC hN hr hX hW hk hi1 rfl (hS.2.2.2.2.2.2.2.2.2.2.2.2.2.2.2.2.2.2.2.2.2.2.2.2.2.2.2.2.2.2.2.2.2.2.2.2.2.1 I R L _ hP) kk
    by_cases c38 : y = 38
    · refine g_tabI hC dL_law_40 (off := 2049) (tgt := 2089) (by rw [c38]; decide) (by rw [c38]; decide) (by rw [c38]; rfl) (by decide) ?_
      exact lc_mouth hC hN hr hX hW hk hi1 rfl (hS.2.2.2.2.2.2.2.2.2.2.2.2.2.2.2.2.2.2.2.2.2.2.2.2.2.2.2.2.2.2.2.2.2.2.2.2.2.2.1 I R L _ hP) kk
    by_cases c39 : y = 39
    · refine g_tabI hC dL_law_40 (off := 2105) (tgt := 2145) (by rw [c39]; decide) (by rw [c39]; decide) (by rw [c39]; rfl) (by decide) ?_
      exact lc_leads hC hN hr hX hW hk hi1 rfl (hS.2.2.2.2.2.2.2.2.2.2.2.2.2.2.2.2.2.2.2.2.2.2.2.2.2.2.2.2.2.2.2.2.2.2.2.2.2.2.2.1 I R L _ hP) kk
    by_cases c40 : y = 40
    · refine g_tabI hC dL_law_40 (off := 2161) (tgt := 2201) (by rw [c40]; decide) (by rw [c40]; decide) (by rw [c40]; rfl) (by decide) ?_
      exact lc_meets hC hN hr hX hW hk hi1 rfl hi2 rfl (hS.2.2.2.2.2.2.2.2.2.2.2.2.2.2.2.2.2.2.2.2.2.2.2.2.2.2.2.2.2.2.2.2.2.2.2.2.2.2.2.2.1 I R L _ _ hP) kk
    by_cases c41 : y = 41
    · refine g_tabI hC dL_law_40 (off := 2229) (tgt := 2269) (by rw [c41]; decide) (by rw [c41]; decide) (by rw [c41]; rfl) (by decide) ?_
      exact lc_without hC hN hr hX hW hk hi1 rfl (hS.2.2.2.2.2.2.2.2.2.2.2.2.2.2.2.2.2.2.2.2.2.2.2.2.2.2.2.2.2.2.2.2.2.2.2.2.2.2.2.2.2.1 I R L _ hP) kk
    by_cases c42 : y = 42
    · refine g_tabI hC dL_law_40 (off := 2285) (tgt := 2325) (by rw [c42]; decide) (by rw [c42]; decide) (by rw [c42]; rfl) (by decide) ?_
      exact lc_often hC hN hr hX hW hk hi1 rfl (hS.2.2.2.2.2.2.2.2.2.2.2.2.2.2.2.2.2.2.2.2.2.2.2.2.2.2.2.2.2.2.2.2.2.2.2.2.2.2.2.2.2.2.1 I R L _ hP) kk
    by_cases c43 : y = 43
    · refine g_tabI hC dL_law_40 (off := 2341) (tgt := 2381) (by rw [c43]; decide) (by rw [c43]; decide) (by rw [c43]; rfl) (by decide) ?_
      exact lc_spare hC hN hr hX hW hk  (hS.2.2.2.2.2.2.2.2.2.2.2.2.2.2.2.2.2.2.2.2.2.2.2.2.2.2.2.2.2.2.2.2.2.2.2.2.2.2.2.2.2.2.2.1 I R L  hP) kk
    by_cases c44 : y = 44
    · refine g_tabI hC dL_law_40 (off := 2354) (tgt := 2394) (by rw [c44]; decide) (by rw [c44]; decide) (by rw [c44]; rfl) (by decide) ?_
      exact lc_image hC hN hr hX hW hk  (hS.2.2.2.2.2.2.2.2.2.2.2.2.2.2.2.2.2.2.2.2.2.2.2.2.2.2.2.2.2.2.2.2.2.2.2.2.2.2.2.2.2.2.2.2.1 I R L  hP) kk
    by_cases c45 : y = 45
    · refine g_tabI hC dL_law_40 (off := 2365) (tgt := 2405) (by rw [c45]; decide) (by rw [c45]; decide) (by rw [c45]; rfl) (by decide) ?_
      exact lc_restore hC hN hr hX hW hk  (hS.2.2.2.2.2.2.2.2.2.2.2.2.2.2.2.2.2.2.2.2.2.2.2.2.2.2.2.2.2.2.2.2.2.2.2.2.2.2.2.2.2.2.2.2.2 I R L  hP) kk
    refine g_tabO hC dL_law_40 (sw_out (fun j hj1 hj2 => ?_)) (tgt := 2418) (by decide) ?_
    · rcases (show j = 0 ∨ j = 1 ∨ j = 2 ∨ j = 3 ∨ j = 4 ∨ j = 5 ∨ j = 6 ∨ j = 7 ∨ j = 8 ∨ j = 9 ∨ j = 10 ∨ j = 11 ∨ j = 12 ∨ j = 13 ∨ j = 14 ∨ j = 15 ∨ j = 16 ∨ j = 17 ∨ j = 18 ∨ j = 19 ∨ j = 20 ∨ j = 21 ∨ j = 22 ∨ j = 23 ∨ j = 24 ∨ j = 25 ∨ j = 26 ∨ j = 27 ∨ j = 28 ∨ j = 29 ∨ j = 30 ∨ j = 31 ∨ j = 32 ∨ j = 33 ∨ j = 34 ∨ j = 35 ∨ j = 36 ∨ j = 37 ∨ j = 38 ∨ j = 39 ∨ j = 40 ∨ j = 41 ∨ j = 42 ∨ j = 43 ∨ j = 44 ∨ j = 45 by omega) with rfl | rfl | rfl | rfl | rfl | rfl | rfl | rfl | rfl | rfl | rfl | rfl | rfl | rfl | rfl | rfl | rfl | rfl | rfl | rfl | rfl | rfl | rfl | rfl | rfl | rfl | rfl | rfl | rfl | rfl | rfl | rfl | rfl | rfl | rfl | rfl | rfl | rfl | rfl | rfl | rfl | rfl | rfl | rfl | rfl | rfl <;> assumption
    exact g_wid (Nat.le_add_right _ 1) (Nat.le_add_right _ 6) (kk I R L hP)
/-- the tables behind both constructors and the law's own array -/
def iI0 : mIT := kI_12_75 (kI_11_0 (fun _ _ => 0))
def iR0 : mRT := kR_12_75 (kR_11_0 (fun _ _ => none))
def iL0 : mLT := kL_12_75 (kL_11_0 (fun _ _ => 0))
theorem mFr_0 : mFr 0 (fun _ _ => 0) (fun _ _ => none) (fun _ _ => 0) := fun _ _ _ => ⟨rfl, rfl, rfl⟩
theorem mRl_x {E : mEn} {n : Nat} {I : mIT} {R : mRT} {L : mLT} {H : Heap} (h : mRl E n 0 I R L H) : mRl E n 1 I R L H := ⟨⟨h.1.1, fun q => by cases q⟩, h.2⟩
theorem g_x {X : mXT} {E : mEn} {pc : Nat} {lv : List (Nat × Value)} {st : List Value} {n : Nat} {I : mIT} {R : mRT} {L : mLT} {k z : Nat} (kk : mG X E pc lv st n 1 I R L k z) : mG X E pc lv st n 0 I R L k z := fun ls H locs hl hR ho => kk ls H locs hl (mRl_x hR) ho
set_option maxRecDepth 20000 in
theorem lw_begin {X : mXT} {E : mEn} (hC : mC X E mLaw RL code) (hN : va_Nc "java/lang/IllegalArgumentException" "java/util/NoSuchElementException" X.2.2.2.1) (hr : X.2.2.2.2.2.2.2.2.2.2.1 = (1147, 45333)) {b Ln : Nat} {xs : Nat → Int32} (hX : va_X b Ln xs X.2.2.2.1 E.2.2.1 ∧ b < mB E) (hLn : Ln ≤ 3072) {Fu : Nat} {P : mIT → mRT → mLT → Prop} (hPW : ∀ I R L, P I R L → mWd R) (hS : lwSteps Fu P) (hP0 : P iI0 iR0 iL0) (hfin : ∀ (i : Int32) (I : mIT) (R : mRT) (L : mLT) (k z : Nat), k ≤ 1147 → z ≤ 45333 → mG X E 2424 [(0, .ref b), (1, .ref (mB E + 0)), (2, .ref (mB E + 75)), (3, .ref (mB E + 105)), (4, .int i)] [] 106 1 I R L k z) : mG X E 0 [(0, .ref b)] [] 0 0 (fun _ _ => 0) (fun _ _ => none) (fun _ _ => 0) 0 0 := by
  refine g_new hC (C := RX11) (T := TX11) (N := 16) (ci := 11) rfl rfl inG_11 tyX11_ok okT_11 wd_152 wd_153 wd_127 rfl rfl mFr_0 (by rw [hr]; decide) (by rw [hr]; decide) dL_law_0 ?_
  refine g_dup hC dL_law_3 rfl ?_
  refine g_cJ hC (mc2 := 74) (ms2 := 13532) ci_X11_init wd_154 ⟨Nat.le_of_ble_eq_true rfl, Nat.le_of_ble_eq_true rfl⟩ dL_law_4 (q := 0) (As := []) (st := [.ref (mB E + 0)]) (mk_11_0 hC.2.2.2.2.2.2.2.1 (mFr_0.up (by decide))) rfl rfl (Nat.le_of_ble_eq_true rfl) (by rw [hr]; decide) (mSm ?_)
  have f1 := kF_11_0 mFr_0
  refine g_astore_n hC dL_law_7 rfl rfl (by decide) (lv' := [(1, .ref (mB E + 0)), (0, .ref b)]) rfl ?_
  refine g_new hC (C := RX12) (T := TX12) (N := 66) (ci := 12) rfl rfl inG_12 tyX12_ok okT_12 wd_1629 wd_1630 wd_139 rfl rfl f1 (by rw [hr]; decide) (by rw [hr]; decide) dL_law_8 ?_
  refine g_dup hC dL_law_11 rfl ?_
  refine g_cJ hC (mc2 := 29) (ms2 := 23424) ci_X12_init wd_1631 ⟨Nat.le_of_ble_eq_true rfl, Nat.le_of_ble_eq_true rfl⟩ dL_law_12 (q := 75) (As := []) (st := [.ref (mB E + 75)]) (mk_12_75 hC.2.2.2.2.2.2.2.1 (f1.up (by decide))) rfl rfl (Nat.le_of_ble_eq_true rfl) (by rw [hr]; decide) (mSm ?_)
  have f2 := kF_12_75 f1
  refine g_astore_n hC dL_law_15 rfl rfl (by decide) (lv' := [(2, .ref (mB E + 75)), (1, .ref (mB E + 0)), (0, .ref b)]) rfl ?_
  refine g_iconst hC dL_law_16 (v := (1 : Int32)) (by decide) ?_
  refine g_naL hC (N := 1) wd_2322 rfl rfl f2 (by decide) (by decide) (by decide) (by rw [hr]; decide) (by rw [hr]; decide) dL_law_17 ?_
  refine g_astore_n hC dL_law_19 rfl rfl (by decide) (lv' := [(3, .ref (mB E + 105)), (2, .ref (mB E + 75)), (1, .ref (mB E + 0)), (0, .ref b)]) rfl ?_
  refine g_iconst hC dL_law_20 (v := (0 : Int32)) (by decide) ?_
  refine g_istore hC dL_law_21 rfl (by decide) (lv' := [(4, .int 0), (3, .ref (mB E + 105)), (2, .ref (mB E + 75)), (1, .ref (mB E + 0)), (0, .ref b)]) rfl ?_
  refine g_lv [4, 3, 2, 1, 0] rfl ?_
  refine g_x ?_
  exact lw_loop hC hN hr hX hLn hPW hS hfin 513 0 iI0 iR0 iL0 _ _ hP0 (by omega) (by omega) (by decide) (by decide)
