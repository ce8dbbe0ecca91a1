def sLN (k : Nat) : Nat := (mSB.getD k []).length
def sLn (k : Nat) : Int32 := Int32.ofNat (sLN k)
def sCh (k i : Nat) : Int32 := (mSB.getD k []).getD i 0
theorem mSB_ok : ∀ l ∈ mSB, ∀ b ∈ l, ((b &&& 255).toUInt32 % 65536).toInt32 = b ∧ narrow .char (.int b) = .int b := by decide +kernel
theorem sCh_ok (k i : Nat) : ((sCh k i &&& 255).toUInt32 % 65536).toInt32 = sCh k i ∧ narrow .char (.int (sCh k i)) = .int (sCh k i) := by
  unfold sCh
  by_cases hk : k < mSB.length
  · have e : mSB.getD k [] = mSB[k] := by rw [List.getD_eq_getElem?_getD, List.getElem?_eq_getElem hk]; rfl
    by_cases hi : i < (mSB.getD k []).length
    · have e2 : (mSB.getD k []).getD i 0 = (mSB.getD k [])[i] := by rw [List.getD_eq_getElem?_getD, List.getElem?_eq_getElem hi]; rfl
      rw [e2]
      exact mSB_ok (mSB.getD k []) (by rw [e]; exact List.getElem_mem hk) _ (List.getElem_mem hi)
    · rw [List.getD_eq_getElem?_getD, List.getElem?_eq_none (Nat.not_lt.mp hi)]; decide
  · have e : mSB.getD k [] = [] := by rw [List.getD_eq_getElem?_getD, List.getElem?_eq_none (Nat.not_lt.mp hk)]; rfl
    rw [e, show ([] : List Int32).getD i 0 = 0 from rfl]; decide
theorem sLn_shr : ∀ k, k < 35 → sLn k >>> ((0 : Int32) &&& 31) = sLn k := by decide +kernel
section STRS
variable {X : mXT} {E : mEn} {M : mMt} {own : String} {cc : ByteArray} {pc : Nat} {lv : List (Nat × Value)} {st : List Value} {n x : Nat} {I : mIT} {R : mRT} {L : mLT} {k z : Nat}
theorem mz_old (hC : mC X E M own cc) : ∀ a : Nat, a < E.2.2.1.size → ¬ mA E a → X.2.2.2.1.heap[a]? = E.2.2.1[a]? := by
  obtain ⟨n0, x9, I0, R0, L0, hR0⟩ := hC.2.2.2.2.2.2.2.2
  exact fun q hq _ => hR0.2.1 q hq
theorem mz_S (hC : mC X E M own cc) {H : Heap} {locs : List Loc} {k z : Nat} {Rm : Room} {Q : State → Prop} {g : JFrame} (hR : mRl E n x I R L H) (ho : ∀ w ∈ locs, mA E w.base)
    (kk : va_S (mA E) X.2.2.2.1.heap H locs → W X.1 X.2.1 X.2.2.1 Rm X.2.2.2.1 X.2.2.2.2.1 X.2.2.2.2.2.1 X.2.2.2.2.2.2.1 X.2.2.2.2.2.2.2.1 X.2.2.2.2.2.2.2.2.1 H locs k z Q g) :
    W X.1 X.2.1 X.2.2.1 Rm X.2.2.2.1 X.2.2.2.2.1 X.2.2.2.2.2.1 X.2.2.2.2.2.2.1 X.2.2.2.2.2.2.2.1 X.2.2.2.2.2.2.2.2.1 H locs k z Q g := by
  obtain ⟨n0, x9, I0, R0, L0, hR0⟩ := hC.2.2.2.2.2.2.2.2
  intro T hT Xs
  exact kk ⟨by rw [← hT]; exact Xs.same.2.1, fun q hq hn => by
    have hlt : q < mB E := Nat.not_le.mp hn
    rw [hR.2.1 q hlt, hR0.2.1 q hlt], ho⟩ T hT Xs
theorem g_lds (hC : mC X E M own cc) {j is : Nat} {tx : String} (hd : decode cc pc = .ok (.ldc is, 2)) (hj : mSL[j]? = some (own, is, tx)) (kk : mG X E (pc + 2) lv (.ref (E.2.2.2 j) :: st) n x I R L k z) : mG X E pc lv st n x I R L k z := fun ls H locs hl hR ho => va_ldcS hC.1.1 hC.1.2 hC.2.1.2 (hC.2.2.2.1.2.2.2.1.1 j _ hj) hd (kk ls H locs hl hR ho)
theorem g_sf (hC : mC X E M own cc) {o nm d : String} {index q : Nat} {v : Value} (hF : va_OF o nm d v q (mA E) X.2.2.2.1 E.2.2.1) (hlk : Cond.fieldLink own index o nm d ∈ tbG) (hd : decode cc pc = .ok (.getfield index, 3)) (kk : mG X E (pc + 3) lv (v :: st) n x I R L k z) : mG X E pc lv (.ref q :: st) n x I R L k z := fun ls H locs hl hR ho => mz_S hC hR ho (fun hS => vk_getf hC.1.1 hC.1.2 (hF.kept (mz_old hC)) hS hC.2.1.2 (hC.2.2.1 _ hlk) (fun _ h => h) hd (kk ls H locs hl hR ho))
theorem g_gs (hC : mC X E M own cc) {C nm d : String} {index : Nat} {v : Value} (hZ : va_Z C nm d v (mA E) X.2.2.2.1 E.2.2.1) (hlk : Cond.fieldLink own index C nm d ∈ tbG) (hd : decode cc pc = .ok (.getstatic index, 3)) (kk : mG X E (pc + 3) lv (v :: st) n x I R L k z) : mG X E pc lv st n x I R L k z := fun ls H locs hl hR ho => mz_S hC hR ho (fun hS => va_gets hC.1.1 hC.1.2 (hZ.kept (mz_old hC)) hS hC.2.1.2 (hC.2.2.1 _ hlk) (fun _ h => h) hd (kk ls H locs hl hR ho))
theorem g_tl (hC : mC X E M own cc) {ty : FieldType} {t N : Nat} {f : Nat → Value} (hT : va_T ty t N f (mA E) X.2.2.2.1 E.2.2.1) (hd : decode cc pc = .ok (.arraylength, 1)) (kk : mG X E (pc + 1) lv (.int (Int32.ofNat N) :: st) n x I R L k z) : mG X E pc lv (.ref t :: st) n x I R L k z := fun ls H locs hl hR ho => mz_S hC hR ho (fun hS => va_tlen hC.1.1 hC.1.2 (hT.kept (mz_old hC)) hS rfl hd (kk ls H locs hl hR ho))
theorem g_tb (hC : mC X E M own cc) {t N : Nat} {f : Nat → Value} {i : Int32} {v : Value} (hT : va_T .byte t N f (mA E) X.2.2.2.1 E.2.2.1) (hi : vp_in i N) (hv : f i.toNatClampNeg = v) (hd : decode cc pc = .ok (.baload, 1)) (kk : mG X E (pc + 1) lv (v :: st) n x I R L k z) : mG X E pc lv (.int i :: .ref t :: st) n x I R L k z := fun ls H locs hl hR ho => mz_S hC hR ho (fun hS => va_tb hC.1.1 hC.1.2 (hT.kept (mz_old hC)) hS hi hv hd (kk ls H locs hl hR ho))
theorem g_nret (hC : mC X E M own cc) {mc ms : Nat} {post : Option Value → Nat → Nat → mIT → mRT → mLT → Prop} {v : Int32} {ty : FieldType} (hn : narrow ty (.int v) = .int v) (hE : mEd X E mc ms post) (hr : M.2.2.2.1 = some ty) (hd : decode cc pc = .ok (.ireturn, 1)) (hk : k ≤ mc) (hz : z ≤ ms) (hp : post (some (.int v)) n x I R L) : mG X E pc lv [.int v] n x I R L k z := by
  intro ls H locs hl hR ho
  rw [hE.2]
  refine W.widen hk hz ?_
  exact W.zret (v := v) hC.1.1 hC.1.2 (by rw [hC.2.2.2.2.1.2.1]; exact hr) hn (fun t ht _ => ⟨_, n, x, I, R, L, rfl, hp, by rw [ht]; exact hR⟩) ho hd hC.2.2.2.2.1.1
theorem g_cVs (hC : mC X E M own cc) {M2 : mMt} {w : Value} {n1 x1 : Nat} {I1 : mIT} {R1 : mRT} {L1 : mLT} {q idx na : Nat} {As st0 : List Value} (hw : mCd M2 na) (him : Cond.instanceMethod M2.1 ∈ tbG) (hse : Cond.selects M2.1.cls M2.1 M2.1 ∈ tbG) (hlk : Cond.methodLink own idx M2.1 ∈ tbG) (hro : mRo M M2) (hO9 : va_O M2.1.cls q (mA E) X.2.2.2.1 E.2.2.1) (hd : decode cc pc = .ok (.invokevirtual idx, 3)) (hO : mOk X.2.1 E M2 (.ref q :: As) n x I R L 0 0 (mSame (some w) n1 x1 I1 R1 L1)) (hA : As.length = na) (hst : st0 = As.reverse ++ .ref q :: st) (hs8 : (st.map fun v => v.category).sum ≤ 8) (hmc : k ≤ X.2.2.2.2.2.2.2.2.2.2.1.1 ∧ z ≤ X.2.2.2.2.2.2.2.2.2.2.1.2) (kk : mG X E (pc + 3) lv (w :: st) n1 x1 I1 R1 L1 k z) : mG X E pc lv st0 n x I R L k z := by
  intro ls H locs hl hR ho
  obtain ⟨hcd, hini, hd3⟩ := hw
  refine mz_S hC hR ho (fun hS => ?_)
  have hrc : ∃ cell : Cell, H[q]? = some cell ∧ cell.vm.isStatics = false ∧ X.2.2.2.1.vm.findClass M2.1.cls = some cell.cls := by
    obtain ⟨cell, h1, h2, h3, -⟩ := (hO9.kept (mz_old hC)).kept hS.2.1
    exact ⟨cell, h1, h2, h3⟩
  exact mz_go (va_runV (As := As) (rest := st) ⟨hC.1.1, hC.1.2, hC.2.1.1, hC.2.1.2, hC.2.2.1⟩ hO ⟨callB_of na hC.2.2.1 (mGd hcd) rfl rfl rfl (hC.2.2.1 _ hini) (hC.2.2.1 _ hlk) hd3 (by rw [hC.2.2.2.2.2.1]; exact hro), hC.2.2.1 _ him, hC.2.2.1 _ hse⟩ ⟨mBl, hrc, fun U hU hW => ⟨rfl, by rw [hU]; exact hR, hC.2.2.2.1.warm hW⟩⟩ rfl hA (by rw [hl.1, hC.2.2.2.2.2.1]) hst (lv_room hs8) hd hmc) ho (fun r n' x' I' R' L' H1 locs1 hp h1 h2 => by
    obtain ⟨rfl, rfl, rfl, rfl, rfl, rfl⟩ := hp
    exact kk ls H1 locs1 hl h1 h2)
end STRS
set_option maxRecDepth 20000 in
theorem oJ_coder {l : Launch} {E : mEn} {n x : Nat} {I : mIT} {R : mRT} {L : mLT} {k : Nat} (hst : l.stackTraces = false) (hk : k < 35) : mOk l E mJ0_coder_7d493 [.ref (E.2.2.2 k)] n x I R L 0 0 (mSame (some (.int 0)) n x I R L) := by
  refine mOk_of hst (by decide) (Nat.le_of_ble_eq_true rfl) (fun X hC hE _ => ?_)
  have hC : mC X E mJ0_coder_7d493 RJ0 cJ0_coder_7d493 := hC
  obtain ⟨-, hs, hz, -⟩ := hC.2.2.2.1.2.2.2.1
  show mG X E 0 [(0, .ref (E.2.2.2 k))] [] n x I R L 0 0
  refine g_gs hC hz wd_969 dJ0_coder_7d493_0 ?_
  refine g_if_eq hC dJ0_coder_7d493_3 (tgt := 13) rfl (fun h => absurd h (by decide)) (fun _ => ?_)
  refine g_aload_n hC dJ0_coder_7d493_6 (i := 0) rfl (q := 0) rfl ?_
  refine g_sf hC (hs k hk).2.1 wd_2342 dJ0_coder_7d493_7 ?_
  refine g_goto hC dJ0_coder_7d493_10 (tgt := 14) rfl ?_
  exact g_nret hC (by decide) hE rfl dJ0_coder_7d493_14 (Nat.zero_le _) (Nat.zero_le _) ⟨rfl, rfl, rfl, rfl, rfl, rfl⟩
set_option maxRecDepth 20000 in
theorem oJ_lat {l : Launch} {E : mEn} {n x : Nat} {I : mIT} {R : mRT} {L : mLT} {k : Nat} (hst : l.stackTraces = false) (hk : k < 35) : mOk l E mJ0_isLatin1_aae02 [.ref (E.2.2.2 k)] n x I R L 0 0 (mSame (some (.int 1)) n x I R L) := by
  refine mOk_of hst (by decide) (Nat.le_of_ble_eq_true rfl) (fun X hC hE _ => ?_)
  have hC : mC X E mJ0_isLatin1_aae02 RJ0 cJ0_isLatin1_aae02 := hC
  obtain ⟨-, hs, hz, -⟩ := hC.2.2.2.1.2.2.2.1
  show mG X E 0 [(0, .ref (E.2.2.2 k))] [] n x I R L 0 0
  refine g_gs hC hz wd_969 dJ0_isLatin1_aae02_0 ?_
  refine g_if_eq hC dJ0_isLatin1_aae02_3 (tgt := 17) rfl (fun h => absurd h (by decide)) (fun _ => ?_)
  refine g_aload_n hC dJ0_isLatin1_aae02_6 (i := 0) rfl (q := 0) rfl ?_
  refine g_sf hC (hs k hk).2.1 wd_2342 dJ0_isLatin1_aae02_7 ?_
  refine g_if_ne hC dJ0_isLatin1_aae02_10 (tgt := 17) rfl (fun h => absurd rfl h) (fun _ => ?_)
  refine g_iconst hC dJ0_isLatin1_aae02_13 (v := 1) (by decide) ?_
  refine g_goto hC dJ0_isLatin1_aae02_14 (tgt := 18) rfl ?_
  exact g_nret hC (by decide) hE rfl dJ0_isLatin1_aae02_18 (Nat.zero_le _) (Nat.zero_le _) ⟨rfl, rfl, rfl, rfl, rfl, rfl⟩
set_option maxRecDepth 20000 in
theorem oJ_len {l : Launch} {E : mEn} {n x : Nat} {I : mIT} {R : mRT} {L : mLT} {k : Nat} (hst : l.stackTraces = false) (hk : k < 35) : mOk l E mJ0_length_8abf5 [.ref (E.2.2.2 k)] n x I R L 0 0 (mSame (some (.int (sLn k))) n x I R L) := by
  refine mOk_of hst (by decide) (Nat.le_of_ble_eq_true rfl) (fun X hC hE _ => ?_)
  have hC : mC X E mJ0_length_8abf5 RJ0 cJ0_length_8abf5 := hC
  have hst2 := hC.2.2.2.2.2.2.2.1
  obtain ⟨-, hs, hz, -⟩ := hC.2.2.2.1.2.2.2.1
  show mG X E 0 [(0, .ref (E.2.2.2 k))] [] n x I R L 0 0
  refine g_aload_n hC dJ0_length_8abf5_0 (i := 0) rfl (q := 0) rfl ?_
  refine g_sf hC (hs k hk).2.2.1 wd_2341 dJ0_length_8abf5_1 ?_
  refine g_tl hC (hs k hk).2.2.2 dJ0_length_8abf5_4 ?_
  refine g_aload_n hC dJ0_length_8abf5_5 (i := 0) rfl (q := 0) rfl ?_
  refine g_cVs hC (M2 := mJ0_coder_7d493) (na := 0) ⟨wd_968, wd_144, by decide, by decide, by decide⟩ wd_966 wd_967 wd_965 ⟨Nat.le_of_ble_eq_true rfl, Nat.le_of_ble_eq_true rfl⟩ (hs k hk).1 dJ0_length_8abf5_6 (As := []) (st := [.int (sLn k)]) (oJ_coder hst2 hk) rfl rfl (Nat.le_of_ble_eq_true rfl) ⟨Nat.zero_le _, Nat.zero_le _⟩ ?_
  refine g_ishr hC dJ0_length_8abf5_9 ?_
  rw [sLn_shr k hk]
  exact g_iret hC hE rfl dJ0_length_8abf5_10 (Nat.zero_le _) (Nat.zero_le _) ⟨rfl, rfl, rfl, rfl, rfl, rfl⟩
set_option maxRecDepth 20000 in
theorem oJ_pci {l : Launch} {E : mEn} {n x : Nat} {I : mIT} {R : mRT} {L : mLT} {i w : Int32} {f : Value} (hst : l.stackTraces = false) (hf : f = .null ∨ ∃ t, f = .ref t) (h1 : ¬ i < 0) (h2 : i < w) : mOk l E mJ3_checkIndex_8e157 [.int i, .int w, f] n x I R L 0 0 (mSame (some (.int i)) n x I R L) := by
  refine mOk_of hst (by decide) (by rcases hf with rfl | ⟨t, rfl⟩ <;> exact Nat.le_of_ble_eq_true rfl) (fun X hC hE _ => ?_)
  have hC : mC X E mJ3_checkIndex_8e157 RJ3 cJ3_checkIndex_8e157 := hC
  have key : ∀ lv : List (Nat × Value), lv[0]? = some (0, .int i) → lv[1]? = some (1, .int w) → mG X E 0 lv [] n x I R L 0 0 := by
    intro lv e0 e1
    refine g_iload_n hC dJ3_checkIndex_8e157_0 (i := 0) rfl (q := 0) e0 ?_
    refine g_if_lt hC dJ3_checkIndex_8e157_1 (tgt := 9) rfl (fun h => absurd h h1) (fun _ => ?_)
    refine g_iload_n hC dJ3_checkIndex_8e157_4 (i := 0) rfl (q := 0) e0 ?_
    refine g_iload_n hC dJ3_checkIndex_8e157_5 (i := 1) rfl (q := 1) e1 ?_
    refine g_ic_lt hC dJ3_checkIndex_8e157_6 (tgt := 16) rfl (fun _ => ?_) (fun h => absurd h2 h)
    refine g_iload_n hC dJ3_checkIndex_8e157_16 (i := 0) rfl (q := 0) e0 ?_
    exact g_iret hC hE rfl dJ3_checkIndex_8e157_17 (Nat.zero_le _) (Nat.zero_le _) ⟨rfl, rfl, rfl, rfl, rfl, rfl⟩
  rcases hf with rfl | ⟨t, rfl⟩
  · exact key _ rfl rfl
  · exact key _ rfl rfl
set_option maxRecDepth 20000 in
theorem oJ_ci {l : Launch} {E : mEn} {n x : Nat} {I : mIT} {R : mRT} {L : mLT} {i w : Int32} (hst : l.stackTraces = false) (h1 : ¬ i < 0) (h2 : i < w) : mOk l E mJ0_checkIndex_df160 [.int i, .int w] n x I R L 0 0 (mSame none n x I R L) := by
  refine mOk_of hst (by decide) (Nat.le_of_ble_eq_true rfl) (fun X hC hE _ => ?_)
  have hC : mC X E mJ0_checkIndex_df160 RJ0 cJ0_checkIndex_df160 := hC
  have hst2 := hC.2.2.2.2.2.2.2.1
  obtain ⟨-, -, -, hz⟩ := hC.2.2.2.1.2.2.2.1
  show mG X E 0 [(0, .int i), (1, .int w)] [] n x I R L 0 0
  refine g_iload_n hC dJ0_checkIndex_df160_0 (i := 0) rfl (q := 0) rfl ?_
  refine g_iload_n hC dJ0_checkIndex_df160_1 (i := 1) rfl (q := 1) rfl ?_
  have key : ∀ f : Value, (f = .null ∨ ∃ t, f = .ref t) → mG X E 5 [(0, .int i), (1, .int w)] [f, .int w, .int i] n x I R L 0 0 := by
    intro f hf
    refine g_cS1 hC (M2 := mJ3_checkIndex_8e157) (na := 3) ⟨⟨wd_989, wd_146, by decide, by decide, by decide⟩, wd_988⟩ wd_987 ⟨Nat.le_of_ble_eq_true rfl, Nat.le_of_ble_eq_true rfl⟩ dJ0_checkIndex_df160_5 (As := [.int i, .int w, f]) (st := []) (oJ_pci hst2 hf h1 h2) rfl rfl (Nat.le_of_ble_eq_true rfl) ⟨Nat.zero_le _, Nat.zero_le _⟩ ?_
    refine g_pop hC dJ0_checkIndex_df160_8 rfl ?_
    exact g_vret hC hE rfl dJ0_checkIndex_df160_9 (Nat.zero_le _) (Nat.zero_le _) ⟨rfl, rfl, rfl, rfl, rfl, rfl⟩
  rcases hz with hz | ⟨t, hz⟩
  · exact g_gs hC hz wd_985 dJ0_checkIndex_df160_2 (key _ (Or.inl rfl))
  · exact g_gs hC hz wd_985 dJ0_checkIndex_df160_2 (key _ (Or.inr ⟨t, rfl⟩))
theorem sC_lt {i : Int32} {N : Nat} (hN : N < 2 ^ 31) (h : vp_in i N) : ¬ i < 0 ∧ i < Int32.ofNat N := by
  have h1 : ¬ i < 0 := fun q => h (Or.inl q)
  have h2 : i.toNatClampNeg < N := Nat.not_le.mp fun q => h (Or.inr q)
  refine ⟨h1, ?_⟩
  have h3 : (0 : Int) ≤ i.toInt := by
    have := Int32.not_lt.mp h1
    simpa using Int32.le_iff_toInt_le.mp this
  rw [Int32.lt_iff_toInt_lt, Int32.toInt_ofNat_of_lt hN]
  have h4 : i.toNatClampNeg = i.toInt.toNat := rfl
  omega
theorem sLN_lt : ∀ k, k < 35 → sLN k < 2 ^ 31 := by decide +kernel
set_option maxRecDepth 20000 in
theorem oJ_lca {l : Launch} {E : mEn} {n x : Nat} {I : mIT} {R : mRT} {L : mLT} {k : Nat} {i : Int32} (hst : l.stackTraces = false) (hk : k < 35) (hi : vp_in i (sLN k)) : mOk l E mJ1_charAt_3b067 [.ref (E.2.2.2 (100 + k)), .int i] n x I R L 0 0 (mSame (some (.int (sCh k i.toNatClampNeg))) n x I R L) := by
  refine mOk_of hst (by decide) (Nat.le_of_ble_eq_true rfl) (fun X hC hE _ => ?_)
  have hC : mC X E mJ1_charAt_3b067 RJ1 cJ1_charAt_3b067 := hC
  have hst2 := hC.2.2.2.2.2.2.2.1
  obtain ⟨-, hs, -, -⟩ := hC.2.2.2.1.2.2.2.1
  obtain ⟨g1, g2⟩ := sC_lt (sLN_lt k hk) hi
  show mG X E 0 [(0, .ref (E.2.2.2 (100 + k))), (1, .int i)] [] n x I R L 0 0
  refine g_iload_n hC dJ1_charAt_3b067_0 (i := 1) rfl (q := 1) rfl ?_
  refine g_aload_n hC dJ1_charAt_3b067_1 (i := 0) rfl (q := 0) rfl ?_
  refine g_tl hC (hs k hk).2.2.2 dJ1_charAt_3b067_2 ?_
  refine g_cS0 hC (M2 := mJ0_checkIndex_df160) (na := 2) ⟨⟨wd_984, wd_144, by decide, by decide, by decide⟩, wd_983⟩ wd_982 ⟨Nat.le_of_ble_eq_true rfl, Nat.le_of_ble_eq_true rfl⟩ dJ1_charAt_3b067_3 (As := [.int i, .int (Int32.ofNat (mSB.getD k []).length)]) (st := []) (oJ_ci hst2 g1 g2) rfl rfl (Nat.le_of_ble_eq_true rfl) ⟨Nat.zero_le _, Nat.zero_le _⟩ ?_
  refine g_aload_n hC dJ1_charAt_3b067_6 (i := 0) rfl (q := 0) rfl ?_
  refine g_iload_n hC dJ1_charAt_3b067_7 (i := 1) rfl (q := 1) rfl ?_
  refine g_tb hC (v := .int (sCh k i.toNatClampNeg)) (hs k hk).2.2.2 hi rfl dJ1_charAt_3b067_8 ?_
  refine g_sipush hC dJ1_charAt_3b067_9 (v := 255) (by decide) ?_
  refine g_iand hC dJ1_charAt_3b067_12 ?_
  refine g_i2c hC dJ1_charAt_3b067_13 ?_
  rw [(sCh_ok k i.toNatClampNeg).1]
  exact g_nret hC (sCh_ok k i.toNatClampNeg).2 hE rfl dJ1_charAt_3b067_14 (Nat.zero_le _) (Nat.zero_le _) ⟨rfl, rfl, rfl, rfl, rfl, rfl⟩
set_option maxRecDepth 20000 in
theorem oJ_ca {l : Launch} {E : mEn} {n x : Nat} {I : mIT} {R : mRT} {L : mLT} {k : Nat} {i : Int32} (hst : l.stackTraces = false) (hk : k < 35) (hi : vp_in i (sLN k)) : mOk l E mJ0_charAt_5068e [.ref (E.2.2.2 k), .int i] n x I R L 0 0 (mSame (some (.int (sCh k i.toNatClampNeg))) n x I R L) := by
  refine mOk_of hst (by decide) (Nat.le_of_ble_eq_true rfl) (fun X hC hE _ => ?_)
  have hC : mC X E mJ0_charAt_5068e RJ0 cJ0_charAt_5068e := hC
  have hst2 := hC.2.2.2.2.2.2.2.1
  obtain ⟨-, hs, -, -⟩ := hC.2.2.2.1.2.2.2.1
  show mG X E 0 [(0, .ref (E.2.2.2 k)), (1, .int i)] [] n x I R L 0 0
  refine g_aload_n hC dJ0_charAt_5068e_0 (i := 0) rfl (q := 0) rfl ?_
  refine g_cVs hC (M2 := mJ0_isLatin1_aae02) (na := 0) ⟨wd_978, wd_144, by decide, by decide, by decide⟩ wd_976 wd_977 wd_975 ⟨Nat.le_of_ble_eq_true rfl, Nat.le_of_ble_eq_true rfl⟩ (hs k hk).1 dJ0_charAt_5068e_1 (As := []) (st := []) (oJ_lat hst2 hk) rfl rfl (Nat.le_of_ble_eq_true rfl) ⟨Nat.zero_le _, Nat.zero_le _⟩ ?_
  refine g_if_eq hC dJ0_charAt_5068e_4 (tgt := 16) rfl (fun h => absurd h (by decide)) (fun _ => ?_)
  refine g_aload_n hC dJ0_charAt_5068e_7 (i := 0) rfl (q := 0) rfl ?_
  refine g_sf hC (hs k hk).2.2.1 wd_2341 dJ0_charAt_5068e_8 ?_
  refine g_iload_n hC dJ0_charAt_5068e_11 (i := 1) rfl (q := 1) rfl ?_
  refine g_cS1 hC (M2 := mJ1_charAt_3b067) (na := 2) ⟨⟨wd_981, wd_145, by decide, by decide, by decide⟩, wd_980⟩ wd_979 ⟨Nat.le_of_ble_eq_true rfl, Nat.le_of_ble_eq_true rfl⟩ dJ0_charAt_5068e_12 (As := [.ref (E.2.2.2 (100 + k)), .int i]) (st := []) (oJ_lca hst2 hk hi) rfl rfl (Nat.le_of_ble_eq_true rfl) ⟨Nat.zero_le _, Nat.zero_le _⟩ ?_
  exact g_nret hC (sCh_ok k i.toNatClampNeg).2 hE rfl dJ0_charAt_5068e_15 (Nat.zero_le _) (Nat.zero_le _) ⟨rfl, rfl, rfl, rfl, rfl, rfl⟩
section STRC
variable {X : mXT} {E : mEn} {M : mMt} {own : String} {cc : ByteArray} {pc : Nat} {lv : List (Nat × Value)} {st : List Value} {n x : Nat} {I : mIT} {R : mRT} {L : mLT} {k z : Nat}
theorem g_slen (hC : mC X E M own cc) {q idx : Nat} (hk : q < 35) (hlk : Cond.methodLink own idx mJ0_length_8abf5.1 ∈ tbG) (hro : mRo M mJ0_length_8abf5) (hs8 : (st.map fun v => v.category).sum ≤ 8) (hmc : k ≤ X.2.2.2.2.2.2.2.2.2.2.1.1 ∧ z ≤ X.2.2.2.2.2.2.2.2.2.2.1.2) (hd : decode cc pc = .ok (.invokevirtual idx, 3)) (kk : mG X E (pc + 3) lv (.int (sLn q) :: st) n x I R L k z) : mG X E pc lv (.ref (E.2.2.2 q) :: st) n x I R L k z :=
  g_cVs hC (M2 := mJ0_length_8abf5) (na := 0) ⟨wd_964, wd_144, by decide, by decide, by decide⟩ wd_962 wd_963 hlk hro ((hC.2.2.2.1.2.2.2.1.2.1 q hk).1) hd (As := []) (st := st) (oJ_len hC.2.2.2.2.2.2.2.1 hk) rfl rfl hs8 hmc kk
theorem g_scha (hC : mC X E M own cc) {q idx : Nat} {i : Int32} (hk : q < 35) (hi : vp_in i (sLN q)) (hlk : Cond.methodLink own idx mJ0_charAt_5068e.1 ∈ tbG) (hro : mRo M mJ0_charAt_5068e) (hs8 : (st.map fun v => v.category).sum ≤ 8) (hmc : k ≤ X.2.2.2.2.2.2.2.2.2.2.1.1 ∧ z ≤ X.2.2.2.2.2.2.2.2.2.2.1.2) (hd : decode cc pc = .ok (.invokevirtual idx, 3)) (kk : mG X E (pc + 3) lv (.int (sCh q i.toNatClampNeg) :: st) n x I R L k z) : mG X E pc lv (.int i :: .ref (E.2.2.2 q) :: st) n x I R L k z :=
  g_cVs hC (M2 := mJ0_charAt_5068e) (na := 1) ⟨wd_974, wd_144, by decide, by decide, by decide⟩ wd_972 wd_973 hlk hro ((hC.2.2.2.1.2.2.2.1.2.1 q hk).1) hd (As := [.int i]) (st := st) (oJ_ca hC.2.2.2.2.2.2.2.1 hk hi) rfl rfl hs8 hmc kk
end STRC
section VXC
variable {X : mXT} {E : mEn} {M : mMt} {own : String} {cc : ByteArray} {pc : Nat} {lv : List (Nat × Value)} {st : List Value} {n x : Nat} {I : mIT} {R : mRT} {L : mLT} {k z : Nat}
theorem g_cVy1 (hC : mC X E M own cc) {M2 : mMt} {mc ms : Nat} {post : Option Value → Nat → Nat → mIT → mRT → mLT → Prop} {px : String → Nat → Nat → mIT → mRT → mLT → Prop} {w : Value} {n1 x1 : Nat} {I1 : mIT} {R1 : mRT} {L1 : mLT} (hE : mEx X E mc ms post px) {q ci idx na : Nat} {As st0 : List Value} (hw : mCv M2 ci na) (hlk : Cond.methodLink own idx M2.1 ∈ tbG) (hro : mRo M M2) (hT : mT q = (0, ci)) (hq : q < n) (hd : decode cc pc = .ok (.invokevirtual idx, 3)) (hO : mOx X.2.1 E M2 (.ref (mB E + q) :: As) n x I R L 0 0 (mSame (some w) n1 x1 I1 R1 L1) (fun _ _ _ _ _ _ => False)) (hA : As.length = na) (hst : st0 = As.reverse ++ .ref (mB E + q) :: st) (hs8 : (st.map fun v => v.category).sum ≤ 8) (hmc : k ≤ mc ∧ z ≤ ms) (kk : mG X E (pc + 3) lv (w :: st) n1 x1 I1 R1 L1 k z) : mG X E pc lv st0 n x I R L k z := by
  refine g_cVx hC hE hw hlk hro hT hq hd hO hA hst hs8 hmc (fun rr n2 x2 I2 R2 L2 hs => ?_) (fun _ _ _ _ _ _ hf => hf.elim)
  obtain ⟨rfl, rfl, rfl, rfl, rfl, rfl⟩ := hs
  exact kk
theorem g_cVy0 (hC : mC X E M own cc) {M2 : mMt} {mc ms : Nat} {post : Option Value → Nat → Nat → mIT → mRT → mLT → Prop} {px : String → Nat → Nat → mIT → mRT → mLT → Prop} {n1 x1 : Nat} {I1 : mIT} {R1 : mRT} {L1 : mLT} (hE : mEx X E mc ms post px) {q ci idx na : Nat} {As st0 : List Value} (hw : mCv M2 ci na) (hlk : Cond.methodLink own idx M2.1 ∈ tbG) (hro : mRo M M2) (hT : mT q = (0, ci)) (hq : q < n) (hd : decode cc pc = .ok (.invokevirtual idx, 3)) (hO : mOx X.2.1 E M2 (.ref (mB E + q) :: As) n x I R L 0 0 (mSame none n1 x1 I1 R1 L1) (fun _ _ _ _ _ _ => False)) (hA : As.length = na) (hst : st0 = As.reverse ++ .ref (mB E + q) :: st) (hs8 : (st.map fun v => v.category).sum ≤ 8) (hmc : k ≤ mc ∧ z ≤ ms) (kk : mG X E (pc + 3) lv st n1 x1 I1 R1 L1 k z) : mG X E pc lv st0 n x I R L k z := by
  refine g_cVx hC hE hw hlk hro hT hq hd hO hA hst hs8 hmc (fun rr n2 x2 I2 R2 L2 hs => ?_) (fun _ _ _ _ _ _ hf => hf.elim)
  obtain ⟨rfl, rfl, rfl, rfl, rfl, rfl⟩ := hs
  exact kk
theorem g_cVz (hC : mC X E M own cc) {M2 : mMt} {mc ms : Nat} {post : Option Value → Nat → Nat → mIT → mRT → mLT → Prop} {px : String → Nat → Nat → mIT → mRT → mLT → Prop} {c1 n1 x1 : Nat} {I1 : mIT} {R1 : mRT} {L1 : mLT} (hE : mEx X E mc ms post px) {q ci idx na : Nat} {As st0 : List Value} (hw : mCv M2 ci na) (hlk : Cond.methodLink own idx M2.1 ∈ tbG) (hro : mRo M M2) (hT : mT q = (0, ci)) (hq : q < n) (hd : decode cc pc = .ok (.invokevirtual idx, 3)) (hO : mOx X.2.1 E M2 (.ref (mB E + q) :: As) n x I R L 1 6 (fun _ _ _ _ _ _ => False) (mXp c1 n1 x1 I1 R1 L1)) (hA : As.length = na) (hst : st0 = As.reverse ++ .ref (mB E + q) :: st) (hs8 : (st.map fun v => v.category).sum ≤ 8) (hmc : k + 1 ≤ mc ∧ z + 6 ≤ ms) (hp : px (xNm c1) n1 x1 I1 R1 L1) : mG X E pc lv st0 n x I R L k z := by
  refine g_cVx hC hE hw hlk hro hT hq hd hO hA hst hs8 hmc (fun _ _ _ _ _ _ hf => hf.elim) (fun en n2 x2 I2 R2 L2 hx => ?_)
  obtain ⟨rfl, rfl, rfl, rfl, rfl, rfl⟩ := hx
  exact hp
end VXC
