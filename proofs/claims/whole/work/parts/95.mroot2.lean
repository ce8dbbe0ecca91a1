theorem m_160bad {Fu : Nat} {J : mIT} {M : mLT} {r : Nat} (hr : r < 10) (hb : J 75 14 ≠ 0) : b_X12_readsRoot_160 Fu (nI r) J M = some (mU J 85 (31 + r) (J 75 22), M) := by
  unfold b_X12_readsRoot_160
  have hb' : (mU J 85 (31 + r) (J 75 22)) 75 14 ≠ 0 := by rw [mU_other (by decide)]; exact hb
  rw [show (31 : Int32) + nI r = nI (31 + r) from nI_add 31 r, q_GI (by omega) (by omega), q_cl (by omega), m_good0 hb', q_B, if_pos rfl, q_B, if_pos rfl]
theorem m_81bad {Fu : Nat} {J : mIT} {M : mLT} {r : Nat} {s1 s3 s4 : Int32} (hr : r < 10) (hs1 : s1 = nI (11 + r)) (hb : J 75 14 ≠ 0) : wp (b_X12_readsRoot_81 Fu (nI r) s1 s3 s4 J M) (fun y => y.1 75 14 = J 75 14 ∧ y.1 75 15 = J 75 15 ∧ mRt J y.1 r ∧ y.2 = M) := by
  unfold b_X12_readsRoot_81
  refine wp_Be (m_number0 hb) ?_
  dsimp only
  rw [hs1, show (21 : Int32) + nI r = nI (21 + r) from nI_add 21 r, show (31 : Int32) + nI r = nI (31 + r) from nI_add 31 r, q_GI (by omega) (by omega), q_GI (by omega) (by omega), q_GI (by omega) (by omega), q_cl (by omega), q_cl (by omega), q_cl (by omega)]
  generalize hK : mU (mU (mU J 85 (11 + r) 0) 85 (21 + r) 0) 85 (31 + r) (-1) = K
  have kf : mRt J K r := by
    rw [← hK]
    exact mRt_5 (mRt_5 (mRt_5 (mRt_r J r) (by omega)) (by omega)) (by omega)
  have k5 : K 75 = J 75 := by rw [← hK, mU_other (by decide), mU_other (by decide), mU_other (by decide)]
  have hb' : K 75 14 ≠ 0 := by rw [k5]; exact hb
  exact wp_Be (m_good0 hb') (wp_p rfl (wp_Be (m_good0 hb') (wp_p rfl (wp_s ⟨by dsimp only; rw [k5], by dsimp only; rw [k5], kf, rfl⟩))))
theorem m_81 {Fu : Nat} {I J : mIT} {L M : mLT} {B : Nat → Nat} {n a ce s : Nat} {S : lS} {k s1 s4 : Int32} (hF : 2200 < Fu) (ht : tpe B n) (hT : mTk J M B n a) (hg : J 75 14 = 0) (h15 : J 75 15 = I 75 15) (f : mRt I J (pR S.1)) (lf : lF L M) (hk : J 82 (pR S.1) = k) (h1 : J 85 (1 + pR S.1) = nI s) (hL : mL I S ce) (hce : ce ≤ 2 * a) (h10 : pR S.1 < 10) (hs : s ≤ 60) (hs1 : s1 = nI (11 + pR S.1)) (hs4 : s4 = nI (min 20 (s - 1))) : wp (b_X12_readsRoot_81 Fu (nI (pR S.1)) s1 0 s4 J M) (mBo I L B n (rt2 B n a S k s)) := by
  have h700 := ht.1
  have ha := hT.2.1
  unfold b_X12_readsRoot_81 rt2
  rw [hs4]
  refine wp_B (m_number (lo := 0) hF ht hT hg (by omega) (by omega)) ?_
  rintro ⟨v, J1, M1⟩ hy
  dsimp only at hy ⊢
  rw [hs1, show (21 : Int32) + nI (pR S.1) = nI (21 + pR S.1) from nI_add 21 _, show (31 : Int32) + nI (pR S.1) = nI (31 + pR S.1) from nI_add 31 _, q_GI (by omega) (by omega), q_GI (by omega) (by omega), q_GI (by omega) (by omega), q_cl (by omega), q_cl (by omega), q_cl (by omega)]
  generalize hK : mU (mU (mU J1 85 (11 + pR S.1) v) 85 (21 + pR S.1) 0) 85 (31 + pR S.1) (-1) = K
  have kf : mRt J1 K (pR S.1) := by
    rw [← hK]
    exact mRt_5 (mRt_5 (mRt_5 (mRt_r J1 _) (by omega)) (by omega)) (by omega)
  have k5 : K 75 = J1 75 := by rw [← hK, mU_other (by decide), mU_other (by decide), mU_other (by decide)]
  have kc : ∀ c, c ≠ 85 → K c = J1 c := fun c hc => by rw [← hK, mU_other hc, mU_other hc, mU_other hc]
  have k1 : K 85 (1 + pR S.1) = J1 85 (1 + pR S.1) := by rw [← hK, q_Uj (by omega), q_Uj (by omega), q_Uj (by omega)]
  have k2 : K 85 (11 + pR S.1) = v := by rw [← hK, q_Uj (by omega), q_Uj (by omega), q_U]
  have k3 : K 85 (21 + pR S.1) = 0 := by rw [← hK, q_Uj (by omega), q_U]
  have k4 : K 85 (31 + pR S.1) = -1 := by rw [← hK, q_U]
  rcases hy with ⟨e, y1, y2, y3, y4⟩ | ⟨e, y1, y2⟩
  · rw [if_pos e]
    have g14 : K 75 14 = 0 := by rw [k5, y3.1 14 (by omega)]; exact hg
    have g15 : K 75 15 = I 75 15 := by rw [k5, y3.1 15 (by omega)]; exact h15
    have KT : mTk K M1 B n (nx B n a) := mTk_k y2 (fun j _ _ => by rw [k5]) (kc 80 (by decide))
    have KR : mRt I K (pR S.1) := mRt_t (mRt_s f y3) kf
    have KL : lF L M1 := lF_t lf y4
    have Kk : K 82 (pR S.1) = k := by rw [kc 82 (by decide), y3.2 82 (by decide)]; exact hk
    have K1 : K 85 (1 + pR S.1) = nI s := by rw [k1, y3.2 85 (by decide)]; exact h1
    have hn1 := nx_ge (B := B) ha
    have hKk := tK_4 (B := B) (n := n) (a := nx B n a)
    have hE := tE_le (B := B) hn1.2
    have K25 : K 75 25 = nI (pR S.1) := by rw [KR.1 25 (by omega)]; exact hL.1
    refine wp_Be (m_good1 g14) (wp_n (by decide) ?_)
    unfold rt3
    rw [KT.2.2.2.1]
    refine wp_i (q_eq (b := 2) (by omega) (by omega)) (fun c2 => ?_) (fun c2 => ?_)
    · rw [if_pos c2]
      have hN := tN_lt (B := B) (n := n) (a := nx B n a) c2
      have K22 : K 75 22 = nI (tN B n (nx B n a)) := by rw [KT.2.2.2.2.2.2.1, if_pos c2]
      -- a fault here
      have bad : ∀ q : Nat, k15 q → ∀ v : Int32, v = nI q → wp (oB (f_X12_wrong Fu K v) (fun r138 => b_X12_readsRoot_160 Fu (nI (pR S.1)) r138 M1)) (mBo I L B n (.inl (q, nx B n a))) := fun q hq v hv => by
        refine wp_Be (m_wr hv KT g14) ?_
        refine wp_e (m_160bad h10 (by rw [mBd_14]; exact bad_ne hq)) ⟨mRt_x (mRt_5 (mRt_b KR) (by omega)), KL, Or.inl ⟨?_, hq, ?_⟩⟩
        · dsimp only
          rw [mU_other (by decide), mBd_14]
        · dsimp only
          rw [mU_other (by decide), mBd_15]
      rw [KT.2.2.2.2.2.1, K22, show (4 : Int32) = nI 4 from rfl, show (5 : Int32) = nI 5 from rfl]
      refine wp_i (q_lt (by omega) (by omega)) (fun c4 => ?_) (fun c4 => wp_i (q_le (by omega) (by omega)) (fun c5 => ?_) (fun c5 => ?_))
      · have e5 : ¬ numS B n (nx B n a) 0 5 = 0 := fun q => by have := numS_2 q; omega
        rw [if_neg e5]
        exact bad 2 k15_2 _ rfl
      · have e5 : numS B n (nx B n a) 0 5 = 0 := by unfold numS; rw [if_pos c2, if_pos (by omega)]
        rw [if_pos e5]
        refine wp_B (m_hangsT (S := S) hF (by omega) K25 (fun q hq => ?_)) ?_
        · rw [KR.2.2.1 _ (by omega) (by omega) (by omega) (by omega)]
          have := hL.2.2.2.2.2.2.2.2.1 (31 + q) (by unfold live; omega)
          rw [Nat.zero_add] at this
          exact this
        · rintro w (⟨w1, rfl⟩ | ⟨w1, rfl⟩)
          · rw [if_pos w1]
            exact wp_n (by decide) (bad 4 k15_4 _ rfl)
          · rw [if_neg w1]
            refine wp_p rfl ?_
            unfold b_X12_readsRoot_160
            rw [show (31 : Int32) + nI (pR S.1) = nI (31 + pR S.1) from nI_add 31 _, q_GI (by omega) (by omega), q_cl (by omega), K22]
            generalize hQ : mU K 85 (31 + pR S.1) (nI (tN B n (nx B n a))) = Q
            have q5 : Q 75 = K 75 := by rw [← hQ, mU_other (by decide)]
            have QR : mRt I Q (pR S.1) := by rw [← hQ]; exact mRt_5 KR (by omega)
            have QT : mTk Q M1 B n (nx B n a) := mTk_k KT (fun j _ _ => by rw [q5]) (by rw [← hQ, mU_other (by decide)])
            refine wp_Be (m_good1 (by rw [q5]; exact g14)) (wp_n (by decide) (wp_B (m_nx hF ht QT) ?_))
            rintro ⟨P, N⟩ ⟨p1, p2, p3⟩
            dsimp only at p1 p2 p3 ⊢
            have PR := mRt_s QR p2
            have P14 : P 75 14 = 0 := by rw [p2.1 14 (by omega), q5]; exact g14
            refine wp_Be (m_good1 P14) (wp_n (by decide) ?_)
            rw [PR.1 25 (by omega), hL.1, q_1]
            have hn2 := nx_ge (B := B) hn1.2
            refine wp_s ⟨mFx_u (mRt_x PR) (by omega), lF_t KL p3, ?_, ?_, ?_, ce, ?_, ?_⟩
            · dsimp only
              rw [q_Uj (by decide)]; exact P14
            · dsimp only
              rw [q_Uj (by decide), p2.1 15 (by omega), q5]; exact g15
            · exact mTk_uu p1 (by omega)
            · refine mL_add hL h10 PR ?_ ?_ ?_ ?_ ?_
              · rw [p2.2 82 (by decide), ← hQ, mU_other (by decide)]; exact Kk
              · rw [p2.2 85 (by decide), ← hQ, q_Uj (by omega)]; exact K1
              · rw [p2.2 85 (by decide), ← hQ, q_Uj (by omega), k2]; exact y1
              · rw [p2.2 85 (by decide), ← hQ, q_Uj (by omega)]; exact k3
              · rw [p2.2 85 (by decide), ← hQ, q_U]
            · dsimp only
              omega
      · have e5 : ¬ numS B n (nx B n a) 0 5 = 0 := fun q => by have := numS_2 q; omega
        rw [if_neg e5]
        exact bad 2 k15_2 _ rfl
    · rw [if_neg c2]
      refine wp_Be (m_good1 g14) (wp_n (by decide) ?_)
      rw [K25, q_1]
      refine wp_s ⟨mFx_u (mRt_x KR) (by omega), KL, ?_, ?_, ?_, ce, ?_, ?_⟩
      · dsimp only
        rw [q_Uj (by decide)]; exact g14
      · dsimp only
        rw [q_Uj (by decide)]; exact g15
      · exact mTk_uu KT (by omega)
      · exact mL_add hL h10 KR Kk K1 (by rw [k2]; exact y1) k3 k4
      · dsimp only
        omega
  · rw [if_neg e]
    have hb' : K 75 14 ≠ 0 := by rw [k5, y1, mBd_14]; exact bad_ne (numS_k e)
    have KR : mRt I K (pR S.1) := by
      rw [y1] at kf
      exact mRt_t (mRt_b f) kf
    refine wp_Be (m_good0 hb') (wp_p rfl (wp_Be (m_good0 hb') (wp_p rfl (wp_s ⟨mRt_x KR, by rw [y2]; exact lf, Or.inl ⟨?_, numS_k e, ?_⟩⟩))))
    · dsimp only
      rw [k5, y1, mBd_14]
    · dsimp only
      rw [k5, y1, mBd_15]
theorem m_root {Fu : Nat} {I : mIT} {L : mLT} {B : Nat → Nat} {n a ce : Nat} {S : lS} {k : Int32} (hF : 2200 < Fu) (ht : tpe B n) (hT : mTk I L B n a) (hg : I 75 14 = 0) (hL : mL I S ce) (hce : ce ≤ 2 * a) (h10 : pR S.1 ≤ 10) : wp (f_X12_readsRoot Fu I L k) (mBo I L B n (rtS B n a S k)) := by
  have h700 := ht.1
  have ha := hT.2.1
  have hn1 := nx_ge (B := B) ha
  have hn2 := nx_ge (B := B) hn1.2
  unfold f_X12_readsRoot rtS
  rw [hL.1]
  refine wp_i (q_eq (b := 10) (by omega) (by omega)) (fun c10 => ?_) (fun c10 => ?_)
  · rw [if_neg (by omega)]
    refine wp_Be (m_wr (k := 2) rfl hT hg) ?_
    unfold b_X12_readsRoot_14
    exact wp_Be (m_good0 (by rw [mBd_14]; decide)) (wp_p rfl (wp_s ⟨mRt_x (mRt_b (mRt_r I 0)), lF_r L, Or.inl ⟨mBd_14 (I := I) (k := 2) (a := a), k15_2, mBd_15 (I := I) (k := 2) (a := a)⟩⟩))
  · rw [if_pos (by omega)]
    unfold b_X12_readsRoot_14 rt1
    refine wp_Be (m_good1 hg) (wp_n (by decide) (wp_B (m_nx hF ht hT) ?_))
    rintro ⟨J, M⟩ ⟨j1, j2, j3⟩
    dsimp only at j1 j2 j3 ⊢
    have J25 : J 75 25 = nI (pR S.1) := by rw [j2.1 25 (by omega)]; exact hL.1
    rw [J25, q_GI (by omega) (by omega), q_cl (by omega)]
    have JR : mRt I (mU J 82 (pR S.1) k) (pR S.1) := mRt_2 (mRt_s (mRt_r I _) j2)
    have JT : mTk (mU J 82 (pR S.1) k) M B n (nx B n a) := mTk_k j1 (fun j _ _ => by rw [mU_other (by decide)]) (mU_other (by decide))
    have J14 : (mU J 82 (pR S.1) k) 75 14 = 0 := by rw [mU_other (by decide), j2.1 14 (by omega)]; exact hg
    refine wp_B (m_number (lo := 1) (hi := 60) hF ht JT J14 (by omega) (by omega)) ?_
    rintro ⟨v, J1, M1⟩ hy
    dsimp only at hy ⊢
    rw [show (1 : Int32) + nI (pR S.1) = nI (1 + pR S.1) from nI_add 1 _, show (11 : Int32) + nI (pR S.1) = nI (11 + pR S.1) from nI_add 11 _, q_GI (by omega) (by omega), q_cl (by omega)]
    rcases hy with ⟨e, y1, y2, y3, y4⟩ | ⟨e, y1, y2⟩
    · rw [if_pos e]
      have n2 := numS_2 e
      subst y1
      have K5 : ∀ j, (mU J1 85 (1 + pR S.1) (nI (tN B n (nx B n a)))) 75 j = J1 75 j := fun j => by rw [mU_other (by decide)]
      have KT : mTk (mU J1 85 (1 + pR S.1) (nI (tN B n (nx B n a)))) M1 B n (nx B n (nx B n a)) := mTk_k y2 (fun j _ _ => K5 j) (mU_other (by decide))
      have go : ∀ s4 : Int32, s4 = nI (min 20 (tN B n (nx B n a) - 1)) → wp (b_X12_readsRoot_81 Fu (nI (pR S.1)) (nI (11 + pR S.1)) 0 s4 (mU J1 85 (1 + pR S.1) (nI (tN B n (nx B n a)))) M1) (mBo I L B n (rt2 B n (nx B n (nx B n a)) S k (tN B n (nx B n a)))) := fun s4 h4 => m_81 hF ht KT (by rw [K5, y3.1 14 (by omega)]; exact J14) (by rw [K5, y3.1 15 (by omega), mU_other (by decide), j2.1 15 (by omega)]) (mRt_5 (mRt_s JR y3) (by omega)) (lF_t j3 y4) (by rw [mU_other (by decide), y3.2 82 (by decide), q_U]) (q_U _ _ _ _) hL (by omega) (by omega) n2.2.2.2 rfl h4
      rw [q_m1 (by omega), show (20 : Int32) = nI 20 from rfl]
      refine wp_i (q_le (by omega) (by omega)) (fun c => go _ ?_) (fun c => go _ ?_)
      · congr 1; omega
      · congr 1; omega
    · rw [if_neg e]
      have hb : (mU J1 85 (1 + pR S.1) v) 75 14 ≠ 0 := by rw [mU_other (by decide), y1, mBd_14]; exact bad_ne (numS_k e)
      have fin : ∀ s4 : Int32, wp (b_X12_readsRoot_81 Fu (nI (pR S.1)) (nI (11 + pR S.1)) 0 s4 (mU J1 85 (1 + pR S.1) v) M1) (mBo I L B n (.inl (numS B n (nx B n a) 1 60, nx B n a))) := fun s4 => by
        refine wp_m (m_81bad (by omega) rfl hb) ?_
        rintro ⟨P, N⟩ ⟨p1, p2, p3, p4⟩
        dsimp only at p1 p2 p3 p4
        refine ⟨?_, by rw [p4, y2]; exact j3, Or.inl ⟨?_, numS_k e, ?_⟩⟩
        · refine mRt_x (mRt_t (mRt_5 (i := 1 + pR S.1) (v := v) ?_ (Or.inl rfl)) p3)
          rw [y1]
          exact mRt_b JR
        · dsimp only
          rw [p1, mU_other (by decide), y1, mBd_14]
        · dsimp only
          rw [p2, mU_other (by decide), y1, mBd_15]
      exact wp_f (fun _ => fin _) (fun _ => fin _)
