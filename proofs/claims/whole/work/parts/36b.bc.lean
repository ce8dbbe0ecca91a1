set_option maxRecDepth 100000 in
set_option maxHeartbeats 4000000 in
theorem bc_all (Fu : Nat) : ∀ n, n < 1024 → f_J6_bitCount_0f7a4 Fu (mkB (fun r => n.testBit r) 10) = some (nI (fb_ct (fun r => n.testBit r) 10)) := by
  unfold f_J6_bitCount_0f7a4
  decide +kernel
theorem bc {Fu : Nat} (p : Nat → Bool) : f_J6_bitCount_0f7a4 Fu (mkB p 10) = some (nI (fb_ct p 10)) := by
  obtain ⟨n, h1, h2⟩ := ex_bits p 10
  rw [← mkB_c h2, ← fb_ct_cong h2]
  exact bc_all Fu n h1
theorem ct_10 {p : Nat → Bool} {n : Nat} (hn : n ≤ 10) (h : ∀ r, n ≤ r → p r = false) : fb_ct p 10 = fb_ct p n := by
  have e := fb_ct_split p n (10 - n)
  rw [show n + (10 - n) = 10 by omega] at e
  have z : fb_ct (fun k => p (n + k)) (10 - n) = 0 := fb_ct_zero.mpr (fun k _ => h _ (by omega))
  omega
