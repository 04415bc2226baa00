-- ===== 67: the two new states agree
theorem b_tool : ∀ t : Fin 8, wX4_init_q1_8 t.val = 1 ∧ wX11_init_q3_8 t.val = 1 := by decide +kernel
theorem b_way : ∀ k : Fin 36, wX4_init_q3_36 k.val = wX11_init_q5_36 k.val ∧ decide (wX11_init_q5_36 k.val = nI (nv (wX11_init_q5_36 k.val))) = true ∧ nv (wX11_init_q5_36 k.val) ≤ 200 := by decide +kernel
theorem rg0 (h : Nat) : rg 0 h := ⟨by decide +kernel, (show nv 0 = 0 by decide +kernel) ▸ Nat.zero_le h⟩
theorem start_RI : RI S0x S0m := by
  have n0 : nv (0 : Int32) = 0 := by decide +kernel
  refine ⟨⟨rfl, rg0 200, fun i hi => ?_⟩, ⟨fun t ht => ?_, ⟨rfl, rg0 255⟩, ⟨rfl, rg_nI (k := 40) (by omega) (by omega)⟩, ⟨rfl, rg_nI (k := 999) (by omega) (by omega)⟩, ⟨rfl, rg_nI (k := 480) (by omega) (by omega)⟩, fun k hk => ?_⟩, ⟨rg0 63, fun c hc => ?_⟩, ⟨rfl, rg0 16, fun k hk => ?_⟩⟩
  · have hi : i < nv 0 := hi
    rw [n0] at hi
    exact absurd hi (Nat.not_lt_zero i)
  · obtain ⟨a, b⟩ := b_tool ⟨t, ht⟩
    have a : S0x.1 13 t = 1 := a
    have b : S0m.1 3 t = 1 := b
    rw [a, b]
    exact ⟨rfl, rg_nI (k := 1) (by omega) (by omega), by decide +kernel, rfl, rg0 99⟩
  · obtain ⟨a, b, d⟩ := b_way ⟨k, hk⟩
    exact ⟨a, of_decide_eq_true b, d⟩
  · have m0 : S0m.1 0 11 = 0 := rfl
    have m7 : S0m.1 7 c = 0 := rfl
    have x1 : S0x.1 (21 + c) = fun _ => 0 := by
      show (if 21 + c = 13 then _ else if 21 + c = 15 then _ else if 21 + c = 3 then _ else if 21 + c = 4 then _ else _) = _
      rw [if_neg (by omega), if_neg (by omega), if_neg (by omega), if_neg (by omega)]
    unfold RC
    rw [m0, m7, x1, n0, Nat.zero_testBit]
    exact ⟨rfl, rfl, rg0 4, fun _ => rfl, fun h => absurd h (by decide), fun s hs => absurd hs (Nat.not_lt_zero s), rfl⟩
  · have hk : k < nv 0 := hk
    rw [n0] at hk
    exact absurd hk (Nat.not_lt_zero k)
