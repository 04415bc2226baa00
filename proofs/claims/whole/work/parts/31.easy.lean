-- ===== 31: calls that only read a number, and erase
theorem st_erase : PS_erase RI := by
  intro S M h
  obtain ⟨⟨h1, h2, h3⟩, hR2, hR3, hR4⟩ := h
  refine ⟨M.1 0 1, setI S 1 1 0, setI M 0 1 0, ?_, ?_, ?_⟩
  · show some (S.1 1 1, setI S 1 1 0) = _
    rw [h1]
  · rfl
  · exact ⟨⟨rfl, rg_nI (k := 0) (by omega) (by omega), fun i hi => absurd hi (Nat.not_lt_zero i)⟩, hR2, R3_c hR3 (fun c hc => si_ne (by omega)) (fun c hc => si_ne (by omega)) rfl rfl rfl rfl, hR4⟩
theorem st_thing : PS_thing RI := by
  intro S M h a0 a1
  have hR := h
  obtain ⟨-, ⟨hT, ⟨ht, -⟩, -⟩, -, -⟩ := h
  unfold f_X10_thing f_X11_thing
  rw [e_within S a0 7 7 rfl, e_isThing, obd2_s, obd2_s]
  by_cases hb : inB a0 7 = true
  · obtain ⟨k, hk, hk2, rfl⟩ := inB_nI hb
    rw [if_pos hb, if_neg one0, if_neg one0]
    obtain ⟨t1, -, -, t4, -⟩ := hT k (by omega)
    have w : f_X4_weight S (nI k) = some (M.1 3 k, S) := by
      unfold f_X4_weight
      rw [e_at S 2 (by show k < 8; omega), obd2_s]
      exact congrArg (fun z => some (z, S)) t1
    have pz : f_X4_price S (nI k) = some (M.1 4 k, S) := by
      unfold f_X4_price
      rw [e_at S 3 (by show k < 8; omega), obd2_s]
      exact congrArg (fun z => some (z, S)) t4
    rw [w, pz, obd2_s, obd2_s, chk_T (ixo_nI (show k < 8 by omega) (by omega)), chk_T (ixo_nI (show k < 8 by omega) (by omega)), nI_clamp hk2]
    by_cases q0 : a1 = 0
    · rw [if_pos q0, if_pos q0]; exact ⟨_, _, _, rfl, rfl, hR⟩
    · rw [if_neg q0, if_neg q0]
      by_cases q1 : a1 = 1
      · rw [if_pos q1, if_pos q1]; exact ⟨_, _, _, rfl, rfl, hR⟩
      · rw [if_neg q1, if_neg q1]
        by_cases q2 : a1 = 2
        · rw [if_pos q2, if_pos q2]
          refine ⟨_, _, _, rfl, ?_, hR⟩
          rw [← ht]
        · rw [if_neg q2, if_neg q2]; exact ⟨_, _, _, rfl, rfl, hR⟩
  · rw [if_neg hb, if_pos rfl, if_pos rfl]
    exact ⟨_, _, _, rfl, rfl, hR⟩
theorem st_way : PS_way RI := by
  intro S M h a0 a1
  have hR := h
  obtain ⟨-, ⟨-, -, -, -, -, hW⟩, -, -⟩ := h
  unfold f_X10_way f_X11_way
  rw [e_within S a0 5 5 rfl, e_in M a0 5 5 rfl, obd2_s, obd2_s]
  by_cases hb : inB a0 5 = true
  · obtain ⟨k, hk, hk2, rfl⟩ := inB_nI hb
    rw [if_pos hb, if_neg one0, if_neg one0, e_within S a1 5 5 rfl, e_in M a1 5 5 rfl, obd2_s, obd2_s]
    by_cases hb2 : inB a1 5 = true
    · obtain ⟨j, hj, hj2, rfl⟩ := inB_nI hb2
      rw [if_pos hb2, if_neg one0, if_neg one0]
      have e1 : nI k * 6 + nI j = nI (k * 6 + j) := by rw [show (6 : Int32) = nI 6 from rfl, pk_mul, nI_add]
      have e2 : 6 * nI k + nI j = nI (6 * k + j) := by rw [show (6 : Int32) = nI 6 from rfl, pk_mul, nI_add]
      unfold f_X4_wayBetween
      rw [e1, e2, e_at S 4 (by show k * 6 + j < 36; omega), obd2_s, obd2_s, chk_T (ixo_nI (show 6 * k + j < 36 by omega) (by omega)), nI_clamp (by omega)]
      refine ⟨_, _, _, rfl, ?_, hR⟩
      rw [← (hW (6 * k + j) (by omega)).1, Nat.mul_comm 6 k]
      rfl
    · rw [if_neg hb2, if_pos rfl, if_pos rfl]
      exact ⟨_, _, _, rfl, rfl, hR⟩
  · rw [if_neg hb, if_pos rfl, if_pos rfl]
    exact ⟨_, _, _, rfl, rfl, hR⟩
