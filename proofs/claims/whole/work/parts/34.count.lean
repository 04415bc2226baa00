-- ===== 34: count
theorem cnt_step {n k : Nat} (hn : n < 2 ^ 31) (hk : k < 32) (a : Nat) : nI a + ((nI n >>> (nI k &&& 31)) &&& 1) = nI (a + if n.testBit k = true then 1 else 0) := by
  rw [bit_s hn hk, tb_ite, nI_add]
/-- how many calls are told from k on -/
def q_ct (n k : Nat) : Nat → Nat
  | 0 => 0
  | j + 1 => (if n.testBit k = true then 1 else 0) + q_ct n (k + 1) j
theorem ct_X {S M : St} (h : R3 S M) : ∀ (j fu a k : Nat), k + j = 6 → j < fu → l_X4_callsTold_4 fu S (nI a) (nI k) = some (nI (a + q_ct (nv (M.1 0 11)) k j), S) := by
  intro j
  induction j with
  | zero =>
    intro fu a k hk hf
    obtain ⟨fu, rfl⟩ : ∃ q, fu = q + 1 := ⟨fu - 1, by omega⟩
    show f_X4_callsTold_4 (l_X4_callsTold_4 fu) S (nI a) (nI k) = _
    unfold f_X4_callsTold_4
    rw [if_pos (show (6 : Int32) ≤ nI k from nI_le (a := 6) (by omega) (by omega))]
    rfl
  | succ j ih =>
    intro fu a k hk hf
    obtain ⟨fu, rfl⟩ : ∃ q, fu = q + 1 := ⟨fu - 1, by omega⟩
    show f_X4_callsTold_4 (l_X4_callsTold_4 fu) S (nI a) (nI k) = _
    unfold f_X4_callsTold_4 f_X4_callsTold_21
    rw [if_neg (show ¬ (6 : Int32) ≤ nI k from nI_ge (a := k) (b := 6) (by omega) (by omega))]
    conv => rhs; rw [q_ct]
    rcases e_isCallM h (nI k) with ⟨h1, h2⟩ | ⟨c, hx, ht, h1, h2⟩
    · have hq : ¬ (nv (M.1 0 11)).testBit k = true := by
        intro q
        unfold f_X11_isCall at h2
        rw [e_in M _ 5 5 rfl, obd2_s, if_pos (inB_of (show k ≤ 5 by omega) (by omega)), if_neg one0, h.1.1, e_hasM M (by have := h.1.2; omega) (by omega), obd2_s, if_pos q, if_neg one0] at h2
        exact one0 (Prod.mk.inj (Option.some.inj h2)).1
      rw [h1, obd2_s, oel_N, bnd_e, nI_1, ih fu _ (k + 1) (by omega) (by omega), if_neg hq, Nat.zero_add]
    · have hq : (nv (M.1 0 11)).testBit k = true := by
        have e : k = c.val := (nI_eq (by omega) (by have := c.isLt; omega)).mp hx
        rw [e]; exact ht
      rw [h1, obd2_s, oel_S, bnd_e, bnd_e, nI_1, nI_1, ih fu _ (k + 1) (by omega) (by omega), if_pos hq, Nat.add_assoc]
theorem ct_M {S M : St} (h : R3 S M) (x : Int32) : ∀ (j fu a k : Nat), k + j = 6 → j < fu → l_X11_count_4 fu M x (nI a) (nI k) = l_X11_count_4 (fu - j) M x (nI (a + q_ct (nv (M.1 0 11)) k j)) (nI 6) := by
  intro j
  induction j with
  | zero =>
    intro fu a k hk hf
    have : k = 6 := by omega
    rw [this]; rfl
  | succ j ih =>
    intro fu a k hk hf
    obtain ⟨fu, rfl⟩ : ∃ q, fu = q + 1 := ⟨fu - 1, by omega⟩
    show f_X11_count_4 (l_X11_count_4 fu) M x (nI a) (nI k) = _
    unfold f_X11_count_4
    rw [if_neg (show ¬ (6 : Int32) ≤ nI k from nI_ge (a := k) (b := 6) (by omega) (by omega)), bnd_e, bnd_e, h.1.1, cnt_step (by have := h.1.2; omega) (by omega), nI_1, ih fu _ (k + 1) (by omega) (by omega)]
    conv => rhs; rw [q_ct]
    rw [Nat.add_assoc, show fu + 1 - (j + 1) = fu - j by omega, show nv (nI (nv (M.1 0 11))) = nv (M.1 0 11) by rw [← h.1.1]]
theorem st_count : PS_count RI := by
  intro S M h x
  have hR := h
  obtain ⟨⟨t1, -⟩, ⟨-, -, ⟨l1, -⟩, ⟨p1, -⟩, ⟨b1, -⟩, -⟩, h3, ⟨v1, -⟩⟩ := h
  have eM := ct_M h3 x 6 FU 0 0 rfl (by rw [FU_eq]; omega)
  have eX := ct_X h3 6 FU 0 0 rfl (by rw [FU_eq]; omega)
  obtain ⟨fu, hfu⟩ : ∃ q, FU - 6 = q + 1 := ⟨4993, by rw [FU_eq]⟩
  rw [hfu] at eM
  have e1 : f_X11_count M x = f_X11_count_4 (l_X11_count_4 fu) M x (nI (0 + q_ct (nv (M.1 0 11)) 0 6)) (nI 6) := eM
  have e2 : f_X4_callsTold S = some (nI (0 + q_ct (nv (M.1 0 11)) 0 6), S) := eX
  rw [e1]
  unfold f_X10_count f_X11_count_4 f_X8_length f_X0_visits f_X4_load f_X4_purse f_X4_begin
  rw [if_pos (show (6 : Int32) ≤ nI 6 by decide), e2, obd2_s]
  by_cases q0 : x = 0
  · rw [if_pos q0, if_pos q0]; exact ⟨_, _, _, rfl, rfl, hR⟩
  rw [if_neg q0, if_neg q0]
  by_cases q1 : x = 1
  · rw [if_pos q1, if_pos q1, obd2_s, t1]; exact ⟨_, _, _, rfl, rfl, hR⟩
  rw [if_neg q1, if_neg q1]
  by_cases q2 : x = 2
  · rw [if_pos q2, if_pos q2, obd2_s, v1]; exact ⟨_, _, _, rfl, rfl, hR⟩
  rw [if_neg q2, if_neg q2]
  by_cases q3 : x = 3
  · rw [if_pos q3, if_pos q3, obd2_s, l1]; exact ⟨_, _, _, rfl, rfl, hR⟩
  rw [if_neg q3, if_neg q3]
  by_cases q4 : x = 4
  · rw [if_pos q4, if_pos q4, obd2_s, p1]; exact ⟨_, _, _, rfl, rfl, hR⟩
  rw [if_neg q4, if_neg q4]
  by_cases q5 : x = 5
  · rw [if_pos q5, if_pos q5, obd2_s, b1]; exact ⟨_, _, _, rfl, rfl, hR⟩
  rw [if_neg q5, if_neg q5]
  exact ⟨_, _, _, rfl, rfl, hR⟩
