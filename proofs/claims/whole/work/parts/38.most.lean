-- ===== 38: most
def q_bc (x0 : Int32) : Int32 :=
  bnd ((x0 - ((((x0).toUInt32 >>> ((1 : Int32).toUInt32 &&& Int32.toUInt32 31)).toInt32) &&& 1431655765)) : Int32) fun v1 =>
  bnd (((v1 &&& 858993459) + ((((v1).toUInt32 >>> ((2 : Int32).toUInt32 &&& Int32.toUInt32 31)).toInt32) &&& 858993459)) : Int32) fun v2 =>
  bnd (((v2 + (((v2).toUInt32 >>> ((4 : Int32).toUInt32 &&& Int32.toUInt32 31)).toInt32)) &&& 252645135) : Int32) fun v3 =>
  bnd ((v3 + (((v3).toUInt32 >>> ((8 : Int32).toUInt32 &&& Int32.toUInt32 31)).toInt32)) : Int32) fun v4 =>
  bnd ((v4 + (((v4).toUInt32 >>> ((16 : Int32).toUInt32 &&& Int32.toUInt32 31)).toInt32)) : Int32) fun v5 =>
  v5 &&& 63
theorem e_bc0 (S : St) (x : Int32) : f_J6_bitCount_0f7a4 S x = some (q_bc x, S) := rfl
theorem q_bc_e : ∀ w : Fin 256, q_bc (nI w.val) = nI (q_ct w.val 0 8) := by decide +kernel
theorem e_bc (S : St) {w : Nat} (hw : w < 256) : f_J6_bitCount_0f7a4 S (nI w) = some (nI (q_ct w 0 8), S) := by
  rw [e_bc0, q_bc_e ⟨w, hw⟩]
theorem ma_M (M : St) {w : Nat} (hw : w < 2 ^ 31) : ∀ (j fu a k : Nat), k + j = 8 → j < fu → l_X11_many_4 fu M (nI w) (nI a) (nI k) = some (nI (a + q_ct w k j), M) := by
  intro j
  induction j with
  | zero =>
    intro fu a k hk hf
    obtain ⟨fu, rfl⟩ : ∃ q, fu = q + 1 := ⟨fu - 1, by omega⟩
    show f_X11_many_4 (l_X11_many_4 fu) M (nI w) (nI a) (nI k) = _
    unfold f_X11_many_4
    rw [if_pos (show (8 : Int32) ≤ nI k from nI_le (a := 8) (by omega) (by omega))]
    rfl
  | succ j ih =>
    intro fu a k hk hf
    obtain ⟨fu, rfl⟩ : ∃ q, fu = q + 1 := ⟨fu - 1, by omega⟩
    show f_X11_many_4 (l_X11_many_4 fu) M (nI w) (nI a) (nI k) = _
    unfold f_X11_many_4
    rw [if_neg (show ¬ (8 : Int32) ≤ nI k from nI_ge (a := k) (b := 8) (by omega) (by omega)), bnd_e, bnd_e, cnt_step hw (by omega), nI_1, ih fu _ (k + 1) (by omega) (by omega)]
    conv => rhs; rw [q_ct]
    rw [Nat.add_assoc]
theorem e_ma (M : St) {w : Nat} (hw : w < 2 ^ 31) : f_X11_many M (nI w) = some (nI (q_ct w 0 8), M) := by
  have e := ma_M M hw 8 FU 0 0 rfl (by rw [FU_eq]; omega)
  rw [Nat.zero_add] at e
  exact e
theorem q_ct_le (w : Nat) : ∀ (j k : Nat), q_ct w k j ≤ j := by
  intro j
  induction j with
  | zero => intro k; exact Nat.le_refl _
  | succ j ih =>
    intro k
    have h1 := ih (k + 1)
    rw [q_ct]
    split <;> omega
/-- where the two searches for the best bag stand -/
def q_mo (M : St) (r k : Nat) (a b c : Int32) : Prop :=
  (a = -1 ∧ b = 0 ∧ c = -1 ∧ ∀ i, i < k → q_ct i 0 8 ≠ r) ∨ ∃ w, w < 256 ∧ a = nI (q_sv M (nI w) 0 (nv (M.1 0 16))) ∧ b = nI w ∧ c = nI w
theorem mo_l {S M : St} (h : R4 S M) {r : Nat} (hr : 1 ≤ r ∧ r ≤ 3) : ∀ (j fu k : Nat) (a b c : Int32), k + j = 256 → j < fu → q_mo M r k a b c →
    ∃ v, l_X0_mostSaving_7 fu S (nI r) a b (nI k) = some (v, S) ∧ l_X11_most_19 fu M (nI r) c (nI k) = some (v, M) := by
  have hv : nv (M.1 0 16) ≤ 16 := h.2.1.2
  intro j
  induction j with
  | zero =>
    intro fu k a b c hk hf hm
    obtain ⟨fu, rfl⟩ : ∃ q, fu = q + 1 := ⟨fu - 1, by omega⟩
    show ∃ v, f_X0_mostSaving_7 (l_X0_mostSaving_7 fu) S (nI r) a b (nI k) = some (v, S) ∧ f_X11_most_19 (l_X11_most_19 fu) M (nI r) c (nI k) = some (v, M)
    unfold f_X0_mostSaving_7 f_X11_most_19
    have e : (256 : Int32) ≤ nI k := nI_le (a := 256) (b := k) (by omega) (by omega)
    rw [if_pos e, if_pos e]
    rcases hm with ⟨-, -, -, hn⟩ | ⟨w, -, -, rfl, rfl⟩
    · exfalso
      have : r = 1 ∨ r = 2 ∨ r = 3 := by omega
      rcases this with rfl | rfl | rfl
      · exact hn 1 (by omega) (by decide)
      · exact hn 3 (by omega) (by decide)
      · exact hn 7 (by omega) (by decide)
    · exact ⟨_, rfl, rfl⟩
  | succ j ih =>
    intro fu k a b c hk hf hm
    obtain ⟨fu, rfl⟩ : ∃ q, fu = q + 1 := ⟨fu - 1, by omega⟩
    show ∃ v, f_X0_mostSaving_7 (l_X0_mostSaving_7 fu) S (nI r) a b (nI k) = some (v, S) ∧ f_X11_most_19 (l_X11_most_19 fu) M (nI r) c (nI k) = some (v, M)
    unfold f_X0_mostSaving_7 f_X11_most_19 f_X0_mostSaving_47 f_X11_most_56 f_X11_most_52 f_X11_most_57 f_X11_most_69
    have e : ¬ (256 : Int32) ≤ nI k := nI_ge (a := k) (b := 256) (by omega) (by omega)
    have hq := q_ct_le k 8 0
    have hs := q_sv_le M (nI k) (nv (M.1 0 16)) 0
    rw [if_neg e, if_neg e, e_bc S (by omega), e_ma M (by omega), obd2_s, obd2_s]
    by_cases q : q_ct k 0 8 = r
    · have q' : nI (q_ct k 0 8) = nI r := congrArg nI q
      rw [if_pos q', if_pos q', e_svX h, obd2_s]
      have pw : q_mo M r (k + 1) (nI (q_sv M (nI k) 0 (nv (M.1 0 16)))) (nI k) (nI k) := Or.inr ⟨k, by omega, rfl, rfl, rfl⟩
      rcases hm with ⟨rfl, rfl, rfl, hn⟩ | ⟨w, hw, rfl, rfl, rfl⟩
      · have g : ¬ nI (q_sv M (nI k) 0 (nv (M.1 0 16))) ≤ -1 := by
          rw [Int32.le_iff_toInt_le, nI_toInt (by omega)]
          show ¬ ((q_sv M (nI k) 0 (nv (M.1 0 16)) : Nat) : Int) ≤ -1
          omega
        rw [if_neg g, if_pos rfl, if_neg one0, bnd_e, bnd_e, nI_1]
        exact ih fu (k + 1) _ _ _ (by omega) (by omega) pw
      · have g : ¬ nI w = -1 := by
          intro z
          have := congrArg Int32.toInt z
          rw [nI_toInt (by omega)] at this
          have z2 : (-1 : Int32).toInt = -1 := rfl
          omega
        rw [if_neg g, e_svM h, obd2_s, e_svM h, obd2_s]
        by_cases l : nI (q_sv M (nI k) 0 (nv (M.1 0 16))) ≤ nI (q_sv M (nI w) 0 (nv (M.1 0 16)))
        · rw [if_pos l, if_pos l, if_pos rfl, bnd_e, bnd_e, nI_1]
          exact ih fu (k + 1) _ _ _ (by omega) (by omega) (Or.inr ⟨w, hw, rfl, rfl, rfl⟩)
        · rw [if_neg l, if_neg l, if_neg one0, bnd_e, bnd_e, nI_1]
          exact ih fu (k + 1) _ _ _ (by omega) (by omega) pw
    · have q' : ¬ nI (q_ct k 0 8) = nI r := fun z => q ((nI_eq (by omega) (by omega)).mp z)
      rw [if_neg q', if_neg q', if_pos rfl, bnd_e, bnd_e, nI_1]
      refine ih fu (k + 1) _ _ _ (by omega) (by omega) ?_
      rcases hm with ⟨e1, e2, e3, hn⟩ | ⟨w, hw, e1, e2, e3⟩
      · refine Or.inl ⟨e1, e2, e3, fun i hi => ?_⟩
        by_cases z : i = k
        · rw [z]; exact q
        · exact hn i (by omega)
      · exact Or.inr ⟨w, hw, e1, e2, e3⟩
/-- a number from 1 to n -/
abbrev inB1 (x : Int32) (n : Nat) : Bool := decide (1 ≤ x.toInt) && decide (x.toInt ≤ n)
theorem inB1_nI {x : Int32} {n : Nat} (h : inB1 x n = true) : ∃ k, 1 ≤ k ∧ k ≤ n ∧ k < 2 ^ 31 ∧ x = nI k := by
  simp only [inB1, Bool.and_eq_true, decide_eq_true_eq] at h
  obtain ⟨k, hk, rfl⟩ := nI_of (x := x) (by rw [Int32.lt_iff_toInt_lt, Int32.toInt_zero]; omega)
  rw [nI_toInt hk] at h
  exact ⟨k, by omega, by omega, hk, rfl⟩
theorem e_within1 (S : St) (x c : Int32) (n : Nat) (hc : c.toInt = n) : f_X10_within S x 1 c = some (if inB1 x n = true then 1 else 0, S) := by
  unfold f_X10_within
  have z1 : (1 : Int32).toInt = 1 := rfl
  simp only [Int32.lt_iff_toInt_lt, hc, z1, inB1, Bool.and_eq_true, decide_eq_true_eq]
  by_cases h1 : x.toInt < 1
  · rw [if_pos h1, if_neg (by omega)]
  · rw [if_neg h1]
    by_cases h2 : (n : Int) < x.toInt
    · rw [if_pos h2, if_neg (by omega)]
    · rw [if_neg h2, if_pos (by omega)]
theorem e_in1 (S : St) (x : Int32) (c : Int64) (n : Nat) (hc : c.toInt = n) : f_X11_in S x.toInt64 1 c = some (if inB1 x n = true then 1 else 0, S) := by
  unfold f_X11_in
  have z1 : (1 : Int64).toInt = 1 := rfl
  simp only [lg_cmp_lt, lg_cmp_gt, Int64.lt_iff_toInt_lt, Int32.toInt_toInt64, hc, z1, inB1, Bool.and_eq_true, decide_eq_true_eq]
  by_cases h1 : x.toInt < 1
  · rw [if_pos h1, if_neg (by omega)]
  · rw [if_neg h1]
    by_cases h2 : (n : Int) < x.toInt
    · rw [if_pos h2, if_neg (by omega)]
    · rw [if_neg h2, if_pos (by omega)]
theorem st_most : PS_most RI := by
  intro S M h x
  have hR := h
  obtain ⟨-, -, -, h4⟩ := h
  unfold f_X10_most f_X11_most
  rw [e_within1 S x 3 3 rfl, e_in1 M x 3 3 rfl, obd2_s, obd2_s]
  by_cases hb : inB1 x 3 = true
  · obtain ⟨k, k1, k3, -, rfl⟩ := inB1_nI hb
    obtain ⟨v, e1, e2⟩ := mo_l h4 ⟨k1, k3⟩ 256 FU 0 (-1) 0 (-1) rfl (by rw [FU_eq]; omega) (Or.inl ⟨rfl, rfl, rfl, fun i hi => absurd hi (Nat.not_lt_zero i)⟩)
    have e1 : f_X0_mostSaving S (nI k) = some (v, S) := e1
    rw [if_pos hb, if_neg one0, if_neg one0, e1, obd2_s]
    exact ⟨v, S, M, rfl, e2, hR⟩
  · rw [if_neg hb, if_pos rfl, if_pos rfl]; exact ⟨_, _, _, rfl, rfl, hR⟩
