-- ===== 33: weight and price of a bag: may
/-- the sum of f over the bits of b from k on, j of them -/
def q_bs (f : Nat → Nat) (b k : Nat) : Nat → Nat
  | 0 => 0
  | j + 1 => (if b.testBit k = true then f k else 0) + q_bs f b (k + 1) j
theorem bs_le {f : Nat → Nat} {b N : Nat} : ∀ (j k : Nat), (∀ i, k ≤ i → i < k + j → f i ≤ N) → q_bs f b k j ≤ N * j := by
  intro j
  induction j with
  | zero => intro k _; exact Nat.zero_le _
  | succ j ih =>
    intro k h
    have h1 := ih (k + 1) (fun i a c => h i (by omega) (by omega))
    have h2 := h k (by omega) (by omega)
    unfold q_bs
    rw [Nat.mul_succ]
    by_cases q : b.testBit k = true
    · rw [if_pos q]; omega
    · rw [if_neg q]; omega
theorem tb_ite {b k : Nat} : (b / 2 ^ k % 2) = if b.testBit k = true then 1 else 0 := by
  rw [Nat.testBit_eq_decide_div_mod_eq]
  by_cases h : b / 2 ^ k % 2 = 1
  · rw [if_pos (show decide (b / 2 ^ k % 2 = 1) = true from decide_eq_true h), h]
  · rw [if_neg (show ¬ decide (b / 2 ^ k % 2 = 1) = true from fun q => h (of_decide_eq_true q))]; omega
def q_wf (M : St) : Nat → Nat := fun t => nv (M.1 3 t)
def q_pf (M : St) : Nat → Nat := fun t => nv (M.1 4 t)
/-- weight and price of a bag -/
def q_wt (M : St) (b : Nat) : Nat := q_bs (q_wf M) b 0 8
def q_pr (M : St) (b : Nat) : Nat := q_bs (q_pf M) b 0 8
theorem lw_X {S M : St} (h : R2 S M) {b : Nat} (hb : b < 2 ^ 31) : ∀ (j fu a k : Nat), k + j = 8 → j < fu → l_X4_weightOf_4 fu S (nI b) (nI a) (nI k) = some (nI (a + q_bs (q_wf M) b k j), S) := by
  intro j
  induction j with
  | zero =>
    intro fu a k hk hf
    obtain ⟨fu, rfl⟩ : ∃ q, fu = q + 1 := ⟨fu - 1, by omega⟩
    show f_X4_weightOf_4 (l_X4_weightOf_4 fu) S (nI b) (nI a) (nI k) = _
    unfold f_X4_weightOf_4
    rw [if_pos (show (8 : Int32) ≤ nI k from nI_le (a := 8) (by omega) (by omega))]
    rfl
  | succ j ih =>
    intro fu a k hk hf
    obtain ⟨fu, rfl⟩ : ∃ q, fu = q + 1 := ⟨fu - 1, by omega⟩
    show f_X4_weightOf_4 (l_X4_weightOf_4 fu) S (nI b) (nI a) (nI k) = _
    unfold f_X4_weightOf_4
    obtain ⟨t1, t2, -⟩ := h.1 k (by omega)
    rw [if_neg (show ¬ (8 : Int32) ≤ nI k from nI_ge (a := k) (b := 8) (by omega) (by omega)), e_at S 2 (by show k < 8; omega), obd2_s, bnd_e, bnd_e, bit_s hb (by omega)]
    rw [show S.1 (11 + (2 : Fin 10).val) k = nI (q_wf M k) from t1.trans t2.1, pk_mul, nI_add, nI_1, ih fu _ (k + 1) (by omega) (by omega)]
    rw [tb_ite]
    conv => rhs; rw [q_bs]
    by_cases q : b.testBit k = true
    · rw [if_pos q, if_pos q, Nat.one_mul, Nat.add_assoc]
    · rw [if_neg q, if_neg q, Nat.zero_mul, Nat.add_assoc]
theorem e_wtX {S M : St} (h : R2 S M) {b : Nat} (hb : b < 2 ^ 31) : f_X4_weightOf S (nI b) = some (nI (q_wt M b), S) := by
  have e := lw_X h hb 8 FU 0 0 rfl (by rw [FU_eq]; omega)
  rw [Nat.zero_add] at e
  exact e
theorem lw_M {S M : St} (h : R2 S M) {b : Nat} (hb : b < 2 ^ 31) : ∀ (j fu a k : Nat), k + j = 8 → j < fu → l_X11_weight_4 fu M (nI b) (nI a) (nI k) = some (nI (a + q_bs (q_wf M) b k j), M) := by
  intro j
  induction j with
  | zero =>
    intro fu a k hk hf
    obtain ⟨fu, rfl⟩ : ∃ q, fu = q + 1 := ⟨fu - 1, by omega⟩
    show f_X11_weight_4 (l_X11_weight_4 fu) M (nI b) (nI a) (nI k) = _
    unfold f_X11_weight_4
    rw [if_pos (show (8 : Int32) ≤ nI k from nI_le (a := 8) (by omega) (by omega))]
    rfl
  | succ j ih =>
    intro fu a k hk hf
    obtain ⟨fu, rfl⟩ : ∃ q, fu = q + 1 := ⟨fu - 1, by omega⟩
    show f_X11_weight_4 (l_X11_weight_4 fu) M (nI b) (nI a) (nI k) = _
    unfold f_X11_weight_4 f_X11_weight_29
    obtain ⟨-, t2, -⟩ := h.1 k (by omega)
    rw [if_neg (show ¬ (8 : Int32) ≤ nI k from nI_ge (a := k) (b := 8) (by omega) (by omega)), e_hasM M hb (by omega), obd2_s, chk_T (ixo_nI (show k < 8 by omega) (by omega)), nI_clamp (by omega)]
    conv => rhs; rw [q_bs]
    by_cases q : b.testBit k = true
    · rw [if_pos q, if_neg one0, bnd_e, bnd_e, if_pos q, show M.1 3 k = nI (q_wf M k) from t2.1, nI_add, nI_1, ih fu _ (k + 1) (by omega) (by omega), Nat.add_assoc]
    · rw [if_neg q, if_pos rfl, bnd_e, bnd_e, if_neg q, ← z0n, nI_add, nI_1, ih fu _ (k + 1) (by omega) (by omega), Nat.add_assoc]
theorem e_wtM {S M : St} (h : R2 S M) {b : Nat} (hb : b < 2 ^ 31) : f_X11_weight M (nI b) = some (nI (q_wt M b), M) := by
  have e := lw_M h hb 8 FU 0 0 rfl (by rw [FU_eq]; omega)
  rw [Nat.zero_add] at e
  exact e
theorem wt_le {S M : St} (h : R2 S M) (b : Nat) : q_wt M b ≤ 792 := by
  have := bs_le (f := q_wf M) (b := b) (N := 99) 8 0 (fun i _ hi => (h.1 i (by omega)).2.1.2)
  unfold q_wt; omega
theorem pr_le {S M : St} (h : R2 S M) (b : Nat) : q_pr M b ≤ 792 := by
  have := bs_le (f := q_pf M) (b := b) (N := 99) 8 0 (fun i _ hi => (h.1 i (by omega)).2.2.2.2.2)
  unfold q_pr; omega
/-- a bag that may be carried -/
def q_mb (M : St) (b : Nat) : Bool := decide (q_wt M b ≤ nv (M.1 0 7) ∧ q_pr M b ≤ nv (M.1 0 8))
theorem lp_X {S M : St} (h : R2 S M) {b : Nat} (hb : b < 2 ^ 31) : ∀ (j fu a k : Nat), k + j = 8 → j < fu → a + q_bs (q_pf M) b k j = q_pr M b → l_X4_mayBe_4 fu S (nI b) (nI a) (nI k) = some (if q_mb M b = true then 1 else 0, S) := by
  intro j
  induction j with
  | zero =>
    intro fu a k hk hf ha
    obtain ⟨fu, rfl⟩ : ∃ q, fu = q + 1 := ⟨fu - 1, by omega⟩
    show f_X4_mayBe_4 (l_X4_mayBe_4 fu) S (nI b) (nI a) (nI k) = _
    unfold f_X4_mayBe_4
    have hh := h
    obtain ⟨-, -, ⟨l1, l2⟩, ⟨p1, p2⟩, -⟩ := hh
    have ha : a = q_pr M b := ha
    have w1 := wt_le h b
    have w2 := pr_le h b
    have hl : nv (M.1 0 7) ≤ 400 := l2.2
    have hp : nv (M.1 0 8) ≤ 999 := p2.2
    rw [if_pos (show (8 : Int32) ≤ nI k from nI_le (a := 8) (by omega) (by omega)), e_wtX h hb, obd2_s, l1, p1, l2.1, p2.1, ha]
    have i1 : nI (nv (M.1 0 8)) < nI (q_pr M b) ↔ nv (M.1 0 8) < q_pr M b := nI_ltI (by omega) (by omega)
    have i2 : nI (nv (M.1 0 7)) < nI (q_wt M b) ↔ nv (M.1 0 7) < q_wt M b := nI_ltI (by omega) (by omega)
    by_cases q1 : nI (nv (M.1 0 8)) < nI (q_pr M b)
    · rw [if_pos q1, if_neg]; rw [i1] at q1; unfold q_mb; rw [decide_eq_true_eq]; omega
    · rw [if_neg q1]
      by_cases q2 : nI (nv (M.1 0 7)) < nI (q_wt M b)
      · rw [if_pos q2, if_neg]; rw [i2] at q2; unfold q_mb; rw [decide_eq_true_eq]; omega
      · rw [if_neg q2, if_pos]; rw [i1] at q1; rw [i2] at q2; unfold q_mb; rw [decide_eq_true_eq]; omega
  | succ j ih =>
    intro fu a k hk hf ha
    obtain ⟨fu, rfl⟩ : ∃ q, fu = q + 1 := ⟨fu - 1, by omega⟩
    show f_X4_mayBe_4 (l_X4_mayBe_4 fu) S (nI b) (nI a) (nI k) = _
    unfold f_X4_mayBe_4
    obtain ⟨-, -, -, t1, t2⟩ := h.1 k (by omega)
    rw [if_neg (show ¬ (8 : Int32) ≤ nI k from nI_ge (a := k) (b := 8) (by omega) (by omega)), e_at S 3 (by show k < 8; omega), obd2_s, bnd_e, bnd_e, bit_s hb (by omega)]
    rw [show S.1 (11 + (3 : Fin 10).val) k = nI (q_pf M k) from t1.trans t2.1, pk_mul, nI_add, nI_1]
    refine ih fu _ (k + 1) (by omega) (by omega) ?_
    rw [← ha, tb_ite]
    conv => rhs; rw [q_bs]
    by_cases q : b.testBit k = true
    · rw [if_pos q, if_pos q, Nat.one_mul, Nat.add_assoc]
    · rw [if_neg q, if_neg q, Nat.zero_mul, Nat.add_assoc]
theorem e_mayX {S M : St} (h : R2 S M) {b : Nat} (hb : b < 2 ^ 31) : f_X4_mayBe S (nI b) = some (if q_mb M b = true then 1 else 0, S) :=
  lp_X h hb 8 FU 0 0 rfl (by rw [FU_eq]; omega) (Nat.zero_add _)
theorem lp_M {S M : St} (h : R2 S M) {b : Nat} (hb : b < 2 ^ 31) : ∀ (j fu a k : Nat), k + j = 8 → j < fu → a + q_bs (q_pf M) b k j = q_pr M b → l_X11_mayBe_4 fu M (nI b) (nI a) (nI k) = some (if q_mb M b = true then 1 else 0, M) := by
  intro j
  induction j with
  | zero =>
    intro fu a k hk hf ha
    obtain ⟨fu, rfl⟩ : ∃ q, fu = q + 1 := ⟨fu - 1, by omega⟩
    show f_X11_mayBe_4 (l_X11_mayBe_4 fu) M (nI b) (nI a) (nI k) = _
    unfold f_X11_mayBe_4
    have hh := h
    obtain ⟨-, -, ⟨l1, l2⟩, ⟨p1, p2⟩, -⟩ := hh
    have ha : a = q_pr M b := ha
    have w1 := wt_le h b
    have w2 := pr_le h b
    have hl : nv (M.1 0 7) ≤ 400 := l2.2
    have hp : nv (M.1 0 8) ≤ 999 := p2.2
    rw [if_pos (show (8 : Int32) ≤ nI k from nI_le (a := 8) (by omega) (by omega)), e_wtM h hb, obd2_s, l2.1, p2.1, ha]
    have i1 : nI (nv (M.1 0 8)) < nI (q_pr M b) ↔ nv (M.1 0 8) < q_pr M b := nI_ltI (by omega) (by omega)
    have i2 : nI (nv (M.1 0 7)) < nI (q_wt M b) ↔ nv (M.1 0 7) < q_wt M b := nI_ltI (by omega) (by omega)
    by_cases q2 : nI (nv (M.1 0 7)) < nI (q_wt M b)
    · rw [if_pos q2, if_neg]; rw [i2] at q2; unfold q_mb; rw [decide_eq_true_eq]; omega
    · rw [if_neg q2]
      by_cases q1 : nI (nv (M.1 0 8)) < nI (q_pr M b)
      · rw [if_pos q1, if_neg]; rw [i1] at q1; unfold q_mb; rw [decide_eq_true_eq]; omega
      · rw [if_neg q1, if_pos]; rw [i1] at q1; rw [i2] at q2; unfold q_mb; rw [decide_eq_true_eq]; omega
  | succ j ih =>
    intro fu a k hk hf ha
    obtain ⟨fu, rfl⟩ : ∃ q, fu = q + 1 := ⟨fu - 1, by omega⟩
    show f_X11_mayBe_4 (l_X11_mayBe_4 fu) M (nI b) (nI a) (nI k) = _
    unfold f_X11_mayBe_4 f_X11_mayBe_29
    obtain ⟨-, -, -, -, t2⟩ := h.1 k (by omega)
    rw [if_neg (show ¬ (8 : Int32) ≤ nI k from nI_ge (a := k) (b := 8) (by omega) (by omega)), e_hasM M hb (by omega), obd2_s, chk_T (ixo_nI (show k < 8 by omega) (by omega)), nI_clamp (by omega)]
    rw [q_bs] at ha
    by_cases q : b.testBit k = true
    · rw [if_pos q, if_neg one0, bnd_e, bnd_e, show M.1 4 k = nI (q_pf M k) from t2.1, nI_add, nI_1]
      refine ih fu _ (k + 1) (by omega) (by omega) ?_
      rw [← ha, if_pos q, Nat.add_assoc]
    · rw [if_neg q, if_pos rfl, bnd_e, bnd_e, ← z0n, nI_add, nI_1]
      refine ih fu _ (k + 1) (by omega) (by omega) ?_
      rw [← ha, if_neg q, Nat.add_assoc]
theorem e_mayM {S M : St} (h : R2 S M) {b : Nat} (hb : b < 2 ^ 31) : f_X11_mayBe M (nI b) = some (if q_mb M b = true then 1 else 0, M) :=
  lp_M h hb 8 FU 0 0 rfl (by rw [FU_eq]; omega) (Nat.zero_add _)
theorem st_may : PS_may RI := by
  intro S M h x
  have hR := h
  obtain ⟨-, h2, -, -⟩ := h
  unfold f_X10_may f_X11_may
  rw [e_isBagX, e_isBagM, obd2_s, obd2_s]
  by_cases hb : inB x 255 = true
  · obtain ⟨k, hk, hk2, rfl⟩ := inB_nI hb
    rw [if_pos hb, if_neg one0, if_neg one0, e_mayX h2 hk2, e_mayM h2 hk2, obd2_s, obd2_s]
    by_cases q : q_mb M k = true
    · rw [if_pos q, if_neg one0, if_neg one0]; exact ⟨_, _, _, rfl, rfl, hR⟩
    · rw [if_neg q, if_pos rfl, if_pos rfl]; exact ⟨_, _, _, rfl, rfl, hR⟩
  · rw [if_neg hb, if_pos rfl, if_pos rfl]; exact ⟨_, _, _, rfl, rfl, hR⟩
