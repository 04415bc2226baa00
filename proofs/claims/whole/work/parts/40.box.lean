-- ===== 40: stands, box
theorem bit01 (x : Int32) : x &&& 1 = 0 ∨ x &&& 1 = 1 := by
  obtain ⟨j, hj, e⟩ := pk_andE x (m := 1) 1 (by decide)
  have : j = 0 ∨ j = 1 := by omega
  rcases this with rfl | rfl
  · exact Or.inl e
  · exact Or.inr e
theorem sd_0 {S M : St} (h : R3 S M) (t o : Int32) : ∀ (j fu k : Nat), k + j = 24 → j < fu → l_X11_stands_27 fu M t o 0 (nI k) = some (0, M) := by
  intro j
  induction j with
  | zero =>
    intro fu k hk hf
    obtain ⟨fu, rfl⟩ : ∃ q, fu = q + 1 := ⟨fu - 1, by omega⟩
    show f_X11_stands_27 (l_X11_stands_27 fu) M t o 0 (nI k) = _
    unfold f_X11_stands_27
    rw [if_pos (show (24 : Int32) ≤ nI k from nI_le (a := 24) (by omega) (by omega)), if_pos rfl]
  | succ j ih =>
    intro fu k hk hf
    obtain ⟨fu, rfl⟩ : ∃ q, fu = q + 1 := ⟨fu - 1, by omega⟩
    have h24 : k < 24 := by omega
    show f_X11_stands_27 (l_X11_stands_27 fu) M t o 0 (nI k) = _
    unfold f_X11_stands_27 f_X11_stands_106 f_X11_stands_107 f_X11_stands_108
    rw [if_neg (show ¬ (24 : Int32) ≤ nI k from nI_ge (a := k) (b := 24) (by omega) (by omega)), k4_div h24, k4_rem h24, (e_isN h (show k / 4 < 6 by omega) (show k % 4 < 4 by omega)).1, obd2_s]
    by_cases q : k % 4 < ms M (k / 4)
    · rw [if_pos q, if_neg one0, show 4 * nI k + 3 = nI (4 * k + 3) from k4_mul k 3, chk_T (ixo_nI (show 4 * k + 3 < 96 by omega) (by omega)), bnd_e, if_pos rfl, bnd_e, nI_1]
      exact ih fu (k + 1) (by omega) (by omega)
    · rw [if_neg q, if_pos rfl, bnd_e, nI_1]
      exact ih fu (k + 1) (by omega) (by omega)
theorem sd_l {S M : St} (h : R3 S M) (t o : Int32) : ∀ (j fu k : Nat), k + j = 24 → j < fu → ∃ v, l_X4_standsIn_2 fu S t o (nI k) = some (v, S) ∧ l_X11_stands_27 fu M t o 1 (nI k) = some (v, M) ∧ zb v := by
  intro j
  induction j with
  | zero =>
    intro fu k hk hf
    obtain ⟨fu, rfl⟩ : ∃ q, fu = q + 1 := ⟨fu - 1, by omega⟩
    show ∃ v, f_X4_standsIn_2 (l_X4_standsIn_2 fu) S t o (nI k) = _ ∧ f_X11_stands_27 (l_X11_stands_27 fu) M t o 1 (nI k) = _ ∧ _
    unfold f_X11_stands_27 f_X4_standsIn_2
    have e : (24 : Int32) ≤ nI k := nI_le (a := 24) (by omega) (by omega)
    rw [if_pos e, if_pos e, if_neg one0]
    exact ⟨_, rfl, rfl, Or.inr rfl⟩
  | succ j ih =>
    intro fu k hk hf
    have hz := sd_0 h t o j (fu - 1) (k + 1) (by omega) (by omega)
    obtain ⟨fu, rfl⟩ : ∃ q, fu = q + 1 := ⟨fu - 1, by omega⟩
    rw [show fu + 1 - 1 = fu from rfl] at hz
    have h24 : k < 24 := by omega
    have hI := ih fu (k + 1) (by omega) (by omega)
    show ∃ v, f_X4_standsIn_2 (l_X4_standsIn_2 fu) S t o (nI k) = _ ∧ f_X11_stands_27 (l_X11_stands_27 fu) M t o 1 (nI k) = _ ∧ _
    unfold f_X11_stands_27 f_X4_standsIn_2 f_X11_stands_106 f_X11_stands_102 f_X11_stands_107 f_X11_stands_108 f_X4_standsIn_70
    simp only [bnd_e]
    have e : ¬ (24 : Int32) ≤ nI k := nI_ge (a := k) (b := 24) (by omega) (by omega)
    have eN := e_isN h (show k / 4 < 6 by omega) (show k % 4 < 4 by omega)
    rw [if_neg e, if_neg e, k4_div h24, k4_rem h24, eN.1, eN.2, obd2_s, obd2_s]
    by_cases q : k % 4 < ms M (k / 4)
    · have s2 : S.1 (33 + (4 * (k / 4) + k % 4)) 2 = M.1 8 (4 * k + 2) := by
        rw [so_X h (show k / 4 < 6 by omega) q (by omega), show 16 * (k / 4) + 4 * (k % 4) + 2 = 4 * k + 2 by omega]
      have s3 : S.1 (33 + (4 * (k / 4) + k % 4)) 3 = M.1 8 (4 * k + 3) := by
        rw [so_X h (show k / 4 < 6 by omega) q (by omega), show 16 * (k / 4) + 4 * (k % 4) + 3 = 4 * k + 3 by omega]
      rw [if_pos q, if_pos q, oel_S, if_neg one0, show 4 * nI k + 3 = nI (4 * k + 3) from k4_mul k 3, show 4 * nI k + 2 = nI (4 * k + 2) from k4_mul k 2, chk_T (ixo_nI (show 4 * k + 3 < 96 by omega) (by omega)), if_neg one0, chk_T (ixo_nI (show 4 * k + 2 < 96 by omega) (by omega)), nI_clamp (by omega), nI_clamp (by omega)]
      show ∃ v, (if (((S.1 (33 + (4 * (k / 4) + k % 4)) 2) >>> (o &&& 31)) &&& 1) = 1 then _ else if (((S.1 (33 + (4 * (k / 4) + k % 4)) 3) >>> (o &&& 31)) &&& 1) = 1 then (if (((S.1 (33 + (4 * (k / 4) + k % 4)) 3) >>> (t &&& 31)) &&& 1) = 0 then _ else _) else _) = _ ∧ _ ∧ _
      rw [s2, s3]
      unfold f_X11_has
      by_cases c1 : (((M.1 8 (4 * k + 2)) >>> (o &&& 31)) &&& 1) = 1
      · rw [if_pos c1, if_pos c1, obd2_s, if_neg one0, nI_1]
        exact ⟨0, rfl, hz, Or.inl rfl⟩
      · rw [if_neg c1, if_neg c1, obd2_s, if_pos rfl]
        by_cases c2 : (((M.1 8 (4 * k + 3)) >>> (o &&& 31)) &&& 1) = 1
        · rw [if_pos c2, if_pos c2, obd2_s, if_neg one0]
          rcases bit01 ((M.1 8 (4 * k + 3)) >>> (t &&& 31)) with c3 | c3
          · rw [if_pos c3, if_neg (show ¬ (M.1 8 (4 * k + 3) >>> (t &&& 31)) &&& 1 = 1 by rw [c3]; decide), obd2_s, if_pos rfl, nI_1]
            exact ⟨0, rfl, hz, Or.inl rfl⟩
          · rw [if_neg (show ¬ (M.1 8 (4 * k + 3) >>> (t &&& 31)) &&& 1 = 0 by rw [c3]; decide), if_pos c3, obd2_s, if_neg one0, nI_1]
            exact hI
        · rw [if_neg c2, if_neg c2, obd2_s, if_pos rfl, nI_1]
          exact hI
    · rw [if_neg q, if_neg q, oel_N, if_pos rfl, nI_1]
      exact hI
theorem st_stands : PS_stands RI := by
  intro S M h t o
  have hR := h
  obtain ⟨-, -, h3, -⟩ := h
  unfold f_X10_stands f_X11_stands
  rw [e_within S t 7 7 rfl, e_isThing, obd2_s, obd2_s]
  by_cases b1 : inB t 7 = true
  · rw [if_pos b1, if_neg one0, if_neg one0, e_within S o 7 7 rfl, e_isThing, obd2_s, obd2_s]
    by_cases b2 : inB o 7 = true
    · rw [if_pos b2, if_neg one0, if_neg one0]
      by_cases q : t = o
      · rw [if_pos q, if_pos q]; exact ⟨_, _, _, rfl, rfl, hR⟩
      · rw [if_neg q, if_neg q]
        obtain ⟨v, e1, e2, hz⟩ := sd_l h3 t o 24 FU 0 rfl (by rw [FU_eq]; omega)
        have e1 : f_X4_standsIn S t o = some (v, S) := e1
        rw [e1, obd2_s]
        refine ⟨v, S, M, ?_, e2, hR⟩
        rcases hz with rfl | rfl
        · rw [if_pos rfl]
        · rw [if_neg one0]
    · rw [if_neg b2, if_pos rfl, if_pos rfl]; exact ⟨_, _, _, rfl, rfl, hR⟩
  · rw [if_neg b1, if_pos rfl, if_pos rfl]; exact ⟨_, _, _, rfl, rfl, hR⟩
/-- for how many visits of the book a bag does -/
def q_db (M : St) (x : Int32) (k : Nat) : Nat → Nat
  | 0 => 0
  | j + 1 => (if q_fit x (M.1 9 (3 * k)) (M.1 9 (3 * k + 1)) = true then 1 else 0) + q_db M x (k + 1) j
theorem q_db_le (M : St) (x : Int32) : ∀ (j k : Nat), q_db M x k j ≤ j := by
  intro j
  induction j with
  | zero => intro k; exact Nat.le_refl _
  | succ j ih =>
    intro k
    have h1 := ih (k + 1)
    rw [q_db]
    split <;> omega
theorem db_X {S M : St} (h : R4 S M) (x : Int32) : ∀ (j fu a k : Nat), k + j = nv (M.1 0 16) → j < fu → l_X0_doneBy_4 fu S x (nI a) (nI k) = some (nI (a + q_db M x k j), S) := by
  have hv : nv (M.1 0 16) ≤ 16 := h.2.1.2
  have hS : S.1 8 4 = nI (nv (M.1 0 16)) := h.1.trans h.2.1.1
  intro j
  induction j with
  | zero =>
    intro fu a k hk hf
    obtain ⟨fu, rfl⟩ : ∃ q, fu = q + 1 := ⟨fu - 1, by omega⟩
    show f_X0_doneBy_4 (l_X0_doneBy_4 fu) S x (nI a) (nI k) = _
    unfold f_X0_doneBy_4
    rw [if_pos (show S.1 8 4 ≤ nI k by rw [hS]; exact nI_le (by omega) (by omega))]
    rfl
  | succ j ih =>
    intro fu a k hk hf
    obtain ⟨fu, rfl⟩ : ∃ q, fu = q + 1 := ⟨fu - 1, by omega⟩
    show f_X0_doneBy_4 (l_X0_doneBy_4 fu) S x (nI a) (nI k) = _
    unfold f_X0_doneBy_4 f_X0_doneBy_24
    rw [if_neg (show ¬ S.1 8 4 ≤ nI k by rw [hS]; exact nI_ge (by omega) (by omega)), e_doneB h k (by omega), obd2_s]
    conv => rhs; rw [q_db]
    by_cases q : q_fit x (M.1 9 (3 * k)) (M.1 9 (3 * k + 1)) = true
    · rw [if_pos q, if_neg one0, if_pos q, bnd_e, bnd_e, nI_1, nI_1, ← Nat.add_assoc]
      exact ih fu (a + 1) (k + 1) (by omega) (by omega)
    · rw [if_neg q, if_pos rfl, if_neg q, bnd_e, nI_1, Nat.zero_add]
      exact ih fu a (k + 1) (by omega) (by omega)
theorem e_dbX {S M : St} (h : R4 S M) (x : Int32) : f_X0_doneBy S x = some (nI (q_db M x 0 (nv (M.1 0 16))), S) := by
  have hv : nv (M.1 0 16) ≤ 16 := h.2.1.2
  have e := db_X h x (nv (M.1 0 16)) FU 0 0 (Nat.zero_add _) (by rw [FU_eq]; omega)
  rw [Nat.zero_add] at e
  exact e
theorem db_M {S M : St} (h : R4 S M) (x : Int32) : ∀ (j fu a k : Nat), k + j = nv (M.1 0 16) → j < fu → l_X11_doesFor_4 fu M x (nI a) (nI (3 * k)) = some (nI (a + q_db M x k j), M) := by
  have hv : nv (M.1 0 16) ≤ 16 := h.2.1.2
  have hS : 3 * M.1 0 16 = nI (3 * nv (M.1 0 16)) := by rw [h.2.1.1, show nv (nI (nv (M.1 0 16))) = nv (M.1 0 16) by rw [← h.2.1.1]]; exact pk_mul 3 _
  intro j
  induction j with
  | zero =>
    intro fu a k hk hf
    obtain ⟨fu, rfl⟩ : ∃ q, fu = q + 1 := ⟨fu - 1, by omega⟩
    show f_X11_doesFor_4 (l_X11_doesFor_4 fu) M x (nI a) (nI (3 * k)) = _
    unfold f_X11_doesFor_4
    rw [if_pos (show 3 * M.1 0 16 ≤ nI (3 * k) by rw [hS]; exact nI_le (by omega) (by omega))]
    rfl
  | succ j ih =>
    intro fu a k hk hf
    obtain ⟨fu, rfl⟩ : ∃ q, fu = q + 1 := ⟨fu - 1, by omega⟩
    show f_X11_doesFor_4 (l_X11_doesFor_4 fu) M x (nI a) (nI (3 * k)) = _
    unfold f_X11_doesFor_4 f_X11_doesFor_41
    have e1 : nI (3 * k) + 1 = nI (3 * k + 1) := nI_1 _
    have e3 : nI (3 * k) + 3 = nI (3 * (k + 1)) := nI_add _ 3
    have e0 : ∀ z : Nat, nI z + 0 = nI z := fun z => nI_add z 0
    rw [if_neg (show ¬ 3 * M.1 0 16 ≤ nI (3 * k) by rw [hS]; exact nI_ge (by omega) (by omega)), e1, e3, chk_T (ixo_nI (show 3 * k < 48 by omega) (by omega)), chk_T (ixo_nI (show 3 * k + 1 < 48 by omega) (by omega)), nI_clamp (show 3 * k < 2 ^ 31 by omega), nI_clamp (show 3 * k + 1 < 2 ^ 31 by omega), e_fitM, obd2_s]
    conv => rhs; rw [q_db]
    by_cases q : q_fit x (M.1 9 (3 * k)) (M.1 9 (3 * k + 1)) = true
    · rw [if_pos q, if_neg one0, if_pos q, bnd_e, bnd_e, nI_1, ← Nat.add_assoc]
      exact ih fu (a + 1) (k + 1) (by omega) (by omega)
    · rw [if_neg q, if_pos rfl, if_neg q, bnd_e, bnd_e, e0, Nat.zero_add]
      exact ih fu a (k + 1) (by omega) (by omega)
theorem e_dbM {S M : St} (h : R4 S M) (x : Int32) : f_X11_doesFor M x = some (nI (q_db M x 0 (nv (M.1 0 16))), M) := by
  have hv : nv (M.1 0 16) ≤ 16 := h.2.1.2
  have e := db_M h x (nv (M.1 0 16)) FU 0 0 (Nat.zero_add _) (by rw [FU_eq]; omega)
  rw [Nat.zero_add] at e
  exact e
theorem bx_l {S M : St} (h2 : R2 S M) (h : R4 S M) (y : Int32) : ∀ (j fu k b : Nat), k + j = 256 → j < fu → b < 256 →
    ∃ v, v < 256 ∧ l_X0_bestBox_10 fu S (nI b) (nI (q_db M (nI b) 0 (nv (M.1 0 16)))) (nI k) = some (nI v, S) ∧ l_X11_box_17 fu M y (nI b) (nI k) = some (if y = 0 then nI v else nI (q_db M (nI v) 0 (nv (M.1 0 16))), M) := by
  have hv : nv (M.1 0 16) ≤ 16 := h.2.1.2
  intro j
  induction j with
  | zero =>
    intro fu k b hk hf hb
    obtain ⟨fu, rfl⟩ : ∃ q, fu = q + 1 := ⟨fu - 1, by omega⟩
    show ∃ v, v < 256 ∧ f_X0_bestBox_10 (l_X0_bestBox_10 fu) S _ _ (nI k) = _ ∧ f_X11_box_17 (l_X11_box_17 fu) M y (nI b) (nI k) = _
    unfold f_X0_bestBox_10 f_X11_box_17
    have e : (256 : Int32) ≤ nI k := nI_le (a := 256) (by omega) (by omega)
    rw [if_pos e, if_pos e]
    refine ⟨b, hb, rfl, ?_⟩
    by_cases q : y = 0
    · rw [if_pos q, if_pos q]
    · rw [if_neg q, if_neg q, e_dbM h, obd2_s]
  | succ j ih =>
    intro fu k b hk hf hb
    obtain ⟨fu, rfl⟩ : ∃ q, fu = q + 1 := ⟨fu - 1, by omega⟩
    show ∃ v, v < 256 ∧ f_X0_bestBox_10 (l_X0_bestBox_10 fu) S _ _ (nI k) = _ ∧ f_X11_box_17 (l_X11_box_17 fu) M y (nI b) (nI k) = _
    unfold f_X0_bestBox_10 f_X11_box_17 f_X0_bestBox_69 f_X0_bestBox_74 f_X11_box_68 f_X11_box_72 f_X11_box_73 f_X11_box_74
    have e : ¬ (256 : Int32) ≤ nI k := nI_ge (a := k) (b := 256) (by omega) (by omega)
    have hI := ih fu (k + 1) b (by omega) (by omega) hb
    have hK := ih fu (k + 1) k (by omega) (by omega) (by omega)
    have d1 := q_db_le M (nI k) (nv (M.1 0 16)) 0
    have d2 := q_db_le M (nI b) (nv (M.1 0 16)) 0
    rw [if_neg e, if_neg e, e_mayX h2 (show k < 2 ^ 31 by omega), e_mayM h2 (show k < 2 ^ 31 by omega), obd2_s, obd2_s]
    by_cases q : q_mb M k = true
    · rw [if_pos q, if_neg one0, if_neg one0, e_dbX h, obd2_s, e_dbM h, obd2_s, e_dbM h, obd2_s, bnd_e, bnd_e, bnd_e, nI_1]
      generalize hd1 : q_db M (nI k) 0 (nv (M.1 0 16)) = a1 at *
      generalize hd2 : q_db M (nI b) 0 (nv (M.1 0 16)) = a2 at *
      have sb := pk_sub_toInt (a := a1) (b := a2) (by omega) (by omega)
      by_cases l : a2 < a1
      · rw [if_pos (show nI a2 < nI a1 from nI_lt l (by omega)), if_pos (show (0 : Int32) < nI a1 - nI a2 by rw [Int32.lt_iff_toInt_lt, sb, Int32.toInt_zero]; omega)]
        exact hK
      · rw [if_neg (show ¬ nI a2 < nI a1 from nI_nlt (by omega) (by omega)), if_neg (show ¬ (0 : Int32) < nI a1 - nI a2 by rw [Int32.lt_iff_toInt_lt, sb, Int32.toInt_zero]; omega)]
        by_cases g : a1 = a2
        · have g0 : nI a1 - nI a2 = 0 := by rw [g]; exact Int32.sub_self _
          rw [if_pos (congrArg nI g), if_pos g0, e_wtX h2 (show k < 2 ^ 31 by omega), obd2_s, e_wtX h2 (show b < 2 ^ 31 by omega), obd2_s, e_wtM h2 (show k < 2 ^ 31 by omega), obd2_s, e_wtM h2 (show b < 2 ^ 31 by omega), obd2_s]
          by_cases w : nI (q_wt M b) ≤ nI (q_wt M k)
          · rw [if_pos w, if_pos w]; exact hI
          · rw [if_neg w, if_neg w]; exact hK
        · have g0 : ¬ nI a1 - nI a2 = 0 := by
            intro z
            have z2 := congrArg Int32.toInt z
            rw [sb, Int32.toInt_zero] at z2
            omega
          rw [if_neg (fun z => g ((nI_eq (by omega) (by omega)).mp z)), if_neg g0]
          exact hI
    · rw [if_neg q, if_pos rfl, if_pos rfl, bnd_e, bnd_e, nI_1]
      exact hI
theorem st_box : PS_box RI := by
  intro S M h y
  have hR := h
  obtain ⟨-, h2, -, h4⟩ := h
  unfold f_X10_box f_X11_box f_X0_bestBox
  rw [e_within S y 1 1 rfl, e_in M y 1 1 rfl, obd2_s, obd2_s]
  by_cases hb : inB y 1 = true
  · have e0 := e_dbX h4 (nI 0)
    rw [z0n] at e0
    obtain ⟨v, hv, e1, e2⟩ := bx_l h2 h4 y 255 FU 1 0 rfl (by rw [FU_eq]; omega) (by omega)
    rw [z0n] at e1 e2
    rw [z1n] at e1 e2
    rw [if_pos hb, if_neg one0, if_neg one0, e0, obd2_s, e1, obd2_s]
    refine ⟨_, S, M, ?_, e2, hR⟩
    by_cases q : y = 0
    · rw [if_pos q, if_pos q]
    · rw [if_neg q, if_neg q, e_dbX h4, obd2_s]
  · rw [if_neg hb, if_pos rfl, if_pos rfl]; exact ⟨_, _, _, rfl, rfl, hR⟩
