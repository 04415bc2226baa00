-- ===== 36: saved, visit
/-- what one visit of the book would have gained by x -/
def q_s1 (M : St) (x : Int32) (k : Nat) : Nat :=
  if q_fit (M.1 9 (3 * k + 2)) (M.1 9 (3 * k)) (M.1 9 (3 * k + 1)) = true then 0 else if q_fit (M.1 9 (3 * k + 2) ||| x) (M.1 9 (3 * k)) (M.1 9 (3 * k + 1)) = true then 1 else 0
def q_sv (M : St) (x : Int32) (k : Nat) : Nat → Nat
  | 0 => 0
  | j + 1 => q_s1 M x k + q_sv M x (k + 1) j
theorem q_sv_le (M : St) (x : Int32) : ∀ (j k : Nat), q_sv M x k j ≤ j := by
  intro j
  induction j with
  | zero => intro k; exact Nat.le_refl _
  | succ j ih =>
    intro k
    have h1 := ih (k + 1)
    have h2 : q_s1 M x k ≤ 1 := by
      unfold q_s1
      split
      · omega
      · split <;> omega
    rw [q_sv]; omega
theorem e_doneB {S M : St} (h : R4 S M) (k : Nat) (hk : k < nv (M.1 0 16)) (x : Int32) : f_X0_isDone S (nI k) x = some (if q_fit x (M.1 9 (3 * k)) (M.1 9 (3 * k + 1)) = true then 1 else 0, S) := by
  obtain ⟨-, h2, h3⟩ := h
  obtain ⟨a1, a2, -⟩ := h3 k hk
  have := h2.2
  unfold f_X0_isDone
  rw [e_at S 7 (by show k < 16; omega), obd2_s, e_at S 8 (by show k < 16; omega), obd2_s, e_fitX, obd2_s, chk_T zb_ite, show S.1 (11 + (7 : Fin 10).val) k = _ from a1, show S.1 (11 + (8 : Fin 10).val) k = _ from a2]
theorem sv_X {S M : St} (h : R4 S M) (x : Int32) : ∀ (j fu a k : Nat), k + j = nv (M.1 0 16) → j < fu → l_X0_savedBy_4 fu S x (nI a) (nI k) = some (nI (a + q_sv M x k j), S) := by
  have hv : nv (M.1 0 16) ≤ 16 := h.2.1.2
  have hS : S.1 8 4 = nI (nv (M.1 0 16)) := h.1.trans h.2.1.1
  intro j
  induction j with
  | zero =>
    intro fu a k hk hf
    obtain ⟨fu, rfl⟩ : ∃ q, fu = q + 1 := ⟨fu - 1, by omega⟩
    show f_X0_savedBy_4 (l_X0_savedBy_4 fu) S x (nI a) (nI k) = _
    unfold f_X0_savedBy_4
    rw [if_pos (show S.1 8 4 ≤ nI k by rw [hS]; exact nI_le (by omega) (by omega))]
    rfl
  | succ j ih =>
    intro fu a k hk hf
    obtain ⟨fu, rfl⟩ : ∃ q, fu = q + 1 := ⟨fu - 1, by omega⟩
    show f_X0_savedBy_4 (l_X0_savedBy_4 fu) S x (nI a) (nI k) = _
    unfold f_X0_savedBy_4 f_X0_savedBy_47
    obtain ⟨-, -, a3, -⟩ := h.2.2 k (by omega)
    rw [if_neg (show ¬ S.1 8 4 ≤ nI k by rw [hS]; exact nI_ge (by omega) (by omega)), e_at S 9 (by show k < 16; omega), obd2_s, e_doneB h k (by omega), obd2_s, show S.1 (11 + (9 : Fin 10).val) k = _ from a3]
    conv => rhs; rw [q_sv, q_s1]
    by_cases q : q_fit (M.1 9 (3 * k + 2)) (M.1 9 (3 * k)) (M.1 9 (3 * k + 1)) = true
    · rw [if_pos q, if_neg one0, if_pos q, bnd_e, nI_1, Nat.zero_add]
      exact ih fu a (k + 1) (by omega) (by omega)
    · rw [if_neg q, if_pos rfl, if_neg q, e_doneB h k (by omega), obd2_s]
      by_cases q2 : q_fit (M.1 9 (3 * k + 2) ||| x) (M.1 9 (3 * k)) (M.1 9 (3 * k + 1)) = true
      · rw [if_pos q2, if_neg one0, if_pos q2, bnd_e, bnd_e, nI_1, nI_1, ← Nat.add_assoc]
        exact ih fu (a + 1) (k + 1) (by omega) (by omega)
      · rw [if_neg q2, if_pos rfl, if_neg q2, bnd_e, nI_1, Nat.zero_add]
        exact ih fu a (k + 1) (by omega) (by omega)
theorem e_svX {S M : St} (h : R4 S M) (x : Int32) : f_X0_savedBy S x = some (nI (q_sv M x 0 (nv (M.1 0 16))), S) := by
  have hv : nv (M.1 0 16) ≤ 16 := h.2.1.2
  have e := sv_X h x (nv (M.1 0 16)) FU 0 0 (Nat.zero_add _) (by rw [FU_eq]; omega)
  rw [Nat.zero_add] at e
  exact e
theorem sv_M {S M : St} (h : R4 S M) (x : Int32) : ∀ (j fu a k : Nat), k + j = nv (M.1 0 16) → j < fu → l_X11_savedBy_4 fu M x (nI a) (nI (3 * k)) = some (nI (a + q_sv M x k j), M) := by
  have hv : nv (M.1 0 16) ≤ 16 := h.2.1.2
  have hS : 3 * M.1 0 16 = nI (3 * nv (M.1 0 16)) := by rw [h.2.1.1, show nv (nI (nv (M.1 0 16))) = nv (M.1 0 16) by rw [← h.2.1.1]]; exact pk_mul 3 _
  intro j
  induction j with
  | zero =>
    intro fu a k hk hf
    obtain ⟨fu, rfl⟩ : ∃ q, fu = q + 1 := ⟨fu - 1, by omega⟩
    show f_X11_savedBy_4 (l_X11_savedBy_4 fu) M x (nI a) (nI (3 * k)) = _
    unfold f_X11_savedBy_4
    rw [if_pos (show 3 * M.1 0 16 ≤ nI (3 * k) by rw [hS]; exact nI_le (by omega) (by omega))]
    rfl
  | succ j ih =>
    intro fu a k hk hf
    obtain ⟨fu, rfl⟩ : ∃ q, fu = q + 1 := ⟨fu - 1, by omega⟩
    show f_X11_savedBy_4 (l_X11_savedBy_4 fu) M x (nI a) (nI (3 * k)) = _
    unfold f_X11_savedBy_4 f_X11_savedBy_75 f_X11_savedBy_76
    have e1 : nI (3 * k) + 1 = nI (3 * k + 1) := nI_1 _
    have e2 : nI (3 * k) + 2 = nI (3 * k + 2) := nI_add _ 2
    have e3 : nI (3 * k) + 3 = nI (3 * (k + 1)) := nI_add _ 3
    have e0 : ∀ z : Nat, nI z + 0 = nI z := fun z => nI_add z 0
    have ef : ∀ z, f_X11_fits M z (M.1 9 (nI (3 * k)).toNatClampNeg) (M.1 9 (nI (3 * k + 1)).toNatClampNeg) = some (if q_fit z (M.1 9 (3 * k)) (M.1 9 (3 * k + 1)) = true then 1 else 0, M) := fun z => by
      rw [nI_clamp (show 3 * k < 2 ^ 31 by omega), nI_clamp (show 3 * k + 1 < 2 ^ 31 by omega), e_fitM]
    rw [if_neg (show ¬ 3 * M.1 0 16 ≤ nI (3 * k) by rw [hS]; exact nI_ge (by omega) (by omega)), e1, e2, e3, chk_T (ixo_nI (show 3 * k + 2 < 48 by omega) (by omega)), bnd_e, chk_T (ixo_nI (show 3 * k < 48 by omega) (by omega)), chk_T (ixo_nI (show 3 * k + 1 < 48 by omega) (by omega)), nI_clamp (show 3 * k + 2 < 2 ^ 31 by omega), ef, obd2_s]
    conv => rhs; rw [q_sv, q_s1]
    by_cases q : q_fit (M.1 9 (3 * k + 2)) (M.1 9 (3 * k)) (M.1 9 (3 * k + 1)) = true
    · rw [if_pos q, if_neg one0, if_pos q, bnd_e, bnd_e, e0, Nat.zero_add]
      exact ih fu a (k + 1) (by omega) (by omega)
    · rw [if_neg q, if_pos rfl, if_neg q, chk_T (ixo_nI (show 3 * k < 48 by omega) (by omega)), chk_T (ixo_nI (show 3 * k + 1 < 48 by omega) (by omega)), ef, obd2_s]
      by_cases q2 : q_fit (M.1 9 (3 * k + 2) ||| x) (M.1 9 (3 * k)) (M.1 9 (3 * k + 1)) = true
      · rw [if_pos q2, if_neg one0, if_pos q2, bnd_e, bnd_e, nI_1, ← Nat.add_assoc]
        exact ih fu (a + 1) (k + 1) (by omega) (by omega)
      · rw [if_neg q2, if_pos rfl, if_neg q2, bnd_e, bnd_e, e0, Nat.zero_add]
        exact ih fu a (k + 1) (by omega) (by omega)
theorem e_svM {S M : St} (h : R4 S M) (x : Int32) : f_X11_savedBy M x = some (nI (q_sv M x 0 (nv (M.1 0 16))), M) := by
  have hv : nv (M.1 0 16) ≤ 16 := h.2.1.2
  have e := sv_M h x (nv (M.1 0 16)) FU 0 0 (Nat.zero_add _) (by rw [FU_eq]; omega)
  rw [Nat.zero_add] at e
  exact e
theorem st_saved : PS_saved RI := by
  intro S M h x
  have hR := h
  obtain ⟨-, -, -, h4⟩ := h
  unfold f_X10_saved f_X11_saved
  rw [e_isBagX, e_isBagM, obd2_s, obd2_s]
  by_cases hb : inB x 255 = true
  · rw [if_pos hb, if_neg one0, if_neg one0, e_svX h4, e_svM h4, obd2_s, obd2_s]; exact ⟨_, _, _, rfl, rfl, hR⟩
  · rw [if_neg hb, if_pos rfl, if_pos rfl]; exact ⟨_, _, _, rfl, rfl, hR⟩
