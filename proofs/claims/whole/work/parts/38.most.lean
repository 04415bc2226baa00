-- ===== 38: most
def q_bc (x0 : Int32) : Int32 :=
  bnd ((x0 - ((((x0).toUInt32 >>> ((1 : Int32).toUInt32 &&& Int32.toUInt32 31)).toInt32) &&& 1431655765)) : Int32) fun v1 =>
  bnd (((v1 &&& 858993459) + ((((v1).toUInt32 >>> ((2 : Int32).toUInt32 &&& Int32.toUInt32 31)).toInt32) &&& 858993459)) : Int32) fun v2 =>
  bnd (((v2 + (((v2).toUInt32 >>> ((4 : Int32).toUInt32 &&& Int32.toUInt32 31)).toInt32)) &&& 252645135) : Int32) fun v3 =>
  bnd ((v3 + (((v3).toUInt32 >>> ((8 : Int32).toUInt32 &&& Int32.toUInt32 31)).toInt32)) : Int32) fun v4 =>
  bnd ((v4 + (((v4).toUInt32 >>> ((16 : Int32).toUInt32 &&& Int32.toUInt32 31)).toInt32)) : Int32) fun v5 =>
  v5 &&& 63
theorem e_bc0 (S : St) (x : Int32) : f_J6_bitCount_0f7a4 S x = some (q_bc x, S) := rfl
theorem q_bc_e : ∀ w : Fin 256, q_bc (nI w.val) = nI (q_ct w.val 0 8) := by decide +kernel
theorem e_bc (S : St) {w : Nat} (hw : w < 256) : f_J6_bitCount_0f7a4 S (nI w) = some (nI (q_ct w 0 8), S) := by
  rw [e_bc0, q_bc_e ⟨w, hw⟩]
theorem ma_M (M : St) {w : Nat} (hw : w < 2 ^ 31) : ∀ (j fu a k : Nat), k + j = 8 → j < fu → l_X11_many_4 fu M (nI w) (nI a) (nI k) = some (nI (a + q_ct w k j), M) := by
  intro j
  induction j with
  | zero =>
    intro fu a k hk hf
    obtain ⟨fu, rfl⟩ : ∃ q, fu = q + 1 := ⟨fu - 1, by omega⟩
    show f_X11_many_4 (l_X11_many_4 fu) M (nI w) (nI a) (nI k) = _
    unfold f_X11_many_4
    rw [if_pos (show (8 : Int32) ≤ nI k from nI_le (a := 8) (by omega) (by omega))]
    rfl
  | succ j ih =>
    intro fu a k hk hf
    obtain ⟨fu, rfl⟩ : ∃ q, fu = q + 1 := ⟨fu - 1, by omega⟩
    show f_X11_many_4 (l_X11_many_4 fu) M (nI w) (nI a) (nI k) = _
    unfold f_X11_many_4
    rw [if_neg (show ¬ (8 : Int32) ≤ nI k from nI_ge (a := k) (b := 8) (by omega) (by omega)), bnd_e, bnd_e, cnt_step hw (by omega), nI_1, ih fu _ (k + 1) (by omega) (by omega)]
    conv => rhs; rw [q_ct]
    rw [Nat.add_assoc]
theorem e_ma (M : St) {w : Nat} (hw : w < 2 ^ 31) : f_X11_many M (nI w) = some (nI (q_ct w 0 8), M) := by
  have e := ma_M M hw 8 FU 0 0 rfl (by rw [FU_eq]; omega)
  rw [Nat.zero_add] at e
  exact e
theorem q_ct_le (w : Nat) : ∀ (j k : Nat), q_ct w k j ≤ j := by
  intro j
  induction j with
  | zero => intro k; exact Nat.le_refl _
  | succ j ih =>
    intro k
    have h1 := ih (k + 1)
    rw [q_ct]
    split <;> omega
