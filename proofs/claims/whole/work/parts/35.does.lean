-- ===== 35: does
theorem nI_and (a b : Nat) : nI a &&& nI b = nI (a &&& b) := by
  apply Int32.toBitVec_inj.mp
  show BitVec.ofNat 32 a &&& BitVec.ofNat 32 b = BitVec.ofNat 32 (a &&& b)
  exact BitVec.ofNat_and.symm
theorem nI_or (a b : Nat) : nI a ||| nI b = nI (a ||| b) := by
  apply Int32.toBitVec_inj.mp
  show BitVec.ofNat 32 a ||| BitVec.ofNat 32 b = BitVec.ofNat 32 (a ||| b)
  exact BitVec.ofNat_or.symm
/-- the lowest bit of w from k on -/
def q_lo (w k : Nat) : Nat → Int32
  | 0 => 0
  | j + 1 => if w.testBit k = true then ((1 : Int32) <<< (nI k &&& 31)) else q_lo w (k + 1) j
theorem q_lo_0 : ∀ (j k : Nat), q_lo 0 k j = 0 := by
  intro j
  induction j with
  | zero => intro k; rfl
  | succ j ih => intro k; rw [q_lo, Nat.zero_testBit, if_neg (by decide), ih]
theorem q_lo_e : ∀ w : Fin 256, q_lo w.val 0 8 = nI w.val &&& -(nI w.val) := by decide +kernel
theorem lo_M (M : St) (x v t : Int32) (ht : M.1 0 6 = t) : ∀ (j fu k w : Nat), w < 2 ^ 31 → ∀ v, k + j = 8 → j < fu → l_X11_leftOf_60 fu M x v (nI w) (nI k) = some (x &&& (((v ||| q_lo w k j) &&& (t ^^^ (-1))) ^^^ (-1)), M) := by
  intro j
  induction j with
  | zero =>
    intro fu k w hw v hk hf
    obtain ⟨fu, rfl⟩ : ∃ q, fu = q + 1 := ⟨fu - 1, by omega⟩
    show f_X11_leftOf_60 (l_X11_leftOf_60 fu) M x v (nI w) (nI k) = _
    unfold f_X11_leftOf_60
    rw [if_pos (show (8 : Int32) ≤ nI k from nI_le (a := 8) (by omega) (by omega)), ht]
    show _ = some (x &&& (((v ||| 0) &&& (t ^^^ (-1))) ^^^ (-1)), M)
    rw [Int32.or_zero]
  | succ j ih =>
    intro fu k w hw v hk hf
    obtain ⟨fu, rfl⟩ : ∃ q, fu = q + 1 := ⟨fu - 1, by omega⟩
    show f_X11_leftOf_60 (l_X11_leftOf_60 fu) M x v (nI w) (nI k) = _
    unfold f_X11_leftOf_60 f_X11_leftOf_89
    rw [if_neg (show ¬ (8 : Int32) ≤ nI k from nI_ge (a := k) (b := 8) (by omega) (by omega)), e_hasM M hw (by omega), obd2_s]
    conv => rhs; rw [q_lo]
    by_cases q : w.testBit k = true
    · rw [if_pos q, if_neg one0, if_pos q, bnd_e, bnd_e, nI_1]
      have e := ih fu (k + 1) 0 (by omega) (v ||| ((1 : Int32) <<< (nI k &&& 31))) (by omega) (by omega)
      rw [q_lo_0, Int32.or_zero] at e
      exact e
    · rw [if_neg q, if_pos rfl, if_neg q, bnd_e, nI_1]
      exact ih fu (k + 1) w hw v (by omega) (by omega)
