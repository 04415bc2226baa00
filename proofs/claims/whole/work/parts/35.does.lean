-- ===== 35: does
theorem nI_and (a b : Nat) : nI a &&& nI b = nI (a &&& b) := by
  apply Int32.toBitVec_inj.mp
  show BitVec.ofNat 32 a &&& BitVec.ofNat 32 b = BitVec.ofNat 32 (a &&& b)
  exact BitVec.ofNat_and.symm
theorem nI_or (a b : Nat) : nI a ||| nI b = nI (a ||| b) := by
  apply Int32.toBitVec_inj.mp
  show BitVec.ofNat 32 a ||| BitVec.ofNat 32 b = BitVec.ofNat 32 (a ||| b)
  exact BitVec.ofNat_or.symm
/-- the lowest bit of w from k on -/
def q_lo (w k : Nat) : Nat → Int32
  | 0 => 0
  | j + 1 => if w.testBit k = true then ((1 : Int32) <<< (nI k &&& 31)) else q_lo w (k + 1) j
theorem q_lo_0 : ∀ (j k : Nat), q_lo 0 k j = 0 := by
  intro j
  induction j with
  | zero => intro k; rfl
  | succ j ih => intro k; rw [q_lo, Nat.zero_testBit, if_neg (by decide), ih]
theorem q_lo_e : ∀ w : Fin 256, q_lo w.val 0 8 = nI w.val &&& -(nI w.val) := by decide +kernel
theorem lo_M (M : St) (x v t : Int32) (ht : M.1 0 6 = t) : ∀ (j fu k w : Nat), w < 2 ^ 31 → ∀ v, k + j = 8 → j < fu → l_X11_leftOf_60 fu M x v (nI w) (nI k) = some (x &&& (((v ||| q_lo w k j) &&& (t ^^^ (-1))) ^^^ (-1)), M) := by
  intro j
  induction j with
  | zero =>
    intro fu k w hw v hk hf
    obtain ⟨fu, rfl⟩ : ∃ q, fu = q + 1 := ⟨fu - 1, by omega⟩
    show f_X11_leftOf_60 (l_X11_leftOf_60 fu) M x v (nI w) (nI k) = _
    unfold f_X11_leftOf_60
    rw [if_pos (show (8 : Int32) ≤ nI k from nI_le (a := 8) (by omega) (by omega)), ht]
    show _ = some (x &&& (((v ||| 0) &&& (t ^^^ (-1))) ^^^ (-1)), M)
    rw [Int32.or_zero]
  | succ j ih =>
    intro fu k w hw v hk hf
    obtain ⟨fu, rfl⟩ : ∃ q, fu = q + 1 := ⟨fu - 1, by omega⟩
    show f_X11_leftOf_60 (l_X11_leftOf_60 fu) M x v (nI w) (nI k) = _
    unfold f_X11_leftOf_60 f_X11_leftOf_89
    rw [if_neg (show ¬ (8 : Int32) ≤ nI k from nI_ge (a := k) (b := 8) (by omega) (by omega)), e_hasM M hw (by omega), obd2_s]
    conv => rhs; rw [q_lo]
    by_cases q : w.testBit k = true
    · rw [if_pos q, if_neg one0, if_pos q, bnd_e, bnd_e, nI_1]
      have e := ih fu (k + 1) 0 (by omega) (v ||| ((1 : Int32) <<< (nI k &&& 31))) (by omega) (by omega)
      rw [q_lo_0, Int32.or_zero] at e
      exact e
    · rw [if_neg q, if_pos rfl, if_neg q, bnd_e, nI_1]
      exact ih fu (k + 1) w hw v (by omega) (by omega)
def q_fit (x v w : Int32) : Bool := decide ((v &&& (x ^^^ (-1))) = 0 ∧ (w = 0 ∨ ¬ (w &&& x) = 0))
/-- what bag x keeps after a sort that needs v and one of w, with the tools t -/
def q_lf (x v w t : Int32) : Int32 := if q_fit x v w = true then x &&& (((v ||| ((w &&& x) &&& (-(w &&& x)))) &&& (t ^^^ (-1))) ^^^ (-1)) else -1
theorem e_fitX (S : St) (x v w : Int32) : f_X7_isDone S x v w = some (if q_fit x v w = true then 1 else 0, S) := by
  unfold f_X7_isDone f_X7_isDone_18 q_fit
  by_cases h1 : (v &&& (x ^^^ (-1))) = 0
  · rw [if_pos h1]
    by_cases h2 : w = 0
    · rw [if_pos h2, if_pos]; exact decide_eq_true ⟨h1, Or.inl h2⟩
    · rw [if_neg h2]
      by_cases h3 : (w &&& x) = 0
      · rw [if_pos h3, if_neg]; exact fun q => (of_decide_eq_true q).2.elim h2 (fun z => z h3)
      · rw [if_neg h3, if_pos]; exact decide_eq_true ⟨h1, Or.inr h3⟩
  · rw [if_neg h1, if_neg]; exact fun q => h1 (of_decide_eq_true q).1
theorem e_fitM (S : St) (x v w : Int32) : f_X11_fits S x v w = some (if q_fit x v w = true then 1 else 0, S) := e_fitX S x v w
theorem e_lfX (S : St) (q : Fin 24) (x t : Int32) : f_X7_left S q x t = some (q_lf x (S.1 (33 + q.val) 2) (S.1 (33 + q.val) 3) t, S) := by
  unfold f_X7_left q_lf
  rw [e_fitX, obd2_s]
  by_cases h : q_fit x (S.1 (33 + q.val) 2) (S.1 (33 + q.val) 3) = true
  · rw [if_pos h, if_pos h, if_neg one0, bnd_e]
  · rw [if_neg h, if_neg h, if_pos rfl]
theorem e_lfM {M : St} {c s b o : Nat} (hc : c < 6) (hs : s < 4) (hb : b ≤ 255) (ho : o ≤ 255) (h : M.1 8 (16 * c + 4 * s + 3) = nI o) :
    f_X11_leftOf M (nI b) (nI c) (nI s) = some (q_lf (nI b) (M.1 8 (16 * c + 4 * s + 2)) (M.1 8 (16 * c + 4 * s + 3)) (M.1 0 6), M) := by
  have e : ∀ j : Nat, 16 * nI c + 4 * nI s + nI j = nI (16 * c + 4 * s + j) := fun j => by
    rw [show (16 : Int32) = nI 16 from rfl, show (4 : Int32) = nI 4 from rfl, pk_mul, pk_mul, nI_add, nI_add]
  have hw : o &&& b < 256 := Nat.lt_of_le_of_lt Nat.and_le_right (by omega)
  unfold f_X11_leftOf q_lf
  rw [show 16 * nI c + 4 * nI s + 2 = nI (16 * c + 4 * s + 2) from e 2, show 16 * nI c + 4 * nI s + 3 = nI (16 * c + 4 * s + 3) from e 3, chk_T (ixo_nI (show 16 * c + 4 * s + 2 < 96 by omega) (by omega)), bnd_e, chk_T (ixo_nI (show 16 * c + 4 * s + 3 < 96 by omega) (by omega)), bnd_e, nI_clamp (by omega), nI_clamp (by omega), e_fitM, obd2_s]
  by_cases q : q_fit (nI b) (M.1 8 (16 * c + 4 * s + 2)) (M.1 8 (16 * c + 4 * s + 3)) = true
  · rw [if_pos q, if_pos q, if_neg one0, bnd_e, h, nI_and]
    have e1 := lo_M M (nI b) 0 (M.1 0 6) rfl 8 FU 0 (o &&& b) (by omega) (M.1 8 (16 * c + 4 * s + 2)) rfl (by rw [FU_eq]; omega)
    rw [show q_lo (o &&& b) 0 8 = nI (o &&& b) &&& -(nI (o &&& b)) from q_lo_e ⟨o &&& b, hw⟩] at e1
    exact e1
  · rw [if_neg q, if_neg q, if_pos rfl]
theorem st_does : PS_does RI := by
  intro S M h x c s
  have hR := h
  obtain ⟨-, ⟨-, ⟨t1, -⟩, -⟩, h3, -⟩ := h
  unfold f_X10_does f_X11_does f_X4_tools
  rcases e_isSortM h3 c s with ⟨h1, h2⟩ | ⟨c, s, hs4, rfl, rfl, ht, hs, h1, h2⟩
  · rw [h1, h2, obd2_s, obd2_s, oel_N, if_pos rfl]; exact ⟨_, _, _, rfl, rfl, hR⟩
  · obtain ⟨-, -, -, -, -, c6, -⟩ := h3.2 c.val c.isLt
    obtain ⟨c6, -, -, -, -, c9⟩ := c6 s hs
    rw [h1, h2, obd2_s, obd2_s, oel_S, if_neg one0, e_isBagX, e_isBagM, obd2_s, obd2_s, obd2_s]
    by_cases hb : inB x 255 = true
    · obtain ⟨b, hb1, hb2, rfl⟩ := inB_nI hb
      rw [if_pos hb, if_neg one0, if_neg one0, e_lfX, e_lfM c.isLt hs4 hb1 c9.2 c9.1, obd2_s, obd2_s, t1, ← c6 2 (by omega), ← c6 3 (by omega)]
      exact ⟨_, _, _, rfl, rfl, hR⟩
    · rw [if_neg hb, if_pos rfl, if_pos rfl]; exact ⟨_, _, _, rfl, rfl, hR⟩
