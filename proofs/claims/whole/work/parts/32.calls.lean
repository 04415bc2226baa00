-- ===== 32: which calls and sorts are told: call, sort
theorem z0n : nI 0 = 0 := rfl
theorem z1n : nI 1 = 1 := rfl
theorem smod_k : ∀ k : Fin 32, ((nI k.val).toBitVec.smod 32).toNat = k.val := by decide
/-- bit k of a number -/
theorem bit_s {n k : Nat} (hn : n < 2 ^ 31) (hk : k < 32) : (nI n >>> (nI k &&& 31)) &&& 1 = nI (n / 2 ^ k % 2) := by
  rw [pk_andN (show k < 2 ^ 32 by omega) (m := 31) 5 (by decide), Nat.mod_eq_of_lt (show k < 2 ^ 5 by omega), pk_shrN hn (nI k) k (smod_k ⟨k, hk⟩),
    pk_andN (show n / 2 ^ k < 2 ^ 32 by have := Nat.div_le_self n (2 ^ k); omega) (m := 1) 1 (by decide)]
theorem bit_e {n k : Nat} (hn : n < 2 ^ 31) (hk : k < 32) : ((nI n >>> (nI k &&& 31)) &&& 1 = 1) ↔ n.testBit k = true := by
  rw [bit_s hn hk, ← z1n, nI_eq (by omega) (by omega), Nat.testBit_eq_decide_div_mod_eq, decide_eq_true_eq]
theorem bit_e0 {n k : Nat} (hn : n < 2 ^ 31) (hk : k < 32) : ((nI n >>> (nI k &&& 31)) &&& 1 = 0) ↔ n.testBit k = false := by
  rw [bit_s hn hk, ← z0n, nI_eq (by omega) (by omega), Nat.testBit_eq_decide_div_mod_eq, decide_eq_false_iff_not]
  omega
theorem e_hasM (S : St) {n k : Nat} (hn : n < 2 ^ 31) (hk : k < 32) : f_X11_has S (nI n) (nI k) = some (if n.testBit k = true then 1 else 0, S) := by
  unfold f_X11_has
  by_cases h : n.testBit k = true
  · rw [if_pos ((bit_e hn hk).mpr h), if_pos h]
  · rw [if_neg (fun q => h ((bit_e hn hk).mp q)), if_neg h]
/-- call c is told -/
def tc (M : St) (c : Nat) : Bool := (nv (M.1 0 11)).testBit c
/-- how many sorts call c has -/
def ms (M : St) (c : Nat) : Nat := nv (M.1 7 c)
theorem e_isCallM {S M : St} (h : R3 S M) (x : Int32) : (f_X4_callTold S x = some (none, S) ∧ f_X11_isCall M x = some (0, M)) ∨
    ∃ c : Fin 6, x = nI c.val ∧ tc M c.val = true ∧ f_X4_callTold S x = some (some c, S) ∧ f_X11_isCall M x = some (1, M) := by
  obtain ⟨hT, hC⟩ := h
  unfold f_X11_isCall f_X4_callTold f_X4_callAt f_X4_callTold_21
  rw [e_in M x 5 5 rfl, obd2_s]
  by_cases hb : inB x 5 = true
  · obtain ⟨k, hk, hk2, rfl⟩ := inB_nI hb
    have h6 : k < 6 := by omega
    obtain ⟨c1, -⟩ := hC k h6
    have f : fin6 (nI k) = some ⟨k, h6⟩ := by
      unfold fin6
      rw [dif_pos (ixo_nI h6 (by omega))]
      exact congrArg some (Fin.ext (nI_clamp hk2))
    rw [if_pos hb, if_neg one0, if_neg (nI_pos hk2), if_neg (show ¬ (6 : Int32) ≤ nI k from nI_ge (a := k) (b := 6) h6 (by omega)), f, obd_S, obd2_s, oel_S, hT.1, e_hasM M (by have := hT.2; omega) (by omega), obd2_s]
    unfold f_X1_isTold
    rw [chk_T (by show zb (S.1 (21 + k) 3); rw [c1]; exact zb_ite), obd2_s]
    show _ ∨ _
    by_cases ht : (nv (M.1 0 11)).testBit k = true
    · right
      refine ⟨⟨k, h6⟩, rfl, ht, ?_, ?_⟩
      · show (if S.1 (21 + k) 3 = 0 then _ else _) = _
        rw [c1, if_pos ht, if_neg one0]
      · rw [if_pos ht, if_neg one0]
    · left
      refine ⟨?_, ?_⟩
      · show (if S.1 (21 + k) 3 = 0 then _ else _) = _
        rw [c1, if_neg ht, if_pos rfl]
      · rw [if_neg ht, if_pos rfl]
  · left
    rw [if_neg hb, if_pos rfl]
    refine ⟨?_, rfl⟩
    by_cases q1 : x < 0
    · rw [if_pos q1]; rfl
    · rw [if_neg q1]
      obtain ⟨k, hk, rfl⟩ := nI_of q1
      by_cases q2 : 6 ≤ nI k
      · rw [if_pos q2]; rfl
      · exfalso
        rw [show (6 : Int32) = nI 6 from rfl, nI_leI (by omega) hk] at q2
        exact hb (inB_of (by omega) hk)
theorem e_isSortM {S M : St} (h : R3 S M) (x y : Int32) : (f_X4_sortTold S x y = some (none, S) ∧ f_X11_isSort M x y = some (0, M)) ∨
    ∃ c : Fin 6, ∃ s, ∃ hs : s < 4, x = nI c.val ∧ y = nI s ∧ tc M c.val = true ∧ s < ms M c.val ∧ f_X4_sortTold S x y = some (some ⟨4 * c.val + s, by omega⟩, S) ∧ f_X11_isSort M x y = some (1, M) := by
  unfold f_X4_sortTold f_X11_isSort
  rcases e_isCallM h x with ⟨h1, h2⟩ | ⟨c, hx, ht, h1, h2⟩
  · left
    rw [h1, h2, obd2_s, obd2_s, oel_N, if_pos rfl]; exact ⟨rfl, rfl⟩
  · obtain ⟨-, c2, c3, -⟩ := h.2 c.val c.isLt
    have hc := c.isLt
    rw [h1, h2, obd2_s, obd2_s, oel_S, if_neg one0, hx, chk_T (ixo_nI hc (by omega)), nI_clamp (by omega)]
    unfold f_X1_sortTold f_X1_sortTold_30
    rw [c2]
    by_cases hm : ms M c.val = 0
    · have e0 : M.1 7 c.val = 0 := by rw [c3.1]; unfold ms at hm; rw [hm]; rfl
      left
      rw [e0]
      have e1 : f_X11_in M y.toInt64 0 ((0 - 1 : Int32)).toInt64 = some (0, M) := by
        unfold f_X11_in
        rw [show ((0 - 1 : Int32)).toInt64 = -1 by decide]
        simp only [lg_cmp_lt, lg_cmp_gt, Int64.lt_iff_toInt_lt, Int32.toInt_toInt64, Int64.toInt_zero]
        by_cases q : y.toInt < 0
        · rw [if_pos q]
        · rw [if_neg q, if_pos (by rw [show (-1 : Int64).toInt = -1 by decide]; omega)]
      refine ⟨?_, by rw [e1, obd2_s, if_pos rfl]⟩
      by_cases q1 : y < 0
      · rw [if_pos q1]; rfl
      · rw [if_neg q1, if_pos]
        · rfl
        · obtain ⟨k, hk, rfl⟩ := nI_of q1
          exact nI_pos' hk
    · have e0 : (M.1 7 c.val - 1 : Int32).toInt64 = lN (ms M c.val - 1) := by
        have c4 : ms M c.val ≤ 4 := c3.2
        have c5 : M.1 7 c.val = nI (ms M c.val) := c3.1
        rw [c5, show (1 : Int32) = nI 1 from rfl, pk_sub (by omega), nI_l (by omega)]
      have c4 : ms M c.val ≤ 4 := c3.2
      have c5 : M.1 7 c.val = nI (ms M c.val) := c3.1
      rw [e0, e_in M y _ (ms M c.val - 1) (pk_lT (by omega)), obd2_s, c5]
      by_cases hb : inB y (ms M c.val - 1) = true
      · right
        obtain ⟨s, hs, hs2, rfl⟩ := inB_nI hb
        refine ⟨c, s, by omega, rfl, rfl, ht, by omega, ?_, by rw [if_pos hb, if_neg one0]⟩
        have f : finS c (nI s) = some ⟨4 * c.val + s, by omega⟩ := by
          unfold finS
          rw [dif_pos (ixo_nI (show s < 4 by omega) (by omega))]
          exact congrArg some (Fin.ext (congrArg (fun z => 4 * c.val + z) (nI_clamp hs2)))
        rw [if_neg (nI_pos hs2), if_neg (nI_ge (by omega) (by omega)), if_neg (show ¬ (4 : Int32) ≤ nI s from nI_ge (a := s) (b := 4) (by omega) (by omega)), f, obd_S, obd2_s]
      · left
        refine ⟨?_, by rw [if_neg hb, if_pos rfl]⟩
        by_cases q1 : y < 0
        · rw [if_pos q1]; rfl
        · rw [if_neg q1, if_pos]
          · rfl
          · obtain ⟨k, hk, rfl⟩ := nI_of q1
            refine nI_le ?_ hk
            have : ¬ k ≤ ms M c.val - 1 := fun q => hb (inB_of q hk)
            omega
theorem nI_0_eq (k : Nat) (hk : k < 2 ^ 31) (j : Nat) (hj : j < 2 ^ 31) : (nI k = (OfNat.ofNat j : Int32)) ↔ k = j := nI_eq hk hj
theorem st_call : PS_call RI := by
  intro S M h x k
  have hR := h
  obtain ⟨-, -, hR3, -⟩ := h
  unfold f_X10_call f_X11_call
  rcases e_isCallM hR3 x with ⟨h1, h2⟩ | ⟨c, hx, ht, h1, h2⟩
  · rw [h1, h2, obd2_s, obd2_s, oel_N, if_pos rfl]; exact ⟨_, _, _, rfl, rfl, hR⟩
  · obtain ⟨-, c2, -, -, c5, -⟩ := hR3.2 c.val c.isLt
    obtain ⟨c5, -⟩ := c5 ht
    have hc := c.isLt
    rw [h1, h2, obd2_s, obd2_s, oel_S, if_neg one0, e_in M k 5 5 rfl, obd2_s]
    by_cases hb : inB k 5 = true
    · obtain ⟨j, hj, hj2, rfl⟩ := inB_nI hb
      have e : 6 * x + nI j = nI (6 * c.val + j) := by rw [hx, show (6 : Int32) = nI 6 from rfl, pk_mul, nI_add]
      rw [if_pos hb, if_neg one0, e, chk_T (ixo_nI (show 6 * c.val + j < 36 by omega) (by omega)), nI_clamp (by omega), ← c5 j (by omega)]
      refine ⟨S.1 (21 + c.val) (4 + j), S, M, ?_, rfl, hR⟩
      have : j = 0 ∨ j = 1 ∨ j = 2 ∨ j = 3 ∨ j = 4 ∨ j = 5 := by omega
      rcases this with rfl | rfl | rfl | rfl | rfl | rfl <;> rfl
    · have hn : ∀ j : Nat, j ≤ 5 → ¬ k = nI j := fun j hj q => hb (by rw [q]; exact inB_of hj (by omega))
      rw [if_neg hb, if_pos rfl, if_neg (show ¬ k = 0 from hn 0 (by omega)), if_neg (show ¬ k = 1 from hn 1 (by omega)), if_neg (show ¬ k = 2 from hn 2 (by omega)), if_neg (show ¬ k = 3 from hn 3 (by omega)), if_neg (show ¬ k = 4 from hn 4 (by omega)), if_neg (show ¬ k = 5 from hn 5 (by omega))]
      by_cases q6 : k = 6
      · rw [if_pos q6, if_pos q6, hx, chk_T (ixo_nI hc (by omega)), nI_clamp (by omega)]
        refine ⟨_, _, _, rfl, ?_, hR⟩
        rw [← c2]
      · rw [if_neg q6, if_neg q6]; exact ⟨_, _, _, rfl, rfl, hR⟩
theorem st_sort : PS_sort RI := by
  intro S M h x y k
  have hR := h
  obtain ⟨-, -, hR3, -⟩ := h
  unfold f_X10_sort f_X11_sort
  rcases e_isSortM hR3 x y with ⟨h1, h2⟩ | ⟨c, s, hs4, hx, hy, ht, hs, h1, h2⟩
  · rw [h1, h2, obd2_s, obd2_s, oel_N, if_pos rfl]; exact ⟨_, _, _, rfl, rfl, hR⟩
  · obtain ⟨-, -, -, -, -, c6, -⟩ := hR3.2 c.val c.isLt
    obtain ⟨c6, -⟩ := c6 s hs
    have hc := c.isLt
    rw [h1, h2, obd2_s, obd2_s, oel_S, if_neg one0, e_in M k 3 3 rfl, obd2_s]
    by_cases hb : inB k 3 = true
    · obtain ⟨j, hj, hj2, rfl⟩ := inB_nI hb
      have e : 16 * x + 4 * y + nI j = nI (16 * c.val + 4 * s + j) := by rw [hx, hy, show (16 : Int32) = nI 16 from rfl, show (4 : Int32) = nI 4 from rfl, pk_mul, pk_mul, nI_add, nI_add]
      rw [if_pos hb, if_neg one0, e, chk_T (ixo_nI (show 16 * c.val + 4 * s + j < 96 by omega) (by omega)), nI_clamp (by omega), ← c6 j (by omega)]
      refine ⟨S.1 (33 + (4 * c.val + s)) j, S, M, ?_, rfl, hR⟩
      have : j = 0 ∨ j = 1 ∨ j = 2 ∨ j = 3 := by omega
      rcases this with rfl | rfl | rfl | rfl <;> rfl
    · have hn : ∀ j : Nat, j ≤ 3 → ¬ k = nI j := fun j hj q => hb (by rw [q]; exact inB_of hj (by omega))
      rw [if_neg hb, if_pos rfl, if_neg (show ¬ k = 0 from hn 0 (by omega)), if_neg (show ¬ k = 1 from hn 1 (by omega)), if_neg (show ¬ k = 2 from hn 2 (by omega)), if_neg (show ¬ k = 3 from hn 3 (by omega))]
      exact ⟨_, _, _, rfl, rfl, hR⟩
