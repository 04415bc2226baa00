-- ===== 62: load, purse, begin, ways
section TELL2
variable {S M : St} {i : Nat}
theorem KD_one {a b : Nat} {v : Int32} (hb : 7 ≤ b) (hb9 : b ≤ 9) (h3 : R3 S M) (h4 : R4 S M) (h2 : R2 (setI S 3 a v) (setI M 0 b v)) : KD S (setI S 3 a v) M (setI M 0 b v) :=
  ⟨si_ne (by omega), si_ne (by omega), si_nj (by omega), h2, R3_c h3 (fun _ _ => si_ne (by omega)) (fun _ _ => si_ne (by omega)) (si_nj (by omega)) (si_ne (by omega)) (si_ne (by omega)) (si_ne (by omega)),
    R4_c h4 (si_ne (by omega)) (si_ne (by omega)) (si_ne (by omega)) (si_ne (by omega)) (si_ne (by omega)) (si_nj (by omega))⟩
theorem R2_one {a b : Nat} {v : Int32} (h2 : R2 S M) (h : (a = 5 ∧ b = 7 ∧ rg v 400) ∨ (a = 6 ∧ b = 8 ∧ rg v 999) ∨ (a = 7 ∧ b = 9 ∧ rg v 1439)) : R2 (setI S 3 a v) (setI M 0 b v) := by
  obtain ⟨a1, a2, a4, a5, a6, a7⟩ := h2
  refine ⟨?_, ?_, ?_, ?_, ?_, ?_⟩
  · rw [si_ne (show 13 ≠ 3 by omega), si_ne (show 14 ≠ 3 by omega), si_ne (show 3 ≠ 0 by omega), si_ne (show 4 ≠ 0 by omega)]; exact a1
  · rw [si_nj (show 4 ≠ a by omega), si_nj (show 6 ≠ b by omega)]; exact a2
  · by_cases z : a = 5
    · rw [show a = 5 from z, show b = 7 by omega, si_eq, si_eq]
      exact ⟨rfl, by rcases h with h | h | h; exact h.2.2; omega; omega⟩
    · rw [si_nj (show 5 ≠ a by omega), si_nj (show 7 ≠ b by omega)]; exact a4
  · by_cases z : a = 6
    · rw [show a = 6 from z, show b = 8 by omega, si_eq, si_eq]
      exact ⟨rfl, by rcases h with h | h | h; omega; exact h.2.2; omega⟩
    · rw [si_nj (show 6 ≠ a by omega), si_nj (show 8 ≠ b by omega)]; exact a5
  · by_cases z : a = 7
    · rw [show a = 7 from z, show b = 9 by omega, si_eq, si_eq]
      exact ⟨rfl, by rcases h with h | h | h; omega; omega; exact h.2.2⟩
    · rw [si_nj (show 7 ≠ a by omega), si_nj (show 9 ≠ b by omega)]; exact a6
  · rw [si_ne (show 15 ≠ 3 by omega), si_ne (show 5 ≠ 0 by omega)]; exact a7
/-- the two first cells of a line, told and laid -/
theorem te_load (hi : i ≤ 9) {n : Nat} (s0 : S.1 12 (8 * i + 0) = 2) (s1 : S.1 12 (8 * i + 1) = nI n) (m0 : M.1 2 (8 * i) = 1) (m1 : M.1 2 (8 * i + 1) = nI n) :
    f_X4_tell S (nI i) = some (setI S 3 5 (nI n)) ∧ f_X11_lay M (nI (8 * i)) = some (setI M 0 7 (nI n)) := by
  obtain ⟨c0, d0⟩ := ixp hi (k := 0) (by omega) (x := nI (8 * i)) rfl
  obtain ⟨c1, d1⟩ := ixp hi (k := 1) (by omega) (x := nI (8 * i) + 1) (nI_1 _)
  obtain ⟨c2, d2⟩ := ixp hi (k := 2) (by omega) (x := nI (8 * i) + 2) (nI_add _ 2)
  unfold f_X4_tell f_X11_lay
  refine ⟨?_, ?_⟩
  · rw [e_tl S (x := 1) 1 rfl hi (by omega), obd2_s, e_tl S (x := 0) 0 rfl hi (by omega), obd2_s, s0, s1, if_neg (show ¬ (2 : Int32) = 1 by decide), if_pos rfl, bnd_e]
  · rw [chk_T c1, d1, m1, bnd_e, chk_T c2, d2, bnd_e, chk_T c0, d0, Nat.add_zero, m0, bnd_e, if_neg (show ¬ (1 : Int32) = 0 by decide), if_pos rfl, bnd_e]
theorem te_purse (hi : i ≤ 9) {n : Nat} (s0 : S.1 12 (8 * i + 0) = 3) (s1 : S.1 12 (8 * i + 1) = nI n) (m0 : M.1 2 (8 * i) = 2) (m1 : M.1 2 (8 * i + 1) = nI n) :
    f_X4_tell S (nI i) = some (setI S 3 6 (nI n)) ∧ f_X11_lay M (nI (8 * i)) = some (setI M 0 8 (nI n)) := by
  obtain ⟨c0, d0⟩ := ixp hi (k := 0) (by omega) (x := nI (8 * i)) rfl
  obtain ⟨c1, d1⟩ := ixp hi (k := 1) (by omega) (x := nI (8 * i) + 1) (nI_1 _)
  obtain ⟨c2, d2⟩ := ixp hi (k := 2) (by omega) (x := nI (8 * i) + 2) (nI_add _ 2)
  unfold f_X4_tell f_X11_lay
  refine ⟨?_, ?_⟩
  · rw [e_tl S (x := 1) 1 rfl hi (by omega), obd2_s, e_tl S (x := 0) 0 rfl hi (by omega), obd2_s, s0, s1, if_neg (show ¬ (3 : Int32) = 1 by decide), if_neg (show ¬ (3 : Int32) = 2 by decide), if_pos rfl, bnd_e]
  · rw [chk_T c1, d1, m1, bnd_e, chk_T c2, d2, bnd_e, chk_T c0, d0, Nat.add_zero, m0, bnd_e, if_neg (show ¬ (2 : Int32) = 0 by decide), if_neg (show ¬ (2 : Int32) = 1 by decide), if_pos rfl, bnd_e]
theorem te_begin (hi : i ≤ 9) {n : Nat} (s0 : S.1 12 (8 * i + 0) = 4) (s1 : S.1 12 (8 * i + 1) = nI n) (m0 : M.1 2 (8 * i) = 3) (m1 : M.1 2 (8 * i + 1) = nI n) :
    f_X4_tell S (nI i) = some (setI S 3 7 (nI n)) ∧ f_X11_lay M (nI (8 * i)) = some (setI M 0 9 (nI n)) := by
  obtain ⟨c0, d0⟩ := ixp hi (k := 0) (by omega) (x := nI (8 * i)) rfl
  obtain ⟨c1, d1⟩ := ixp hi (k := 1) (by omega) (x := nI (8 * i) + 1) (nI_1 _)
  obtain ⟨c2, d2⟩ := ixp hi (k := 2) (by omega) (x := nI (8 * i) + 2) (nI_add _ 2)
  unfold f_X4_tell f_X11_lay
  refine ⟨?_, ?_⟩
  · rw [e_tl S (x := 1) 1 rfl hi (by omega), obd2_s, e_tl S (x := 0) 0 rfl hi (by omega), obd2_s, s0, s1, if_neg (show ¬ (4 : Int32) = 1 by decide), if_neg (show ¬ (4 : Int32) = 2 by decide), if_neg (show ¬ (4 : Int32) = 3 by decide), if_pos rfl, bnd_e]
  · rw [chk_T c1, d1, m1, bnd_e, chk_T c2, d2, bnd_e, chk_T c0, d0, Nat.add_zero, m0, bnd_e, if_neg (show ¬ (3 : Int32) = 0 by decide), if_neg (show ¬ (3 : Int32) = 1 by decide), if_neg (show ¬ (3 : Int32) = 2 by decide), if_pos rfl, bnd_e]
theorem te_way (hi : i ≤ 9) (h2 : R2 S M) (h3 : R3 S M) (h4 : R4 S M) {a b n : Nat} (ha : a ≤ 5) (hb : b ≤ 5) (hn : n ≤ 200) (s0 : S.1 12 (8 * i + 0) = 5) (s1 : S.1 12 (8 * i + 1) = nI a) (s2 : S.1 12 (8 * i + 2) = nI b) (s3 : S.1 12 (8 * i + 3) = nI n)
    (m0 : M.1 2 (8 * i) = 4) (m1 : M.1 2 (8 * i + 1) = nI a) (m2 : M.1 2 (8 * i + 2) = nI b) (m3 : M.1 2 (8 * i + 3) = nI n) :
    ∃ S' M', f_X4_tell S (nI i) = some S' ∧ f_X11_lay M (nI (8 * i)) = some M' ∧ KD S S' M M' := by
  obtain ⟨c0, d0⟩ := ixp hi (k := 0) (by omega) (x := nI (8 * i)) rfl
  obtain ⟨c1, d1⟩ := ixp hi (k := 1) (by omega) (x := nI (8 * i) + 1) (nI_1 _)
  obtain ⟨c2, d2⟩ := ixp hi (k := 2) (by omega) (x := nI (8 * i) + 2) (nI_add _ 2)
  obtain ⟨c3, d3⟩ := ixp hi (k := 3) (by omega) (x := nI (8 * i) + 3) (nI_add _ 3)
  have p6 : ∀ x y : Nat, nI x * 6 + nI y = nI (6 * x + y) := fun x y => by rw [Int32.mul_comm, show (6 : Int32) = nI 6 from rfl, pk_mul, nI_add]
  have q6 : ∀ x y : Nat, 6 * nI x + nI y = nI (6 * x + y) := fun x y => by rw [show (6 : Int32) = nI 6 from rfl, pk_mul, nI_add]
  have eS : f_X4_tell S (nI i) = some (setI (setI S 15 (6 * a + b) (nI n)) 15 (6 * b + a) (nI n)) := by
    unfold f_X4_tell f_X4_tellWay
    rw [e_tl S (x := 1) 1 rfl hi (by omega), obd2_s, e_tl S (x := 0) 0 rfl hi (by omega), obd2_s, s0, s1, if_neg (show ¬ (5 : Int32) = 1 by decide), if_neg (show ¬ (5 : Int32) = 2 by decide), if_neg (show ¬ (5 : Int32) = 3 by decide), if_neg (show ¬ (5 : Int32) = 4 by decide), if_pos rfl,
      e_tl S (x := 2) 2 rfl hi (by omega), obd2_s, e_tl S (x := 3) 3 rfl hi (by omega), obd2_s, s2, s3, p6, p6, e_put S 4 (nI n) (show 6 * a + b < 36 by omega), obd_S, e_put _ 4 (nI n) (show 6 * b + a < 36 by omega), obd_S, obd_S]
    rfl
  have eM : f_X11_lay M (nI (8 * i)) = some (setI (setI M 5 (6 * a + b) (nI n)) 5 (6 * b + a) (nI n)) := by
    have q3 : (setI M 5 (6 * a + b) (nI n)).1 2 (8 * i + 3) = nI n := by rw [si_ne (by omega), m3]
    unfold f_X11_lay
    rw [chk_T c1, d1, m1, bnd_e, chk_T c2, d2, m2, bnd_e, chk_T c0, d0, Nat.add_zero, m0, bnd_e, if_neg (show ¬ (4 : Int32) = 0 by decide), if_neg (show ¬ (4 : Int32) = 1 by decide), if_neg (show ¬ (4 : Int32) = 2 by decide), if_neg (show ¬ (4 : Int32) = 3 by decide), if_pos rfl, chk_T c3, q6, q6, chk_T (ixo_nI (show 6 * a + b < 36 by omega) (by omega))]
    simp only [bnd_e, d3, m3, nI_clamp (show 6 * a + b < 2 ^ 31 by omega), nI_clamp (show 6 * b + a < 2 ^ 31 by omega)]
    rw [chk_T c3, chk_T (ixo_nI (show 6 * b + a < 36 by omega) (by omega)), q3]
  refine ⟨_, _, eS, eM, ?_, ?_, ?_, ?_, ?_, ?_⟩
  · rw [si_ne (by omega), si_ne (by omega)]
  · rw [si_ne (by omega), si_ne (by omega)]
  · rw [si_ne (by omega), si_ne (by omega)]
  · obtain ⟨a1, a2, a4, a5, a6, a7⟩ := h2
    refine ⟨?_, ?_, ?_, ?_, ?_, fun u hu => ?_⟩
    · rw [si_ne (show 13 ≠ 15 by omega), si_ne (show 13 ≠ 15 by omega), si_ne (show 14 ≠ 15 by omega), si_ne (show 14 ≠ 15 by omega), si_ne (show 3 ≠ 5 by omega), si_ne (show 3 ≠ 5 by omega), si_ne (show 4 ≠ 5 by omega), si_ne (show 4 ≠ 5 by omega)]; exact a1
    · rw [si_ne (show 3 ≠ 15 by omega), si_ne (show 3 ≠ 15 by omega), si_ne (show 0 ≠ 5 by omega), si_ne (show 0 ≠ 5 by omega)]; exact a2
    · rw [si_ne (show 3 ≠ 15 by omega), si_ne (show 3 ≠ 15 by omega), si_ne (show 0 ≠ 5 by omega), si_ne (show 0 ≠ 5 by omega)]; exact a4
    · rw [si_ne (show 3 ≠ 15 by omega), si_ne (show 3 ≠ 15 by omega), si_ne (show 0 ≠ 5 by omega), si_ne (show 0 ≠ 5 by omega)]; exact a5
    · rw [si_ne (show 3 ≠ 15 by omega), si_ne (show 3 ≠ 15 by omega), si_ne (show 0 ≠ 5 by omega), si_ne (show 0 ≠ 5 by omega)]; exact a6
    · by_cases z : u = 6 * b + a
      · rw [z, si_eq, si_eq]; exact ⟨rfl, rg_nI hn (by omega)⟩
      · rw [si_nj z, si_nj z]
        by_cases z2 : u = 6 * a + b
        · rw [z2, si_eq, si_eq]; exact ⟨rfl, rg_nI hn (by omega)⟩
        · rw [si_nj z2, si_nj z2]; exact a7 u hu
  · refine R3_c h3 (fun c hc => ?_) (fun c hc => ?_) ?_ ?_ ?_ ?_
    · rw [si_ne (by omega), si_ne (by omega)]
    · rw [si_ne (by omega), si_ne (by omega)]
    · rw [si_ne (by omega), si_ne (by omega)]
    · rw [si_ne (by omega), si_ne (by omega)]
    · rw [si_ne (by omega), si_ne (by omega)]
    · rw [si_ne (by omega), si_ne (by omega)]
  · refine R4_c h4 ?_ ?_ ?_ ?_ ?_ ?_
    · rw [si_ne (by omega), si_ne (by omega)]
    · rw [si_ne (by omega), si_ne (by omega)]
    · rw [si_ne (by omega), si_ne (by omega)]
    · rw [si_ne (by omega), si_ne (by omega)]
    · rw [si_ne (by omega), si_ne (by omega)]
    · rw [si_ne (by omega), si_ne (by omega)]
end TELL2
