-- ===== 61: a line that was read is told alike
/-- the cells the reader's lines lie in stay -/
def KD (S S' M M' : St) : Prop := S'.1 12 = S.1 12 ∧ M'.1 2 = M.1 2 ∧ M'.1 0 3 = M.1 0 3 ∧ R2 S' M' ∧ R3 S' M' ∧ R4 S' M'
theorem e_tl (S : St) {i : Nat} {x : Int32} (k : Nat) (hx : x = nI k) (hi : i ≤ 9) (hk : k ≤ 7) : f_X5_told S (nI i) x = some (S.1 12 (8 * i + k), S) := by
  unfold f_X5_told
  rw [hx, e_within S (nI k) 7 7 rfl, obd2_s, if_pos (inB_of hk (by omega)), if_neg one0, show nI i * 8 + nI k = nI (8 * i + k) from by rw [Int32.mul_comm, show (8 : Int32) = nI 8 from rfl, pk_mul, nI_add], e_at S 1 (by show 8 * i + k < 80; omega), obd2_s]
  rfl
/-- the mask of the tools -/
theorem tool_m : ∀ (m : Fin 256) (t : Fin 8) (k : Fin 2),
    ((nI m.val &&& (((1 : Int32) <<< (nI t.val &&& 31)) ^^^ (-1))) ||| (nI k.val <<< (nI t.val &&& 31))) = nI (if k.val = 1 then m.val ||| 2 ^ t.val else m.val &&& (255 - 2 ^ t.val)) ∧
    (if nI k.val = 1 then nI m.val ||| ((1 : Int32) <<< (nI t.val &&& 31)) else nI m.val &&& (((1 : Int32) <<< (nI t.val &&& 31)) ^^^ (-1))) = nI (if k.val = 1 then m.val ||| 2 ^ t.val else m.val &&& (255 - 2 ^ t.val)) ∧
    (if k.val = 1 then m.val ||| 2 ^ t.val else m.val &&& (255 - 2 ^ t.val)) ≤ 255 := by
  decide +kernel
theorem R4_c {S M S' M' : St} (h : R4 S M) (h8 : S'.1 8 = S.1 8) (h18 : S'.1 18 = S.1 18) (h19 : S'.1 19 = S.1 19) (h20 : S'.1 20 = S.1 20) (m9 : M'.1 9 = M.1 9) (m16 : M'.1 0 16 = M.1 0 16) : R4 S' M' := by
  unfold R4 at h ⊢
  rw [h8, h18, h19, h20, m9, m16]
  exact h
theorem R2_s {S M S' M' : St} (h : R2 S M) (h3 : S'.1 3 = S.1 3) (h13 : S'.1 13 = S.1 13) (h14 : S'.1 14 = S.1 14) (h15 : S'.1 15 = S.1 15) (m3 : M'.1 3 = M.1 3) (m4 : M'.1 4 = M.1 4) (m5 : M'.1 5 = M.1 5) (m0 : ∀ j, 6 ≤ j → j ≤ 9 → M'.1 0 j = M.1 0 j) : R2 S' M' := by
  unfold R2 at h ⊢
  rw [h3, h13, h14, h15, m3, m4, m5, m0 6 (by omega) (by omega), m0 7 (by omega) (by omega), m0 8 (by omega) (by omega), m0 9 (by omega) (by omega)]
  exact h
section TELL
variable {S M : St} {i : Nat}
theorem ixp {i k : Nat} (hi : i ≤ 9) (hk : k ≤ 7) {x : Int32} (hx : x = nI (8 * i + k)) : ixo x 80 ∧ x.toNatClampNeg = 8 * i + k := by
  rw [hx]
  exact ⟨ixo_nI (by omega) (by omega), nI_clamp (by omega)⟩
theorem te_thing (hi : i ≤ 9) (h2 : R2 S M) (h3 : R3 S M) (h4 : R4 S M) {t w p k : Nat} (ht : t ≤ 7) (w1 : 1 ≤ w) (w9 : w ≤ 99) (hp : p ≤ 99) (hk : k ≤ 1)
    (s0 : S.1 12 (8 * i + 0) = 1) (s1 : S.1 12 (8 * i + 1) = nI t) (s2 : S.1 12 (8 * i + 2) = nI w) (s3 : S.1 12 (8 * i + 3) = nI p) (s4 : S.1 12 (8 * i + 4) = nI k)
    (m0 : M.1 2 (8 * i) = 0) (m1 : M.1 2 (8 * i + 1) = nI t) (m2 : M.1 2 (8 * i + 2) = nI w) (m3 : M.1 2 (8 * i + 3) = nI p) (m4 : M.1 2 (8 * i + 4) = nI k) :
    ∃ S' M', f_X4_tell S (nI i) = some S' ∧ f_X11_lay M (nI (8 * i)) = some M' ∧ KD S S' M M' := by
  obtain ⟨a1, ⟨a2, a3⟩, a4, a5, a6, a7⟩ := h2
  obtain ⟨g1, g2⟩ := a3
  obtain ⟨y1, y2, y3⟩ := tool_m ⟨nv (M.1 0 6), by omega⟩ ⟨t, by omega⟩ ⟨k, by omega⟩
  rw [← g1] at y1 y2
  generalize hv : (if k = 1 then nv (M.1 0 6) ||| 2 ^ t else nv (M.1 0 6) &&& (255 - 2 ^ t)) = v at y1 y2 y3
  have eS : f_X4_tell S (nI i) = some (setI (setI (setI S 13 t (nI w)) 14 t (nI p)) 3 4 (nI v)) := by
    unfold f_X4_tell f_X4_tellThing
    rw [e_tl S (x := 1) 1 rfl hi (by omega), obd2_s, e_tl S (x := 0) 0 rfl hi (by omega), obd2_s, s0, if_pos rfl, e_tl S (x := 2) 2 rfl hi (by omega), obd2_s, e_tl S (x := 3) 3 rfl hi (by omega), obd2_s, e_tl S (x := 4) 4 rfl hi (by omega), obd2_s, s1, s2, s3, s4, e_put S 2 (nI w) (show t < 8 by omega), obd_S, e_put _ 3 (nI p) (show t < 8 by omega), obd_S, bnd_e, obd_S]
    have e34 : (setI (setI S 13 t (nI w)) 14 t (nI p)).1 3 4 = M.1 0 6 := by rw [si_ne (by omega), si_ne (by omega), a2]
    show some (setI (setI (setI S 13 t (nI w)) 14 t (nI p)) 3 4 (((setI (setI S 13 t (nI w)) 14 t (nI p)).1 3 4 &&& _) ||| _)) = _
    rw [e34, y1]
  obtain ⟨c0, d0⟩ := ixp hi (k := 0) (by omega) (x := nI (8 * i)) rfl
  obtain ⟨c1, d1⟩ := ixp hi (k := 1) (by omega) (x := nI (8 * i) + 1) (nI_1 _)
  obtain ⟨c2, d2⟩ := ixp hi (k := 2) (by omega) (x := nI (8 * i) + 2) (nI_add _ 2)
  obtain ⟨c3, d3⟩ := ixp hi (k := 3) (by omega) (x := nI (8 * i) + 3) (nI_add _ 3)
  obtain ⟨c4, d4⟩ := ixp hi (k := 4) (by omega) (x := nI (8 * i) + 4) (nI_add _ 4)
  have eM : f_X11_lay M (nI (8 * i)) = some (setI (setI (setI M 3 t (nI w)) 4 t (nI p)) 0 6 (nI v)) := by
    unfold f_X11_lay f_X11_lay_119
    have q4 : (setI (setI M 3 t (nI w)) 4 t (nI p)).1 2 (8 * i + 4) = nI k := by rw [si_ne (by omega), si_ne (by omega), m4]
    have q3 : (setI M 3 t (nI w)).1 2 (8 * i + 3) = nI p := by rw [si_ne (by omega), m3]
    have q6 : (setI (setI M 3 t (nI w)) 4 t (nI p)).1 0 6 = M.1 0 6 := by rw [si_ne (by omega), si_ne (by omega)]
    rw [chk_T c1, d1, m1, bnd_e, chk_T c2, d2, m2, bnd_e, chk_T c0, d0, Nat.add_zero, m0, bnd_e, if_pos rfl, chk_T (ixo_nI (show t < 8 by omega) (by omega))]
    simp only [bnd_e, nI_clamp (show t < 2 ^ 31 by omega)]
    rw [chk_T c3, chk_T (ixo_nI (show t < 8 by omega) (by omega)), d3, q3, chk_T c4, d4, q4, q6, ← y2]
    by_cases z : nI k = 1
    · rw [if_pos z, if_pos z]
    · rw [if_neg z, if_neg z]
  refine ⟨_, _, eS, eM, ?_, ?_, ?_, ?_, ?_, ?_⟩
  · rw [si_ne (by omega), si_ne (by omega), si_ne (by omega)]
  · rw [si_ne (by omega), si_ne (by omega), si_ne (by omega)]
  · rw [si_nj (by omega), si_ne (by omega), si_ne (by omega)]
  · refine ⟨fun u hu => ?_, ⟨si_eq.trans si_eq.symm, by rw [si_eq]; exact rg_nI y3 (by omega)⟩, ?_, ?_, ?_, ?_⟩
    · rw [si_ne (show 13 ≠ 3 by omega), si_ne (show 13 ≠ 14 by omega), si_ne (show 14 ≠ 3 by omega), si_ne (show 3 ≠ 0 by omega), si_ne (show 3 ≠ 4 by omega), si_ne (show 4 ≠ 0 by omega)]
      by_cases z : u = t
      · subst z
        rw [si_eq, si_eq, si_eq, si_eq]
        exact ⟨rfl, rg_nI w9 (by omega), by rw [nv_nI (by omega)]; exact w1, rfl, rg_nI hp (by omega)⟩
      · rw [si_nj z, si_nj z, si_nj z, si_nj z, si_ne (show 14 ≠ 13 by omega), si_ne (show 4 ≠ 3 by omega)]
        exact a1 u hu
    · rw [si_nj (show 5 ≠ 4 by omega), si_nj (show 7 ≠ 6 by omega), si_ne (show 3 ≠ 14 by omega), si_ne (show 3 ≠ 13 by omega), si_ne (show 0 ≠ 4 by omega), si_ne (show 0 ≠ 3 by omega)]
      exact a4
    · rw [si_nj (show 6 ≠ 4 by omega), si_nj (show 8 ≠ 6 by omega), si_ne (show 3 ≠ 14 by omega), si_ne (show 3 ≠ 13 by omega), si_ne (show 0 ≠ 4 by omega), si_ne (show 0 ≠ 3 by omega)]
      exact a5
    · rw [si_nj (show 7 ≠ 4 by omega), si_nj (show 9 ≠ 6 by omega), si_ne (show 3 ≠ 14 by omega), si_ne (show 3 ≠ 13 by omega), si_ne (show 0 ≠ 4 by omega), si_ne (show 0 ≠ 3 by omega)]
      exact a6
    · intro u hu
      rw [si_ne (show 15 ≠ 3 by omega), si_ne (show 15 ≠ 14 by omega), si_ne (show 15 ≠ 13 by omega), si_ne (show 5 ≠ 0 by omega), si_ne (show 5 ≠ 4 by omega), si_ne (show 5 ≠ 3 by omega)]
      exact a7 u hu
  · refine R3_c h3 (fun c hc => ?_) (fun c hc => ?_) ?_ ?_ ?_ ?_
    · rw [si_ne (by omega), si_ne (by omega), si_ne (by omega)]
    · rw [si_ne (by omega), si_ne (by omega), si_ne (by omega)]
    · rw [si_nj (by omega), si_ne (by omega), si_ne (by omega)]
    · rw [si_ne (by omega), si_ne (by omega), si_ne (by omega)]
    · rw [si_ne (by omega), si_ne (by omega), si_ne (by omega)]
    · rw [si_ne (by omega), si_ne (by omega), si_ne (by omega)]
  · refine R4_c h4 ?_ ?_ ?_ ?_ ?_ ?_
    · rw [si_ne (by omega), si_ne (by omega), si_ne (by omega)]
    · rw [si_ne (by omega), si_ne (by omega), si_ne (by omega)]
    · rw [si_ne (by omega), si_ne (by omega), si_ne (by omega)]
    · rw [si_ne (by omega), si_ne (by omega), si_ne (by omega)]
    · rw [si_ne (by omega), si_ne (by omega), si_ne (by omega)]
    · rw [si_nj (by omega), si_ne (by omega), si_ne (by omega)]
end TELL
