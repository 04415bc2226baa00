-- ===== 64: calls and sorts: the relation is kept
section TELL4
variable {S M : St} {i : Nat}
theorem te_call (hi : i ≤ 9) (h2 : R2 S M) (h3 : R3 S M) (h4 : R4 S M) {T : Nat → Int32} {c p o s w g l : Nat} (hc : c ≤ 5) (hp : p ≤ 5) (hos : o ≤ s) (hs : s ≤ 1439) (hw : w ≤ 99) (hg : g ≤ 99) (hl : l ≤ 99) (T0 : T 0 = 6) (T1 : T 1 = nI c) (T2 : T 2 = nI p) (T3 : T 3 = nI o) (T4 : T 4 = nI s) (T5 : T 5 = nI w) (T6 : T 6 = nI g) (T7 : T 7 = nI l)
    (ss : ∀ k, k < 8 → S.1 12 (8 * i + k) = T k) (mm : ∀ k, 1 ≤ k → k < 8 → M.1 2 (8 * i + k) = T k) (m0 : M.1 2 (8 * i) = 5) :
    ∃ S' M', f_X4_tell S (nI i) = some S' ∧ f_X11_lay M (nI (8 * i)) = some M' ∧ KD S S' M M' := by
  have hc6 : c < 6 := by omega
  obtain ⟨c0, d0⟩ := ixp hi (k := 0) (by omega) (x := nI (8 * i)) rfl
  obtain ⟨c1, d1⟩ := ixp hi (k := 1) (by omega) (x := nI (8 * i) + 1) (nI_1 _)
  obtain ⟨c2, d2⟩ := ixp hi (k := 2) (by omega) (x := nI (8 * i) + 2) (nI_add _ 2)
  -- the class
  obtain ⟨S', hS'⟩ : ∃ S', S' = setI (setI (setI (setI (setI (setI (setI (setI (setI S (21 + c) 3 1) (21 + c) 1 0) (21 + c) 2 0) (21 + c) 4 (T 2)) (21 + c) 5 (T 3)) (21 + c) 6 (T 4)) (21 + c) 7 (T 5)) (21 + c) 8 (T 6)) (21 + c) 9 (T 7) := ⟨_, rfl⟩
  have eS : f_X4_tell S (nI i) = some S' := by
    unfold f_X4_tell f_X4_tellCall f_X1_tell
    rw [e_tl S (x := 1) 1 rfl hi (by omega), obd2_s, e_tl S (x := 0) 0 rfl hi (by omega), obd2_s, ss 0 (by omega), ss 1 (by omega), T0, T1, if_neg (show ¬ (6 : Int32) = 1 by decide), if_neg (show ¬ (6 : Int32) = 2 by decide), if_neg (show ¬ (6 : Int32) = 3 by decide), if_neg (show ¬ (6 : Int32) = 4 by decide), if_neg (show ¬ (6 : Int32) = 5 by decide), if_pos rfl, e_cA S hc6, obd2_s, oel_S, bnd_e, bnd_e, bnd_e,
      tl_step (S := S) (x := 2) (v := T 2) (k := 2) rfl hi (by omega) (ss 2 (by omega)) (s12 (s12 (s12 rfl))),
      tl_step (S := S) (x := 3) (v := T 3) (k := 3) rfl hi (by omega) (ss 3 (by omega)) (s12 (s12 (s12 (s12 rfl)))),
      tl_step (S := S) (x := 4) (v := T 4) (k := 4) rfl hi (by omega) (ss 4 (by omega)) (s12 (s12 (s12 (s12 (s12 rfl))))),
      tl_step (S := S) (x := 5) (v := T 5) (k := 5) rfl hi (by omega) (ss 5 (by omega)) (s12 (s12 (s12 (s12 (s12 (s12 rfl)))))),
      tl_step (S := S) (x := 6) (v := T 6) (k := 6) rfl hi (by omega) (ss 6 (by omega)) (s12 (s12 (s12 (s12 (s12 (s12 (s12 rfl))))))),
      tl_step (S := S) (x := 7) (v := T 7) (k := 7) rfl hi (by omega) (ss 7 (by omega)) (s12 (s12 (s12 (s12 (s12 (s12 (s12 (s12 rfl)))))))), obd_S, obd_S, hS']
  have sO : ∀ q, q ≠ 21 + c → S'.1 q = S.1 q := by
    intro q hq
    rw [hS', si_ne hq, si_ne hq, si_ne hq, si_ne hq, si_ne hq, si_ne hq, si_ne hq, si_ne hq, si_ne hq]
  have w9 : S'.1 (21 + c) 9 = T 7 := by rw [hS', si_eq]
  have w8 : S'.1 (21 + c) 8 = T 6 := by rw [hS', si_nj (by omega), si_eq]
  have w7 : S'.1 (21 + c) 7 = T 5 := by rw [hS', si_nj (by omega), si_nj (by omega), si_eq]
  have w6 : S'.1 (21 + c) 6 = T 4 := by rw [hS', si_nj (by omega), si_nj (by omega), si_nj (by omega), si_eq]
  have w5 : S'.1 (21 + c) 5 = T 3 := by rw [hS', si_nj (by omega), si_nj (by omega), si_nj (by omega), si_nj (by omega), si_eq]
  have w4 : S'.1 (21 + c) 4 = T 2 := by rw [hS', si_nj (by omega), si_nj (by omega), si_nj (by omega), si_nj (by omega), si_nj (by omega), si_eq]
  have w2 : S'.1 (21 + c) 2 = 0 := by rw [hS', si_nj (by omega), si_nj (by omega), si_nj (by omega), si_nj (by omega), si_nj (by omega), si_nj (by omega), si_eq]
  have w1 : S'.1 (21 + c) 1 = 0 := by rw [hS', si_nj (by omega), si_nj (by omega), si_nj (by omega), si_nj (by omega), si_nj (by omega), si_nj (by omega), si_nj (by omega), si_eq]
  have w3 : S'.1 (21 + c) 3 = 1 := by rw [hS', si_nj (by omega), si_nj (by omega), si_nj (by omega), si_nj (by omega), si_nj (by omega), si_nj (by omega), si_nj (by omega), si_nj (by omega), si_eq]
  clear hS'
  -- the reference
  obtain ⟨hg1, hg2⟩ := h3.1
  obtain ⟨y1, y2, y3⟩ := call_m ⟨nv (M.1 0 11), by omega⟩ ⟨c, hc6⟩
  obtain ⟨m, hm⟩ : ∃ m, m = nv (M.1 0 11) ||| 2 ^ c := ⟨_, rfl⟩
  have y1 : nI (nv (M.1 0 11)) ||| ((1 : Int32) <<< (nI c &&& 31)) = nI (nv (M.1 0 11) ||| 2 ^ c) := y1
  rw [← hg1, ← hm] at y1
  have y2 : m ≤ 63 := by rw [hm]; exact y2
  have y3 : ∀ d, d < 6 → m.testBit d = (decide (d = c) || (nv (M.1 0 11)).testBit d) := fun d hd => by rw [hm]; exact y3 ⟨d, hd⟩
  obtain ⟨M', e1, e2, e3, e4⟩ := ly202 hi hc6 6 FU 0 (setI (setI M 0 11 (nI m)) 7 c 0) (by omega) (by rw [FU_eq]; omega)
  have eM : f_X11_lay M (nI (8 * i)) = some M' := by
    unfold f_X11_lay
    rw [chk_T c1, d1, mm 1 (by omega) (by omega), T1, bnd_e, chk_T c2, d2, bnd_e, chk_T c0, d0, Nat.add_zero, m0, bnd_e, if_neg (show ¬ (5 : Int32) = 0 by decide), if_neg (show ¬ (5 : Int32) = 1 by decide), if_neg (show ¬ (5 : Int32) = 2 by decide), if_neg (show ¬ (5 : Int32) = 3 by decide), if_neg (show ¬ (5 : Int32) = 4 by decide), if_pos rfl, y1, bnd_e, chk_T (ixo_nI hc6 (by omega)), nI_clamp (show c < 2 ^ 31 by omega), bnd_e]
    exact e1
  have mO : ∀ q, q ≠ 0 → q ≠ 6 → q ≠ 7 → M'.1 q = M.1 q := fun q a b d => by rw [e2 q b, si_ne d, si_ne a]
  have n0 : ∀ j, j ≠ 11 → M'.1 0 j = M.1 0 j := fun j hj => by rw [e2 0 (by omega), si_ne (by omega), si_nj hj]
  have n11 : M'.1 0 11 = nI m := by rw [e2 0 (by omega), si_ne (by omega), si_eq]
  have n7 : ∀ d, d ≠ c → M'.1 7 d = M.1 7 d := fun d hd => by rw [e2 7 (by omega), si_nj hd, si_ne (by omega)]
  have n7c : M'.1 7 c = 0 := by rw [e2 7 (by omega), si_eq]
  have n6 : ∀ t, ¬ (6 * c ≤ t ∧ t < 6 * c + 6) → M'.1 6 t = M.1 6 t := fun t ht => by rw [e4 t (by omega), si_ne (by omega), si_ne (by omega)]
  have n6c : ∀ k, k < 6 → M'.1 6 (6 * c + k) = T (2 + k) := fun k hk => by
    rw [e3 k (by omega) hk, si_ne (by omega), si_ne (by omega), show 8 * i + 2 + k = 8 * i + (2 + k) by omega]
    exact mm (2 + k) (by omega) (by omega)
  have nvm : nv (M'.1 0 11) = m := by rw [n11]; exact nv_nI (by omega)
  refine ⟨S', M', eS, eM, sO 12 (by omega), mO 2 (by omega) (by omega) (by omega), n0 3 (by omega), ?_, ⟨?_, fun d hd => ?_⟩, ?_⟩
  · exact R2_s h2 (sO 3 (by omega)) (sO 13 (by omega)) (sO 14 (by omega)) (sO 15 (by omega)) (mO 3 (by omega) (by omega) (by omega)) (mO 4 (by omega) (by omega) (by omega)) (mO 5 (by omega) (by omega) (by omega)) (fun j _ _ => n0 j (by omega))
  · rw [n11]; exact rg_nI y2 (by omega)
  · by_cases z : d = c
    · subst z
      have tb : (nv (M'.1 0 11)).testBit d = true := by rw [nvm, y3 d hd, decide_eq_true rfl, Bool.true_or]
      have n60 : M'.1 6 (6 * d) = T 2 := n6c 0 (by omega)
      unfold RC
      rw [tb, n7c, w3, w1, w2]
      refine ⟨(if_pos rfl).symm, rfl, rg_nI (k := 0) (by omega) (by omega), fun q => absurd q (by decide), fun _ => ⟨fun k hk => ?_, ?_⟩, fun s hs => absurd hs (Nat.not_lt_zero s), rfl⟩
      · rw [n6c k hk]
        match k, hk with
        | 0, _ => exact w4
        | 1, _ => exact w5
        | 2, _ => exact w6
        | 3, _ => exact w7
        | 4, _ => exact w8
        | 5, _ => exact w9
      · rw [n60, n6c 1 (by omega), n6c 2 (by omega), n6c 3 (by omega), n6c 4 (by omega), n6c 5 (by omega), T2, T3, T4, T5, T6, T7, nv_nI (by omega), nv_nI (by omega)]
        exact ⟨rg_nI hp (by omega), rg_nI (by omega) (by omega), rg_nI hs (by omega), hos, rg_nI hw (by omega), rg_nI hg (by omega), rg_nI hl (by omega)⟩
    · refine RC_c (h3.2 d hd) (sO _ (by omega)) (fun s hs => sO _ (by omega)) ?_ (n7 d z) (fun k hk => n6 _ (by omega)) (fun k hk => by rw [mO 8 (by omega) (by omega) (by omega)])
      rw [nvm, y3 d hd, decide_eq_false z, Bool.false_or]
  · exact R4_c h4 (sO 8 (by omega)) (sO 18 (by omega)) (sO 19 (by omega)) (sO 20 (by omega)) (mO 9 (by omega) (by omega) (by omega)) (n0 16 (by omega))
end TELL4
