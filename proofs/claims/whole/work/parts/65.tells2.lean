-- ===== 65: sorts are told
section TELL5
variable {S M : St} {i : Nat}
theorem KD.rf (h2 : R2 S M) (h3 : R3 S M) (h4 : R4 S M) : KD S S M M := ⟨rfl, rfl, rfl, h2, h3, h4⟩
theorem te_sort (hi : i ≤ 9) (h2 : R2 S M) (h3 : R3 S M) (h4 : R4 S M) {T : Nat → Int32} {c n m x y : Nat} (hc : c ≤ 5) (n1 : 1 ≤ n) (hn : n ≤ 20) (hm : m ≤ 200) (hx : x ≤ 255) (hy : y ≤ 255) (T0 : T 0 = 7) (T1 : T 1 = nI c) (T2 : T 2 = nI n) (T3 : T 3 = nI m) (T4 : T 4 = nI x) (T5 : T 5 = nI y)
    (ss : ∀ k, k < 6 → S.1 12 (8 * i + k) = T k) (mm : ∀ k, 1 ≤ k → k < 6 → M.1 2 (8 * i + k) = T k) (m0 : M.1 2 (8 * i) = 6) :
    ∃ S' M', f_X4_tell S (nI i) = some S' ∧ f_X11_lay M (nI (8 * i)) = some M' ∧ KD S S' M M' := by
  have hc6 : c < 6 := by omega
  obtain ⟨c0, d0⟩ := ixp hi (k := 0) (by omega) (x := nI (8 * i)) rfl
  obtain ⟨c1, d1⟩ := ixp hi (k := 1) (by omega) (x := nI (8 * i) + 1) (nI_1 _)
  obtain ⟨c2, d2⟩ := ixp hi (k := 2) (by omega) (x := nI (8 * i) + 2) (nI_add _ 2)
  have hrc := h3.2 c hc6
  have hrc2 := hrc
  obtain ⟨r1, r2, r3, r4, r5, r6, r7⟩ := hrc2
  have eh : f_X11_has M (M.1 0 11) (nI c) = some (if (nv (M.1 0 11)).testBit c = true then 1 else 0, M) := by
    have := e_hasM M (n := nv (M.1 0 11)) (k := c) (by have := h3.1.2; omega) (by omega)
    rw [← h3.1.1] at this
    exact this
  have eS : f_X4_tell S (nI i) = obd (f_X1_tellSort S ⟨c, hc6⟩ (nI i)) fun S21 => some S21 := by
    unfold f_X4_tell f_X4_tellSort
    rw [e_tl S (x := 1) 1 rfl hi (by omega), obd2_s, e_tl S (x := 0) 0 rfl hi (by omega), obd2_s, ss 0 (by omega), ss 1 (by omega), T0, T1, if_neg (show ¬ (7 : Int32) = 1 by decide), if_neg (show ¬ (7 : Int32) = 2 by decide), if_neg (show ¬ (7 : Int32) = 3 by decide), if_neg (show ¬ (7 : Int32) = 4 by decide), if_neg (show ¬ (7 : Int32) = 5 by decide), if_neg (show ¬ (7 : Int32) = 6 by decide), if_pos rfl, e_cA S hc6, obd2_s, oel_S]
    cases f_X1_tellSort S ⟨c, hc6⟩ (nI i) with
    | none => rfl
    | some z => rfl
  have eM : f_X11_lay M (nI (8 * i)) = if (nv (M.1 0 11)).testBit c = true then (if 4 ≤ M.1 7 c then some M else l_X11_lay_263 FU M (nI (8 * i)) (nI c) 0) else some M := by
    unfold f_X11_lay
    rw [chk_T c1, d1, mm 1 (by omega) (by omega), T1, bnd_e, chk_T c2, d2, bnd_e, chk_T c0, d0, Nat.add_zero, m0, bnd_e, if_neg (show ¬ (6 : Int32) = 0 by decide), if_neg (show ¬ (6 : Int32) = 1 by decide), if_neg (show ¬ (6 : Int32) = 2 by decide), if_neg (show ¬ (6 : Int32) = 3 by decide), if_neg (show ¬ (6 : Int32) = 4 by decide), if_neg (show ¬ (6 : Int32) = 5 by decide), eh, obd2_s]
    by_cases z : (nv (M.1 0 11)).testBit c = true
    · rw [if_pos z, if_pos z, if_neg one0, chk_T (ixo_nI hc6 (by omega)), nI_clamp (show c < 2 ^ 31 by omega)]
    · rw [if_neg z, if_neg z, if_pos rfl]
  rw [eS, eM]
  unfold f_X1_tellSort
  show ∃ S' M', (obd (if S.1 (21 + c) 3 = 0 then some S else _) fun S21 => some S21) = some S' ∧ _
  by_cases tb : (nv (M.1 0 11)).testBit c = true
  · rw [r1, if_pos tb, if_neg one0, if_pos tb]
    show ∃ S' M', (obd (obd2 (f_X10_within S (S.1 (21 + c) 1) 0 (4 - 1)) _) fun S21 => some S21) = some S' ∧ _
    rw [e_within S (S.1 (21 + c) 1) (4 - 1) 3 (by decide), obd2_s, r2]
    obtain ⟨u1, u2⟩ := r3
    obtain ⟨q, hq⟩ : ∃ q, q = nv (M.1 7 c) := ⟨_, rfl⟩
    rw [← hq] at u1 u2 r6 r7
    by_cases q4 : q = 4
    · rw [u1, q4, if_neg (show ¬ inB (nI 4) 3 = true by decide), if_pos rfl, if_pos (show (4 : Int32) ≤ nI 4 by decide)]
      exact ⟨S, M, rfl, rfl, KD.rf h2 h3 h4⟩
    · have q3 : q ≤ 3 := by omega
      have f : finS ⟨c, hc6⟩ (nI q) = some ⟨4 * c + q, by omega⟩ := by
        unfold finS
        rw [dif_pos (ixo_nI (show q < 4 by omega) (by omega))]
        exact congrArg some (Fin.ext (by show 4 * c + (nI q).toNatClampNeg = _; rw [nI_clamp (by omega)]))
      obtain ⟨M', e1, e2, e3, e4, e5, e6⟩ := ly263 hi hc6 q3 4 FU 0 M (by omega) (by rw [FU_eq]; omega) u1
      have e1 : l_X11_lay_263 FU M (nI (8 * i)) (nI c) 0 = some M' := e1
      obtain ⟨S', hS'⟩ : ∃ S', S' = setI (setI (setI (setI (setI (setI S (33 + (4 * c + q)) 0 (T 2)) (33 + (4 * c + q)) 1 (T 3)) (33 + (4 * c + q)) 2 (T 4)) (33 + (4 * c + q)) 3 (T 5)) (21 + c) 2 (S.1 (21 + c) 2 + T 2)) (21 + c) 1 (nI (q + 1)) := ⟨_, rfl⟩
      have eX : (obd (obd (finS ⟨c, hc6⟩ (nI q)) fun v4 =>
          obd2 (f_X5_told S (nI i) 2) fun r5 S5 =>
          obd2 (f_X5_told S5 (nI i) 3) fun r6 S6 =>
          obd2 (f_X5_told S6 (nI i) 4) fun r7 S7 =>
          obd2 (f_X5_told S7 (nI i) 5) fun r8 S8 =>
          obd (f_X7_tell S8 v4 r5 r6 r7 r8) fun S9 =>
          bnd (setI S9 (21 + c) 2 ((S9.1 (21 + c) 2) + (S9.1 (33 + v4.val) 0))) fun S10 =>
          bnd (setI S10 (21 + c) 1 ((S10.1 (21 + c) 1) + 1)) fun S11 =>
          some S11) fun S21 => some S21) = some S' := by
        have k1 : (setI (setI (setI (setI S (33 + (4 * c + q)) 0 (T 2)) (33 + (4 * c + q)) 1 (T 3)) (33 + (4 * c + q)) 2 (T 4)) (33 + (4 * c + q)) 3 (T 5)).1 (21 + c) = S.1 (21 + c) := by
          rw [si_ne (by omega), si_ne (by omega), si_ne (by omega), si_ne (by omega)]
        have k2 : (setI (setI (setI (setI S (33 + (4 * c + q)) 0 (T 2)) (33 + (4 * c + q)) 1 (T 3)) (33 + (4 * c + q)) 2 (T 4)) (33 + (4 * c + q)) 3 (T 5)).1 (33 + (4 * c + q)) 0 = T 2 := by
          rw [si_nj (by omega), si_nj (by omega), si_nj (by omega), si_eq]
        rw [f, obd_S, e_tl S (x := 2) 2 rfl hi (by omega), obd2_s, e_tl S (x := 3) 3 rfl hi (by omega), obd2_s, e_tl S (x := 4) 4 rfl hi (by omega), obd2_s, e_tl S (x := 5) 5 rfl hi (by omega), obd2_s, ss 2 (by omega), ss 3 (by omega), ss 4 (by omega), ss 5 (by omega)]
        unfold f_X7_tell
        simp only [bnd_e, obd_S]
        rw [k2, k1, si_nj (show 1 ≠ 2 by omega), k1, r2, u1, nI_1, hS']
      rw [u1, if_pos (inB_of (k := q) q3 (by omega)), if_neg one0, if_neg (show ¬ (4 : Int32) ≤ nI q from nI_ge (a := q) (b := 4) (by omega) (by omega)), e1]
      refine ⟨S', M', eX, rfl, ?_⟩
      have sO : ∀ p, p ≠ 21 + c → p ≠ 33 + (4 * c + q) → S'.1 p = S.1 p := by
        intro p a b
        rw [hS', si_ne a, si_ne a, si_ne b, si_ne b, si_ne b, si_ne b]
      have w1 : S'.1 (21 + c) 1 = nI (q + 1) := by rw [hS', si_eq]
      have w2 : S'.1 (21 + c) 2 = S.1 (21 + c) 2 + T 2 := by rw [hS', si_nj (by omega), si_eq]
      have wj : ∀ j, j ≠ 1 → j ≠ 2 → S'.1 (21 + c) j = S.1 (21 + c) j := fun j a b => by
        rw [hS', si_nj a, si_nj b, si_ne (by omega), si_ne (by omega), si_ne (by omega), si_ne (by omega)]
      have v0 : S'.1 (33 + (4 * c + q)) 0 = T 2 := by rw [hS', si_ne (by omega), si_ne (by omega), si_nj (by omega), si_nj (by omega), si_nj (by omega), si_eq]
      have v1 : S'.1 (33 + (4 * c + q)) 1 = T 3 := by rw [hS', si_ne (by omega), si_ne (by omega), si_nj (by omega), si_nj (by omega), si_eq]
      have v2 : S'.1 (33 + (4 * c + q)) 2 = T 4 := by rw [hS', si_ne (by omega), si_ne (by omega), si_nj (by omega), si_eq]
      have v3 : S'.1 (33 + (4 * c + q)) 3 = T 5 := by rw [hS', si_ne (by omega), si_ne (by omega), si_eq]
      clear hS' eX
      have e8 : ∀ k, k < 4 → M'.1 8 (16 * c + 4 * q + k) = T (2 + k) := fun k hk => by
        rw [e5 k (by omega) hk, show 8 * i + 2 + k = 8 * i + (2 + k) by omega]
        exact mm (2 + k) (by omega) (by omega)
      have e80 : M'.1 8 (16 * c + 4 * q) = T 2 := e8 0 (by omega)
      have n7 : nv (M'.1 7 c) = q + 1 := by rw [e3]; exact nv_nI (by omega)
      have mO : ∀ p, p ≠ 7 → p ≠ 8 → M'.1 p = M.1 p := e2
      refine ⟨sO 12 (by omega) (by omega), mO 2 (by omega) (by omega), congrFun (mO 0 (by omega) (by omega)) 3, ?_, ⟨?_, fun d hd => ?_⟩, ?_⟩
      · exact R2_s h2 (sO 3 (by omega) (by omega)) (sO 13 (by omega) (by omega)) (sO 14 (by omega) (by omega)) (sO 15 (by omega) (by omega)) (mO 3 (by omega) (by omega)) (mO 4 (by omega) (by omega)) (mO 5 (by omega) (by omega)) (fun j _ _ => congrFun (mO 0 (by omega) (by omega)) j)
      · rw [mO 0 (by omega) (by omega)]; exact h3.1
      · by_cases z : d = c
        · subst z
          unfold RC
          rw [n7, w1, w2, wj 3 (by omega) (by omega), mO 0 (by omega) (by omega), mO 6 (by omega) (by omega), e3]
          refine ⟨r1, rfl, rg_nI (by omega) (by omega), fun q => absurd (tb.symm.trans q) (by decide), fun t => ⟨fun k hk => ?_, (r5 t).2⟩, fun s hs => ?_, ?_⟩
          · rw [wj (4 + k) (by omega) (by omega)]; exact (r5 t).1 k hk
          · by_cases z : s = q
            · rw [z, e80, e8 1 (by omega), e8 2 (by omega), e8 3 (by omega), T2, T3, T4, T5, nv_nI (by omega)]
              refine ⟨fun k hk => ?_, rg_nI hn (by omega), n1, rg_nI hm (by omega), rg_nI hx (by omega), rg_nI hy (by omega)⟩
              rw [e8 k hk]
              match k, hk with
              | 0, _ => exact v0
              | 1, _ => exact v1
              | 2, _ => exact v2
              | 3, _ => exact v3
            · obtain ⟨b1, b2⟩ := r6 s (by omega)
              have e0 : M'.1 8 (16 * d + 4 * s) = M.1 8 (16 * d + 4 * s) := e6 _ (by omega)
              rw [e0, e6 (16 * d + 4 * s + 1) (by omega), e6 (16 * d + 4 * s + 2) (by omega), e6 (16 * d + 4 * s + 3) (by omega), sO (33 + (4 * d + s)) (by omega) (by omega)]
              exact ⟨fun k hk => by rw [e6 (16 * d + 4 * s + k) (by omega)]; exact b1 k hk, b2⟩
          · rw [r7, T2, nI_add]
            show nI (_ + n) = nI (fb_sm' (fun s => nv (M'.1 8 (16 * d + 4 * s))) q + nv (M'.1 8 (16 * d + 4 * q)))
            rw [e80, T2, nv_nI (by omega)]
            exact congrArg (fun z => nI (z + n)) (sm_cg q fun s hs => by
              show nv _ = nv _
              rw [e6 (16 * d + 4 * s) (by omega)])
        · refine RC_c (h3.2 d hd) (sO _ (by omega) (by omega)) (fun s hs => sO _ (by omega) (by omega)) (by rw [mO 0 (by omega) (by omega)]) (e4 d z) (fun k hk => by rw [mO 6 (by omega) (by omega)]) (fun k hk => e6 _ (by omega))
      · exact R4_c h4 (sO 8 (by omega) (by omega)) (sO 18 (by omega) (by omega)) (sO 19 (by omega) (by omega)) (sO 20 (by omega) (by omega)) (mO 9 (by omega) (by omega)) (congrFun (mO 0 (by omega) (by omega)) 16)
  · rw [r1, if_neg tb, if_pos rfl, if_neg tb]
    exact ⟨S, M, rfl, rfl, KD.rf h2 h3 h4⟩
end TELL5
