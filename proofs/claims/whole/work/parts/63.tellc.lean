-- ===== 63: calls and sorts are told
theorem sm_cg {f g : Nat → Nat} : ∀ n, (∀ s, s < n → f s = g s) → fb_sm' f n = fb_sm' g n
  | 0, _ => rfl
  | n + 1, h => by
    show fb_sm' f n + f n = fb_sm' g n + g n
    rw [sm_cg n (fun s hs => h s (by omega)), h n (by omega)]
theorem RC_c {S M S' M' : St} {d : Nat} (h : RC S M d) (h1 : S'.1 (21 + d) = S.1 (21 + d)) (h2 : ∀ s, s < 4 → S'.1 (33 + (4 * d + s)) = S.1 (33 + (4 * d + s))) (hb : (nv (M'.1 0 11)).testBit d = (nv (M.1 0 11)).testBit d) (h7 : M'.1 7 d = M.1 7 d) (h6 : ∀ k, k < 6 → M'.1 6 (6 * d + k) = M.1 6 (6 * d + k)) (h8 : ∀ k, k < 16 → M'.1 8 (16 * d + k) = M.1 8 (16 * d + k)) : RC S' M' d := by
  obtain ⟨a1, a2, a3, a4, a5, a6, a7⟩ := h
  have hm : nv (M.1 7 d) ≤ 4 := a3.2
  unfold RC
  rw [h1, hb, h7]
  refine ⟨a1, a2, a3, a4, fun t => ?_, fun s hs => ?_, ?_⟩
  · obtain ⟨b1, b2⟩ := a5 t
    have e0 : M'.1 6 (6 * d) = M.1 6 (6 * d) := h6 0 (by omega)
    rw [e0, h6 1 (by omega), h6 2 (by omega), h6 3 (by omega), h6 4 (by omega), h6 5 (by omega)]
    exact ⟨fun k hk => by rw [h6 k hk]; exact b1 k hk, b2⟩
  · obtain ⟨b1, b2⟩ := a6 s hs
    have e0 : M'.1 8 (16 * d + 4 * s) = M.1 8 (16 * d + 4 * s) := h8 (4 * s) (by omega)
    have ek : ∀ k, k < 4 → M'.1 8 (16 * d + 4 * s + k) = M.1 8 (16 * d + 4 * s + k) := fun k hk => by
      rw [show 16 * d + 4 * s + k = 16 * d + (4 * s + k) by omega]; exact h8 (4 * s + k) (by omega)
    rw [e0, ek 1 (by omega), ek 2 (by omega), ek 3 (by omega), h2 s (by omega)]
    exact ⟨fun k hk => by rw [ek k hk]; exact b1 k hk, b2⟩
  · rw [a7]
    exact congrArg nI (sm_cg _ fun s hs => by
      show nv _ = nv _
      rw [show M'.1 8 (16 * d + 4 * s) = M.1 8 (16 * d + 4 * s) from h8 (4 * s) (by omega)])
theorem call_m : ∀ (m : Fin 64) (c : Fin 6), (nI m.val ||| ((1 : Int32) <<< (nI c.val &&& 31))) = nI (m.val ||| 2 ^ c.val) ∧ m.val ||| 2 ^ c.val ≤ 63 ∧ ∀ d : Fin 6, (m.val ||| 2 ^ c.val).testBit d.val = (decide (d.val = c.val) || m.val.testBit d.val) := by
  decide +kernel
theorem s12 {S A : St} {c a : Nat} {v : Int32} (h : A.1 12 = S.1 12) : (setI A (21 + c) a v).1 12 = S.1 12 := (si_ne (by omega)).trans h
theorem tl_step {S A : St} {i k a c : Nat} {x v : Int32} {β : Type} {f : St → Option β} (hx : x = nI k) (hi : i ≤ 9) (hk : k ≤ 7) (hv : S.1 12 (8 * i + k) = v) (hA : A.1 12 = S.1 12) : (obd2 (f_X5_told A (nI i) x) fun r S1 => bnd (setI S1 (21 + c) a r) fun S2 => f S2) = f (setI A (21 + c) a v) := by
  rw [e_tl A k hx hi hk, obd2_s, bnd_e, hA, hv]
theorem e_cA (S : St) {c : Nat} (hc : c < 6) : f_X4_callAt S (nI c) = some (some ⟨c, hc⟩, S) := by
  have f : fin6 (nI c) = some ⟨c, hc⟩ := by
    unfold fin6
    rw [dif_pos (ixo_nI hc (by omega))]
    exact congrArg some (Fin.ext (nI_clamp (by omega)))
  unfold f_X4_callAt
  rw [if_neg (nI_pos (by omega)), if_neg (show ¬ (6 : Int32) ≤ nI c from nI_ge (a := c) (b := 6) hc (by omega)), f, obd_S]
section TELL3
variable {i : Nat}
theorem ly202 (hi : i ≤ 9) {c : Nat} (hc : c < 6) : ∀ (j fu k : Nat) (M : St), k + j = 6 → j < fu → ∃ M', l_X11_lay_202 fu M (nI (8 * i)) (nI c) (nI k) = some M' ∧ (∀ p, p ≠ 6 → M'.1 p = M.1 p) ∧ (∀ u, k ≤ u → u < 6 → M'.1 6 (6 * c + u) = M.1 2 (8 * i + 2 + u)) ∧ ∀ t, ¬ (6 * c + k ≤ t ∧ t < 6 * c + 6) → M'.1 6 t = M.1 6 t := by
  intro j
  induction j with
  | zero =>
    intro fu k M hk hf
    obtain ⟨fu, rfl⟩ : ∃ q, fu = q + 1 := ⟨fu - 1, by omega⟩
    refine ⟨M, ?_, fun _ _ => rfl, fun u a b => by omega, fun _ _ => rfl⟩
    show f_X11_lay_202 (l_X11_lay_202 fu) M _ _ _ = _
    unfold f_X11_lay_202
    rw [if_pos (show (6 : Int32) ≤ nI k from nI_le (a := 6) (by omega) (by omega))]
  | succ j ih =>
    intro fu k M hk hf
    obtain ⟨fu, rfl⟩ : ∃ q, fu = q + 1 := ⟨fu - 1, by omega⟩
    obtain ⟨M', e1, e2, e3, e4⟩ := ih fu (k + 1) (setI M 6 (6 * c + k) (M.1 2 (8 * i + 2 + k))) (by omega) (by omega)
    have m2 : (setI M 6 (6 * c + k) (M.1 2 (8 * i + 2 + k))).1 2 = M.1 2 := si_ne (by omega)
    refine ⟨M', ?_, fun p hp => (e2 p hp).trans (si_ne hp), fun u a b => ?_, fun t ht => ?_⟩
    · show f_X11_lay_202 (l_X11_lay_202 fu) M _ _ _ = _
      unfold f_X11_lay_202
      rw [if_neg (show ¬ (6 : Int32) ≤ nI k from nI_ge (a := k) (b := 6) (by omega) (by omega)), show nI (8 * i) + 2 = nI (8 * i + 2) from nI_add _ 2, nI_add, show (6 : Int32) * nI c = nI (6 * c) from pk_mul 6 c, nI_add, chk_T (ixo_nI (show 8 * i + 2 + k < 80 by omega) (by omega)), chk_T (ixo_nI (show 6 * c + k < 36 by omega) (by omega)), nI_clamp (show 8 * i + 2 + k < 2 ^ 31 by omega), nI_clamp (show 6 * c + k < 2 ^ 31 by omega)]
      simp only [bnd_e, nI_1]
      exact e1
    · by_cases z : u = k
      · rw [z, e4 _ (by omega), si_eq]
      · rw [e3 u (by omega) b, m2]
    · rw [e4 t (by omega), si_nj (by omega)]
theorem ly263 (hi : i ≤ 9) {c m : Nat} (hc : c < 6) (hm : m ≤ 3) : ∀ (j fu k : Nat) (M : St), k + j = 4 → j < fu → M.1 7 c = nI m → ∃ M', l_X11_lay_263 fu M (nI (8 * i)) (nI c) (nI k) = some M' ∧ (∀ p, p ≠ 7 → p ≠ 8 → M'.1 p = M.1 p) ∧ M'.1 7 c = nI (m + 1) ∧ (∀ d, d ≠ c → M'.1 7 d = M.1 7 d) ∧ (∀ u, k ≤ u → u < 4 → M'.1 8 (16 * c + 4 * m + u) = M.1 2 (8 * i + 2 + u)) ∧ ∀ t, ¬ (16 * c + 4 * m + k ≤ t ∧ t < 16 * c + 4 * m + 4) → M'.1 8 t = M.1 8 t := by
  intro j
  induction j with
  | zero =>
    intro fu k M hk hf h7
    obtain ⟨fu, rfl⟩ : ∃ q, fu = q + 1 := ⟨fu - 1, by omega⟩
    refine ⟨setI M 7 c (nI (m + 1)), ?_, fun p a b => si_ne a, si_eq, fun d hd => si_nj hd, fun u a b => by omega, fun t _ => congrFun (si_ne (by omega)) t⟩
    show f_X11_lay_263 (l_X11_lay_263 fu) M _ _ _ = _
    unfold f_X11_lay_263
    rw [if_pos (show (4 : Int32) ≤ nI k from nI_le (a := 4) (by omega) (by omega)), chk_T (ixo_nI hc (by omega)), chk_T (ixo_nI hc (by omega)), nI_clamp (show c < 2 ^ 31 by omega), h7, nI_1, bnd_e]
  | succ j ih =>
    intro fu k M hk hf h7
    obtain ⟨fu, rfl⟩ : ∃ q, fu = q + 1 := ⟨fu - 1, by omega⟩
    obtain ⟨M', e1, e2, e3, e4, e5, e6⟩ := ih fu (k + 1) (setI M 8 (16 * c + 4 * m + k) (M.1 2 (8 * i + 2 + k))) (by omega) (by omega) ((congrFun (si_ne (by omega)) c).trans h7)
    have m2 : (setI M 8 (16 * c + 4 * m + k) (M.1 2 (8 * i + 2 + k))).1 2 = M.1 2 := si_ne (by omega)
    refine ⟨M', ?_, fun p a b => (e2 p a b).trans (si_ne b), e3, fun d hd => (e4 d hd).trans (congrFun (si_ne (by omega)) d), fun u a b => ?_, fun t ht => ?_⟩
    · show f_X11_lay_263 (l_X11_lay_263 fu) M _ _ _ = _
      unfold f_X11_lay_263
      rw [if_neg (show ¬ (4 : Int32) ≤ nI k from nI_ge (a := k) (b := 4) (by omega) (by omega)), chk_T (ixo_nI hc (by omega)), show nI (8 * i) + 2 = nI (8 * i + 2) from nI_add _ 2, nI_add, show (16 : Int32) * nI c = nI (16 * c) from pk_mul 16 c, nI_clamp (show c < 2 ^ 31 by omega), h7, show (4 : Int32) * nI m = nI (4 * m) from pk_mul 4 m, nI_add, nI_add, chk_T (ixo_nI (show 8 * i + 2 + k < 80 by omega) (by omega)), chk_T (ixo_nI (show 16 * c + 4 * m + k < 96 by omega) (by omega)), nI_clamp (show 8 * i + 2 + k < 2 ^ 31 by omega), nI_clamp (show 16 * c + 4 * m + k < 2 ^ 31 by omega)]
      simp only [bnd_e, nI_1]
      exact e1
    · by_cases z : u = k
      · rw [z, e6 _ (by omega), si_eq]
      · rw [e5 u (by omega) b, m2]
    · rw [e6 t (by omega), si_nj (by omega)]
end TELL3
