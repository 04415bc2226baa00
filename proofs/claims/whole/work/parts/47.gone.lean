-- ===== 47: the reference's walk by one number
theorem w_km {M M' : St} (h : QM M M') (k : Nat → Nat) (i : Nat) : q_w M' k i = q_w M k i := by
  have pl : ∀ c, q_pl M' c = q_pl M c := fun c => by unfold q_pl; rw [h.1 6 (by omega) (by omega) (by omega)]
  have pp : q_pp M' k i = q_pp M k i := by cases i with
    | zero => rfl
    | succ i => exact pl _
  unfold q_w
  rw [h.1 5 (by omega) (by omega) (by omega), pp, pl]
theorem lt_km {M M' : St} (h : QM M M') (b c s : Nat) : q_lt M' b c s = q_lt M b c s := by
  unfold q_lt
  rw [h.1 8 (by omega) (by omega) (by omega), h.2 6 (by omega)]
theorem C_le {S M : St} (h3 : R3 S M) {k : Nat → Nat} : ∀ j i, q_C M k j i ≤ 4 ^ j := by
  intro j
  induction j with
  | zero => intro i; exact Nat.le_refl _
  | succ j ih =>
    intro i
    have h1 := ih (i + 1)
    have h2 : (if k i < 6 then ms M (k i) else 1) ≤ 4 := by
      by_cases hc : k i < 6
      · rw [if_pos hc]; exact ms_le h3 hc
      · rw [if_neg hc]; omega
    rw [q_C, Nat.pow_succ, Nat.mul_comm]
    exact Nat.mul_le_mul h1 h2
theorem C_4096 {S M : St} (h3 : R3 S M) {k : Nat → Nat} {n : Nat} (hn : n ≤ 6) : q_C M k n 0 ≤ 4096 :=
  Nat.le_trans (C_le h3 n 0) (Nat.le_trans (Nat.pow_le_pow_right (by omega) hn) (by decide))
/-- the digits of v lie in the reference's row -/
def Dg (M0 M : St) (n : Nat) (k : Nat → Nat) (v : Nat) : Prop := ∀ t, t < n → k t < 6 → M.1 11 t = nI (q_rs M0 k v t % ms M0 (k t))
theorem rs_le {M : St} {k : Nat → Nat} {v : Nat} : ∀ i, q_rs M k v i ≤ v := by
  intro i
  induction i with
  | zero => exact Nat.le_refl _
  | succ i ih =>
    rw [q_rs, q_rn]
    by_cases hc : k i < 6
    · rw [if_pos hc]; exact Nat.le_trans (Nat.div_le_self _ _) ih
    · rw [if_neg hc]; exact ih
theorem Ly_L {M0 M : St} {n : Nat} {k : Nat → Nat} (h : Ly M0 M n k) (v : Int64) : Ly M0 (setL M 0 24 v) n k :=
  ⟨h.1, h.2.1, h.2.2.1, (sl_nj (by omega)).trans h.2.2.2⟩
theorem Ly_11 {M0 M : St} {n : Nat} {k : Nat → Nat} (h : Ly M0 M n k) (i : Nat) (v : Int32) : Ly M0 (setI M 11 i v) n k :=
  ⟨(congrFun (si_ne (by omega)) 21).trans h.1, fun t ht => (congrFun (si_ne (by omega)) t).trans (h.2.1 t ht), (congrFun (si_ne (by omega)) 22).trans h.2.2.1, h.2.2.2⟩
theorem lc_M {S M0 : St} (h3 : R3 S M0) {n : Nat} {k : Nat → Nat} (hn : n ≤ 6) (hok : ∀ t, t < n → Okk M0 (k t)) (v : Nat) (hv : v < 2 ^ 30) : ∀ (j fu i a : Nat) (M : St), i + j = n → j < fu → QM M0 M → Ly M0 M n k → (∀ t, t < i → k t < 6 → M.1 11 t = nI (q_rs M0 k v t % ms M0 (k t))) → M.2.1 0 24 = lN a → a * q_W M0 (q_lk M0) k j i (q_rs M0 k v i) = q_W M0 (q_lk M0) k n 0 v →
    ∃ M', l_X11_layChosen_9 fu M (nI (q_rs M0 k v i)) (nI i) = some M' ∧ QM M0 M' ∧ Ly M0 M' n k ∧ Dg M0 M' n k v ∧ M'.2.1 0 24 = lN (q_W M0 (q_lk M0) k n 0 v) := by
  intro j
  induction j with
  | zero =>
    intro fu i a M hk hf hK hY hd h24 ha
    obtain ⟨fu, rfl⟩ : ∃ q, fu = q + 1 := ⟨fu - 1, by omega⟩
    have hi : i = n := by omega
    subst hi
    show ∃ M', f_X11_layChosen_9 (l_X11_layChosen_9 fu) M _ (nI i) = _ ∧ _
    unfold f_X11_layChosen_9
    rw [hY.1, if_pos (Int32.le_refl _)]
    rw [q_W, Nat.mul_one] at ha
    exact ⟨M, rfl, hK, hY, hd, by rw [h24, ha]⟩
  | succ j ih =>
    intro fu i a M hk hf hK hY hd h24 ha
    obtain ⟨fu, rfl⟩ : ∃ q, fu = q + 1 := ⟨fu - 1, by omega⟩
    rw [q_W, ← Nat.mul_assoc] at ha
    show ∃ M', f_X11_layChosen_9 (l_X11_layChosen_9 fu) M _ (nI i) = _ ∧ _
    unfold f_X11_layChosen_9 f_X11_layChosen_86
    simp only [nI_clamp (show i < 2 ^ 31 by omega)]
    rw [hY.1, if_neg (nI_ge (by omega) (by omega)), chk_T (ixo_nI (show i < 6 by omega) (by omega)), hY.2.1 i (by omega), bnd_e]
    have rl := rs_le (M := M0) (k := k) (v := v) i
    rcases hok i (by omega) with e6 | ⟨hc, h0⟩
    · rw [if_pos (show nI (k i) = 6 by rw [e6]; rfl), bnd_e, nI_1]
      have hc : ¬ k i < 6 := by omega
      rw [if_neg hc, Nat.mul_one] at ha
      have er : q_rs M0 k v (i + 1) = q_rs M0 k v i := by rw [q_rs, q_rn, if_neg hc]
      have e := ih fu (i + 1) a M (by omega) (by omega) hK hY (fun t ht hkt => by
        by_cases z : t = i
        · subst z; exact absurd hkt hc
        · exact hd t (by omega) hkt) h24 (by rw [er]; rw [q_rn, if_neg hc] at ha; exact ha)
      rw [er] at e
      exact e
    · have g6 : ¬ nI (k i) = 6 := fun q => by have := (nI_eq (a := k i) (b := 6) (by omega) (by omega)).mp q; omega
      have r3 := R3_fr (FS.rf S) hK.fm h3
      have hm := ms_le h3 hc
      have em : M.1 7 (k i) = nI (ms M0 (k i)) := by rw [ms_e r3 hc, ms_km hK]
      have hn0 : ¬ nI (ms M0 (k i)) = 0 := nI_ne0 (by omega) (by omega)
      have dl := Nat.mod_lt (q_rs M0 k v i) h0
      have k1 : ∀ z, QM M0 (setI M 11 i z) := fun z => hK.tr (QM_I 11 i z (by omega))
      have a7 : ∀ z, (setI M 11 i z).1 7 = M.1 7 := fun z => si_ne (by omega)
      have a8 : ∀ z, (setI M 11 i z).1 8 = M.1 8 := fun z => si_ne (by omega)
      have a24 : ∀ z, (setI M 11 i z).2.1 0 24 = lN a := fun z => h24
      have e8 : M.1 8 (16 * k i + 4 * (q_rs M0 k v i % ms M0 (k i))) = nI (q_lk M0 (k i) (q_rs M0 k v i % ms M0 (k i))) := by
        rw [hK.1 8 (by omega) (by omega) (by omega)]; exact (lk_rg h3 hc dl).1
      have hlk := (lk_rg h3 hc dl).2.2
      simp only [nI_clamp (show k i < 2 ^ 31 by omega)]
      rw [if_neg g6, chk_T (ixo_nI hc (by omega)), em, chk_T hn0, chk_T (ixo_nI (show i < 6 by omega) (by omega)), pk_rem (show q_rs M0 k v i < 2 ^ 31 by omega) (by omega) (by omega), bnd_e, chk_T (ixo_nI hc (by omega)), a7, em, chk_T hn0, pk_div (show q_rs M0 k v i < 2 ^ 31 by omega) (by omega) (by omega), bnd_e, chk_T (ixo_nI (show i < 6 by omega) (by omega)), si_eq, srt_i0, chk_T (ixo_nI (show 16 * k i + 4 * (q_rs M0 k v i % ms M0 (k i)) < 96 by omega) (by omega)), a24, a8, nI_clamp (by omega), e8, nI_l (by omega), lN_mul, bnd_e, bnd_e, nI_1]
      rw [if_pos hc] at ha
      have er : q_rs M0 k v (i + 1) = q_rs M0 k v i / ms M0 (k i) := by rw [q_rs, q_rn, if_pos hc]
      have e := ih fu (i + 1) _ (setL (setI M 11 i (nI (q_rs M0 k v i % ms M0 (k i)))) 0 24 (lN (a * q_lk M0 (k i) (q_rs M0 k v i % ms M0 (k i))))) (by omega) (by omega) ((k1 _).tr (QM_L 0 24 _)) (Ly_L (Ly_11 hY i _) _) (fun t ht hkt => by
        by_cases z : t = i
        · subst z; rw [sl_1, si_eq]
        · rw [sl_1, si_nj z]; exact hd t (by omega) hkt) sl_eq (by rw [er]; rw [q_rn, if_pos hc] at ha; exact ha)
      rw [er] at e
      exact e
theorem e_lc {S M0 M : St} (h3 : R3 S M0) {n : Nat} {k : Nat → Nat} (hn : n ≤ 6) (hok : ∀ t, t < n → Okk M0 (k t)) {v : Nat} (hv : v < 2 ^ 30) (hK : QM M0 M) (hY : Ly M0 M n k) :
    ∃ M', f_X11_layChosen M (nI v) = some M' ∧ QM M0 M' ∧ Ly M0 M' n k ∧ Dg M0 M' n k v ∧ M'.2.1 0 24 = lN (q_W M0 (q_lk M0) k n 0 v) := by
  unfold f_X11_layChosen
  rw [bnd_e]
  exact lc_M h3 hn hok v hv n FU 0 1 _ (Nat.zero_add _) (by rw [FU_eq]; omega) (hK.tr (QM_L 0 24 _)) (Ly_L hY _) (fun t ht => absurd ht (Nat.not_lt_zero t)) sl_eq (Nat.one_mul _)
/-- all but the five cells of a walk -/
def GM (M M' : St) : Prop := (∀ p, p ≠ 0 → M'.1 p = M.1 p) ∧ (∀ j, j < 25 → M'.1 0 j = M.1 0 j) ∧ M'.2 = M.2
theorem GM.rf (M : St) : GM M M := ⟨fun _ _ => rfl, fun _ _ => rfl, rfl⟩
theorem GM.tr {A B C : St} (h : GM A B) (g : GM B C) : GM A C := ⟨fun p q => (g.1 p q).trans (h.1 p q), fun p q => (g.2.1 p q).trans (h.2.1 p q), g.2.2.trans h.2.2⟩
theorem GM.km {M M' : St} (h : GM M M') : QM M M' := ⟨fun p a _ _ => h.1 p a, fun j a => h.2.1 j (by omega)⟩
theorem GM_I (M : St) (j : Nat) (v : Int32) (h : 25 ≤ j) : GM M (setI M 0 j v) := ⟨fun _ q => si_ne q, fun i hi => si_nj (by omega), rfl⟩
theorem GM.ly {M0 M M' : St} {n : Nat} {k : Nat → Nat} (h : GM M M') (g : Ly M0 M n k) : Ly M0 M' n k := by
  unfold Ly
  rw [h.2.1 21 (by omega), h.2.1 22 (by omega), h.1 10 (by omega), h.2.2]
  exact g
theorem GM.dg {M0 M M' : St} {n v : Nat} {k : Nat → Nat} (h : GM M M') (g : Dg M0 M n k v) : Dg M0 M' n k v := by
  unfold Dg
  rw [h.1 11 (by omega)]
  exact g
/-- the five cells: minute, bag, gain, all done, what is done -/
def Gc (M : St) (m bb g a d : Int32) : Prop := M.1 0 27 = m ∧ M.1 0 29 = bb ∧ M.1 0 25 = g ∧ M.1 0 26 = a ∧ M.1 0 28 = d
theorem Gc5 (M : St) (m bb g a d : Int32) : GM M (setI (setI (setI (setI (setI M 0 27 m) 0 25 g) 0 29 bb) 0 28 d) 0 26 a) ∧ Gc (setI (setI (setI (setI (setI M 0 27 m) 0 25 g) 0 29 bb) 0 28 d) 0 26 a) m bb g a d := by
  refine ⟨(GM_I M 27 m (by omega)).tr ((GM_I _ 25 g (by omega)).tr ((GM_I _ 29 bb (by omega)).tr ((GM_I _ 28 d (by omega)).tr (GM_I _ 26 a (by omega))))), ?_, ?_, ?_, si_eq, ?_⟩
  · exact (si_nj (by omega)).trans ((si_nj (by omega)).trans ((si_nj (by omega)).trans ((si_nj (by omega)).trans si_eq)))
  · exact (si_nj (by omega)).trans ((si_nj (by omega)).trans si_eq)
  · exact (si_nj (by omega)).trans ((si_nj (by omega)).trans ((si_nj (by omega)).trans si_eq))
  · exact (si_nj (by omega)).trans si_eq
section STOP
variable {M : St} {k_36 : St → Int32 → Int32 → Int32 → Int32 → Int32 → Option St} {x1 x2 x3 x4 : Int32} {i c : Nat} {m bb g a d : Int32}
theorem gs_late (hc : c < 6) (hG : Gc M m bb g a d) (x9 : Int32) : ∃ M2, f_X11_go_258 k_36 M x1 x2 x3 x4 (nI i) (nI c) 1 x9 (-1) = k_36 M2 x1 x2 x3 x4 (nI (i + 1)) ∧ GM M M2 ∧ Gc M2 m bb (g - M.1 6 (6 * c + 4)) 0 d := by
  obtain ⟨h1, h2, h3, h4, h5⟩ := Gc5 M m bb (g - M.1 6 (6 * c + 4)) 0 d
  obtain ⟨c1, c2, c3, c4, c5⟩ := hG
  have e25 : ∀ v, (setI M 0 27 v).1 0 25 = M.1 0 25 := fun v => si_nj (by omega)
  have e6 : ∀ v, (setI M 0 27 v).1 6 = M.1 6 := fun v => si_ne (by omega)
  have e29 : ∀ v w, (setI (setI M 0 27 v) 0 25 w).1 0 29 = M.1 0 29 := fun v w => (si_nj (by omega)).trans (si_nj (by omega))
  have e28 : ∀ v w u, (setI (setI (setI M 0 27 v) 0 25 w) 0 29 u).1 0 28 = M.1 0 28 := fun v w u => (si_nj (by omega)).trans ((si_nj (by omega)).trans (si_nj (by omega)))
  have zz : zb (0 : Int32) := Or.inl rfl
  unfold f_X11_go_258 f_X11_go_271 f_X11_go_324 f_X11_go_366 f_X11_go_385 f_X11_go_406 f_X11_go_427 f_X11_go_428 f_X11_go_431
  rw [if_pos rfl, if_neg one0, Int32.add_zero, c1, bnd_e, if_pos rfl, show (4 : Int32) = nI 4 from rfl, cal_ix, chk_T (ixo_nI (show 6 * c + 4 < 36 by omega) (by omega)), e6, e25, c3, nI_clamp (by omega), ← Int32.sub_eq_add_neg, bnd_e, if_pos rfl, e29, c2, bnd_e, if_pos rfl, e28, c5, Int32.or_zero, bnd_e, if_pos rfl, chk_T zz, bnd_e, bnd_e, nI_1, ite_self]
  exact ⟨_, rfl, h1, h2, h3, h4, h5⟩
theorem gs_fail (hc : c < 6) (hG : Gc M m bb g a d) (x9 : Int32) : ∃ M2, f_X11_go_258 k_36 M x1 x2 x3 x4 (nI i) (nI c) 0 x9 (-1) = k_36 M2 x1 x2 x3 x4 (nI (i + 1)) ∧ GM M M2 ∧ Gc M2 (m + M.1 6 (6 * c + 5)) bb (g - M.1 6 (6 * c + 4)) 0 d := by
  obtain ⟨h1, h2, h3, h4, h5⟩ := Gc5 M (m + M.1 6 (6 * c + 5)) bb (g - M.1 6 (6 * c + 4)) 0 d
  obtain ⟨c1, c2, c3, c4, c5⟩ := hG
  have e25 : ∀ v, (setI M 0 27 v).1 0 25 = M.1 0 25 := fun v => si_nj (by omega)
  have e6 : ∀ v, (setI M 0 27 v).1 6 = M.1 6 := fun v => si_ne (by omega)
  have e29 : ∀ v w, (setI (setI M 0 27 v) 0 25 w).1 0 29 = M.1 0 29 := fun v w => (si_nj (by omega)).trans (si_nj (by omega))
  have e28 : ∀ v w u, (setI (setI (setI M 0 27 v) 0 25 w) 0 29 u).1 0 28 = M.1 0 28 := fun v w u => (si_nj (by omega)).trans ((si_nj (by omega)).trans (si_nj (by omega)))
  have zz : zb (0 : Int32) := Or.inl rfl
  unfold f_X11_go_258 f_X11_go_271 f_X11_go_324 f_X11_go_366 f_X11_go_385 f_X11_go_406 f_X11_go_427 f_X11_go_428 f_X11_go_431
  rw [if_pos rfl, if_pos rfl, if_pos rfl, show (5 : Int32) = nI 5 from rfl, cal_ix, chk_T (ixo_nI (show 6 * c + 5 < 36 by omega) (by omega)), nI_clamp (show 6 * c + 5 < 2 ^ 31 by omega), c1, bnd_e, if_pos rfl, show (4 : Int32) = nI 4 from rfl, cal_ix, chk_T (ixo_nI (show 6 * c + 4 < 36 by omega) (by omega)), e6, e25, c3, nI_clamp (show 6 * c + 4 < 2 ^ 31 by omega), ← Int32.sub_eq_add_neg, bnd_e, if_pos rfl, e29, c2, bnd_e, if_pos rfl, e28, c5, Int32.or_zero, bnd_e, if_pos rfl, chk_T zz, bnd_e, bnd_e, nI_1, ite_self]
  exact ⟨_, rfl, h1, h2, h3, h4, h5⟩
theorem gs_does (hc : c < 6) (hG : Gc M m bb g a d) (ha : zb a) {s b' : Nat} (hs : s < 4) (hb : b' < 2 ^ 31) : ∃ M2, f_X11_go_258 k_36 M x1 x2 x3 x4 (nI i) (nI c) 0 (nI s) (nI b') = k_36 M2 x1 x2 x3 x4 (nI (i + 1)) ∧ GM M M2 ∧ Gc M2 (m + M.1 8 (16 * c + 4 * s + 1)) (nI b') (g + M.1 6 (6 * c + 3)) a (d ||| ((1 : Int32) <<< (nI c &&& 31))) := by
  obtain ⟨h1, h2, h3, h4, h5⟩ := Gc5 M (m + M.1 8 (16 * c + 4 * s + 1)) (nI b') (g + M.1 6 (6 * c + 3)) a (d ||| ((1 : Int32) <<< (nI c &&& 31)))
  obtain ⟨c1, c2, c3, c4, c5⟩ := hG
  have e25 : ∀ v, (setI M 0 27 v).1 0 25 = M.1 0 25 := fun v => si_nj (by omega)
  have e6 : ∀ v, (setI M 0 27 v).1 6 = M.1 6 := fun v => si_ne (by omega)
  have e28 : ∀ v w u, (setI (setI (setI M 0 27 v) 0 25 w) 0 29 u).1 0 28 = M.1 0 28 := fun v w u => (si_nj (by omega)).trans ((si_nj (by omega)).trans (si_nj (by omega)))
  have e26 : ∀ v w u t, (setI (setI (setI (setI M 0 27 v) 0 25 w) 0 29 u) 0 28 t).1 0 26 = M.1 0 26 := fun v w u t => (si_nj (by omega)).trans ((si_nj (by omega)).trans ((si_nj (by omega)).trans (si_nj (by omega))))
  have z0 : zb (0 : Int32) := Or.inl rfl
  have z1 : zb (1 : Int32) := Or.inr rfl
  unfold f_X11_go_258 f_X11_go_271 f_X11_go_324 f_X11_go_366 f_X11_go_385 f_X11_go_406 f_X11_go_427 f_X11_go_428 f_X11_go_431
  rw [if_neg (m1_ne hb), if_pos rfl, if_neg one0, show 16 * nI c + 4 * nI s + 1 = nI (16 * c + 4 * s + 1) from srt_ix c s 1, chk_T (ixo_nI (show 16 * c + 4 * s + 1 < 96 by omega) (by omega)), nI_clamp (show 16 * c + 4 * s + 1 < 2 ^ 31 by omega), c1, bnd_e, if_neg one0, show 6 * nI c + 3 = nI (6 * c + 3) from cal_ix c 3, chk_T (ixo_nI (show 6 * c + 3 < 36 by omega) (by omega)), e6, e25, c3, nI_clamp (show 6 * c + 3 < 2 ^ 31 by omega), bnd_e, if_neg one0, bnd_e, if_neg one0, e28, c5, bnd_e, e26, c4, if_neg one0, chk_T z0, chk_T z1, bnd_e, bnd_e, bnd_e, bnd_e, nI_1]
  rcases ha with rfl | rfl
  · rw [if_pos rfl]; exact ⟨_, rfl, h1, h2, h3, h4, h5⟩
  · rw [if_neg one0]; exact ⟨_, rfl, h1, h2, h3, h4, h5⟩
end STOP
theorem op_sh {S M : St} (h : R3 S M) {c : Nat} (hc : c < 6) (h0 : 0 < ms M c) : M.1 6 (6 * c + 1) ≤ M.1 6 (6 * c + 2) := by
  obtain ⟨-, -, -, -, c5, -⟩ := h.2 c hc
  obtain ⟨-, -, d1, d2, d3, -⟩ := c5 (tc_ms h hc h0)
  rw [d1.1, d2.1]
  exact nI_le d3 (by have := d2.2; omega)
/-- up to where it is told whether he is late -/
theorem gs_come {S M0 M : St} (h3 : R3 S M0) {n : Nat} {k : Nat → Nat} (hn : n ≤ 6) (hok : ∀ t, t < n → Okk M0 (k t)) (hK : QM M0 M) (hY : Ly M0 M n k) {k_36 : St → Int32 → Int32 → Int32 → Int32 → Int32 → Option St} {x1 x2 x4 : Int32} {i : Nat} (hi : i < n) {m bb g a d : Int32} (hG : Gc M m bb g a d) :
    (¬ k i < 6 ∧ ∃ M1, f_X11_go_36 k_36 M x1 x2 (nI (q_pp M0 k i)) x4 (nI i) = k_36 M1 x1 x2 (nI (q_pp M0 k (i + 1))) x4 (nI (i + 1)) ∧ GM M M1 ∧ Gc M1 (m + q_w M0 k i) x1 g a d) ∨
    (∃ hc : k i < 6, 0 < ms M0 (k i) ∧ ∃ M1, f_X11_go_36 k_36 M x1 x2 (nI (q_pp M0 k i)) x4 (nI i) = f_X11_go_182 k_36 M1 x1 x2 (nI (q_pp M0 k (i + 1))) x4 (nI i) (nI (k i)) (if m + q_w M0 k i ≤ M0.1 6 (6 * k i + 2) then 0 else 1) ∧ GM M M1 ∧ Gc M1 (q_be M0 (k i) (m + q_w M0 k i)) bb g a d) := by
  obtain ⟨c1, c2, c3, c4, c5⟩ := hG
  have hpp : q_pp M0 k i ≤ 5 := by
    cases i with
    | zero => exact Nat.zero_le _
    | succ i => exact pl_le h3 _ (hok i (by omega))
  have hpl := pl_le h3 _ (hok i hi)
  have e5 : M.1 5 = M0.1 5 := hK.1 5 (by omega) (by omega) (by omega)
  have e6 : M.1 6 = M0.1 6 := hK.1 6 (by omega) (by omega) (by omega)
  unfold f_X11_go_36 f_X11_go_75 f_X11_go_431
  rw [hY.1, if_neg (nI_ge (by omega) (by omega)), chk_T (ixo_nI (show i < 6 by omega) (by omega)), nI_clamp (show i < 2 ^ 31 by omega), hY.2.1 i hi, bnd_e]
  rcases hok i hi with q6 | ⟨hc, h0⟩
  · left
    have hc : ¬ k i < 6 := by omega
    have ep : q_pl M0 (k i) = 0 := by unfold q_pl; rw [if_neg hc]
    have g6 : nI (k i) = 6 := by rw [q6]; rfl
    refine ⟨hc, ?_⟩
    rw [if_pos g6, show 6 * nI (q_pp M0 k i) + 0 = nI (6 * q_pp M0 k i + 0) from cal_ix _ 0, chk_T (ixo_nI (show 6 * q_pp M0 k i + 0 < 36 by omega) (by omega)), nI_clamp (by omega), c1, e5, bnd_e, if_pos g6, bnd_e, bnd_e, nI_1]
    refine ⟨setI (setI M 0 27 (m + M0.1 5 (6 * q_pp M0 k i + 0))) 0 29 x1, ?_, (GM_I M 27 _ (by omega)).tr (GM_I _ 29 x1 (by omega)), ?_, si_eq, ?_, ?_, ?_⟩
    · rw [show nI (q_pp M0 k (i + 1)) = 0 by rw [q_pp, ep]; rfl]
    · refine (si_nj (by omega)).trans (si_eq.trans ?_)
      unfold q_w; rw [ep]
    · exact (si_nj (by omega)).trans ((si_nj (by omega)).trans c3)
    · exact (si_nj (by omega)).trans ((si_nj (by omega)).trans c4)
    · exact (si_nj (by omega)).trans ((si_nj (by omega)).trans c5)
  · right
    refine ⟨hc, h0, ?_⟩
    have g6 : ¬ nI (k i) = 6 := fun q => by have := (nI_eq (a := k i) (b := 6) (by omega) (by omega)).mp q; omega
    have s6 : ∀ v, (setI M 0 27 v).1 6 = M0.1 6 := fun v => (si_ne (by omega)).trans e6
    have s6' : ∀ v w, (setI (setI M 0 27 v) 0 27 w).1 6 = M0.1 6 := fun v w => (si_ne (by omega)).trans (s6 v)
    rw [if_neg g6, show 6 * nI (k i) = nI (6 * k i) from pk_mul 6 _, chk_T (ixo_nI (show 6 * k i < 36 by omega) (by omega)), nI_clamp (show 6 * k i < 2 ^ 31 by omega), e6, pl_e h3 hc h0, cal_ix, chk_T (ixo_nI (show 6 * q_pp M0 k i + q_pl M0 (k i) < 36 by omega) (by omega)), nI_clamp (show 6 * q_pp M0 k i + q_pl M0 (k i) < 2 ^ 31 by omega), c1, e5, show M0.1 5 (6 * q_pp M0 k i + q_pl M0 (k i)) = q_w M0 k i from rfl, bnd_e, if_neg g6, show nI (6 * k i) + 1 = nI (6 * k i + 1) from nI_1 _, chk_T (ixo_nI (show 6 * k i + 1 < 36 by omega) (by omega)), chk_T (ixo_nI (show 6 * k i + 1 < 36 by omega) (by omega)), nI_clamp (show 6 * k i + 1 < 2 ^ 31 by omega), s6, si_eq]
    unfold f_X11_go_155
    have os := op_sh h3 hc h0
    have key : ∀ w, (w = q_be M0 (k i) (m + q_w M0 k i)) → ∃ M1, (bnd (setI (setI M 0 27 (m + q_w M0 k i)) 0 27 w) fun S30 => chk (ixo (6 * nI (k i) + 2) 36) (if (S30.1 0 27) ≤ (S30.1 6 ((6 * nI (k i) + 2)).toNatClampNeg) then f_X11_go_182 k_36 S30 x1 x2 (nI (q_pl M0 (k i))) x4 (nI i) (nI (k i)) 0 else f_X11_go_182 k_36 S30 x1 x2 (nI (q_pl M0 (k i))) x4 (nI i) (nI (k i)) 1)) = f_X11_go_182 k_36 M1 x1 x2 (nI (q_pl M0 (k i))) x4 (nI i) (nI (k i)) (if m + q_w M0 k i ≤ M0.1 6 (6 * k i + 2) then 0 else 1) ∧ GM M M1 ∧ Gc M1 (q_be M0 (k i) (m + q_w M0 k i)) bb g a d := by
      intro w hw
      rw [bnd_e, show 6 * nI (k i) + 2 = nI (6 * k i + 2) from cal_ix _ 2, chk_T (ixo_nI (show 6 * k i + 2 < 36 by omega) (by omega)), nI_clamp (show 6 * k i + 2 < 2 ^ 31 by omega), s6', si_eq]
      have bl : w ≤ M0.1 6 (6 * k i + 2) ↔ m + q_w M0 k i ≤ M0.1 6 (6 * k i + 2) := by
        rw [hw]
        unfold q_be
        by_cases q : m + q_w M0 k i < M0.1 6 (6 * k i + 1)
        · rw [if_pos q]; exact ⟨fun _ => Int32.le_trans (Int32.le_of_lt q) os, fun _ => os⟩
        · rw [if_neg q]
      refine ⟨setI (setI M 0 27 (m + q_w M0 k i)) 0 27 w, ?_, (GM_I M 27 _ (by omega)).tr (GM_I _ 27 _ (by omega)), si_eq.trans hw, ?_, ?_, ?_, ?_⟩
      · by_cases l : m + q_w M0 k i ≤ M0.1 6 (6 * k i + 2)
        · rw [if_pos (bl.mpr l), if_pos l]
        · rw [if_neg (fun q => l (bl.mp q)), if_neg l]
      · exact (si_nj (by omega)).trans ((si_nj (by omega)).trans c2)
      · exact (si_nj (by omega)).trans ((si_nj (by omega)).trans c3)
      · exact (si_nj (by omega)).trans ((si_nj (by omega)).trans c4)
      · exact (si_nj (by omega)).trans ((si_nj (by omega)).trans c5)
    rw [show q_pp M0 k (i + 1) = q_pl M0 (k i) from rfl]
    by_cases q : m + q_w M0 k i < M0.1 6 (6 * k i + 1)
    · rw [if_neg (fun z => absurd q (Int32.not_lt.mpr z))]
      exact key _ (if_pos q).symm
    · rw [if_pos (Int32.not_lt.mp q)]
      exact key _ (if_neg q).symm
theorem go_M {S M0 : St} (h3 : R3 S M0) {n : Nat} {k : Nat → Nat} (hn : n ≤ 6) (hok : ∀ t, t < n → Okk M0 (k t)) (v f : Nat) (hf : f ≤ 255) (x4 : Int32) : ∀ (j fu i : Nat) (M : St) (m : Int32) (b : Nat) (g z d : Int32), i + j = n → j < fu → QM M0 M → Ly M0 M n k → Dg M0 M n k v → b ≤ 255 → Gc M m (nI b) g (if z = 0 then 1 else 0) d →
    ∃ M', l_X11_go_36 fu M (nI f) (-1) (nI (q_pp M0 k i)) x4 (nI i) = some M' ∧ GM M M' ∧ M'.1 0 27 = (q_P M0 k f j i (q_rs M0 k v i) m b g z).1 ∧ M'.1 0 25 = (q_P M0 k f j i (q_rs M0 k v i) m b g z).2.1 ∧ M'.1 0 26 = (if (q_P M0 k f j i (q_rs M0 k v i) m b g z).2.2 = 0 then 1 else 0) := by
  intro j
  induction j with
  | zero =>
    intro fu i M m b g z d hk hfu hK hY hD hb hG
    obtain ⟨fu, rfl⟩ : ∃ q, fu = q + 1 := ⟨fu - 1, by omega⟩
    have hi : i = n := by omega
    subst hi
    show ∃ M', f_X11_go_36 (l_X11_go_36 fu) M (nI f) (-1) _ x4 (nI i) = _ ∧ _
    unfold f_X11_go_36
    rw [hY.1, if_pos (Int32.le_refl _)]
    exact ⟨M, rfl, GM.rf M, hG.1, hG.2.2.1, hG.2.2.2.1⟩
  | succ j ih =>
    intro fu i M m b g z d hk hfu hK hY hD hb hG
    obtain ⟨fu, rfl⟩ : ∃ q, fu = q + 1 := ⟨fu - 1, by omega⟩
    show ∃ M', f_X11_go_36 (l_X11_go_36 fu) M (nI f) (-1) _ x4 (nI i) = _ ∧ _
    have fin : ∀ (M2 : St) (m' : Int32) (b' : Nat) (g' z' d' : Int32), GM M M2 → b' ≤ 255 → Gc M2 m' (nI b') g' (if z' = 0 then 1 else 0) d' → q_P M0 k f (j + 1) i (q_rs M0 k v i) m b g z = q_P M0 k f j (i + 1) (q_rs M0 k v (i + 1)) m' b' g' z' →
        ∃ M', l_X11_go_36 fu M2 (nI f) (-1) (nI (q_pp M0 k (i + 1))) x4 (nI (i + 1)) = some M' ∧ GM M M' ∧ M'.1 0 27 = (q_P M0 k f (j + 1) i (q_rs M0 k v i) m b g z).1 ∧ M'.1 0 25 = (q_P M0 k f (j + 1) i (q_rs M0 k v i) m b g z).2.1 ∧ M'.1 0 26 = (if (q_P M0 k f (j + 1) i (q_rs M0 k v i) m b g z).2.2 = 0 then 1 else 0) := by
      intro M2 m' b' g' z' d' hGM hb' hG' hP
      obtain ⟨M', a1, a2, a3⟩ := ih fu (i + 1) M2 m' b' g' z' d' (by omega) (by omega) (hK.tr hGM.km) (hGM.ly hY) (hGM.dg hD) hb' hG'
      rw [hP]
      exact ⟨M', a1, hGM.tr a2, a3⟩
    rcases gs_come h3 hn hok hK hY (k_36 := l_X11_go_36 fu) (x1 := nI f) (x2 := -1) (x4 := x4) (show i < n by omega) hG with ⟨hc, M1, e, hGM, hG1⟩ | ⟨hc, h0, M1, e, hGM, hG1⟩
    · rw [e]
      refine fin M1 _ f _ z d hGM hf hG1 ?_
      rw [q_P, if_neg hc, q_rs, q_rn, if_neg hc]
    · rw [e]
      have hm := ms_le h3 hc
      have r1 := R3_fr (FS.rf S) (hK.tr hGM.km).fm h3
      have dl := Nat.mod_lt (q_rs M0 k v i) h0
      have e11 : M1.1 11 i = nI (q_rs M0 k v i % ms M0 (k i)) := (congrFun (hGM.1 11 (by omega)) i).trans (hD i (by omega) hc)
      have k6 : M1.1 6 = M0.1 6 := (hK.tr hGM.km).1 6 (by omega) (by omega) (by omega)
      have k8 : M1.1 8 = M0.1 8 := (hK.tr hGM.km).1 8 (by omega) (by omega) (by omega)
      have er : q_rs M0 k v (i + 1) = q_rs M0 k v i / ms M0 (k i) := by rw [q_rs, q_rn, if_pos hc]
      unfold f_X11_go_182 f_X11_go_237
      rw [chk_T (ixo_nI (show i < 6 by omega) (by omega)), nI_clamp (show i < 2 ^ 31 by omega), e11, bnd_e]
      by_cases l : m + q_w M0 k i ≤ M0.1 6 (6 * k i + 2)
      · have el : f_X11_leftOf M1 (M1.1 0 29) (nI (k i)) (nI (q_rs M0 k v i % ms M0 (k i))) = some (q_lt M0 b (k i) (q_rs M0 k v i % ms M0 (k i)), M1) := by
          rw [hG1.2.1, e_lM r1 hc (by rw [ms_km (hK.tr hGM.km)]; exact dl) hb, lt_km (hK.tr hGM.km)]
        rw [if_pos l, if_pos rfl, if_pos (show (-1 : Int32) < 0 by decide), if_pos rfl, el, obd2_s]
        have za : zb (if z = 0 then (1 : Int32) else 0) := zb_ite
        rcases lt_or (M := M0) (c := k i) (s := q_rs M0 k v i % ms M0 (k i)) hb with ⟨q, e7⟩ | ⟨q, b', hb', e7, -⟩
        · rw [e7]
          obtain ⟨M2, e2, a1, a2⟩ := gs_fail (k_36 := l_X11_go_36 fu) (x1 := nI f) (x2 := -1) (x3 := nI (q_pp M0 k (i + 1))) (x4 := x4) (i := i) hc hG1 (nI (q_rs M0 k v i % ms M0 (k i)))
          rw [e2]
          rw [k6] at a2
          refine fin M2 _ b _ 1 d (hGM.tr a1) hb a2 ?_
          rw [q_P, if_pos hc, if_pos l, if_neg (by rw [q]; decide), er]
        · rw [e7]
          obtain ⟨M2, e2, a1, a2⟩ := gs_does (k_36 := l_X11_go_36 fu) (x1 := nI f) (x2 := -1) (x3 := nI (q_pp M0 k (i + 1))) (x4 := x4) (i := i) hc hG1 za (s := q_rs M0 k v i % ms M0 (k i)) (b' := b') (by omega) (by omega)
          rw [e2]
          rw [k6, k8] at a2
          refine fin M2 _ b' _ z _ (hGM.tr a1) hb' a2 ?_
          rw [q_P, if_pos hc, if_pos l, if_pos q, er, e7, nv_nI (by omega)]
      · rw [if_neg l, if_neg one0, if_neg one0]
        obtain ⟨M2, e2, a1, a2⟩ := gs_late (k_36 := l_X11_go_36 fu) (x1 := nI f) (x2 := -1) (x3 := nI (q_pp M0 k (i + 1))) (x4 := x4) (i := i) hc hG1 (nI (q_rs M0 k v i % ms M0 (k i)))
        rw [e2]
        rw [k6] at a2
        refine fin M2 _ b _ 1 d (hGM.tr a1) hb a2 ?_
        rw [q_P, if_pos hc, if_neg l, er]
        unfold q_be
        have os := op_sh h3 hc h0
        rw [if_neg (fun q => l (Int32.le_trans (Int32.le_of_lt q) os))]
/-- number v, all told -/
def q_Q (M : St) (k : Nat → Nat) (n v f : Nat) : Int32 × Int32 × Int32 := q_P M k f n 0 v (M.1 0 9) f 0 0
theorem e_go {S M0 M : St} (h3 : R3 S M0) {n : Nat} {k : Nat → Nat} (hn : n ≤ 6) (hok : ∀ t, t < n → Okk M0 (k t)) {v f : Nat} (hf : f ≤ 255) (hK : QM M0 M) (hY : Ly M0 M n k) (hD : Dg M0 M n k v) :
    ∃ M', f_X11_go M (nI f) (-1) = some M' ∧ GM M M' ∧ M'.1 0 27 = (q_Q M0 k n v f).1 ∧ M'.1 0 25 = (q_Q M0 k n v f).2.1 ∧ M'.1 0 26 = (if (q_Q M0 k n v f).2.2 = 0 then 1 else 0) := by
  unfold f_X11_go
  rw [bnd_e, bnd_e, bnd_e, bnd_e, bnd_e]
  have gm : GM M (setI (setI (setI (setI (setI M 0 27 (M.1 0 9)) 0 29 (nI f)) 0 25 0) 0 28 0) 0 26 1) := (GM_I M 27 _ (by omega)).tr ((GM_I _ 29 _ (by omega)).tr ((GM_I _ 25 _ (by omega)).tr ((GM_I _ 28 _ (by omega)).tr (GM_I _ 26 _ (by omega)))))
  have gc : Gc (setI (setI (setI (setI (setI M 0 27 (M.1 0 9)) 0 29 (nI f)) 0 25 0) 0 28 0) 0 26 1) (M0.1 0 9) (nI f) 0 (if (0 : Int32) = 0 then 1 else 0) 0 := by
    refine ⟨?_, ?_, ?_, ?_, ?_⟩
    · exact (si_nj (by omega)).trans ((si_nj (by omega)).trans ((si_nj (by omega)).trans ((si_nj (by omega)).trans (si_eq.trans (hK.2 9 (by omega))))))
    · exact (si_nj (by omega)).trans ((si_nj (by omega)).trans ((si_nj (by omega)).trans si_eq))
    · exact (si_nj (by omega)).trans ((si_nj (by omega)).trans si_eq)
    · rw [if_pos rfl]; exact si_eq
    · exact (si_nj (by omega)).trans si_eq
  obtain ⟨M', e, a1, a2⟩ := go_M h3 hn hok v f hf (-1) n FU 0 _ (M0.1 0 9) f 0 0 0 (Nat.zero_add _) (by rw [FU_eq]; omega) (hK.tr gm.km) (gm.ly hY) (gm.dg hD) hf gc
  exact ⟨M', e, gm.tr a1, a2⟩
