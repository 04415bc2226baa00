-- ===== 37: visit
theorem si_eq {S : St} {p j : Nat} {v : Int32} : (setI S p j v).1 p j = v := by
  show (if p = p then upd (S.1 p) j v else S.1 p) j = v
  rw [if_pos rfl]; exact pk_us
theorem si_nj {S : St} {p j i : Nat} {v : Int32} (h : i ≠ j) : (setI S p j v).1 p i = S.1 p i := by
  show (if p = p then upd (S.1 p) j v else S.1 p) i = S.1 p i
  rw [if_pos rfl]; exact pk_un h
theorem st_visit : PS_visit RI := by
  intro S M h c s x
  have hR := h
  obtain ⟨r1, r2, h3, v1, v2, v3⟩ := h
  have hv : nv (M.1 0 16) ≤ 16 := v2.2
  unfold f_X10_visit f_X11_visit
  rcases e_isSortM h3 c s with ⟨h1, h2⟩ | ⟨c, s, hs4, rfl, rfl, ht, hs, h1, h2⟩
  · rw [h1, h2, obd2_s, obd2_s, oel_N, if_pos rfl]; exact ⟨_, _, _, rfl, rfl, hR⟩
  · obtain ⟨-, -, -, -, -, c6, -⟩ := h3.2 c.val c.isLt
    obtain ⟨c6, -, -, -, c8, c9⟩ := c6 s hs
    have hc := c.isLt
    rw [h1, h2, obd2_s, obd2_s, oel_S, if_neg one0, e_isBagX, e_isBagM, obd2_s, obd2_s]
    by_cases hb : inB x 255 = true
    · obtain ⟨b, hb1, hb2, rfl⟩ := inB_nI hb
      rw [if_pos hb, if_neg one0, if_neg one0]
      generalize hn : nv (M.1 0 16) = n at *
      have hM : M.1 0 16 = nI n := by rw [← hn]; exact v2.1
      have hS : S.1 8 4 = nI n := v1.trans hM
      unfold f_X0_add
      by_cases hlt : n < 16
      · have e : ∀ j : Nat, 16 * nI c.val + 4 * nI s + nI j = nI (16 * c.val + 4 * s + j) := fun j => by
          rw [show (16 : Int32) = nI 16 from rfl, show (4 : Int32) = nI 4 from rfl, pk_mul, pk_mul, nI_add, nI_add]
        have f3 : ∀ j : Nat, 3 * nI n + nI j = nI (3 * n + j) := fun j => by rw [show (3 : Int32) = nI 3 from rfl, pk_mul, nI_add]
        have x2 : ∀ a, (setI S 18 n a).1 8 4 = nI n := fun a => (congrFun (si_ne (by omega)) 4).trans hS
        have x3 : ∀ a o, (setI (setI S 18 n a) 19 n o).1 8 4 = nI n := fun a o => (congrFun (si_ne (by omega)) 4).trans (x2 a)
        have x4 : ∀ a o z, (setI (setI (setI S 18 n a) 19 n o) 20 n z).1 8 4 = nI n := fun a o z => (congrFun (si_ne (by omega)) 4).trans (x3 a o)
        have y2 : ∀ a, (setI M 9 (3 * n) a).1 0 16 = nI n := fun a => (congrFun (si_ne (by omega)) 16).trans hM
        have y3 : ∀ a o, (setI (setI M 9 (3 * n) a) 9 (3 * n + 1) o).1 0 16 = nI n := fun a o => (congrFun (si_ne (by omega)) 16).trans (y2 a)
        have y4 : ∀ a o z, (setI (setI (setI M 9 (3 * n) a) 9 (3 * n + 1) o) 9 (3 * n + 2) z).1 0 16 = nI n := fun a o z => (congrFun (si_ne (by omega)) 16).trans (y3 a o)
        have w7 : ∀ T v, f_X10_put T 7 (nI n) v = some (setI T 18 n v) := fun T v => e_put T 7 v hlt
        have w8 : ∀ T v, f_X10_put T 8 (nI n) v = some (setI T 19 n v) := fun T v => e_put T 8 v hlt
        have w9 : ∀ T v, f_X10_put T 9 (nI n) v = some (setI T 20 n v) := fun T v => e_put T 9 v hlt
        have m8 : ∀ a, (setI M 9 (3 * n) a).1 8 = M.1 8 := fun a => si_ne (by omega)
        have s33 : ∀ a q, q < 24 → (setI S 18 n a).1 (33 + q) = S.1 (33 + q) := fun a q _ => si_ne (by omega)
        rw [if_pos (show S.1 8 4 < 16 by rw [hS]; exact nI_lt (a := n) (b := 16) hlt (by omega)), hS, w7, obd_S, x2, w8, obd_S, x3, w9, obd_S, bnd_e, x4, nI_1, si_eq, obd2_s]
        rw [if_neg (show ¬ M.1 0 16 = 16 by rw [hM]; exact fun q => (by omega : ¬ n = 16) ((nI_eq (by omega) (by omega)).mp q)), show 16 * nI c.val + 4 * nI s + 2 = _ from e 2, show 16 * nI c.val + 4 * nI s + 3 = _ from e 3, chk_T (ixo_nI (show 16 * c.val + 4 * s + 2 < 96 by omega) (by omega)), hM, show 3 * nI n = nI (3 * n) from pk_mul 3 n, chk_T (ixo_nI (show 3 * n < 48 by omega) (by omega)), bnd_e, nI_clamp (show 3 * n < 2 ^ 31 by omega), nI_clamp (show 16 * c.val + 4 * s + 2 < 2 ^ 31 by omega), chk_T (ixo_nI (show 16 * c.val + 4 * s + 3 < 96 by omega) (by omega)), y2, m8, show 3 * nI n + 1 = nI (3 * n + 1) from f3 1, chk_T (ixo_nI (show 3 * n + 1 < 48 by omega) (by omega)), bnd_e, nI_clamp (show 3 * n + 1 < 2 ^ 31 by omega), nI_clamp (show 16 * c.val + 4 * s + 3 < 2 ^ 31 by omega), y3, show 3 * nI n + 2 = nI (3 * n + 2) from f3 2, chk_T (ixo_nI (show 3 * n + 2 < 48 by omega) (by omega)), bnd_e, nI_clamp (show 3 * n + 2 < 2 ^ 31 by omega), bnd_e, y4, nI_1, si_eq]
        refine ⟨_, _, _, rfl, rfl, r1, r2, R3_c h3 (fun c hc => ?_) (fun q hq => ?_) rfl rfl rfl rfl, ?_⟩
        · rw [si_ne (by omega), si_ne (by omega), si_ne (by omega), si_ne (by omega)]
        · rw [si_ne (by omega), si_ne (by omega), si_ne (by omega), si_ne (by omega)]
        · have g : ∀ T : St, (setI T 0 16 (nI (n + 1))).1 0 16 = nI (n + 1) := fun T => si_eq
          have g9 : ∀ (T : St) v, (setI T 0 16 v).1 9 = T.1 9 := fun T v => si_ne (by omega)
          have g8 : ∀ (T : St) v q, q ≠ 8 → (setI T 8 4 v).1 q = T.1 q := fun T v q hq => si_ne hq
          refine ⟨si_eq.trans (g _).symm, by rw [g]; exact rg_nI (by omega) (by omega), fun k hk => ?_⟩
          rw [g, nv_nI (by omega)] at hk
          rw [g9, g8 _ _ 18 (by omega), g8 _ _ 19 (by omega), g8 _ _ 20 (by omega)]
          rw [si_ne (p := 20) (q := 18) (by omega), si_ne (p := 19) (q := 18) (by omega), si_ne (p := 20) (q := 19) (by omega)]
          by_cases hkn : k = n
          · rw [hkn, si_eq, si_eq, si_eq, si_eq, si_nj (show 3 * n + 1 ≠ 3 * n + 2 by omega), si_eq, si_nj (show 3 * n ≠ 3 * n + 2 by omega), si_nj (show 3 * n ≠ 3 * n + 1 by omega), si_eq]
            exact ⟨c6 2 (by omega), (congrFun (s33 _ _ (by omega)) 3).trans (c6 3 (by omega)), rfl, c8, c9, rg_nI hb1 (by omega)⟩
          · have hv3 := v3 k (by omega)
            rw [si_nj hkn, si_nj hkn, si_nj hkn, si_ne (p := 19) (q := 20) (by omega), si_ne (p := 18) (q := 20) (by omega), si_ne (p := 18) (q := 19) (by omega)]
            rw [si_nj (show 3 * k ≠ 3 * n + 2 by omega), si_nj (show 3 * k ≠ 3 * n + 1 by omega), si_nj (show 3 * k ≠ 3 * n by omega), si_nj (show 3 * k + 1 ≠ 3 * n + 2 by omega), si_nj (show 3 * k + 1 ≠ 3 * n + 1 by omega), si_nj (show 3 * k + 1 ≠ 3 * n by omega), si_nj (show 3 * k + 2 ≠ 3 * n + 2 by omega), si_nj (show 3 * k + 2 ≠ 3 * n + 1 by omega), si_nj (show 3 * k + 2 ≠ 3 * n by omega)]
            exact hv3
      · have h16 : n = 16 := by omega
        rw [if_neg (show ¬ S.1 8 4 < 16 by rw [hS, h16]; decide), if_pos (show M.1 0 16 = 16 by rw [hM, h16]; rfl), obd2_s]
        exact ⟨_, _, _, rfl, rfl, hR⟩
    · rw [if_neg hb, if_pos rfl, if_pos rfl]; exact ⟨_, _, _, rfl, rfl, hR⟩
