-- ===== 37: visit
theorem si_eq {S : St} {p j : Nat} {v : Int32} : (setI S p j v).1 p j = v := by
  show (if p = p then upd (S.1 p) j v else S.1 p) j = v
  rw [if_pos rfl]; exact pk_us
theorem si_nj {S : St} {p j i : Nat} {v : Int32} (h : i ≠ j) : (setI S p j v).1 p i = S.1 p i := by
  show (if p = p then upd (S.1 p) j v else S.1 p) i = S.1 p i
  rw [if_pos rfl]; exact pk_un h
theorem st_visit : PS_visit RI := by
  intro S M h c s x
  have hR := h
  obtain ⟨r1, r2, h3, v1, v2, v3⟩ := h
  have hv : nv (M.1 0 16) ≤ 16 := v2.2
  unfold f_X10_visit f_X11_visit
  rcases e_isSortM h3 c s with ⟨h1, h2⟩ | ⟨c, s, hs4, rfl, rfl, ht, hs, h1, h2⟩
  · rw [h1, h2, obd2_s, obd2_s, oel_N, if_pos rfl]; exact ⟨_, _, _, rfl, rfl, hR⟩
  · obtain ⟨-, -, -, -, -, c6, -⟩ := h3.2 c.val c.isLt
    obtain ⟨c6, -, -, -, c8, c9⟩ := c6 s hs
    have hc := c.isLt
    rw [h1, h2, obd2_s, obd2_s, oel_S, if_neg one0, e_isBagX, e_isBagM, obd2_s, obd2_s]
    by_cases hb : inB x 255 = true
    · obtain ⟨b, hb1, hb2, rfl⟩ := inB_nI hb
      rw [if_pos hb, if_neg one0, if_neg one0]
      generalize hn : nv (M.1 0 16) = n at *
      have hM : M.1 0 16 = nI n := by rw [← hn]; exact v2.1
      have hS : S.1 8 4 = nI n := v1.trans hM
      unfold f_X0_add
      by_cases hlt : n < 16
      · have e : ∀ j : Nat, 16 * nI c.val + 4 * nI s + nI j = nI (16 * c.val + 4 * s + j) := fun j => by
          rw [show (16 : Int32) = nI 16 from rfl, show (4 : Int32) = nI 4 from rfl, pk_mul, pk_mul, nI_add, nI_add]
        have f3 : ∀ j : Nat, 3 * nI n + nI j = nI (3 * n + j) := fun j => by rw [show (3 : Int32) = nI 3 from rfl, pk_mul, nI_add]
        have hmN : n < 2 ^ 31 := by omega
        let A := S.1 (33 + (4 * c.val + s)) 2
        let O := S.1 (33 + (4 * c.val + s)) 3
        let S2 := setI S 18 n A
        let S3 := setI S2 19 n O
        let S4 := setI S3 20 n (nI b)
        let S5 := setI S4 8 4 (nI (n + 1))
        let M2 := setI M 9 (3 * n) A
        let M3 := setI M2 9 (3 * n + 1) O
        let M4 := setI M3 9 (3 * n + 2) (nI b)
        let M5 := setI M4 0 16 (nI (n + 1))
        have x2 : S2.1 8 4 = nI n := (congrFun (si_ne (by omega)) 4).trans hS
        have x3 : S3.1 8 4 = nI n := (congrFun (si_ne (by omega)) 4).trans x2
        have x4 : S4.1 8 4 = nI n := (congrFun (si_ne (by omega)) 4).trans x3
        have y2 : M2.1 0 16 = nI n := (congrFun (si_ne (by omega)) 16).trans hM
        have y3 : M3.1 0 16 = nI n := (congrFun (si_ne (by omega)) 16).trans y2
        have y4 : M4.1 0 16 = nI n := (congrFun (si_ne (by omega)) 16).trans y3
        sorry
      · have h16 : n = 16 := by omega
        rw [if_neg (show ¬ S.1 8 4 < 16 by rw [hS, h16]; decide), if_pos (show M.1 0 16 = 16 by rw [hM, h16]; rfl), obd2_s]
        exact ⟨_, _, _, rfl, rfl, hR⟩
    · rw [if_neg hb, if_pos rfl, if_pos rfl]; exact ⟨_, _, _, rfl, rfl, hR⟩
