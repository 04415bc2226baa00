-- ===== 66: a day is told
section DAY
theorem te_line {S M : St} {i : Nat} (hi : i ≤ 9) (h2 : R2 S M) (h3 : R3 S M) (h4 : R4 S M) (h : LN S M i) : ∃ S' M', f_X4_tell S (nI i) = some S' ∧ f_X11_lay M (nI (8 * i)) = some M' ∧ KD S S' M M' := by
  obtain ⟨j, T, hT, ss, mm, m0⟩ := h
  rcases hT with ⟨t0, hj, t, w, p, k, b1, b2, b3, b4, b5, t1, t2, t3, t4⟩ | ⟨t0, hj, n, b1, t1⟩ | ⟨t0, hj, n, b1, t1⟩ | ⟨t0, hj, n, b1, t1⟩ | ⟨t0, hj, a, b, m, b1, b2, b3, t1, t2, t3⟩ | ⟨t0, hj, c, p, o, s, w, g, l, b1, b2, b3, b4, b5, b6, b7, b8, t1, t2, t3, t4, t5, t6, t7⟩ | ⟨t0, hj, c, n, m, x, y, b1, b2, b3, b4, b5, b6, t1, t2, t3, t4, t5⟩
  · rw [t0] at m0
    exact te_thing hi h2 h3 h4 b1 b2 b3 b4 b5 ((ss 0 (by omega)).trans t0) ((ss 1 (by omega)).trans t1) ((ss 2 (by omega)).trans t2) ((ss 3 (by omega)).trans t3) ((ss 4 (by omega)).trans t4) (m0.trans (by decide)) ((mm 1 (by omega) (by omega)).trans t1) ((mm 2 (by omega) (by omega)).trans t2) ((mm 3 (by omega) (by omega)).trans t3) ((mm 4 (by omega) (by omega)).trans t4)
  · rw [t0] at m0
    obtain ⟨e1, e2⟩ := te_load hi ((ss 0 (by omega)).trans t0) ((ss 1 (by omega)).trans t1) (m0.trans (by decide)) ((mm 1 (by omega) (by omega)).trans t1)
    exact ⟨_, _, e1, e2, KD_one (by omega) (by omega) h3 h4 (R2_one h2 (Or.inl ⟨rfl, rfl, rg_nI b1 (by omega)⟩))⟩
  · rw [t0] at m0
    obtain ⟨e1, e2⟩ := te_purse hi ((ss 0 (by omega)).trans t0) ((ss 1 (by omega)).trans t1) (m0.trans (by decide)) ((mm 1 (by omega) (by omega)).trans t1)
    exact ⟨_, _, e1, e2, KD_one (by omega) (by omega) h3 h4 (R2_one h2 (Or.inr (Or.inl ⟨rfl, rfl, rg_nI b1 (by omega)⟩)))⟩
  · rw [t0] at m0
    obtain ⟨e1, e2⟩ := te_begin hi ((ss 0 (by omega)).trans t0) ((ss 1 (by omega)).trans t1) (m0.trans (by decide)) ((mm 1 (by omega) (by omega)).trans t1)
    exact ⟨_, _, e1, e2, KD_one (by omega) (by omega) h3 h4 (R2_one h2 (Or.inr (Or.inr ⟨rfl, rfl, rg_nI b1 (by omega)⟩)))⟩
  · rw [t0] at m0
    exact te_way hi h2 h3 h4 b1 b2 b3 ((ss 0 (by omega)).trans t0) ((ss 1 (by omega)).trans t1) ((ss 2 (by omega)).trans t2) ((ss 3 (by omega)).trans t3) (m0.trans (by decide)) ((mm 1 (by omega) (by omega)).trans t1) ((mm 2 (by omega) (by omega)).trans t2) ((mm 3 (by omega) (by omega)).trans t3)
  · rw [t0] at m0
    exact te_call hi h2 h3 h4 b1 b3 b4 b5 b6 b7 b8 t0 t1 t2 t3 t4 t5 t6 t7 (fun k hk => ss k (by omega)) (fun k a b => mm k a (by omega)) (m0.trans (by decide))
  · rw [t0] at m0
    exact te_sort hi h2 h3 h4 b1 b2 b3 b4 b5 b6 t0 t1 t2 t3 t4 t5 (fun k hk => ss k (by omega)) (fun k a b => mm k a (by omega)) (m0.trans (by decide))
theorem dy_l {n : Nat} (hn : n ≤ 10) : ∀ (j fu fv i : Nat) (S M : St), i + j = n → j < fu → j < fv → M.1 0 3 = nI n → R2 S M → R3 S M → R4 S M → (∀ l, i ≤ l → l < n → LN S M l) → ∃ r S1 M1, l_X10_day_24 fu S (nI n) (nI i) = some (r, S1) ∧ l_X11_day_13 fv M (nI i) = some (r, M1) ∧ RI S1 M1 := by
  intro j
  induction j with
  | zero =>
    intro fu fv i S M hk hf hg e3 h2 h3 h4 hl
    obtain ⟨fu, rfl⟩ : ∃ q, fu = q + 1 := ⟨fu - 1, by omega⟩
    obtain ⟨fv, rfl⟩ : ∃ q, fv = q + 1 := ⟨fv - 1, by omega⟩
    refine ⟨nI n, setI S 1 1 0, setI M 0 1 0, ?_, ?_, ?_, ?_, ?_, ?_⟩
    · show f_X10_day_24 (l_X10_day_24 fu) S _ _ = _
      unfold f_X10_day_24 f_X8_clear
      rw [if_pos (nI_le (by omega) (by omega)), bnd_e, obd_S]
    · show f_X11_day_13 (l_X11_day_13 fv) M _ = _
      unfold f_X11_day_13
      rw [e3, if_pos (nI_le (by omega) (by omega)), bnd_e, si_nj (by omega), e3]
    · exact ⟨si_eq.trans si_eq.symm, by rw [si_eq]; exact rg_nI (k := 0) (by omega) (by omega), fun i hi => by rw [si_eq] at hi; exact absurd hi (Nat.not_lt_zero i)⟩
    · exact R2_s h2 (si_ne (by omega)) (si_ne (by omega)) (si_ne (by omega)) (si_ne (by omega)) (si_ne (by omega)) (si_ne (by omega)) (si_ne (by omega)) (fun j _ _ => si_nj (by omega))
    · exact R3_c h3 (fun _ _ => si_ne (by omega)) (fun _ _ => si_ne (by omega)) (si_nj (by omega)) (si_ne (by omega)) (si_ne (by omega)) (si_ne (by omega))
    · exact R4_c h4 (si_ne (by omega)) (si_ne (by omega)) (si_ne (by omega)) (si_ne (by omega)) (si_ne (by omega)) (si_nj (by omega))
  | succ j ih =>
    intro fu fv i S M hk hf hg e3 h2 h3 h4 hl
    obtain ⟨fu, rfl⟩ : ∃ q, fu = q + 1 := ⟨fu - 1, by omega⟩
    obtain ⟨fv, rfl⟩ : ∃ q, fv = q + 1 := ⟨fv - 1, by omega⟩
    obtain ⟨S', M', x1, y1, k1, k2, k3, k4, k5, k6⟩ := te_line (i := i) (by omega) h2 h3 h4 (hl i (by omega) (by omega))
    obtain ⟨r, S1, M1, a, b, c⟩ := ih fu fv (i + 1) S' M' (by omega) (by omega) (by omega) (k3.trans e3) k4 k5 k6 (fun l a b => LN_fr (hl l (by omega) b) fun t _ => by rw [k1, k2]; exact ⟨rfl, rfl⟩)
    refine ⟨r, S1, M1, ?_, ?_, c⟩
    · show f_X10_day_24 (l_X10_day_24 fu) S _ _ = _
      unfold f_X10_day_24
      rw [if_neg (nI_ge (by omega) (by omega)), x1, obd_S, nI_1, bnd_e]
      exact a
    · show f_X11_day_13 (l_X11_day_13 fv) M _ = _
      unfold f_X11_day_13
      rw [e3, if_neg (nI_ge (by omega) (by omega)), show (8 : Int32) * nI i = nI (8 * i) from pk_mul 8 i, y1, obd_S, nI_1, bnd_e]
      exact b
theorem st_day : PS_day RI := by
  intro S M h
  obtain ⟨r, S1, M1, a, b, c, d, e⟩ := rd_all (R1_tx h.1)
  have h' := RI_rd h c d
  unfold f_X10_day f_X11_day
  rw [a, b, obd2_s, obd2_s]
  by_cases z : r = -1
  · rw [if_pos z, if_pos z]
    obtain ⟨n, n10, e2, e3, el⟩ := e z
    unfold f_X5_lines
    rw [obd2_s, e2]
    exact dy_l n10 n FU FU 0 S1 M1 (by omega) (by rw [FU_eq]; omega) (by rw [FU_eq]; omega) e3 h'.2.1 h'.2.2.1 h'.2.2.2 (fun l _ hl => el l hl)
  · rw [if_neg z, if_neg z]
    exact ⟨_, _, _, rfl, rfl, h'⟩
end DAY
