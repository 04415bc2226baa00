-- ===== 48: the reference's loops over all numbers; mean, all, end
def q_mn (M : St) (L : Nat → Nat → Nat) (k : Nat → Nat) (n b : Nat) : Int64 := q_E M L k b ph1 n 0 (M.1 0 9) b 0 0
def q_do (M : St) (L : Nat → Nat → Nat) (k : Nat → Nat) (n b : Nat) : Int64 := q_E M L k b ph2 n 0 (M.1 0 9) b 0 0
section LOOPS
variable {S M0 : St} {n : Nat} {k : Nat → Nat}
theorem mo_M (h3 : R3 S M0) (hn : n ≤ 6) (hok : ∀ t, t < n → Okk M0 (k t)) (sel : Nat → Bool) (x2 x3 : Int32) (hsel : (x2 = -1 ∧ ∀ v, sel v = true) ∨ ∃ e s0, e < n ∧ k e < 6 ∧ s0 < 4 ∧ x2 = nI e ∧ x3 = nI s0 ∧ ∀ v, sel v = decide (q_rs M0 k v e % ms M0 (k e) = s0)) {b : Nat} (hb : b ≤ 255) : ∀ (j fu v : Nat) (acc : Int64) (M : St), v + j = q_C M0 k n 0 → j < fu → QM M0 M → Ly M0 M n k →
    ∃ M', l_X11_meanOf_6 fu M (nI b) x2 x3 acc (nI v) = some (acc + q_S (fun v => if sel v = true then lN (q_W M0 (q_lk M0) k n 0 v) * ph3 ph1 (q_Q M0 k n v b) else 0) j v, M') ∧ QM M0 M' ∧ Ly M0 M' n k := by
  have hC := C_4096 h3 (k := k) hn
  intro j
  induction j with
  | zero =>
    intro fu v acc M hk hf hK hY
    obtain ⟨fu, rfl⟩ : ∃ q, fu = q + 1 := ⟨fu - 1, by omega⟩
    show ∃ M', f_X11_meanOf_6 (l_X11_meanOf_6 fu) M (nI b) x2 x3 acc (nI v) = _ ∧ _
    unfold f_X11_meanOf_6
    rw [hY.2.2.1, if_pos (nI_le (by omega) (by omega)), q_S, Int64.add_zero]
    exact ⟨M, rfl, hK, hY⟩
  | succ j ih =>
    intro fu v acc M hk hf hK hY
    obtain ⟨fu, rfl⟩ : ∃ q, fu = q + 1 := ⟨fu - 1, by omega⟩
    obtain ⟨M1, e1, k1, y1, d1, w1⟩ := e_lc h3 hn hok (show v < 2 ^ 30 by omega) hK hY
    obtain ⟨M2, e2, g2, -, c25, -⟩ := e_go h3 hn hok hb k1 y1 d1
    show ∃ M', f_X11_meanOf_6 (l_X11_meanOf_6 fu) M (nI b) x2 x3 acc (nI v) = _ ∧ _
    unfold f_X11_meanOf_6 f_X11_meanOf_35 f_X11_meanOf_56
    rw [hY.2.2.1, if_neg (nI_ge (by omega) (by omega)), e1, obd_S, e2, obd_S, q_S, c25, g2.2.2, w1]
    simp only [bnd_e, nI_1]
    have tk : sel v = true → ∃ M', l_X11_meanOf_6 fu M2 (nI b) x2 x3 (acc + lN (q_W M0 (q_lk M0) k n 0 v) * (q_Q M0 k n v b).2.1.toInt64) (nI (v + 1)) = some (acc + ((if sel v = true then lN (q_W M0 (q_lk M0) k n 0 v) * ph3 ph1 (q_Q M0 k n v b) else 0) + q_S (fun v => if sel v = true then lN (q_W M0 (q_lk M0) k n 0 v) * ph3 ph1 (q_Q M0 k n v b) else 0) j (v + 1)), M') ∧ QM M0 M' ∧ Ly M0 M' n k := by
      intro q
      obtain ⟨M', e, r⟩ := ih fu (v + 1) (acc + lN (q_W M0 (q_lk M0) k n 0 v) * (q_Q M0 k n v b).2.1.toInt64) M2 (by omega) (by omega) (k1.tr g2.km) (g2.ly y1)
      rw [if_pos q]
      exact ⟨M', by rw [e, Int64.add_assoc]; rfl, r⟩
    rcases hsel with ⟨rfl, hs⟩ | ⟨e, s0, he, hc, hs0, rfl, rfl, hs⟩
    · rw [if_pos (show (-1 : Int32) < 0 by decide)]
      exact tk (hs v)
    · have hm := ms_le h3 hc
      have h0 : 0 < ms M0 (k e) := by rcases hok e he with q | q; omega; exact q.2
      have dl := Nat.mod_lt (q_rs M0 k v e) h0
      have e11 : M1.1 11 e = nI (q_rs M0 k v e % ms M0 (k e)) := d1 e he hc
      rw [if_neg (nI_pos (by omega)), chk_T (ixo_nI (show e < 6 by omega) (by omega)), nI_clamp (by omega), e11]
      by_cases q : q_rs M0 k v e % ms M0 (k e) = s0
      · rw [if_pos (congrArg nI q)]
        exact tk (by rw [hs]; exact decide_eq_true q)
      · have qf : ¬ sel v = true := by rw [hs]; exact fun z => q (of_decide_eq_true z)
        rw [if_neg (fun z => q ((nI_eq (by omega) (by omega)).mp z)), if_neg qf, Int64.zero_add]
        exact ih fu (v + 1) acc M1 (by omega) (by omega) k1 y1
theorem e_mean {M : St} (h3 : R3 S M0) (hn : n ≤ 6) (hok : ∀ t, t < n → Okk M0 (k t)) (hK : QM M0 M) (hY : Ly M0 M n k) {b : Nat} (hb : b ≤ 255) (x3 : Int32) : ∃ M', f_X11_meanOf M (nI b) (-1) x3 = some (q_mn M0 (q_lk M0) k n b, M') ∧ QM M0 M' ∧ Ly M0 M' n k := by
  obtain ⟨M', e, r⟩ := mo_M h3 hn hok (fun _ => true) (-1) x3 (Or.inl ⟨rfl, fun _ => rfl⟩) hb (q_C M0 k n 0) FU 0 0 M (Nat.zero_add _) (by have := C_4096 h3 (k := k) hn; rw [FU_eq]; omega) hK hY
  refine ⟨M', ?_, r⟩
  have e : f_X11_meanOf M (nI b) (-1) x3 = _ := e
  rw [e, Int64.zero_add]
  have h := sum_E (M := M0) (L := q_lk M0) (k := k) (f := b) (φ := ph1) n 0 (fun t _ h => hok t (by omega)) (M0.1 0 9) b 0 0
  exact congrArg (fun z => some (z, M')) h
theorem do_M (h3 : R3 S M0) (hn : n ≤ 6) (hok : ∀ t, t < n → Okk M0 (k t)) {b : Nat} (hb : b ≤ 255) : ∀ (j fu v : Nat) (acc : Int64) (M : St), v + j = q_C M0 k n 0 → j < fu → QM M0 M → Ly M0 M n k →
    ∃ M', l_X11_doneOf_5 fu M (nI b) acc (nI v) = some (acc + q_S (fun v => lN (q_W M0 (q_lk M0) k n 0 v) * ph3 ph2 (q_Q M0 k n v b)) j v, M') ∧ QM M0 M' ∧ Ly M0 M' n k := by
  have hC := C_4096 h3 (k := k) hn
  intro j
  induction j with
  | zero =>
    intro fu v acc M hk hf hK hY
    obtain ⟨fu, rfl⟩ : ∃ q, fu = q + 1 := ⟨fu - 1, by omega⟩
    show ∃ M', f_X11_doneOf_5 (l_X11_doneOf_5 fu) M (nI b) acc (nI v) = _ ∧ _
    unfold f_X11_doneOf_5
    rw [hY.2.2.1, if_pos (nI_le (by omega) (by omega)), q_S, Int64.add_zero]
    exact ⟨M, rfl, hK, hY⟩
  | succ j ih =>
    intro fu v acc M hk hf hK hY
    obtain ⟨fu, rfl⟩ : ∃ q, fu = q + 1 := ⟨fu - 1, by omega⟩
    obtain ⟨M1, e1, k1, y1, d1, w1⟩ := e_lc h3 hn hok (show v < 2 ^ 30 by omega) hK hY
    obtain ⟨M2, e2, g2, -, -, c26⟩ := e_go h3 hn hok hb k1 y1 d1
    show ∃ M', f_X11_doneOf_5 (l_X11_doneOf_5 fu) M (nI b) acc (nI v) = _ ∧ _
    unfold f_X11_doneOf_5 f_X11_doneOf_42
    rw [hY.2.2.1, if_neg (nI_ge (by omega) (by omega)), e1, obd_S, e2, obd_S, q_S, c26, g2.2.2, w1]
    simp only [bnd_e, nI_1]
    have key : ∀ x : Int64, x = lN (q_W M0 (q_lk M0) k n 0 v) * ph3 ph2 (q_Q M0 k n v b) → ∃ M', l_X11_doneOf_5 fu M2 (nI b) (acc + x) (nI (v + 1)) = some (acc + (lN (q_W M0 (q_lk M0) k n 0 v) * ph3 ph2 (q_Q M0 k n v b) + q_S (fun v => lN (q_W M0 (q_lk M0) k n 0 v) * ph3 ph2 (q_Q M0 k n v b)) j (v + 1)), M') ∧ QM M0 M' ∧ Ly M0 M' n k := by
      intro x hx
      obtain ⟨M', e, r⟩ := ih fu (v + 1) (acc + x) M2 (by omega) (by omega) (k1.tr g2.km) (g2.ly y1)
      exact ⟨M', by rw [e, Int64.add_assoc, hx], r⟩
    by_cases q : (q_Q M0 k n v b).2.2 = 0
    · rw [if_pos q, if_neg one0]
      exact key _ (by rw [show ph3 ph2 (q_Q M0 k n v b) = 1 from if_pos q, Int64.mul_one])
    · rw [if_neg q, if_pos rfl]
      exact key _ (by rw [show ph3 ph2 (q_Q M0 k n v b) = 0 from if_neg q, Int64.mul_zero])
theorem e_done {M : St} (h3 : R3 S M0) (hn : n ≤ 6) (hok : ∀ t, t < n → Okk M0 (k t)) (hK : QM M0 M) (hY : Ly M0 M n k) {b : Nat} (hb : b ≤ 255) : ∃ M', f_X11_doneOf M (nI b) = some (q_do M0 (q_lk M0) k n b, M') ∧ QM M0 M' ∧ Ly M0 M' n k := by
  obtain ⟨M', e, r⟩ := do_M h3 hn hok hb (q_C M0 k n 0) FU 0 0 M (Nat.zero_add _) (by have := C_4096 h3 (k := k) hn; rw [FU_eq]; omega) hK hY
  refine ⟨M', ?_, r⟩
  have e : f_X11_doneOf M (nI b) = _ := e
  rw [e, Int64.zero_add]
  have h := sum_E (M := M0) (L := q_lk M0) (k := k) (f := b) (φ := ph2) n 0 (fun t _ h => hok t (by omega)) (M0.1 0 9) b 0 0
  exact congrArg (fun z => some (z, M')) h
theorem en_M (h3 : R3 S M0) (hn : n ≤ 6) (hok : ∀ t, t < n → Okk M0 (k t)) {b : Nat} (hb : b ≤ 255) : ∀ (j fu v : Nat) (acc : Int32) (M : St), v + j = q_C M0 k n 0 → j < fu → QM M0 M → Ly M0 M n k →
    ∃ r M', l_X11_end_29 fu M (nI b) acc (nI v) = some (r, M') ∧ Tp (fun t => ∃ u, v ≤ u ∧ u < q_C M0 k n 0 ∧ t = (q_Q M0 k n u b).1) acc r ∧ QM M0 M' ∧ Ly M0 M' n k := by
  have hC := C_4096 h3 (k := k) hn
  intro j
  induction j with
  | zero =>
    intro fu v acc M hk hf hK hY
    obtain ⟨fu, rfl⟩ : ∃ q, fu = q + 1 := ⟨fu - 1, by omega⟩
    show ∃ r M', f_X11_end_29 (l_X11_end_29 fu) M (nI b) acc (nI v) = _ ∧ _
    unfold f_X11_end_29
    rw [hY.2.2.1, if_pos (nI_le (by omega) (by omega))]
    exact ⟨_, M, rfl, Tp.no (fun t ⟨u, a, b, _⟩ => by omega), hK, hY⟩
  | succ j ih =>
    intro fu v acc M hk hf hK hY
    obtain ⟨fu, rfl⟩ : ∃ q, fu = q + 1 := ⟨fu - 1, by omega⟩
    obtain ⟨M1, e1, k1, y1, d1, w1⟩ := e_lc h3 hn hok (show v < 2 ^ 30 by omega) hK hY
    obtain ⟨M2, e2, g2, c27, -, -⟩ := e_go h3 hn hok hb k1 y1 d1
    show ∃ r M', f_X11_end_29 (l_X11_end_29 fu) M (nI b) acc (nI v) = _ ∧ _
    unfold f_X11_end_29 f_X11_end_68
    rw [hY.2.2.1, if_neg (nI_ge (by omega) (by omega)), e1, obd_S, e2, obd_S, c27]
    simp only [bnd_e, nI_1]
    obtain ⟨r, M', e, t, r2⟩ := ih fu (v + 1) (if acc < (q_Q M0 k n v b).1 then (q_Q M0 k n v b).1 else acc) M2 (by omega) (by omega) (k1.tr g2.km) (g2.ly y1)
    refine ⟨r, M', ?_, ((Tp.one (q_Q M0 k n v b).1 acc).seq t).iff (fun t => ⟨fun h => ?_, fun h => ?_⟩), r2⟩
    · by_cases q : acc < (q_Q M0 k n v b).1
      · rw [if_pos q] at e
        rw [if_neg (fun z => absurd q (Int32.not_lt.mpr z))]
        exact e
      · rw [if_neg q] at e
        rw [if_pos (Int32.not_lt.mp q)]
        exact e
    · rcases h with h | ⟨u, a, b⟩
      · exact ⟨v, Nat.le_refl _, by omega, h⟩
      · exact ⟨u, by omega, b⟩
    · obtain ⟨u, a, b, c⟩ := h
      by_cases z : u = v
      · subst z; exact Or.inl c
      · exact Or.inr ⟨u, by omega, b, c⟩
end LOOPS
theorem A_le {S M : St} (h3 : R3 S M) {k : Nat → Nat} : ∀ j i, q_A M (q_lk M) k j i ≤ 80 ^ j := by
  intro j
  induction j with
  | zero => intro i; exact Nat.le_refl _
  | succ j ih =>
    intro i
    have h1 := ih (i + 1)
    have h2 : (if k i < 6 then fb_sm' (q_lk M (k i)) (ms M (k i)) else 1) ≤ 80 := by
      by_cases hc : k i < 6
      · rw [if_pos hc]; exact tot_le h3 hc
      · rw [if_neg hc]; omega
    rw [q_A, Nat.pow_succ, Nat.mul_comm]
    exact Nat.mul_le_mul h1 h2
theorem A_pos {S M : St} (h3 : R3 S M) {k : Nat → Nat} {n : Nat} (hok : ∀ t, t < n → Okk M (k t)) : ∀ j i, i + j = n → 1 ≤ q_A M (q_lk M) k j i := by
  intro j
  induction j with
  | zero => intro i _; exact Nat.le_refl _
  | succ j ih =>
    intro i hi
    have h1 := ih (i + 1) (by omega)
    have h2 : 1 ≤ (if k i < 6 then fb_sm' (q_lk M (k i)) (ms M (k i)) else 1) := by
      by_cases hc : k i < 6
      · rw [if_pos hc]
        refine tot_pos h3 hc ?_
        rcases hok i (by omega) with q | q
        · omega
        · exact q.2
      · rw [if_neg hc]; omega
    rw [q_A]
    exact Nat.mul_le_mul h2 h1
theorem lN_ti' {m : Nat} (h : m < 2 ^ 63) : (lN m).toInt = m := lg_ofNat_toInt h
theorem A_rg {S M : St} (h3 : R3 S M) {k : Nat → Nat} {n : Nat} (hn : n ≤ 6) (hok : ∀ t, t < n → Okk M (k t)) : 1 ≤ q_A M (q_lk M) k n 0 ∧ q_A M (q_lk M) k n 0 ≤ 262144000000 :=
  ⟨A_pos h3 hok n 0 (Nat.zero_add _), Nat.le_trans (A_le h3 n 0) (Nat.le_trans (Nat.pow_le_pow_right (by omega) hn) (by decide))⟩
theorem low_A {S M : St} (h3 : R3 S M) {k : Nat → Nat} {n : Nat} (hn : n ≤ 6) (hok : ∀ t, t < n → Okk M (k t)) (S1 M1 : St) (x : Int64) (p : Int32) : ∃ r, f_X10_lowest S1 x (lN (q_A M (q_lk M) k n 0)) p = some (r, S1) ∧ f_X11_lowest M1 x (lN (q_A M (q_lk M) k n 0)) p = some (r, M1) := by
  obtain ⟨a1, a2⟩ := A_rg h3 hn hok
  exact low_e S1 M1 x _ p (by rw [lN_ti' (by omega)]; omega) (by rw [lN_ti' (by omega)]; omega)
theorem e_refB {M : St} (x row y r : Int32) (h : f_X11_refuses M row y = some (r, M)) : f_X11_refusesBag M x row y = some (if r = 0 then (if inB x 255 = true then 0 else -3) else r, M) := by
  unfold f_X11_refusesBag f_X11_refusesBag_20
  rw [h, obd2_s, e_isBagM, obd2_s]
  by_cases q : r = 0
  · rw [if_pos q, if_pos q]
    by_cases hb : inB x 255 = true
    · rw [if_pos hb, if_neg one0, if_pos hb, q]
    · rw [if_neg hb, if_pos rfl, if_neg hb]
  · rw [if_neg q, if_neg q]
theorem m3n : ¬ (-3 : Int32) = 0 := by decide
theorem m2n : ¬ (-2 : Int32) = 0 := by decide
theorem rn0 {r : Int32} (h : r = -3 ∨ r = -2) : ¬ r = 0 := by rcases h with rfl | rfl; exact m3n; exact m2n
theorem st_mean : PS_mean RI := by
  intro S M h x row y p
  have hR := h
  obtain ⟨-, h2, h3, -⟩ := h
  obtain ⟨r, S', hK, eM, hr⟩ := e_refusal h2 h3 row y
  unfold f_X10_mean f_X11_mean f_X10_mean_22
  rw [e_isBagX, obd2_s, e_isPartX, obd2_s, e_refB x row y r eM, obd2_s, e_isPartM, obd2_s]
  rcases hr with ⟨hr, hz⟩ | ⟨rfl, z0, z1, n, rfl, hn1, hRw, -, h5⟩
  · have key : ∀ z, f_X10_mean_23 S x p row y z = some ((-9000000000000000000) - r.toInt64, S') := by
      intro z
      unfold f_X10_mean_23
      rw [hz z, obd2_s, if_neg (rn0 hr)]
    rw [key, key, if_neg (rn0 hr), if_neg (rn0 hr)]
    have e2 : f_X11_mean_22 M r = some ((-9000000000000000000) - r.toInt64, M) := by
      unfold f_X11_mean_22
      rcases hr with rfl | rfl
      · rw [if_neg (by decide)]; rfl
      · rw [if_pos rfl]; rfl
    rw [e2]
    refine ⟨_, S', M, ?_, rfl, RI_K hK (QM.rf M) hR⟩
    rw [ite_self, ite_self]
  · have k0 : f_X10_mean_23 S x p row (nI n) 0 = some (-8999999999999999997, S') := by
      unfold f_X10_mean_23
      rw [z0, obd2_s, if_neg m3n]; rfl
    rw [if_pos rfl, k0]
    by_cases hb : inB x 255 = true
    · obtain ⟨b, hb1, hb2, rfl⟩ := inB_nI hb
      rw [if_pos hb, if_neg one0, if_pos hb, if_pos rfl]
      by_cases hp : inB p 1 = true
      · have hok : ∀ t, t < n → Okk M (q_st row t) := fun t ht => (hRw.2.2 t ht).1
        have r2 := R2_fr hK.fs (FM.rf M) h2
        have r3 := R3_fr hK.fs (FM.rf M) h3
        obtain ⟨S1, e1, t5, k3, -, k5, -⟩ := e_take r2 r3 hRw (Or.inl ⟨h5, rfl⟩) hb1
        obtain ⟨M1, e2, q1, y1⟩ := e_lay h3 row hRw.1 hok
        obtain ⟨M2, e3, q2, y2⟩ := e_mean h3 hRw.1 hok q1 y1 hb1 0
        obtain ⟨v, l1, l2⟩ := low_A h3 hRw.1 hok S1 M2 (q_mn M (q_lk M) (q_st row) n b) p
        rw [if_pos hp, if_neg one0, if_neg one0, e2, obd_S, e3, obd2_s, y2.2.2.2, l2, obd2_s]
        unfold f_X10_mean_23 f_X9_sum f_X9_scale
        rw [z1, obd2_s, if_pos rfl, e1, obd_S, obd2_s, obd2_s, k3, k5]
        have l1 : f_X10_lowest S1 (q_E M (q_lk M) (q_st row) b ph1 n 0 (M.1 0 9) b 0 0) (lN (q_A M (q_lk M) (q_st row) n 0)) p = _ := l1
        rw [l1, obd2_s]
        exact ⟨_, _, _, rfl, rfl, RI_K (hK.tr t5.k) q2 hR⟩
      · rw [if_neg hp, if_pos rfl, if_pos rfl]
        exact ⟨_, _, _, rfl, rfl, RI_K hK (QM.rf M) hR⟩
    · rw [if_neg hb, if_pos rfl, if_neg hb, if_neg m3n]
      exact ⟨_, _, _, rfl, rfl, RI_K hK (QM.rf M) hR⟩
theorem st_all : PS_all RI := by
  intro S M h x row y p
  have hR := h
  obtain ⟨-, h2, h3, -⟩ := h
  obtain ⟨r, S', hK, eM, hr⟩ := e_refusal h2 h3 row y
  unfold f_X10_all f_X11_all f_X10_all_22
  rw [e_isBagX, obd2_s, e_isPartX, obd2_s, e_refB x row y r eM, obd2_s, e_isPartM, obd2_s]
  rcases hr with ⟨hr, hz⟩ | ⟨rfl, z0, z1, n, rfl, hn1, hRw, -, h5⟩
  · have key : ∀ z, f_X10_all_23 S x p row y z = some (r.toInt64, S') := by
      intro z
      unfold f_X10_all_23
      rw [hz z, obd2_s, if_neg (rn0 hr)]
    rw [key, key, if_neg (rn0 hr), if_neg (rn0 hr)]
    have e2 : f_X11_all_22 M r = some (r.toInt64, M) := by
      unfold f_X11_all_22
      rcases hr with rfl | rfl
      · rw [if_neg (by decide)]; rfl
      · rw [if_pos rfl]; rfl
    rw [e2]
    refine ⟨_, S', M, ?_, rfl, RI_K hK (QM.rf M) hR⟩
    rw [ite_self, ite_self]
  · have k0 : f_X10_all_23 S x p row (nI n) 0 = some (-3, S') := by
      unfold f_X10_all_23
      rw [z0, obd2_s, if_neg m3n]; rfl
    rw [if_pos rfl, k0]
    by_cases hb : inB x 255 = true
    · obtain ⟨b, hb1, hb2, rfl⟩ := inB_nI hb
      rw [if_pos hb, if_neg one0, if_pos hb, if_pos rfl]
      by_cases hp : inB p 1 = true
      · have hok : ∀ t, t < n → Okk M (q_st row t) := fun t ht => (hRw.2.2 t ht).1
        have r2 := R2_fr hK.fs (FM.rf M) h2
        have r3 := R3_fr hK.fs (FM.rf M) h3
        obtain ⟨S1, e1, t5, -, k4, k5, -⟩ := e_take r2 r3 hRw (Or.inl ⟨h5, rfl⟩) hb1
        obtain ⟨M1, e2, q1, y1⟩ := e_lay h3 row hRw.1 hok
        obtain ⟨M2, e3, q2, y2⟩ := e_done h3 hRw.1 hok q1 y1 hb1
        obtain ⟨v, l1, l2⟩ := low_A h3 hRw.1 hok S1 M2 (q_do M (q_lk M) (q_st row) n b) p
        rw [if_pos hp, if_neg one0, if_neg one0, e2, obd_S, e3, obd2_s, y2.2.2.2, l2, obd2_s]
        unfold f_X10_all_23 f_X9_allDone f_X9_scale
        rw [z1, obd2_s, if_pos rfl, e1, obd_S, obd2_s, obd2_s, k4, k5]
        have l1 : f_X10_lowest S1 (q_E M (q_lk M) (q_st row) b ph2 n 0 (M.1 0 9) b 0 0) (lN (q_A M (q_lk M) (q_st row) n 0)) p = _ := l1
        rw [l1, obd2_s]
        exact ⟨_, _, _, rfl, rfl, RI_K (hK.tr t5.k) q2 hR⟩
      · rw [if_neg hp, if_pos rfl, if_pos rfl]
        exact ⟨_, _, _, rfl, rfl, RI_K hK (QM.rf M) hR⟩
    · rw [if_neg hb, if_pos rfl, if_neg hb, if_neg m3n]
      exact ⟨_, _, _, rfl, rfl, RI_K hK (QM.rf M) hR⟩
theorem st_end : PS_end RI := by
  intro S M h x row y
  have hR := h
  obtain ⟨-, h2, h3, -⟩ := h
  obtain ⟨r, S', hK, eM, hr⟩ := e_refusal h2 h3 row y
  unfold f_X10_end f_X11_end
  rw [e_isBagX, obd2_s, e_refB x row y r eM, obd2_s]
  rcases hr with ⟨hr, hz⟩ | ⟨rfl, z0, z1, n, rfl, hn1, hRw, -, h5⟩
  · rw [hz, obd2_s, if_neg (rn0 hr), if_neg (rn0 hr), if_neg (rn0 hr)]
    exact ⟨_, _, _, rfl, rfl, RI_K hK (QM.rf M) hR⟩
  · rw [if_pos rfl]
    by_cases hb : inB x 255 = true
    · obtain ⟨b, hb1, hb2, rfl⟩ := inB_nI hb
      have hok : ∀ t, t < n → Okk M (q_st row t) := fun t ht => (hRw.2.2 t ht).1
      have r2 := R2_fr hK.fs (FM.rf M) h2
      have r3 := R3_fr hK.fs (FM.rf M) h3
      obtain ⟨S1, e1, t5, -, -, -, kT⟩ := e_take r2 r3 hRw (Or.inl ⟨h5, rfl⟩) hb1
      obtain ⟨M1, e2, q1, y1⟩ := e_lay h3 row hRw.1 hok
      obtain ⟨v, M2, e3, t3, q2, y2⟩ := en_M h3 hRw.1 hok hb1 (q_C M (q_st row) n 0) FU 0 0 M1 (Nat.zero_add _) (by have := C_4096 h3 (k := q_st row) hRw.1; rw [FU_eq]; omega) q1 y1
      have e3 : l_X11_end_29 FU M1 (nI b) 0 0 = _ := e3
      have hv : v = S1.1 5 6 := by
        refine Tp.un (t3.iff (fun t => ?_)) kT
        refine Iff.trans ?_ (lv_P (M := M) (L := q_lk M) (k := q_st row) (f := b) (fun c s hc hs => by have := (lk_rg h3 hc hs).2.1; omega) t n 0 (fun t _ h => hok t (by omega)) (M.1 0 9) b 0 0)
        exact ⟨fun ⟨u, _, a, b⟩ => ⟨u, a, b⟩, fun ⟨u, a, b⟩ => ⟨u, Nat.zero_le _, a, b⟩⟩
      unfold f_X9_latest
      rw [if_pos hb, if_pos hb, z1, obd2_s, if_pos rfl, if_pos rfl, e1, obd_S, obd2_s, e2, obd_S, e3, hv]
      exact ⟨_, _, _, rfl, rfl, RI_K (hK.tr t5.k) q2 hR⟩
    · rw [if_neg hb, if_neg hb, z0, obd2_s, if_neg m3n, if_neg m3n]
      exact ⟨_, _, _, rfl, rfl, RI_K hK (QM.rf M) hR⟩
