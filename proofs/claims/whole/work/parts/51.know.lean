-- ===== 51: know
def Bd (x : Int64) (B : Nat) : Prop := x.toInt.natAbs ≤ B
theorem Bd.add {x y : Int64} {A B : Nat} (h : Bd x A) (g : Bd y B) (hs : A + B < 2 ^ 62) : Bd (x + y) (A + B) := by
  unfold Bd at *
  rw [Int64.toInt_add, Int.bmod_eq_of_le (show (-2 ^ 63 : Int) ≤ x.toInt + y.toInt by omega) (show x.toInt + y.toInt < (2 ^ 63 : Int) by omega)]
  omega
theorem Bd.mul {x : Int64} {A l : Nat} (h : Bd x A) (hl : l < 2 ^ 31) (hs : l * A < 2 ^ 62) : (lN l * x).toInt = l * x.toInt ∧ Bd (lN l * x) (l * A) := by
  unfold Bd at *
  have e : ((l : Int) * x.toInt).natAbs ≤ l * A := by
    rw [Int.natAbs_mul, Int.natAbs_natCast]
    exact Nat.mul_le_mul_left l h
  rw [Int64.toInt_mul, lN_ti' (by omega)]
  generalize (l : Int) * x.toInt = p at *
  rw [Int.bmod_eq_of_le (show (-2 ^ 63 : Int) ≤ p by omega) (show p < (2 ^ 63 : Int) by omega)]
  exact ⟨rfl, e⟩
theorem S_bd {L : Nat → Nat} {V : Nat → Int64} {X : Nat} : ∀ r, (∀ s, s < r → Bd (V s) X) → (∀ s, s < r → L s < 2 ^ 31) → fb_sm' L r * X < 2 ^ 61 → Bd (q_S (fun s => lN (L s) * V s) r 0) (fb_sm' L r * X) := by
  intro r
  induction r with
  | zero => intro _ _ _; rw [q_S]; exact Nat.zero_le _
  | succ r ih =>
    intro hV hL hX
    rw [fb_sm', Nat.add_mul] at hX ⊢
    rw [S_end, Nat.zero_add]
    exact (ih (fun s hs => hV s (by omega)) (fun s hs => hL s (by omega)) (by omega)).add ((hV r (by omega)).mul (hL r (by omega)) (by omega)).2 (by omega)
theorem A_leL {M : St} {L : Nat → Nat → Nat} {k : Nat → Nat} (hL : ∀ c, c < 6 → fb_sm' (L c) (ms M c) ≤ 80) : ∀ j i, q_A M L k j i ≤ 80 ^ j := by
  intro j
  induction j with
  | zero => intro i; exact Nat.le_refl _
  | succ j ih =>
    intro i
    have h2 : (if k i < 6 then fb_sm' (L (k i)) (ms M (k i)) else 1) ≤ 80 := by
      by_cases hc : k i < 6
      · rw [if_pos hc]; exact hL _ hc
      · rw [if_neg hc]; omega
    rw [q_A, Nat.pow_succ, Nat.mul_comm]
    exact Nat.mul_le_mul (ih (i + 1)) h2
theorem i_add {x y : Int32} {A B : Nat} (h : x.toInt.natAbs ≤ A) (g : y.toInt.natAbs ≤ B) (hs : A + B < 2 ^ 30) : (x + y).toInt.natAbs ≤ A + B ∧ (x - y).toInt.natAbs ≤ A + B := by
  rw [Int32.toInt_add, Int32.toInt_sub, Int.bmod_eq_of_le (show (-2 ^ 31 : Int) ≤ x.toInt + y.toInt by omega) (show x.toInt + y.toInt < (2 ^ 31 : Int) by omega), Int.bmod_eq_of_le (show (-2 ^ 31 : Int) ≤ x.toInt - y.toInt by omega) (show x.toInt - y.toInt < (2 ^ 31 : Int) by omega)]
  omega
theorem wo_le {S M : St} (h : R3 S M) {c : Nat} (hc : c < 6) (h0 : 0 < ms M c) : (M.1 6 (6 * c + 3)).toInt.natAbs ≤ 99 ∧ (M.1 6 (6 * c + 4)).toInt.natAbs ≤ 99 := by
  obtain ⟨-, -, -, -, c5, -⟩ := h.2 c hc
  obtain ⟨-, -, -, -, -, d1, d2, -⟩ := c5 (tc_ms h hc h0)
  have := d1.2
  have := d2.2
  rw [d1.1, d2.1, nI_toInt (by omega), nI_toInt (by omega)]
  omega
theorem E_bd {S M : St} {L : Nat → Nat → Nat} {k : Nat → Nat} {n f : Nat} (h3 : R3 S M) (hn : n ≤ 6) (hok : ∀ t, t < n → Okk M (k t)) (hL : ∀ c, c < 6 → fb_sm' (L c) (ms M c) ≤ 80) (hl : ∀ c s, c < 6 → s < ms M c → L c s ≤ 20) : ∀ (j i : Nat), i + j = n → ∀ (m : Int32) (b : Nat) (g z : Int32) (G : Nat), g.toInt.natAbs ≤ G → G + 99 * j ≤ 600 → Bd (q_E M L k f ph1 j i m b g z) ((G + 99 * j) * q_A M L k j i) := by
  intro j
  induction j with
  | zero =>
    intro i hi m b g z G hg hG
    rw [q_E, q_A, Nat.mul_one]
    show g.toInt64.toInt.natAbs ≤ _
    rw [Int32.toInt_toInt64]
    omega
  | succ j ih =>
    intro i hi m b g z G hg hG
    have hA := A_leL (M := M) (k := k) hL j (i + 1)
    have hA2 : q_A M L k j (i + 1) ≤ 80 ^ 6 := Nat.le_trans hA (Nat.pow_le_pow_right (by omega) (by omega))
    rw [q_E, q_A]
    by_cases hc : k i < 6
    · have h0 : 0 < ms M (k i) := by rcases hok i (by omega) with q | q; omega; exact q.2
      obtain ⟨w1, w2⟩ := wo_le h3 hc h0
      have a1 := (i_add hg w1 (by omega)).1
      have a2 := (i_add hg w2 (by omega)).2
      have hT := hL _ hc
      have hX : (G + 99 * (j + 1)) * q_A M L k j (i + 1) ≤ 600 * 80 ^ 6 := Nat.mul_le_mul hG hA2
      have hY : fb_sm' (L (k i)) (ms M (k i)) * ((G + 99 * (j + 1)) * q_A M L k j (i + 1)) ≤ 80 * (600 * 80 ^ 6) := Nat.mul_le_mul hT hX
      have eX : G + 99 + 99 * j = G + 99 * (j + 1) := by omega
      rw [if_pos hc, if_pos hc, ← Nat.mul_assoc, Nat.mul_comm (G + 99 * (j + 1)), Nat.mul_assoc]
      by_cases l : m + q_w M k i ≤ M.1 6 (6 * k i + 2)
      · rw [if_pos l]
        refine S_bd _ (fun s hs => ?_) (fun s hs => by have := hl _ s hc hs; omega) (by omega)
        by_cases q : q_ft M b (k i) s = true
        · rw [if_pos q, ← eX]; exact ih (i + 1) (by omega) _ _ _ _ (G + 99) a1 (by omega)
        · rw [if_neg q, ← eX]; exact ih (i + 1) (by omega) _ _ _ _ (G + 99) a2 (by omega)
      · rw [if_neg l]
        have := ih (i + 1) (by omega) (m + q_w M k i) b _ 1 (G + 99) a2 (by omega)
        rw [eX] at this
        exact (this.mul (by omega) (by omega)).2
    · rw [if_neg hc, if_neg hc, Nat.one_mul]
      have := ih (i + 1) (by omega) (m + q_w M k i) f g z (G + 99) (by omega) (by omega)
      rw [show G + 99 + 99 * j = G + 99 * (j + 1) by omega] at this
      exact this
theorem Bs_ex (M : St) (F : Nat → Int64) : ∀ k, ∃ v, Bs M F (k + 1) v := by
  intro k
  induction k with
  | zero => exact ⟨0, by omega, mb_0 M, fun b hb _ => by rw [show b = 0 by omega]; exact ⟨Int64.le_refl _, fun l => absurd l (Nat.not_lt_zero 0)⟩⟩
  | succ k ih =>
    obtain ⟨v, h1, h2, h3⟩ := ih
    by_cases q : q_mb M (k + 1) = true ∧ F v < F (k + 1)
    · refine ⟨k + 1, by omega, q.1, fun b hb hm => ?_⟩
      by_cases z : b = k + 1
      · rw [z]; exact ⟨Int64.le_refl _, fun l => by omega⟩
      · have := Int64.lt_of_le_of_lt (h3 b (by omega) hm).1 q.2
        exact ⟨Int64.le_of_lt this, fun _ => this⟩
    · refine ⟨v, by omega, h2, fun b hb hm => ?_⟩
      by_cases z : b = k + 1
      · subst z
        exact ⟨Int64.not_lt.mp (fun l => q ⟨hm, l⟩), fun l => by omega⟩
      · exact h3 b (by omega) hm
/-- the best bag by F -/
noncomputable def q_bb (M : St) (F : Nat → Int64) : Nat := Classical.choose (Bs_ex M F 255)
theorem q_bb_e (M : St) (F : Nat → Int64) : Bs M F 256 (q_bb M F) := Classical.choose_spec (Bs_ex M F 255)
/-- how likely the sorts are if that of c is known to be s0 -/
def q_Lk (M : St) (c s0 : Nat) : Nat → Nat → Nat := fun c' s => if c' = c then (if s = s0 then 1 else 0) else q_lk M c' s
theorem Lk_le {S M : St} (h3 : R3 S M) {c s0 : Nat} (hs0 : s0 < ms M c) (hc0 : c < 6) : (∀ c', c' < 6 → fb_sm' (q_Lk M c s0 c') (ms M c') ≤ 80) ∧ ∀ c' s, c' < 6 → s < ms M c' → q_Lk M c s0 c' s ≤ 20 := by
  have hl : ∀ c' s, c' < 6 → s < ms M c' → q_Lk M c s0 c' s ≤ 20 := by
    intro c' s hc hs
    have h1 := (lk_rg h3 hc hs).2.2
    unfold q_Lk
    split
    · split <;> omega
    · exact h1
  refine ⟨fun c' hc => ?_, hl⟩
  have h1 := sm_le (f := q_Lk M c s0 c') (B := 20) (ms M c') (fun s hs => hl c' s hc hs)
  have h2 := ms_le h3 hc
  omega
theorem W_sel {M : St} {k : Nat → Nat} {n e s0 : Nat} (he : e < n) (hc : k e < 6) (hu : ∀ t, t < n → k t = k e → t = e) (v : Nat) : ∀ (j i : Nat), i + j = n →
    (e < i → q_W M (q_lk M) k j i (q_rs M k v i) = q_W M (q_Lk M (k e) s0) k j i (q_rs M k v i)) ∧
    (i ≤ e → (if q_rs M k v e % ms M (k e) = s0 then q_W M (q_lk M) k j i (q_rs M k v i) else 0) = q_lk M (k e) s0 * q_W M (q_Lk M (k e) s0) k j i (q_rs M k v i)) := by
  intro j
  induction j with
  | zero => intro i hi; exact ⟨fun _ => rfl, fun l => by omega⟩
  | succ j ih =>
    intro i hi
    obtain ⟨h1, h2⟩ := ih (i + 1) (by omega)
    rw [q_W, q_W]
    show (_ → _ * q_W M (q_lk M) k j (i + 1) (q_rs M k v (i + 1)) = _ * q_W M (q_Lk M (k e) s0) k j (i + 1) (q_rs M k v (i + 1))) ∧ (_ → (if _ then _ * q_W M (q_lk M) k j (i + 1) (q_rs M k v (i + 1)) else 0) = _ * (_ * q_W M (q_Lk M (k e) s0) k j (i + 1) (q_rs M k v (i + 1))))
    have same : i ≠ e → (if k i < 6 then q_Lk M (k e) s0 (k i) (q_rs M k v i % ms M (k i)) else 1) = (if k i < 6 then q_lk M (k i) (q_rs M k v i % ms M (k i)) else 1) := by
      intro hne
      unfold q_Lk
      rw [if_neg (fun z => hne (hu i (by omega) z))]
    constructor
    · intro l
      rw [same (by omega), h1 (by omega)]
    · intro l
      by_cases z : i = e
      · subst z
        rw [if_pos hc, if_pos hc, h1 (by omega)]
        unfold q_Lk
        rw [if_pos rfl]
        by_cases q : q_rs M k v i % ms M (k i) = s0
        · rw [if_pos q, if_pos q, q, Nat.one_mul]
        · rw [if_neg q, if_neg q, Nat.zero_mul, Nat.mul_zero]
      · rw [same z]
        have h := h2 (by omega)
        by_cases q : q_rs M k v e % ms M (k e) = s0
        · rw [if_pos q] at h ⊢
          rw [h, ← Nat.mul_assoc, ← Nat.mul_assoc, Nat.mul_comm (q_lk M (k e) s0)]
        · rw [if_neg q] at h ⊢
          rw [← Nat.mul_assoc, Nat.mul_comm (q_lk M (k e) s0), Nat.mul_assoc, ← h, Nat.mul_zero]
theorem e_meanS {S M0 M : St} {n : Nat} {k : Nat → Nat} (h3 : R3 S M0) (hn : n ≤ 6) (hok : ∀ t, t < n → Okk M0 (k t)) (hK : QM M0 M) (hY : Ly M0 M n k) {b e s0 : Nat} (hb : b ≤ 255) (he : e < n) (hc : k e < 6) (hs0 : s0 < 4) (hu : ∀ t, t < n → k t = k e → t = e) : ∃ M', f_X11_meanOf M (nI b) (nI e) (nI s0) = some (lN (q_lk M0 (k e) s0) * q_mn M0 (q_Lk M0 (k e) s0) k n b, M') ∧ QM M0 M' ∧ Ly M0 M' n k := by
  obtain ⟨M', ee, r⟩ := mo_M h3 hn hok (fun v => decide (q_rs M0 k v e % ms M0 (k e) = s0)) (nI e) (nI s0) (Or.inr ⟨e, s0, he, hc, hs0, rfl, rfl, fun _ => rfl⟩) hb (q_C M0 k n 0) FU 0 0 M (Nat.zero_add _) (by have := C_4096 h3 (k := k) hn; rw [FU_eq]; omega) hK hY
  refine ⟨M', ?_, r⟩
  have ee : f_X11_meanOf M (nI b) (nI e) (nI s0) = _ := ee
  rw [ee, Int64.zero_add]
  have h := sum_E (M := M0) (L := q_Lk M0 (k e) s0) (k := k) (f := b) (φ := ph1) n 0 (fun t _ h => hok t (by omega)) (M0.1 0 9) b 0 0
  refine congrArg (fun z => some (z, M')) ?_
  show _ = lN (q_lk M0 (k e) s0) * q_E M0 (q_Lk M0 (k e) s0) k b ph1 n 0 (M0.1 0 9) b 0 0
  rw [← h, ← S_mul]
  refine S_congr _ 0 (fun v _ _ => ?_)
  have w := (W_sel (M := M0) (s0 := s0) he hc hu v n 0 (Nat.zero_add _)).2 (Nat.zero_le _)
  have w : (if q_rs M0 k v e % ms M0 (k e) = s0 then q_W M0 (q_lk M0) k n 0 v else 0) = q_lk M0 (k e) s0 * q_W M0 (q_Lk M0 (k e) s0) k n 0 v := w
  rw [← Int64.mul_assoc, lN_mul, ← w]
  by_cases q : q_rs M0 k v e % ms M0 (k e) = s0
  · rw [if_pos (decide_eq_true q), if_pos q]; rfl
  · rw [if_neg (fun z => q (of_decide_eq_true z)), if_neg q, lN0, Int64.zero_mul]
theorem LEAST_ti : (-9000000000000000000 : Int64).toInt = -9000000000000000000 := by decide
section KNOW
variable {S M0 : St} {n : Nat} {k : Nat → Nat}
theorem kb_M (h2 : R2 S M0) (h3 : R3 S M0) (hn : n ≤ 6) (hok : ∀ t, t < n → Okk M0 (k t)) {e s0 : Nat} (he : e < n) (hc : k e < 6) (hs0 : s0 < ms M0 (k e)) (hu : ∀ t, t < n → k t = k e → t = e) (k_126 : St → Int32 → Int32 → Int32 → Int64 → Int32 → Option (Int64 × St)) (x3 x4 : Int32) (x7 : Int64) : ∀ (j fu t : Nat) (x10 : Int64) (M : St), t + j = 256 → j < fu → QM M0 M → Ly M0 M n k → ((x10 = -9000000000000000000 ∧ ∀ b, b < t → ¬ q_mb M0 b = true) ∨ ∃ v, v < t ∧ q_mb M0 v = true ∧ x10 = lN (q_lk M0 (k e) s0) * q_mn M0 (q_Lk M0 (k e) s0) k n v ∧ ∀ b, b < t → q_mb M0 b = true → lN (q_lk M0 (k e) s0) * q_mn M0 (q_Lk M0 (k e) s0) k n b ≤ lN (q_lk M0 (k e) s0) * q_mn M0 (q_Lk M0 (k e) s0) k n v) →
    ∃ M', l_X11_know_145 k_126 fu M x3 x4 (nI e) x7 (nI s0) x10 (nI t) = k_126 M' x3 x4 (nI e) (x7 + lN (q_lk M0 (k e) s0) * q_mn M0 (q_Lk M0 (k e) s0) k n (q_bb M0 (q_mn M0 (q_Lk M0 (k e) s0) k n))) (nI (s0 + 1)) ∧ QM M0 M' ∧ Ly M0 M' n k := by
  have hm := ms_le h3 hc
  have hlk := (lk_rg h3 hc hs0).2.2
  obtain ⟨L1, L2⟩ := Lk_le h3 hs0 hc
  have hF : ∀ b, Bd (q_mn M0 (q_Lk M0 (k e) s0) k n b) (600 * 80 ^ 6) := by
    intro b
    have h := E_bd (f := b) h3 hn hok L1 L2 n 0 (Nat.zero_add _) (M0.1 0 9) b 0 0 0 (by decide) (by omega)
    have hA : q_A M0 (q_Lk M0 (k e) s0) k n 0 ≤ 80 ^ 6 := Nat.le_trans (A_leL L1 n 0) (Nat.pow_le_pow_right (by omega) hn)
    exact Nat.le_trans h (Nat.mul_le_mul (by omega) hA)
  have hG : ∀ b, (lN (q_lk M0 (k e) s0) * q_mn M0 (q_Lk M0 (k e) s0) k n b).toInt = q_lk M0 (k e) s0 * (q_mn M0 (q_Lk M0 (k e) s0) k n b).toInt ∧ Bd (lN (q_lk M0 (k e) s0) * q_mn M0 (q_Lk M0 (k e) s0) k n b) (20 * (600 * 80 ^ 6)) := by
    intro b
    have l := Nat.mul_le_mul_right (600 * 80 ^ 6) hlk
    obtain ⟨a, c⟩ := (hF b).mul (show q_lk M0 (k e) s0 < 2 ^ 31 by omega) (by omega)
    exact ⟨a, Nat.le_trans c l⟩
  have mono : ∀ a b, q_mn M0 (q_Lk M0 (k e) s0) k n a ≤ q_mn M0 (q_Lk M0 (k e) s0) k n b → lN (q_lk M0 (k e) s0) * q_mn M0 (q_Lk M0 (k e) s0) k n a ≤ lN (q_lk M0 (k e) s0) * q_mn M0 (q_Lk M0 (k e) s0) k n b := by
    intro a b h
    rw [Int64.le_iff_toInt_le] at h ⊢
    rw [(hG a).1, (hG b).1]
    exact Int.mul_le_mul_of_nonneg_left h (by omega)
  have low : ∀ b, ¬ lN (q_lk M0 (k e) s0) * q_mn M0 (q_Lk M0 (k e) s0) k n b ≤ -9000000000000000000 := by
    intro b
    rw [Int64.le_iff_toInt_le, LEAST_ti]
    have := (hG b).2
    unfold Bd at this
    omega
  intro j
  induction j with
  | zero =>
    intro fu t x10 M hk hf hK hY hI
    obtain ⟨fu, rfl⟩ : ∃ q, fu = q + 1 := ⟨fu - 1, by omega⟩
    have : t = 256 := by omega
    subst this
    show ∃ M', f_X11_know_145 k_126 (l_X11_know_145 k_126 fu) M x3 x4 (nI e) x7 (nI s0) x10 _ = _ ∧ _
    unfold f_X11_know_145
    rw [if_pos (show (256 : Int32) ≤ nI 256 by decide), bnd_e, bnd_e, nI_1]
    refine ⟨M, ?_, hK, hY⟩
    rcases hI with ⟨-, b⟩ | ⟨v, hv, hm, rfl, hb⟩
    · exact absurd (mb_0 M0) (b 0 (by omega))
    · have q := q_bb_e M0 (q_mn M0 (q_Lk M0 (k e) s0) k n)
      rw [Int64.le_antisymm (hb _ q.1 q.2.1) (mono _ _ (q.2.2 v hv hm).1)]
  | succ j ih =>
    intro fu t x10 M hk hf hK hY hI
    obtain ⟨fu, rfl⟩ : ∃ q, fu = q + 1 := ⟨fu - 1, by omega⟩
    have r2 := R2_fr (FS.rf S) hK.fm h2
    show ∃ M', f_X11_know_145 k_126 (l_X11_know_145 k_126 fu) M x3 x4 (nI e) x7 (nI s0) x10 _ = _ ∧ _
    unfold f_X11_know_145 f_X11_know_178 f_X11_know_195
    simp only [bnd_e, nI_1]
    rw [if_neg (show ¬ (256 : Int32) ≤ nI t from nI_ge (a := t) (b := 256) (by omega) (by omega)), e_mayM r2 (by omega), obd2_s, mb_km hK]
    by_cases q : q_mb M0 t = true
    · rw [if_pos q, if_neg one0]
      obtain ⟨M1, e1, k1, y1⟩ := e_meanS h3 hn hok hK hY (show t ≤ 255 by omega) he hc (show s0 < 4 by omega) hu
      rw [e1, obd2_s]
      rcases hI with ⟨rfl, b⟩ | ⟨v, hv, hm, rfl, hb⟩
      · rw [if_neg (fun z => low t ((lg_cmp_le _ _).mp z))]
        refine ih fu (t + 1) _ M1 (by omega) (by omega) k1 y1 (Or.inr ⟨t, by omega, q, rfl, fun b' hb' hm' => ?_⟩)
        by_cases z : b' = t
        · rw [z]; exact Int64.le_refl _
        · exact absurd hm' (b b' (by omega))
      · by_cases l : lg_cmp (lN (q_lk M0 (k e) s0) * q_mn M0 (q_Lk M0 (k e) s0) k n t) (lN (q_lk M0 (k e) s0) * q_mn M0 (q_Lk M0 (k e) s0) k n v) ≤ 0
        · rw [if_pos l]
          refine ih fu (t + 1) _ M1 (by omega) (by omega) k1 y1 (Or.inr ⟨v, by omega, hm, rfl, fun b' hb' hm' => ?_⟩)
          by_cases z : b' = t
          · rw [z]; exact (lg_cmp_le _ _).mp l
          · exact hb b' (by omega) hm'
        · rw [if_neg l]
          have l2 := Int64.not_le.mp (fun z => l ((lg_cmp_le _ _).mpr z))
          refine ih fu (t + 1) _ M1 (by omega) (by omega) k1 y1 (Or.inr ⟨t, by omega, q, rfl, fun b' hb' hm' => ?_⟩)
          by_cases z : b' = t
          · rw [z]; exact Int64.le_refl _
          · exact Int64.le_of_lt (Int64.lt_of_le_of_lt (hb b' (by omega) hm') l2)
    · rw [if_neg q, if_pos rfl]
      have l : lg_cmp (-9000000000000000000) x10 ≤ 0 := by
        rw [lg_cmp_le]
        rcases hI with ⟨rfl, -⟩ | ⟨v, -, -, rfl, -⟩
        · exact Int64.le_refl _
        · exact Int64.le_of_lt (Int64.not_le.mp (low v))
      rw [if_pos l]
      refine ih fu (t + 1) x10 M (by omega) (by omega) hK hY ?_
      rcases hI with ⟨a, b⟩ | ⟨v, hv, hm, a, hb⟩
      · refine Or.inl ⟨a, fun b' hb' => ?_⟩
        by_cases z : b' = t
        · rw [z]; exact q
        · exact b b' (by omega)
      · refine Or.inr ⟨v, by omega, hm, a, fun b' hb' hm' => ?_⟩
        by_cases z : b' = t
        · rw [z] at hm'; exact absurd hm' q
        · exact hb b' (by omega) hm'
/-- what knowing brings, sort by sort -/
noncomputable def q_kn (M : St) (k : Nat → Nat) (n c s : Nat) : Int64 := lN (q_lk M c s) * q_mn M (q_Lk M c s) k n (q_bb M (q_mn M (q_Lk M c s) k n))
theorem ks_M (h2 : R2 S M0) (h3 : R3 S M0) (hn : n ≤ 6) (hok : ∀ t, t < n → Okk M0 (k t)) {e : Nat} (he : e < n) (hc : k e < 6) (hu : ∀ t, t < n → k t = k e → t = e) (x4 : Int32) : ∀ (j fu s : Nat) (x7 : Int64) (M : St), s + j = ms M0 (k e) → j < fu → QM M0 M → Ly M0 M n k →
    ∃ M', l_X11_know_126 fu M (nI (k e)) x4 (nI e) x7 (nI s) = obd2 (f_X11_lowest M' (x7 + q_S (q_kn M0 k n (k e)) j s) (lN (q_A M0 (q_lk M0) k n 0)) x4) (fun r S => some (r, S)) ∧ QM M0 M' := by
  have hm := ms_le h3 hc
  intro j
  induction j with
  | zero =>
    intro fu s x7 M hk hf hK hY
    obtain ⟨fu, rfl⟩ : ∃ q, fu = q + 1 := ⟨fu - 1, by omega⟩
    have r3 := R3_fr (FS.rf S) hK.fm h3
    show ∃ M', f_X11_know_126 (l_X11_know_126 fu) M (nI (k e)) x4 (nI e) x7 (nI s) = _ ∧ _
    unfold f_X11_know_126
    rw [chk_T (ixo_nI hc (by omega)), nI_clamp (by omega), ms_e r3 hc, ms_km hK, if_pos (nI_le (by omega) (by omega)), q_S, Int64.add_zero, hY.2.2.2]
    exact ⟨M, rfl, hK⟩
  | succ j ih =>
    intro fu s x7 M hk hf hK hY
    obtain ⟨fu, rfl⟩ : ∃ q, fu = q + 1 := ⟨fu - 1, by omega⟩
    have r3 := R3_fr (FS.rf S) hK.fm h3
    show ∃ M', f_X11_know_126 (l_X11_know_126 fu) M (nI (k e)) x4 (nI e) x7 (nI s) = _ ∧ _
    unfold f_X11_know_126
    rw [chk_T (ixo_nI hc (by omega)), nI_clamp (by omega), ms_e r3 hc, ms_km hK, if_neg (nI_ge (by omega) (by omega))]
    obtain ⟨M1, e1, k1, y1⟩ := kb_M h2 h3 hn hok he hc (show s < ms M0 (k e) by omega) hu (l_X11_know_126 fu) (nI (k e)) x4 x7 256 FU 0 (-9000000000000000000) M rfl (by rw [FU_eq]; omega) hK hY (Or.inl ⟨rfl, fun b hb => absurd hb (Nat.not_lt_zero b)⟩)
    have e1 : l_X11_know_145 (l_X11_know_126 fu) FU M (nI (k e)) x4 (nI e) x7 (nI s) (-9000000000000000000) 0 = _ := e1
    rw [e1, q_S, ← Int64.add_assoc]
    exact ih fu (s + 1) _ M1 (by omega) (by omega) k1 y1
theorem Rw_4 {S M : St} {n : Nat} {k : Nat → Nat} (h : Rw S M n k) {j : Nat} (hj : j ≠ 4) (v : Int32) : Rw (setI S 4 j v) M n k := by
  refine ⟨h.1, (si_nj (fun z => hj z.symm)).trans h.2.1, fun i hi => ?_⟩
  rw [si_ne (by omega), si_ne (by omega)]
  exact h.2.2 i hi
theorem gk_X {S0 M : St} (h2 : R2 S0 M) (h3 : R3 S0 M) {c : Nat} (hc : c < 6) (h0 : 0 < ms M c) : ∀ (j fu s : Nat) (acc : Int64) (S : St), s + j = ms M c → j < fu → QX S0 S → Rw S M n k →
    ∃ S', l_X2_gainByKnowing_28 fu S (nI c) (nI (ms M c)) acc (nI s) = some (acc + q_S (q_kn M k n c) j s - q_mn M (q_lk M) k n (q_bb M (q_mn M (q_lk M) k n)), S') ∧ QX S0 S' ∧ S'.2.1 6 6 = lN (q_A M (q_lk M) k n 0) := by
  have hm := ms_le h3 hc
  intro j
  induction j with
  | zero =>
    intro fu s acc S hk hf hK hR
    obtain ⟨fu, rfl⟩ : ∃ q, fu = q + 1 := ⟨fu - 1, by omega⟩
    show ∃ S', f_X2_gainByKnowing_28 (l_X2_gainByKnowing_28 fu) S (nI c) _ acc (nI s) = _ ∧ _
    unfold f_X2_gainByKnowing_28 f_X6_forget f_X6_assume
    rw [if_pos (nI_le (by omega) (by omega)), bnd_e, bnd_e, obd_S, obd_S]
    have q1 : QX S0 (setI (setI S 4 5 (-1)) 4 6 (-1)) := hK.tr ((QX_I 4 5 _ (by omega)).tr (QX_I 4 6 _ (by omega)))
    obtain ⟨S1, v, e1, t6, -, c2, c3, bv⟩ := e_fb (R2_fr q1.fs (FM.rf M) h2) (R3_fr q1.fs (FM.rf M) h3) (Rw_4 (Rw_4 hR (j := 5) (by omega) (-1)) (j := 6) (by omega) (-1)) (Or.inl ⟨(si_nj (by omega)).trans si_eq, rfl⟩)
    rw [e1, obd_S, q_S, Int64.add_zero, c2, bv.un (q_bb_e M _)]
    exact ⟨S1, rfl, q1.tr t6.k, c3⟩
  | succ j ih =>
    intro fu s acc S hk hf hK hR
    obtain ⟨fu, rfl⟩ : ∃ q, fu = q + 1 := ⟨fu - 1, by omega⟩
    have hs : s < ms M c := by omega
    have r3 := R3_fr hK.fs (FM.rf M) h3
    show ∃ S', f_X2_gainByKnowing_28 (l_X2_gainByKnowing_28 fu) S (nI c) _ acc (nI s) = _ ∧ _
    unfold f_X2_gainByKnowing_28 f_X2_gainByKnowing_81 f_X6_assume
    simp only [bnd_e, nI_1]
    rw [if_neg (nI_ge (by omega) (by omega)), (e_isN r3 hc (show s < 4 by omega)).2, if_pos hs, obd2_s, obd_S]
    have q1 : QX S0 (setI (setI S 4 5 (nI c)) 4 6 (nI s)) := hK.tr ((QX_I 4 5 _ (by omega)).tr (QX_I 4 6 _ (by omega)))
    have hR1 := Rw_4 (Rw_4 hR (j := 5) (by omega) (nI c)) (j := 6) (by omega) (nI s)
    obtain ⟨S1, v, e1, t6, -, c2, -, bv⟩ := e_fb (L := q_Lk M c s) (R2_fr q1.fs (FM.rf M) h2) (R3_fr q1.fs (FM.rf M) h3) hR1 (Or.inr ⟨c, s, hc, hs, (si_nj (by omega)).trans si_eq, si_eq, rfl⟩)
    have q2 := q1.tr t6.k
    have e0 : S1.1 (33 + (4 * c + s)) 0 = nI (q_lk M c s) := (so_X (R3_fr q2.fs (FM.rf M) h3) hc hs (by omega)).trans (lk_rg h3 hc hs).1
    have hlk := (lk_rg h3 hc hs).2.2
    rw [e1, obd_S, oel_S]
    show ∃ S', l_X2_gainByKnowing_28 fu S1 (nI c) (nI (ms M c)) (acc + S1.2.1 6 5 * (S1.1 (33 + (4 * c + s)) 0).toInt64) (nI (s + 1)) = _ ∧ _
    rw [e0, c2, bv.un (q_bb_e M _), nI_l (by omega), Int64.mul_comm, q_S, ← Int64.add_assoc]
    exact ih fu (s + 1) _ S1 (by omega) (by omega) q2 (t6.rw hR1)
theorem ha_X {S M : St} (hR : Rw S M n k) (x : Int32) : ∀ (j fu i : Nat), i + j = n → j < fu → ((∃ t, i ≤ t ∧ t < n ∧ nI (k t) = x) ∧ l_X6_has_2 fu S x (nI i) = some (1, S)) ∨ ((¬ ∃ t, i ≤ t ∧ t < n ∧ nI (k t) = x) ∧ l_X6_has_2 fu S x (nI i) = some (0, S)) := by
  obtain ⟨hn, h4, hr⟩ := hR
  intro j
  induction j with
  | zero =>
    intro fu i hk hf
    obtain ⟨fu, rfl⟩ : ∃ q, fu = q + 1 := ⟨fu - 1, by omega⟩
    right
    refine ⟨fun ⟨t, a, b, _⟩ => by omega, ?_⟩
    show f_X6_has_2 (l_X6_has_2 fu) S x (nI i) = _
    unfold f_X6_has_2
    rw [h4, if_pos (nI_le (by omega) (by omega))]
  | succ j ih =>
    intro fu i hk hf
    obtain ⟨fu, rfl⟩ : ∃ q, fu = q + 1 := ⟨fu - 1, by omega⟩
    show (_ ∧ f_X6_has_2 (l_X6_has_2 fu) S x (nI i) = _) ∨ (_ ∧ f_X6_has_2 (l_X6_has_2 fu) S x (nI i) = _)
    unfold f_X6_has_2
    rw [h4, if_neg (nI_ge (by omega) (by omega)), e_at S 5 (by show i < 6; omega), obd2_s, show S.1 (11 + (5 : Fin 10).val) i = nI (k i) from (hr i (by omega)).2.1, bnd_e, nI_1]
    by_cases q : nI (k i) = x
    · rw [if_pos q]
      exact Or.inl ⟨⟨i, Nat.le_refl _, by omega, q⟩, rfl⟩
    · rw [if_neg q]
      rcases ih fu (i + 1) (by omega) (by omega) with ⟨⟨t, a, b⟩, e⟩ | ⟨a, e⟩
      · exact Or.inl ⟨⟨t, by omega, b⟩, e⟩
      · refine Or.inr ⟨fun ⟨t, a1, a2, a3⟩ => ?_, e⟩
        by_cases z : t = i
        · rw [z] at a3; exact q a3
        · exact a ⟨t, by omega, a2, a3⟩
theorem ke_M (M : St) (row x3 x4 x5 : Int32) (hn : n ≤ 6) : ∀ (j fu i : Nat) (x6 : Int32), i + j = n → j < fu →
    ((∀ t, i ≤ t → t < n → ¬ (x3 ≠ 6 ∧ nI (q_st row t) = x3)) ∧ ∃ fv, l_X11_know_30 fu M row (nI n) x3 x4 x5 x6 (nI i) = f_X11_know_30 (l_X11_know_30 fv) M row (nI n) x3 x4 x5 x6 (nI n)) ∨
    (∃ t, i ≤ t ∧ t < n ∧ x3 ≠ 6 ∧ nI (q_st row t) = x3 ∧ ∃ fv, l_X11_know_30 fu M row (nI n) x3 x4 x5 x6 (nI i) = f_X11_know_30 (l_X11_know_30 fv) M row (nI n) x3 x4 x5 (nI t) (nI n)) := by
  intro j
  induction j with
  | zero =>
    intro fu i x6 hk hf
    obtain ⟨fu, rfl⟩ : ∃ q, fu = q + 1 := ⟨fu - 1, by omega⟩
    have : i = n := by omega
    subst this
    exact Or.inl ⟨fun t a b => by omega, fu, rfl⟩
  | succ j ih =>
    intro fu i x6 hk hf
    obtain ⟨fu, rfl⟩ : ∃ q, fu = q + 1 := ⟨fu - 1, by omega⟩
    have step : ∀ x, l_X11_know_30 (fu + 1) M row (nI n) x3 x4 x5 x (nI i) = l_X11_know_30 fu M row (nI n) x3 x4 x5 (if x3 ≠ 6 ∧ nI (q_st row i) = x3 then nI i else x) (nI (i + 1)) := by
      intro x
      show f_X11_know_30 (l_X11_know_30 fu) M row (nI n) x3 x4 x5 x (nI i) = _
      unfold f_X11_know_30 f_X11_know_60 f_X11_know_62
      simp only [bnd_e, nI_1]
      rw [if_neg (nI_ge (by omega) (by omega)), (q_st_e row i).1]
      by_cases q : x3 = 6
      · rw [if_pos q, if_neg (fun z => z.1 q)]
      · rw [if_neg q]
        by_cases q2 : nI (q_st row i) = x3
        · rw [if_pos q2, if_pos ⟨q, q2⟩]
        · rw [if_neg q2, if_neg (fun z => q2 z.2)]
    rw [step]
    by_cases q : x3 ≠ 6 ∧ nI (q_st row i) = x3
    · rw [if_pos q]
      right
      rcases ih fu (i + 1) (nI i) (by omega) (by omega) with ⟨-, e⟩ | ⟨t, a, b⟩
      · exact ⟨i, Nat.le_refl _, by omega, q.1, q.2, e⟩
      · exact ⟨t, by omega, b⟩
    · rw [if_neg q]
      rcases ih fu (i + 1) x6 (by omega) (by omega) with ⟨a, e⟩ | ⟨t, a, b⟩
      · refine Or.inl ⟨fun t t1 t2 => ?_, e⟩
        by_cases z : t = i
        · rw [z]; exact q
        · exact a t (by omega) t2
      · exact Or.inr ⟨t, by omega, b⟩
end KNOW
theorem st_know : PS_know RI := by
  intro S M h row y x p
  have hR := h
  obtain ⟨-, h2, h3, -⟩ := h
  unfold f_X10_know f_X11_know
  by_cases hb : inB1 y 6 = true
  · obtain ⟨n, h1, hn, -, rfl⟩ := inB1_nI hb
    have hbn := hb
    have ee : ∀ r, f_X11_refuses M row (nI n) = some (r, M) → (obd2 (f_X11_refuses M row (nI n)) fun r25 S25 => obd2 (f_X11_in S25 ((nI n).toInt64) (1) (6)) fun r26 S26 => if r26 = 0 then (some ((-8999999999999999997), S26)) else (l_X11_know_30 FU S26 row (nI n) x p r25 (-1) 0)) = l_X11_know_30 FU M row (nI n) x p r (-1) 0 := by
      intro r e
      rw [e, obd2_s, e_in1 M (nI n) 6 6 rfl, obd2_s, if_pos hbn, if_neg one0]
    have fin0 : ∀ e fv, f_X11_know_30 (l_X11_know_30 fv) M row (nI n) x p (-2) e (nI n) = some (-8999999999999999998, M) := by
      intro e fv
      unfold f_X11_know_30 f_X11_know_83
      rw [if_pos (Int32.le_refl _), if_pos rfl]
    have ke := ke_M (n := n) M row x p
    rcases e_tell h2 h3 row h1 hn with ⟨⟨t, ht, hno⟩, S', e, hK⟩ | ⟨S', e, hK, hRw, h5⟩
    · rcases e_refuses h3 row h1 hn with ⟨-, e2⟩ | ⟨hok, -⟩
      · rw [e, obd2_s, if_neg m2n, ee _ e2]
        refine ⟨-8999999999999999998, S', M, rfl, ?_, RI_K hK (QM.rf M) hR⟩
        rcases ke (-2) hn n FU 0 (-1) (Nat.zero_add _) (by rw [FU_eq]; omega) with ⟨-, fv, e3⟩ | ⟨t, -, -, -, -, fv, e3⟩
        · exact e3.trans (fin0 _ _)
        · exact e3.trans (fin0 _ _)
      · exact absurd (hok t ht) hno
    · rw [e, obd2_s, if_pos rfl, e_within S' x 5 5 rfl, obd2_s]
      have hok : ∀ t, t < n → Okk M (q_st row t) := fun t ht => (hRw.2.2 t ht).1
      -- what the reference answers where the call isn't in the row
      have finN : ∀ r fv, f_X11_know_30 (l_X11_know_30 fv) M row (nI n) x p r (-1) (nI n) = some (-8999999999999999998, M) := by
        intro r fv
        unfold f_X11_know_30 f_X11_know_83
        rw [if_pos (Int32.le_refl _), if_pos rfl, ite_self]
      obtain ⟨r, er, hr⟩ : ∃ r, f_X11_refuses M row (nI n) = some (r, M) ∧ ((Tw (q_st row) n ∧ r = -3) ∨ (¬ Tw (q_st row) n ∧ r = 0)) := by
        rcases e_refuses h3 row h1 hn with ⟨⟨t, ht, hno⟩, -⟩ | ⟨-, ⟨w, e2⟩ | ⟨w, e2⟩⟩
        · exact absurd (hok t ht) hno
        · exact ⟨-3, e2, Or.inl ⟨w, rfl⟩⟩
        · exact ⟨0, e2, Or.inr ⟨w, rfl⟩⟩
      rw [ee r er]
      have hx := ha_X hRw x n FU 0 (Nat.zero_add _) (by rw [FU_eq]; omega)
      have hx : ((∃ t, 0 ≤ t ∧ t < n ∧ nI (q_st row t) = x) ∧ f_X6_has S' x = some (1, S')) ∨ ((¬ ∃ t, 0 ≤ t ∧ t < n ∧ nI (q_st row t) = x) ∧ f_X6_has S' x = some (0, S')) := hx
      rcases ke r hn n FU 0 (-1) (Nat.zero_add _) (by rw [FU_eq]; omega) with ⟨no, fv, e3⟩ | ⟨t, -, ht, x6, xt, fv, e3⟩
      · have e3 : l_X11_know_30 FU M row (nI n) x p r (-1) 0 = _ := e3
        rw [e3, finN]
        refine ⟨-8999999999999999998, S', M, ?_, rfl, RI_K hK (QM.rf M) hR⟩
        unfold f_X10_know_44
        by_cases hx5 : inB x 5 = true
        · obtain ⟨c, c5, cl, rfl⟩ := inB_nI hx5
          rw [if_pos hx5, if_neg one0]
          rcases hx with ⟨⟨t, -, ht, et⟩, -⟩ | ⟨-, e4⟩
          · refine absurd ⟨?_, et⟩ (no t (Nat.zero_le _) ht)
            intro z
            have := (nI_eq (a := c) (b := 6) cl (by omega)).mp z
            omega
          · rw [e4, obd2_s, if_pos rfl]
        · rw [if_neg hx5, if_pos rfl]
      · have e3 : l_X11_know_30 FU M row (nI n) x p r (-1) 0 = _ := e3
        have kc : q_st row t < 6 := by
          rcases hok t ht with q | q
          · rw [q] at xt; exact absurd xt.symm x6
          · exact q.1
        have k0 : 0 < ms M (q_st row t) := by
          rcases hok t ht with q | q
          · omega
          · exact q.2
        have hx5 : inB x 5 = true := by rw [← xt]; exact inB_of (by omega) (by omega)
        have e4 : f_X6_has S' x = some (1, S') := by
          rcases hx with ⟨-, e4⟩ | ⟨q, -⟩
          · exact e4
          · exact absurd ⟨t, Nat.zero_le _, ht, xt⟩ q
        rw [if_pos hx5, if_neg one0, e4, obd2_s, if_neg one0, e3]
        unfold f_X11_know_30 f_X11_know_83 f_X11_know_100 f_X10_know_66
        rw [if_pos (Int32.le_refl _), if_neg (m1_ne (show t < 2 ^ 31 by omega)), e_isPartM, obd2_s]
        rcases e_twice hRw with ⟨w, e5⟩ | ⟨w, e5⟩
        · rcases hr with ⟨-, rfl⟩ | ⟨w2, -⟩
          · rw [e5, obd2_s, if_neg one0, if_neg (show ¬ (-3 : Int32) = -2 by decide), if_neg m3n]
            exact ⟨_, _, _, rfl, rfl, RI_K hK (QM.rf M) hR⟩
          · exact absurd w w2
        · rcases hr with ⟨w2, -⟩ | ⟨-, rfl⟩
          · exact absurd w2 w
          · rw [e5, obd2_s, if_pos rfl, e_isPartX, obd2_s, if_neg (show ¬ (0 : Int32) = -2 by decide), if_pos rfl]
            by_cases hp : inB p 1 = true
            · have r2 := R2_fr hK.fs (FM.rf M) h2
              have r3 := R3_fr hK.fs (FM.rf M) h3
              have hu : ∀ s, s < n → q_st row s = q_st row t → s = t := by
                intro s hs es
                rcases Nat.lt_trichotomy s t with l | l | l
                · exact absurd ⟨s, t, l, ht, es, by omega⟩ w
                · exact l
                · exact absurd ⟨t, s, l, hs, es.symm, kc⟩ w
              obtain ⟨M1, e2, q1, y1⟩ := e_lay h3 row hRw.1 hok
              obtain ⟨v, M2, e6, q2, y2, bv⟩ := e_bb h2 h3 hRw.1 hok q1 y1
              have hv := bv.1
              obtain ⟨M3, e7, q3, y3⟩ := e_mean h3 hRw.1 hok q2 y2 (show v ≤ 255 by omega) 0
              obtain ⟨M4, e8, q4⟩ := ks_M h2 h3 hRw.1 hok ht kc hu p (ms M (q_st row t)) FU 0 (-(q_mn M (q_lk M) (q_st row) n v)) M3 (Nat.zero_add _) (by have := ms_le h3 kc; rw [FU_eq]; omega) q3 y3
              obtain ⟨S2, e9, q9, c9⟩ := gk_X (n := n) (k := q_st row) r2 r3 kc k0 (ms M (q_st row t)) FU 0 0 S' (Nat.zero_add _) (by have := ms_le h3 kc; rw [FU_eq]; omega) (QX.rf S') hRw
              have eg : f_X2_gainByKnowing S' x = some (0 + q_S (q_kn M (q_st row) n (q_st row t)) (ms M (q_st row t)) 0 - q_mn M (q_lk M) (q_st row) n (q_bb M (q_mn M (q_lk M) (q_st row) n)), S2) := by
                unfold f_X2_gainByKnowing f_X2_gainByKnowing_21 f_X1_sorts
                rw [← xt]
                rcases e_usN r3 (show q_st row t < 16 by omega) with ⟨q, -⟩ | ⟨hc, -, e10, -⟩
                · exact absurd ⟨kc, k0⟩ q
                · rw [e10, obd2_s, oel_S, obd2_s]
                  have hS : S'.1 (21 + q_st row t) 1 = nI (ms M (q_st row t)) := (r3.2 _ kc).2.1.trans (ms_e r3 kc)
                  show l_X2_gainByKnowing_28 FU S' (nI (q_st row t)) (S'.1 (21 + q_st row t) 1) 0 0 = _
                  rw [hS]
                  exact e9
              have eq : 0 + q_S (q_kn M (q_st row) n (q_st row t)) (ms M (q_st row t)) 0 - q_mn M (q_lk M) (q_st row) n (q_bb M (q_mn M (q_lk M) (q_st row) n)) = -(q_mn M (q_lk M) (q_st row) n v) + q_S (q_kn M (q_st row) n (q_st row t)) (ms M (q_st row t)) 0 := by
                rw [bv.un (q_bb_e M _), Int64.zero_add, Int64.sub_eq_add_neg, Int64.add_comm]
              rw [← eq] at e8
              obtain ⟨w, l1, l2⟩ := low_A h3 hRw.1 hok S2 M4 (0 + q_S (q_kn M (q_st row) n (q_st row t)) (ms M (q_st row t)) 0 - q_mn M (q_lk M) (q_st row) n (q_bb M (q_mn M (q_lk M) (q_st row) n))) p
              have e8 : l_X11_know_126 FU M3 (nI (q_st row t)) p (nI t) (-(q_mn M (q_lk M) (q_st row) n v)) 0 = _ := e8
              unfold f_X2_scale
              rw [if_pos hp, if_neg one0, if_neg one0, eg, obd2_s, obd2_s, c9, l1, obd2_s, e2, obd_S, e6, obd2_s, e7, obd2_s, bnd_e, ← xt, e8, l2, obd2_s]
              exact ⟨_, _, _, rfl, rfl, RI_K (hK.tr q9) q4 hR⟩
            · rw [if_neg hp, if_pos rfl, if_pos rfl]
              exact ⟨_, _, _, rfl, rfl, RI_K hK (QM.rf M) hR⟩
  · obtain ⟨S', e, hK⟩ := e_tell0 (S := S) row y hb
    rw [e, obd2_s, if_neg m3n, e_refuses0 row y hb, obd2_s, e_in1 M y 6 6 rfl, obd2_s, if_neg hb, if_pos rfl]
    exact ⟨_, _, _, rfl, rfl, RI_K hK (QM.rf M) hR⟩
