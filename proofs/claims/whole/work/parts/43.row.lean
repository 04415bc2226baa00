-- ===== 43: a row of calls: told, refused, laid
def q_st (row : Int32) (i : Nat) : Nat := nv ((row >>> ((4 * nI i) &&& 31)) &&& 15)
theorem q_st_e (row : Int32) (i : Nat) : (row >>> ((4 * nI i) &&& 31)) &&& 15 = nI (q_st row i) ∧ q_st row i < 16 := by
  obtain ⟨j, hj, e⟩ := pk_andE (row >>> ((4 * nI i) &&& 31)) (m := 15) 4 (by decide)
  unfold q_st
  rw [e, nv_nI (by omega)]
  exact ⟨rfl, hj⟩
/-- the place of a call, or home -/
def q_pl (M : St) (c : Nat) : Nat := if c < 6 then nv (M.1 6 (6 * c)) else 0
def q_pp (M : St) (k : Nat → Nat) : Nat → Nat
  | 0 => 0
  | i + 1 => q_pl M (k i)
/-- the way to stop i from the one ahead of it -/
def q_w (M : St) (k : Nat → Nat) (i : Nat) : Int32 := M.1 5 (6 * q_pp M k i + q_pl M (k i))
/-- a stop that may stand in a row -/
def Okk (M : St) (c : Nat) : Prop := c = 6 ∨ (c < 6 ∧ 0 < ms M c)
def Tw (k : Nat → Nat) (n : Nat) : Prop := ∃ i j, i < j ∧ j < n ∧ k i = k j ∧ k i < 6
def Rw (S M : St) (n : Nat) (k : Nat → Nat) : Prop := n ≤ 6 ∧ S.1 4 4 = nI n ∧ ∀ i, i < n → Okk M (k i) ∧ S.1 16 i = nI (k i) ∧ S.1 17 i = q_w M k i ∧ S.2.2 i = if h : k i < 6 then some ⟨k i, h⟩ else none
theorem pl_le {S M : St} (h : R3 S M) (c : Nat) (hc : Okk M c) : q_pl M c ≤ 5 := by
  unfold q_pl
  rcases hc with rfl | ⟨hc, h0⟩
  · rw [if_neg (by omega)]; omega
  · rw [if_pos hc]
    obtain ⟨-, -, -, -, c5, -⟩ := h.2 c hc
    exact (c5 (tc_ms h hc h0)).2.1.2
theorem pl_e {S M : St} (h : R3 S M) {c : Nat} (hc : c < 6) (h0 : 0 < ms M c) : M.1 6 (6 * c) = nI (q_pl M c) := by
  unfold q_pl
  rw [if_pos hc]
  obtain ⟨-, -, -, -, c5, -⟩ := h.2 c hc
  exact (c5 (tc_ms h hc h0)).2.1.1
theorem ca_X {S M : St} (h : R3 S M) {c j : Nat} (hc : c < 6) (h0 : 0 < ms M c) (hj : j < 6) : S.1 (21 + c) (4 + j) = M.1 6 (6 * c + j) := by
  obtain ⟨-, -, -, -, c5, -⟩ := h.2 c hc
  exact (c5 (tc_ms h hc h0)).1 j hj
theorem e_way {S M : St} (h : R2 S M) {a b : Nat} (ha : a ≤ 5) (hb : b ≤ 5) : f_X4_wayBetween S (nI a) (nI b) = some (M.1 5 (6 * a + b), S) := by
  obtain ⟨-, -, -, -, -, hW⟩ := h
  have e1 : nI a * 6 + nI b = nI (a * 6 + b) := by rw [show (6 : Int32) = nI 6 from rfl, pk_mul, nI_add]
  unfold f_X4_wayBetween
  rw [e1, e_at S 4 (by show a * 6 + b < 36; omega), obd2_s, show a * 6 + b = 6 * a + b by omega]
  exact congrArg (fun z => some (z, S)) (hW (6 * a + b) (by omega)).1
theorem e_usN {S M : St} (h : R3 S M) {k : Nat} (hk : k < 16) : (¬ (k < 6 ∧ 0 < ms M k) ∧ f_X4_callWithSorts S (nI k) = some (none, S) ∧ f_X11_isUsable M (nI k) = some (0, M)) ∨
    ∃ hc : k < 6, 0 < ms M k ∧ f_X4_callWithSorts S (nI k) = some (some ⟨k, hc⟩, S) ∧ f_X11_isUsable M (nI k) = some (1, M) := by
  rcases e_usable h (nI k) with ⟨h1, h2⟩ | ⟨c, hx, ht, h0, h1, h2⟩
  · refine Or.inl ⟨fun q => ?_, h1, h2⟩
    unfold f_X4_callWithSorts f_X1_sorts at h1
    have hS : S.1 (21 + k) 1 = nI (ms M k) := (h.2 k q.1).2.1.trans (ms_e h q.1)
    have hm := ms_le h q.1
    rw [e_ctN h q.1, if_pos (tc_ms h q.1 q.2), obd2_s, oel_S, obd2_s] at h1
    have e : ¬ S.1 (21 + k) 1 ≤ 0 := by rw [hS]; exact nI_nle q.2 (by omega)
    rw [if_neg e] at h1
    cases (Prod.mk.inj (Option.some.inj h1)).1
  · have hc := c.isLt
    have e : k = c.val := (nI_eq (by omega) (by omega)).mp hx
    subst e
    exact Or.inr ⟨hc, h0, h1, h2⟩
theorem sh1 {c : Nat} (h : c < 16) : (1 : Int32) <<< (nI c &&& 31) = nI (2 ^ c) := by
  have : ∀ c : Fin 16, (1 : Int32) <<< (nI c.val &&& 31) = nI (2 ^ c.val) := by decide +kernel
  exact this ⟨c, h⟩
/-- the stops seen ahead of i -/
def Sn (k : Nat → Nat) (i w : Nat) : Prop := w < 2 ^ 16 ∧ ∀ c, c < 6 → (w.testBit c = true ↔ ∃ t, t < i ∧ k t = c)
theorem Sn0 (k : Nat → Nat) : Sn k 0 0 := ⟨by omega, fun c _ => ⟨fun q => (by rw [Nat.zero_testBit] at q; cases q), fun ⟨t, ht, _⟩ => absurd ht (Nat.not_lt_zero t)⟩⟩
theorem Sn1 {k : Nat → Nat} {i w : Nat} (h : Sn k i w) (hk : k i < 16) : Sn k (i + 1) (w ||| 2 ^ k i) := by
  refine ⟨Nat.or_lt_two_pow h.1 (Nat.pow_lt_pow_right (by omega) hk), fun c hc => ?_⟩
  rw [Nat.testBit_or, Nat.testBit_two_pow, Bool.or_eq_true, decide_eq_true_eq, h.2 c hc]
  constructor
  · rintro (⟨t, a, b⟩ | e)
    · exact ⟨t, by omega, b⟩
    · exact ⟨i, by omega, e⟩
  · rintro ⟨t, a, b⟩
    by_cases z : t = i
    · subst z; exact Or.inr b
    · exact Or.inl ⟨t, by omega, b⟩
theorem Sn6 {k : Nat → Nat} {i w : Nat} (h : Sn k i w) (hk : ¬ k i < 6) : Sn k (i + 1) w := by
  refine ⟨h.1, fun c hc => ?_⟩
  rw [h.2 c hc]
  constructor
  · rintro ⟨t, a, b⟩; exact ⟨t, by omega, b⟩
  · rintro ⟨t, a, b⟩
    have : t ≠ i := fun z => by subst z; omega
    exact ⟨t, by omega, b⟩
theorem tw_X {S M : St} {n : Nat} {k : Nat → Nat} (hR : Rw S M n k) : ∀ (j fu i w : Nat), i + j = n → j < fu → Sn k i w → ¬ Tw k i → (Tw k n ∧ l_X6_hasTwice_4 fu S (nI w) (nI i) = some (1, S)) ∨ (¬ Tw k n ∧ l_X6_hasTwice_4 fu S (nI w) (nI i) = some (0, S)) := by
  obtain ⟨hn, h4, hr⟩ := hR
  intro j
  induction j with
  | zero =>
    intro fu i w hk hf hw ht
    obtain ⟨fu, rfl⟩ : ∃ q, fu = q + 1 := ⟨fu - 1, by omega⟩
    have hi : i = n := by omega
    subst hi
    right
    refine ⟨ht, ?_⟩
    show f_X6_hasTwice_4 (l_X6_hasTwice_4 fu) S (nI w) (nI i) = _
    unfold f_X6_hasTwice_4
    rw [if_pos (by rw [h4]; exact Int32.le_refl _)]
  | succ j ih =>
    intro fu i w hk hf hw ht
    obtain ⟨fu, rfl⟩ : ∃ q, fu = q + 1 := ⟨fu - 1, by omega⟩
    obtain ⟨ok, e16, -⟩ := hr i (by omega)
    show (_ ∧ f_X6_hasTwice_4 (l_X6_hasTwice_4 fu) S (nI w) (nI i) = _) ∨ (_ ∧ f_X6_hasTwice_4 (l_X6_hasTwice_4 fu) S (nI w) (nI i) = _)
    unfold f_X6_hasTwice_4 f_X6_hasTwice_38
    have kl : k i < 16 := by unfold Okk at ok; omega
    have st : Tw k (i + 1) → (¬ k i < 6 ∨ w.testBit (k i) = false) → False := by
      rintro ⟨p, q, h1, h2, h3, h5⟩ hh
      by_cases z : q = i
      · subst z
        rcases hh with hh | hh
        · omega
        · have := (hw.2 (k q) (by omega)).mpr ⟨p, h1, h3⟩
          rw [hh] at this; cases this
      · exact absurd ⟨p, q, h1, by omega, h3, h5⟩ ht
    rw [if_neg (show ¬ S.1 4 4 ≤ nI i by rw [h4]; exact nI_ge (by omega) (by omega)), e_at S 5 (by show i < 6; omega), obd2_s, show S.1 (11 + (5 : Fin 10).val) i = nI (k i) from e16, bnd_e, bnd_e, nI_1, sh1 kl, nI_or]
    rcases ok with e6 | ⟨c6, h0⟩
    · rw [if_pos (show nI (k i) = 6 by rw [e6]; rfl)]
      exact ih fu (i + 1) _ (by omega) (by omega) (Sn1 hw kl) (fun q => st q (Or.inl (by omega)))
    · rw [if_neg (show ¬ nI (k i) = 6 from fun q => by have := (nI_eq (a := k i) (b := 6) (by omega) (by omega)).mp q; omega)]
      have hwl := hw.1
      by_cases b : w.testBit (k i) = true
      · left
        rw [if_pos ((bit_e (by omega) (by omega)).mpr b)]
        obtain ⟨t, ht1, ht2⟩ := (hw.2 (k i) c6).mp b
        exact ⟨⟨t, i, ht1, by omega, ht2, by omega⟩, rfl⟩
      · rw [if_neg (fun q => b ((bit_e (by omega) (by omega)).mp q))]
        exact ih fu (i + 1) _ (by omega) (by omega) (Sn1 hw kl) (fun q => st q (Or.inr (Bool.eq_false_iff.mpr b)))
theorem e_twice {S M : St} {n : Nat} {k : Nat → Nat} (hR : Rw S M n k) : (Tw k n ∧ f_X6_hasTwice S = some (1, S)) ∨ (¬ Tw k n ∧ f_X6_hasTwice S = some (0, S)) :=
  tw_X hR n FU 0 0 (Nat.zero_add _) (by have := hR.1; rw [FU_eq]; omega) (Sn0 k) (fun ⟨_, _, _, h, _⟩ => by omega)
theorem tl_X {S0 M : St} (h2 : R2 S0 M) (h3 : R3 S0 M) (row : Int32) (n : Nat) (hn : n ≤ 6) : ∀ (j fu i : Nat) (S : St), i + j = n → j < fu → QX S0 S → S.1 4 5 = -1 → (∀ t, t < i → Okk M (q_st row t) ∧ S.1 16 t = nI (q_st row t) ∧ S.1 17 t = q_w M (q_st row) t ∧ S.2.2 t = if h : q_st row t < 6 then some ⟨q_st row t, h⟩ else none) →
    ((∃ t, t < n ∧ ¬ Okk M (q_st row t)) ∧ ∃ S', l_X6_tell_31 fu S row (nI n) (nI (q_pp M (q_st row) i)) (nI i) = some (-2, S') ∧ QX S0 S') ∨
    (∃ S', l_X6_tell_31 fu S row (nI n) (nI (q_pp M (q_st row) i)) (nI i) = some (0, S') ∧ QX S0 S' ∧ Rw S' M n (q_st row) ∧ S'.1 4 5 = -1) := by
  intro j
  induction j with
  | zero =>
    intro fu i S hk hf hK h5 hr
    obtain ⟨fu, rfl⟩ : ∃ q, fu = q + 1 := ⟨fu - 1, by omega⟩
    have hi : i = n := by omega
    subst hi
    right
    show ∃ S', f_X6_tell_31 (l_X6_tell_31 fu) S row (nI i) _ (nI i) = _ ∧ _
    unfold f_X6_tell_31
    rw [if_pos (Int32.le_refl _), bnd_e]
    refine ⟨_, rfl, hK.tr (QX_I 4 4 _ (by omega)), ⟨hn, si_eq, fun t ht => ?_⟩, (si_nj (by omega)).trans h5⟩
    rw [si_ne (by omega), si_ne (by omega)]
    exact hr t ht
  | succ j ih =>
    intro fu i S hk hf hK h5 hr
    obtain ⟨fu, rfl⟩ : ∃ q, fu = q + 1 := ⟨fu - 1, by omega⟩
    have r2 := R2_fr hK.fs (FM.rf M) h2
    have r3 := R3_fr hK.fs (FM.rf M) h3
    obtain ⟨se, sl⟩ := q_st_e row i
    have hpp : q_pp M (q_st row) i ≤ 5 := by
      cases i with
      | zero => exact Nat.zero_le _
      | succ i => exact pl_le h3 _ (hr i (by omega)).1
    show (_ ∧ ∃ S', f_X6_tell_31 (l_X6_tell_31 fu) S row (nI n) _ (nI i) = _ ∧ _) ∨ (∃ S', f_X6_tell_31 (l_X6_tell_31 fu) S row (nI n) _ (nI i) = _ ∧ _)
    unfold f_X6_tell_31 f_X6_tell_74 f_X6_tell_88
    rw [if_neg (nI_ge (by omega) (by omega)), bnd_e, se]
    -- one stop that may stand there
    have stp : ∀ (o : Option (Fin 6)) (p : Nat), Okk M (q_st row i) → p = q_pl M (q_st row i) → (o = if h : q_st row i < 6 then some ⟨q_st row i, h⟩ else none) →
        ∃ S2, (chk (ixo (nI i) 6) <| bnd (setR S (nI i).toNatClampNeg o) fun S2 => obd (f_X10_put S2 5 (nI i) (nI (q_st row i))) fun S3 => obd2 (f_X4_wayBetween S3 (nI (q_pp M (q_st row) i)) (nI p)) fun r4 S4 => obd (f_X10_put S4 6 (nI i) r4) fun S5 => bnd (nI i + 1 : Int32) fun v6 => l_X6_tell_31 fu S5 row (nI n) (nI p) v6) = l_X6_tell_31 fu S2 row (nI n) (nI (q_pp M (q_st row) (i + 1))) (nI (i + 1)) ∧ QX S0 S2 ∧ S2.1 4 5 = -1 ∧
          (∀ t, t < i + 1 → Okk M (q_st row t) ∧ S2.1 16 t = nI (q_st row t) ∧ S2.1 17 t = q_w M (q_st row) t ∧ S2.2.2 t = if h : q_st row t < 6 then some ⟨q_st row t, h⟩ else none) := by
      intro o p ok hp ho
      have hp5 : p ≤ 5 := by rw [hp]; exact pl_le h3 _ ok
      have e5 : ∀ T v, f_X10_put T 5 (nI i) v = some (setI T 16 i v) := fun T v => e_put T 5 v (by show i < 6; omega)
      have e6 : ∀ T v, f_X10_put T 6 (nI i) v = some (setI T 17 i v) := fun T v => e_put T 6 v (by show i < 6; omega)
      have k1 : QX S0 (setI (setR S i o) 16 i (nI (q_st row i))) := hK.tr ((QX_R i o).tr (QX_I 16 i _ (by omega)))
      refine ⟨setI (setI (setR S i o) 16 i (nI (q_st row i))) 17 i (M.1 5 (6 * q_pp M (q_st row) i + p)), ?_, k1.tr (QX_I 17 i _ (by omega)), ?_, ?_⟩
      · rw [chk_T (ixo_nI (show i < 6 by omega) (by omega)), bnd_e, nI_clamp (by omega), e5, obd_S, e_way (R2_fr k1.fs (FM.rf M) h2) hpp hp5, obd2_s, e6, obd_S, bnd_e, nI_1, hp]; rfl
      · rw [si_ne (by omega), si_ne (by omega)]; exact h5
      · intro t ht
        by_cases z : t = i
        · subst z
          refine ⟨ok, ?_, ?_, ?_⟩
          · rw [si_ne (by omega), si_eq]
          · rw [si_eq, hp]; rfl
          · show va_up S.2.2 t o t = _
            rw [← ho]; exact if_pos rfl
        · obtain ⟨a1, a2, a3, a4⟩ := hr t (by omega)
          refine ⟨a1, ?_, ?_, ?_⟩
          · rw [si_ne (by omega), si_nj z]; exact a2
          · rw [si_nj z, si_ne (by omega)]; exact a3
          · show va_up S.2.2 i o t = _
            rw [← a4]; exact if_neg z
    rcases e_usN r3 sl with ⟨hno, h1, -⟩ | ⟨hc, h0, h1, -⟩
    · rw [h1, obd2_s, oel_N]
      by_cases e6 : q_st row i = 6
      · rw [if_pos (show nI (q_st row i) = 6 by rw [e6]; rfl), oel_N]
        obtain ⟨S2, e, a, b, c⟩ := stp none 0 (Or.inl e6) (by unfold q_pl; rw [if_neg (by omega)]) (by rw [dif_neg (by omega)])
        rw [z0n] at e
        rw [e]
        exact ih fu (i + 1) S2 (by omega) (by omega) a b c
      · rw [if_neg (show ¬ nI (q_st row i) = 6 from fun q => e6 ((nI_eq (a := q_st row i) (b := 6) (by omega) (by omega)).mp q))]
        left
        refine ⟨⟨i, by omega, fun q => ?_⟩, S, rfl, hK⟩
        rcases q with q | q
        · exact e6 q
        · exact hno q
    · rw [h1, obd2_s, oel_S, oel_S]
      have e4 : S.1 (21 + q_st row i) 4 = nI (q_pl M (q_st row i)) := (ca_X r3 hc h0 (j := 0) (by omega)).trans (pl_e r3 hc h0)
      obtain ⟨S2, e, a, b, c⟩ := stp (some ⟨q_st row i, hc⟩) (q_pl M (q_st row i)) (Or.inr ⟨hc, h0⟩) rfl (by rw [dif_pos hc])
      show (_ ∧ ∃ S', (chk _ (bnd _ fun S2 => obd _ fun S3 => obd2 (f_X4_wayBetween S3 _ (S.1 (21 + q_st row i) 4)) fun r4 S4 => obd _ fun S5 => bnd _ fun v6 => l_X6_tell_31 fu S5 row (nI n) (S.1 (21 + q_st row i) 4) v6)) = _ ∧ _) ∨ (∃ S', (chk _ (bnd _ fun S2 => obd _ fun S3 => obd2 (f_X4_wayBetween S3 _ (S.1 (21 + q_st row i) 4)) fun r4 S4 => obd _ fun S5 => bnd _ fun v6 => l_X6_tell_31 fu S5 row (nI n) (S.1 (21 + q_st row i) 4) v6)) = _ ∧ _)
      rw [e4, e]
      exact ih fu (i + 1) S2 (by omega) (by omega) a b c
theorem e_tell {S M : St} (h2 : R2 S M) (h3 : R3 S M) (row : Int32) {n : Nat} (h1 : 1 ≤ n) (hn : n ≤ 6) :
    ((∃ t, t < n ∧ ¬ Okk M (q_st row t)) ∧ ∃ S', f_X6_tell S row (nI n) = some (-2, S') ∧ QX S S') ∨
    (∃ S', f_X6_tell S row (nI n) = some (0, S') ∧ QX S S' ∧ Rw S' M n (q_st row) ∧ S'.1 4 5 = -1) := by
  unfold f_X6_tell f_X6_forget f_X6_assume
  rw [bnd_e, bnd_e, bnd_e, obd_S, obd_S, if_neg (show ¬ nI n < 1 from nI_nlt (a := n) (b := 1) (by omega) (by omega)), if_pos (show nI n ≤ 6 from nI_le (a := n) (b := 6) (by omega) (by omega))]
  exact tl_X h2 h3 row n hn n FU 0 _ (Nat.zero_add _) (by rw [FU_eq]; omega) ((QX_I 4 4 0 (by omega)).tr ((QX_I 4 5 (-1) (by omega)).tr (QX_I 4 6 (-1) (by omega)))) ((si_nj (by omega)).trans si_eq) (fun t ht => absurd ht (Nat.not_lt_zero t))
theorem e_tell0 {S : St} (row x : Int32) (h : ¬ inB1 x 6 = true) : ∃ S', f_X6_tell S row x = some (-3, S') ∧ QX S S' := by
  unfold f_X6_tell f_X6_forget f_X6_assume
  rw [bnd_e, bnd_e, bnd_e, obd_S, obd_S]
  have k : QX S (setI (setI (setI S 4 4 0) 4 5 (-1)) 4 6 (-1)) := (QX_I 4 4 0 (by omega)).tr ((QX_I 4 5 (-1) (by omega)).tr (QX_I 4 6 (-1) (by omega)))
  simp only [inB1, Bool.and_eq_true, decide_eq_true_eq] at h
  have z1 : (1 : Int32).toInt = 1 := rfl
  have z6 : (6 : Int32).toInt = 6 := rfl
  by_cases a : x < 1
  · rw [if_pos a]; exact ⟨_, rfl, k⟩
  · rw [if_neg a, if_neg (by rw [Int32.le_iff_toInt_le, z6]; rw [Int32.lt_iff_toInt_lt, z1] at a; omega)]; exact ⟨_, rfl, k⟩
theorem rf_M {S M : St} (h3 : R3 S M) (row : Int32) (n : Nat) (hn : n ≤ 6) : ∀ (j fu i w : Nat) (tw : Int32), i + j = n → j < fu → (∀ t, t < i → Okk M (q_st row t)) → Sn (q_st row) i w → ((Tw (q_st row) i ∧ tw = 1) ∨ (¬ Tw (q_st row) i ∧ tw = 0)) →
    ((∃ t, t < n ∧ ¬ Okk M (q_st row t)) ∧ l_X11_refuses_23 fu M row (nI n) (nI w) tw (nI i) = some (-2, M)) ∨
    ((∀ t, t < n → Okk M (q_st row t)) ∧ ((Tw (q_st row) n ∧ l_X11_refuses_23 fu M row (nI n) (nI w) tw (nI i) = some (-3, M)) ∨ (¬ Tw (q_st row) n ∧ l_X11_refuses_23 fu M row (nI n) (nI w) tw (nI i) = some (0, M)))) := by
  intro j
  induction j with
  | zero =>
    intro fu i w tw hk hf hok hw ht
    obtain ⟨fu, rfl⟩ : ∃ q, fu = q + 1 := ⟨fu - 1, by omega⟩
    have hi : i = n := by omega
    subst hi
    right
    refine ⟨hok, ?_⟩
    show (_ ∧ f_X11_refuses_23 (l_X11_refuses_23 fu) M row (nI i) (nI w) tw (nI i) = _) ∨ (_ ∧ f_X11_refuses_23 (l_X11_refuses_23 fu) M row (nI i) (nI w) tw (nI i) = _)
    unfold f_X11_refuses_23
    rw [if_pos (Int32.le_refl _)]
    rcases ht with ⟨a, rfl⟩ | ⟨a, rfl⟩
    · rw [if_neg one0]; exact Or.inl ⟨a, rfl⟩
    · rw [if_pos rfl]; exact Or.inr ⟨a, rfl⟩
  | succ j ih =>
    intro fu i w tw hk hf hok hw ht
    obtain ⟨fu, rfl⟩ : ∃ q, fu = q + 1 := ⟨fu - 1, by omega⟩
    obtain ⟨se, sl⟩ := q_st_e row i
    show (_ ∧ f_X11_refuses_23 (l_X11_refuses_23 fu) M row (nI n) (nI w) tw (nI i) = _) ∨ (_ ∧ ((_ ∧ f_X11_refuses_23 (l_X11_refuses_23 fu) M row (nI n) (nI w) tw (nI i) = _) ∨ (_ ∧ f_X11_refuses_23 (l_X11_refuses_23 fu) M row (nI n) (nI w) tw (nI i) = _)))
    unfold f_X11_refuses_23 f_X11_refuses_59 f_X11_refuses_80 f_X11_refuses_84 f_X11_refuses_85 f_X11_refuses_103
    rw [if_neg (nI_ge (by omega) (by omega)), bnd_e, se, sh1 sl, show (0 : Int32) = nI 0 from rfl, nI_or, nI_or, Nat.or_zero, bnd_e, bnd_e, bnd_e, bnd_e, nI_1, z0n]
    have hwl := hw.1
    have mono : ∀ m, Tw (q_st row) m → Tw (q_st row) (m + 1) := fun m ⟨p, q, a, b, c⟩ => ⟨p, q, a, by omega, c⟩
    by_cases e6 : q_st row i = 6
    · have g6 : nI (q_st row i) = 6 := by rw [e6]; rfl
      have hok' : ∀ t, t < i + 1 → Okk M (q_st row t) := fun t q => by
        by_cases z : t = i
        · rw [z]; exact Or.inl e6
        · exact hok t (by omega)
      have hw' := Sn6 hw (show ¬ q_st row i < 6 by omega)
      have ht' : (Tw (q_st row) (i + 1) ∧ tw = 1) ∨ (¬ Tw (q_st row) (i + 1) ∧ tw = 0) := by
        rcases ht with ⟨a, b⟩ | ⟨a, b⟩
        · exact Or.inl ⟨mono i a, b⟩
        · refine Or.inr ⟨fun ⟨p, q, c1, c2, c3, c4⟩ => ?_, b⟩
          by_cases z : q = i
          · subst z; omega
          · exact a ⟨p, q, c1, by omega, c3, c4⟩
      have hI := ih fu (i + 1) w tw (by omega) (by omega) hok' hw' ht'
      simp only [if_pos g6]
      rcases ht with ⟨-, rfl⟩ | ⟨-, rfl⟩
      · rw [if_neg one0]; exact hI
      · rw [if_pos rfl]; exact hI
    · have g6 : ¬ nI (q_st row i) = 6 := fun q => e6 ((nI_eq (a := q_st row i) (b := 6) (by omega) (by omega)).mp q)
      simp only [if_neg g6]
      rcases e_usN h3 sl with ⟨hno, -, h2⟩ | ⟨hc, h0, -, h2⟩
      · left
        rw [h2, obd2_s, if_pos rfl]
        refine ⟨⟨i, by omega, fun q => ?_⟩, rfl⟩
        rcases q with q | q
        · exact e6 q
        · exact hno q
      · rw [h2, obd2_s, if_neg one0]
        have hok' : ∀ t, t < i + 1 → Okk M (q_st row t) := fun t q => by
          by_cases z : t = i
          · rw [z]; exact Or.inr ⟨hc, h0⟩
          · exact hok t (by omega)
        have hw' := Sn1 hw sl
        rcases ht with ⟨a, rfl⟩ | ⟨a, rfl⟩
        · rw [if_neg one0]
          exact ih fu (i + 1) _ 1 (by omega) (by omega) hok' hw' (Or.inl ⟨mono i a, rfl⟩)
        · rw [if_pos rfl, e_hasM M (show w < 2 ^ 31 by omega) (show q_st row i < 32 by omega), obd2_s]
          by_cases b : w.testBit (q_st row i) = true
          · obtain ⟨t, ht1, ht2⟩ := (hw.2 _ hc).mp b
            rw [if_pos b, if_neg one0]
            exact ih fu (i + 1) _ 1 (by omega) (by omega) hok' hw' (Or.inl ⟨⟨t, i, ht1, by omega, ht2, by omega⟩, rfl⟩)
          · rw [if_neg b, if_pos rfl]
            refine ih fu (i + 1) _ 0 (by omega) (by omega) hok' hw' (Or.inr ⟨fun ⟨p, q, c1, c2, c3, c4⟩ => ?_, rfl⟩)
            by_cases z : q = i
            · subst z
              exact b ((hw.2 _ hc).mpr ⟨p, c1, c3⟩)
            · exact a ⟨p, q, c1, by omega, c3, c4⟩
theorem e_refuses {S M : St} (h3 : R3 S M) (row : Int32) {n : Nat} (h1 : 1 ≤ n) (hn : n ≤ 6) :
    ((∃ t, t < n ∧ ¬ Okk M (q_st row t)) ∧ f_X11_refuses M row (nI n) = some (-2, M)) ∨
    ((∀ t, t < n → Okk M (q_st row t)) ∧ ((Tw (q_st row) n ∧ f_X11_refuses M row (nI n) = some (-3, M)) ∨ (¬ Tw (q_st row) n ∧ f_X11_refuses M row (nI n) = some (0, M)))) := by
  unfold f_X11_refuses
  have hb : inB1 (nI n) 6 = true := by simp only [inB1, Bool.and_eq_true, decide_eq_true_eq, nI_toInt (show n < 2 ^ 31 by omega)]; omega
  rw [e_in1 M (nI n) 6 6 rfl, obd2_s, if_pos hb, if_neg one0]
  exact rf_M h3 row n hn n FU 0 0 0 (Nat.zero_add _) (by rw [FU_eq]; omega) (fun t ht => absurd ht (Nat.not_lt_zero t)) (Sn0 _) (Or.inr ⟨fun ⟨_, _, _, h, _⟩ => by omega, rfl⟩)
theorem e_refuses0 {M : St} (row x : Int32) (h : ¬ inB1 x 6 = true) : f_X11_refuses M row x = some (-3, M) := by
  unfold f_X11_refuses
  rw [e_in1 M x 6 6 rfl, obd2_s, if_neg h, if_pos rfl]
/-- a row is refused alike, or laid -/
theorem e_refusal {S M : St} (h2 : R2 S M) (h3 : R3 S M) (row x : Int32) : ∃ r S', QX S S' ∧ f_X11_refuses M row x = some (r, M) ∧
    (((r = -3 ∨ r = -2) ∧ ∀ z, f_X10_refusal S row x z = some (r, S')) ∨
     (r = 0 ∧ f_X10_refusal S row x 0 = some (-3, S') ∧ f_X10_refusal S row x 1 = some (0, S') ∧ ∃ n, x = nI n ∧ 1 ≤ n ∧ Rw S' M n (q_st row) ∧ ¬ Tw (q_st row) n ∧ S'.1 4 5 = -1)) := by
  have m3 : ¬ (-3 : Int32) = 0 := by decide
  have m2 : ¬ (-2 : Int32) = 0 := by decide
  unfold f_X10_refusal f_X10_refusal_33
  by_cases hb : inB1 x 6 = true
  · obtain ⟨n, h1, hn, -, rfl⟩ := inB1_nI hb
    rcases e_tell h2 h3 row h1 hn with ⟨⟨t, ht, hno⟩, S', e, hK⟩ | ⟨S', e, hK, hR, h5⟩
    · rcases e_refuses h3 row h1 hn with ⟨-, e2⟩ | ⟨hok, -⟩
      · exact ⟨-2, S', hK, e2, Or.inl ⟨Or.inr rfl, fun z => by rw [e, obd2_s, if_neg m2]⟩⟩
      · exact absurd (hok t ht) hno
    · rcases e_refuses h3 row h1 hn with ⟨⟨t, ht, hno⟩, -⟩ | ⟨-, g⟩
      · exact absurd (hR.2.2 t ht).1 hno
      · rcases e_twice hR with ⟨w, e3⟩ | ⟨w, e3⟩
        · rcases g with ⟨-, e2⟩ | ⟨w2, -⟩
          · exact ⟨-3, S', hK, e2, Or.inl ⟨Or.inl rfl, fun z => by rw [e, obd2_s, if_pos rfl, e3, obd2_s, if_neg one0]⟩⟩
          · exact absurd w w2
        · rcases g with ⟨w2, -⟩ | ⟨-, e2⟩
          · exact absurd w2 w
          · refine ⟨0, S', hK, e2, Or.inr ⟨rfl, ?_, ?_, n, rfl, h1, hR, w, h5⟩⟩
            · rw [e, obd2_s, if_pos rfl, e3, obd2_s, if_pos rfl, if_pos rfl]
            · rw [e, obd2_s, if_pos rfl, e3, obd2_s, if_pos rfl, if_neg one0]
  · obtain ⟨S', e, hK⟩ := e_tell0 (S := S) row x hb
    exact ⟨-3, S', hK, e_refuses0 row x hb, Or.inl ⟨Or.inl rfl, fun z => by rw [e, obd2_s, if_neg m3]⟩⟩
/-- how many ways all may be, and what stands below the chances -/
def q_C (M : St) (k : Nat → Nat) : Nat → Nat → Nat
  | 0, _ => 1
  | j + 1, i => (if k i < 6 then ms M (k i) else 1) * q_C M k j (i + 1)
def q_A (M : St) (L : Nat → Nat → Nat) (k : Nat → Nat) : Nat → Nat → Nat
  | 0, _ => 1
  | j + 1, i => (if k i < 6 then fb_sm' (L (k i)) (ms M (k i)) else 1) * q_A M L k j (i + 1)
def Ly (M0 M : St) (n : Nat) (k : Nat → Nat) : Prop := M.1 0 21 = nI n ∧ (∀ i, i < n → M.1 10 i = nI (k i)) ∧ M.1 0 22 = nI (q_C M0 k n 0) ∧ M.2.1 0 23 = lN (q_A M0 (q_lk M0) k n 0)
theorem ms_km {M M' : St} (h : QM M M') (c : Nat) : ms M' c = ms M c := by unfold ms; rw [h.1 7 (by omega) (by omega) (by omega)]
theorem lk_km {M M' : St} (h : QM M M') (c s : Nat) : q_lk M' c s = q_lk M c s := by unfold q_lk; rw [h.1 8 (by omega) (by omega) (by omega)]
theorem tot_km {M M' : St} (h : QM M M') (c : Nat) : q_tot M' c = q_tot M c := by
  unfold q_tot
  rw [ms_km h, show q_lk M' c = q_lk M c from funext fun s => lk_km h c s]
theorem ly_M {S M0 : St} (h3 : R3 S M0) (row : Int32) (n : Nat) (hn : n ≤ 6) (hok : ∀ t, t < n → Okk M0 (q_st row t)) : ∀ (j fu i a b : Nat) (M : St), i + j = n → j < fu → QM M0 M → M.1 0 21 = nI n → (∀ t, t < i → M.1 10 t = nI (q_st row t)) → M.1 0 22 = nI a → a * q_C M0 (q_st row) j i = q_C M0 (q_st row) n 0 → M.2.1 0 23 = lN b → b * q_A M0 (q_lk M0) (q_st row) j i = q_A M0 (q_lk M0) (q_st row) n 0 →
    ∃ M', l_X11_layRow_17 fu M row (nI n) (nI i) = some M' ∧ QM M0 M' ∧ Ly M0 M' n (q_st row) := by
  intro j
  induction j with
  | zero =>
    intro fu i a b M hk hf hK h21 h10 h22 ha h23 hb
    obtain ⟨fu, rfl⟩ : ∃ q, fu = q + 1 := ⟨fu - 1, by omega⟩
    have hi : i = n := by omega
    subst hi
    show ∃ M', f_X11_layRow_17 (l_X11_layRow_17 fu) M row (nI i) (nI i) = _ ∧ _
    unfold f_X11_layRow_17
    rw [if_pos (Int32.le_refl _)]
    rw [q_C, Nat.mul_one] at ha
    rw [q_A, Nat.mul_one] at hb
    exact ⟨M, rfl, hK, h21, h10, by rw [h22, ha], by rw [h23, hb]⟩
  | succ j ih =>
    intro fu i a b M hk hf hK h21 h10 h22 ha h23 hb
    obtain ⟨fu, rfl⟩ : ∃ q, fu = q + 1 := ⟨fu - 1, by omega⟩
    obtain ⟨se, sl⟩ := q_st_e row i
    have r3 := R3_fr (FS.rf S) hK.fm h3
    rw [q_C, ← Nat.mul_assoc] at ha
    rw [q_A, ← Nat.mul_assoc] at hb
    show ∃ M', f_X11_layRow_17 (l_X11_layRow_17 fu) M row (nI n) (nI i) = _ ∧ _
    unfold f_X11_layRow_17 f_X11_layRow_63 f_X11_layRow_90
    rw [if_neg (nI_ge (by omega) (by omega)), bnd_e, se, chk_T (ixo_nI (show i < 6 by omega) (by omega)), bnd_e, nI_clamp (show i < 2 ^ 31 by omega)]
    have k1 : QM M0 (setI M 10 i (nI (q_st row i))) := hK.tr (QM_I 10 i _ (by omega))
    have c1 : (setI M 10 i (nI (q_st row i))).1 0 22 = nI a := (congrFun (si_ne (by omega)) 22).trans h22
    have f10 : ∀ t, t < i + 1 → (setI M 10 i (nI (q_st row i))).1 10 t = nI (q_st row t) := fun t ht => by
      by_cases z : t = i
      · subst z; exact si_eq
      · rw [si_nj z]; exact h10 t (by omega)
    rcases hok i (by omega) with e6 | ⟨hc, h0⟩
    · rw [if_neg (show ¬ q_st row i < 6 by omega), Nat.mul_one] at ha hb
      rw [if_pos (show nI (q_st row i) = 6 by rw [e6]; rfl), c1, bnd_e, if_pos (show nI (q_st row i) = 6 by rw [e6]; rfl), bnd_e, bnd_e, nI_1]
      refine ih fu (i + 1) a b _ (by omega) (by omega) (k1.tr ((QM_0 22 _ (by omega)).tr (QM_L 0 23 _))) ?_ ?_ ?_ ha ?_ hb
      · rw [sl_1, si_nj (by omega), si_ne (by omega)]; exact h21
      · intro t ht; rw [sl_1, si_ne (by omega)]; exact f10 t ht
      · rw [sl_1, si_eq, show (1 : Int32) = nI 1 from rfl, pk_mul, Nat.mul_one]
      · show vp_updL (M.2.1 0) 23 (M.2.1 0 23 * 1) 23 = _
        rw [pk_uLs, h23, Int64.mul_one]
    · rw [if_pos hc] at ha hb
      have g6 : ¬ nI (q_st row i) = 6 := fun q => by have := (nI_eq (a := q_st row i) (b := 6) (by omega) (by omega)).mp q; omega
      have r3' : R3 S (setI M 10 i (nI (q_st row i))) := R3_fr (FS.rf S) k1.fm h3
      have em : (setI M 10 i (nI (q_st row i))).1 7 (q_st row i) = nI (ms M0 (q_st row i)) := by rw [ms_e r3' hc, ms_km k1]
      have k2 : QM M0 (setI (setI M 10 i (nI (q_st row i))) 0 22 (nI a * nI (ms M0 (q_st row i)))) := k1.tr (QM_0 22 _ (by omega))
      have et := e_totM (R3_fr (FS.rf S) k2.fm h3) hc
      rw [if_neg g6, c1, chk_T (ixo_nI hc (by omega)), nI_clamp (show q_st row i < 2 ^ 31 by omega), em, bnd_e, if_neg g6, et, obd2_s, bnd_e, bnd_e, nI_1, tot_km k2]
      have tl := tot_le h3 hc
      refine ih fu (i + 1) (a * ms M0 (q_st row i)) (b * q_tot M0 (q_st row i)) _ (by omega) (by omega) (k2.tr (QM_L 0 23 _)) ?_ ?_ ?_ ha ?_ hb
      · rw [sl_1, si_nj (by omega), si_ne (by omega)]; exact h21
      · intro t ht; rw [sl_1, si_ne (by omega)]; exact f10 t ht
      · rw [sl_1, si_eq, pk_mul]
      · show vp_updL (M.2.1 0) 23 (M.2.1 0 23 * (nI (q_tot M0 (q_st row i))).toInt64) 23 = _
        rw [pk_uLs, h23, nI_l (by omega), lN_mul]
theorem e_lay {S M : St} (h3 : R3 S M) (row : Int32) {n : Nat} (hn : n ≤ 6) (hok : ∀ t, t < n → Okk M (q_st row t)) : ∃ M', f_X11_layRow M row (nI n) = some M' ∧ QM M M' ∧ Ly M M' n (q_st row) := by
  unfold f_X11_layRow
  rw [bnd_e, bnd_e, bnd_e]
  refine ly_M h3 row n hn hok n FU 0 1 1 _ (Nat.zero_add _) (by rw [FU_eq]; omega) ((QM_0 21 _ (by omega)).tr ((QM_0 22 _ (by omega)).tr (QM_L 0 23 _))) (by rw [sl_1, si_nj (by omega), si_eq]) (fun t ht => absurd ht (Nat.not_lt_zero t)) (by rw [sl_1, si_eq]; rfl) (Nat.one_mul _) ?_ (Nat.one_mul _)
  exact sl_eq
