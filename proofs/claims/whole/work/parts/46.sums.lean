-- ===== 46: the reference goes by numbers: digits, weights, ends; sums over all of them are the tree's values
theorem S_congr {f g : Nat → Int64} : ∀ r s, (∀ t, s ≤ t → t < s + r → f t = g t) → q_S f r s = q_S g r s := by
  intro r
  induction r with
  | zero => intro s _; rfl
  | succ r ih =>
    intro s h
    rw [q_S, q_S, h s (Nat.le_refl _) (by omega), ih (s + 1) (fun t a b => h t (by omega) (by omega))]
theorem S_mul {a : Int64} {f : Nat → Int64} : ∀ r s, q_S (fun t => a * f t) r s = a * q_S f r s := by
  intro r
  induction r with
  | zero => intro s; rw [q_S, q_S, Int64.mul_zero]
  | succ r ih => intro s; rw [q_S, q_S, ih, Int64.mul_add]
theorem S_app {f : Nat → Int64} : ∀ r q s, q_S f (r + q) s = q_S f r s + q_S f q (s + r) := by
  intro r
  induction r with
  | zero => intro q s; rw [Nat.zero_add, q_S, Int64.zero_add]; rfl
  | succ r ih =>
    intro q s
    rw [show r + 1 + q = (r + q) + 1 by omega, q_S, ih, q_S, Int64.add_assoc, show s + 1 + r = s + (r + 1) by omega]
theorem S_end {f : Nat → Int64} (r s : Nat) : q_S f (r + 1) s = q_S f r s + f (s + r) := by
  rw [S_app, q_S, q_S, Int64.add_zero]
theorem S_add {f g : Nat → Int64} : ∀ r s, q_S (fun t => f t + g t) r s = q_S f r s + q_S g r s := by
  intro r
  induction r with
  | zero => intro s; rw [q_S, q_S, q_S, Int64.add_zero]
  | succ r ih =>
    intro s
    rw [q_S, q_S, q_S, ih, Int64.add_assoc, Int64.add_assoc, ← Int64.add_assoc (g s), Int64.add_comm (g s), Int64.add_assoc]
theorem S_shift {f : Nat → Int64} (c : Nat) : ∀ r s, q_S f r (c + s) = q_S (fun t => f (c + t)) r s := by
  intro r
  induction r with
  | zero => intro s; rfl
  | succ r ih => intro s; rw [q_S, q_S, ← ih, Nat.add_assoc]
theorem S_lik {g : Nat → Nat} {e : Int64} : ∀ r, q_S (fun s => lN (g s) * e) r 0 = lN (fb_sm' g r) * e := by
  intro r
  induction r with
  | zero => rw [q_S, fb_sm', lN0, Int64.zero_mul]
  | succ r ih => rw [S_end, ih, fb_sm', ← lN_add, Int64.add_mul, Nat.zero_add]
/-- a sum over all numbers below a * C, by the last digit and the rest -/
theorem S_dig {a : Nat} (ha : 0 < a) (F : Nat → Nat → Int64) : ∀ C, q_S (fun v => F (v % a) (v / a)) (a * C) 0 = q_S (fun s => q_S (fun u => F s u) C 0) a 0 := by
  intro C
  induction C with
  | zero =>
    rw [Nat.mul_zero, q_S]
    have : ∀ r s, q_S (fun s => q_S (fun u => F s u) 0 0) r s = 0 := by
      intro r
      induction r with
      | zero => intro s; rfl
      | succ r ih => intro s; rw [q_S, ih, q_S, Int64.zero_add]
    rw [this]
  | succ C ih =>
    rw [Nat.mul_succ, S_app, ih, Nat.zero_add, S_congr (f := fun s => q_S (fun u => F s u) (C + 1) 0) (g := fun s => q_S (fun u => F s u) C 0 + F s C) a 0 (fun t _ _ => by rw [S_end, Nat.zero_add]), S_add]
    congr 1
    rw [show a * C = a * C + 0 from rfl, S_shift]
    refine S_congr a 0 (fun t _ h => ?_)
    show F ((a * C + t) % a) ((a * C + t) / a) = F t C
    rw [Nat.mul_add_mod, Nat.mod_eq_of_lt (show t < a by omega), Nat.mul_add_div ha, Nat.div_eq_of_lt (show t < a by omega), Nat.add_zero]
/-- what is left of the number behind stop i -/
def q_rn (M : St) (k : Nat → Nat) (i r : Nat) : Nat := if k i < 6 then r / ms M (k i) else r
def q_rs (M : St) (k : Nat → Nat) (v : Nat) : Nat → Nat
  | 0 => v
  | i + 1 => q_rn M k i (q_rs M k v i)
def q_W (M : St) (L : Nat → Nat → Nat) (k : Nat → Nat) : Nat → Nat → Nat → Nat
  | 0, _, _ => 1
  | j + 1, i, r => (if k i < 6 then L (k i) (r % ms M (k i)) else 1) * q_W M L k j (i + 1) (q_rn M k i r)
/-- how number v ends: the minute, what it brings, whether all is done -/
def q_P (M : St) (k : Nat → Nat) (f : Nat) : Nat → Nat → Nat → Int32 → Nat → Int32 → Int32 → Int32 × Int32 × Int32
  | 0, _, _, m, _, g, z => (m, g, z)
  | j + 1, i, v, m, b, g, z =>
    if k i < 6 then
      (if m + q_w M k i ≤ M.1 6 (6 * k i + 2) then
        (if q_ft M b (k i) (v % ms M (k i)) = true then q_P M k f j (i + 1) (v / ms M (k i)) (q_be M (k i) (m + q_w M k i) + M.1 8 (16 * k i + 4 * (v % ms M (k i)) + 1)) (nv (q_lt M b (k i) (v % ms M (k i)))) (g + M.1 6 (6 * k i + 3)) z
        else q_P M k f j (i + 1) (v / ms M (k i)) (q_be M (k i) (m + q_w M k i) + M.1 6 (6 * k i + 5)) b (g - M.1 6 (6 * k i + 4)) 1)
      else q_P M k f j (i + 1) (v / ms M (k i)) (m + q_w M k i) b (g - M.1 6 (6 * k i + 4)) 1)
    else q_P M k f j (i + 1) v (m + q_w M k i) f g z
def ph3 (φ : Int32 → Int32 → Int32 → Int64) (p : Int32 × Int32 × Int32) : Int64 := φ p.1 p.2.1 p.2.2
theorem sum_E {M : St} {L : Nat → Nat → Nat} {k : Nat → Nat} {f : Nat} {φ : Int32 → Int32 → Int32 → Int64} : ∀ (j i : Nat), (∀ t, i ≤ t → t < i + j → Okk M (k t)) → ∀ (m : Int32) (b : Nat) (g z : Int32),
    q_S (fun v => lN (q_W M L k j i v) * ph3 φ (q_P M k f j i v m b g z)) (q_C M k j i) 0 = q_E M L k f φ j i m b g z := by
  intro j
  induction j with
  | zero =>
    intro i _ m b g z
    rw [q_C, q_S, q_S, q_E, Int64.add_zero]
    show lN 1 * φ m g z = φ m g z
    exact Int64.one_mul _
  | succ j ih =>
    intro i hok m b g z
    have hI := ih (i + 1) (fun t a b => hok t (by omega) (by omega))
    by_cases hc : k i < 6
    · have h0 : 0 < ms M (k i) := by rcases hok i (Nat.le_refl _) (by omega) with q | q; omega; exact q.2
      rw [q_C, if_pos hc, q_E, if_pos hc]
      by_cases l : m + q_w M k i ≤ M.1 6 (6 * k i + 2)
      · rw [if_pos l]
        have e := S_dig h0 (fun s u => lN (L (k i) s * q_W M L k j (i + 1) u) * ph3 φ (if q_ft M b (k i) s = true then q_P M k f j (i + 1) u (q_be M (k i) (m + q_w M k i) + M.1 8 (16 * k i + 4 * s + 1)) (nv (q_lt M b (k i) s)) (g + M.1 6 (6 * k i + 3)) z
          else q_P M k f j (i + 1) u (q_be M (k i) (m + q_w M k i) + M.1 6 (6 * k i + 5)) b (g - M.1 6 (6 * k i + 4)) 1)) (q_C M k j (i + 1))
        refine (S_congr _ 0 (fun v _ _ => ?_)).trans (e.trans (S_congr _ 0 (fun s _ _ => ?_)))
        · show lN (q_W M L k (j + 1) i v) * ph3 φ (q_P M k f (j + 1) i v m b g z) = _
          rw [q_W, if_pos hc, q_rn, if_pos hc, q_P, if_pos hc, if_pos l]
        · show q_S (fun u => lN (L (k i) s * q_W M L k j (i + 1) u) * ph3 φ (if q_ft M b (k i) s = true then q_P M k f j (i + 1) u (q_be M (k i) (m + q_w M k i) + M.1 8 (16 * k i + 4 * s + 1)) (nv (q_lt M b (k i) s)) (g + M.1 6 (6 * k i + 3)) z
            else q_P M k f j (i + 1) u (q_be M (k i) (m + q_w M k i) + M.1 6 (6 * k i + 5)) b (g - M.1 6 (6 * k i + 4)) 1)) (q_C M k j (i + 1)) 0 = lN (L (k i) s) * _
          by_cases q : q_ft M b (k i) s = true
          · rw [if_pos q, ← hI, ← S_mul]
            exact S_congr _ 0 (fun u _ _ => by rw [if_pos q, ← lN_mul, Int64.mul_assoc])
          · rw [if_neg q, ← hI, ← S_mul]
            exact S_congr _ 0 (fun u _ _ => by rw [if_neg q, ← lN_mul, Int64.mul_assoc])
      · rw [if_neg l]
        have e := S_dig h0 (fun s u => lN (L (k i) s * q_W M L k j (i + 1) u) * ph3 φ (q_P M k f j (i + 1) u (m + q_w M k i) b (g - M.1 6 (6 * k i + 4)) 1)) (q_C M k j (i + 1))
        refine (S_congr _ 0 (fun v _ _ => ?_)).trans (e.trans ((S_congr _ 0 (fun s _ _ => ?_)).trans (S_lik (ms M (k i)))))
        · show lN (q_W M L k (j + 1) i v) * ph3 φ (q_P M k f (j + 1) i v m b g z) = _
          rw [q_W, if_pos hc, q_rn, if_pos hc, q_P, if_pos hc, if_neg l]
        · show q_S (fun u => lN (L (k i) s * q_W M L k j (i + 1) u) * ph3 φ (q_P M k f j (i + 1) u (m + q_w M k i) b (g - M.1 6 (6 * k i + 4)) 1)) (q_C M k j (i + 1)) 0 = lN (L (k i) s) * _
          rw [← hI, ← S_mul]
          exact S_congr _ 0 (fun u _ _ => by rw [← lN_mul, Int64.mul_assoc])
    · rw [q_C, if_neg hc, Nat.one_mul, q_E, if_neg hc, ← hI]
      refine S_congr _ 0 (fun v _ _ => ?_)
      show lN (q_W M L k (j + 1) i v) * ph3 φ (q_P M k f (j + 1) i v m b g z) = _
      rw [q_W, if_neg hc, q_rn, if_neg hc, Nat.one_mul, q_P, if_neg hc]
theorem lv_P {M : St} {L : Nat → Nat → Nat} {k : Nat → Nat} {f : Nat} (hL : ∀ c s, c < 6 → s < ms M c → L c s ≠ 0) (t : Int32) : ∀ (j i : Nat), (∀ t, i ≤ t → t < i + j → Okk M (k t)) → ∀ (m : Int32) (b : Nat) (g z : Int32),
    (∃ v, v < q_C M k j i ∧ t = (q_P M k f j i v m b g z).1) ↔ q_lv M L k f j i m b t := by
  intro j
  induction j with
  | zero =>
    intro i _ m b g z
    constructor
    · rintro ⟨v, -, e⟩; exact e
    · intro e; exact ⟨0, Nat.zero_lt_one, e⟩
  | succ j ih =>
    intro i hok m b g z
    have hI := ih (i + 1) (fun t a b => hok t (by omega) (by omega))
    by_cases hc : k i < 6
    · have h0 : 0 < ms M (k i) := by rcases hok i (Nat.le_refl _) (by omega) with q | q; omega; exact q.2
      rw [q_C, if_pos hc, q_lv, if_pos hc]
      by_cases l : m + q_w M k i ≤ M.1 6 (6 * k i + 2)
      · rw [if_pos l]
        constructor
        · rintro ⟨v, hv, e⟩
          rw [q_P, if_pos hc, if_pos l] at e
          have hu : v / ms M (k i) < q_C M k j (i + 1) := Nat.div_lt_of_lt_mul hv
          refine ⟨v % ms M (k i), Nat.mod_lt _ h0, hL _ _ hc (Nat.mod_lt _ h0), ?_⟩
          by_cases q : q_ft M b (k i) (v % ms M (k i)) = true
          · rw [if_pos q] at e ⊢; exact (hI _ _ _ _).mp ⟨_, hu, e⟩
          · rw [if_neg q] at e ⊢; exact (hI _ _ _ _).mp ⟨_, hu, e⟩
        · rintro ⟨s, hs, -, e⟩
          have em : ∀ u, (s + ms M (k i) * u) % ms M (k i) = s := fun u => by rw [Nat.add_mul_mod_self_left, Nat.mod_eq_of_lt hs]
          have ed : ∀ u, (s + ms M (k i) * u) / ms M (k i) = u := fun u => by rw [Nat.add_mul_div_left _ _ h0, Nat.div_eq_of_lt hs, Nat.zero_add]
          have hv : ∀ u, u < q_C M k j (i + 1) → s + ms M (k i) * u < ms M (k i) * q_C M k j (i + 1) := fun u hu => by
            have := Nat.mul_le_mul_left (ms M (k i)) (show u + 1 ≤ q_C M k j (i + 1) by omega)
            rw [Nat.mul_succ] at this
            omega
          by_cases q : q_ft M b (k i) s = true
          · rw [if_pos q] at e
            obtain ⟨u, hu, e⟩ := (hI _ _ (g + M.1 6 (6 * k i + 3)) z).mpr e
            exact ⟨_, hv u hu, by rw [q_P, if_pos hc, if_pos l, em, ed, if_pos q]; exact e⟩
          · rw [if_neg q] at e
            obtain ⟨u, hu, e⟩ := (hI _ _ (g - M.1 6 (6 * k i + 4)) 1).mpr e
            exact ⟨_, hv u hu, by rw [q_P, if_pos hc, if_pos l, em, ed, if_neg q]; exact e⟩
      · rw [if_neg l]
        constructor
        · rintro ⟨v, hv, e⟩
          rw [q_P, if_pos hc, if_neg l] at e
          exact (hI _ _ _ _).mp ⟨_, Nat.div_lt_of_lt_mul hv, e⟩
        · intro e
          obtain ⟨u, hu, e⟩ := (hI _ _ (g - M.1 6 (6 * k i + 4)) 1).mpr e
          refine ⟨ms M (k i) * u, Nat.mul_lt_mul_of_pos_left hu h0, ?_⟩
          rw [q_P, if_pos hc, if_neg l, Nat.mul_div_cancel_left _ h0]
          exact e
    · rw [q_C, if_neg hc, Nat.one_mul, q_lv, if_neg hc, ← hI (m + q_w M k i) f g z]
      constructor
      · rintro ⟨v, hv, e⟩
        rw [q_P, if_neg hc] at e
        exact ⟨v, hv, e⟩
      · rintro ⟨v, hv, e⟩
        exact ⟨v, hv, by rw [q_P, if_neg hc]; exact e⟩
