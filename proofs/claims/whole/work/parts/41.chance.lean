-- ===== 41: lowest terms; chance
theorem rem_tiL (x y : Int64) : (x - x / y * y).toInt = x.toInt.tmod y.toInt := by
  rw [Int64.toInt_sub, Int64.toInt_mul, Int64.toInt_div, Int.sub_bmod_bmod, ← Int.sub_bmod_bmod, Int.bmod_mul_bmod, Int.sub_bmod_bmod, Int.mul_comm, ← Int.tmod_def, ← Int64.toInt_mod]
  exact Int.bmod_eq_of_le (Int64.le_toInt _) (Int64.toInt_lt _)
theorem rem_abs (x y : Int64) : (x - x / y * y).toInt.natAbs = x.toInt.natAbs % y.toInt.natAbs := by
  rw [rem_tiL, Int.natAbs_tmod]
theorem l_ne {x : Int64} : x ≠ 0 ↔ x.toInt.natAbs ≠ 0 := by
  constructor
  · intro h z
    exact h (Int64.toInt_inj.mp (by rw [Int64.toInt_zero]; omega))
  · intro h z
    rw [z, Int64.toInt_zero] at h
    exact h rfl
theorem low_e0 (S M : St) (x0 x2 : Int64) (x4 : Int32) {a : Int64} {i : Nat} (fu fv : Nat) (hi : i < 100) : l_X10_lowest_15 (fu + 1) S x0 x2 x4 a 0 (nI i) = f_X10_lowest_50 S x0 x2 x4 a ∧ l_X11_divisor_17 (fv + 1) M a 0 = some (a, M) := by
  constructor
  · show f_X10_lowest_15 (l_X10_lowest_15 fu) S x0 x2 x4 a 0 (nI i) = _
    unfold f_X10_lowest_15
    rw [if_neg (show ¬ (100 : Int32) ≤ nI i from nI_ge (a := i) (b := 100) hi (by omega)), if_pos ((lg_cmp_eq 0 0).mpr rfl)]
  · show f_X11_divisor_17 (l_X11_divisor_17 fv) M a 0 = _
    unfold f_X11_divisor_17
    rw [if_pos ((lg_cmp_eq 0 0).mpr rfl)]
theorem low_e1 (S M : St) (x0 x2 : Int64) (x4 : Int32) {a b : Int64} {i : Nat} (fu fv : Nat) (hi : i < 100) (hb : b ≠ 0) : l_X10_lowest_15 (fu + 1) S x0 x2 x4 a b (nI i) = l_X10_lowest_15 fu S x0 x2 x4 b (a - a / b * b) (nI (i + 1)) ∧ l_X11_divisor_17 (fv + 1) M a b = l_X11_divisor_17 fv M b (a - a / b * b) := by
  have h : ¬ lg_cmp b 0 = 0 := fun q => hb ((lg_cmp_eq b 0).mp q)
  constructor
  · show f_X10_lowest_15 (l_X10_lowest_15 fu) S x0 x2 x4 a b (nI i) = _
    unfold f_X10_lowest_15
    rw [if_neg (show ¬ (100 : Int32) ≤ nI i from nI_ge (a := i) (b := 100) hi (by omega)), if_neg h, chk_T hb, bnd_e, bnd_e, nI_1]
  · show f_X11_divisor_17 (l_X11_divisor_17 fv) M a b = _
    unfold f_X11_divisor_17
    rw [if_neg h, chk_T hb, bnd_e]
theorem mod_half {x y : Nat} (h0 : 0 < y) (h : y < x) : 2 * (x % y) < x := by
  have h1 := Nat.mod_lt x h0
  have h2 := Nat.mod_add_div x y
  have h3 : 1 ≤ x / y := (Nat.one_le_div_iff h0).mpr (by omega)
  have h4 : y ≤ y * (x / y) := Nat.le_mul_of_pos_right y h3
  omega
theorem low_l (S M : St) (x0 x2 : Int64) (x4 : Int32) : ∀ (k : Nat) (a b : Int64) (i fu fv : Nat), b.toInt.natAbs < 2 ^ k → i + 2 * k + 2 ≤ 100 → 2 * k + 2 ≤ fu → 2 * k + 2 ≤ fv → (a ≠ 0 ∨ b ≠ 0) →
    ∃ g : Int64, g ≠ 0 ∧ l_X10_lowest_15 fu S x0 x2 x4 a b (nI i) = f_X10_lowest_50 S x0 x2 x4 g ∧ l_X11_divisor_17 fv M a b = some (g, M) := by
  intro k
  induction k with
  | zero =>
    intro a b i fu fv hb hi hf hg hab
    obtain ⟨fu, rfl⟩ : ∃ q, fu = q + 1 := ⟨fu - 1, by omega⟩
    obtain ⟨fv, rfl⟩ : ∃ q, fv = q + 1 := ⟨fv - 1, by omega⟩
    have z : b = 0 := Classical.byContradiction fun q => by have := l_ne.mp q; omega
    subst z
    exact ⟨a, hab.elim id (fun q => absurd rfl q), low_e0 S M x0 x2 x4 fu fv (by omega)⟩
  | succ k ih =>
    intro a b i fu fv hb hi hf hg hab
    obtain ⟨fu, rfl⟩ : ∃ q, fu = q + 1 + 1 := ⟨fu - 2, by omega⟩
    obtain ⟨fv, rfl⟩ : ∃ q, fv = q + 1 + 1 := ⟨fv - 2, by omega⟩
    by_cases z : b = 0
    · subst z
      exact ⟨a, hab.elim id (fun q => absurd rfl q), low_e0 S M x0 x2 x4 _ _ (by omega)⟩
    · obtain ⟨e1, e2⟩ := low_e1 S M x0 x2 x4 (a := a) (i := i) (fu + 1) (fv + 1) (by omega) z
      rw [e1, e2]
      have r1 := rem_abs a b
      have hz := l_ne.mp z
      by_cases z2 : a - a / b * b = 0
      · rw [z2]
        exact ⟨b, z, low_e0 S M x0 x2 x4 _ _ (by omega)⟩
      · generalize a - a / b * b = r at *
        obtain ⟨e3, e4⟩ := low_e1 S M x0 x2 x4 (a := b) (i := i + 1) fu fv (by omega) z2
        rw [e3, e4]
        have r2 := rem_abs b r
        have hz2 := l_ne.mp z2
        have h3 := Nat.mod_lt a.toInt.natAbs (Nat.pos_of_ne_zero hz)
        have h4 := mod_half (Nat.pos_of_ne_zero hz2) (show r.toInt.natAbs < b.toInt.natAbs by omega)
        rw [Nat.pow_succ] at hb
        exact ih r (b - b / r * r) (i + 1 + 1) fu fv (by rw [r2]; omega) (by omega) (by omega) (by omega) (Or.inl z2)
/-- both bring a fraction to its lowest terms -/
theorem low_e (S M : St) (x0 x2 : Int64) (x4 : Int32) (h0 : 0 < x2.toInt) (h : x2.toInt < 2 ^ 48) : ∃ r, f_X10_lowest S x0 x2 x4 = some (r, S) ∧ f_X11_lowest M x0 x2 x4 = some (r, M) := by
  have hp : (0 : Int64) < x2 := by rw [Int64.lt_iff_toInt_lt, Int64.toInt_zero]; exact h0
  have hn : x2 ≠ 0 := l_ne.mpr (by omega)
  have key : ∀ a : Int64, ∃ r, l_X10_lowest_15 FU S x0 x2 x4 a x2 0 = some (r, S) ∧ obd2 (l_X11_divisor_17 FU M a x2) (fun r1 S1 => if x4 = 0 then chk (¬ r1 = 0) (some ((x0 / r1), S1)) else chk (¬ r1 = 0) (some ((x2 / r1), S1))) = some (r, M) := by
    intro a
    obtain ⟨g, g0, e1, e2⟩ := low_l S M x0 x2 x4 48 a x2 0 FU FU (by omega) (by omega) (by rw [FU_eq]; omega) (by rw [FU_eq]; omega) (Or.inr hn)
    have e1 : l_X10_lowest_15 FU S x0 x2 x4 a x2 0 = f_X10_lowest_50 S x0 x2 x4 g := e1
    rw [e1, e2, obd2_s]
    unfold f_X10_lowest_50
    rw [if_neg (fun q => g0 ((lg_cmp_eq g 0).mp q))]
    by_cases q : x4 = 0
    · rw [if_pos q, if_pos q, chk_T g0]; exact ⟨_, rfl, by rw [chk_T g0]⟩
    · rw [if_neg q, if_neg q, chk_T g0]; exact ⟨_, rfl, by rw [chk_T g0]⟩
  unfold f_X10_lowest f_X11_lowest f_X11_divisor f_X11_divisor_12
  rw [bnd_e, bnd_e, if_pos hp]
  by_cases p : 0 < x0
  · rw [if_pos p, if_pos ((lg_cmp_ge x0 0).mpr (by rw [Int64.le_iff_toInt_le]; rw [Int64.lt_iff_toInt_lt] at p; omega))]
    exact key x0
  · rw [if_neg p]
    by_cases z : x0 = 0
    · rw [if_pos ((lg_cmp_ge x0 0).mpr (by rw [z, Int64.le_iff_toInt_le]; omega))]
      have := key x0
      rw [show -x0 = x0 by rw [z]; rfl]
      exact this
    · rw [if_neg (fun q => by
        have q2 := (lg_cmp_ge x0 0).mp q
        rw [Int64.le_iff_toInt_le, Int64.toInt_zero] at q2
        rw [Int64.lt_iff_toInt_lt, Int64.toInt_zero] at p
        have := l_ne.mp z
        omega)]
      exact key (-x0)
/-- how likely sort s of call c is -/
def q_lk (M : St) (c s : Nat) : Nat := nv (M.1 8 (16 * c + 4 * s))
def q_tot (M : St) (c : Nat) : Nat := fb_sm' (q_lk M c) (ms M c)
theorem sm_le {f : Nat → Nat} {B : Nat} : ∀ n, (∀ s, s < n → f s ≤ B) → fb_sm' f n ≤ B * n := by
  intro n
  induction n with
  | zero => intro _; exact Nat.zero_le _
  | succ n ih =>
    intro h
    have h1 := ih (fun s hs => h s (by omega))
    have h2 := h n (by omega)
    rw [fb_sm', Nat.mul_succ]; omega
theorem lk_rg {S M : St} (h : R3 S M) {c s : Nat} (hc : c < 6) (hs : s < ms M c) : M.1 8 (16 * c + 4 * s) = nI (q_lk M c s) ∧ 1 ≤ q_lk M c s ∧ q_lk M c s ≤ 20 := by
  obtain ⟨-, -, -, -, -, c6, -⟩ := h.2 c hc
  obtain ⟨-, c7, c8, -⟩ := c6 s hs
  exact ⟨c7.1, c8, c7.2⟩
theorem tot_le {S M : St} (h : R3 S M) {c : Nat} (hc : c < 6) : q_tot M c ≤ 80 := by
  have h1 := sm_le (f := q_lk M c) (B := 20) (ms M c) (fun s hs => (lk_rg h hc hs).2.2)
  have h2 := ms_le h hc
  unfold q_tot; omega
theorem tot_pos {S M : St} (h : R3 S M) {c : Nat} (hc : c < 6) (h0 : 0 < ms M c) : 1 ≤ q_tot M c := by
  unfold q_tot
  obtain ⟨n, e⟩ : ∃ n, ms M c = n + 1 := ⟨ms M c - 1, by omega⟩
  have h1 := (lk_rg h hc (show n < ms M c by omega)).2.1
  rw [e, fb_sm']; omega
theorem e_likX {S M : St} (h : R3 S M) {c : Nat} (hc : c < 6) : f_X1_likely S ⟨c, hc⟩ = some (nI (q_tot M c), S) := by
  obtain ⟨-, -, -, -, -, -, c7⟩ := h.2 c hc
  unfold f_X1_likely
  exact congrArg (fun z => some (z, S)) c7
theorem srt_ix (c s j : Nat) : 16 * nI c + 4 * nI s + nI j = nI (16 * c + 4 * s + j) := by
  rw [show (16 : Int32) = nI 16 from rfl, show (4 : Int32) = nI 4 from rfl, pk_mul, pk_mul, nI_add, nI_add]
theorem srt_i0 (c s : Nat) : 16 * nI c + 4 * nI s = nI (16 * c + 4 * s) := by
  rw [show (16 : Int32) = nI 16 from rfl, show (4 : Int32) = nI 4 from rfl, pk_mul, pk_mul, nI_add]
theorem cal_ix (c j : Nat) : 6 * nI c + nI j = nI (6 * c + j) := by
  rw [show (6 : Int32) = nI 6 from rfl, pk_mul, nI_add]
theorem tot_M {S M : St} (h : R3 S M) {c : Nat} (hc : c < 6) : ∀ (j fu s : Nat), s + j = ms M c → j < fu → l_X11_totalOf_4 fu M (nI c) (nI (fb_sm' (q_lk M c) s)) (nI s) = some (nI (q_tot M c), M) := by
  have hm := ms_le h hc
  intro j
  induction j with
  | zero =>
    intro fu s hk hf
    obtain ⟨fu, rfl⟩ : ∃ q, fu = q + 1 := ⟨fu - 1, by omega⟩
    show f_X11_totalOf_4 (l_X11_totalOf_4 fu) M (nI c) _ (nI s) = _
    unfold f_X11_totalOf_4
    rw [chk_T (ixo_nI hc (by omega)), nI_clamp (by omega), ms_e h hc, if_pos (nI_le (by omega) (by omega))]
    have : s = ms M c := by omega
    rw [this]; rfl
  | succ j ih =>
    intro fu s hk hf
    obtain ⟨fu, rfl⟩ : ∃ q, fu = q + 1 := ⟨fu - 1, by omega⟩
    show f_X11_totalOf_4 (l_X11_totalOf_4 fu) M (nI c) _ (nI s) = _
    unfold f_X11_totalOf_4
    rw [chk_T (ixo_nI hc (by omega)), nI_clamp (show c < 2 ^ 31 by omega), ms_e h hc, if_neg (nI_ge (by omega) (by omega)), srt_i0, chk_T (ixo_nI (show 16 * c + 4 * s < 96 by omega) (by omega)), nI_clamp (by omega), (lk_rg h hc (show s < ms M c by omega)).1, bnd_e, bnd_e, nI_add, nI_1]
    exact ih fu (s + 1) (by omega) (by omega)
theorem e_totM {S M : St} (h : R3 S M) {c : Nat} (hc : c < 6) : f_X11_totalOf M (nI c) = some (nI (q_tot M c), M) :=
  tot_M h hc (ms M c) FU 0 (Nat.zero_add _) (by have := ms_le h hc; rw [FU_eq]; omega)
/-- what a bag keeps after sort s of call c -/
def q_lt (M : St) (b c s : Nat) : Int32 := q_lf (nI b) (M.1 8 (16 * c + 4 * s + 2)) (M.1 8 (16 * c + 4 * s + 3)) (M.1 0 6)
def q_ft (M : St) (b c s : Nat) : Bool := q_fit (nI b) (M.1 8 (16 * c + 4 * s + 2)) (M.1 8 (16 * c + 4 * s + 3))
theorem e_lM {S M : St} (h : R3 S M) {b c s : Nat} (hc : c < 6) (hs : s < ms M c) (hb : b ≤ 255) : f_X11_leftOf M (nI b) (nI c) (nI s) = some (q_lt M b c s, M) := by
  obtain ⟨-, -, -, -, -, c6, -⟩ := h.2 c hc
  obtain ⟨-, -, -, -, -, c9⟩ := c6 s hs
  have hm := ms_le h hc
  exact e_lfM hc (by omega) hb c9.2 c9.1
theorem e_lX {S M : St} (h : R3 S M) (h2 : R2 S M) {b c s : Nat} (hc : c < 6) (hs : s < ms M c) (hq : 4 * c + s < 24) : f_X7_left S ⟨4 * c + s, hq⟩ (nI b) (S.1 3 4) = some (q_lt M b c s, S) := by
  rw [e_lfX]
  have e2 : S.1 (33 + (4 * c + s)) 2 = _ := so_X h hc hs (by omega)
  have e3 : S.1 (33 + (4 * c + s)) 3 = _ := so_X h hc hs (by omega)
  show some (q_lf (nI b) (S.1 (33 + (4 * c + s)) 2) (S.1 (33 + (4 * c + s)) 3) (S.1 3 4), S) = _
  rw [e2, e3, h2.2.1.1]; rfl
theorem nI_any (y : Int32) : y = nI y.toBitVec.toNat := by
  apply Int32.toBitVec_inj.mp
  show _ = BitVec.ofNat 32 y.toBitVec.toNat
  rw [BitVec.ofNat_toNat, BitVec.setWidth_eq]
theorem and_nI (b : Nat) (y : Int32) : ∃ k, k ≤ b ∧ nI b &&& y = nI k := by
  rw [nI_any y, nI_and]
  exact ⟨_, Nat.and_le_left, rfl⟩
/-- what is left: none, or a bag -/
theorem lt_or {M : St} {b c s : Nat} (hb : b ≤ 255) : (q_ft M b c s = false ∧ q_lt M b c s = -1) ∨ (q_ft M b c s = true ∧ ∃ k, k ≤ 255 ∧ q_lt M b c s = nI k ∧ ¬ q_lt M b c s = -1) := by
  unfold q_lt q_ft q_lf
  by_cases q : q_fit (nI b) (M.1 8 (16 * c + 4 * s + 2)) (M.1 8 (16 * c + 4 * s + 3)) = true
  · right
    rw [if_pos q]
    refine ⟨q, ?_⟩
    obtain ⟨k, hk, e⟩ := and_nI b (((M.1 8 (16 * c + 4 * s + 2) ||| ((M.1 8 (16 * c + 4 * s + 3) &&& nI b) &&& (-(M.1 8 (16 * c + 4 * s + 3) &&& nI b)))) &&& (M.1 0 6 ^^^ (-1))) ^^^ (-1))
    refine ⟨k, by omega, e, ?_⟩
    rw [e]
    intro z
    have z2 := congrArg Int32.toInt z
    rw [nI_toInt (by omega)] at z2
    have z3 : (-1 : Int32).toInt = -1 := rfl
    omega
  · left
    rw [if_neg q]
    exact ⟨Bool.eq_false_iff.mpr q, rfl⟩
/-- how many ways a bag does for call c -/
def q_dn (M : St) (b c : Nat) : Nat → Nat := fun s => if q_ft M b c s = true then q_lk M c s else 0
theorem dn_X {S M : St} (h : R3 S M) {b c : Nat} (hc : c < 6) : ∀ (j fu s : Nat), s + j = ms M c → j < fu → l_X1_likelyDone_4 fu S ⟨c, hc⟩ (nI b) (nI (fb_sm' (q_dn M b c) s)) (nI s) = some (nI (fb_sm' (q_dn M b c) (ms M c)), S) := by
  have hm := ms_le h hc
  have hS : S.1 (21 + c) 1 = nI (ms M c) := (h.2 c hc).2.1.trans (ms_e h hc)
  intro j
  induction j with
  | zero =>
    intro fu s hk hf
    obtain ⟨fu, rfl⟩ : ∃ q, fu = q + 1 := ⟨fu - 1, by omega⟩
    show f_X1_likelyDone_4 (l_X1_likelyDone_4 fu) S ⟨c, hc⟩ (nI b) _ (nI s) = _
    unfold f_X1_likelyDone_4
    rw [if_pos (show S.1 (21 + c) 1 ≤ nI s by rw [hS]; exact nI_le (by omega) (by omega))]
    have : s = ms M c := by omega
    rw [this]
  | succ j ih =>
    intro fu s hk hf
    obtain ⟨fu, rfl⟩ : ∃ q, fu = q + 1 := ⟨fu - 1, by omega⟩
    have hs : s < ms M c := by omega
    have e := ih fu (s + 1) (by omega) (by omega)
    show f_X1_likelyDone_4 (l_X1_likelyDone_4 fu) S ⟨c, hc⟩ (nI b) _ (nI s) = _
    unfold f_X1_likelyDone_4 f_X1_likelyDone_49
    have e0 : S.1 (33 + (4 * c + s)) 0 = nI (q_lk M c s) := (so_X h hc hs (by omega)).trans (lk_rg h hc hs).1
    have e2 : S.1 (33 + (4 * c + s)) 2 = _ := so_X h hc hs (by omega)
    have e3 : S.1 (33 + (4 * c + s)) 3 = _ := so_X h hc hs (by omega)
    rw [if_neg (show ¬ S.1 (21 + c) 1 ≤ nI s by rw [hS]; exact nI_ge (by omega) (by omega)), e_stX h hc hs, obd2_s, oel_S]
    show obd2 (f_X7_isDone S (nI b) (S.1 (33 + (4 * c + s)) 2) (S.1 (33 + (4 * c + s)) 3)) _ = _
    rw [e_fitX, obd2_s, e2, e3]
    show (if (if q_ft M b c s = true then (1 : Int32) else 0) = 0 then _ else bnd (_ + S.1 (33 + (4 * c + s)) 0) _) = _
    rw [fb_sm'] at e
    by_cases q : q_ft M b c s = true
    · rw [if_pos q, if_neg one0, e0, bnd_e, bnd_e, nI_1, nI_add]
      rw [show q_dn M b c s = q_lk M c s from if_pos q] at e
      exact e
    · rw [if_neg q, if_pos rfl, bnd_e, nI_1]
      rw [show q_dn M b c s = 0 from if_neg q] at e
      exact e
theorem e_dnX {S M : St} (h : R3 S M) {b c : Nat} (hc : c < 6) : f_X1_likelyDone S ⟨c, hc⟩ (nI b) = some (nI (fb_sm' (q_dn M b c) (ms M c)), S) :=
  dn_X h hc (ms M c) FU 0 (Nat.zero_add _) (by have := ms_le h hc; rw [FU_eq]; omega)
theorem dn_M {S M : St} (h : R3 S M) {b c : Nat} (hc : c < 6) (hb : b ≤ 255) (p : Int32) : ∀ (j fu s : Nat), s + j = ms M c → j < fu → l_X11_chance_34 fu M (nI b) (nI c) p (nI (fb_sm' (q_dn M b c) s)) (nI s) = obd2 (f_X11_lowest M (nI (fb_sm' (q_dn M b c) (ms M c))).toInt64 (nI (q_tot M c)).toInt64 p) (fun r S => some (r.toInt32, S)) := by
  have hm := ms_le h hc
  intro j
  induction j with
  | zero =>
    intro fu s hk hf
    obtain ⟨fu, rfl⟩ : ∃ q, fu = q + 1 := ⟨fu - 1, by omega⟩
    show f_X11_chance_34 (l_X11_chance_34 fu) M (nI b) (nI c) p _ (nI s) = _
    unfold f_X11_chance_34
    rw [chk_T (ixo_nI hc (by omega)), nI_clamp (by omega), ms_e h hc, if_pos (nI_le (by omega) (by omega)), e_totM h hc, obd2_s]
    have : s = ms M c := by omega
    rw [this]
  | succ j ih =>
    intro fu s hk hf
    obtain ⟨fu, rfl⟩ : ∃ q, fu = q + 1 := ⟨fu - 1, by omega⟩
    have hs : s < ms M c := by omega
    have e := ih fu (s + 1) (by omega) (by omega)
    show f_X11_chance_34 (l_X11_chance_34 fu) M (nI b) (nI c) p _ (nI s) = _
    unfold f_X11_chance_34 f_X11_chance_77
    rw [chk_T (ixo_nI hc (by omega)), nI_clamp (show c < 2 ^ 31 by omega), ms_e h hc, if_neg (nI_ge (by omega) (by omega)), e_lM h hc hs hb, obd2_s, srt_i0, chk_T (ixo_nI (show 16 * c + 4 * s < 96 by omega) (by omega)), nI_clamp (by omega), (lk_rg h hc hs).1, bnd_e, bnd_e, bnd_e, bnd_e, nI_add, nI_1]
    rw [fb_sm'] at e
    rcases lt_or (M := M) (c := c) (s := s) hb with ⟨q, g⟩ | ⟨q, k, hk, -, g⟩
    · rw [if_pos g, Int32.add_zero]
      rw [show q_dn M b c s = 0 from if_neg (by rw [q]; decide), Nat.add_zero] at e
      exact e
    · rw [if_neg g]
      rw [show q_dn M b c s = q_lk M c s from if_pos q] at e
      exact e
theorem e_usable {S M : St} (h : R3 S M) (x : Int32) : (f_X4_callWithSorts S x = some (none, S) ∧ f_X11_isUsable M x = some (0, M)) ∨
    ∃ c : Fin 6, x = nI c.val ∧ tc M c.val = true ∧ 0 < ms M c.val ∧ f_X4_callWithSorts S x = some (some c, S) ∧ f_X11_isUsable M x = some (1, M) := by
  unfold f_X4_callWithSorts f_X11_isUsable f_X4_callWithSorts_21 f_X1_sorts
  rcases e_isCallM h x with ⟨h1, h2⟩ | ⟨c, rfl, ht, h1, h2⟩
  · left
    rw [h1, h2, obd2_s, obd2_s, oel_N, if_pos rfl]; exact ⟨rfl, rfl⟩
  · have hc := c.isLt
    have hm := ms_le h hc
    have hS : S.1 (21 + c.val) 1 = nI (ms M c.val) := (h.2 c hc).2.1.trans (ms_e h hc)
    rw [h1, h2, obd2_s, obd2_s, oel_S, if_neg one0, obd2_s, hS, chk_T (ixo_nI hc (by omega)), nI_clamp (by omega), ms_e h hc]
    by_cases q : 0 < ms M c.val
    · right
      have e : ¬ nI (ms M c.val) ≤ 0 := nI_nle q (by omega)
      rw [if_neg e, if_neg e]
      exact ⟨c, rfl, ht, q, rfl, rfl⟩
    · left
      have e : nI (ms M c.val) ≤ 0 := by rw [show ms M c.val = 0 by omega]; decide
      rw [if_pos e, if_pos e]; exact ⟨rfl, rfl⟩
theorem st_chance : PS_chance RI := by
  intro S M h x y p
  have hR := h
  obtain ⟨-, -, h3, -⟩ := h
  unfold f_X10_chance f_X11_chance
  rcases e_usable h3 y with ⟨h1, h2⟩ | ⟨c, rfl, ht, h0, h1, h2⟩
  · rw [h1, h2, obd2_s, obd2_s, oel_N, if_pos rfl]; exact ⟨_, _, _, rfl, rfl, hR⟩
  · have hc := c.isLt
    rw [h1, h2, obd2_s, obd2_s, oel_S, if_neg one0, e_isBagX, e_isBagM, obd2_s, obd2_s]
    by_cases hb : inB x 255 = true
    · obtain ⟨b, hb1, hb2, rfl⟩ := inB_nI hb
      rw [if_pos hb, if_neg one0, if_neg one0, e_isPartX, e_isPartM, obd2_s, obd2_s]
      by_cases hp : inB p 1 = true
      · have t1 := tot_le h3 hc
        have t0 := tot_pos h3 hc h0
        have t2 : (nI (q_tot M c.val)).toInt64.toInt = q_tot M c.val := by rw [Int32.toInt_toInt64, nI_toInt (by omega)]
        obtain ⟨r, e1, e2⟩ := low_e S M (nI (fb_sm' (q_dn M b c.val) (ms M c.val))).toInt64 (nI (q_tot M c.val)).toInt64 p (by omega) (by omega)
        have e3 : l_X11_chance_34 FU M (nI b) (nI c.val) p 0 0 = _ := dn_M h3 hc hb1 p (ms M c.val) FU 0 (Nat.zero_add _) (by have := ms_le h3 hc; rw [FU_eq]; omega)
        rw [if_pos hp, if_neg one0, if_neg one0, e_dnX h3 hc, obd2_s, e_likX h3 hc, obd2_s, e1, obd2_s, e3, e2, obd2_s]
        exact ⟨_, _, _, rfl, rfl, hR⟩
      · rw [if_neg hp, if_pos rfl, if_pos rfl]; exact ⟨_, _, _, rfl, rfl, hR⟩
    · rw [if_neg hb, if_pos rfl, if_pos rfl]; exact ⟨_, _, _, rfl, rfl, hR⟩
