-- ===== 54: where to go now: what is left brings at the most; the reference's four depths
/-- the set w less call c -/
def q_rm (w c : Nat) : Nat := if w.testBit c = true then w - 2 ^ c else w
theorem rm_f : ∀ w : Fin 64, ∀ c : Fin 6, nI w.val &&& (((1 : Int32) <<< (nI c.val &&& 31)) ^^^ (-1)) = nI (q_rm w.val c.val) ∧ q_rm w.val c.val ≤ 63 ∧ (w.val.testBit c.val = true → q_ct (q_rm w.val c.val) 0 8 + 1 = q_ct w.val 0 8 ∧ ¬ nI (q_rm w.val c.val) = nI w.val) ∧ ∀ d : Fin 6, (q_rm w.val c.val).testBit d.val = true → w.val.testBit d.val = true := by decide +kernel
theorem rm_e {w c : Nat} (hw : w ≤ 63) (hc : c < 6) : nI w &&& (((1 : Int32) <<< (nI c &&& 31)) ^^^ (-1)) = nI (q_rm w c) ∧ q_rm w c ≤ 63 ∧ (w.testBit c = true → q_ct (q_rm w c) 0 8 + 1 = q_ct w 0 8 ∧ ¬ nI (q_rm w c) = nI w) ∧ ∀ d, d < 6 → (q_rm w c).testBit d = true → w.testBit d = true := by
  obtain ⟨a, b, d, e⟩ := rm_f ⟨w, by omega⟩ ⟨c, hc⟩
  exact ⟨a, b, d, fun d hd h => e ⟨d, hd⟩ h⟩
theorem pc0 : ∀ w : Fin 64, q_ct w.val 0 8 = 0 → w.val = 0 := by decide +kernel
/-- all calls of the set may be gone to -/
def Us (M : St) (w : Nat) : Prop := ∀ c, c < 6 → w.testBit c = true → 0 < ms M c
theorem Us_rm {M : St} {w c : Nat} (h : Us M w) (hw : w ≤ 63) (hc : c < 6) : Us M (q_rm w c) := fun d hd q => h d hd ((rm_e hw hc).2.2.2 d hd q)
/-- what stands below the chances of the calls of a set -/
def q_U (M : St) (w : Nat) : Nat → Nat → Nat
  | 0, _ => 1
  | j + 1, c => (if w.testBit c = true then q_tot M c else 1) * q_U M w j (c + 1)
def q_uu (M : St) (w : Nat) : Nat := q_U M w 6 0
theorem to_M {S M : St} (h3 : R3 S M) {w : Nat} (hw : w ≤ 63) : ∀ (j fu c a : Nat), c + j = 6 → j < fu → l_X11_totals_5 fu M (nI w) (lN a) (nI c) = some (lN (a * q_U M w j c), M) := by
  intro j
  induction j with
  | zero =>
    intro fu c a hk hf
    obtain ⟨fu, rfl⟩ : ∃ q, fu = q + 1 := ⟨fu - 1, by omega⟩
    show f_X11_totals_5 (l_X11_totals_5 fu) M (nI w) (lN a) (nI c) = _
    unfold f_X11_totals_5
    rw [if_pos (show (6 : Int32) ≤ nI c from nI_le (a := 6) (by omega) (by omega)), q_U, Nat.mul_one]
  | succ j ih =>
    intro fu c a hk hf
    obtain ⟨fu, rfl⟩ : ∃ q, fu = q + 1 := ⟨fu - 1, by omega⟩
    have hc : c < 6 := by omega
    have tl := tot_le h3 hc
    show f_X11_totals_5 (l_X11_totals_5 fu) M (nI w) (lN a) (nI c) = _
    unfold f_X11_totals_5 f_X11_totals_33
    rw [if_neg (show ¬ (6 : Int32) ≤ nI c from nI_ge (a := c) (b := 6) (by omega) (by omega)), e_hasM M (by omega) (by omega), obd2_s, q_U, ← Nat.mul_assoc]
    simp only [bnd_e, nI_1]
    by_cases q : w.testBit c = true
    · rw [if_pos q, if_neg one0, if_pos q, e_totM h3 hc, obd2_s, nI_l (by omega), lN_mul]
      exact ih fu (c + 1) _ (by omega) (by omega)
    · rw [if_neg q, if_pos rfl, if_neg q, Nat.mul_one, Int64.mul_one]
      exact ih fu (c + 1) _ (by omega) (by omega)
theorem e_totals {S M : St} (h3 : R3 S M) {w : Nat} (hw : w ≤ 63) : f_X11_totals M (nI w) = some (lN (q_uu M w), M) := by
  have e := to_M h3 hw 6 FU 0 1 rfl (by rw [FU_eq]; omega)
  rw [Nat.one_mul] at e
  exact e
theorem so5_X {S M : St} (h3 : R3 S M) {w : Nat} (hw : w ≤ 63) (hu : Us M w) : ∀ (j fu c a : Nat), c + j = 6 → j < fu → l_X3_scaleOf_5 fu S (nI w) (lN a) (nI c) = some (lN (a * q_U M w j c), S) := by
  intro j
  induction j with
  | zero =>
    intro fu c a hk hf
    obtain ⟨fu, rfl⟩ : ∃ q, fu = q + 1 := ⟨fu - 1, by omega⟩
    show f_X3_scaleOf_5 (l_X3_scaleOf_5 fu) S (nI w) (lN a) (nI c) = _
    unfold f_X3_scaleOf_5
    rw [if_pos (show (6 : Int32) ≤ nI c from nI_le (a := 6) (by omega) (by omega)), q_U, Nat.mul_one]
  | succ j ih =>
    intro fu c a hk hf
    obtain ⟨fu, rfl⟩ : ∃ q, fu = q + 1 := ⟨fu - 1, by omega⟩
    have hc : c < 6 := by omega
    have tl := tot_le h3 hc
    show f_X3_scaleOf_5 (l_X3_scaleOf_5 fu) S (nI w) (lN a) (nI c) = _
    unfold f_X3_scaleOf_5 f_X3_scaleOf_44
    rw [if_neg (show ¬ (6 : Int32) ≤ nI c from nI_ge (a := c) (b := 6) (by omega) (by omega)), q_U, ← Nat.mul_assoc]
    simp only [bnd_e, nI_1]
    rcases e_usN h3 (show c < 16 by omega) with ⟨no, h1, -⟩ | ⟨_, h0, h1, -⟩
    · have q : ¬ w.testBit c = true := fun q => no ⟨hc, hu c hc q⟩
      rw [h1, obd2_s, oel_N, if_neg q, Nat.mul_one]
      exact ih fu (c + 1) _ (by omega) (by omega)
    · rw [h1, obd2_s, oel_S]
      by_cases q : w.testBit c = true
      · rw [if_pos ((bit_e (by omega) (by omega)).mpr q), if_pos q, e_likX h3 hc, obd2_s, nI_l (by omega), lN_mul]
        exact ih fu (c + 1) _ (by omega) (by omega)
      · rw [if_neg (fun z => q ((bit_e (by omega) (by omega)).mp z)), if_neg q, Nat.mul_one]
        exact ih fu (c + 1) _ (by omega) (by omega)
theorem e_scaleOf {S M : St} (h3 : R3 S M) {w : Nat} (hw : w ≤ 63) (hu : Us M w) : f_X3_scaleOf S (nI w) = some (lN (q_uu M w), S) := by
  have e := so5_X h3 hw hu 6 FU 0 1 rfl (by rw [FU_eq]; omega)
  rw [Nat.one_mul] at e
  exact e
/-- the greatest of a and f over the bits of w from c on -/
def q_mx (f : Nat → Int64) (w : Nat) : Nat → Nat → Int64 → Int64
  | 0, _, a => a
  | j + 1, c, a => q_mx f w j (c + 1) (if w.testBit c = true then (if f c ≤ a then a else f c) else a)
/-- when he comes to call c -/
def q_ar (M : St) (c x : Nat) (m : Int32) : Int32 := m + M.1 5 (6 * x + q_pl M c)
/-- what going to call c now brings, if B tells what is left brings then -/
def q_go (M : St) (B : Nat → Int32 → Nat → Nat → Int64) (c x : Nat) (m : Int32) (b w : Nat) : Int64 :=
  if q_ar M c x m ≤ M.1 6 (6 * c + 2) then
    q_S (fun s => lN (q_lk M c s) * (if q_ft M b c s = true then (M.1 6 (6 * c + 3)).toInt64 * lN (q_uu M (q_rm w c)) + B (q_pl M c) (q_be M c (q_ar M c x m) + M.1 8 (16 * c + 4 * s + 1)) (nv (q_lt M b c s)) (q_rm w c)
      else B (q_pl M c) (q_be M c (q_ar M c x m) + M.1 6 (6 * c + 5)) b (q_rm w c) - (M.1 6 (6 * c + 4)).toInt64 * lN (q_uu M (q_rm w c)))) (ms M c) 0
  else lN (q_tot M c) * (B (q_pl M c) (q_ar M c x m) b (q_rm w c) - (M.1 6 (6 * c + 4)).toInt64 * lN (q_uu M (q_rm w c)))
/-- what is left brings at the most, n calls deep -/
def q_B (M : St) : Nat → Nat → Int32 → Nat → Nat → Int64
  | 0, _, _, _, _ => 0
  | n + 1, x, m, b, w => q_mx (fun c => q_go M (q_B M n) c x m b w) w 6 0 0
theorem ag_rg {S M : St} (h3 : R3 S M) {c : Nat} (hc : c < 6) (h0 : 0 < ms M c) : ∃ a, a ≤ 99 ∧ M.1 6 (6 * c + 4) = nI a := by
  obtain ⟨-, -, -, -, c5, -⟩ := h3.2 c hc
  obtain ⟨-, -, -, -, -, -, d2, -⟩ := c5 (tc_ms h3 hc h0)
  exact ⟨_, d2.2, d2.1⟩
theorem neg64 {a : Nat} (h : a ≤ 99) : (-(nI a)).toInt64 = -(nI a).toInt64 := by
  have : ∀ a : Fin 100, (-(nI a.val)).toInt64 = -(nI a.val).toInt64 := by decide +kernel
  exact this ⟨a, by omega⟩
theorem e_arr {S M : St} (h3 : R3 S M) {c x : Nat} (hc : c < 6) (h0 : 0 < ms M c) (hx : x ≤ 5) (m : Int32) : f_X11_arrival M (nI x) m (nI c) = some (q_be M c (q_ar M c x m), M) := by
  have hp := pl_le h3 c (Or.inr ⟨hc, h0⟩)
  unfold f_X11_arrival
  rw [show 6 * nI c = nI (6 * c) from pk_mul 6 c, chk_T (ixo_nI (show 6 * c < 36 by omega) (by omega)), nI_clamp (by omega), pl_e h3 hc h0, cal_ix, chk_T (ixo_nI (show 6 * x + q_pl M c < 36 by omega) (by omega)), nI_clamp (by omega), bnd_e, nI_1, chk_T (ixo_nI (show 6 * c + 1 < 36 by omega) (by omega)), chk_T (ixo_nI (show 6 * c + 1 < 36 by omega) (by omega)), nI_clamp (by omega)]
  show (if M.1 6 (6 * c + 1) ≤ q_ar M c x m then some (q_ar M c x m, M) else some (M.1 6 (6 * c + 1), M)) = _
  unfold q_be
  by_cases q : q_ar M c x m < M.1 6 (6 * c + 1)
  · rw [if_pos q, if_neg (fun z => absurd q (Int32.not_lt.mpr z))]
  · rw [if_neg q, if_pos (Int32.not_lt.mp q)]
theorem be_late {S M : St} (h3 : R3 S M) {c : Nat} (hc : c < 6) (h0 : 0 < ms M c) (t : Int32) : (q_be M c t ≤ M.1 6 (6 * c + 2) ↔ t ≤ M.1 6 (6 * c + 2)) ∧ (¬ t ≤ M.1 6 (6 * c + 2) → q_be M c t = t) := by
  have os := op_sh h3 hc h0
  unfold q_be
  by_cases q : t < M.1 6 (6 * c + 1)
  · rw [if_pos q]
    have := Int32.le_trans (Int32.le_of_lt q) os
    exact ⟨⟨fun _ => this, fun _ => os⟩, fun z => absurd this z⟩
  · rw [if_neg q]; exact ⟨Iff.rfl, fun _ => rfl⟩
theorem e_isl {S M : St} (h3 : R3 S M) {c : Nat} (hc : c < 6) (h0 : 0 < ms M c) (t : Int32) : f_X11_isLate M (q_be M c t) (nI c) = some (if t ≤ M.1 6 (6 * c + 2) then 0 else 1, M) := by
  have hb := (be_late h3 hc h0 t).1
  unfold f_X11_isLate
  rw [show 6 * nI c + 2 = nI (6 * c + 2) from cal_ix c 2, chk_T (ixo_nI (show 6 * c + 2 < 36 by omega) (by omega)), nI_clamp (by omega)]
  by_cases q : t ≤ M.1 6 (6 * c + 2)
  · rw [if_pos q, if_pos (hb.mpr q)]
  · rw [if_neg q, if_neg (fun z => q (hb.mp z))]
theorem e_gotN {S M : St} (h3 : R3 S M) {c : Nat} (hc : c < 6) (h0 : 0 < ms M c) : f_X11_got M (nI c) (-1) = some (-(M.1 6 (6 * c + 4)).toInt64, M) := by
  obtain ⟨a, ha, e⟩ := ag_rg h3 hc h0
  unfold f_X11_got
  rw [if_pos rfl, show 6 * nI c + 4 = nI (6 * c + 4) from cal_ix c 4, chk_T (ixo_nI (show 6 * c + 4 < 36 by omega) (by omega)), nI_clamp (by omega), e, neg64 ha]
theorem e_gotD (M : St) {c b : Nat} (hc : c < 6) (hb : b < 2 ^ 31) : f_X11_got M (nI c) (nI b) = some ((M.1 6 (6 * c + 3)).toInt64, M) := by
  unfold f_X11_got
  rw [if_neg (m1_ne hb), show 6 * nI c + 3 = nI (6 * c + 3) from cal_ix c 3, chk_T (ixo_nI (show 6 * c + 3 < 36 by omega) (by omega)), nI_clamp (by omega)]
theorem e_thenN (M : St) {c : Nat} (hc : c < 6) (t y : Int32) : f_X11_then M t (nI c) y (-1) = some (t + M.1 6 (6 * c + 5), M) := by
  unfold f_X11_then f_X11_then_36
  rw [if_pos rfl, show 6 * nI c + 5 = nI (6 * c + 5) from cal_ix c 5, chk_T (ixo_nI (show 6 * c + 5 < 36 by omega) (by omega)), nI_clamp (by omega)]
theorem e_thenD (M : St) {c s b : Nat} (hc : c < 6) (hs : s < 4) (hb : b < 2 ^ 31) (t : Int32) : f_X11_then M t (nI c) (nI s) (nI b) = some (t + M.1 8 (16 * c + 4 * s + 1), M) := by
  unfold f_X11_then f_X11_then_36
  rw [if_neg (m1_ne hb), show 16 * nI c + 4 * nI s + 1 = nI (16 * c + 4 * s + 1) from srt_ix c s 1, chk_T (ixo_nI (show 16 * c + 4 * s + 1 < 96 by omega) (by omega)), nI_clamp (by omega)]
theorem mx_step (f : Nat → Int64) (w j c : Nat) (a : Int64) : q_mx f w (j + 1) c a = q_mx f w j (c + 1) (if w.testBit c = true then (if f c ≤ a then a else f c) else a) := rfl
theorem mx0 (f : Nat → Int64) : ∀ j c a, q_mx f 0 j c a = a := by
  intro j
  induction j with
  | zero => intro c a; rfl
  | succ j ih => intro c a; rw [mx_step, Nat.zero_testBit, if_neg (by decide), ih]
theorem B_0 (M : St) (n x : Nat) (m : Int32) (b : Nat) : q_B M n x m b 0 = 0 := by
  cases n with
  | zero => rfl
  | succ n => exact mx0 _ 6 0 0
theorem uu0 (M : St) : q_uu M 0 = 1 := by
  have : ∀ j c, q_U M 0 j c = 1 := by
    intro j
    induction j with
    | zero => intro c; rfl
    | succ j ih => intro c; rw [q_U, Nat.zero_testBit, if_neg (by decide), ih]
  exact this 6 0
/-- one depth: going to a call, over what is left then -/
def Inn (M : St) (g : St → Int32 → Int32 → Int32 → Int32 → Option (Int64 × St)) (n : Nat) : Prop := ∀ (x : Nat) (m : Int32) (b w : Nat), x ≤ 5 → b ≤ 255 → w ≤ 63 → q_ct w 0 8 ≤ n → Us M w → g M (nI x) m (nI b) (nI w) = some (q_B M n x m b w, M)
theorem sub_ring (a u y : Int64) : -a * u + y = y - a * u := by
  rw [Int64.neg_mul, Int64.sub_eq_add_neg, Int64.add_comm]
-- the deepest: one call alone
theorem on_s {S M : St} (h3 : R3 S M) {c x b w : Nat} (hc : c < 6) (h0 : 0 < ms M c) (hb : b ≤ 255) (m : Int32) (k_6 : St → Int32 → Int32 → Int32 → Int32 → Int64 → Int32 → Option (Int64 × St)) (y1 y2 y4 : Int32) (y5 : Int64) (l : q_ar M c x m ≤ M.1 6 (6 * c + 2)) : ∀ (j fu s : Nat) (acc : Int64), s + j = ms M c → j < fu →
    l_X11_one_68 k_6 fu M y1 y2 (nI b) y4 y5 (nI c) (q_be M c (q_ar M c x m)) acc (nI s) = f_X11_one_134 k_6 M y1 y2 (nI b) y4 y5 (nI c) (acc + q_S (fun s => lN (q_lk M c s) * (if q_ft M b c s = true then (M.1 6 (6 * c + 3)).toInt64 else -(M.1 6 (6 * c + 4)).toInt64)) j s) := by
  have hm := ms_le h3 hc
  intro j
  induction j with
  | zero =>
    intro fu s acc hk hf
    obtain ⟨fu, rfl⟩ : ∃ q, fu = q + 1 := ⟨fu - 1, by omega⟩
    show f_X11_one_68 k_6 (l_X11_one_68 k_6 fu) M y1 y2 (nI b) y4 y5 (nI c) _ acc (nI s) = _
    unfold f_X11_one_68
    rw [chk_T (ixo_nI hc (by omega)), nI_clamp (by omega), ms_e h3 hc, if_pos (nI_le (by omega) (by omega)), q_S, Int64.add_zero]
  | succ j ih =>
    intro fu s acc hk hf
    obtain ⟨fu, rfl⟩ : ∃ q, fu = q + 1 := ⟨fu - 1, by omega⟩
    have hs : s < ms M c := by omega
    have hlk := lk_rg h3 hc hs
    show f_X11_one_68 k_6 (l_X11_one_68 k_6 fu) M y1 y2 (nI b) y4 y5 (nI c) _ acc (nI s) = _
    unfold f_X11_one_68
    rw [chk_T (ixo_nI hc (by omega)), nI_clamp (show c < 2 ^ 31 by omega), ms_e h3 hc, if_neg (nI_ge (by omega) (by omega)), e_isl h3 hc h0, if_pos l, obd2_s, if_pos rfl, srt_i0, chk_T (ixo_nI (show 16 * c + 4 * s < 96 by omega) (by omega)), e_lM h3 hc hs hb, obd2_s, nI_clamp (by omega), hlk.1, nI_l (by omega), q_S, ← Int64.add_assoc]
    simp only [bnd_e, nI_1]
    rcases lt_or (M := M) (c := c) (s := s) hb with ⟨q, e7⟩ | ⟨q, b', hb', e7, -⟩
    · rw [e7, e_gotN h3 hc h0, obd2_s, if_neg (show ¬ q_ft M b c s = true by rw [q]; decide)]
      exact ih fu (s + 1) _ (by omega) (by omega)
    · rw [e7, e_gotD M hc (by omega), obd2_s, if_pos q]
      exact ih fu (s + 1) _ (by omega) (by omega)
theorem on_1 {M : St} {c x b w : Nat} (m : Int32) (hr : q_rm w c = 0) : q_go M (q_B M 0) c x m b w = if q_ar M c x m ≤ M.1 6 (6 * c + 2) then q_S (fun s => lN (q_lk M c s) * (if q_ft M b c s = true then (M.1 6 (6 * c + 3)).toInt64 else -(M.1 6 (6 * c + 4)).toInt64)) (ms M c) 0 else lN (q_tot M c) * -(M.1 6 (6 * c + 4)).toInt64 := by
  unfold q_go
  rw [hr, uu0]
  have z : ∀ x m b, q_B M 0 x m b 0 = 0 := fun _ _ _ => rfl
  have y : ∀ a : Int64, 0 - a * lN 1 = -a := fun a => by rw [show lN 1 = 1 from rfl, Int64.mul_one, Int64.sub_eq_add_neg, Int64.zero_add]
  have y2 : ∀ a : Int64, a * lN 1 + 0 = a := fun a => by rw [show lN 1 = 1 from rfl, Int64.mul_one, Int64.add_zero]
  by_cases l : q_ar M c x m ≤ M.1 6 (6 * c + 2)
  · rw [if_pos l, if_pos l]
    refine S_congr _ 0 (fun s _ _ => ?_)
    rw [z, z, y, y2]
  · rw [if_neg l, if_neg l, z, y]
theorem on_l {S M : St} (h3 : R3 S M) {x b w : Nat} (hx : x ≤ 5) (hb : b ≤ 255) (hw : w ≤ 63) (hp : q_ct w 0 8 ≤ 1) (hu : Us M w) (m : Int32) : ∀ (j fu c : Nat) (a : Int64), c + j = 6 → j < fu → l_X11_one_6 fu M (nI x) m (nI b) (nI w) a (nI c) = some (q_mx (fun c => q_go M (q_B M 0) c x m b w) w j c a, M) := by
  intro j
  induction j with
  | zero =>
    intro fu c a hk hf
    obtain ⟨fu, rfl⟩ : ∃ q, fu = q + 1 := ⟨fu - 1, by omega⟩
    show f_X11_one_6 (l_X11_one_6 fu) M (nI x) m (nI b) (nI w) a (nI c) = _
    unfold f_X11_one_6
    rw [if_pos (show (6 : Int32) ≤ nI c from nI_le (a := 6) (by omega) (by omega))]; rfl
  | succ j ih =>
    intro fu c a hk hf
    obtain ⟨fu, rfl⟩ : ∃ q, fu = q + 1 := ⟨fu - 1, by omega⟩
    have hc : c < 6 := by omega
    show f_X11_one_6 (l_X11_one_6 fu) M (nI x) m (nI b) (nI w) a (nI c) = _
    unfold f_X11_one_6 f_X11_one_63 f_X11_one_151
    rw [if_neg (show ¬ (6 : Int32) ≤ nI c from nI_ge (a := c) (b := 6) (by omega) (by omega)), e_hasM M (by omega) (by omega), obd2_s, mx_step]
    simp only [bnd_e, nI_1]
    by_cases q : w.testBit c = true
    · have h0 := hu c hc q
      have tl := tot_le h3 hc
      have hr : q_rm w c = 0 := by
        have := (rm_e hw hc).2.2.1 q
        exact pc0 ⟨q_rm w c, by have := (rm_e hw hc).2.1; omega⟩ (by show q_ct (q_rm w c) 0 8 = 0; omega)
      rw [if_pos q, if_neg one0, if_pos q, e_arr h3 hc h0 hx, obd2_s, e_isl h3 hc h0, obd2_s, on_1 m hr]
      have fin : ∀ v : Int64, f_X11_one_134 (l_X11_one_6 fu) M (nI x) m (nI b) (nI w) a (nI c) v = some (q_mx (fun c => q_go M (q_B M 0) c x m b w) w j (c + 1) (if v ≤ a then a else v), M) := by
        intro v
        unfold f_X11_one_134 f_X11_one_149 f_X11_one_151
        simp only [bnd_e, nI_1]
        by_cases z : v ≤ a
        · rw [if_pos ((lg_cmp_le v a).mpr z), if_pos z]; exact ih fu (c + 1) a (by omega) (by omega)
        · rw [if_neg (fun y => z ((lg_cmp_le v a).mp y)), if_neg z]; exact ih fu (c + 1) v (by omega) (by omega)
      by_cases l : q_ar M c x m ≤ M.1 6 (6 * c + 2)
      · rw [if_pos l, if_pos rfl, if_pos l]
        have e := on_s (w := w) h3 hc h0 hb m (l_X11_one_6 fu) (nI x) m (nI w) a l (ms M c) FU 0 0 (Nat.zero_add _) (by have := ms_le h3 hc; rw [FU_eq]; omega)
        rw [Int64.zero_add] at e
        exact e.trans (fin _)
      · rw [if_neg l, if_neg one0, if_neg l, e_totM h3 hc, obd2_s, e_gotN h3 hc h0, obd2_s, nI_l (by omega)]
        have e : l_X11_one_68 (l_X11_one_6 fu) FU M (nI x) m (nI b) (nI w) a (nI c) (q_be M c (q_ar M c x m)) (lN (q_tot M c) * -(M.1 6 (6 * c + 4)).toInt64) 0 = f_X11_one_134 (l_X11_one_6 fu) M (nI x) m (nI b) (nI w) a (nI c) (lN (q_tot M c) * -(M.1 6 (6 * c + 4)).toInt64) := by
          have hm := ms_le h3 hc
          rw [show l_X11_one_68 (l_X11_one_6 fu) FU = l_X11_one_68 (l_X11_one_6 fu) (4999 + 1) from rfl]
          show f_X11_one_68 (l_X11_one_6 fu) (l_X11_one_68 (l_X11_one_6 fu) 4999) M _ _ _ _ _ _ _ _ 0 = _
          unfold f_X11_one_68
          rw [chk_T (ixo_nI hc (by omega)), nI_clamp (by omega), ms_e h3 hc, if_neg (nI_nle h0 (by omega)), e_isl h3 hc h0, if_neg l, obd2_s, if_neg one0]
        exact e.trans (fin _)
    · rw [if_neg q, if_pos rfl, if_neg q]
      exact ih fu (c + 1) a (by omega) (by omega)
theorem in_one {S M : St} (h3 : R3 S M) : Inn M f_X11_one 1 := by
  intro x m b w hx hb hw hp hu
  exact on_l h3 hx hb hw hp hu m 6 FU 0 0 rfl (by rw [FU_eq]; omega)
-- going with one behind it
theorem g2_s {S M : St} (h3 : R3 S M) (hI : Inn M f_X11_one 1) {c b w : Nat} (hc : c < 6) (h0 : 0 < ms M c) (hb : b ≤ 255) (hw : w ≤ 63) (hp : q_ct (q_rm w c) 0 8 ≤ 1) (hu : Us M w) (t : Int32) : ∀ (j fu s : Nat) (acc : Int64), s + j = ms M c → j < fu →
    l_X11_goTwo_85 fu M (nI b) (nI c) t (nI (q_rm w c)) (lN (q_uu M (q_rm w c))) acc (nI s) = some (acc + q_S (fun s => lN (q_lk M c s) * (if q_ft M b c s = true then (M.1 6 (6 * c + 3)).toInt64 * lN (q_uu M (q_rm w c)) + q_B M 1 (q_pl M c) (t + M.1 8 (16 * c + 4 * s + 1)) (nv (q_lt M b c s)) (q_rm w c)
      else q_B M 1 (q_pl M c) (t + M.1 6 (6 * c + 5)) b (q_rm w c) - (M.1 6 (6 * c + 4)).toInt64 * lN (q_uu M (q_rm w c)))) j s, M) := by
  have hm := ms_le h3 hc
  have hr := (rm_e hw hc).2.1
  have hur := Us_rm hu hw hc
  have hpl := pl_le h3 c (Or.inr ⟨hc, h0⟩)
  intro j
  induction j with
  | zero =>
    intro fu s acc hk hf
    obtain ⟨fu, rfl⟩ : ∃ q, fu = q + 1 := ⟨fu - 1, by omega⟩
    show f_X11_goTwo_85 (l_X11_goTwo_85 fu) M (nI b) (nI c) t _ _ acc (nI s) = _
    unfold f_X11_goTwo_85
    rw [chk_T (ixo_nI hc (by omega)), nI_clamp (by omega), ms_e h3 hc, if_pos (nI_le (by omega) (by omega)), q_S, Int64.add_zero]
  | succ j ih =>
    intro fu s acc hk hf
    obtain ⟨fu, rfl⟩ : ∃ q, fu = q + 1 := ⟨fu - 1, by omega⟩
    have hs : s < ms M c := by omega
    have hlk := lk_rg h3 hc hs
    show f_X11_goTwo_85 (l_X11_goTwo_85 fu) M (nI b) (nI c) t _ _ acc (nI s) = _
    unfold f_X11_goTwo_85 f_X11_goTwo_172
    rw [chk_T (ixo_nI hc (by omega)), nI_clamp (show c < 2 ^ 31 by omega), ms_e h3 hc, if_neg (nI_ge (by omega) (by omega)), e_lM h3 hc hs hb, obd2_s, srt_i0, chk_T (ixo_nI (show 16 * c + 4 * s < 96 by omega) (by omega)), nI_clamp (show 16 * c + 4 * s < 2 ^ 31 by omega), hlk.1, nI_l (by omega), q_S, ← Int64.add_assoc]
    simp only [bnd_e, nI_1]
    rcases lt_or (M := M) (c := c) (s := s) hb with ⟨q, e7⟩ | ⟨q, b', hb', e7, -⟩
    · rw [e7, e_gotN h3 hc h0, obd2_s, show 6 * nI c = nI (6 * c) from pk_mul 6 c, chk_T (ixo_nI (show 6 * c < 36 by omega) (by omega)), e_thenN M hc, obd2_s, if_pos rfl, nI_clamp (show 6 * c < 2 ^ 31 by omega), pl_e h3 hc h0, hI _ _ _ _ hpl hb hr hp hur, obd2_s, sub_ring, if_neg (show ¬ q_ft M b c s = true by rw [q]; decide)]
      exact ih fu (s + 1) _ (by omega) (by omega)
    · rw [e7, e_gotD M hc (by omega), obd2_s, show 6 * nI c = nI (6 * c) from pk_mul 6 c, chk_T (ixo_nI (show 6 * c < 36 by omega) (by omega)), e_thenD M hc (by omega) (by omega), obd2_s, if_neg (m1_ne (by omega)), nI_clamp (show 6 * c < 2 ^ 31 by omega), pl_e h3 hc h0, hI _ _ _ _ hpl hb' hr hp hur, obd2_s, if_pos q, nv_nI (by omega)]
      exact ih fu (s + 1) _ (by omega) (by omega)
theorem e_goTwo {S M : St} (h3 : R3 S M) (hI : Inn M f_X11_one 1) {c x b w : Nat} (hc : c < 6) (hq : w.testBit c = true) (hx : x ≤ 5) (hb : b ≤ 255) (hw : w ≤ 63) (hp : q_ct w 0 8 ≤ 1 + 1) (hu : Us M w) (m : Int32) : f_X11_goTwo M (nI x) m (nI b) (nI w) (nI c) = some (q_go M (q_B M 1) c x m b w, M) := by
  have h0 := hu c hc hq
  obtain ⟨r1, hr, r3, -⟩ := rm_e hw hc
  have hp' : q_ct (q_rm w c) 0 8 ≤ 1 := by have := (r3 hq).1; omega
  have hur := Us_rm hu hw hc
  have hpl := pl_le h3 c (Or.inr ⟨hc, h0⟩)
  have tl := tot_le h3 hc
  have bl := (be_late h3 hc h0 (q_ar M c x m)).2
  unfold f_X11_goTwo
  rw [e_arr h3 hc h0 hx, obd2_s, r1, bnd_e, e_totals h3 hr, obd2_s, e_isl h3 hc h0, obd2_s]
  unfold q_go
  by_cases l : q_ar M c x m ≤ M.1 6 (6 * c + 2)
  · rw [if_pos l, if_pos rfl, if_pos l]
    have e := g2_s h3 hI hc h0 hb hw hp' hu (q_be M c (q_ar M c x m)) (ms M c) FU 0 0 (Nat.zero_add _) (by have := ms_le h3 hc; rw [FU_eq]; omega)
    rw [Int64.zero_add] at e
    exact e
  · rw [if_neg l, if_neg one0, if_neg l, e_totM h3 hc, obd2_s, e_gotN h3 hc h0, obd2_s, show 6 * nI c = nI (6 * c) from pk_mul 6 c, chk_T (ixo_nI (show 6 * c < 36 by omega) (by omega)), nI_clamp (show 6 * c < 2 ^ 31 by omega), pl_e h3 hc h0, bl l, hI _ _ _ _ hpl hb hr hp' hur, obd2_s, sub_ring, nI_l (by omega)]
theorem t2_l {S M : St} (h3 : R3 S M) (hI : Inn M f_X11_one 1) {x b w : Nat} (hx : x ≤ 5) (hb : b ≤ 255) (hw : w ≤ 63) (hp : q_ct w 0 8 ≤ 1 + 1) (hu : Us M w) (m : Int32) : ∀ (j fu c : Nat) (a : Int64), c + j = 6 → j < fu → 0 ≤ a → l_X11_two_6 fu M (nI x) m (nI b) (nI w) a (nI c) = some (q_mx (fun c => q_go M (q_B M 1) c x m b w) w j c a, M) := by
  intro j
  induction j with
  | zero =>
    intro fu c a hk hf ha
    obtain ⟨fu, rfl⟩ : ∃ q, fu = q + 1 := ⟨fu - 1, by omega⟩
    show f_X11_two_6 (l_X11_two_6 fu) M (nI x) m (nI b) (nI w) a (nI c) = _
    unfold f_X11_two_6
    rw [if_pos (show (6 : Int32) ≤ nI c from nI_le (a := 6) (by omega) (by omega))]; rfl
  | succ j ih =>
    intro fu c a hk hf ha
    obtain ⟨fu, rfl⟩ : ∃ q, fu = q + 1 := ⟨fu - 1, by omega⟩
    have hc : c < 6 := by omega
    show f_X11_two_6 (l_X11_two_6 fu) M (nI x) m (nI b) (nI w) a (nI c) = _
    unfold f_X11_two_6 f_X11_two_38 f_X11_two_55
    rw [if_neg (show ¬ (6 : Int32) ≤ nI c from nI_ge (a := c) (b := 6) (by omega) (by omega)), e_hasM M (by omega) (by omega), obd2_s, mx_step]
    simp only [bnd_e, nI_1]
    by_cases q : w.testBit c = true
    · rw [if_pos q, if_neg one0, if_pos q, e_goTwo h3 hI hc q hx hb hw hp hu, obd2_s]
      by_cases z : q_go M (q_B M 1) c x m b w ≤ a
      · rw [if_pos ((lg_cmp_le _ _).mpr z), if_pos z]
        exact ih fu (c + 1) a (by omega) (by omega) ha
      · rw [if_neg (fun y => z ((lg_cmp_le _ _).mp y)), if_neg z]
        exact ih fu (c + 1) _ (by omega) (by omega) (Int64.le_trans ha (Int64.le_of_lt (Int64.not_le.mp z)))
    · rw [if_neg q, if_pos rfl, if_neg q, if_pos ((lg_cmp_le _ _).mpr ha)]
      exact ih fu (c + 1) a (by omega) (by omega) ha
theorem in_two {S M : St} (h3 : R3 S M) (hI : Inn M f_X11_one 1) : Inn M f_X11_two 2 := by
  intro x m b w hx hb hw hp hu
  exact t2_l h3 hI hx hb hw hp hu m 6 FU 0 0 rfl (by rw [FU_eq]; omega) (Int64.le_refl _)
-- going with two behind it
theorem g3_s {S M : St} (h3 : R3 S M) (hI : Inn M f_X11_two 2) {c b w : Nat} (hc : c < 6) (h0 : 0 < ms M c) (hb : b ≤ 255) (hw : w ≤ 63) (hp : q_ct (q_rm w c) 0 8 ≤ 2) (hu : Us M w) (t : Int32) : ∀ (j fu s : Nat) (acc : Int64), s + j = ms M c → j < fu →
    l_X11_goThree_85 fu M (nI b) (nI c) t (nI (q_rm w c)) (lN (q_uu M (q_rm w c))) acc (nI s) = some (acc + q_S (fun s => lN (q_lk M c s) * (if q_ft M b c s = true then (M.1 6 (6 * c + 3)).toInt64 * lN (q_uu M (q_rm w c)) + q_B M 2 (q_pl M c) (t + M.1 8 (16 * c + 4 * s + 1)) (nv (q_lt M b c s)) (q_rm w c)
      else q_B M 2 (q_pl M c) (t + M.1 6 (6 * c + 5)) b (q_rm w c) - (M.1 6 (6 * c + 4)).toInt64 * lN (q_uu M (q_rm w c)))) j s, M) := by
  have hm := ms_le h3 hc
  have hr := (rm_e hw hc).2.1
  have hur := Us_rm hu hw hc
  have hpl := pl_le h3 c (Or.inr ⟨hc, h0⟩)
  intro j
  induction j with
  | zero =>
    intro fu s acc hk hf
    obtain ⟨fu, rfl⟩ : ∃ q, fu = q + 1 := ⟨fu - 1, by omega⟩
    show f_X11_goThree_85 (l_X11_goThree_85 fu) M (nI b) (nI c) t _ _ acc (nI s) = _
    unfold f_X11_goThree_85
    rw [chk_T (ixo_nI hc (by omega)), nI_clamp (by omega), ms_e h3 hc, if_pos (nI_le (by omega) (by omega)), q_S, Int64.add_zero]
  | succ j ih =>
    intro fu s acc hk hf
    obtain ⟨fu, rfl⟩ : ∃ q, fu = q + 1 := ⟨fu - 1, by omega⟩
    have hs : s < ms M c := by omega
    have hlk := lk_rg h3 hc hs
    show f_X11_goThree_85 (l_X11_goThree_85 fu) M (nI b) (nI c) t _ _ acc (nI s) = _
    unfold f_X11_goThree_85 f_X11_goThree_172
    rw [chk_T (ixo_nI hc (by omega)), nI_clamp (show c < 2 ^ 31 by omega), ms_e h3 hc, if_neg (nI_ge (by omega) (by omega)), e_lM h3 hc hs hb, obd2_s, srt_i0, chk_T (ixo_nI (show 16 * c + 4 * s < 96 by omega) (by omega)), nI_clamp (show 16 * c + 4 * s < 2 ^ 31 by omega), hlk.1, nI_l (by omega), q_S, ← Int64.add_assoc]
    simp only [bnd_e, nI_1]
    rcases lt_or (M := M) (c := c) (s := s) hb with ⟨q, e7⟩ | ⟨q, b', hb', e7, -⟩
    · rw [e7, e_gotN h3 hc h0, obd2_s, show 6 * nI c = nI (6 * c) from pk_mul 6 c, chk_T (ixo_nI (show 6 * c < 36 by omega) (by omega)), e_thenN M hc, obd2_s, if_pos rfl, nI_clamp (show 6 * c < 2 ^ 31 by omega), pl_e h3 hc h0, hI _ _ _ _ hpl hb hr hp hur, obd2_s, sub_ring, if_neg (show ¬ q_ft M b c s = true by rw [q]; decide)]
      exact ih fu (s + 1) _ (by omega) (by omega)
    · rw [e7, e_gotD M hc (by omega), obd2_s, show 6 * nI c = nI (6 * c) from pk_mul 6 c, chk_T (ixo_nI (show 6 * c < 36 by omega) (by omega)), e_thenD M hc (by omega) (by omega), obd2_s, if_neg (m1_ne (by omega)), nI_clamp (show 6 * c < 2 ^ 31 by omega), pl_e h3 hc h0, hI _ _ _ _ hpl hb' hr hp hur, obd2_s, if_pos q, nv_nI (by omega)]
      exact ih fu (s + 1) _ (by omega) (by omega)
theorem e_goThree {S M : St} (h3 : R3 S M) (hI : Inn M f_X11_two 2) {c x b w : Nat} (hc : c < 6) (hq : w.testBit c = true) (hx : x ≤ 5) (hb : b ≤ 255) (hw : w ≤ 63) (hp : q_ct w 0 8 ≤ 2 + 1) (hu : Us M w) (m : Int32) : f_X11_goThree M (nI x) m (nI b) (nI w) (nI c) = some (q_go M (q_B M 2) c x m b w, M) := by
  have h0 := hu c hc hq
  obtain ⟨r1, hr, r3, -⟩ := rm_e hw hc
  have hp' : q_ct (q_rm w c) 0 8 ≤ 2 := by have := (r3 hq).1; omega
  have hur := Us_rm hu hw hc
  have hpl := pl_le h3 c (Or.inr ⟨hc, h0⟩)
  have tl := tot_le h3 hc
  have bl := (be_late h3 hc h0 (q_ar M c x m)).2
  unfold f_X11_goThree
  rw [e_arr h3 hc h0 hx, obd2_s, r1, bnd_e, e_totals h3 hr, obd2_s, e_isl h3 hc h0, obd2_s]
  unfold q_go
  by_cases l : q_ar M c x m ≤ M.1 6 (6 * c + 2)
  · rw [if_pos l, if_pos rfl, if_pos l]
    have e := g3_s h3 hI hc h0 hb hw hp' hu (q_be M c (q_ar M c x m)) (ms M c) FU 0 0 (Nat.zero_add _) (by have := ms_le h3 hc; rw [FU_eq]; omega)
    rw [Int64.zero_add] at e
    exact e
  · rw [if_neg l, if_neg one0, if_neg l, e_totM h3 hc, obd2_s, e_gotN h3 hc h0, obd2_s, show 6 * nI c = nI (6 * c) from pk_mul 6 c, chk_T (ixo_nI (show 6 * c < 36 by omega) (by omega)), nI_clamp (show 6 * c < 2 ^ 31 by omega), pl_e h3 hc h0, bl l, hI _ _ _ _ hpl hb hr hp' hur, obd2_s, sub_ring, nI_l (by omega)]
theorem t3_l {S M : St} (h3 : R3 S M) (hI : Inn M f_X11_two 2) {x b w : Nat} (hx : x ≤ 5) (hb : b ≤ 255) (hw : w ≤ 63) (hp : q_ct w 0 8 ≤ 2 + 1) (hu : Us M w) (m : Int32) : ∀ (j fu c : Nat) (a : Int64), c + j = 6 → j < fu → 0 ≤ a → l_X11_three_6 fu M (nI x) m (nI b) (nI w) a (nI c) = some (q_mx (fun c => q_go M (q_B M 2) c x m b w) w j c a, M) := by
  intro j
  induction j with
  | zero =>
    intro fu c a hk hf ha
    obtain ⟨fu, rfl⟩ : ∃ q, fu = q + 1 := ⟨fu - 1, by omega⟩
    show f_X11_three_6 (l_X11_three_6 fu) M (nI x) m (nI b) (nI w) a (nI c) = _
    unfold f_X11_three_6
    rw [if_pos (show (6 : Int32) ≤ nI c from nI_le (a := 6) (by omega) (by omega))]; rfl
  | succ j ih =>
    intro fu c a hk hf ha
    obtain ⟨fu, rfl⟩ : ∃ q, fu = q + 1 := ⟨fu - 1, by omega⟩
    have hc : c < 6 := by omega
    show f_X11_three_6 (l_X11_three_6 fu) M (nI x) m (nI b) (nI w) a (nI c) = _
    unfold f_X11_three_6 f_X11_three_38 f_X11_three_55
    rw [if_neg (show ¬ (6 : Int32) ≤ nI c from nI_ge (a := c) (b := 6) (by omega) (by omega)), e_hasM M (by omega) (by omega), obd2_s, mx_step]
    simp only [bnd_e, nI_1]
    by_cases q : w.testBit c = true
    · rw [if_pos q, if_neg one0, if_pos q, e_goThree h3 hI hc q hx hb hw hp hu, obd2_s]
      by_cases z : q_go M (q_B M 2) c x m b w ≤ a
      · rw [if_pos ((lg_cmp_le _ _).mpr z), if_pos z]
        exact ih fu (c + 1) a (by omega) (by omega) ha
      · rw [if_neg (fun y => z ((lg_cmp_le _ _).mp y)), if_neg z]
        exact ih fu (c + 1) _ (by omega) (by omega) (Int64.le_trans ha (Int64.le_of_lt (Int64.not_le.mp z)))
    · rw [if_neg q, if_pos rfl, if_neg q, if_pos ((lg_cmp_le _ _).mpr ha)]
      exact ih fu (c + 1) a (by omega) (by omega) ha
theorem in_three {S M : St} (h3 : R3 S M) (hI : Inn M f_X11_two 2) : Inn M f_X11_three 3 := by
  intro x m b w hx hb hw hp hu
  exact t3_l h3 hI hx hb hw hp hu m 6 FU 0 0 rfl (by rw [FU_eq]; omega) (Int64.le_refl _)
-- going with three behind it
theorem g4_s {S M : St} (h3 : R3 S M) (hI : Inn M f_X11_three 3) {c b w : Nat} (hc : c < 6) (h0 : 0 < ms M c) (hb : b ≤ 255) (hw : w ≤ 63) (hp : q_ct (q_rm w c) 0 8 ≤ 3) (hu : Us M w) (t : Int32) : ∀ (j fu s : Nat) (acc : Int64), s + j = ms M c → j < fu →
    l_X11_going_85 fu M (nI b) (nI c) t (nI (q_rm w c)) (lN (q_uu M (q_rm w c))) acc (nI s) = some (acc + q_S (fun s => lN (q_lk M c s) * (if q_ft M b c s = true then (M.1 6 (6 * c + 3)).toInt64 * lN (q_uu M (q_rm w c)) + q_B M 3 (q_pl M c) (t + M.1 8 (16 * c + 4 * s + 1)) (nv (q_lt M b c s)) (q_rm w c)
      else q_B M 3 (q_pl M c) (t + M.1 6 (6 * c + 5)) b (q_rm w c) - (M.1 6 (6 * c + 4)).toInt64 * lN (q_uu M (q_rm w c)))) j s, M) := by
  have hm := ms_le h3 hc
  have hr := (rm_e hw hc).2.1
  have hur := Us_rm hu hw hc
  have hpl := pl_le h3 c (Or.inr ⟨hc, h0⟩)
  intro j
  induction j with
  | zero =>
    intro fu s acc hk hf
    obtain ⟨fu, rfl⟩ : ∃ q, fu = q + 1 := ⟨fu - 1, by omega⟩
    show f_X11_going_85 (l_X11_going_85 fu) M (nI b) (nI c) t _ _ acc (nI s) = _
    unfold f_X11_going_85
    rw [chk_T (ixo_nI hc (by omega)), nI_clamp (by omega), ms_e h3 hc, if_pos (nI_le (by omega) (by omega)), q_S, Int64.add_zero]
  | succ j ih =>
    intro fu s acc hk hf
    obtain ⟨fu, rfl⟩ : ∃ q, fu = q + 1 := ⟨fu - 1, by omega⟩
    have hs : s < ms M c := by omega
    have hlk := lk_rg h3 hc hs
    show f_X11_going_85 (l_X11_going_85 fu) M (nI b) (nI c) t _ _ acc (nI s) = _
    unfold f_X11_going_85 f_X11_going_172
    rw [chk_T (ixo_nI hc (by omega)), nI_clamp (show c < 2 ^ 31 by omega), ms_e h3 hc, if_neg (nI_ge (by omega) (by omega)), e_lM h3 hc hs hb, obd2_s, srt_i0, chk_T (ixo_nI (show 16 * c + 4 * s < 96 by omega) (by omega)), nI_clamp (show 16 * c + 4 * s < 2 ^ 31 by omega), hlk.1, nI_l (by omega), q_S, ← Int64.add_assoc]
    simp only [bnd_e, nI_1]
    rcases lt_or (M := M) (c := c) (s := s) hb with ⟨q, e7⟩ | ⟨q, b', hb', e7, -⟩
    · rw [e7, e_gotN h3 hc h0, obd2_s, show 6 * nI c = nI (6 * c) from pk_mul 6 c, chk_T (ixo_nI (show 6 * c < 36 by omega) (by omega)), e_thenN M hc, obd2_s, if_pos rfl, nI_clamp (show 6 * c < 2 ^ 31 by omega), pl_e h3 hc h0, hI _ _ _ _ hpl hb hr hp hur, obd2_s, sub_ring, if_neg (show ¬ q_ft M b c s = true by rw [q]; decide)]
      exact ih fu (s + 1) _ (by omega) (by omega)
    · rw [e7, e_gotD M hc (by omega), obd2_s, show 6 * nI c = nI (6 * c) from pk_mul 6 c, chk_T (ixo_nI (show 6 * c < 36 by omega) (by omega)), e_thenD M hc (by omega) (by omega), obd2_s, if_neg (m1_ne (by omega)), nI_clamp (show 6 * c < 2 ^ 31 by omega), pl_e h3 hc h0, hI _ _ _ _ hpl hb' hr hp hur, obd2_s, if_pos q, nv_nI (by omega)]
      exact ih fu (s + 1) _ (by omega) (by omega)
theorem e_going {S M : St} (h3 : R3 S M) (hI : Inn M f_X11_three 3) {c x b w : Nat} (hc : c < 6) (hq : w.testBit c = true) (hx : x ≤ 5) (hb : b ≤ 255) (hw : w ≤ 63) (hp : q_ct w 0 8 ≤ 3 + 1) (hu : Us M w) (m : Int32) : f_X11_going M (nI x) m (nI b) (nI w) (nI c) = some (q_go M (q_B M 3) c x m b w, M) := by
  have h0 := hu c hc hq
  obtain ⟨r1, hr, r3, -⟩ := rm_e hw hc
  have hp' : q_ct (q_rm w c) 0 8 ≤ 3 := by have := (r3 hq).1; omega
  have hur := Us_rm hu hw hc
  have hpl := pl_le h3 c (Or.inr ⟨hc, h0⟩)
  have tl := tot_le h3 hc
  have bl := (be_late h3 hc h0 (q_ar M c x m)).2
  unfold f_X11_going
  rw [e_arr h3 hc h0 hx, obd2_s, r1, bnd_e, e_totals h3 hr, obd2_s, e_isl h3 hc h0, obd2_s]
  unfold q_go
  by_cases l : q_ar M c x m ≤ M.1 6 (6 * c + 2)
  · rw [if_pos l, if_pos rfl, if_pos l]
    have e := g4_s h3 hI hc h0 hb hw hp' hu (q_be M c (q_ar M c x m)) (ms M c) FU 0 0 (Nat.zero_add _) (by have := ms_le h3 hc; rw [FU_eq]; omega)
    rw [Int64.zero_add] at e
    exact e
  · rw [if_neg l, if_neg one0, if_neg l, e_totM h3 hc, obd2_s, e_gotN h3 hc h0, obd2_s, show 6 * nI c = nI (6 * c) from pk_mul 6 c, chk_T (ixo_nI (show 6 * c < 36 by omega) (by omega)), nI_clamp (show 6 * c < 2 ^ 31 by omega), pl_e h3 hc h0, bl l, hI _ _ _ _ hpl hb hr hp' hur, obd2_s, sub_ring, nI_l (by omega)]
theorem t4_l {S M : St} (h3 : R3 S M) (hI : Inn M f_X11_three 3) {x b w : Nat} (hx : x ≤ 5) (hb : b ≤ 255) (hw : w ≤ 63) (hp : q_ct w 0 8 ≤ 3 + 1) (hu : Us M w) (m : Int32) : ∀ (j fu c : Nat) (a : Int64), c + j = 6 → j < fu → 0 ≤ a → l_X11_valueOf_6 fu M (nI x) m (nI b) (nI w) a (nI c) = some (q_mx (fun c => q_go M (q_B M 3) c x m b w) w j c a, M) := by
  intro j
  induction j with
  | zero =>
    intro fu c a hk hf ha
    obtain ⟨fu, rfl⟩ : ∃ q, fu = q + 1 := ⟨fu - 1, by omega⟩
    show f_X11_valueOf_6 (l_X11_valueOf_6 fu) M (nI x) m (nI b) (nI w) a (nI c) = _
    unfold f_X11_valueOf_6
    rw [if_pos (show (6 : Int32) ≤ nI c from nI_le (a := 6) (by omega) (by omega))]; rfl
  | succ j ih =>
    intro fu c a hk hf ha
    obtain ⟨fu, rfl⟩ : ∃ q, fu = q + 1 := ⟨fu - 1, by omega⟩
    have hc : c < 6 := by omega
    show f_X11_valueOf_6 (l_X11_valueOf_6 fu) M (nI x) m (nI b) (nI w) a (nI c) = _
    unfold f_X11_valueOf_6 f_X11_valueOf_38 f_X11_valueOf_55
    rw [if_neg (show ¬ (6 : Int32) ≤ nI c from nI_ge (a := c) (b := 6) (by omega) (by omega)), e_hasM M (by omega) (by omega), obd2_s, mx_step]
    simp only [bnd_e, nI_1]
    by_cases q : w.testBit c = true
    · rw [if_pos q, if_neg one0, if_pos q, e_going h3 hI hc q hx hb hw hp hu, obd2_s]
      by_cases z : q_go M (q_B M 3) c x m b w ≤ a
      · rw [if_pos ((lg_cmp_le _ _).mpr z), if_pos z]
        exact ih fu (c + 1) a (by omega) (by omega) ha
      · rw [if_neg (fun y => z ((lg_cmp_le _ _).mp y)), if_neg z]
        exact ih fu (c + 1) _ (by omega) (by omega) (Int64.le_trans ha (Int64.le_of_lt (Int64.not_le.mp z)))
    · rw [if_neg q, if_pos rfl, if_neg q, if_pos ((lg_cmp_le _ _).mpr ha)]
      exact ih fu (c + 1) a (by omega) (by omega) ha
theorem in_valueOf {S M : St} (h3 : R3 S M) (hI : Inn M f_X11_three 3) : Inn M f_X11_valueOf 4 := by
  intro x m b w hx hb hw hp hu
  exact t4_l h3 hI hx hb hw hp hu m 6 FU 0 0 rfl (by rw [FU_eq]; omega) (Int64.le_refl _)
