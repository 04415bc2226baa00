-- ===== 55: the class goes as deep; value, next
section GOING
variable {S M : St} {rec : St → Int32 → Int32 → Int32 → Int32 → Int32 → Option (Int64 × St)}
/-- what the class's inner search answers -/
def InX (S M : St) (rec : St → Int32 → Int32 → Int32 → Int32 → Int32 → Option (Int64 × St)) (n : Nat) : Prop := ∀ (c x : Nat) (m : Int32) (b w : Nat), c < 6 → w.testBit c = true → x ≤ 5 → b ≤ 255 → w ≤ 63 → q_ct w 0 8 ≤ n + 1 → Us M w → rec S (nI c) (nI x) m (nI b) (nI w) = some (q_go M (q_B M n) c x m b w, S)
theorem bl_l {n : Nat} (hI : InX S M rec n) {x b w : Nat} (hx : x ≤ 5) (hb : b ≤ 255) (hw : w ≤ 63) (hp : q_ct w 0 8 ≤ n + 1) (hu : Us M w) (m : Int32) : ∀ (j fu c : Nat) (a : Int64), c + j = 6 → j < fu → l_X3_bestLeft_18 rec fu S (nI x) m (nI b) (nI w) a (nI c) = some (q_mx (fun c => q_go M (q_B M n) c x m b w) w j c a, S) := by
  intro j
  induction j with
  | zero =>
    intro fu c a hk hf
    obtain ⟨fu, rfl⟩ : ∃ q, fu = q + 1 := ⟨fu - 1, by omega⟩
    show f_X3_bestLeft_18 rec (l_X3_bestLeft_18 rec fu) S _ _ _ _ a (nI c) = _
    unfold f_X3_bestLeft_18
    rw [if_pos (show (6 : Int32) ≤ nI c from nI_le (a := 6) (by omega) (by omega))]; rfl
  | succ j ih =>
    intro fu c a hk hf
    obtain ⟨fu, rfl⟩ : ∃ q, fu = q + 1 := ⟨fu - 1, by omega⟩
    have hc : c < 6 := by omega
    show f_X3_bestLeft_18 rec (l_X3_bestLeft_18 rec fu) S _ _ _ _ a (nI c) = _
    unfold f_X3_bestLeft_18 f_X3_bestLeft_54
    rw [if_neg (show ¬ (6 : Int32) ≤ nI c from nI_ge (a := c) (b := 6) (by omega) (by omega)), mx_step]
    simp only [bnd_e, nI_1]
    by_cases q : w.testBit c = true
    · rw [if_pos ((bit_e (by omega) (by omega)).mpr q), if_pos q, hI c x m b w hc q hx hb hw hp hu, obd2_s]
      have e : (if q_go M (q_B M n) c x m b w < a then a else q_go M (q_B M n) c x m b w) = if q_go M (q_B M n) c x m b w ≤ a then a else q_go M (q_B M n) c x m b w := by
        by_cases z : q_go M (q_B M n) c x m b w < a
        · rw [if_pos z, if_pos (Int64.le_of_lt z)]
        · rw [if_neg z]
          by_cases y : q_go M (q_B M n) c x m b w ≤ a
          · rw [if_pos y]; exact Int64.le_antisymm y (Int64.not_lt.mp z)
          · rw [if_neg y]
      rw [e]
      exact ih fu (c + 1) _ (by omega) (by omega)
    · rw [if_neg (fun z => q ((bit_e (by omega) (by omega)).mp z)), if_neg q]
      exact ih fu (c + 1) a (by omega) (by omega)
/-- and what is left brings -/
def InB (S M : St) (rec : St → Int32 → Int32 → Int32 → Int32 → Int32 → Option (Int64 × St)) (n : Nat) : Prop := ∀ (x : Nat) (m : Int32) (b w : Nat), x ≤ 5 → b ≤ 255 → w ≤ 63 → q_ct w 0 8 ≤ n → Us M w → f_X3_bestLeft rec S (nI x) m (nI b) (nI w) = some (q_B M n x m b w, S)
theorem bl_0 : InB S M rec 0 := by
  intro x m b w hx hb hw hp hu
  have hw0 : w = 0 := pc0 ⟨w, by omega⟩ (by show q_ct w 0 8 = 0; omega)
  subst hw0
  unfold f_X3_bestLeft
  rw [e_bc S (by omega), obd2_s, if_pos (show nI (q_ct 0 0 8) ≤ 4 by decide)]
  have : ∀ (j fu c : Nat), c + j = 6 → j < fu → l_X3_bestLeft_18 rec fu S (nI x) m (nI b) (nI 0) 0 (nI c) = some (0, S) := by
    intro j
    induction j with
    | zero =>
      intro fu c hk hf
      obtain ⟨fu, rfl⟩ : ∃ q, fu = q + 1 := ⟨fu - 1, by omega⟩
      show f_X3_bestLeft_18 rec (l_X3_bestLeft_18 rec fu) S _ _ _ _ 0 (nI c) = _
      unfold f_X3_bestLeft_18
      rw [if_pos (show (6 : Int32) ≤ nI c from nI_le (a := 6) (by omega) (by omega))]
    | succ j ih =>
      intro fu c hk hf
      obtain ⟨fu, rfl⟩ : ∃ q, fu = q + 1 := ⟨fu - 1, by omega⟩
      show f_X3_bestLeft_18 rec (l_X3_bestLeft_18 rec fu) S _ _ _ _ 0 (nI c) = _
      unfold f_X3_bestLeft_18 f_X3_bestLeft_54
      rw [if_neg (show ¬ (6 : Int32) ≤ nI c from nI_ge (a := c) (b := 6) (by omega) (by omega)), if_neg (fun z => by have := (bit_e (n := 0) (by omega) (show c < 32 by omega)).mp z; rw [Nat.zero_testBit] at this; cases this), bnd_e, nI_1]
      exact ih fu (c + 1) (by omega) (by omega)
  exact this 6 FU 0 rfl (by rw [FU_eq]; omega)
theorem bl_s {n : Nat} (hn : n + 1 ≤ 4) (hI : InX S M rec n) : InB S M rec (n + 1) := by
  intro x m b w hx hb hw hp hu
  unfold f_X3_bestLeft
  have := q_ct_le w 8 0
  rw [e_bc S (by omega), obd2_s, if_pos (show nI (q_ct w 0 8) ≤ 4 from nI_le (b := 4) (by omega) (by omega))]
  exact bl_l hI hx hb hw hp hu m 6 FU 0 0 rfl (by rw [FU_eq]; omega)
theorem gx_s (h2 : R2 S M) (h3 : R3 S M) {n : Nat} (hI : InB S M rec n) {c b w : Nat} (hc : c < 6) (h0 : 0 < ms M c) (hb : b ≤ 255) (hw : w ≤ 63) (hp : q_ct (q_rm w c) 0 8 ≤ n) (hu : Us M w) (t : Int32) : ∀ (j fu s F : Nat) (acc : Int64), s + j = ms M c → j < fu → F ≤ 20 * s →
    l_X3_going_114 rec fu S (nI b) ⟨c, hc⟩ (nI (q_rm w c)) (lN (q_uu M (q_rm w c))) t (nI F) acc (nI s) = some (acc + q_S (fun s => lN (q_lk M c s) * (if q_ft M b c s = true then (M.1 6 (6 * c + 3)).toInt64 * lN (q_uu M (q_rm w c)) + q_B M n (q_pl M c) (t + M.1 8 (16 * c + 4 * s + 1)) (nv (q_lt M b c s)) (q_rm w c)
      else q_B M n (q_pl M c) (t + M.1 6 (6 * c + 5)) b (q_rm w c) - (M.1 6 (6 * c + 4)).toInt64 * lN (q_uu M (q_rm w c)))) j s + lN F * (q_B M n (q_pl M c) (t + M.1 6 (6 * c + 5)) b (q_rm w c) - (M.1 6 (6 * c + 4)).toInt64 * lN (q_uu M (q_rm w c))), S) := by
  have hm := ms_le h3 hc
  have hr := (rm_e hw hc).2.1
  have hur := Us_rm hu hw hc
  have hpl := pl_le h3 c (Or.inr ⟨hc, h0⟩)
  have hS : S.1 (21 + c) 1 = nI (ms M c) := (h3.2 _ hc).2.1.trans (ms_e h3 hc)
  have c4 : S.1 (21 + c) 4 = nI (q_pl M c) := (ca_X h3 hc h0 (j := 0) (by omega)).trans (pl_e h3 hc h0)
  have c7 : S.1 (21 + c) 7 = M.1 6 (6 * c + 3) := ca_X h3 hc h0 (j := 3) (by omega)
  have c8 : S.1 (21 + c) 8 = M.1 6 (6 * c + 4) := ca_X h3 hc h0 (j := 4) (by omega)
  have c9 : S.1 (21 + c) 9 = M.1 6 (6 * c + 5) := ca_X h3 hc h0 (j := 5) (by omega)
  intro j
  induction j with
  | zero =>
    intro fu s F acc hk hf hF
    obtain ⟨fu, rfl⟩ : ∃ q, fu = q + 1 := ⟨fu - 1, by omega⟩
    show f_X3_going_114 rec (l_X3_going_114 rec fu) S (nI b) ⟨c, hc⟩ _ _ t (nI F) acc (nI s) = _
    unfold f_X3_going_114 f_X1_sorts
    rw [obd2_s]
    show (if S.1 (21 + c) 1 ≤ nI s then (if nI F = 0 then some (acc, S) else obd2 (f_X3_bestLeft rec S (S.1 (21 + c) 4) (t + S.1 (21 + c) 9) (nI b) (nI (q_rm w c))) fun r5 S5 => some (acc + (nI F).toInt64 * (r5 - (S5.1 (21 + c) 8).toInt64 * lN (q_uu M (q_rm w c))), S5)) else _) = _
    rw [hS, if_pos (nI_le (by omega) (by omega)), q_S, Int64.add_zero]
    by_cases q : F = 0
    · rw [if_pos (show nI F = 0 by rw [q]; rfl), q, lN0, Int64.zero_mul, Int64.add_zero]
    · rw [if_neg (show ¬ nI F = 0 from nI_ne0 (by omega) (by omega)), c4, c9, hI _ _ _ _ hpl hb hr hp hur, obd2_s, c8, nI_l (by omega)]
  | succ j ih =>
    intro fu s F acc hk hf hF
    obtain ⟨fu, rfl⟩ : ∃ q, fu = q + 1 := ⟨fu - 1, by omega⟩
    have hs : s < ms M c := by omega
    have hlk := lk_rg h3 hc hs
    have s0 : S.1 (33 + (4 * c + s)) 0 = nI (q_lk M c s) := (so_X h3 hc hs (by omega)).trans hlk.1
    have s1 : S.1 (33 + (4 * c + s)) 1 = M.1 8 (16 * c + 4 * s + 1) := so_X h3 hc hs (by omega)
    show f_X3_going_114 rec (l_X3_going_114 rec fu) S (nI b) ⟨c, hc⟩ _ _ t (nI F) acc (nI s) = _
    unfold f_X3_going_114 f_X1_sorts f_X3_going_216 f_X4_tools
    rw [obd2_s]
    simp only [bnd_e, nI_1]
    rw [if_neg (show ¬ S.1 (21 + c) 1 ≤ nI s by rw [hS]; exact nI_ge (by omega) (by omega)), e_stX h3 hc hs, obd2_s, oel_S, obd2_s, e_lX h3 h2 hc hs, obd2_s, q_S]
    show (if q_lt M b c s = -1 then l_X3_going_114 rec fu S (nI b) ⟨c, hc⟩ (nI (q_rm w c)) (lN (q_uu M (q_rm w c))) t (nI F + S.1 (33 + (4 * c + s)) 0) acc (nI (s + 1)) else obd2 (f_X3_bestLeft rec S (S.1 (21 + c) 4) (t + S.1 (33 + (4 * c + s)) 1) (q_lt M b c s) (nI (q_rm w c))) fun r11 S11 => l_X3_going_114 rec fu S11 (nI b) ⟨c, hc⟩ (nI (q_rm w c)) (lN (q_uu M (q_rm w c))) t (nI F) (acc + (S.1 (33 + (4 * c + s)) 0).toInt64 * ((S.1 (21 + c) 7).toInt64 * lN (q_uu M (q_rm w c)) + r11)) (nI (s + 1))) = _
    rcases lt_or (M := M) (c := c) (s := s) hb with ⟨q, e7⟩ | ⟨q, b', hb', e7, g7⟩
    · rw [if_pos e7, s0, nI_add, ih fu (s + 1) _ _ (by omega) (by omega) (by omega), if_neg (show ¬ q_ft M b c s = true by rw [q]; decide), ← lN_add, Int64.add_mul]
      generalize q_B M n (q_pl M c) (t + M.1 6 (6 * c + 5)) b (q_rm w c) - (M.1 6 (6 * c + 4)).toInt64 * lN (q_uu M (q_rm w c)) = V
      refine congrArg (fun z => some (z, S)) ?_
      rw [Int64.add_comm (lN F * V), ← Int64.add_assoc, ← Int64.add_assoc, Int64.add_assoc acc, Int64.add_comm _ (lN (q_lk M c s) * V), ← Int64.add_assoc]
    · rw [if_neg g7, c4, c7, s0, s1, e7, hI _ _ _ _ hpl hb' hr hp hur, obd2_s, ih fu (s + 1) _ _ (by omega) (by omega) (by omega), if_pos q, nI_l (by omega), nv_nI (by omega), ← Int64.add_assoc]
theorem gx_e (h2 : R2 S M) (h3 : R3 S M) {n : Nat} (hI : InB S M rec n) : InX S M (fun S x1 x2 x3 x4 x5 => f_X3_going rec S x1 x2 x3 x4 x5) n := by
  intro c x m b w hc hq hx hb hw hp hu
  have h0 := hu c hc hq
  obtain ⟨r1, hr, r3, -⟩ := rm_e hw hc
  have hp' : q_ct (q_rm w c) 0 8 ≤ n := by have := (r3 hq).1; omega
  have hur := Us_rm hu hw hc
  have hpl := pl_le h3 c (Or.inr ⟨hc, h0⟩)
  have tl := tot_le h3 hc
  have c4 : S.1 (21 + c) 4 = nI (q_pl M c) := (ca_X h3 hc h0 (j := 0) (by omega)).trans (pl_e h3 hc h0)
  have c8 : S.1 (21 + c) 8 = M.1 6 (6 * c + 4) := ca_X h3 hc h0 (j := 4) (by omega)
  show f_X3_going rec S (nI c) (nI x) m (nI b) (nI w) = _
  unfold f_X3_going f_X3_going_29
  rcases e_usN h3 (show c < 16 by omega) with ⟨no, -⟩ | ⟨_, -, e1, -⟩
  · exact absurd ⟨hc, h0⟩ no
  · rw [e1, obd2_s, r1, bnd_e, oel_S, if_neg (r3 hq).2, e_scaleOf h3 hr hur, obd2_s]
    show (obd2 (f_X4_wayBetween S (nI x) (S.1 (21 + c) 4)) _) = _
    rw [c4, e_way h2 hx hpl, obd2_s, bnd_e]
    show (obd2 (f_X1_lateAt S ⟨c, hc⟩ (q_ar M c x m)) _) = _
    rw [e_late h3 hc h0, obd2_s]
    unfold q_go
    by_cases l : q_ar M c x m ≤ M.1 6 (6 * c + 2)
    · rw [if_pos l, if_pos rfl, if_pos l]
      show (obd2 (f_X1_startedAt S ⟨c, hc⟩ (q_ar M c x m)) _) = _
      rw [q_be_X h3 hc h0, obd2_s]
      have e := gx_s h2 h3 hI hc h0 hb hw hp' hu (q_be M c (q_ar M c x m)) (ms M c) FU 0 0 0 (Nat.zero_add _) (by have := ms_le h3 hc; rw [FU_eq]; omega) (Nat.zero_le _)
      rw [Int64.zero_add, lN0, Int64.zero_mul, Int64.add_zero] at e
      exact e
    · rw [if_neg l, if_neg one0, if_neg l, e_likX h3 hc, obd2_s]
      show (obd2 (f_X3_bestLeft rec S (S.1 (21 + c) 4) (q_ar M c x m) (nI b) (nI (q_rm w c))) fun r25 S25 => some ((nI (q_tot M c)).toInt64 * (r25 - (S25.1 (21 + c) 8).toInt64 * lN (q_uu M (q_rm w c))), S25)) = _
      rw [c4, hI _ _ _ _ hpl hb hr hp' hur, obd2_s, c8, nI_l (by omega)]
end GOING
theorem gx_all {S M : St} (h2 : R2 S M) (h3 : R3 S M) : ∀ (n d : Nat), n ≤ 3 → n < d → InX S M (g_X3_going d) n := by
  intro n
  induction n with
  | zero =>
    intro d _ hd
    obtain ⟨d, rfl⟩ : ∃ q, d = q + 1 := ⟨d - 1, by omega⟩
    exact gx_e (rec := g_X3_going d) h2 h3 bl_0
  | succ n ih =>
    intro d hn hd
    obtain ⟨d, rfl⟩ : ∃ q, d = q + 1 := ⟨d - 1, by omega⟩
    exact gx_e (rec := g_X3_going d) h2 h3 (bl_s (by omega) (ih d (by omega) (by omega)))
/-- the first call by which the greatest is reached -/
def q_fi (f : Nat → Int64) (w : Nat) : Nat → Nat → Int64 → Int32 → Int32
  | 0, _, _, r => r
  | j + 1, c, a, r => if w.testBit c = true then (if f c ≤ a then q_fi f w j (c + 1) a r else q_fi f w j (c + 1) (f c) (nI c)) else q_fi f w j (c + 1) a r
theorem fi_X {S0 M : St} (h2 : R2 S0 M) (h3 : R3 S0 M) {x b w : Nat} (hx : x ≤ 5) (hb : b ≤ 255) (hw : w ≤ 63) (hp : q_ct w 0 8 ≤ 4) (hu : Us M w) (m : Int32) : ∀ (j fu c : Nat) (a : Int64) (r : Int32) (S : St), c + j = 6 → j < fu → QX S0 S → S.2.1 7 2 = a → S.1 7 1 = r → S.2.1 7 3 = lN (q_uu M w) →
    ∃ S', l_X3_find_26 fu S (nI x) m (nI b) (nI w) (nI c) = some S' ∧ QX S0 S' ∧ S'.2.1 7 2 = q_mx (fun c => q_go M (q_B M 3) c x m b w) w j c a ∧ S'.1 7 1 = q_fi (fun c => q_go M (q_B M 3) c x m b w) w j c a r ∧ S'.2.1 7 3 = lN (q_uu M w) := by
  intro j
  induction j with
  | zero =>
    intro fu c a r S hk hf hK e2 e1 e3
    obtain ⟨fu, rfl⟩ : ∃ q, fu = q + 1 := ⟨fu - 1, by omega⟩
    show ∃ S', f_X3_find_26 (l_X3_find_26 fu) S _ _ _ _ (nI c) = _ ∧ _
    unfold f_X3_find_26
    rw [if_pos (show (6 : Int32) ≤ nI c from nI_le (a := 6) (by omega) (by omega))]
    exact ⟨S, rfl, hK, e2, e1, e3⟩
  | succ j ih =>
    intro fu c a r S hk hf hK e2 e1 e3
    obtain ⟨fu, rfl⟩ : ∃ q, fu = q + 1 := ⟨fu - 1, by omega⟩
    have hc : c < 6 := by omega
    have r2 := R2_fr hK.fs (FM.rf M) h2
    have r3 := R3_fr hK.fs (FM.rf M) h3
    show ∃ S', f_X3_find_26 (l_X3_find_26 fu) S _ _ _ _ (nI c) = _ ∧ _
    unfold f_X3_find_26 f_X3_find_84
    rw [if_neg (show ¬ (6 : Int32) ≤ nI c from nI_ge (a := c) (b := 6) (by omega) (by omega)), mx_step, q_fi]
    simp only [bnd_e, nI_1]
    by_cases q : w.testBit c = true
    · have g := gx_all r2 r3 3 6 (by omega) (by omega) c x m b w hc q hx hb hw hp hu
      rw [if_neg (fun z => by rw [bit_e0 (by omega) (by omega), q] at z; cases z), g, obd2_s, if_pos q, if_pos q, e2]
      by_cases l : q_go M (q_B M 3) c x m b w ≤ a
      · rw [if_pos ((lg_cmp_le _ _).mpr l), if_pos l, if_pos l]
        exact ih fu (c + 1) a r S (by omega) (by omega) hK e2 e1 e3
      · rw [if_neg (fun y => l ((lg_cmp_le _ _).mp y)), if_neg l, if_neg l]
        refine ih fu (c + 1) _ _ _ (by omega) (by omega) (hK.tr ((QX_L 7 2 _).tr (QX_I 7 1 _ (by omega)))) ?_ si_eq ?_
        · rw [si_2, sl_eq]
        · rw [si_2, sl_nj (by omega)]; exact e3
    · rw [if_pos ((bit_e0 (by omega) (by omega)).mpr (Bool.eq_false_iff.mpr q)), if_neg q, if_neg q]
      exact ih fu (c + 1) a r S (by omega) (by omega) hK e2 e1 e3
theorem e_find {S M : St} (h2 : R2 S M) (h3 : R3 S M) {x b w : Nat} (hx : x ≤ 5) (hb : b ≤ 255) (hw : w ≤ 63) (hp : q_ct w 0 8 ≤ 4) (hu : Us M w) (m : Int32) : ∃ S', f_X3_find S (nI x) m (nI b) (nI w) = some S' ∧ QX S S' ∧ S'.2.1 7 2 = q_B M 4 x m b w ∧ S'.1 7 1 = q_fi (fun c => q_go M (q_B M 3) c x m b w) w 6 0 0 (-1) ∧ S'.2.1 7 3 = lN (q_uu M w) := by
  unfold f_X3_find
  have k1 : QX S (setL (setI S 7 1 (-1)) 7 2 0) := (QX_I 7 1 _ (by omega)).tr (QX_L 7 2 _)
  rw [bnd_e, bnd_e, e_scaleOf (R3_fr k1.fs (FM.rf M) h3) hw hu, obd2_s, bnd_e]
  refine fi_X h2 h3 hx hb hw hp hu m 6 FU 0 0 (-1) _ rfl (by rw [FU_eq]; omega) (k1.tr (QX_L 7 3 _)) ?_ ?_ sl_eq
  · rw [sl_nj (by omega), sl_eq]
  · rw [sl_1, sl_1, si_eq]
theorem fi_mx (f : Nat → Int64) (w : Nat) : ∀ (j c : Nat) (a : Int64) (r : Int32), (q_mx f w j c a = a ∧ q_fi f w j c a r = r ∧ ∀ d, c ≤ d → d < c + j → w.testBit d = true → f d ≤ a) ∨
    (a < q_mx f w j c a ∧ ∃ d, c ≤ d ∧ d < c + j ∧ w.testBit d = true ∧ f d = q_mx f w j c a ∧ q_fi f w j c a r = nI d ∧ ∀ e, c ≤ e → e < d → w.testBit e = true → f e < q_mx f w j c a) := by
  intro j
  induction j with
  | zero => intro c a r; exact Or.inl ⟨rfl, rfl, fun d h1 h2 => by omega⟩
  | succ j ih =>
    intro c a r
    rw [mx_step, q_fi]
    by_cases q : w.testBit c = true
    · rw [if_pos q, if_pos q]
      by_cases l : f c ≤ a
      · rw [if_pos l, if_pos l]
        rcases ih (c + 1) a r with ⟨h1, h2, h3⟩ | ⟨h1, d, d1, d2, d3, d4, d5, d6⟩
        · refine Or.inl ⟨h1, h2, fun d e1 e2 e3 => ?_⟩
          by_cases z : d = c
          · rw [z]; exact l
          · exact h3 d (by omega) (by omega) e3
        · refine Or.inr ⟨h1, d, by omega, by omega, d3, d4, d5, fun e e1 e2 e3 => ?_⟩
          by_cases z : e = c
          · rw [z]; exact Int64.lt_of_le_of_lt l h1
          · exact d6 e (by omega) e2 e3
      · have l2 := Int64.not_le.mp l
        rw [if_neg l, if_neg l]
        right
        rcases ih (c + 1) (f c) (nI c) with ⟨h1, h2, h3⟩ | ⟨h1, d, d1, d2, d3, d4, d5, d6⟩
        · rw [h1]
          exact ⟨l2, c, Nat.le_refl _, by omega, q, rfl, h2, fun e e1 e2 _ => by omega⟩
        · refine ⟨Int64.lt_of_le_of_lt (Int64.le_of_lt l2) h1, d, by omega, by omega, d3, d4, d5, fun e e1 e2 e3 => ?_⟩
          by_cases z : e = c
          · rw [z]; exact h1
          · exact d6 e (by omega) e2 e3
    · rw [if_neg q, if_neg q]
      rcases ih (c + 1) a r with ⟨h1, h2, h3⟩ | ⟨h1, d, d1, d2, d3, d4, d5, d6⟩
      · refine Or.inl ⟨h1, h2, fun d e1 e2 e3 => ?_⟩
        by_cases z : d = c
        · rw [z] at e3; exact absurd e3 q
        · exact h3 d (by omega) (by omega) e3
      · refine Or.inr ⟨h1, d, by omega, by omega, d3, d4, d5, fun e e1 e2 e3 => ?_⟩
        by_cases z : e = c
        · rw [z] at e3; exact absurd e3 q
        · exact d6 e (by omega) e2 e3
theorem nx_0 (M : St) (x1 x2 x3 x4 : Int32) : ∀ (j fu c : Nat), c + j = 6 → j < fu → l_X11_next_33 fu M x1 x2 x3 x4 0 (nI c) = some (-1, M) := by
  intro j fu c hk hf
  obtain ⟨fu, rfl⟩ : ∃ q, fu = q + 1 := ⟨fu - 1, by omega⟩
  show f_X11_next_33 (l_X11_next_33 fu) M x1 x2 x3 x4 0 (nI c) = _
  unfold f_X11_next_33
  rw [if_pos (show lg_cmp 0 0 ≤ 0 from (lg_cmp_le _ _).mpr (Int64.le_refl _)), ite_self]
theorem nx_M {S M : St} (h3 : R3 S M) {x b w : Nat} (hx : x ≤ 5) (hb : b ≤ 255) (hw : w ≤ 63) (hp : q_ct w 0 8 ≤ 4) (hu : Us M w) (m : Int32) (V : Int64) (hV : 0 < V) (d : Nat) (hd : d < 6) (hq : w.testBit d = true) (hd2 : q_go M (q_B M 3) d x m b w = V) (hl : ∀ e, e < d → w.testBit e = true → q_go M (q_B M 3) e x m b w < V) : ∀ (j fu c : Nat), c + j = d → j < fu → l_X11_next_33 fu M (nI x) m (nI b) (nI w) V (nI c) = some (nI d, M) := by
  have i3 : Inn M f_X11_three 3 := in_three h3 (in_two h3 (in_one h3))
  intro j
  induction j with
  | zero =>
    intro fu c hk hf
    obtain ⟨fu, rfl⟩ : ∃ q, fu = q + 1 := ⟨fu - 1, by omega⟩
    have : c = d := by omega
    subst this
    show f_X11_next_33 (l_X11_next_33 fu) M _ _ _ _ V (nI c) = _
    unfold f_X11_next_33
    rw [if_neg (show ¬ (6 : Int32) ≤ nI c from nI_ge (a := c) (b := 6) (by omega) (by omega)), if_neg (fun z => absurd hV (Int64.not_lt.mpr ((lg_cmp_le _ _).mp z))), e_hasM M (by omega) (by omega), obd2_s, if_pos hq, if_neg one0, e_going h3 i3 hd hq hx hb hw hp hu, obd2_s, if_pos ((lg_cmp_eq _ _).mpr hd2)]
  | succ j ih =>
    intro fu c hk hf
    obtain ⟨fu, rfl⟩ : ∃ q, fu = q + 1 := ⟨fu - 1, by omega⟩
    show f_X11_next_33 (l_X11_next_33 fu) M _ _ _ _ V (nI c) = _
    unfold f_X11_next_33 f_X11_next_77
    rw [if_neg (show ¬ (6 : Int32) ≤ nI c from nI_ge (a := c) (b := 6) (by omega) (by omega)), if_neg (fun z => absurd hV (Int64.not_lt.mpr ((lg_cmp_le _ _).mp z))), e_hasM M (by omega) (by omega), obd2_s]
    simp only [bnd_e, nI_1]
    by_cases q : w.testBit c = true
    · rw [if_pos q, if_neg one0, e_going h3 i3 (by omega) q hx hb hw hp hu, obd2_s, if_neg (fun z => absurd (hl c (by omega) q) (by rw [(lg_cmp_eq _ _).mp z]; exact Int64.lt_irrefl))]
      exact ih fu (c + 1) (by omega) (by omega)
    · rw [if_neg q, if_pos rfl]
      exact ih fu (c + 1) (by omega) (by omega)
-- what is refused
theorem rn_M {S M : St} (h3 : R3 S M) (x1 x2 x3 x4 : Int32) : ∀ (j fu c : Nat) (kn mn : Int32), c + j = 6 → j < fu →
    ∃ kn' mn' fv, l_X11_refusesNow_9 fu M x1 x2 x3 x4 kn mn (nI c) = f_X11_refusesNow_9 (l_X11_refusesNow_9 fv) M x1 x2 x3 x4 kn' mn' (nI 6) ∧
      ∀ w, w ≤ 63 → x4 = nI w → (kn = 0 → kn' = 0) ∧ (kn = 1 → (kn' = 1 ∧ ∀ d, c ≤ d → d < 6 → w.testBit d = true → 0 < ms M d) ∨ (kn' = 0 ∧ ∃ d, c ≤ d ∧ d < 6 ∧ w.testBit d = true ∧ ¬ 0 < ms M d)) ∧ ∀ a, mn = nI a → mn' = nI (a + q_ct w c j) := by
  intro j
  induction j with
  | zero =>
    intro fu c kn mn hk hf
    obtain ⟨fu, rfl⟩ : ∃ q, fu = q + 1 := ⟨fu - 1, by omega⟩
    have : c = 6 := by omega
    subst this
    exact ⟨kn, mn, fu, rfl, fun w hw _ => ⟨id, fun h => Or.inl ⟨h, fun d a b => by omega⟩, fun a h => h⟩⟩
  | succ j ih =>
    intro fu c kn mn hk hf
    obtain ⟨fu, rfl⟩ : ∃ q, fu = q + 1 := ⟨fu - 1, by omega⟩
    have hc : c < 6 := by omega
    have ge : ¬ (6 : Int32) ≤ nI c := nI_ge (a := c) (b := 6) (by omega) (by omega)
    have hx : f_X11_has M x4 (nI c) = some (if ((x4 >>> (nI c &&& 31)) &&& 1) = 1 then 1 else 0, M) := by
      unfold f_X11_has
      by_cases q : ((x4 >>> (nI c &&& 31)) &&& 1) = 1
      · rw [if_pos q, if_pos q]
      · rw [if_neg q, if_neg q]
    have bw : ∀ w, w ≤ 63 → x4 = nI w → (((x4 >>> (nI c &&& 31)) &&& 1) = 1 ↔ w.testBit c = true) := fun w hw e => by rw [e]; exact bit_e (by omega) (by omega)
    -- one step
    have st : ∃ kn1 mn1, l_X11_refusesNow_9 (fu + 1) M x1 x2 x3 x4 kn mn (nI c) = l_X11_refusesNow_9 fu M x1 x2 x3 x4 kn1 mn1 (nI (c + 1)) ∧ (((x4 >>> (nI c &&& 31)) &&& 1) = 1 → mn1 = mn + 1) ∧ (¬ ((x4 >>> (nI c &&& 31)) &&& 1) = 1 → mn1 = mn) ∧ (kn = 0 → kn1 = 0) ∧ (¬ kn = 0 → ¬ ((x4 >>> (nI c &&& 31)) &&& 1) = 1 → kn1 = 1) ∧ (¬ kn = 0 → ((x4 >>> (nI c &&& 31)) &&& 1) = 1 → (0 < ms M c → kn1 = 1) ∧ (¬ 0 < ms M c → kn1 = 0)) := by
      show ∃ kn1 mn1, f_X11_refusesNow_9 (l_X11_refusesNow_9 fu) M x1 x2 x3 x4 kn mn (nI c) = _ ∧ _
      unfold f_X11_refusesNow_9 f_X11_refusesNow_44 f_X11_refusesNow_40 f_X11_refusesNow_45 f_X11_refusesNow_64
      rw [if_neg ge]
      simp only [bnd_e, nI_1]
      have ez : ∀ z : Int32, z + 0 = z := fun z => Int32.add_zero z
      by_cases k0 : kn = 0
      · rw [if_pos k0, hx, obd2_s]
        by_cases q : ((x4 >>> (nI c &&& 31)) &&& 1) = 1
        · rw [if_pos q, if_neg one0]
          exact ⟨0, mn + 1, rfl, fun _ => rfl, fun z => absurd q z, fun _ => rfl, fun z => absurd k0 z, fun z => absurd k0 z⟩
        · rw [if_neg q, if_pos rfl, ez]
          exact ⟨0, mn, rfl, fun z => absurd z q, fun _ => rfl, fun _ => rfl, fun z => absurd k0 z, fun z => absurd k0 z⟩
      · rw [if_neg k0, hx, obd2_s]
        by_cases q : ((x4 >>> (nI c &&& 31)) &&& 1) = 1
        · rw [if_pos q, if_neg one0]
          rcases e_usN h3 (show c < 16 by omega) with ⟨no, -, h1⟩ | ⟨_, h0, -, h1⟩
          · rw [h1, obd2_s, if_pos rfl, hx, obd2_s, if_pos q, if_neg one0]
            exact ⟨0, mn + 1, rfl, fun _ => rfl, fun z => absurd q z, fun z => absurd z k0, fun _ z => absurd q z, fun _ _ => ⟨fun z => absurd ⟨hc, z⟩ no, fun _ => rfl⟩⟩
          · rw [h1, obd2_s, if_neg one0, hx, obd2_s, if_pos q, if_neg one0]
            exact ⟨1, mn + 1, rfl, fun _ => rfl, fun z => absurd q z, fun z => absurd z k0, fun _ z => absurd q z, fun _ _ => ⟨fun _ => rfl, fun z => absurd h0 z⟩⟩
        · rw [if_neg q, if_pos rfl, hx, obd2_s, if_neg q, if_pos rfl, ez]
          exact ⟨1, mn, rfl, fun z => absurd z q, fun _ => rfl, fun z => absurd z k0, fun _ _ => rfl, fun _ z => absurd z q⟩
    obtain ⟨kn1, mn1, e, s1, s2, s3, s4, s5⟩ := st
    obtain ⟨kn', mn', fv, e2, hW⟩ := ih fu (c + 1) kn1 mn1 (by omega) (by omega)
    refine ⟨kn', mn', fv, e.trans e2, fun w hw ew => ?_⟩
    obtain ⟨w1, w2, w3⟩ := hW w hw ew
    have bb := bw w hw ew
    refine ⟨fun h => w1 (s3 h), fun h => ?_, fun a h => ?_⟩
    · have hne : ¬ kn = 0 := by rw [h]; exact one0
      by_cases q : ((x4 >>> (nI c &&& 31)) &&& 1) = 1
      · by_cases h0 : 0 < ms M c
        · rcases w2 ((s5 hne q).1 h0) with ⟨a1, a2⟩ | ⟨a1, d, d1, d2⟩
          · refine Or.inl ⟨a1, fun d b1 b2 b3 => ?_⟩
            by_cases z : d = c
            · rw [z]; exact h0
            · exact a2 d (by omega) b2 b3
          · exact Or.inr ⟨a1, d, by omega, d2⟩
        · exact Or.inr ⟨w1 ((s5 hne q).2 h0), c, Nat.le_refl _, hc, bb.mp q, h0⟩
      · rcases w2 (s4 hne q) with ⟨a1, a2⟩ | ⟨a1, d, d1, d2⟩
        · refine Or.inl ⟨a1, fun d b1 b2 b3 => ?_⟩
          by_cases z : d = c
          · rw [z] at b3; exact absurd (bb.mpr b3) q
          · exact a2 d (by omega) b2 b3
        · exact Or.inr ⟨a1, d, by omega, d2⟩
    · rw [q_ct]
      by_cases q : ((x4 >>> (nI c &&& 31)) &&& 1) = 1
      · rw [if_pos (bb.mp q), ← Nat.add_assoc]
        exact w3 (a + 1) (by rw [s1 q, h, nI_1])
      · rw [if_neg (fun z => q (bb.mpr z)), Nat.zero_add]
        exact w3 a (by rw [s2 q, h])
theorem ct6 : ∀ w : Fin 64, q_ct w.val 0 6 = q_ct w.val 0 8 := by decide +kernel
theorem rn_X {S M : St} (h3 : R3 S M) {w : Nat} (hw : w ≤ 63) (z : Int32) : ∀ (j fu c : Nat), c + j = 6 → j < fu →
    ((∃ d, c ≤ d ∧ d < 6 ∧ w.testBit d = true ∧ ¬ 0 < ms M d) ∧ l_X10_refusalNow_28 fu S (nI w) z (nI c) = some (-2, S)) ∨
    ((∀ d, c ≤ d → d < 6 → w.testBit d = true → 0 < ms M d) ∧ l_X10_refusalNow_28 fu S (nI w) z (nI c) = some (if 4 < q_ct w 0 8 then -3 else if z = 0 then -3 else 0, S)) := by
  intro j
  induction j with
  | zero =>
    intro fu c hk hf
    obtain ⟨fu, rfl⟩ : ∃ q, fu = q + 1 := ⟨fu - 1, by omega⟩
    right
    refine ⟨fun d a b => by omega, ?_⟩
    show f_X10_refusalNow_28 (l_X10_refusalNow_28 fu) S (nI w) z (nI c) = _
    unfold f_X10_refusalNow_28 f_X10_refusalNow_78
    have hl := q_ct_le w 8 0
    rw [if_pos (show (6 : Int32) ≤ nI c from nI_le (a := 6) (by omega) (by omega)), e_bc S (by omega), obd2_s]
    by_cases q : 4 < q_ct w 0 8
    · rw [if_pos (show (4 : Int32) < nI (q_ct w 0 8) from nI_lt (a := 4) q (by omega)), if_pos q]
    · rw [if_neg (show ¬ (4 : Int32) < nI (q_ct w 0 8) from nI_nlt (a := 4) (by omega) (by omega)), if_neg q]
      by_cases y : z = 0
      · rw [if_pos y, if_pos y]
      · rw [if_neg y, if_neg y]
  | succ j ih =>
    intro fu c hk hf
    obtain ⟨fu, rfl⟩ : ∃ q, fu = q + 1 := ⟨fu - 1, by omega⟩
    have hc : c < 6 := by omega
    show (_ ∧ f_X10_refusalNow_28 (l_X10_refusalNow_28 fu) S (nI w) z (nI c) = _) ∨ (_ ∧ f_X10_refusalNow_28 (l_X10_refusalNow_28 fu) S (nI w) z (nI c) = _)
    unfold f_X10_refusalNow_28 f_X10_refusalNow_60
    simp only [bnd_e, nI_1]
    rw [if_neg (show ¬ (6 : Int32) ≤ nI c from nI_ge (a := c) (b := 6) (by omega) (by omega))]
    have go : (w.testBit c = true → 0 < ms M c) → ((∃ d, c ≤ d ∧ d < 6 ∧ w.testBit d = true ∧ ¬ 0 < ms M d) ∧ l_X10_refusalNow_28 fu S (nI w) z (nI (c + 1)) = some (-2, S)) ∨
        ((∀ d, c ≤ d → d < 6 → w.testBit d = true → 0 < ms M d) ∧ l_X10_refusalNow_28 fu S (nI w) z (nI (c + 1)) = some (if 4 < q_ct w 0 8 then -3 else if z = 0 then -3 else 0, S)) := by
      intro h
      rcases ih fu (c + 1) (by omega) (by omega) with ⟨⟨d, d1, d2⟩, e⟩ | ⟨a, e⟩
      · exact Or.inl ⟨⟨d, by omega, d2⟩, e⟩
      · refine Or.inr ⟨fun d d1 d2 d3 => ?_, e⟩
        by_cases y : d = c
        · rw [y] at d3 ⊢; exact h d3
        · exact a d (by omega) d2 d3
    by_cases q : w.testBit c = true
    · rw [if_pos ((bit_e (by omega) (by omega)).mpr q)]
      rcases e_usN h3 (show c < 16 by omega) with ⟨no, h1, -⟩ | ⟨_, h0, h1, -⟩
      · rw [h1, obd2_s, oel_N]
        exact Or.inl ⟨⟨c, Nat.le_refl _, hc, q, fun y => no ⟨hc, y⟩⟩, rfl⟩
      · rw [h1, obd2_s, oel_S]
        exact go (fun _ => h0)
    · rw [if_neg (fun y => q ((bit_e (by omega) (by omega)).mp y))]
      exact go (fun y => absurd y q)
theorem e_now {S M : St} (h3 : R3 S M) (x m bg st : Int32) : ∃ r, f_X11_refusesNow M x m bg st = some (r, M) ∧
    (((r = -2 ∨ r = -3) ∧ ∀ z, f_X10_refusalNow S x st z = some (r, S)) ∨
     (r = -3 ∧ ¬ (inB m 1439 = true ∧ inB bg 255 = true) ∧ f_X10_refusalNow S x st 0 = some (-3, S)) ∨
     (r = 0 ∧ inB m 1439 = true ∧ f_X10_refusalNow S x st 0 = some (-3, S) ∧ f_X10_refusalNow S x st 1 = some (0, S) ∧ ∃ x' b' w, x = nI x' ∧ x' ≤ 5 ∧ bg = nI b' ∧ b' ≤ 255 ∧ st = nI w ∧ w ≤ 63 ∧ q_ct w 0 8 ≤ 4 ∧ Us M w)) := by
  obtain ⟨kn, mn, fv, e, hW⟩ := rn_M h3 x m bg st 6 FU 0 1 0 rfl (by rw [FU_eq]; omega)
  have e : f_X11_refusesNow M x m bg st = _ := e
  rw [e]
  unfold f_X11_refusesNow_9 f_X11_refusesNow_139
  have eR : ∀ z, f_X10_refusalNow S x st z = if inB x 5 = true then (if inB st 63 = true then l_X10_refusalNow_28 FU S st z 0 else some (-3, S)) else some (-2, S) := by
    intro z
    unfold f_X10_refusalNow
    rw [e_within S x 5 5 rfl, obd2_s]
    by_cases q : inB x 5 = true
    · rw [if_pos q, if_neg one0, if_pos q, e_within S st 63 63 rfl, obd2_s]
      by_cases q2 : inB st 63 = true
      · rw [if_pos q2, if_neg one0, if_pos q2]
      · rw [if_neg q2, if_pos rfl, if_neg q2]
    · rw [if_neg q, if_pos rfl, if_neg q]
  rw [if_pos (show (6 : Int32) ≤ nI 6 by decide), e_in M x 5 5 rfl, obd2_s]
  by_cases hx : inB x 5 = true
  · obtain ⟨x', x5, xl, rfl⟩ := inB_nI hx
    rw [if_pos hx, if_neg one0, e_in M st 63 63 rfl, obd2_s]
    by_cases hs : inB st 63 = true
    · obtain ⟨w, w6, wl, rfl⟩ := inB_nI hs
      have eR : ∀ z, f_X10_refusalNow S (nI x') (nI w) z = l_X10_refusalNow_28 FU S (nI w) z 0 := fun z => by rw [eR, if_pos hx, if_pos hs]
      rw [if_pos hs, if_neg one0]
      obtain ⟨-, w2, w3⟩ := hW w w6 rfl
      have em : mn = nI (q_ct w 0 8) := by
        have := w3 0 rfl
        rw [Nat.zero_add] at this
        rw [this]
        exact congrArg nI (ct6 ⟨w, by omega⟩)
      have hX := fun z => rn_X h3 w6 z 6 FU 0 rfl (by rw [FU_eq]; omega)
      have hX : ∀ z, ((∃ d, 0 ≤ d ∧ d < 6 ∧ w.testBit d = true ∧ ¬ 0 < ms M d) ∧ l_X10_refusalNow_28 FU S (nI w) z 0 = some (-2, S)) ∨ ((∀ d, 0 ≤ d → d < 6 → w.testBit d = true → 0 < ms M d) ∧ l_X10_refusalNow_28 FU S (nI w) z 0 = some (if 4 < q_ct w 0 8 then -3 else if z = 0 then -3 else 0, S)) := hX
      rcases w2 rfl with ⟨k1, hu⟩ | ⟨k0, d, -, d2, d3, d4⟩
      · have hX : ∀ z, l_X10_refusalNow_28 FU S (nI w) z 0 = some (if 4 < q_ct w 0 8 then -3 else if z = 0 then -3 else 0, S) := by
          intro z
          rcases hX z with ⟨⟨d, -, d2, d3, d4⟩, -⟩ | ⟨-, y⟩
          · exact absurd (hu d (Nat.zero_le _) d2 d3) d4
          · exact y
        rw [k1, if_neg one0, e_in M m 1439 1439 rfl, obd2_s, eR, eR, hX, hX]
        have hl := q_ct_le w 8 0
        by_cases hm : inB m 1439 = true
        · rw [if_pos hm, if_neg one0, e_isBagM, obd2_s]
          by_cases hb : inB bg 255 = true
          · obtain ⟨b', b5, bl, rfl⟩ := inB_nI hb
            rw [if_pos hb, if_neg one0, em]
            by_cases q : 4 < q_ct w 0 8
            · rw [if_neg (show ¬ nI (q_ct w 0 8) ≤ 4 from nI_ge (a := 4) q (by omega))]
              refine ⟨-3, rfl, Or.inl ⟨Or.inr rfl, fun z => ?_⟩⟩
              rw [eR, hX, if_pos q]
            · rw [if_pos (show nI (q_ct w 0 8) ≤ 4 from nI_le (b := 4) (by omega) (by omega))]
              refine ⟨0, rfl, Or.inr (Or.inr ⟨rfl, hm, ?_, ?_, x', b', w, rfl, x5, rfl, b5, rfl, w6, by omega, fun c hc hq => hu c (Nat.zero_le _) hc hq⟩)⟩
              · rw [if_neg q, if_pos rfl]
              · rw [if_neg q, if_neg one0]
          · rw [if_neg hb, if_pos rfl]
            refine ⟨-3, rfl, Or.inr (Or.inl ⟨rfl, fun z => hb z.2, ?_⟩)⟩
            rw [if_pos rfl, ite_self]
        · rw [if_neg hm, if_pos rfl]
          refine ⟨-3, rfl, Or.inr (Or.inl ⟨rfl, fun z => hm z.1, ?_⟩)⟩
          rw [if_pos rfl, ite_self]
      · rw [k0, if_pos rfl]
        refine ⟨-2, rfl, Or.inl ⟨Or.inl rfl, fun z => ?_⟩⟩
        rcases hX z with ⟨-, y⟩ | ⟨y, -⟩
        · exact (eR z).trans y
        · exact absurd (y d (Nat.zero_le _) d2 d3) d4
    · rw [if_neg hs, if_pos rfl]
      exact ⟨-3, rfl, Or.inl ⟨Or.inr rfl, fun z => by rw [eR, if_pos hx, if_neg hs]⟩⟩
  · rw [if_neg hx, if_pos rfl]
    exact ⟨-2, rfl, Or.inl ⟨Or.inl rfl, fun z => by rw [eR, if_neg hx]⟩⟩
theorem uu_rg {S M : St} (h3 : R3 S M) {w : Nat} (hu : Us M w) : 1 ≤ q_uu M w ∧ q_uu M w ≤ 262144000000 := by
  have h : ∀ j c, c + j = 6 → 1 ≤ q_U M w j c ∧ q_U M w j c ≤ 80 ^ j := by
    intro j
    induction j with
    | zero => intro c _; exact ⟨Nat.le_refl _, Nat.le_refl _⟩
    | succ j ih =>
      intro c hc
      obtain ⟨i1, i2⟩ := ih (c + 1) (by omega)
      have t : 1 ≤ (if w.testBit c = true then q_tot M c else 1) ∧ (if w.testBit c = true then q_tot M c else 1) ≤ 80 := by
        by_cases q : w.testBit c = true
        · rw [if_pos q]; exact ⟨tot_pos h3 (by omega) (hu c (by omega) q), tot_le h3 (by omega)⟩
        · rw [if_neg q]; omega
      rw [q_U]
      refine ⟨Nat.mul_le_mul t.1 i1, ?_⟩
      rw [Nat.pow_succ, Nat.mul_comm (80 ^ j)]
      exact Nat.mul_le_mul t.2 i2
  obtain ⟨a, b⟩ := h 6 0 rfl
  exact ⟨a, Nat.le_trans b (by decide)⟩
theorem st_value : PS_value RI := by
  intro S M h x m bg st p
  have hR := h
  obtain ⟨-, h2, h3, -⟩ := h
  obtain ⟨r, eM, hr⟩ := e_now h3 x m bg st
  unfold f_X10_value f_X11_value f_X10_value_34
  rw [e_within S m 1439 1439 rfl, obd2_s, e_isBagX, obd2_s, e_isPartX, obd2_s, eM, obd2_s, e_isPartM, obd2_s]
  have z2 : ¬ (-2 : Int32) = 0 := m2n
  rcases hr with ⟨hr, hz⟩ | ⟨rfl, hn, hz⟩ | ⟨rfl, hm, hz0, hz1, x', b', w, rfl, x5, rfl, b5, rfl, w6, hp, hu⟩
  · have rn : ¬ r = 0 := hr.elim (fun e => by rw [e]; exact m2n) (fun e => by rw [e]; exact m3n)
    have key : ∀ z, f_X10_value_35 S x m bg st p x st z = some ((-9000000000000000000) - r.toInt64, S) := by
      intro z
      unfold f_X10_value_35
      rw [hz z, obd2_s, if_neg rn]
    rw [key, key, ite_self, ite_self, ite_self, if_neg rn]
    have e2 : f_X11_value_24 M r = some ((-9000000000000000000) - r.toInt64, M) := by
      unfold f_X11_value_24
      rcases hr with rfl | rfl
      · rw [if_pos rfl]; rfl
      · rw [if_neg (by decide)]; rfl
    rw [e2]
    exact ⟨_, _, _, rfl, rfl, hR⟩
  · have k0 : f_X10_value_35 S x m bg st p x st 0 = some (-8999999999999999997, S) := by
      unfold f_X10_value_35
      rw [hz, obd2_s, if_neg m3n]; rfl
    have e2 : f_X11_value_24 M (-3) = some (-8999999999999999997, M) := by
      unfold f_X11_value_24
      rw [if_neg (by decide)]
    rw [k0, if_neg m3n, e2]
    refine ⟨_, S, M, ?_, rfl, hR⟩
    by_cases hm : inB m 1439 = true
    · rw [if_pos hm, if_neg one0]
      by_cases hb : inB bg 255 = true
      · exact absurd ⟨hm, hb⟩ hn
      · rw [if_neg hb, if_pos rfl]
    · rw [if_neg hm, if_pos rfl]
  · have k0 : f_X10_value_35 S (nI x') m (nI b') (nI w) p (nI x') (nI w) 0 = some (-8999999999999999997, S) := by
      unfold f_X10_value_35
      rw [hz0, obd2_s, if_neg m3n]; rfl
    rw [k0, if_pos hm, if_neg one0, if_pos (inB_of b5 (by omega)), if_neg one0, if_pos rfl]
    by_cases hpp : inB p 1 = true
    · obtain ⟨S1, e1, q1, c2, -, c3⟩ := e_find h2 h3 x5 b5 w6 hp hu m
      have i3 : Inn M f_X11_valueOf 4 := in_valueOf h3 (in_three h3 (in_two h3 (in_one h3)))
      obtain ⟨u1, u2⟩ := uu_rg h3 hu
      obtain ⟨v, l1, l2⟩ := low_e S1 M (q_B M 4 x' m b' w) (lN (q_uu M w)) p (by rw [lN_ti' (by omega)]; omega) (by rw [lN_ti' (by omega)]; omega)
      rw [if_pos hpp, if_neg one0, if_neg one0, i3 x' m b' w x5 b5 w6 hp hu, obd2_s, e_totals h3 w6, obd2_s, l2, obd2_s]
      unfold f_X10_value_35 f_X3_worth f_X3_scale
      rw [hz1, obd2_s, if_pos rfl, e1, obd_S, obd2_s, obd2_s, c2, c3, l1, obd2_s]
      exact ⟨_, _, _, rfl, rfl, RI_K q1 (QM.rf M) hR⟩
    · rw [if_neg hpp, if_pos rfl, if_pos rfl]
      unfold f_X11_value_24
      rw [if_neg (by decide)]
      exact ⟨_, _, _, rfl, rfl, hR⟩
theorem st_next : PS_next RI := by
  intro S M h x m bg st
  have hR := h
  obtain ⟨-, h2, h3, -⟩ := h
  obtain ⟨r, eM, hr⟩ := e_now h3 x m bg st
  unfold f_X10_next f_X11_next f_X10_next_26
  rw [e_within S m 1439 1439 rfl, obd2_s, e_isBagX, obd2_s, eM, obd2_s]
  rcases hr with ⟨hr, hz⟩ | ⟨rfl, hn, hz⟩ | ⟨rfl, hm, hz0, hz1, x', b', w, rfl, x5, rfl, b5, rfl, w6, hp, hu⟩
  · have rn : ¬ r = 0 := hr.elim (fun e => by rw [e]; exact m2n) (fun e => by rw [e]; exact m3n)
    have key : ∀ z, f_X10_next_27 S x m bg st x st z = some (r, S) := by
      intro z
      unfold f_X10_next_27
      rw [hz z, obd2_s, if_neg rn]
    rw [key, key, ite_self, ite_self, if_neg rn]
    exact ⟨_, _, _, rfl, rfl, hR⟩
  · have k0 : f_X10_next_27 S x m bg st x st 0 = some (-3, S) := by
      unfold f_X10_next_27
      rw [hz, obd2_s, if_neg m3n]
    rw [k0, if_neg m3n]
    refine ⟨_, S, M, ?_, rfl, hR⟩
    by_cases hm : inB m 1439 = true
    · rw [if_pos hm, if_neg one0]
      by_cases hb : inB bg 255 = true
      · exact absurd ⟨hm, hb⟩ hn
      · rw [if_neg hb, if_pos rfl]
    · rw [if_neg hm, if_pos rfl]
  · obtain ⟨S1, e1, q1, -, c1, -⟩ := e_find h2 h3 x5 b5 w6 hp hu m
    have i3 : Inn M f_X11_valueOf 4 := in_valueOf h3 (in_three h3 (in_two h3 (in_one h3)))
    rw [if_pos hm, if_neg one0, if_pos (inB_of b5 (by omega)), if_neg one0, if_pos rfl, i3 x' m b' w x5 b5 w6 hp hu, obd2_s]
    unfold f_X10_next_27 f_X3_first
    rw [hz1, obd2_s, if_pos rfl, e1, obd_S, obd2_s, c1]
    refine ⟨_, S1, M, rfl, ?_, RI_K q1 (QM.rf M) hR⟩
    rcases fi_mx (fun c => q_go M (q_B M 3) c x' m b' w) w 6 0 0 (-1) with ⟨a1, a2, -⟩ | ⟨a1, d, -, d2, d3, d4, d5, d6⟩
    · have : q_B M 4 x' m b' w = 0 := a1
      rw [this, a2]
      exact nx_0 M _ _ _ _ 6 FU 0 rfl (by rw [FU_eq]; omega)
    · rw [d5]
      exact nx_M h3 x5 b5 w6 hp hu m (q_B M 4 x' m b' w) a1 d (by omega) d3 d4 (fun e he hq => d6 e (Nat.zero_le _) he hq) d FU 0 (Nat.zero_add _) (by rw [FU_eq]; omega)
