-- ===== 57: words, numbers, things at the token
section WORDS
variable {S M : St} {N : Nat} {tx : Nat → Nat}
def q_mt (tx : Nat → Nat) (q wi : Nat) : Nat → Nat → Bool
  | 0, _ => true
  | j + 1, i => decide (nI (tx (q + i)) = strB wi i) && q_mt tx q wi j (i + 1)
/-- the token is the word wi -/
def q_is (tx : Nat → Nat) (q e wi : Nat) : Bool := decide (e - q = strL wi) && q_mt tx q wi (strL wi) 0
theorem strL5 : ∀ w : Fin 12, strL w.val ≤ 5 := by decide +kernel
theorem ia_l (h : Tx S M N tx) {q wi : Nat} (hw : wi < 12) (hq : q + strL wi ≤ N) : ∀ (j fu i : Nat), i + j = strL wi → j < fu → l_X8_isAt_15 fu S (nI q) wi (nI i) = some (if q_mt tx q wi j i = true then 1 else 0, S) := by
  have hN := h.1
  have hs := strL5 ⟨wi, hw⟩
  have hs : strL wi ≤ 5 := hs
  intro j
  induction j with
  | zero =>
    intro fu i hk hf
    obtain ⟨fu, rfl⟩ : ∃ q, fu = q + 1 := ⟨fu - 1, by omega⟩
    show f_X8_isAt_15 (l_X8_isAt_15 fu) S (nI q) wi (nI i) = _
    unfold f_X8_isAt_15
    rw [chk_T hw, bnd_e, if_pos (nI_le (by omega) (by omega)), q_mt, if_pos rfl]
  | succ j ih =>
    intro fu i hk hf
    obtain ⟨fu, rfl⟩ : ∃ q, fu = q + 1 := ⟨fu - 1, by omega⟩
    show f_X8_isAt_15 (l_X8_isAt_15 fu) S (nI q) wi (nI i) = _
    unfold f_X8_isAt_15
    rw [chk_T hw, bnd_e, if_neg (nI_ge (by omega) (by omega)), nI_add, e_at S 0 (by show q + i < 200; omega), obd2_s, chk_T hw, chk_T (ixo_nI (show i < strL wi by omega) (by omega)), nI_clamp (by omega), bnd_e, show S.1 (11 + (0 : Fin 10).val) (q + i) = nI (tx (q + i)) from (h.2.2.2 (q + i) (by omega)).1, bnd_e, nI_1, q_mt]
    by_cases z : nI (tx (q + i)) = strB wi i
    · rw [if_pos z, decide_eq_true z, Bool.true_and]
      exact ih fu (i + 1) (by omega) (by omega)
    · rw [if_neg z, decide_eq_false z, Bool.false_and, if_neg (by decide)]
theorem e_isAt (h : Tx S M N tx) {q e wi : Nat} (hw : wi < 12) (hqe : q ≤ e) (he : e ≤ N) : f_X8_isAt S (nI q) (nI e) wi = some (if q_is tx q e wi = true then 1 else 0, S) := by
  have hN := h.1
  have hs : strL wi ≤ 5 := strL5 ⟨wi, hw⟩
  unfold f_X8_isAt q_is
  rw [chk_T hw, bnd_e, pk_sub hqe]
  by_cases z : e - q = strL wi
  · rw [if_pos (congrArg nI z), decide_eq_true z, Bool.true_and]
    exact ia_l h hw (by omega) (strL wi) FU 0 (Nat.zero_add _) (by rw [FU_eq]; omega)
  · rw [if_neg (fun y => z ((nI_eq (by omega) (by omega)).mp y)), decide_eq_false z, Bool.false_and, if_neg (by decide)]
/-- the reference's number of a word -/
def Wo (wi : Nat) (w : Int32) : Prop := ∀ i, i < strL wi → (96 : Int32) + ((w >>> ((5 * nI i) &&& 31)) &&& 31) = strB wi i
theorem iw_l (h : Tx S M N tx) {q wi : Nat} {w : Int32} (hw : wi < 12) (hW : Wo wi w) (hq : q + strL wi ≤ N) (e18 : M.1 0 18 = nI q) : ∀ (j fu i : Nat), i + j = strL wi → j + 1 < fu → l_X11_isWord_22 fu M w (nI (strL wi)) 1 (nI i) = some (if q_mt tx q wi j i = true then 1 else 0, M) := by
  have hN := h.1
  have hs : strL wi ≤ 5 := strL5 ⟨wi, hw⟩
  intro j
  induction j with
  | zero =>
    intro fu i hk hf
    obtain ⟨fu, rfl⟩ : ∃ q, fu = q + 1 := ⟨fu - 1, by omega⟩
    show f_X11_isWord_22 (l_X11_isWord_22 fu) M w _ 1 (nI i) = _
    unfold f_X11_isWord_22
    rw [if_neg one0, if_pos (nI_le (by omega) (by omega)), chk_T (show zb (1 : Int32) from Or.inr rfl), q_mt, if_pos rfl]
  | succ j ih =>
    intro fu i hk hf
    obtain ⟨fu, rfl⟩ : ∃ q, fu = q + 1 + 1 := ⟨fu - 2, by omega⟩
    show f_X11_isWord_22 (l_X11_isWord_22 (fu + 1)) M w _ 1 (nI i) = _
    unfold f_X11_isWord_22 f_X11_isWord_64
    rw [if_neg one0, if_neg (nI_ge (by omega) (by omega)), e18, nI_add, chk_T (ixo_nI (show q + i < 200 by omega) (by omega)), nI_clamp (by omega), (h.2.2.2 (q + i) (by omega)).2.1, hW i (by omega), q_mt]
    simp only [bnd_e, nI_1]
    by_cases z : nI (tx (q + i)) = strB wi i
    · rw [if_pos z, decide_eq_true z, Bool.true_and]
      exact ih (fu + 1) (i + 1) (by omega) (by omega)
    · rw [if_neg z, decide_eq_false z, Bool.false_and, if_neg (by decide)]
      show f_X11_isWord_22 (l_X11_isWord_22 fu) M w _ 0 _ = _
      unfold f_X11_isWord_22
      rw [if_pos rfl, chk_T (show zb (0 : Int32) from Or.inl rfl)]
theorem e_isW (h : Tx S M N tx) {q e wi : Nat} {w : Int32} (hw : wi < 12) (hW : Wo wi w) (hqe : q ≤ e) (he : e ≤ N) (e18 : M.1 0 18 = nI q) (e19 : M.1 0 19 = nI e) : f_X11_isWord M w (nI (strL wi)) = some (if q_is tx q e wi = true then 1 else 0, M) := by
  have hN := h.1
  have hs : strL wi ≤ 5 := strL5 ⟨wi, hw⟩
  unfold f_X11_isWord f_X11_isWord_18 q_is
  rw [e18, e19, pk_sub hqe]
  by_cases z : e - q = strL wi
  · rw [if_pos (congrArg nI z), decide_eq_true z, Bool.true_and]
    exact iw_l h hw hW (by omega) e18 (strL wi) FU 0 (Nat.zero_add _) (by rw [FU_eq]; omega)
  · rw [if_neg (fun y => z ((nI_eq (by omega) (by omega)).mp y)), decide_eq_false z, Bool.false_and, if_neg (by decide), show l_X11_isWord_22 FU = l_X11_isWord_22 (4999 + 1) from rfl]
    show f_X11_isWord_22 (l_X11_isWord_22 4999) M w _ 0 0 = _
    unfold f_X11_isWord_22
    rw [if_pos rfl, chk_T (show zb (0 : Int32) from Or.inl rfl)]
/-- a word is taken, or not -/
theorem e_tk (h : Tx S M N tx) {q e wi : Nat} {w : Int32} (hw : wi < 12) (hW : Wo wi w) (hT : Tq S M N q e) (hz : S.1 2 6 = 0) : (q_is tx q e wi = true ∧ ∃ q' e' S' M', f_X5_takes S wi = some (1, S') ∧ f_X11_isWord M w (nI (strL wi)) = some (1, M) ∧ f_X11_token M = some M' ∧ SF S S' ∧ MF M M' ∧ Tq S' M' N q' e') ∨
    (¬ q_is tx q e wi = true ∧ f_X5_takes S wi = some (0, S) ∧ f_X11_isWord M w (nI (strL wi)) = some (0, M)) := by
  obtain ⟨t1, t2, t3, t4, t5, t6, t7, t8⟩ := hT
  rw [e_isW h hw hW t6 t7 t4 t5]
  unfold f_X5_takes
  rw [if_pos hz, t1, t2, e_isAt h hw t6 t7, obd2_s]
  by_cases z : q_is tx q e wi = true
  · obtain ⟨q', e', S', M', a1, a2, a3, a4, a5⟩ := e_step h t7 t2 t3
    rw [if_pos z, if_neg one0, a1, obd_S]
    exact Or.inl ⟨z, q', e', S', M', rfl, rfl, a2, a3, a4, a5⟩
  · rw [if_neg z, if_pos rfl]
    exact Or.inr ⟨z, rfl, rfl⟩
-- numbers
def q_nm (tx : Nat → Nat) : Nat → Nat → Int32 → Int32
  | 0, _, a => a
  | j + 1, i, a => q_nm tx j (i + 1) (a * 10 + nI (tx i) - 48)
def q_nv (tx : Nat → Nat) (N q e : Nat) : Int32 := if (q < N ∧ kd (tx q) = 2) ∧ e - q ≤ 4 then q_nm tx (e - q) q 0 else -1
theorem n8_l (h : Tx S M N tx) {e : Nat} (he : e ≤ N) : ∀ (j fu i : Nat) (a : Int32), i + j = e → j < fu → l_X8_number_23 fu S (nI e) a (nI i) = some (q_nm tx j i a, S) := by
  have hN := h.1
  intro j
  induction j with
  | zero =>
    intro fu i a hk hf
    obtain ⟨fu, rfl⟩ : ∃ q, fu = q + 1 := ⟨fu - 1, by omega⟩
    show f_X8_number_23 (l_X8_number_23 fu) S (nI e) a (nI i) = _
    unfold f_X8_number_23
    rw [if_pos (nI_le (by omega) (by omega))]; rfl
  | succ j ih =>
    intro fu i a hk hf
    obtain ⟨fu, rfl⟩ : ∃ q, fu = q + 1 := ⟨fu - 1, by omega⟩
    show f_X8_number_23 (l_X8_number_23 fu) S (nI e) a (nI i) = _
    unfold f_X8_number_23
    rw [if_neg (nI_ge (by omega) (by omega)), e_at S 0 (by show i < 200; omega), obd2_s, show S.1 (11 + (0 : Fin 10).val) i = nI (tx i) from (h.2.2.2 i (by omega)).1, bnd_e, bnd_e, nI_1]
    exact ih fu (i + 1) _ (by omega) (by omega)
theorem e_n8 (h : Tx S M N tx) {q e : Nat} (hqe : q ≤ e) (he : e ≤ N) : f_X8_number S (nI q) (nI e) = some (q_nv tx N q e, S) := by
  have hN := h.1
  have kl := kd_le (tx q)
  unfold f_X8_number q_nv
  rw [e_kind h (by omega), obd2_s, pk_sub hqe]
  by_cases c : q < N ∧ kd (tx q) = 2
  · rw [if_pos c.1, if_pos (show nI (kd (tx q)) = 2 by rw [c.2]; rfl)]
    by_cases c4 : e - q ≤ 4
    · rw [if_pos (show nI (e - q) ≤ 4 from nI_le (b := 4) c4 (by omega)), if_pos ⟨c, c4⟩]
      exact n8_l h he (e - q) FU q 0 (by omega) (by rw [FU_eq]; omega)
    · rw [if_neg (show ¬ nI (e - q) ≤ 4 from nI_ge (a := 4) (by omega) (by omega)), if_neg (fun z => c4 z.2)]
  · rw [if_neg (fun z : (q < N ∧ kd (tx q) = 2) ∧ e - q ≤ 4 => c z.1)]
    by_cases l : q < N
    · rw [if_pos l, if_neg (show ¬ nI (kd (tx q)) = 2 from fun z => c ⟨l, (nI_eq (a := kd (tx q)) (b := 2) (by omega) (by omega)).mp z⟩)]
    · rw [if_neg l, if_neg (show ¬ nI 0 = 2 by decide)]
theorem e_wi (S M : St) (v a b : Int32) : f_X10_within S v a b = some (if a ≤ v ∧ v ≤ b then 1 else 0, S) ∧ f_X11_in M v.toInt64 a.toInt64 b.toInt64 = some (if a ≤ v ∧ v ≤ b then 1 else 0, M) := by
  unfold f_X10_within f_X11_in
  simp only [lg_cmp_lt, lg_cmp_gt, Int64.lt_iff_toInt_lt, Int32.toInt_toInt64, ← Int32.lt_iff_toInt_lt]
  by_cases c1 : v < a
  · rw [if_pos c1, if_pos c1, if_neg (fun z => absurd c1 (Int32.not_lt.mpr z.1))]; exact ⟨rfl, rfl⟩
  · rw [if_neg c1, if_neg c1]
    by_cases c2 : b < v
    · rw [if_pos c2, if_pos c2, if_neg (fun z => absurd c2 (Int32.not_lt.mpr z.2))]; exact ⟨rfl, rfl⟩
    · rw [if_neg c2, if_neg c2, if_pos ⟨Int32.not_lt.mp c1, Int32.not_lt.mp c2⟩]; exact ⟨rfl, rfl⟩
theorem nr_l (h : Tx S M N tx) {e L k : Nat} (he : e ≤ N) (e19 : M.1 0 19 = nI e) (e3 : M.1 0 3 = nI L) (hi : 8 * L + 1 + k < 80) (a b : Int32) : ∀ (j fu i : Nat) (v : Int32), i + j = e → j < fu →
    l_X11_reads_51 fu M (nI k) a b v (nI i) = if a ≤ q_nm tx j i v ∧ q_nm tx j i v ≤ b then obd (f_X11_token (setI M 2 (8 * L + 1 + k) (q_nm tx j i v))) (fun S6 => some (1, S6)) else some (0, M) := by
  have hN := h.1
  intro j
  induction j with
  | zero =>
    intro fu i v hk hf
    obtain ⟨fu, rfl⟩ : ∃ q, fu = q + 1 := ⟨fu - 1, by omega⟩
    show f_X11_reads_51 (l_X11_reads_51 fu) M (nI k) a b v (nI i) = _
    unfold f_X11_reads_51
    have ix : 8 * nI L + 1 + nI k = nI (8 * L + 1 + k) := by rw [show (8 : Int32) = nI 8 from rfl, pk_mul, nI_1, nI_add]
    rw [e19, if_pos (nI_le (by omega) (by omega)), (e_wi S M v a b).2, obd2_s, e3, ix, chk_T (ixo_nI hi (by omega)), nI_clamp (by omega), bnd_e]
    show _ = if a ≤ v ∧ v ≤ b then _ else _
    by_cases c : a ≤ v ∧ v ≤ b
    · rw [if_pos c, if_neg one0, if_pos c]; rfl
    · rw [if_neg c, if_pos rfl, if_neg c]
  | succ j ih =>
    intro fu i v hk hf
    obtain ⟨fu, rfl⟩ : ∃ q, fu = q + 1 := ⟨fu - 1, by omega⟩
    show f_X11_reads_51 (l_X11_reads_51 fu) M (nI k) a b v (nI i) = _
    unfold f_X11_reads_51
    rw [e19, if_neg (nI_ge (by omega) (by omega)), chk_T (ixo_nI (show i < 200 by omega) (by omega)), nI_clamp (by omega), (h.2.2.2 i (by omega)).2.1, bnd_e, bnd_e, nI_1, Int32.mul_comm]
    exact ih fu (i + 1) _ (by omega) (by omega)
/-- a number is read alike -/
theorem e_nr (h : Tx S M N tx) {q e L k a b : Nat} (hT : Tq S M N q e) (hz : S.1 2 6 = 0) (e3 : M.1 0 3 = nI L) (hi : 8 * L + 1 + k < 80) (ha : a < 2 ^ 31) (hb : b < 2 ^ 31) :
    (∃ v q' e' S' M', a ≤ v ∧ v ≤ b ∧ f_X5_number S (nI a) (nI b) = some (nI v, S') ∧ f_X11_reads M (nI k) (nI a) (nI b) = some (1, M') ∧ SF S S' ∧ MF (setI M 2 (8 * L + 1 + k) (nI v)) M' ∧ Tq S' M' N q' e') ∨
    (f_X5_number S (nI a) (nI b) = some (0, setI S 2 6 1) ∧ f_X11_reads M (nI k) (nI a) (nI b) = some (0, M)) := by
  have hN := h.1
  obtain ⟨t1, t2, t3, t4, t5, t6, t7, t8⟩ := hT
  have kl := kd_le (tx q)
  have eM : f_X11_reads M (nI k) (nI a) (nI b) = if (q < N ∧ kd (tx q) = 2) ∧ e - q ≤ 4 then l_X11_reads_51 FU M (nI k) (nI a) (nI b) 0 (nI q) else some (0, M) := by
    unfold f_X11_reads
    rw [t4, h.2.2.1]
    by_cases l : q < N
    · obtain ⟨-, tm, tb⟩ := h.2.2.2 q l
      have kk : (km (tx q) = 2) ↔ kd (tx q) = 2 := by unfold km; split <;> omega
      have kml : km (tx q) ≤ 3 := by unfold km; split <;> omega
      rw [if_neg (fun z => by have := (nI_eq (a := q) (b := N) (by omega) (by omega)).mp z; omega), chk_T (ixo_nI (show q < 200 by omega) (by omega)), nI_clamp (by omega), tm, e_kM M tb, obd2_s, t4, t5, pk_sub t6, bnd_e]
      by_cases c : kd (tx q) = 2
      · rw [if_pos (show nI (km (tx q)) = 2 by rw [kk.mpr c]; rfl)]
        by_cases c4 : e - q ≤ 4
        · rw [if_pos (show nI (e - q) ≤ 4 from nI_le (b := 4) c4 (by omega)), if_pos ⟨⟨l, c⟩, c4⟩]
        · rw [if_neg (show ¬ nI (e - q) ≤ 4 from nI_ge (a := 4) (by omega) (by omega)), if_neg (fun z => c4 z.2)]
      · rw [if_neg (show ¬ nI (km (tx q)) = 2 from fun z => c (kk.mp ((nI_eq (a := km (tx q)) (b := 2) (by omega) (by omega)).mp z))), if_neg (fun z => c z.1.2)]
    · rw [if_pos (show nI q = nI N by rw [show q = N by omega]), if_neg (fun z => l z.1.1)]
  have eS : f_X5_number S (nI a) (nI b) = if nI a ≤ q_nv tx N q e ∧ q_nv tx N q e ≤ nI b then obd (f_X5_step S) (fun S2 => some (q_nv tx N q e, S2)) else some (0, setI S 2 6 1) := by
    unfold f_X5_number f_X5_number_30
    rw [t1, t2, e_n8 h t6 t7, obd2_s, (e_wi S M _ _ _).1, obd2_s, bnd_e, si_eq]
    by_cases c : nI a ≤ q_nv tx N q e ∧ q_nv tx N q e ≤ nI b
    · rw [if_pos c, if_neg one0, if_pos hz, if_pos c]
    · rw [if_neg c, if_pos rfl, if_neg one0, if_neg c]
  rw [eM, eS]
  by_cases c : (q < N ∧ kd (tx q) = 2) ∧ e - q ≤ 4
  · have ev : q_nv tx N q e = q_nm tx (e - q) q 0 := if_pos c
    rw [if_pos c, ev, nr_l h t7 t5 e3 hi (nI a) (nI b) (e - q) FU q 0 (by omega) (by rw [FU_eq]; omega)]
    by_cases w : nI a ≤ q_nm tx (e - q) q 0 ∧ q_nm tx (e - q) q 0 ≤ nI b
    · rw [if_pos w, if_pos w]
      left
      have n0 : ¬ q_nm tx (e - q) q 0 < 0 := fun z => absurd (Int32.lt_of_le_of_lt w.1 z) (nI_pos ha)
      obtain ⟨v, hv, e1⟩ := nI_of n0
      rw [e1] at w ⊢
      have hM : RM M (setI M 2 (8 * L + 1 + k) (nI v)) := RM_2 M _ _
      obtain ⟨q', e', S', M', a1, a2, a3, a4, a5⟩ := e_step (h.fr (RS.rf S) hM) t7 t2 ((congrFun (si_ne (by omega)) 17).trans t3)
      exact ⟨v, q', e', S', M', (nI_leI ha hv).mp w.1, (nI_leI hv hb).mp w.2, by rw [a1, obd_S], by rw [a2, obd_S], a3, a4, a5⟩
    · rw [if_neg w, if_neg w]
      exact Or.inr ⟨rfl, rfl⟩
  · have ev : q_nv tx N q e = -1 := if_neg c
    rw [if_neg c, ev, if_neg (fun z : nI a ≤ -1 ∧ _ => absurd (Int32.lt_of_le_of_lt z.1 (show (-1 : Int32) < 0 by decide)) (nI_pos ha))]
    exact Or.inr ⟨rfl, rfl⟩
-- things
theorem tb_f : ∀ b : Fin 256, ∀ t : Fin 8, b.val.testBit t.val = false → q_ct (b.val ||| 2 ^ t.val) 0 8 = q_ct b.val 0 8 + 1 ∧ b.val ||| 2 ^ t.val ≤ 255 := by decide +kernel
/-- the thing that a byte tells -/
theorem th_1 {c : Nat} (hc : c ≤ 255) : (97 ≤ c ∧ c ≤ 104 ∧ nI c - 97 = nI (c - 97) ∧ inB (nI c - 97) 7 = true) ∨ (¬ (97 ≤ c ∧ c ≤ 104) ∧ ¬ inB (nI c - 97) 7 = true) := by
  by_cases l : 97 ≤ c
  · have e : nI c - 97 = nI (c - 97) := pk_sub (b := 97) l
    by_cases l2 : c ≤ 104
    · exact Or.inl ⟨l, l2, e, by rw [e]; exact inB_of (by omega) (by omega)⟩
    · refine Or.inr ⟨fun z => l2 z.2, fun z => ?_⟩
      rw [e] at z
      obtain ⟨k, k7, kl, ek⟩ := inB_nI z
      have := (nI_eq (a := c - 97) (b := k) (by omega) kl).mp ek
      omega
  · refine Or.inr ⟨fun z => l z.1, fun z => ?_⟩
    obtain ⟨k, k7, kl, ek⟩ := inB_nI z
    have := pk_sneg (a := c) (b := 97) (by omega) (by omega)
    rw [show nI c - nI 97 = nI k from ek] at this
    exact nI_pos kl this
theorem th_l (h : Tx S M N tx) {q e k : Nat} (he : e ≤ N) (e19 : M.1 0 19 = nI e) : ∀ (j fu fv i b : Nat), i + j = e → j < fu → j < fv → q ≤ i → b ≤ 255 → q_ct b 0 8 = i - q →
    (l_X8_things_5 fu S (nI e) (nI b) (nI i) = some (0, S) ∧ l_X11_readsThings_7 fv M (nI k) (nI b) (nI i) = some (0, M)) ∨
    (∃ b' fw, b' ≤ 255 ∧ q_ct b' 0 8 = e - q ∧ l_X8_things_5 fu S (nI e) (nI b) (nI i) = some (nI b', S) ∧ l_X11_readsThings_7 fv M (nI k) (nI b) (nI i) = f_X11_readsThings_7 (l_X11_readsThings_7 fw) M (nI k) (nI b') (nI e)) := by
  have hN := h.1
  intro j
  induction j with
  | zero =>
    intro fu fv i b hk hf hg hqi hb hct
    obtain ⟨fu, rfl⟩ : ∃ q, fu = q + 1 := ⟨fu - 1, by omega⟩
    obtain ⟨fv, rfl⟩ : ∃ q, fv = q + 1 := ⟨fv - 1, by omega⟩
    have : i = e := by omega
    subst this
    refine Or.inr ⟨b, fv, hb, hct, ?_, rfl⟩
    show f_X8_things_5 (l_X8_things_5 fu) S (nI i) (nI b) (nI i) = _
    unfold f_X8_things_5
    rw [if_pos (Int32.le_refl _)]
  | succ j ih =>
    intro fu fv i b hk hf hg hqi hb hct
    obtain ⟨fu, rfl⟩ : ∃ q, fu = q + 1 := ⟨fu - 1, by omega⟩
    obtain ⟨fv, rfl⟩ : ∃ q, fv = q + 1 := ⟨fv - 1, by omega⟩
    obtain ⟨ts, tm, tb⟩ := h.2.2.2 i (by omega)
    show (f_X8_things_5 (l_X8_things_5 fu) S (nI e) (nI b) (nI i) = _ ∧ f_X11_readsThings_7 (l_X11_readsThings_7 fv) M (nI k) (nI b) (nI i) = _) ∨ (∃ b' fw, b' ≤ 255 ∧ _ ∧ f_X8_things_5 (l_X8_things_5 fu) S (nI e) (nI b) (nI i) = _ ∧ f_X11_readsThings_7 (l_X11_readsThings_7 fv) M (nI k) (nI b) (nI i) = _)
    have eS : f_X8_things_5 (l_X8_things_5 fu) S (nI e) (nI b) (nI i) = if inB (nI (tx i) - 97) 7 = true then (if ((nI b >>> ((nI (tx i) - 97) &&& 31)) &&& 1) = 1 then some (0, S) else l_X8_things_5 fu S (nI e) (nI b ||| ((1 : Int32) <<< ((nI (tx i) - 97) &&& 31))) (nI (i + 1))) else some (0, S) := by
      unfold f_X8_things_5
      rw [if_neg (nI_ge (by omega) (by omega)), e_at S 0 (by show i < 200; omega), obd2_s, show S.1 (11 + (0 : Fin 10).val) i = nI (tx i) from ts, bnd_e, e_within S _ 7 7 rfl, obd2_s, bnd_e, bnd_e, nI_1]
      by_cases c : inB (nI (tx i) - 97) 7 = true
      · rw [if_pos c, if_neg one0, if_pos c]
      · rw [if_neg c, if_pos rfl, if_neg c]
    have eM : f_X11_readsThings_7 (l_X11_readsThings_7 fv) M (nI k) (nI b) (nI i) = if inB (nI (tx i) - 97) 7 = true then (if ((nI b >>> ((nI (tx i) - 97) &&& 31)) &&& 1) = 1 then some (0, M) else l_X11_readsThings_7 fv M (nI k) (nI b ||| ((1 : Int32) <<< ((nI (tx i) - 97) &&& 31))) (nI (i + 1))) else some (0, M) := by
      unfold f_X11_readsThings_7 f_X11_has
      rw [e19, if_neg (nI_ge (by omega) (by omega)), chk_T (ixo_nI (show i < 200 by omega) (by omega)), nI_clamp (by omega), tm, bnd_e, e_in M _ 7 7 rfl, obd2_s]
      simp only [bnd_e, nI_1]
      by_cases c : inB (nI (tx i) - 97) 7 = true
      · rw [if_pos c, if_neg one0, if_pos c]
        by_cases c2 : ((nI b >>> ((nI (tx i) - 97) &&& 31)) &&& 1) = 1
        · rw [if_pos c2, obd2_s, if_neg one0, if_pos c2]
        · rw [if_neg c2, obd2_s, if_pos rfl, if_neg c2]
      · rw [if_neg c, if_pos rfl, if_neg c]
    rw [eS, eM]
    rcases th_1 tb with ⟨l1, l2, e97, ib⟩ | ⟨-, ib⟩
    · rw [if_pos ib, if_pos ib, e97]
      by_cases c2 : b.testBit (tx i - 97) = true
      · have c3 := (bit_e (n := b) (k := tx i - 97) (by omega) (by omega)).mpr c2
        rw [if_pos c3, if_pos c3]
        exact Or.inl ⟨rfl, rfl⟩
      · have c3 : ¬ ((nI b >>> (nI (tx i - 97) &&& 31)) &&& 1) = 1 := fun z => c2 ((bit_e (n := b) (k := tx i - 97) (by omega) (by omega)).mp z)
        rw [if_neg c3, if_neg c3, sh1 (by omega), nI_or]
        obtain ⟨f1, f2⟩ := tb_f ⟨b, by omega⟩ ⟨tx i - 97, by omega⟩ (Bool.eq_false_iff.mpr c2)
        have f1 : q_ct (b ||| 2 ^ (tx i - 97)) 0 8 = q_ct b 0 8 + 1 := f1
        exact ih fu fv (i + 1) (b ||| 2 ^ (tx i - 97)) (by omega) (by omega) (by omega) (by omega) f2 (by omega)
    · rw [if_neg ib, if_neg ib]
      exact Or.inl ⟨rfl, rfl⟩
theorem ct_0 : q_ct 0 0 8 = 0 := by decide
/-- a word of things is read alike -/
theorem e_tr (h : Tx S M N tx) {q e L k : Nat} (hT : Tq S M N q e) (hz : S.1 2 6 = 0) (e3 : M.1 0 3 = nI L) (hi : 8 * L + 1 + k < 80) :
    (∃ v q' e' S' M', v ≤ 255 ∧ f_X5_things S = some (nI v, S') ∧ f_X11_readsThings M (nI k) = some (1, M') ∧ SF S S' ∧ MF (setI M 2 (8 * L + 1 + k) (nI v)) M' ∧ Tq S' M' N q' e') ∨
    (∃ M', f_X5_things S = some (0, setI S 2 6 1) ∧ f_X11_readsThings M (nI k) = some (0, M') ∧ RM M M' ∧ M'.1 0 = M.1 0) := by
  have hN := h.1
  obtain ⟨t1, t2, t3, t4, t5, t6, t7, t8⟩ := hT
  have ix : 8 * nI L + 1 + nI k = nI (8 * L + 1 + k) := by rw [show (8 : Int32) = nI 8 from rfl, pk_mul, nI_1, nI_add]
  have eM0 : f_X11_readsThings M (nI k) = l_X11_readsThings_7 FU M (nI k) 0 (nI q) := by
    unfold f_X11_readsThings
    rw [t4, bnd_e]
  have eS0 : f_X8_things S (nI q) (nI e) = l_X8_things_5 FU S (nI e) 0 (nI q) := rfl
  unfold f_X5_things f_X5_things_25
  rw [t1, t2, eS0, eM0]
  have bad : (obd2 (some ((0 : Int32), S)) fun r3 S3 => if r3 = 0 then bnd (setI S3 2 6 1) fun S5 => (if S5.1 2 6 = 0 then obd (f_X5_step S5) fun S2 => some (r3, S2) else some (0, S5)) else (if S3.1 2 6 = 0 then obd (f_X5_step S3) fun S2 => some (r3, S2) else some (0, S3))) = some (0, setI S 2 6 1) := by
    rw [obd2_s, if_pos rfl, bnd_e, si_eq, if_neg one0]
  rcases th_l h (k := k) t7 t5 (e - q) FU FU q 0 (by omega) (by rw [FU_eq]; omega) (by rw [FU_eq]; omega) (Nat.le_refl q) (by omega) (by rw [ct_0]; omega) with ⟨a1, a2⟩ | ⟨b, fw, hb, hct, a1, a2⟩
  · have a1 : l_X8_things_5 FU S (nI e) 0 (nI q) = some (0, S) := a1
    have a2 : l_X11_readsThings_7 FU M (nI k) 0 (nI q) = some (0, M) := a2
    rw [a1, a2]
    exact Or.inr ⟨M, bad, rfl, RM.rf M, rfl⟩
  · have a1 : l_X8_things_5 FU S (nI e) 0 (nI q) = some (nI b, S) := a1
    have a2 : l_X11_readsThings_7 FU M (nI k) 0 (nI q) = _ := a2
    rw [a1, a2]
    unfold f_X11_readsThings_7 f_X11_readsThings_88
    rw [t5, if_pos (Int32.le_refl _), e3, ix, chk_T (ixo_nI hi (by omega)), nI_clamp (by omega), bnd_e]
    by_cases z : b = 0
    · subst z
      right
      rw [if_pos (show nI 0 ≤ 0 by decide), if_pos (show nI 0 ≤ 0 by decide)]
      exact ⟨_, bad, rfl, RM_2 M _ _, si_ne (by omega)⟩
    · left
      have n0 : ¬ nI b ≤ 0 := nI_nle (by omega) (by omega)
      have hM : RM M (setI M 2 (8 * L + 1 + k) (nI b)) := RM_2 M _ _
      obtain ⟨q', e', S', M', s1, s2, s3, s4, s5⟩ := e_step (h.fr (RS.rf S) hM) t7 t2 ((congrFun (si_ne (by omega)) 17).trans t3)
      rw [obd2_s, if_neg (nI_ne0 (by omega) (by omega)), if_pos hz, s1, obd_S, if_neg n0, s2, obd_S, if_neg n0]
      exact ⟨b, q', e', S', M', hb, rfl, rfl, s3, s4, s5⟩
-- a thing's letter
theorem le_s (S : St) (x1 : Int32) (hz : S.1 2 6 = 0) (fu t : Nat) (ht : t < 8) : l_X5_letter_18 (fu + 1) S x1 (nI t) = if x1 = nI (2 ^ t) then obd (f_X5_step S) (fun S6 => some (nI t, S6)) else l_X5_letter_18 fu S x1 (nI (t + 1)) := by
  show f_X5_letter_18 (l_X5_letter_18 fu) S x1 (nI t) = _
  unfold f_X5_letter_18
  rw [if_neg (show ¬ (8 : Int32) ≤ nI t from nI_ge (a := t) (b := 8) (by omega) (by omega)), if_pos hz, sh1 (by omega), bnd_e, nI_1]
theorem le_no (S : St) (x1 : Int32) (hz : S.1 2 6 = 0) (hn : ∀ t, t < 8 → ¬ x1 = nI (2 ^ t)) : ∀ (j fu t : Nat), t + j = 8 → j < fu → l_X5_letter_18 fu S x1 (nI t) = some (0, setI S 2 6 1) := by
  intro j
  induction j with
  | zero =>
    intro fu t hk hf
    obtain ⟨fu, rfl⟩ : ∃ q, fu = q + 1 := ⟨fu - 1, by omega⟩
    show f_X5_letter_18 (l_X5_letter_18 fu) S x1 (nI t) = _
    unfold f_X5_letter_18 f_X5_letter_50
    rw [if_pos (show (8 : Int32) ≤ nI t from nI_le (a := 8) (by omega) (by omega)), bnd_e]
  | succ j ih =>
    intro fu t hk hf
    obtain ⟨fu, rfl⟩ : ∃ q, fu = q + 1 := ⟨fu - 1, by omega⟩
    rw [le_s S x1 hz fu t (by omega), if_neg (hn t (by omega))]
    exact ih fu (t + 1) (by omega) (by omega)
theorem le_yes (S : St) (hz : S.1 2 6 = 0) (d : Nat) (hd : d < 8) : ∀ (j fu t : Nat), t + j = d → j < fu → l_X5_letter_18 fu S (nI (2 ^ d)) (nI t) = obd (f_X5_step S) (fun S6 => some (nI d, S6)) := by
  have pw : ∀ t, t < 8 → 2 ^ t ≤ 128 := fun t ht => Nat.le_trans (Nat.pow_le_pow_right (by omega) (show t ≤ 7 by omega)) (by decide)
  intro j
  induction j with
  | zero =>
    intro fu t hk hf
    obtain ⟨fu, rfl⟩ : ∃ q, fu = q + 1 := ⟨fu - 1, by omega⟩
    have : t = d := by omega
    subst this
    rw [le_s S _ hz fu t hd, if_pos rfl]
  | succ j ih =>
    intro fu t hk hf
    obtain ⟨fu, rfl⟩ : ∃ q, fu = q + 1 := ⟨fu - 1, by omega⟩
    have p1 := pw t (by omega)
    have p2 := pw d hd
    rw [le_s S _ hz fu t (by omega), if_neg (fun z => by
      have e := (nI_eq (a := 2 ^ d) (b := 2 ^ t) (by omega) (by omega)).mp z
      have := Nat.pow_lt_pow_right (show 1 < 2 by omega) (show t < d by omega)
      omega)]
    exact ih fu (t + 1) (by omega) (by omega)
theorem pw_ct : ∀ t : Fin 8, q_ct (2 ^ t.val) 0 8 = 1 := by decide +kernel
/-- a thing's letter is read alike -/
theorem e_let (h : Tx S M N tx) {q e L : Nat} (hT : Tq S M N q e) (hz : S.1 2 6 = 0) (e3 : M.1 0 3 = nI L) (hi : 8 * L + 1 < 80) (go : St → Option (Int32 × St)) :
    (∃ v q' e' S' M', v ≤ 7 ∧ f_X5_letter S = some (nI v, S') ∧ (if M.1 0 19 - M.1 0 18 = 1 then (chk (ixo (M.1 0 18) 200) <| obd2 (f_X11_in M (((M.1 1 ((M.1 0 18)).toNatClampNeg) : Int32).toInt64) (97) (104)) fun r7 S7 => if r7 = 0 then (some (0, S7)) else (chk (ixo (S7.1 0 18) 200) <| chk (ixo ((8 * (S7.1 0 3)) + 1) 80) <| bnd (setI S7 2 (((8 * (S7.1 0 3)) + 1)).toNatClampNeg ((S7.1 1 ((S7.1 0 18)).toNatClampNeg) - 97)) fun S11 => obd (f_X11_token S11) fun S12 => go S12)) else some (0, M)) = go M' ∧ SF S S' ∧ MF (setI M 2 (8 * L + 1) (nI v)) M' ∧ Tq S' M' N q' e') ∨
    (f_X5_letter S = some (0, setI S 2 6 1) ∧ (if M.1 0 19 - M.1 0 18 = 1 then (chk (ixo (M.1 0 18) 200) <| obd2 (f_X11_in M (((M.1 1 ((M.1 0 18)).toNatClampNeg) : Int32).toInt64) (97) (104)) fun r7 S7 => if r7 = 0 then (some (0, S7)) else (chk (ixo (S7.1 0 18) 200) <| chk (ixo ((8 * (S7.1 0 3)) + 1) 80) <| bnd (setI S7 2 (((8 * (S7.1 0 3)) + 1)).toNatClampNeg ((S7.1 1 ((S7.1 0 18)).toNatClampNeg) - 97)) fun S11 => obd (f_X11_token S11) fun S12 => go S12)) else some (0, M)) = some (0, M)) := by
  have hN := h.1
  obtain ⟨t1, t2, t3, t4, t5, t6, t7, t8⟩ := hT
  have ix : 8 * nI L + 1 = nI (8 * L + 1) := by rw [show (8 : Int32) = nI 8 from rfl, pk_mul, nI_1]
  have eS0 : f_X8_things S (nI q) (nI e) = l_X8_things_5 FU S (nI e) 0 (nI q) := rfl
  unfold f_X5_letter
  rw [t1, t2, t4, t5, pk_sub t6, eS0]
  by_cases l1 : e - q = 1
  · obtain ⟨ts, tm, tb⟩ := h.2.2.2 q (by omega)
    have ee : e = q + 1 := by omega
    have eX : l_X8_things_5 FU S (nI e) 0 (nI q) = if 97 ≤ tx q ∧ tx q ≤ 104 then some (nI (2 ^ (tx q - 97)), S) else some (0, S) := by
      rw [show l_X8_things_5 FU = l_X8_things_5 (4998 + 1 + 1) from rfl]
      show f_X8_things_5 (l_X8_things_5 (4998 + 1)) S (nI e) 0 (nI q) = _
      unfold f_X8_things_5
      rw [if_neg (nI_ge (by omega) (by omega)), e_at S 0 (by show q < 200; omega), obd2_s, show S.1 (11 + (0 : Fin 10).val) q = nI (tx q) from ts, bnd_e, e_within S _ 7 7 rfl, obd2_s, bnd_e, bnd_e, nI_1]
      rcases th_1 tb with ⟨a1, a2, e97, ib⟩ | ⟨a1, ib⟩
      · rw [if_pos ib, if_neg one0, if_pos (show 97 ≤ tx q ∧ tx q ≤ 104 from ⟨a1, a2⟩), e97, if_neg (fun z => by have := (bit_e (n := 0) (k := tx q - 97) (by omega) (by omega)).mp z; rw [Nat.zero_testBit] at this; cases this), sh1 (by omega), show (0 : Int32) = nI 0 from rfl, nI_or, Nat.zero_or, ← ee]
        show f_X8_things_5 (l_X8_things_5 4998) S (nI e) _ (nI e) = _
        unfold f_X8_things_5
        rw [if_pos (Int32.le_refl _)]
      · rw [if_neg ib, if_pos rfl, if_neg a1]
    have eIn : f_X11_in M (nI (tx q)).toInt64 97 104 = some (if 97 ≤ tx q ∧ tx q ≤ 104 then 1 else 0, M) := by
      have := (e_wi S M (nI (tx q)) 97 104).2
      rw [show (97 : Int32).toInt64 = 97 from rfl, show (104 : Int32).toInt64 = 104 from rfl] at this
      rw [this]
      have w1 : (97 : Int32) ≤ nI (tx q) ↔ 97 ≤ tx q := nI_leI (a := 97) (by omega) (by omega)
      have w2 : nI (tx q) ≤ (104 : Int32) ↔ tx q ≤ 104 := nI_leI (b := 104) (by omega) (by omega)
      by_cases c : 97 ≤ tx q ∧ tx q ≤ 104
      · rw [if_pos c, if_pos ⟨w1.mpr c.1, w2.mpr c.2⟩]
      · rw [if_neg c, if_neg (fun z => c ⟨w1.mp z.1, w2.mp z.2⟩)]
    rw [eX, if_pos (show nI (e - q) = 1 by rw [l1]; rfl), chk_T (ixo_nI (show q < 200 by omega) (by omega)), nI_clamp (show q < 2 ^ 31 by omega), tm, eIn, obd2_s]
    by_cases c : 97 ≤ tx q ∧ tx q ≤ 104
    · left
      have e97 : nI (tx q) - 97 = nI (tx q - 97) := pk_sub (b := 97) c.1
      have hM : RM M (setI M 2 (8 * L + 1) (nI (tx q - 97))) := RM_2 M _ _
      obtain ⟨q', e', S', M', s1, s2, s3, s4, s5⟩ := e_step (h.fr (RS.rf S) hM) t7 t2 ((congrFun (si_ne (by omega)) 17).trans t3)
      have ly := le_yes S hz (tx q - 97) (by omega) (tx q - 97) FU 0 (Nat.zero_add _) (by rw [FU_eq]; omega)
      have ly : l_X5_letter_18 FU S (nI (2 ^ (tx q - 97))) 0 = _ := ly
      rw [if_pos c, obd2_s, ly, s1, obd_S, if_pos c, if_neg one0, t4, chk_T (ixo_nI (show q < 200 by omega) (by omega)), e3, ix, chk_T (ixo_nI hi (by omega)), nI_clamp (show q < 2 ^ 31 by omega), nI_clamp (show 8 * L + 1 < 2 ^ 31 by omega), tm, e97, bnd_e, s2, obd_S]
      exact ⟨tx q - 97, q', e', S', M', by omega, rfl, rfl, s3, s4, s5⟩
    · right
      have ln := le_no S 0 hz (fun t ht z => by
        have p := Nat.pow_pos (n := t) (show 0 < 2 by omega)
        have p2 : 2 ^ t ≤ 128 := Nat.le_trans (Nat.pow_le_pow_right (by omega) (show t ≤ 7 by omega)) (by decide)
        have := (nI_eq (a := 0) (b := 2 ^ t) (by omega) (by omega)).mp z
        omega) 8 FU 0 rfl (by rw [FU_eq]; omega)
      have ln : l_X5_letter_18 FU S 0 0 = _ := ln
      rw [if_neg c, obd2_s, ln, if_neg c, if_pos rfl]
      exact ⟨rfl, rfl⟩
  · right
    rw [if_neg (show ¬ nI (e - q) = 1 from fun z => l1 ((nI_eq (a := e - q) (b := 1) (by omega) (by omega)).mp z))]
    refine ⟨?_, rfl⟩
    have pw : ∀ t, t < 8 → 2 ^ t ≤ 128 := fun t ht => Nat.le_trans (Nat.pow_le_pow_right (by omega) (show t ≤ 7 by omega)) (by decide)
    rcases th_l h (k := 0) t7 t5 (e - q) FU FU q 0 (by omega) (by rw [FU_eq]; omega) (by rw [FU_eq]; omega) (Nat.le_refl q) (by omega) (by rw [ct_0]; omega) with ⟨a1, -⟩ | ⟨b, fw, hb, hct, a1, -⟩
    · have a1 : l_X8_things_5 FU S (nI e) 0 (nI q) = some (0, S) := a1
      rw [a1, obd2_s]
      exact le_no S 0 hz (fun t ht z => by
        have p := Nat.pow_pos (n := t) (show 0 < 2 by omega)
        have p2 := pw t ht
        have := (nI_eq (a := 0) (b := 2 ^ t) (by omega) (by omega)).mp z
        omega) 8 FU 0 rfl (by rw [FU_eq]; omega)
    · have a1 : l_X8_things_5 FU S (nI e) 0 (nI q) = some (nI b, S) := a1
      rw [a1, obd2_s]
      exact le_no S (nI b) hz (fun t ht z => by
        have p2 := pw t ht
        have e1 := (nI_eq (a := b) (b := 2 ^ t) (by omega) (by omega)).mp z
        have := pw_ct ⟨t, ht⟩
        rw [e1] at hct
        have this : q_ct (2 ^ t) 0 8 = 1 := this
        omega) 8 FU 0 rfl (by rw [FU_eq]; omega)
end WORDS
