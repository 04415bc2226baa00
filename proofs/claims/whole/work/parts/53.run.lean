-- ===== 53: run
theorem dr_l {S M : St} (h3 : R3 S M) {c : Nat} (hc : c < 6) : ∀ (j fu fv s x : Nat), s + j = ms M c → j < fu → j < fv → x + fb_sm' (q_lk M c) s < fb_sm' (q_lk M c) (ms M c) → x < 2 ^ 30 →
    ∃ s', ∃ h : s' < ms M c, l_X1_drawn_18 fu S ⟨c, hc⟩ (nI x) (nI s) = some (some ⟨4 * c + s', by have := ms_le h3 hc; omega⟩, S) ∧ l_X11_sortBy_5 fv M (nI c) (nI x) (nI s) = some (nI s', M) := by
  have hm := ms_le h3 hc
  have hS : S.1 (21 + c) 1 = nI (ms M c) := (h3.2 c hc).2.1.trans (ms_e h3 hc)
  intro j
  induction j with
  | zero =>
    intro fu fv s x hk hf hg hx _
    have : s = ms M c := by omega
    rw [this] at hx; omega
  | succ j ih =>
    intro fu fv s x hk hf hg hx hl
    obtain ⟨fu, rfl⟩ : ∃ q, fu = q + 1 := ⟨fu - 1, by omega⟩
    obtain ⟨fv, rfl⟩ : ∃ q, fv = q + 1 := ⟨fv - 1, by omega⟩
    have hs : s < ms M c := by omega
    obtain ⟨l1, l2, l3⟩ := lk_rg h3 hc hs
    have e0 : S.1 (33 + (4 * c + s)) 0 = nI (q_lk M c s) := (so_X h3 hc hs (by omega)).trans l1
    show ∃ s', ∃ h : s' < ms M c, f_X1_drawn_18 (l_X1_drawn_18 fu) S ⟨c, hc⟩ (nI x) (nI s) = _ ∧ f_X11_sortBy_5 (l_X11_sortBy_5 fv) M (nI c) (nI x) (nI s) = _
    unfold f_X1_drawn_18 f_X11_sortBy_5
    rw [if_neg (show ¬ S.1 (21 + c) 1 ≤ nI s by rw [hS]; exact nI_ge (by omega) (by omega)), e_stX h3 hc hs, obd2_s, oel_S, srt_i0, chk_T (ixo_nI (show 16 * c + 4 * s < 96 by omega) (by omega)), chk_T (ixo_nI (show 16 * c + 4 * s < 96 by omega) (by omega)), nI_clamp (show 16 * c + 4 * s < 2 ^ 31 by omega), l1]
    show ∃ s', ∃ h : s' < ms M c, bnd (nI x - S.1 (33 + (4 * c + s)) 0) _ = _ ∧ _
    rw [e0, bnd_e, bnd_e, bnd_e, nI_1]
    by_cases q : x < q_lk M c s
    · rw [if_neg (show ¬ (0 : Int32) ≤ nI x - nI (q_lk M c s) from fun z => absurd (pk_sneg (a := x) (b := q_lk M c s) (by omega) q) (Int32.not_lt.mpr z)), if_pos (nI_lt q (by omega))]
      exact ⟨s, hs, rfl, rfl⟩
    · rw [pk_sub (by omega), if_pos (nI_pos' (by omega)), if_neg (nI_nlt (by omega) (by omega)), bnd_e]
      exact ih fu fv (s + 1) (x - q_lk M c s) (by omega) (by omega) (by omega) (by rw [fb_sm']; omega) (by omega)
theorem e_dr {S M : St} (h3 : R3 S M) {c : Nat} (hc : c < 6) (h0 : 0 < ms M c) (x : Nat) (hx : x < 2 ^ 30) : ∃ s', ∃ h : s' < ms M c, f_X1_drawn S ⟨c, hc⟩ (nI x) = some (some ⟨4 * c + s', by have := ms_le h3 hc; omega⟩, S) ∧ f_X11_sortBy M (nI c) (nI x - nI x / nI (q_tot M c) * nI (q_tot M c)) = some (nI s', M) := by
  have t0 := tot_pos h3 hc h0
  have t1 := tot_le h3 hc
  have eT : S.1 (21 + c) 2 = nI (q_tot M c) := (h3.2 c hc).2.2.2.2.2.2
  have ml := Nat.mod_lt x (show 0 < q_tot M c by omega)
  obtain ⟨s', h, e1, e2⟩ := dr_l h3 hc (ms M c) FU FU 0 (x % q_tot M c) (Nat.zero_add _) (by have := ms_le h3 hc; rw [FU_eq]; omega) (by have := ms_le h3 hc; rw [FU_eq]; omega) (by rw [fb_sm']; exact ml) (by omega)
  refine ⟨s', h, ?_, ?_⟩
  · unfold f_X1_drawn
    show (if 0 < S.1 (21 + c) 2 then chk (¬ S.1 (21 + c) 2 = 0) (bnd (nI x - nI x / S.1 (21 + c) 2 * S.1 (21 + c) 2) fun v9 => l_X1_drawn_18 FU S ⟨c, hc⟩ v9 0) else _) = _
    rw [eT, if_pos (show (0 : Int32) < nI (q_tot M c) from nI_lt (a := 0) (by omega) (by omega)), chk_T (nI_ne0 (by omega) (by omega)), pk_rem (by omega) (by omega) (by omega), bnd_e]
    exact e1
  · rw [pk_rem (by omega) (by omega) (by omega)]
    exact e2
/-- what the day has come to -/
def Dc (S : St) (m bb dn g : Int32) : Prop := S.1 5 6 = m ∧ S.1 5 8 = bb ∧ S.1 5 7 = dn ∧ (S.2.1 5 3).toInt32 = g
theorem q_be_X {S M : St} (h3 : R3 S M) {c : Nat} (hc : c < 6) (h0 : 0 < ms M c) (t : Int32) : f_X1_startedAt S ⟨c, hc⟩ t = some (q_be M c t, S) := by
  have c5 : S.1 (21 + c) 5 = M.1 6 (6 * c + 1) := ca_X h3 hc h0 (j := 1) (by omega)
  unfold f_X1_startedAt
  show bnd (if t < S.1 (21 + c) 5 then S.1 (21 + c) 5 else t) _ = _
  rw [c5, bnd_e]; rfl
theorem e_late {S M : St} (h3 : R3 S M) {c : Nat} (hc : c < 6) (h0 : 0 < ms M c) (t : Int32) : f_X1_lateAt S ⟨c, hc⟩ t = some (if t ≤ M.1 6 (6 * c + 2) then 0 else 1, S) := by
  have c6 : S.1 (21 + c) 6 = M.1 6 (6 * c + 2) := ca_X h3 hc h0 (j := 2) (by omega)
  unfold f_X1_lateAt
  show (if t ≤ S.1 (21 + c) 6 then _ else _) = _
  rw [c6]
  by_cases q : t ≤ M.1 6 (6 * c + 2)
  · rw [if_pos q, if_pos q]
  · rw [if_neg q, if_neg q]
theorem dw_l {S0 M0 : St} {n : Nat} {k : Nat → Nat} (h2 : R2 S0 M0) (h3 : R3 S0 M0) (hR : Rw S0 M0 n k) (hok : ∀ t, t < n → Okk M0 (k t)) (f sd : Nat) (hf : f ≤ 255) (hsd : sd < 2 ^ 31) : ∀ (j fu fv i d b : Nat) (m g a dn : Int32) (S M : St), i + j = n → j < fu → j < fv → d < 65536 → b ≤ 255 → zb a → T5 S0 S → QM M0 M → Ly M0 M n k → Dc S m (nI b) dn g → Gc M m (nI b) g a dn →
    ∃ S' M' m' b' g' a' dn', l_X9_draw_31 fu S (nI f) (nI d) (nI i) = some S' ∧ T5 S0 S' ∧ Dc S' m' b' dn' g' ∧ l_X11_go_36 fv M (nI f) (nI sd) (nI (q_pp M0 k i)) (nI d) (nI i) = some M' ∧ QM M0 M' ∧ Gc M' m' b' g' a' dn' := by
  have hn := hR.1
  intro j
  induction j with
  | zero =>
    intro fu fv i d b m g a dn S M hk hfu hfv hd hb ha hT hK hY hD hG
    obtain ⟨fu, rfl⟩ : ∃ q, fu = q + 1 := ⟨fu - 1, by omega⟩
    obtain ⟨fv, rfl⟩ : ∃ q, fv = q + 1 := ⟨fv - 1, by omega⟩
    have hi : i = n := by omega
    subst hi
    show ∃ S' M' m' b' g' a' dn', f_X9_draw_31 (l_X9_draw_31 fu) S (nI f) (nI d) (nI i) = _ ∧ _ ∧ _ ∧ f_X11_go_36 (l_X11_go_36 fv) M (nI f) (nI sd) _ (nI d) (nI i) = _ ∧ _
    unfold f_X9_draw_31 f_X11_go_36 f_X6_length
    rw [obd2_s, (hT.rw hR).2.1, if_pos (Int32.le_refl _), hY.1, if_pos (Int32.le_refl _)]
    exact ⟨S, M, m, nI b, g, a, dn, rfl, hT, hD, rfl, hK, hG⟩
  | succ j ih =>
    intro fu fv i d b m g a dn S M hk hfu hfv hd hb ha hT hK hY hD hG
    obtain ⟨fu, rfl⟩ : ∃ q, fu = q + 1 := ⟨fu - 1, by omega⟩
    obtain ⟨fv, rfl⟩ : ∃ q, fv = q + 1 := ⟨fv - 1, by omega⟩
    have hR' := hT.rw hR
    obtain ⟨-, h4, hr⟩ := hR'
    obtain ⟨-, e16, e17, eR⟩ := hr i (by omega)
    obtain ⟨d1, d2, d3, d4⟩ := hD
    show ∃ S' M' m' b' g' a' dn', f_X9_draw_31 (l_X9_draw_31 fu) S (nI f) (nI d) (nI i) = _ ∧ _ ∧ _ ∧ f_X11_go_36 (l_X11_go_36 fv) M (nI f) (nI sd) _ (nI d) (nI i) = _ ∧ _
    unfold f_X9_draw_31 f_X9_draw_165 f_X6_length f_X6_wayTo
    rw [obd2_s, h4, if_neg (nI_ge (by omega) (by omega)), e_at S 6 (by show i < 6; omega), obd2_s, obd2_s, show S.1 (11 + (6 : Fin 10).val) i = q_w M0 k i from e17, d1, bnd_e, e_cat _ (by omega), obd2_s, show (setI S 5 6 (m + q_w M0 k i)).2.2 i = _ from eR]
    have t1 : T5 S0 (setI S 5 6 (m + q_w M0 k i)) := hT.tr (T5_I S 6 _)
    have a8 : (setI S 5 6 (m + q_w M0 k i)).1 5 8 = nI b := (si_nj (by omega)).trans d2
    have a7 : (setI S 5 6 (m + q_w M0 k i)).1 5 7 = dn := (si_nj (by omega)).trans d3
    rcases gs_come h3 hn hok hK hY (k_36 := l_X11_go_36 fv) (x1 := nI f) (x2 := nI sd) (x4 := nI d) (show i < n by omega) hG with ⟨hc, M1, e, hGM, hG1⟩ | ⟨hc, h0, M1, e, hGM, hG1⟩
    · rw [dif_neg hc, oel_N, bnd_e, bnd_e, nI_1, e]
      exact ih fu fv (i + 1) d f _ g a dn _ M1 (by omega) (by omega) (by omega) hd hf ha (t1.tr (T5_I _ 8 _)) (hK.tr hGM.km) (hGM.ly hY) ⟨(si_nj (by omega)).trans si_eq, si_eq, (si_nj (by omega)).trans a7, d4⟩ hG1
    · have s3 := R3_fr t1.k.fs (FM.rf M0) h3
      have k1 := hK.tr hGM.km
      have r1 := R3_fr (FS.rf S0) k1.fm h3
      have k6 : M1.1 6 = M0.1 6 := k1.1 6 (by omega) (by omega) (by omega)
      have k8 : M1.1 8 = M0.1 8 := k1.1 8 (by omega) (by omega) (by omega)
      have hm := ms_le h3 hc
      rw [dif_pos hc, oel_S, si_eq, e_late s3 hc h0, obd2_s, e]
      unfold f_X11_go_182 f_X11_go_237
      rw [chk_T (ixo_nI (show i < 6 by omega) (by omega)), bnd_e]
      by_cases l : m + q_w M0 k i ≤ M0.1 6 (6 * k i + 2)
      · -- the number drawn
        have ed : nI d * 25173 + 13849 - (nI d * 25173 + 13849) / 65536 * 65536 = nI ((d * 25173 + 13849) % 65536) := by
          rw [show nI d * 25173 + 13849 = nI (d * 25173 + 13849) by rw [show (25173 : Int32) = nI 25173 from rfl, show (13849 : Int32) = nI 13849 from rfl, pk_mul, nI_add]]
          exact pk_rem (d := 65536) (by omega) (by omega) (by omega)
        have hd' := Nat.mod_lt (d * 25173 + 13849) (show 0 < 65536 by omega)
        generalize hdd : (d * 25173 + 13849) % 65536 = d' at *
        have e64 : nI d' / 64 = nI (d' / 64) := pk_div (d := 64) (by omega) (by omega) (by omega)
        have t2 : T5 S0 (setI (setI S 5 6 (m + q_w M0 k i)) 5 6 (q_be M0 (k i) (m + q_w M0 k i))) := t1.tr (T5_I _ 6 _)
        have u3 := R3_fr t2.k.fs (FM.rf M0) h3
        have u2 := R2_fr t2.k.fs (FM.rf M0) h2
        obtain ⟨s, hs, er, -⟩ := e_dr u3 hc h0 (d' / 64) (by omega)
        obtain ⟨s', hs', -, es⟩ := e_dr (S := S0) (M := M1) r1 hc (by rw [ms_km k1]; exact h0) (d' / 64) (by omega)
        have ess : s' = s := by
          obtain ⟨s2, hs2, er2, es2⟩ := e_dr (S := setI (setI S 5 6 (m + q_w M0 k i)) 5 6 (q_be M0 (k i) (m + q_w M0 k i))) (M := M1) (R3_fr t2.k.fs k1.fm h3) hc (by rw [ms_km k1]; exact h0) (d' / 64) (by omega)
          rw [er] at er2
          rw [es] at es2
          have z1 := Option.some.inj (Prod.mk.inj (Option.some.inj er2)).1
          have z1 : 4 * k i + s = 4 * k i + s2 := congrArg Fin.val z1
          have z2 := (Prod.mk.inj (Option.some.inj es2)).1
          rw [ms_km k1] at hs' hs2
          have := (nI_eq (a := s') (b := s2) (by omega) (by omega)).mp z2
          omega
        subst ess
        rw [if_pos l, if_pos rfl, bnd_e, if_pos rfl, if_neg (nI_pos hsd), ed, bnd_e, si_eq, q_be_X s3 hc h0, obd2_s, bnd_e]
        unfold f_X6_stopAt
        have b16 : (setI (setI S 5 6 (m + q_w M0 k i)) 5 6 (q_be M0 (k i) (m + q_w M0 k i))).1 (11 + (5 : Fin 10).val) i = nI (k i) := ((congrFun (t2.1 16 (by omega)) i).trans (congrFun (hT.1 16 (by omega)) i).symm).trans e16
        rw [e_at _ 5 (by show i < 6; omega), obd2_s, obd2_s, b16, e64, er, obd2_s]
        have t0 := tot_pos h3 hc h0
        have tl := tot_le h3 hc
        rw [e_totM r1 hc, obd2_s, tot_km k1, chk_T (nI_ne0 (by omega) (by omega))]
        rw [tot_km k1] at es
        rw [es, obd2_s, if_pos rfl]
        have el : f_X11_leftOf M1 (M1.1 0 29) (nI (k i)) (nI s') = some (q_lt M0 b (k i) s', M1) := by
          rw [hG1.2.1, e_lM r1 hc (by rw [ms_km k1]; exact hs) hb, lt_km k1]
        rw [el, obd2_s]
        unfold f_X9_meet f_X4_tools
        rw [oel_S, obd2_s]
        have b8 : (setI (setI S 5 6 (m + q_w M0 k i)) 5 6 (q_be M0 (k i) (m + q_w M0 k i))).1 5 8 = nI b := (si_nj (by omega)).trans a8
        have b7 : (setI (setI S 5 6 (m + q_w M0 k i)) 5 6 (q_be M0 (k i) (m + q_w M0 k i))).1 5 7 = dn := (si_nj (by omega)).trans a7
        have b6 : (setI (setI S 5 6 (m + q_w M0 k i)) 5 6 (q_be M0 (k i) (m + q_w M0 k i))).1 5 6 = q_be M0 (k i) (m + q_w M0 k i) := si_eq
        have bL : ((setI (setI S 5 6 (m + q_w M0 k i)) 5 6 (q_be M0 (k i) (m + q_w M0 k i))).2.1 5 3).toInt32 = g := d4
        have c7 : (setI (setI S 5 6 (m + q_w M0 k i)) 5 6 (q_be M0 (k i) (m + q_w M0 k i))).1 (21 + k i) 7 = M0.1 6 (6 * k i + 3) := ca_X u3 hc h0 (j := 3) (by omega)
        have c8 : (setI (setI S 5 6 (m + q_w M0 k i)) 5 6 (q_be M0 (k i) (m + q_w M0 k i))).1 (21 + k i) 8 = M0.1 6 (6 * k i + 4) := ca_X u3 hc h0 (j := 4) (by omega)
        have c9 : (setI (setI S 5 6 (m + q_w M0 k i)) 5 6 (q_be M0 (k i) (m + q_w M0 k i))).1 (21 + k i) 9 = M0.1 6 (6 * k i + 5) := ca_X u3 hc h0 (j := 5) (by omega)
        have cS : (setI (setI S 5 6 (m + q_w M0 k i)) 5 6 (q_be M0 (k i) (m + q_w M0 k i))).1 (33 + (4 * k i + s')) 1 = M0.1 8 (16 * k i + 4 * s' + 1) := so_X u3 hc hs (by omega)
        generalize setI (setI S 5 6 (m + q_w M0 k i)) 5 6 (q_be M0 (k i) (m + q_w M0 k i)) = T at *
        rw [b8, e_lX u3 u2 hc hs, obd2_s]
        unfold f_X9_meet_23 f_X9_meet_92
        rcases lt_or (M := M0) (c := k i) (s := s') hb with ⟨-, e7⟩ | ⟨-, b', hb', e7, g7⟩
        · rw [e7, if_pos rfl]
          obtain ⟨M2, e2, a1, a2⟩ := gs_fail (k_36 := l_X11_go_36 fv) (x1 := nI f) (x2 := nI sd) (x3 := nI (q_pp M0 k (i + 1))) (x4 := nI d') (i := i) hc hG1 (nI s')
          rw [e2]
          rw [k6] at a2
          show ∃ S' M' m' b' g' a' dn', (obd (bnd (setL T 5 3 (T.2.1 5 3 - (T.1 (21 + k i) 8).toInt64)) fun S7 => bnd (setI S7 5 6 (S7.1 5 6 + S7.1 (21 + k i) 9)) fun S8 => some S8) fun S16 => bnd (nI i + 1) fun v1 => l_X9_draw_31 fu S16 (nI f) (nI d') v1) = _ ∧ _
          rw [bnd_e, bnd_e, obd_S, bnd_e, nI_1, sl_1, b6, c8, c9]
          refine ih fu fv (i + 1) d' b _ _ _ dn _ M2 (by omega) (by omega) (by omega) hd' hb (Or.inl rfl) (t2.tr ((T5_L T 3 _).tr (T5_I _ 6 _))) (k1.tr a1.km) (a1.ly (hGM.ly hY)) ⟨si_eq, ?_, ?_, ?_⟩ a2
          · rw [si_nj (by omega), sl_1]; exact b8
          · rw [si_nj (by omega), sl_1]; exact b7
          · rw [si_2, sl_eq, lg_l2i_sub, lg_l2i_i2l, bL]
        · rw [if_neg g7, e7]
          obtain ⟨M2, e2, a1, a2⟩ := gs_does (k_36 := l_X11_go_36 fv) (x1 := nI f) (x2 := nI sd) (x3 := nI (q_pp M0 k (i + 1))) (x4 := nI d') (i := i) hc hG1 ha (s := s') (b' := b') (by omega) (by omega)
          rw [e2]
          rw [k6, k8] at a2
          show ∃ S' M' m' bb' g' a' dn', (obd (bnd (setL T 5 3 (T.2.1 5 3 + (T.1 (21 + k i) 7).toInt64)) fun S5 => bnd (setI S5 5 6 (S5.1 5 6 + S5.1 (33 + (4 * k i + s')) 1)) fun S1 => bnd (setI S1 5 8 (nI b')) fun S2 => bnd (setI S2 5 7 ((S2.1 5 7) ||| ((1 : Int32) <<< (nI (k i) &&& 31)))) fun S3 => some S3) fun S16 => bnd (nI i + 1) fun v1 => l_X9_draw_31 fu S16 (nI f) (nI d') v1) = _ ∧ _
          rw [bnd_e, bnd_e, bnd_e, bnd_e, obd_S, bnd_e, nI_1, sl_1, b6, c7, cS]
          refine ih fu fv (i + 1) d' b' _ _ a _ _ M2 (by omega) (by omega) (by omega) hd' hb' ha (t2.tr ((T5_L T 3 _).tr ((T5_I _ 6 _).tr ((T5_I _ 8 _).tr (T5_I _ 7 _))))) (k1.tr a1.km) (a1.ly (hGM.ly hY)) ⟨?_, ?_, ?_, ?_⟩ a2
          · rw [si_nj (by omega), si_nj (by omega), si_eq]
          · rw [si_nj (by omega), si_eq]
          · rw [si_eq, si_nj (by omega), si_nj (by omega), sl_1, b7]
          · rw [si_2, si_2, si_2, sl_eq, lg_l2i_add, lg_l2i_i2l, bL]
      · rw [if_neg l, if_neg one0, bnd_e, bnd_e, bnd_e, if_neg one0, if_neg one0, nI_1]
        have c8 : (setI S 5 6 (m + q_w M0 k i)).1 (21 + k i) 8 = M0.1 6 (6 * k i + 4) := ca_X s3 hc h0 (j := 4) (by omega)
        obtain ⟨M2, e2, a1, a2⟩ := gs_late (k_36 := l_X11_go_36 fv) (x1 := nI f) (x2 := nI sd) (x3 := nI (q_pp M0 k (i + 1))) (x4 := nI d) (i := i) hc hG1 ((M1.1 11 (nI i).toNatClampNeg))
        rw [e2]
        rw [k6] at a2
        have eb : q_be M0 (k i) (m + q_w M0 k i) = m + q_w M0 k i := by
          unfold q_be
          have os := op_sh h3 hc h0
          rw [if_neg (fun q => l (Int32.le_trans (Int32.le_of_lt q) os))]
        rw [eb] at a2
        show ∃ S' M' m' b' g' a' dn', l_X9_draw_31 fu (setL (setI S 5 6 (m + q_w M0 k i)) 5 3 ((setI S 5 6 (m + q_w M0 k i)).2.1 5 3 - ((setI S 5 6 (m + q_w M0 k i)).1 (21 + k i) 8).toInt64)) (nI f) (nI d) (nI (i + 1)) = _ ∧ _
        rw [c8]
        refine ih fu fv (i + 1) d b _ _ _ dn _ M2 (by omega) (by omega) (by omega) hd hb (Or.inl rfl) (t1.tr (T5_L _ 3 _)) (k1.tr a1.km) (a1.ly (hGM.ly hY)) ⟨?_, ?_, ?_, ?_⟩ a2
        · rw [sl_1, si_eq]
        · rw [sl_1]; exact a8
        · rw [sl_1]; exact a7
        · rw [sl_eq, si_2, lg_l2i_sub, lg_l2i_i2l, d4]
theorem st_run : PS_run RI := by
  intro S M h sd x row y w
  have hR := h
  obtain ⟨-, h2, h3, -⟩ := h
  obtain ⟨r, S', hK, eM, hr⟩ := e_refusal h2 h3 row y
  unfold f_X10_run f_X11_run f_X10_run_36
  rw [e_isBagX, obd2_s, e_within S sd 65535 65535 rfl, obd2_s, e_within S w 3 3 rfl, obd2_s, e_refB x row y r eM, obd2_s, e_in M sd 65535 65535 rfl, obd2_s, e_in M w 3 3 rfl, obd2_s]
  rcases hr with ⟨hr, hz⟩ | ⟨rfl, z0, z1, n, rfl, hn1, hRw, -, h5⟩
  · have key : ∀ z, f_X10_run_37 S sd x w row y z = some (r, S') := by
      intro z
      unfold f_X10_run_37
      rw [hz z, obd2_s, if_neg (rn0 hr)]
    rw [key, key, if_neg (rn0 hr), if_neg (rn0 hr), ite_self, ite_self, ite_self]
    exact ⟨_, _, _, rfl, rfl, RI_K hK (QM.rf M) hR⟩
  · have k0 : f_X10_run_37 S sd x w row (nI n) 0 = some (-3, S') := by
      unfold f_X10_run_37
      rw [z0, obd2_s, if_neg m3n]
    rw [if_pos rfl, k0]
    by_cases hb : inB x 255 = true
    · obtain ⟨b, hb1, hb2, rfl⟩ := inB_nI hb
      rw [if_pos hb, if_neg one0, if_pos hb, if_pos rfl]
      by_cases hs : inB sd 65535 = true
      · obtain ⟨d, hd, hd2, rfl⟩ := inB_nI hs
        rw [if_pos hs, if_neg one0, if_neg one0]
        by_cases hw : inB w 3 = true
        · have hok : ∀ t, t < n → Okk M (q_st row t) := fun t ht => (hRw.2.2 t ht).1
          have r2 := R2_fr hK.fs (FM.rf M) h2
          have r3 := R3_fr hK.fs (FM.rf M) h3
          obtain ⟨M1, e2, q1, y1⟩ := e_lay h3 row hRw.1 hok
          obtain ⟨M2, e3, q2, y2, -, -⟩ := e_lc (v := 0) h3 hRw.1 hok (by omega) q1 y1
          have gm : GM M2 (setI (setI (setI (setI (setI M2 0 27 (M2.1 0 9)) 0 29 (nI b)) 0 25 0) 0 28 0) 0 26 1) := (GM_I M2 27 _ (by omega)).tr ((GM_I _ 29 _ (by omega)).tr ((GM_I _ 25 _ (by omega)).tr ((GM_I _ 28 _ (by omega)).tr (GM_I _ 26 _ (by omega)))))
          have gc : Gc (setI (setI (setI (setI (setI M2 0 27 (M2.1 0 9)) 0 29 (nI b)) 0 25 0) 0 28 0) 0 26 1) (M.1 0 9) (nI b) 0 1 0 := by
            refine ⟨?_, ?_, ?_, si_eq, ?_⟩
            · exact (si_nj (by omega)).trans ((si_nj (by omega)).trans ((si_nj (by omega)).trans ((si_nj (by omega)).trans (si_eq.trans (q2.2 9 (by omega))))))
            · exact (si_nj (by omega)).trans ((si_nj (by omega)).trans ((si_nj (by omega)).trans si_eq))
            · exact (si_nj (by omega)).trans ((si_nj (by omega)).trans si_eq)
            · exact (si_nj (by omega)).trans si_eq
          have t0 : T5 S' (setI (setI (setI (setL S' 5 3 0) 5 7 0) 5 8 (nI b)) 5 6 (M.1 0 9)) := (T5_L S' 3 _).tr ((T5_I _ 7 _).tr ((T5_I _ 8 _).tr (T5_I _ 6 _)))
          have dc : Dc (setI (setI (setI (setL S' 5 3 0) 5 7 0) 5 8 (nI b)) 5 6 (M.1 0 9)) (M.1 0 9) (nI b) 0 0 := by
            refine ⟨si_eq, ?_, ?_, ?_⟩
            · rw [si_nj (by omega), si_eq]
            · rw [si_nj (by omega), si_nj (by omega), si_eq]
            · rw [si_2, si_2, si_2, sl_eq]; rfl
          obtain ⟨S1, M3, m', b', g', a', dn', e4, t5, d5, e5, q5, g5⟩ := dw_l r2 r3 hRw hok b d hb1 (by omega) n FU FU 0 d b (M.1 0 9) 0 1 0 _ _ (Nat.zero_add _) (by have := hRw.1; rw [FU_eq]; omega) (by have := hRw.1; rw [FU_eq]; omega) (by omega) hb1 (Or.inr rfl) t0 (q2.tr gm.km) (gm.ly y2) dc gc
          have eD : f_X9_draw S' (nI d) (nI b) = some S1 := by
            unfold f_X9_draw f_X4_begin
            rw [bnd_e, bnd_e, bnd_e, obd2_s, bnd_e]
            have eb : (setI (setI (setL S' 5 3 0) 5 7 0) 5 8 (nI b)).1 3 7 = M.1 0 9 := by
              rw [si_ne (by omega), si_ne (by omega), sl_1]; exact r2.2.2.2.2.1.1
            rw [eb]
            exact e4
          have eG : f_X11_go M2 (nI b) (nI d) = some M3 := by
            unfold f_X11_go
            rw [bnd_e, bnd_e, bnd_e, bnd_e, bnd_e]
            exact e5
          have e3 : f_X11_layChosen M1 0 = some M2 := e3
          rw [if_pos hw, if_neg one0, if_neg one0, e2, obd_S, e3, obd_S, eG, obd_S]
          unfold f_X10_run_37 f_X9_sum f_X9_latest f_X9_doneBits f_X9_bagLeft
          rw [z1, obd2_s, if_pos rfl, eD, obd_S, obd2_s, obd2_s, obd2_s, obd2_s, d5.1, d5.2.1, d5.2.2.1, d5.2.2.2, g5.1, g5.2.1, g5.2.2.1, g5.2.2.2.2]
          have hI := RI_K (hK.tr t5.k) q5 hR
          by_cases w0 : w = 0
          · rw [if_pos w0, if_pos w0]; exact ⟨_, S1, M3, rfl, rfl, hI⟩
          · rw [if_neg w0, if_neg w0]
            by_cases w1 : w = 1
            · rw [if_pos w1, if_pos w1]; exact ⟨_, S1, M3, rfl, rfl, hI⟩
            · rw [if_neg w1, if_neg w1]
              by_cases w2 : w = 2
              · rw [if_pos w2, if_pos w2]; exact ⟨_, S1, M3, rfl, rfl, hI⟩
              · rw [if_neg w2, if_neg w2]; exact ⟨_, S1, M3, rfl, rfl, hI⟩
        · rw [if_neg hw, if_pos rfl, if_pos rfl]
          exact ⟨_, _, _, rfl, rfl, RI_K hK (QM.rf M) hR⟩
      · rw [if_neg hs, if_pos rfl, if_pos rfl]
        exact ⟨_, _, _, rfl, rfl, RI_K hK (QM.rf M) hR⟩
    · rw [if_neg hb, if_pos rfl, if_neg hb, if_neg m3n]
      exact ⟨_, _, _, rfl, rfl, RI_K hK (QM.rf M) hR⟩
