-- ===== 50: sure
/-- what a search for the surest bag has found below k -/
def Su (M : St) (ok : Nat → Prop) (k : Nat) (r : Int32) : Prop := (r = -1 ∧ ∀ b, b < k → q_mb M b = true → ¬ ok b) ∨ ∃ v, r = nI v ∧ v < k ∧ q_mb M v = true ∧ ok v ∧ ∀ b, b < k → q_mb M b = true → ok b → q_wt M v ≤ q_wt M b ∧ (b < v → q_wt M v < q_wt M b)
theorem Su.un {M : St} {ok : Nat → Prop} {k : Nat} {r q : Int32} (h : Su M ok k r) (g : Su M ok k q) : r = q := by
  rcases h with ⟨a, b⟩ | ⟨u, a, b, c, d, e⟩
  · rcases g with ⟨a2, -⟩ | ⟨v, -, b2, c2, d2, -⟩
    · rw [a, a2]
    · exact absurd d2 (b v b2 c2)
  · rcases g with ⟨-, b2⟩ | ⟨v, a2, b2, c2, d2, e2⟩
    · exact absurd d (b2 u b c)
    · have : u = v := by
        have h1 := e v b2 c2 d2
        have h2 := e2 u b c d
        rcases Nat.lt_trichotomy u v with l | l | l
        · have := h2.2 l; omega
        · exact l
        · have := h1.2 l; omega
      rw [a, a2, this]
theorem Su.no {M : St} {ok : Nat → Prop} {t : Nat} {r : Int32} (h : Su M ok t r) (g : q_mb M t = true → ok t → ∃ v, r = nI v ∧ v < t ∧ q_wt M v ≤ q_wt M t) (ht : t < 2 ^ 31) : Su M ok (t + 1) r := by
  rcases h with ⟨a, b⟩ | ⟨u, a, b, c, d, e⟩
  · refine Or.inl ⟨a, fun b' hb hm ho => ?_⟩
    by_cases z : b' = t
    · subst z
      obtain ⟨v, g1, g2, -⟩ := g hm ho
      exact m1_ne (k := v) (by omega) (g1 ▸ a)
    · exact b b' (by omega) hm ho
  · refine Or.inr ⟨u, a, by omega, c, d, fun b' hb hm ho => ?_⟩
    by_cases z : b' = t
    · subst z
      obtain ⟨v, g1, g2, g3⟩ := g hm ho
      rw [a] at g1
      have : u = v := (nI_eq (by omega) (by omega)).mp g1
      subst this
      exact ⟨g3, fun l => by omega⟩
    · exact e b' (by omega) hm ho
theorem Su.yes {M : St} {ok : Nat → Prop} {t : Nat} {r : Int32} (h : Su M ok t r) (hm : q_mb M t = true) (ho : ok t) (g : ∀ v, r = nI v → v < t → q_wt M t < q_wt M v) : Su M ok (t + 1) (nI t) := by
  refine Or.inr ⟨t, rfl, by omega, hm, ho, fun b hb hm2 ho2 => ?_⟩
  by_cases z : b = t
  · subst z; exact ⟨Nat.le_refl _, fun l => by omega⟩
  · rcases h with ⟨a, b2⟩ | ⟨u, a, b2, c, d, e⟩
    · exact absurd ho2 (b2 b (by omega) hm2)
    · have h1 := g u a b2
      have h2 := (e b (by omega) hm2 ho2).1
      exact ⟨by omega, fun _ => by omega⟩
/-- all is done with a chance of a in b at least -/
def q_ok (M : St) (k : Nat → Nat) (n : Nat) (a b : Int32) (t : Nat) : Prop := ¬ lg_cmp (q_do M (q_lk M) k n t * b.toInt64) (lN (q_A M (q_lk M) k n 0) * a.toInt64) < 0
theorem fs_X {S0 M : St} {n : Nat} {k : Nat → Nat} (h2 : R2 S0 M) (h3 : R3 S0 M) (hR : Rw S0 M n k) (hK : Kno S0 M (q_lk M)) (a b : Int32) : ∀ (j fu t : Nat) (r : Int32) (S : St), t + j = 256 → j < fu → T6 S0 S → Su M (q_ok M k n a b) t r →
    ∃ q S', l_X2_findSure_14 fu S a b (q_rw M k n) r (nI t) = some (q, S') ∧ T6 S0 S' ∧ Su M (q_ok M k n a b) 256 q := by
  intro j
  induction j with
  | zero =>
    intro fu t r S hk hf hT hF
    obtain ⟨fu, rfl⟩ : ∃ q, fu = q + 1 := ⟨fu - 1, by omega⟩
    have : t = 256 := by omega
    subst this
    show ∃ q S', f_X2_findSure_14 (l_X2_findSure_14 fu) S a b _ r _ = _ ∧ _
    unfold f_X2_findSure_14
    rw [if_pos (show (256 : Int32) ≤ nI 256 by decide)]
    exact ⟨r, S, rfl, hT, hF⟩
  | succ j ih =>
    intro fu t r S hk hf hT hF
    obtain ⟨fu, rfl⟩ : ∃ q, fu = q + 1 := ⟨fu - 1, by omega⟩
    have r2 := R2_fr hT.k.fs (FM.rf M) h2
    have r3 := R3_fr hT.k.fs (FM.rf M) h3
    show ∃ q S', f_X2_findSure_14 (l_X2_findSure_14 fu) S a b _ r _ = _ ∧ _
    unfold f_X2_findSure_14 f_X2_findSure_65 f_X2_findSure_102 f_X2_isWorthATry f_X9_allDone f_X9_scale
    simp only [bnd_e, nI_1, obd2_s]
    rw [if_neg (show ¬ (256 : Int32) ≤ nI t from nI_ge (a := t) (b := 256) (by omega) (by omega)), e_mayX r2 (by omega), obd2_s]
    have skip : ∀ T : St, T6 S0 T → (q_mb M t = true → q_ok M k n a b t → ∃ v, r = nI v ∧ v < t ∧ q_wt M v ≤ q_wt M t) → ∃ q S', l_X2_findSure_14 fu T a b (q_rw M k n) r (nI (t + 1)) = some (q, S') ∧ T6 S0 S' ∧ Su M (q_ok M k n a b) 256 q :=
      fun T hT hs => ih fu (t + 1) r T (by omega) (by omega) hT (hF.no hs (by omega))
    by_cases w : nI t &&& (q_rw M k n ^^^ (-1)) = 0
    · rw [if_pos w]
      by_cases q : q_mb M t = true
      · rw [if_pos q, if_neg one0, obd2_s, if_neg one0]
        obtain ⟨S1, e1, t5, -, k4, k5, -⟩ := e_take r2 r3 (hT.rw hR) (hT.kn hK) (show t ≤ 255 by omega)
        have tT : T6 S0 S1 := hT.tr t5.t6
        have try1 : (∀ v, r = nI v → v < t → q_wt M t < q_wt M v) → ∃ q S', (obd (f_X9_take S (nI t)) fun S2 => if lg_cmp (S2.2.1 5 4 * b.toInt64) (S2.2.1 5 5 * a.toInt64) < 0 then l_X2_findSure_14 fu S2 a b (q_rw M k n) r (nI (t + 1)) else l_X2_findSure_14 fu S2 a b (q_rw M k n) (nI t) (nI (t + 1))) = some (q, S') ∧ T6 S0 S' ∧ Su M (q_ok M k n a b) 256 q := by
          intro hs
          rw [e1, obd_S, show S1.2.1 5 4 = q_do M (q_lk M) k n t from k4, k5]
          by_cases l : lg_cmp (q_do M (q_lk M) k n t * b.toInt64) (lN (q_A M (q_lk M) k n 0) * a.toInt64) < 0
          · rw [if_pos l]
            exact skip S1 tT (fun _ ho => absurd l ho)
          · rw [if_neg l]
            exact ih fu (t + 1) (nI t) S1 (by omega) (by omega) tT (hF.yes q l hs)
        by_cases z : r = -1
        · rw [if_pos z]
          exact try1 (fun v e l => absurd (e ▸ z) (m1_ne (by omega)))
        · rw [if_neg z, e_wtX r2 (by omega), obd2_s]
          rcases hF with ⟨y, -⟩ | ⟨u, y, hu, rest⟩
          · exact absurd y z
          · have w1 := wt_le h2 t
            have w2 := wt_le h2 u
            rw [y, e_wtX r2 (by omega), obd2_s, ← y]
            by_cases l : q_wt M t < q_wt M u
            · rw [if_pos (nI_lt l (by omega))]
              refine try1 (fun v e _ => ?_)
              rw [y] at e
              rw [← (nI_eq (a := u) (b := v) (by omega) (by omega)).mp e]
              exact l
            · rw [if_neg (nI_nlt (by omega) (by omega))]
              exact skip S hT (fun _ _ => ⟨u, y, hu, by omega⟩)
      · rw [if_neg q, if_pos rfl, obd2_s, if_pos rfl]
        exact skip S hT (fun z => absurd z q)
    · rw [if_neg w, obd2_s, if_pos rfl]
      refine skip S hT (fun hm ho => ?_)
      have hl := ct2_le (q_rw M k n) t
      have hne : q_ct2 (q_rw M k n) t ≠ t := fun z => w ((ct2_w (by omega)).mpr z)
      obtain ⟨m1, m2⟩ := ct2_mb (w := q_rw M k n) hm
      have e := (mn_sw (L := q_lk M) (Wn_rw M k n) (show q_ct2 (q_rw M k n) t ≤ 255 by omega) (show t ≤ 255 by omega) (ct2_sw _ t)).2
      have ho2 : q_ok M k n a b (q_ct2 (q_rw M k n) t) := by unfold q_ok; rw [e]; exact ho
      rcases hF with ⟨-, y⟩ | ⟨u, y, hu, -, -, e5⟩
      · exact absurd ho2 (y _ (by omega) m1)
      · have := (e5 _ (show q_ct2 (q_rw M k n) t < t by omega) m1 ho2).1
        exact ⟨u, y, hu, by omega⟩
theorem mb_km {M M' : St} (h : QM M M') (t : Nat) : q_mb M' t = q_mb M t := by
  unfold q_mb q_wt q_pr
  rw [show q_wf M' = q_wf M from funext fun t => congrArg nv (congrFun (h.1 3 (by omega) (by omega) (by omega)) t), show q_pf M' = q_pf M from funext fun t => congrArg nv (congrFun (h.1 4 (by omega) (by omega) (by omega)) t), h.2 7 (by omega), h.2 8 (by omega)]
theorem wt_km {M M' : St} (h : QM M M') (t : Nat) : q_wt M' t = q_wt M t := by
  unfold q_wt
  rw [show q_wf M' = q_wf M from funext fun t => congrArg nv (congrFun (h.1 3 (by omega) (by omega) (by omega)) t)]
theorem fs_M {S M0 : St} {n : Nat} {k : Nat → Nat} (h2 : R2 S M0) (h3 : R3 S M0) (hn : n ≤ 6) (hok : ∀ t, t < n → Okk M0 (k t)) (a b : Int32) : ∀ (j fu t : Nat) (r : Int32) (M : St), t + j = 256 → j < fu → QM M0 M → Ly M0 M n k → Su M0 (q_ok M0 k n a b) t r →
    ∃ q M', l_X11_sure_56 fu M a b r (nI t) = some (q, M') ∧ QM M0 M' ∧ Su M0 (q_ok M0 k n a b) 256 q := by
  intro j
  induction j with
  | zero =>
    intro fu t r M hk hf hK hY hF
    obtain ⟨fu, rfl⟩ : ∃ q, fu = q + 1 := ⟨fu - 1, by omega⟩
    have : t = 256 := by omega
    subst this
    show ∃ q M', f_X11_sure_56 (l_X11_sure_56 fu) M a b r _ = _ ∧ _
    unfold f_X11_sure_56
    rw [if_pos (show (256 : Int32) ≤ nI 256 by decide)]
    exact ⟨r, M, rfl, hK, hF⟩
  | succ j ih =>
    intro fu t r M hk hf hK hY hF
    obtain ⟨fu, rfl⟩ : ∃ q, fu = q + 1 := ⟨fu - 1, by omega⟩
    have r2 := R2_fr (FS.rf S) hK.fm h2
    show ∃ q M', f_X11_sure_56 (l_X11_sure_56 fu) M a b r _ = _ ∧ _
    unfold f_X11_sure_56 f_X11_sure_94 f_X11_sure_98 f_X11_sure_99 f_X11_sure_132 f_X11_sure_134
    simp only [bnd_e, nI_1]
    rw [if_neg (show ¬ (256 : Int32) ≤ nI t from nI_ge (a := t) (b := 256) (by omega) (by omega)), e_mayM r2 (by omega), obd2_s, mb_km hK]
    have skip : (q_mb M0 t = true → q_ok M0 k n a b t → ∃ v, r = nI v ∧ v < t ∧ q_wt M0 v ≤ q_wt M0 t) → ∀ T : St, QM M0 T → Ly M0 T n k → ∃ q M', l_X11_sure_56 fu T a b r (nI (t + 1)) = some (q, M') ∧ QM M0 M' ∧ Su M0 (q_ok M0 k n a b) 256 q :=
      fun hs T hT hY => ih fu (t + 1) r T (by omega) (by omega) hT hY (hF.no hs (by omega))
    by_cases q : q_mb M0 t = true
    · rw [if_pos q, if_neg one0]
      obtain ⟨M1, e1, k1, y1⟩ := e_done h3 hn hok hK hY (show t ≤ 255 by omega)
      have try1 : (∀ v, r = nI v → v < t → q_wt M0 t < q_wt M0 v) → ∃ q M', (if (1 : Int32) = 0 then l_X11_sure_56 fu M a b r (nI (t + 1)) else obd2 (f_X11_doneOf M (nI t)) fun r3 S3 => if lg_cmp (r3 * b.toInt64) (S3.2.1 0 23 * a.toInt64) < 0 then l_X11_sure_56 fu S3 a b r (nI (t + 1)) else l_X11_sure_56 fu S3 a b (nI t) (nI (t + 1))) = some (q, M') ∧ QM M0 M' ∧ Su M0 (q_ok M0 k n a b) 256 q := by
        intro hs
        rw [if_neg one0, e1, obd2_s, y1.2.2.2]
        by_cases l : lg_cmp (q_do M0 (q_lk M0) k n t * b.toInt64) (lN (q_A M0 (q_lk M0) k n 0) * a.toInt64) < 0
        · rw [if_pos l]
          exact skip (fun _ ho => absurd l ho) M1 k1 y1
        · rw [if_neg l]
          exact ih fu (t + 1) (nI t) M1 (by omega) (by omega) k1 y1 (hF.yes q l hs)
      by_cases z : r = -1
      · rw [if_pos z]
        exact try1 (fun v e l => absurd (e ▸ z) (m1_ne (by omega)))
      · rw [if_neg z, e_wtM r2 (by omega), obd2_s, wt_km hK]
        rcases hF with ⟨y, -⟩ | ⟨u, y, hu, rest⟩
        · exact absurd y z
        · have w1 := wt_le h2 t
          have w2 := wt_le h2 u
          rw [y, e_wtM r2 (by omega), obd2_s, ← y, wt_km hK]
          by_cases l : q_wt M0 t < q_wt M0 u
          · rw [if_neg (nI_ge l (by omega))]
            refine try1 (fun v e _ => ?_)
            rw [y] at e
            rw [← (nI_eq (a := u) (b := v) (by omega) (by omega)).mp e]
            exact l
          · rw [if_pos (nI_le (by omega) (by omega)), if_pos trivial]
            exact skip (fun _ _ => ⟨u, y, hu, by omega⟩) M hK hY
    · rw [if_neg q, if_pos rfl, if_pos trivial]
      exact skip (fun z => absurd z q) M hK hY
theorem st_sure : PS_sure RI := by
  intro S M h row y a b
  have hR := h
  obtain ⟨-, h2, h3, -⟩ := h
  obtain ⟨r, S', hK, eM, hr⟩ := e_refusal h2 h3 row y
  unfold f_X10_sure f_X11_sure f_X10_sure_28
  rw [e_within1 S b 99 99 rfl, obd2_s, eM, obd2_s]
  rcases hr with ⟨hr, hz⟩ | ⟨rfl, z0, z1, n, rfl, hn1, hRw, -, h5⟩
  · have key : ∀ z, f_X10_sure_29 S a b row y z = some (r, S') := by
      intro z
      unfold f_X10_sure_29
      rw [hz z, obd2_s, if_neg (rn0 hr)]
    rw [key, if_neg (rn0 hr)]
    refine ⟨r, S', M, ?_, rfl, RI_K hK (QM.rf M) hR⟩
    by_cases hb : inB1 b 99 = true
    · obtain ⟨c, c1, c2, c3, rfl⟩ := inB1_nI hb
      rw [if_pos hb, if_neg one0, e_within S a (nI c) c (nI_toInt c3), obd2_s, key, key, ite_self]
    · rw [if_neg hb, if_pos rfl]
  · have k0 : f_X10_sure_29 S a b row (nI n) 0 = some (-3, S') := by
      unfold f_X10_sure_29
      rw [z0, obd2_s, if_neg m3n]
    rw [if_pos rfl, k0, e_in1 M b 99 99 rfl, obd2_s]
    by_cases hb : inB1 b 99 = true
    · obtain ⟨c, c1, c2, c3, rfl⟩ := inB1_nI hb
      rw [if_pos hb, if_neg one0, if_neg one0, e_within S a (nI c) c (nI_toInt c3), obd2_s, e_in M a (nI c).toInt64 c (by rw [Int32.toInt_toInt64]; exact nI_toInt c3), obd2_s]
      by_cases ha : inB a c = true
      · have hok : ∀ t, t < n → Okk M (q_st row t) := fun t ht => (hRw.2.2 t ht).1
        have r2 := R2_fr hK.fs (FM.rf M) h2
        have r3 := R3_fr hK.fs (FM.rf M) h3
        have su0 : ∀ ok, Su M ok 0 (-1) := fun ok => Or.inl ⟨rfl, fun b hb => absurd hb (Nat.not_lt_zero b)⟩
        obtain ⟨q, S1, e1, t6, s1⟩ := fs_X r2 r3 hRw (Or.inl ⟨h5, rfl⟩) a (nI c) 256 FU 0 (-1) S' rfl (by rw [FU_eq]; omega) (T6.rf S') (su0 _)
        obtain ⟨M1, e2, q1, y1⟩ := e_lay h3 row hRw.1 hok
        obtain ⟨u, M2, e3, q2, s2⟩ := fs_M h2 h3 hRw.1 hok a (nI c) 256 FU 0 (-1) M1 rfl (by rw [FU_eq]; omega) q1 y1 (su0 _)
        have e1 : l_X2_findSure_14 FU S' a (nI c) (q_rw M (q_st row) n) (-1) 0 = _ := e1
        have e3 : l_X11_sure_56 FU M1 a (nI c) (-1) 0 = _ := e3
        unfold f_X10_sure_29 f_X2_findSure
        rw [if_pos ha, if_neg one0, if_neg one0, z1, obd2_s, if_pos rfl, e_rwX r3 hRw, obd2_s, e1, obd2_s, e2, obd_S, e3, s1.un s2]
        exact ⟨_, _, _, rfl, rfl, RI_K (hK.tr t6.k) q2 hR⟩
      · rw [if_neg ha, if_pos rfl, if_pos rfl, k0]
        exact ⟨_, _, _, rfl, rfl, RI_K hK (QM.rf M) hR⟩
    · rw [if_neg hb, if_pos rfl, if_pos rfl]
      exact ⟨_, _, _, rfl, rfl, RI_K hK (QM.rf M) hR⟩
