-- ===== 59: every kind of line
section KINDS
variable {S0 M0 : St} {N : Nat} {tx : Nat → Nat}
theorem gd_M {S M : St} {q e L j : Nat} {T : Nat → Int32} (h : Gd S0 M0 N q e L j T S M) (h1 : 1 ≤ j) (i : Nat) (v : Int32) (hi : 8 * L + j ≤ i) : Gd S0 M0 N q e L j T S (setI M 2 i v) := by
  obtain ⟨g1, g2, g3, g4, g5, g6, g7, g8, g9, g10⟩ := h
  have m0 : (setI M 2 i v).1 0 = M.1 0 := si_ne (by omega)
  have m2 : ∀ t, t ≠ i → (setI M 2 i v).1 2 t = M.1 2 t := fun t ht => si_nj ht
  refine ⟨g1, g2.tr (RM_2 M i v), g3, ?_, g5, ?_, fun t ht => ?_, g8, fun t a b => ?_, ?_⟩
  · unfold Tq; rw [m0]; exact g4
  · rw [m0]; exact g6
  · rw [m2 t (by omega)]; exact g7 t ht
  · rw [m2 _ (by omega)]; exact g9 t a b
  · rw [m2 _ (by omega)]; exact g10
theorem gd_tok {S M : St} {q e L j : Nat} {T : Nat → Int32} (h : Gd S0 M0 N q e L j T S M) {S' M' : St} {q' e' : Nat} (hS : SF S S') (hM : MF M M') (ht : Tq S' M' N q' e') : Gd S0 M0 N q' e' L j T S' M' := by
  obtain ⟨g1, g2, g3, g4, g5, g6, g7, g8, g9, g10⟩ := h
  have m2 : M'.1 2 = M.1 2 := hM.1 2 (by omega)
  have s12 : S'.1 12 = S.1 12 := hS.1 12 (by omega)
  refine ⟨g1.tr hS.rs, g2.tr hM.rm, (hS.2 6 (by omega) (by omega)).trans g3, ht, (hS.2 3 (by omega) (by omega)).trans g5, (hM.2 3 (by omega) (by omega) (by omega)).trans g6, ?_, ?_, ?_, ?_⟩
  · rw [m2, s12]; exact g7
  · rw [s12]; exact g8
  · rw [m2]; exact g9
  · rw [m2]; exact g10
theorem si_same {M : St} {p i : Nat} {v : Int32} (h : M.1 p i = v) : (setI M p i v).1 p = M.1 p := by
  funext t
  by_cases z : t = i
  · rw [z, si_eq, h]
  · rw [si_nj z]
theorem mf_same {M M' : St} {i : Nat} {v : Int32} (h : M.1 2 i = v) (g : MF M M') : MF (setI M 2 i v) M' := by
  refine ⟨fun p hp => ?_, fun j a b c => ?_⟩
  · rw [g.1 p hp]
    by_cases z : p = 2
    · rw [z, si_same h]
    · rw [si_ne z]
  · rw [g.2 j a b c, si_ne (by omega)]
theorem gd_le {S M : St} {q e L j : Nat} {T : Nat → Int32} (h : Gd S0 M0 N q e L j T S M) : q ≤ e ∧ e ≤ N := ⟨h.2.2.2.1.2.2.2.2.2.1, h.2.2.2.1.2.2.2.2.2.2.1⟩
/-- a call -/
theorem ln_call (hT : Tx S0 M0 N tx) {L : Nat} (hL : L ≤ 9) {S M : St} {q e : Nat} (h : Gd S0 M0 N q e L 1 (fun _ => 6) S M) :
    CL S0 M0 N L (obd2 (f_X5_number S 0 5) fun r2 S2 => obd (f_X5_note S2 r2) fun S3 => obd2 (f_X5_number S3 1 5) fun r4 S4 => obd (f_X5_note S4 r4) fun S5 => obd2 (f_X5_number S5 0 1439) fun r6 S6 => obd (f_X5_note S6 r6) fun S7 => obd2 (f_X5_number S7 r6 1439) fun r8 S8 => obd (f_X5_note S8 r8) fun S9 => obd2 (f_X5_number S9 0 99) fun r10 S10 => obd (f_X5_note S10 r10) fun S11 => obd2 (f_X5_number S11 0 99) fun r12 S12 => obd (f_X5_note S12 r12) fun S13 => obd2 (f_X5_number S13 0 99) fun r14 S14 => obd (f_X5_note S14 r14) fun S15 => some S15)
      (obd2 (f_X11_reads M 0 0 5) fun r18 S18 => if r18 = 0 then f_X11_readsLine_312 S18 else obd2 (f_X11_reads S18 1 1 5) fun r20 S20 => if r20 = 0 then f_X11_readsLine_312 S20 else obd2 (f_X11_reads S20 2 0 1439) fun r22 S22 => if r22 = 0 then f_X11_readsLine_312 S22 else chk (ixo (nI (8 * L) + 3) 80) <| obd2 (f_X11_reads S22 3 (S22.1 2 ((nI (8 * L) + 3)).toNatClampNeg) 1439) fun r25 S25 => if r25 = 0 then f_X11_readsLine_312 S25 else obd2 (f_X11_reads S25 4 0 99) fun r27 S27 => if r27 = 0 then f_X11_readsLine_312 S27 else obd2 (f_X11_reads S27 5 0 99) fun r29 S29 => if r29 = 0 then f_X11_readsLine_312 S29 else obd2 (f_X11_reads S29 6 0 99) fun r31 S31 => if r31 = 0 then f_X11_readsLine_312 S31 else f_X11_readsLine_313 S31 1) := by
  have ff : ∀ {S M : St} {q e j : Nat} {T : Nat → Int32} {x : Option St}, Gd S0 M0 N q e L j T S M → (∃ S', x = some S' ∧ Fl S0 q e S') → CL S0 M0 N L x (f_X11_readsLine_312 M) := by
    intro S M q e j T x g hx
    have k := c1_cl hL (Or.inr (mk_f g hx (RM.rf M) rfl) : C1 S0 M0 N L x (some (0, M)))
    exact k
  obtain ⟨z1, z2⟩ := gd_le h
  refine nst hT hL (CL S0 M0 N L) 0 5 1 (by omega) (by omega) (by omega) (by omega) h (fun c q1 e1 S1 M1 _ c5 g1 _ => ?_) (fun S' f => ff h ?_)
  · obtain ⟨z1, z2⟩ := gd_le g1
    refine nst hT hL (CL S0 M0 N L) 1 5 2 (by omega) (by omega) (by omega) (by omega) g1 (fun p q2 e2 S2 M2 p1 p5 g2 _ => ?_) (fun S' f => ff g1 ?_)
    · obtain ⟨z1, z2⟩ := gd_le g2
      refine nst hT hL (CL S0 M0 N L) 0 1439 3 (by omega) (by omega) (by omega) (by omega) g2 (fun o q3 e3 S3 M3 _ o2 g3 _ => ?_) (fun S' f => ff g2 ?_)
      · obtain ⟨z1, z2⟩ := gd_le g3
        have e3 : M3.1 2 (nI (8 * L) + 3).toNatClampNeg = nI o := by
          rw [show nI (8 * L) + 3 = nI (8 * L + 3) from nI_add _ 3, nI_clamp (by omega)]
          exact g3.2.2.2.2.2.2.2.2.1 3 (by omega) (by omega)
        rw [show nI (8 * L) + 3 = nI (8 * L + 3) from nI_add _ 3, chk_T (ixo_nI (show 8 * L + 3 < 80 by omega) (by omega)), ← show nI (8 * L) + 3 = nI (8 * L + 3) from nI_add _ 3, e3]
        refine nst hT hL (CL S0 M0 N L) o 1439 4 (by omega) (by omega) (by omega) (by omega) g3 (fun s q4 e4 S4 M4 s1 s2 g4 _ => ?_) (fun S' f => ff g3 ?_)
        · obtain ⟨z1, z2⟩ := gd_le g4
          refine nst hT hL (CL S0 M0 N L) 0 99 5 (by omega) (by omega) (by omega) (by omega) g4 (fun w q5 e5 S5 M5 _ w2 g5 _ => ?_) (fun S' f => ff g4 ?_)
          · obtain ⟨z1, z2⟩ := gd_le g5
            refine nst hT hL (CL S0 M0 N L) 0 99 6 (by omega) (by omega) (by omega) (by omega) g5 (fun g q6 e6 S6 M6 _ g2' g6 _ => ?_) (fun S' f => ff g5 ?_)
            · obtain ⟨z1, z2⟩ := gd_le g6
              refine nst hT hL (CL S0 M0 N L) 0 99 7 (by omega) (by omega) (by omega) (by omega) g6 (fun l q7 e7 S7 M7 _ l2 g7 _ => ?_) (fun S' f => ff g6 ?_)
              · exact c1_cl hL (Or.inl ⟨S7, M7, q7, e7, 8, _, rfl, rfl, g7, Or.inr (Or.inr (Or.inr (Or.inr (Or.inr (Or.inl ⟨rfl, by omega, c, p, o, s, w, g, l, c5, p1, p5, s1, s2, w2, g2', l2, rfl, rfl, rfl, rfl, rfl, rfl, rfl⟩)))))⟩ : C1 S0 M0 N L (some S7) (some (1, M7)))
              · exact ⟨_, rfl, f⟩
            · repeat (first | refine fl_nn hT z1 z2 (by assumption) (fun r S' f => ?_) | exact ⟨_, rfl, by assumption⟩)
          · repeat (first | refine fl_nn hT z1 z2 (by assumption) (fun r S' f => ?_) | exact ⟨_, rfl, by assumption⟩)
        · repeat (first | refine fl_nn hT z1 z2 (by assumption) (fun r S' f => ?_) | exact ⟨_, rfl, by assumption⟩)
      · repeat (first | refine fl_nn hT z1 z2 (by assumption) (fun r S' f => ?_) | exact ⟨_, rfl, by assumption⟩)
    · repeat (first | refine fl_nn hT z1 z2 (by assumption) (fun r S' f => ?_) | exact ⟨_, rfl, by assumption⟩)
  · repeat (first | refine fl_nn hT z1 z2 (by assumption) (fun r S' f => ?_) | exact ⟨_, rfl, by assumption⟩)
theorem nu_l {S M : St} (h : Tx S M N tx) {e : Nat} (he : e ≤ N) (e19 : M.1 0 19 = nI e) : ∀ (j fu i : Nat) (a : Int32), i + j = e → j < fu → l_X11_number_7 fu M a (nI i) = some (q_nm tx j i a, M) := by
  have hN := h.1
  intro j
  induction j with
  | zero =>
    intro fu i a hk hf
    obtain ⟨fu, rfl⟩ : ∃ q, fu = q + 1 := ⟨fu - 1, by omega⟩
    show f_X11_number_7 (l_X11_number_7 fu) M a (nI i) = _
    unfold f_X11_number_7
    rw [e19, if_pos (nI_le (by omega) (by omega))]; rfl
  | succ j ih =>
    intro fu i a hk hf
    obtain ⟨fu, rfl⟩ : ∃ q, fu = q + 1 := ⟨fu - 1, by omega⟩
    show f_X11_number_7 (l_X11_number_7 fu) M a (nI i) = _
    unfold f_X11_number_7
    rw [e19, if_neg (nI_ge (by omega) (by omega)), chk_T (ixo_nI (show i < 200 by omega) (by omega)), nI_clamp (by omega), (h.2.2.2 i (by omega)).2.1, bnd_e, bnd_e, nI_1, Int32.mul_comm]
    exact ih fu (i + 1) _ (by omega) (by omega)
/-- a way -/
theorem ln_way (hT : Tx S0 M0 N tx) {L : Nat} (hL : L ≤ 9) {S M : St} {q e : Nat} (h : Gd S0 M0 N q e L 1 (fun _ => 5) S M) :
    C1 S0 M0 N L (obd2 (f_X5_number S 0 5) fun r6 S6 => obd (f_X5_note S6 r6) fun S7 => obd2 (f_X8_number S7 (S7.1 2 4) (S7.1 2 5)) fun r8 S8 => if r8 = r6 then (bnd (setI S8 2 6 1) fun S10 => f_X5_readWay_41 S10) else f_X5_readWay_41 S8) (f_X11_readsWay M) := by
  have hN := hT.1
  obtain ⟨z1, z2⟩ := gd_le h
  have tl : ∀ {q e : Nat} {S : St}, q ≤ e → e ≤ N → Fl S0 q e S → ∃ S', f_X5_readWay_41 S = some S' ∧ Fl S0 q e S' := by
    intro q e S h1 h2 f
    unfold f_X5_readWay_41
    exact fl_nn hT h1 h2 f (fun r S' f => fl_nn hT h1 h2 f (fun r S' f => ⟨S', rfl, f⟩))
  unfold f_X11_readsWay
  refine nst hT hL (C1 S0 M0 N L) (ff := fun M => some (0, M)) 0 5 1 (by omega) (by omega) (by omega) (by omega) h (fun a q1 e1 S1 M1 _ a5 g1 _ => ?_) (fun S' f => Or.inr (mk_f h ?_ (RM.rf M) rfl))
  · obtain ⟨y1, y2⟩ := gd_le g1
    have t := gd_tx hT g1
    obtain ⟨t1, t2, t3, t4, t5, -, -, t8⟩ := g1.2.2.2.1
    have kl := kd_le (tx q1)
    have c1 : M1.1 2 (8 * L + 1) = nI a := g1.2.2.2.2.2.2.2.2.1 1 (by omega) (by omega)
    have eR : (if (M1.1 0 1) ≤ (M1.1 0 18) then f_X11_readsWay_77 M1 else if 4 < ((M1.1 0 19) - (M1.1 0 18)) then f_X11_readsWay_77 M1 else chk (ixo (M1.1 0 18) 200) <| obd2 (f_X11_kind M1 (M1.1 1 ((M1.1 0 18)).toNatClampNeg)) fun r11 S11 => if r11 = 2 then (obd2 (f_X11_number S11) fun r13 S13 => chk (ixo ((8 * (S13.1 0 3)) + 1) 80) <| if r13 = (S13.1 2 (((8 * (S13.1 0 3)) + 1)).toNatClampNeg) then f_X11_readsWay_78 S13 1 else f_X11_readsWay_77 S13) else f_X11_readsWay_77 S11) = if q_nv tx N q1 e1 = nI a then f_X11_readsWay_78 M1 1 else f_X11_readsWay_78 M1 0 := by
      have no : ¬ ((q1 < N ∧ kd (tx q1) = 2) ∧ e1 - q1 ≤ 4) → (if q_nv tx N q1 e1 = nI a then f_X11_readsWay_78 M1 1 else f_X11_readsWay_78 M1 0) = f_X11_readsWay_77 M1 := by
        intro c
        rw [show q_nv tx N q1 e1 = -1 from if_neg c, if_neg (fun z => m1_ne (k := a) (by omega) z.symm)]; rfl
      rw [t4, t5, t.2.2.1, pk_sub y1]
      by_cases l : q1 < N
      · obtain ⟨-, tm, tb⟩ := t.2.2.2 q1 l
        have kk : (km (tx q1) = 2) ↔ kd (tx q1) = 2 := by unfold km; split <;> omega
        have kml : km (tx q1) ≤ 3 := by unfold km; split <;> omega
        rw [if_neg (nI_ge l (by omega))]
        by_cases c4 : e1 - q1 ≤ 4
        · rw [if_neg (show ¬ (4 : Int32) < nI (e1 - q1) from nI_nlt (a := 4) c4 (by omega)), chk_T (ixo_nI (show q1 < 200 by omega) (by omega)), nI_clamp (by omega), tm, e_kM M1 tb, obd2_s]
          by_cases c : kd (tx q1) = 2
          · have ix : 8 * nI L + 1 = nI (8 * L + 1) := by rw [show (8 : Int32) = nI 8 from rfl, pk_mul, nI_1]
            have en : f_X11_number M1 = some (q_nm tx (e1 - q1) q1 0, M1) := by
              unfold f_X11_number
              rw [t4, bnd_e]
              exact nu_l t y2 t5 (e1 - q1) FU q1 0 (by omega) (by rw [FU_eq]; omega)
            rw [if_pos (show nI (km (tx q1)) = 2 by rw [kk.mpr c]; rfl), en, obd2_s, g1.2.2.2.2.2.1, ix, chk_T (ixo_nI (show 8 * L + 1 < 80 by omega) (by omega)), nI_clamp (by omega), c1, show q_nv tx N q1 e1 = q_nm tx (e1 - q1) q1 0 from if_pos ⟨⟨l, c⟩, c4⟩]
            rfl
          · rw [if_neg (show ¬ nI (km (tx q1)) = 2 from fun z => c (kk.mp ((nI_eq (a := km (tx q1)) (b := 2) (by omega) (by omega)).mp z))), no (fun z => c z.1.2)]
        · rw [if_pos (show (4 : Int32) < nI (e1 - q1) from nI_lt (a := 4) (by omega) (by omega)), no (fun z => c4 z.2)]
      · rw [if_pos (nI_le (by omega) (by omega)), no (fun z => l z.1.1)]
    show C1 S0 M0 N L (obd2 (f_X8_number S1 (S1.1 2 4) (S1.1 2 5)) fun r8 S8 => if r8 = nI a then (bnd (setI S8 2 6 1) fun S10 => f_X5_readWay_41 S10) else f_X5_readWay_41 S8) (if (M1.1 0 1) ≤ (M1.1 0 18) then f_X11_readsWay_77 M1 else if 4 < ((M1.1 0 19) - (M1.1 0 18)) then f_X11_readsWay_77 M1 else chk (ixo (M1.1 0 18) 200) <| obd2 (f_X11_kind M1 (M1.1 1 ((M1.1 0 18)).toNatClampNeg)) fun r11 S11 => if r11 = 2 then (obd2 (f_X11_number S11) fun r13 S13 => chk (ixo ((8 * (S13.1 0 3)) + 1) 80) <| if r13 = (S13.1 2 (((8 * (S13.1 0 3)) + 1)).toNatClampNeg) then f_X11_readsWay_78 S13 1 else f_X11_readsWay_77 S13) else f_X11_readsWay_77 S11)
    rw [eR, t1, t2, e_n8 t y1 y2, obd2_s, bnd_e]
    by_cases own : q_nv tx N q1 e1 = nI a
    · rw [if_pos own, if_pos own]
      unfold f_X11_readsWay_78
      rw [if_neg one0]
      exact Or.inr (mk_f g1 (tl y1 y2 (gd_fl g1)) (RM.rf M1) rfl)
    · rw [if_neg own, if_neg own]
      unfold f_X11_readsWay_78 f_X5_readWay_41
      rw [if_pos rfl]
      refine nst hT hL (C1 S0 M0 N L) (ff := fun M => some (0, M)) 0 5 2 (by omega) (by omega) (by omega) (by omega) g1 (fun b q2 e2 S2 M2 _ b5 g2 _ => ?_) (fun S' f => Or.inr (mk_f g1 (fl_nn hT y1 y2 f (fun r S' f => ⟨S', rfl, f⟩)) (RM.rf M1) rfl))
      refine nst hT hL (C1 S0 M0 N L) (ff := fun M => some (0, M)) (ref := fun M => some (1, M)) 0 200 3 (by omega) (by omega) (by omega) (by omega) g2 (fun m q3 e3 S3 M3 _ m2 g3 _ => ?_) (fun S' f => Or.inr (mk_f g2 ⟨S', rfl, f⟩ (RM.rf M2) rfl))
      exact Or.inl ⟨S3, M3, q3, e3, 4, _, rfl, rfl, g3, Or.inr (Or.inr (Or.inr (Or.inr (Or.inl ⟨rfl, by omega, a, b, m, a5, b5, m2, rfl, rfl, rfl⟩))))⟩
  · obtain ⟨S2, e2⟩ : ∃ v, f_X8_number S' (S'.1 2 4) (S'.1 2 5) = some (v, S') := ⟨_, by rw [f.2.2.1, f.2.2.2]; exact e_n8 (hT.fr f.1 (RM.rf M0)) z1 z2⟩
    show ∃ S'', (obd2 (f_X8_number S' (S'.1 2 4) (S'.1 2 5)) fun r8 S8 => if r8 = 0 then (bnd (setI S8 2 6 1) fun S10 => f_X5_readWay_41 S10) else f_X5_readWay_41 S8) = some S'' ∧ _
    rw [e2, obd2_s, bnd_e]
    by_cases z : S2 = 0
    · rw [if_pos z]; exact tl z1 z2 (fl_f f)
    · rw [if_neg z]; exact tl z1 z2 f
theorem str_23 : ¬ strB 2 0 = strB 3 0 := by decide +kernel
theorem is_23 {q e : Nat} (h : q_is tx q e 2 = true) : ¬ q_is tx q e 3 = true := by
  intro g
  unfold q_is at h g
  rw [Bool.and_eq_true] at h g
  rw [show strL 2 = 3 + 1 from rfl] at h
  rw [show strL 3 = 3 + 1 from rfl] at g
  have h2 := h.2
  have g2 := g.2
  rw [q_mt, Bool.and_eq_true, decide_eq_true_eq] at h2 g2
  exact str_23 (h2.1.symm.trans g2.1)
/-- part or tool -/
theorem ln_pt (hT : Tx S0 M0 N tx) {L : Nat} (hL : L ≤ 9) {S M : St} {q e t w p : Nat} {T : Nat → Int32} (h : Gd S0 M0 N q e L 4 T S M) (h0 : T 0 = 1) (t7 : t ≤ 7) (w1 : 1 ≤ w) (w9 : w ≤ 99) (p9 : p ≤ 99) (hT1 : T 1 = nI t) (hT2 : T 2 = nI w) (hT3 : T 3 = nI p) :
    C1 S0 M0 N L (obd2 (f_X5_takes S 2) fun r13 S13 => if r13 = 0 then (obd2 (f_X5_takes S13 3) fun r15 S15 => if r15 = 0 then f_X5_readThing_59 S15 r13 else f_X5_readThing_60 S15 r13 1) else f_X5_readThing_59 S13 r13)
      (obd2 (f_X11_isWord M 409076 4) fun r17 S17 => if r17 = 0 then (obd2 (f_X11_isWord S17 673840 4) fun r19 S19 => if r19 = 0 then some (0, S19) else f_X11_readsThing_115 S19 r17) else f_X11_readsThing_115 S17 r17) := by
  have tt := gd_tx hT h
  have ht := h.2.2.2.1
  obtain ⟨y1, y2⟩ := gd_le h
  have ix : 8 * nI L + 4 = nI (8 * L + 4) := by rw [show (8 : Int32) = nI 8 from rfl, pk_mul]; exact nI_add _ 4
  -- the word is there: k is what it tells
  have fin : ∀ (k : Nat) (wi : Nat) (wd : Int32), k ≤ 1 → wi < 12 → Wo wi wd → q_is tx q e wi = true → ∃ S' M', f_X5_takes S wi = some (1, S') ∧ f_X11_readsThing_137 M (8 * (M.1 0 3) + 4) (nI k) = some (1, M') ∧ C1 S0 M0 N L (obd (f_X5_note S' (nI k)) fun S1 => some S1) (some (1, M')) := by
    intro k wi wd k1 hwi hwo his
    have hM := RM_2 M (8 * L + 4) (nI k)
    have ht2 : Tq S (setI M 2 (8 * L + 4) (nI k)) N q e := by
      unfold Tq
      rw [show (setI M 2 (8 * L + 4) (nI k)).1 0 = M.1 0 from si_ne (by omega)]
      exact ht
    rcases e_tk (tt.fr (RS.rf S) hM) hwi hwo ht2 h.2.2.1 with ⟨-, q', e', S', M', a1, -, a2, a3, a4, a5⟩ | ⟨no, -⟩
    · obtain ⟨S2, n1, g2⟩ := gd_note hL (show 4 ≤ 7 by omega) (by omega) h (nI k) a3 a4 a5
      refine ⟨S', M', a1, ?_, ?_⟩
      · unfold f_X11_readsThing_137
        rw [h.2.2.2.2.2.1, ix, chk_T (ixo_nI (show 8 * L + 4 < 80 by omega) (by omega)), nI_clamp (by omega), bnd_e, a2, obd_S]
      · rw [n1, obd_S]
        exact Or.inl ⟨S2, M', q', e', 5, _, rfl, rfl, g2, Or.inl ⟨h0, by omega, t, w, p, k, t7, w1, w9, p9, k1, hT1, hT2, hT3, rfl⟩⟩
    · exact absurd his no
  have i3 := e_isW tt (wi := 3) (by omega) wo_3 y1 y2 ht.2.2.2.1 ht.2.2.2.2.1
  have i2 := e_isW tt (wi := 2) (by omega) wo_2 y1 y2 ht.2.2.2.1 ht.2.2.2.2.1
  have i3 : f_X11_isWord M 409076 4 = _ := i3
  have i2 : f_X11_isWord M 673840 4 = _ := i2
  rw [i3, obd2_s, i2]
  unfold f_X5_readThing_59 f_X5_readThing_60 f_X5_readThing_74 f_X5_readThing_84 f_X11_readsThing_115
  by_cases c2 : q_is tx q e 2 = true
  · have c3 := is_23 c2
    obtain ⟨S', M', a1, a2, a3⟩ := fin 0 2 673840 (by omega) (by omega) wo_2 c2
    have a2 : f_X11_readsThing_137 M (8 * (M.1 0 3) + 4) 0 = some (1, M') := a2
    rw [a1, obd2_s, if_neg one0, if_neg one0, if_pos rfl, if_neg c3, if_pos rfl, obd2_s, if_pos c2, if_neg one0, if_pos rfl, a2]
    exact a3
  · rcases e_tk tt (wi := 2) (by omega) wo_2 ht h.2.2.1 with ⟨c, -⟩ | ⟨-, b1, -⟩
    · exact absurd c c2
    · rw [b1, obd2_s, if_pos rfl]
      by_cases c3 : q_is tx q e 3 = true
      · obtain ⟨S', M', a1, a2, a3⟩ := fin 1 3 409076 (by omega) (by omega) wo_3 c3
        have a2 : f_X11_readsThing_137 M (8 * (M.1 0 3) + 4) 1 = some (1, M') := a2
        rw [a1, obd2_s, if_neg one0, if_pos rfl, if_neg one0, if_neg one0, if_pos c3, if_neg one0, if_neg one0, a2]
        exact a3
      · rcases e_tk tt (wi := 3) (by omega) wo_3 ht h.2.2.1 with ⟨c, -⟩ | ⟨-, b3, -⟩
        · exact absurd c c3
        · rw [b3, obd2_s, if_pos rfl, if_pos rfl, if_pos rfl, bnd_e, if_pos rfl, if_neg c3, if_pos rfl, obd2_s, if_neg c2, if_pos rfl]
          refine Or.inr (mk_f h ?_ (RM.rf M) rfl)
          obtain ⟨S2, n1, f2⟩ := fl_note (gd_fl h) 0
          rw [n1, obd_S]
          exact ⟨S2, rfl, f2⟩
/-- a thing -/
theorem ln_thing (hT : Tx S0 M0 N tx) {L : Nat} (hL : L ≤ 9) {S M : St} {q e : Nat} (h : Gd S0 M0 N q e L 1 (fun _ => 1) S M) :
    C1 S0 M0 N L (obd2 (f_X5_letter S) fun r7 S7 => obd (f_X5_note S7 r7) fun S8 => obd2 (f_X5_number S8 1 99) fun r9 S9 => obd (f_X5_note S9 r9) fun S10 => obd2 (f_X5_number S10 0 99) fun r11 S11 => obd (f_X5_note S11 r11) fun S12 => obd2 (f_X5_takes S12 2) fun r13 S13 => if r13 = 0 then (obd2 (f_X5_takes S13 3) fun r15 S15 => if r15 = 0 then f_X5_readThing_59 S15 r13 else f_X5_readThing_60 S15 r13 1) else f_X5_readThing_59 S13 r13)
      (f_X11_readsThing M) := by
  have hN := hT.1
  obtain ⟨z1, z2⟩ := gd_le h
  have tp : ∀ {q e : Nat} {S : St}, Fl S0 q e S → ∃ S', (obd2 (f_X5_takes S 2) fun r13 S13 => if r13 = 0 then (obd2 (f_X5_takes S13 3) fun r15 S15 => if r15 = 0 then f_X5_readThing_59 S15 r13 else f_X5_readThing_60 S15 r13 1) else f_X5_readThing_59 S13 r13) = some S' ∧ Fl S0 q e S' := by
    intro q e S f
    rw [fl_tk f, obd2_s, if_pos rfl, fl_tk f, obd2_s, if_pos rfl]
    unfold f_X5_readThing_59 f_X5_readThing_60 f_X5_readThing_74 f_X5_readThing_84
    rw [if_pos rfl, if_pos rfl, bnd_e, if_pos rfl]
    obtain ⟨S2, n1, f2⟩ := fl_note (fl_f f) 0
    rw [n1, obd_S]
    exact ⟨S2, rfl, f2⟩
  rcases e_let (gd_tx hT h) h.2.2.2.1 h.2.2.1 h.2.2.2.2.2.1 (show 8 * L + 1 < 80 by omega) (fun S12 => obd2 (f_X11_reads S12 1 1 99) fun r13 S13 => if r13 = 0 then some (0, S13) else obd2 (f_X11_reads S13 2 0 99) fun r15 S15 => if r15 = 0 then some (0, S15) else obd2 (f_X11_isWord S15 409076 4) fun r17 S17 => if r17 = 0 then (obd2 (f_X11_isWord S17 673840 4) fun r19 S19 => if r19 = 0 then some (0, S19) else f_X11_readsThing_115 S19 r17) else f_X11_readsThing_115 S17 r17) with ⟨t, q1, e1, S1, M1, t7, a1, a2, a3, a4, a5⟩ | ⟨a1, a2⟩
  · have a2 : f_X11_readsThing M = _ := a2
    obtain ⟨S2, n1, g2⟩ := gd_note hL (show 1 ≤ 7 by omega) (by omega) h (nI t) a3 a4 a5
    obtain ⟨y1, y2⟩ := gd_le g2
    rw [a1, obd2_s, n1, obd_S, a2]
    refine nst hT hL (C1 S0 M0 N L) (ff := fun M => some (0, M)) 1 99 2 (by omega) (by omega) (by omega) (by omega) g2 (fun w q3 e3 S3 M3 w1 w9 g3 _ => ?_) (fun S' f => Or.inr (mk_f g2 (fl_nn hT y1 y2 f (fun r S' f => tp f)) (RM.rf M1) rfl))
    refine nst hT hL (C1 S0 M0 N L) (ff := fun M => some (0, M)) 0 99 3 (by omega) (by omega) (by omega) (by omega) g3 (fun p q4 e4 S4 M4 _ p9 g4 _ => ?_) (fun S' f => Or.inr (mk_f g3 (tp f) (RM.rf M3) rfl))
    exact ln_pt hT hL g4 rfl t7 w1 w9 p9 rfl rfl rfl
  · have a2 : f_X11_readsThing M = some (0, M) := a2
    obtain ⟨S2, n1, f2⟩ := fl_note (gd_fl h) 0
    rw [a1, obd2_s, n1, obd_S, a2]
    exact Or.inr (mk_f h (fl_nn hT z1 z2 f2 (fun r S' f => fl_nn hT z1 z2 f (fun r S' f => tp f))) (RM.rf M) rfl)
/-- the end of a sort -/
theorem ln_or (hT : Tx S0 M0 N tx) {L : Nat} (hL : L ≤ 9) {S M : St} {q e c n m x : Nat} {T : Nat → Int32} (h : Gd S0 M0 N q e L 5 T S M) (h5 : M.1 2 (8 * L + 5) = 0) (h0 : T 0 = 7) (c5 : c ≤ 5) (n1 : 1 ≤ n) (n20 : n ≤ 20) (m2 : m ≤ 200) (x2 : x ≤ 255) (hT1 : T 1 = nI c) (hT2 : T 2 = nI n) (hT3 : T 3 = nI m) (hT4 : T 4 = nI x) :
    C1 S0 M0 N L (obd2 (f_X5_takes S 11) fun r3 S3 => if r3 = 0 then f_X5_readSort_78 S3 0 else obd2 (f_X5_things S3) fun r5 S5 => f_X5_readSort_78 S5 r5) (f_X11_readsSort_91 M) := by
  have tt := gd_tx hT h
  unfold f_X11_readsSort_91 f_X5_readSort_78
  rcases e_tk tt (wi := 11) (by omega) wo_11 h.2.2.2.1 h.2.2.1 with ⟨-, q', e', S', M', a1, a2, a3, a4, a5, a6⟩ | ⟨-, a1, a2⟩
  · have a2 : f_X11_isWord M 591 2 = some (1, M) := a2
    have g := gd_tok h a4 a5 a6
    rw [a1, obd2_s, if_neg one0, a2, obd2_s, if_neg one0, a3, obd_S]
    rcases e_tr (k := 4) (gd_tx hT g) g.2.2.2.1 g.2.2.1 g.2.2.2.2.2.1 (show 8 * L + 1 + 4 < 80 by omega) with ⟨v, q2, e2, S2, M2, v2, b1, b2, b3, b4, b5⟩ | ⟨M2, b1, b2, b3, b4⟩
    · have b2 : f_X11_readsThings M' 4 = some (1, M2) := b2
      obtain ⟨S3, k1, g3⟩ := gd_note hL (show 5 ≤ 7 by omega) (by omega) g (nI v) b3 b4 b5
      rw [b1, obd2_s, k1, obd_S, b2, obd2_s, chk_T (show zb (1 : Int32) from Or.inr rfl)]
      exact Or.inl ⟨S3, M2, q2, e2, 6, _, rfl, rfl, g3, Or.inr (Or.inr (Or.inr (Or.inr (Or.inr (Or.inr ⟨h0, by omega, c, n, m, x, v, c5, n1, n20, m2, x2, v2, hT1, hT2, hT3, hT4, rfl⟩)))))⟩
    · have b2 : f_X11_readsThings M' 4 = some (0, M2) := b2
      obtain ⟨S3, k1, f3⟩ := fl_note (gd_fl g) 0
      rw [b1, obd2_s, k1, obd_S, b2, obd2_s, chk_T (show zb (0 : Int32) from Or.inl rfl)]
      exact Or.inr (mk_f g ⟨S3, rfl, f3⟩ b3 (congrFun b4 18))
  · have a2 : f_X11_isWord M 591 2 = some (0, M) := a2
    obtain ⟨S3, k1, g3⟩ := gd_note hL (show 5 ≤ 7 by omega) (by omega) h 0 (SF.rf S) (mf_same h5 (MF.rf M)) h.2.2.2.1
    rw [a1, obd2_s, if_pos rfl, k1, obd_S, a2, obd2_s, if_pos rfl]
    exact Or.inl ⟨S3, M, q, e, 6, _, rfl, rfl, g3, Or.inr (Or.inr (Or.inr (Or.inr (Or.inr (Or.inr ⟨h0, by omega, c, n, m, x, 0, c5, n1, n20, m2, x2, by omega, hT1, hT2, hT3, hT4, rfl⟩)))))⟩
/-- a sort -/
theorem ln_sort (hT : Tx S0 M0 N tx) {L : Nat} (hL : L ≤ 9) {S M : St} {q e : Nat} (h : Gd S0 M0 N q e L 1 (fun _ => 7) S M) :
    C1 S0 M0 N L (obd2 (f_X5_number S 0 5) fun r7 S7 => obd (f_X5_note S7 r7) fun S8 => obd2 (f_X5_number S8 1 20) fun r9 S9 => obd (f_X5_note S9 r9) fun S10 => obd2 (f_X5_number S10 0 200) fun r11 S11 => obd (f_X5_note S11 r11) fun S12 => obd2 (f_X5_takes S12 10) fun r13 S13 => if r13 = 0 then (obd2 (f_X5_things S13) fun r15 S15 => f_X5_readSort_57 S15 r15) else f_X5_readSort_57 S13 0)
      (f_X11_readsSort M) := by
  have hN := hT.1
  obtain ⟨z1, z2⟩ := gd_le h
  have t57 : ∀ {q e : Nat} {S : St}, q ≤ e → e ≤ N → Fl S0 q e S → ∀ v, ∃ S', f_X5_readSort_57 S v = some S' ∧ Fl S0 q e S' := by
    intro q e S h1 h2 f v
    unfold f_X5_readSort_57 f_X5_readSort_78
    obtain ⟨S2, n1, f2⟩ := fl_note f v
    obtain ⟨S3, n2, f3⟩ := fl_note f2 0
    rw [n1, obd_S, fl_tk f2, obd2_s, if_pos rfl, n2, obd_S]
    exact ⟨S3, rfl, f3⟩
  have tp : ∀ {q e : Nat} {S : St}, q ≤ e → e ≤ N → Fl S0 q e S → ∃ S', (obd2 (f_X5_takes S 10) fun r13 S13 => if r13 = 0 then (obd2 (f_X5_things S13) fun r15 S15 => f_X5_readSort_57 S15 r15) else f_X5_readSort_57 S13 0) = some S' ∧ Fl S0 q e S' := by
    intro q e S h1 h2 f
    obtain ⟨S2, n1, f2⟩ := fl_th hT h1 h2 f
    rw [fl_tk f, obd2_s, if_pos rfl, n1, obd2_s]
    exact t57 h1 h2 f2 0
  have ix : 8 * nI L = nI (8 * L) := pk_mul 8 L
  unfold f_X11_readsSort
  rw [h.2.2.2.2.2.1, ix, bnd_e]
  refine nst hT hL (C1 S0 M0 N L) (ff := fun M => some (0, M)) 0 5 1 (by omega) (by omega) (by omega) (by omega) h (fun c q1 e1 S1 M1 _ c5 g1 _ => ?_) (fun S' f => Or.inr (mk_f h (fl_nn hT z1 z2 f (fun r S' f => fl_nn hT z1 z2 f (fun r S' f => tp z1 z2 f))) (RM.rf M) rfl))
  obtain ⟨y1, y2⟩ := gd_le g1
  refine nst hT hL (C1 S0 M0 N L) (ff := fun M => some (0, M)) 1 20 2 (by omega) (by omega) (by omega) (by omega) g1 (fun n q2 e2 S2 M2 n1 n20 g2 _ => ?_) (fun S' f => Or.inr (mk_f g1 (fl_nn hT y1 y2 f (fun r S' f => tp y1 y2 f)) (RM.rf M1) rfl))
  obtain ⟨x1, x2⟩ := gd_le g2
  refine nst hT hL (C1 S0 M0 N L) (ff := fun M => some (0, M)) 0 200 3 (by omega) (by omega) (by omega) (by omega) g2 (fun m q3 e3 S3 M3 _ m200 g3 _ => ?_) (fun S' f => Or.inr (mk_f g2 (tp x1 x2 f) (RM.rf M2) rfl))
  obtain ⟨w1, w2⟩ := gd_le g3
  have i4 : nI (8 * L) + 4 = nI (8 * L + 4) := nI_add _ 4
  have i5 : nI (8 * L) + 5 = nI (8 * L + 5) := nI_add _ 5
  show C1 S0 M0 N L (obd2 (f_X5_takes S3 10) fun r13 S13 => if r13 = 0 then (obd2 (f_X5_things S13) fun r15 S15 => f_X5_readSort_57 S15 r15) else f_X5_readSort_57 S13 0) (chk (ixo (nI (8 * L) + 4) 80) <| bnd (setI M3 2 ((nI (8 * L) + 4)).toNatClampNeg 0) fun S16 => chk (ixo (nI (8 * L) + 5) 80) <| bnd (setI S16 2 ((nI (8 * L) + 5)).toNatClampNeg 0) fun S18 => obd2 (f_X11_isWord S18 178670 4) fun r19 S19 => if r19 = 0 then f_X11_readsSort_77 S19 r19 else obd (f_X11_token S19) fun S21 => f_X11_readsSort_77 S21 r19)
  rw [i4, i5, chk_T (ixo_nI (show 8 * L + 4 < 80 by omega) (by omega)), nI_clamp (by omega), bnd_e, chk_T (ixo_nI (show 8 * L + 5 < 80 by omega) (by omega)), nI_clamp (by omega), bnd_e]
  have g4 := gd_M (gd_M g3 (by omega) (8 * L + 4) 0 (by omega)) (by omega) (8 * L + 5) 0 (by omega)
  have k4 : (setI (setI M3 2 (8 * L + 4) 0) 2 (8 * L + 5) 0).1 2 (8 * L + 4) = 0 := by rw [si_nj (by omega), si_eq]
  have k5 : (setI (setI M3 2 (8 * L + 4) 0) 2 (8 * L + 5) 0).1 2 (8 * L + 5) = 0 := si_eq
  generalize setI (setI M3 2 (8 * L + 4) 0) 2 (8 * L + 5) 0 = M4 at *
  rcases e_tk (gd_tx hT g4) (wi := 10) (by omega) wo_10 g4.2.2.2.1 g4.2.2.1 with ⟨-, q', e', S', M', a1, a2, a3, a4, a5, a6⟩ | ⟨-, a1, a2⟩
  · have a2 : f_X11_isWord M4 178670 4 = some (1, M4) := a2
    obtain ⟨S5, n5, g5⟩ := gd_note hL (show 4 ≤ 7 by omega) (by omega) g4 0 a4 (mf_same k4 a5) a6
    rw [a1, obd2_s, if_neg one0, a2, obd2_s, if_neg one0, a3, obd_S]
    unfold f_X5_readSort_57 f_X11_readsSort_77
    rw [n5, obd_S, if_neg one0]
    exact ln_or hT hL g5 ((congrFun (a5.1 2 (by omega)) _).trans k5) rfl c5 n1 n20 m200 (show 0 ≤ 255 by omega) rfl rfl rfl rfl
  · have a2 : f_X11_isWord M4 178670 4 = some (0, M4) := a2
    rw [a1, obd2_s, if_pos rfl, a2, obd2_s, if_pos rfl]
    unfold f_X11_readsSort_77
    rw [if_pos rfl]
    rcases e_tr (k := 3) (gd_tx hT g4) g4.2.2.2.1 g4.2.2.1 g4.2.2.2.2.2.1 (show 8 * L + 1 + 3 < 80 by omega) with ⟨v, q5, e5, S5, M5, v2, b1, b2, b3, b4, b5⟩ | ⟨M5, b1, b2, b3, b4⟩
    · have b2 : f_X11_readsThings M4 3 = some (1, M5) := b2
      obtain ⟨S6, n6, g6⟩ := gd_note hL (show 4 ≤ 7 by omega) (by omega) g4 (nI v) b3 b4 b5
      rw [b1, obd2_s, b2, obd2_s, if_neg one0]
      unfold f_X5_readSort_57
      rw [n6, obd_S]
      refine ln_or hT hL g6 ?_ rfl c5 n1 n20 m200 v2 rfl rfl rfl rfl
      rw [b4.1 2 (by omega), si_nj (by omega)]; exact k5
    · have b2 : f_X11_readsThings M4 3 = some (0, M5) := b2
      rw [b1, obd2_s, b2, obd2_s, if_pos rfl]
      exact Or.inr (mk_f g4 (t57 w1 w2 (gd_fl g4) 0) b3 (congrFun b4 18))
end KINDS
/-- a line begins with its word -/
theorem ks_line {S M : St} {N : Nat} {tx : Nat → Nat} (hT : Tx S M N tx) {L q e : Nat} (hL : L ≤ 9) (hz : S.1 2 6 = 0) (e3 : S.1 2 3 = nI (8 * L)) (m3 : M.1 0 3 = nI L) (κ : Nat) {S1 M1 : St} (hS : SF S S1) (hM : MF M M1) (ht : Tq S1 M1 N q e) : ∃ S2, f_X5_note S1 (nI (κ + 1)) = some S2 ∧ Gd S M N q e L 1 (fun _ => nI (κ + 1)) S2 (setI M1 2 (8 * L) (nI κ)) := by
  have c3 : S1.1 2 3 = nI (8 * L) := (hS.2 3 (by omega) (by omega)).trans e3
  unfold f_X5_note
  rw [c3, e_put S1 1 _ (by show 8 * L < 80; omega), obd_S, bnd_e]
  have c3' : (setI S1 (11 + (1 : Fin 10).val) (8 * L) (nI (κ + 1))).1 2 3 = nI (8 * L) := (congrFun (si_ne (by show (2 : Nat) ≠ 12; omega)) 3).trans c3
  rw [c3', nI_1]
  have w2 : ∀ i, i ≠ 3 → (setI (setI S1 12 (8 * L) (nI (κ + 1))) 2 3 (nI (8 * L + 1))).1 2 i = S1.1 2 i := fun i hi => by rw [si_nj hi, si_ne (by omega)]
  obtain ⟨t1, t2, t3⟩ := ht
  have m0 : (setI M1 2 (8 * L) (nI κ)).1 0 = M1.1 0 := si_ne (by omega)
  refine ⟨setI (setI S1 12 (8 * L) (nI (κ + 1))) 2 3 (nI (8 * L + 1)), rfl, hS.rs.tr ((RS_I S1 12 _ _ (by omega)).tr (RS_I _ 2 3 _ (by omega))), hM.rm.tr (RM_2 M1 _ _), ?_, ⟨?_, ?_, ?_⟩, si_eq, ?_, ?_, ?_, ?_, ?_⟩
  · rw [w2 6 (by omega), hS.2 6 (by omega) (by omega)]; exact hz
  · rw [w2 4 (by omega)]; exact t1
  · rw [w2 5 (by omega)]; exact t2
  · rw [m0]; exact t3
  · rw [m0, hM.2 3 (by omega) (by omega) (by omega)]; exact m3
  · intro t htl
    rw [si_ne (by omega), si_nj (by omega), hS.1 12 (by omega), si_nj (by omega), hM.1 2 (by omega)]
    exact ⟨rfl, rfl⟩
  · intro i hi
    rw [show i = 0 by omega, si_ne (by omega)]
    exact si_eq
  · intro i h1 h2; omega
  · rw [si_eq]
    show nI κ = nI (κ + 1) - 1
    rw [show (1 : Int32) = nI 1 from rfl, pk_sub (by omega), Nat.add_sub_cancel]
/-- a line is read alike -/
theorem e_line {S M : St} {N : Nat} {tx : Nat → Nat} (hT : Tx S M N tx) {L q e : Nat} (hL : L ≤ 9) (ht : Tq S M N q e) (hz : S.1 2 6 = 0) (e3 : S.1 2 3 = nI (8 * L)) (m3 : M.1 0 3 = nI L) : CL S M N L (f_X5_readLine S) (f_X11_readsLine M) := by
  have ix : 8 * nI L = nI (8 * L) := pk_mul 8 L
  have h80 : ixo (nI (8 * L)) 80 := ixo_nI (show 8 * L < 80 by omega) (by omega)
  unfold f_X5_readLine f_X11_readsLine
  rw [m3, ix, bnd_e]
  rcases e_tk hT (wi := 1) (by omega) wo_1 ht hz with ⟨-, q', e', S', M', a1, a2, a3, a4, a5, a6⟩ | ⟨-, a1, a2⟩
  · have a2 : f_X11_isWord M 7808276 5 = some (1, M) := a2
    obtain ⟨S2, n2, g⟩ := ks_line hT hL hz e3 m3 0 a4 a5 a6
    have n2 : f_X5_note S' 1 = some S2 := n2
    unfold f_X5_readThing f_X11_readsLine_109
    rw [a1, obd2_s, if_neg one0, a2, obd2_s, if_neg one0, if_neg (show ¬ (0 : Int32) = -1 by decide), a3, obd_S, chk_T h80, nI_clamp (by omega), bnd_e, if_pos rfl, n2, obd_S]
    rcases ln_thing hT hL g with ⟨X, Y, q, e, j, T, x1, y1, z⟩ | ⟨X, Y, q, e, x1, f, hq, y1, z⟩
    · rw [x1, obd_S, show f_X11_readsThing (setI M' 2 (8 * L) 0) = _ from y1]
      exact c1_cl hL (Or.inl ⟨X, Y, q, e, j, T, rfl, rfl, z⟩)
    · rw [x1, obd_S, show f_X11_readsThing (setI M' 2 (8 * L) 0) = _ from y1]
      exact c1_cl hL (Or.inr ⟨X, Y, q, e, rfl, f, hq, rfl, z⟩)
  have a2 : f_X11_isWord M 7808276 5 = some (0, M) := a2
  rw [a1, obd2_s, if_pos rfl, a2, obd2_s, if_pos rfl]
  clear a1 a2
  -- load, purse, begin
  have one : ∀ (κ most : Nat) (S' M' : St) (q' e' : Nat), κ ≤ 6 → most < 2 ^ 31 → SF S S' → MF M M' → Tq S' M' N q' e' → (∀ n, n ≤ most → LT 2 (upT (fun _ => nI (κ + 1)) 1 (nI n))) →
      CL S M N L (obd (f_X5_readOne S' (nI (κ + 1)) (nI most)) fun S19 => some S19) (obd2 (f_X11_reads (setI M' 2 (8 * L) (nI κ)) 0 0 (nI most)) fun r S => f_X11_readsLine_322 S r) := by
    intro κ most S' M' q' e' hk hm a4 a5 a6 hl
    obtain ⟨S2, n2, g⟩ := ks_line hT hL hz e3 m3 κ a4 a5 a6
    unfold f_X5_readOne
    rw [n2, obd_S]
    rcases ln_one hT hL most hm g hl with ⟨X, Y, q, e, j, T, x1, y1, z⟩ | ⟨X, Y, q, e, x1, f, hq, y1, z⟩
    · rw [x1, obd_S, y1]
      exact c1_cl hL (Or.inl ⟨X, Y, q, e, j, T, rfl, rfl, z⟩)
    · rw [x1, obd_S, y1]
      exact c1_cl hL (Or.inr ⟨X, Y, q, e, rfl, f, hq, rfl, z⟩)
  rcases e_tk hT (wi := 4) (by omega) wo_4 ht hz with ⟨-, q', e', S', M', a1, a2, a3, a4, a5, a6⟩ | ⟨-, a1, a2⟩
  · have a2 : f_X11_isWord M 132588 4 = some (1, M) := a2
    unfold f_X11_readsLine_109
    rw [a1, obd2_s, if_neg one0, a2, obd2_s, if_neg one0, if_neg (show ¬ (1 : Int32) = -1 by decide), a3, obd_S, chk_T h80, nI_clamp (by omega), bnd_e, if_neg one0, if_pos rfl]
    exact one 1 400 S' M' q' e' (by omega) (by omega) a4 a5 a6 (fun n hn => Or.inr (Or.inl ⟨rfl, by omega, n, hn, rfl⟩))
  have a2 : f_X11_isWord M 132588 4 = some (0, M) := a2
  rw [a1, obd2_s, if_pos rfl, a2, obd2_s, if_pos rfl]
  clear a1 a2
  rcases e_tk hT (wi := 5) (by omega) wo_5 ht hz with ⟨-, q', e', S', M', a1, a2, a3, a4, a5, a6⟩ | ⟨-, a1, a2⟩
  · have a2 : f_X11_isWord M 5884592 5 = some (1, M) := a2
    unfold f_X11_readsLine_109
    rw [a1, obd2_s, if_neg one0, a2, obd2_s, if_neg one0, if_neg (show ¬ (2 : Int32) = -1 by decide), a3, obd_S, chk_T h80, nI_clamp (by omega), bnd_e, if_neg (show ¬ (2 : Int32) = 0 by decide), if_neg (show ¬ (2 : Int32) = 1 by decide), if_pos rfl]
    exact one 2 999 S' M' q' e' (by omega) (by omega) a4 a5 a6 (fun n hn => Or.inr (Or.inr (Or.inl ⟨rfl, by omega, n, hn, rfl⟩)))
  have a2 : f_X11_isWord M 5884592 5 = some (0, M) := a2
  rw [a1, obd2_s, if_pos rfl, a2, obd2_s, if_pos rfl]
  clear a1 a2
  rcases e_tk hT (wi := 6) (by omega) wo_6 ht hz with ⟨-, q', e', S', M', a1, a2, a3, a4, a5, a6⟩ | ⟨-, a1, a2⟩
  · have a2 : f_X11_isWord M 14982306 5 = some (1, M) := a2
    unfold f_X11_readsLine_109
    rw [a1, obd2_s, if_neg one0, a2, obd2_s, if_neg one0, if_neg (show ¬ (3 : Int32) = -1 by decide), a3, obd_S, chk_T h80, nI_clamp (by omega), bnd_e, if_neg (show ¬ (3 : Int32) = 0 by decide), if_neg (show ¬ (3 : Int32) = 1 by decide), if_neg (show ¬ (3 : Int32) = 2 by decide), if_pos rfl]
    exact one 3 1439 S' M' q' e' (by omega) (by omega) a4 a5 a6 (fun n hn => Or.inr (Or.inr (Or.inr (Or.inl ⟨rfl, by omega, n, hn, rfl⟩))))
  have a2 : f_X11_isWord M 14982306 5 = some (0, M) := a2
  rw [a1, obd2_s, if_pos rfl, a2, obd2_s, if_pos rfl]
  clear a1 a2
  rcases e_tk hT (wi := 7) (by omega) wo_7 ht hz with ⟨-, q', e', S', M', a1, a2, a3, a4, a5, a6⟩ | ⟨-, a1, a2⟩
  · have a2 : f_X11_isWord M 25655 3 = some (1, M) := a2
    obtain ⟨S2, n2, g⟩ := ks_line hT hL hz e3 m3 4 a4 a5 a6
    have n2 : f_X5_note S' 5 = some S2 := n2
    unfold f_X5_readWay f_X11_readsLine_109
    rw [a1, obd2_s, if_neg one0, a2, obd2_s, if_neg one0, if_neg (show ¬ (4 : Int32) = -1 by decide), a3, obd_S, chk_T h80, nI_clamp (by omega), bnd_e, if_neg (show ¬ (4 : Int32) = 0 by decide), if_neg (show ¬ (4 : Int32) = 1 by decide), if_neg (show ¬ (4 : Int32) = 2 by decide), if_neg (show ¬ (4 : Int32) = 3 by decide), if_pos rfl, n2, obd_S]
    rcases ln_way hT hL g with ⟨X, Y, q, e, j, T, x1, y1, z⟩ | ⟨X, Y, q, e, x1, f, hq, y1, z⟩
    · rw [x1, obd_S, show f_X11_readsWay (setI M' 2 (8 * L) 4) = _ from y1]
      exact c1_cl hL (Or.inl ⟨X, Y, q, e, j, T, rfl, rfl, z⟩)
    · rw [x1, obd_S, show f_X11_readsWay (setI M' 2 (8 * L) 4) = _ from y1]
      exact c1_cl hL (Or.inr ⟨X, Y, q, e, rfl, f, hq, rfl, z⟩)
  have a2 : f_X11_isWord M 25655 3 = some (0, M) := a2
  rw [a1, obd2_s, if_pos rfl, a2, obd2_s, if_pos rfl]
  clear a1 a2
  rcases e_tk hT (wi := 8) (by omega) wo_8 ht hz with ⟨-, q', e', S', M', a1, a2, a3, a4, a5, a6⟩ | ⟨-, a1, a2⟩
  · have a2 : f_X11_isWord M 405539 4 = some (1, M) := a2
    obtain ⟨S2, n2, g⟩ := ks_line hT hL hz e3 m3 5 a4 a5 a6
    have n2 : f_X5_note S' 6 = some S2 := n2
    unfold f_X5_readCall f_X11_readsLine_109
    rw [a1, obd2_s, if_neg one0, a2, obd2_s, if_neg one0, if_neg (show ¬ (5 : Int32) = -1 by decide), a3, obd_S, chk_T h80, nI_clamp (by omega), bnd_e, if_neg (show ¬ (5 : Int32) = 0 by decide), if_neg (show ¬ (5 : Int32) = 1 by decide), if_neg (show ¬ (5 : Int32) = 2 by decide), if_neg (show ¬ (5 : Int32) = 3 by decide), if_neg (show ¬ (5 : Int32) = 4 by decide), if_pos rfl, n2, obd_S]
    have k := ln_call hT hL g
    rcases k with ⟨X, Y, q, e, x1, y1, z⟩ | ⟨X, Y, q, e, x1, f, hq, y1, z⟩
    · rw [x1, obd_S]
      exact Or.inl ⟨X, Y, q, e, rfl, y1, z⟩
    · rw [x1, obd_S]
      exact Or.inr ⟨X, Y, q, e, rfl, f, hq, y1, z⟩
  have a2 : f_X11_isWord M 405539 4 = some (0, M) := a2
  rw [a1, obd2_s, if_pos rfl, a2, obd2_s, if_pos rfl]
  clear a1 a2
  rcases e_tk hT (wi := 9) (by omega) wo_9 ht hz with ⟨-, q', e', S', M', a1, a2, a3, a4, a5, a6⟩ | ⟨-, a1, a2⟩
  · have a2 : f_X11_isWord M 674291 4 = some (1, M) := a2
    obtain ⟨S2, n2, g⟩ := ks_line hT hL hz e3 m3 6 a4 a5 a6
    have n2 : f_X5_note S' 7 = some S2 := n2
    unfold f_X5_readSort f_X11_readsLine_109
    rw [a1, obd2_s, if_neg one0, a2, obd2_s, if_neg one0, if_neg (show ¬ (6 : Int32) = -1 by decide), a3, obd_S, chk_T h80, nI_clamp (by omega), bnd_e, if_neg (show ¬ (6 : Int32) = 0 by decide), if_neg (show ¬ (6 : Int32) = 1 by decide), if_neg (show ¬ (6 : Int32) = 2 by decide), if_neg (show ¬ (6 : Int32) = 3 by decide), if_neg (show ¬ (6 : Int32) = 4 by decide), if_neg (show ¬ (6 : Int32) = 5 by decide), n2, obd_S]
    rcases ln_sort hT hL g with ⟨X, Y, q, e, j, T, x1, y1, z⟩ | ⟨X, Y, q, e, x1, f, hq, y1, z⟩
    · rw [x1, obd_S, show f_X11_readsSort (setI M' 2 (8 * L) 6) = _ from y1]
      exact c1_cl hL (Or.inl ⟨X, Y, q, e, j, T, rfl, rfl, z⟩)
    · rw [x1, obd_S, show f_X11_readsSort (setI M' 2 (8 * L) 6) = _ from y1]
      exact c1_cl hL (Or.inr ⟨X, Y, q, e, rfl, f, hq, rfl, z⟩)
  have a2 : f_X11_isWord M 674291 4 = some (0, M) := a2
  unfold f_X11_readsLine_109
  rw [a1, obd2_s, if_pos rfl, a2, obd2_s, if_pos rfl, if_pos rfl, bnd_e]
  obtain ⟨t1, t2, t3, t4, t5, t6, t7, t8⟩ := ht
  exact Or.inr ⟨_, M, q, e, rfl, ⟨RS_I S 2 6 1 (by omega), si_eq, (si_nj (by omega)).trans t1, (si_nj (by omega)).trans t2⟩, by omega, rfl, t4, RM.rf M⟩
