-- ===== 60: the text is read alike
theorem LT_min {j : Nat} {T : Nat → Int32} (h : LT j T) : LT (min j 8) T := by
  unfold LT at h ⊢
  rcases h with ⟨a, b, c⟩ | ⟨a, b, c⟩ | ⟨a, b, c⟩ | ⟨a, b, c⟩ | ⟨a, b, c⟩ | ⟨a, b, c⟩ | ⟨a, b, c⟩
  · exact Or.inl ⟨a, by omega, c⟩
  · exact Or.inr (Or.inl ⟨a, by omega, c⟩)
  · exact Or.inr (Or.inr (Or.inl ⟨a, by omega, c⟩))
  · exact Or.inr (Or.inr (Or.inr (Or.inl ⟨a, by omega, c⟩)))
  · exact Or.inr (Or.inr (Or.inr (Or.inr (Or.inl ⟨a, by omega, c⟩))))
  · exact Or.inr (Or.inr (Or.inr (Or.inr (Or.inr (Or.inl ⟨a, by omega, c⟩)))))
  · exact Or.inr (Or.inr (Or.inr (Or.inr (Or.inr (Or.inr ⟨a, by omega, c⟩)))))
theorem LN_fr {S M S' M' : St} {l : Nat} (h : LN S M l) (g : ∀ t, t < 8 * (l + 1) → S'.1 12 t = S.1 12 t ∧ M'.1 2 t = M.1 2 t) : LN S' M' l := by
  obtain ⟨j, T, h1, h2, h3, h4⟩ := h
  refine ⟨min j 8, T, LT_min h1, fun i hi => ?_, fun i a hi => ?_, ?_⟩
  · rw [(g _ (by omega)).1]; exact h2 i (by omega)
  · rw [(g _ (by omega)).2]; exact h3 i a (by omega)
  · rw [(g _ (by omega)).2]; exact h4
/-- L lines are read, none is faulty -/
def Go (Sb Mb : St) (N L q e : Nat) (S M : St) : Prop := RS Sb S ∧ RM Mb M ∧ S.1 2 6 = 0 ∧ Tq S M N q e ∧ S.1 2 2 = nI L ∧ M.1 0 3 = nI L ∧ ∀ l, l < L → LN S M l
/-- the answers agree, and what was read -/
def Rq (Sb Mb : St) (x y : Option (Int32 × St)) : Prop := ∃ r S' M', x = some (r, S') ∧ y = some (r, M') ∧ RS Sb S' ∧ RM Mb M' ∧ (r = -1 → ∃ n, n ≤ 10 ∧ S'.1 2 2 = nI n ∧ M'.1 0 3 = nI n ∧ ∀ l, l < n → LN S' M' l)
section READ
variable {Sb Mb : St} {N : Nat} {tx : Nat → Nat}
theorem rd_fl (S : St) (h : S.1 2 6 = 1) : f_X5_read_72 S = some (S.1 2 4, S) := by
  unfold f_X5_read_72 f_X5_read_93
  rw [h, if_neg one0]
theorem rd_line (hT : Tx Sb Mb N tx) {L : Nat} (hL : L ≤ 9) {fu : Nat} {kr : St → Option (Int32 × St)} {S M : St} {q e : Nat} (h : Go Sb Mb N L q e S M)
    (hg : ∀ S' M' q' e', Go Sb Mb N (L + 1) q' e' S' M' → Rq Sb Mb (l_X5_read_21 (fu + 1) S' (nI (L + 1))) (kr M')) :
    Rq Sb Mb (f_X5_read_47 (l_X5_read_21 (fu + 1)) S (nI L)) (obd2 (f_X11_readsLine M) fun r4 S4 => f_X11_fault_92 kr S4 r4) := by
  have hN := hT.1
  obtain ⟨g1, g2, g3, ⟨t1, t2, t3, t4, t5, t6⟩, g5, g6, g7⟩ := h
  have m3 : nI L * 8 = nI (8 * L) := by rw [Int32.mul_comm]; exact pk_mul 8 L
  have rs0 : RS S (setI S 2 3 (nI (8 * L))) := RS_I S 2 3 _ (by omega)
  have k := e_line (hT.fr (g1.tr rs0) g2) (q := q) (e := e) hL ⟨(si_nj (by omega)).trans t1, (si_nj (by omega)).trans t2, t3, t4, t5, t6⟩ ((si_nj (by omega)).trans g3) si_eq g6
  unfold f_X5_read_47
  rw [m3]
  simp only [bnd_e, nI_1]
  rcases k with ⟨S1, M1, q1, e1, x1, y1, r1, r2, z1, ⟨u1, u2, u3⟩, z3, z4, z5⟩ | ⟨S1, M1, q1, e1, x1, f, hq, y1, z1, z2⟩
  · rw [x1, obd_S, y1, obd2_s]
    unfold f_X11_fault_92
    rw [if_neg one0]
    have s12 : (setI S1 2 2 (nI (L + 1))).1 12 = S1.1 12 := si_ne (by omega)
    refine hg _ M1 q1 e1 ⟨(g1.tr (rs0.tr r1)).tr (RS_I S1 2 2 _ (by omega)), g2.tr r2, (si_nj (by omega)).trans z1, ⟨(si_nj (by omega)).trans u1, (si_nj (by omega)).trans u2, u3⟩, si_eq, z3, fun l hl => ?_⟩
    by_cases hl2 : l < L
    · refine LN_fr (g7 l hl2) fun t ht => ?_
      obtain ⟨a, b⟩ := z4 t (by omega)
      rw [s12, a, b]
      exact ⟨congrFun (si_ne (by omega)) t, rfl⟩
    · have : l = L := by omega
      subst this
      exact LN_fr z5 fun t ht => by rw [s12]; exact ⟨rfl, rfl⟩
  · rw [x1, obd_S, y1, obd2_s]
    unfold f_X11_fault_92
    rw [if_pos rfl]
    have f6 : (setI S1 2 2 (nI (L + 1))).1 2 6 = 1 := (si_nj (by omega)).trans f.2.1
    have f4 : (setI S1 2 2 (nI (L + 1))).1 2 4 = nI q1 := (si_nj (by omega)).trans f.2.2.1
    have e21 : l_X5_read_21 (fu + 1) (setI S1 2 2 (nI (L + 1))) (nI (L + 1)) = some (nI q1, setI S1 2 2 (nI (L + 1))) := by
      show f_X5_read_21 (l_X5_read_21 fu) _ _ = _
      unfold f_X5_read_21
      rw [rd_fl _ f6, f6, if_neg one0, f4]
      split <;> rfl
    rw [e21, z1]
    exact ⟨_, _, _, rfl, rfl, (g1.tr (rs0.tr f.1)).tr (RS_I S1 2 2 _ (by omega)), g2.tr z2, fun c => absurd c (m1_ne (k := q1) (by omega))⟩
theorem q_semi (q e : Nat) : q_is tx q e 0 = true ↔ e - q = 1 ∧ nI (tx q) = 59 := by
  have s0 : strL 0 = 1 := rfl
  have b0 : strB 0 0 = 59 := by decide +kernel
  unfold q_is
  rw [s0, show q_mt tx q 0 1 0 = (decide (nI (tx (q + 0)) = strB 0 0) && true) from rfl, b0, Bool.and_true, Bool.and_eq_true, decide_eq_true_eq, decide_eq_true_eq]
  exact Iff.rfl
theorem rd_ends {L q e : Nat} {S M : St} (hT : Tx Sb Mb N tx) (h : Go Sb Mb N L q e S M) (hL : L ≤ 10) : Rq Sb Mb (f_X5_read_72 S) (if N ≤ q then some (-1, M) else some (nI q, M)) := by
  have hN := hT.1
  obtain ⟨g1, g2, g3, ⟨t1, t2, t3, t4, t5, t6, t7, t8⟩, g5, g6, g7⟩ := h
  have e72 : f_X5_read_72 S = if N ≤ q then some (-1, S) else some (nI q, S) := by
    unfold f_X5_read_72 f_X5_read_93 f_X8_length
    rw [if_pos g3]
    simp only [obd2_s, bnd_e]
    rw [(hT.fr g1 g2).2.1, t1]
    by_cases z : N ≤ q
    · rw [if_pos (nI_le z (by omega)), if_pos z]
    · rw [if_neg (nI_ge (by omega) (by omega)), if_neg z]
  rw [e72]
  by_cases z : N ≤ q
  · rw [if_pos z, if_pos z]
    exact ⟨_, _, _, rfl, rfl, g1, g2, fun _ => ⟨L, hL, g5, g6, g7⟩⟩
  · rw [if_neg z, if_neg z]
    exact ⟨_, _, _, rfl, rfl, g1, g2, fun c => absurd c (m1_ne (k := q) (by omega))⟩
theorem rd_l (hT : Tx Sb Mb N tx) : ∀ (j fu fv L : Nat) (S M : St) (q e : Nat), 1 ≤ L → L + j = 10 → j + 1 < fu → j < fv → Go Sb Mb N L q e S M → Rq Sb Mb (l_X5_read_21 fu S (nI L)) (l_X11_fault_26 fv M) := by
  have hN := hT.1
  intro j
  induction j with
  | zero =>
    intro fu fv L S M q e h1 hk hf hg h
    obtain ⟨fu, rfl⟩ : ∃ q, fu = q + 1 := ⟨fu - 1, by omega⟩
    obtain ⟨fv, rfl⟩ : ∃ q, fv = q + 1 := ⟨fv - 1, by omega⟩
    have hL : L = 10 := by omega
    have k := rd_ends hT h (by omega)
    obtain ⟨g1, g2, g3, ⟨t1, t2, t3, t4, t5, t6, t7, t8⟩, g5, g6, g7⟩ := h
    have t := hT.fr g1 g2
    have eS : l_X5_read_21 (fu + 1) S (nI L) = f_X5_read_72 S := by
      show f_X5_read_21 (l_X5_read_21 fu) S _ = _
      unfold f_X5_read_21
      rw [if_pos (show (10 : Int32) ≤ nI L from nI_le (a := 10) (b := L) (by omega) (by omega))]
    have eM : l_X11_fault_26 (fv + 1) M = if N ≤ q then some (-1, M) else some (nI q, M) := by
      show f_X11_fault_26 (l_X11_fault_26 fv) M = _
      unfold f_X11_fault_26 f_X11_fault_77 f_X11_fault_78 f_X11_fault_92
      rw [t.2.2.1, t4, t5, g6]
      by_cases z : N ≤ q
      · rw [if_pos (nI_le z (by omega)), if_pos z]
      · rw [if_neg (nI_ge (by omega) (by omega)), if_neg z, chk_T (ixo_nI (show q < 200 by omega) (by omega)), if_pos (show (10 : Int32) ≤ nI L from nI_le (a := 10) (b := L) (by omega) (by omega)), if_pos rfl]
        simp only [ite_self, if_true]
    rw [eS, eM]
    exact k
  | succ j ih =>
    intro fu fv L S M q e h1 hk hf hg h
    obtain ⟨fu, rfl⟩ : ∃ q, fu = q + 1 + 1 := ⟨fu - 2, by omega⟩
    obtain ⟨fv, rfl⟩ : ∃ q, fv = q + 1 := ⟨fv - 1, by omega⟩
    have k := rd_ends hT h (by omega)
    have hh := h
    obtain ⟨g1, g2, g3, ⟨t1, t2, t3, t4, t5, t6, t7, t8⟩, g5, g6, g7⟩ := hh
    have t := hT.fr g1 g2
    have eS : l_X5_read_21 (fu + 1 + 1) S (nI L) = if q_is tx q e 0 = true then (obd (f_X5_step S) fun S' => f_X5_read_47 (l_X5_read_21 (fu + 1)) S' (nI L)) else f_X5_read_72 S := by
      show f_X5_read_21 (l_X5_read_21 (fu + 1)) S _ = _
      unfold f_X5_read_21 f_X5_takes
      rw [if_neg (show ¬ (10 : Int32) ≤ nI L from nI_ge (a := L) (b := 10) (by omega) (by omega)), if_pos g3, if_neg (show ¬ nI L = 0 from fun z => absurd ((nI_eq (a := L) (b := 0) (by omega) (by omega)).mp z) (by omega)), if_pos g3, t1, t2, e_isAt t (by omega) t6 t7, obd2_s]
      by_cases z : q_is tx q e 0 = true
      · rw [if_pos z, if_pos z, if_neg one0]
        cases f_X5_step S with
        | none => rfl
        | some S' => rw [obd_S, obd_S, obd2_s, if_neg one0]
      · rw [if_neg z, if_neg z, if_pos rfl, obd2_s, if_pos rfl]
    have eM : l_X11_fault_26 (fv + 1) M = if q_is tx q e 0 = true then (obd (f_X11_token M) fun S3 => obd2 (f_X11_readsLine S3) fun r4 S4 => f_X11_fault_92 (l_X11_fault_26 fv) S4 r4) else (if N ≤ q then some (-1, M) else some (nI q, M)) := by
      show f_X11_fault_26 (l_X11_fault_26 fv) M = _
      unfold f_X11_fault_26 f_X11_fault_77 f_X11_fault_78
      rw [t.2.2.1, t4, t5, g6, pk_sub t6]
      by_cases z : N ≤ q
      · rw [if_pos (nI_le z (by omega)), if_pos z, if_neg (fun c => absurd ((q_semi q e).mp c).1 (by omega))]
      · obtain ⟨-, tm, tb⟩ := t.2.2.2 q (by omega)
        rw [if_neg (nI_ge (by omega) (by omega)), if_neg z, chk_T (ixo_nI (show q < 200 by omega) (by omega)), if_neg (show ¬ (10 : Int32) ≤ nI L from nI_ge (a := L) (b := 10) (by omega) (by omega)), nI_clamp (by omega), tm, if_pos rfl, if_neg one0]
        have e0 : f_X11_fault_92 (l_X11_fault_26 fv) M 0 = some (nI q, M) := by
          unfold f_X11_fault_92
          rw [if_pos rfl, t4]
        rw [e0]
        by_cases c : q_is tx q e 0 = true
        · obtain ⟨c1, c2⟩ := (q_semi q e).mp c
          rw [if_pos c, if_pos (show nI (e - q) = 1 by rw [c1]; rfl), if_pos c2]
        · rw [if_neg c]
          by_cases d : nI (e - q) = 1
          · rw [if_pos d, if_neg (fun c2 => c ((q_semi q e).mpr ⟨(nI_eq (a := e - q) (b := 1) (by omega) (by omega)).mp d, c2⟩))]
          · rw [if_neg d]
    rw [eS, eM]
    by_cases z : q_is tx q e 0 = true
    · rw [if_pos z, if_pos z]
      obtain ⟨q1, e1, S1, M1, x1, y1, sf, mf, ht⟩ := e_step t t7 t2 t3
      rw [x1, y1, obd_S, obd_S]
      refine rd_line hT (by omega) (q := q1) (e := e1) ⟨g1.tr sf.rs, g2.tr mf.rm, (sf.2 6 (by omega) (by omega)).trans g3, ht, (sf.2 2 (by omega) (by omega)).trans g5, (mf.2 3 (by omega) (by omega) (by omega)).trans g6, fun l hl => LN_fr (g7 l hl) fun t _ => ?_⟩ (fun S' M' q' e' g => ih (fu + 1) fv (L + 1) S' M' q' e' (by omega) (by omega) (by omega) (by omega) g)
      exact ⟨congrFun (sf.1 12 (by omega)) t, congrFun (mf.1 2 (by omega)) t⟩
    · rw [if_neg z, if_neg z]
      exact k
theorem rd_all (hT : Tx Sb Mb N tx) : Rq Sb Mb (f_X5_read Sb) (f_X11_fault Mb) := by
  have hN := hT.1
  unfold f_X5_read f_X11_fault
  simp only [bnd_e]
  have rs : RS Sb (setI (setI (setI Sb 2 2 0) 2 6 0) 2 5 0) := (RS_I Sb 2 2 0 (by omega)).tr ((RS_I _ 2 6 0 (by omega)).tr (RS_I _ 2 5 0 (by omega)))
  have rm : RM Mb (setI (setI Mb 0 17 0) 0 3 0) := (RM_0 Mb 17 0 (by omega)).tr (RM_0 _ 3 0 (by omega))
  obtain ⟨q1, e1, S1, M1, x1, y1, sf, mf, ht⟩ := e_step (hT.fr rs rm) (p := 0) (by omega) si_eq ((si_nj (by omega)).trans si_eq)
  rw [x1, y1, obd_S, obd_S]
  have g : Go Sb Mb N 0 q1 e1 S1 M1 := by
    refine ⟨rs.tr sf.rs, rm.tr mf.rm, (sf.2 6 (by omega) (by omega)).trans ?_, ht, (sf.2 2 (by omega) (by omega)).trans ?_, (mf.2 3 (by omega) (by omega) (by omega)).trans ?_, fun l hl => by omega⟩
    · exact (si_nj (by omega)).trans si_eq
    · exact (si_nj (by omega)).trans ((si_nj (by omega)).trans si_eq)
    · exact si_eq
  have e21 : l_X5_read_21 FU S1 0 = f_X5_read_47 (l_X5_read_21 (FU - 1)) S1 0 := by
    show f_X5_read_21 (l_X5_read_21 (FU - 1)) S1 0 = _
    unfold f_X5_read_21
    rw [if_neg (show ¬ (10 : Int32) ≤ 0 by decide), if_pos g.2.2.1, if_pos rfl]
  rw [e21]
  have k := rd_line hT (L := 0) (by omega) (fu := FU - 2) (kr := l_X11_fault_26 FU) g (fun S' M' q' e' h => rd_l hT 9 (FU - 2 + 1) FU 1 S' M' q' e' (by omega) (by omega) (by rw [FU_eq]; omega) (by rw [FU_eq]; omega) h)
  exact k
end READ
theorem RS.fs {S S' : St} (h : RS S S') : FS S S' := fun p q => h p (by omega) (by omega)
theorem RM.fm {M M' : St} (h : RM M M') : FM M M' := ⟨fun p a b => h.1 p (by omega) (by omega), fun j a b => h.2 j (by omega) (by omega) (by omega) (by omega)⟩
theorem R1_tx {S M : St} (h : R1 S M) : Tx S M (nv (M.1 0 1)) (fun i => nv (M.1 1 i)) := by
  obtain ⟨a, b, c⟩ := h
  refine ⟨b.2, a.trans b.1, b.1, fun i hi => ?_⟩
  obtain ⟨c1, c2⟩ := c i hi
  exact ⟨c1.trans c2.1, c2.1, c2.2⟩
theorem RI_rd {S M S' M' : St} (h : RI S M) (hS : RS S S') (hM : RM M M') : RI S' M' := by
  obtain ⟨h1, h2, h3, h4⟩ := h
  refine ⟨?_, R2_fr hS.fs hM.fm h2, R3_fr hS.fs hM.fm h3, R4_fr hS.fs hM.fm h4⟩
  unfold R1 at h1 ⊢
  rw [hS 1 (by omega) (by omega), hS 11 (by omega) (by omega), hM.1 1 (by omega) (by omega), hM.2 1 (by omega) (by omega) (by omega) (by omega)]
  exact h1
theorem st_fault : PS_fault RI := by
  intro S M h
  obtain ⟨r, S1, M1, a, b, c, d, -⟩ := rd_all (R1_tx h.1)
  unfold f_X10_fault
  rw [a, obd2_s]
  exact ⟨r, S1, M1, rfl, b, RI_rd h c d⟩
