-- ===== 45: the class's walk gives the tree's values
theorem e_fin {S : St} {a b o : Int64} {mm m g z : Int32} : f_X9_finish (wS S a b mm) m o g z = some (wS S (a + o * g.toInt64) (b + o * ph2 m g z) (if mm < m then m else mm)) := by
  unfold f_X9_finish f_X9_finish_29
  rw [wS_53, wS_L3, bnd_e]
  by_cases q : z = 0
  · rw [if_pos q, wS_54, wS_L4, bnd_e, wS_56, bnd_e, wS_I6, bnd_e, show ph2 m g z = 1 from if_pos q, Int64.mul_one]
  · rw [if_neg q, wS_56, bnd_e, wS_I6, bnd_e, show ph2 m g z = 0 from if_neg q, Int64.mul_zero, Int64.add_zero]
section WALK
variable {S M : St} {n : Nat} {k : Nat → Nat} {L : Nat → Nat → Nat} {f : Nat}
theorem in_X (h2 : R2 S M) (h3 : R3 S M) (hR : Rw S M n k) (hK : Kno S M L) {i j : Nat} (hi : i < n) (hc : k i < 6) {rec : St → Int32 → Int32 → Int32 → Int64 → Int32 → Int32 → Option St}
    (hrec : ∀ (a bb : Int64) (mm m : Int32) (b : Nat) (o : Int64) (g z : Int32), b ≤ 255 → ∃ r, rec (wS S a bb mm) (nI (i + 1)) m (nI b) o g z = some (wS S (a + o * q_E M L k f ph1 j (i + 1) m b g z) (bb + o * q_E M L k f ph2 j (i + 1) m b g z) r) ∧ Tp (q_lv M L k f j (i + 1) m b) mm r)
    (b : Nat) (hb : b ≤ 255) (o : Int64) (g z st : Int32) : ∀ (r fu s F : Nat) (a bb : Int64) (mm : Int32), s + r = ms M (k i) → r < fu → F ≤ 20 * s →
    ∃ q, l_X9_goOn_127 rec fu (wS S a bb mm) (nI i) (nI b) o g z ⟨k i, hc⟩ st (nI F) (nI s) = some (wS S
      (a + (o * q_S (fun s => lN (L (k i) s) * (if q_ft M b (k i) s = true then q_E M L k f ph1 j (i + 1) (st + M.1 8 (16 * k i + 4 * s + 1)) (nv (q_lt M b (k i) s)) (g + M.1 6 (6 * k i + 3)) z else q_E M L k f ph1 j (i + 1) (st + M.1 6 (6 * k i + 5)) b (g - M.1 6 (6 * k i + 4)) 1)) r s + o * (lN F * q_E M L k f ph1 j (i + 1) (st + M.1 6 (6 * k i + 5)) b (g - M.1 6 (6 * k i + 4)) 1)))
      (bb + (o * q_S (fun s => lN (L (k i) s) * (if q_ft M b (k i) s = true then q_E M L k f ph2 j (i + 1) (st + M.1 8 (16 * k i + 4 * s + 1)) (nv (q_lt M b (k i) s)) (g + M.1 6 (6 * k i + 3)) z else q_E M L k f ph2 j (i + 1) (st + M.1 6 (6 * k i + 5)) b (g - M.1 6 (6 * k i + 4)) 1)) r s + o * (lN F * q_E M L k f ph2 j (i + 1) (st + M.1 6 (6 * k i + 5)) b (g - M.1 6 (6 * k i + 4)) 1))) q) ∧
      Tp (fun t => (∃ s', s ≤ s' ∧ s' < ms M (k i) ∧ L (k i) s' ≠ 0 ∧ (if q_ft M b (k i) s' = true then q_lv M L k f j (i + 1) (st + M.1 8 (16 * k i + 4 * s' + 1)) (nv (q_lt M b (k i) s')) t else q_lv M L k f j (i + 1) (st + M.1 6 (6 * k i + 5)) b t)) ∨ (F ≠ 0 ∧ q_lv M L k f j (i + 1) (st + M.1 6 (6 * k i + 5)) b t)) mm q := by
  have hm := ms_le h3 hc
  obtain ⟨ok, -, -, eR⟩ := hR.2.2 i hi
  have h0 : 0 < ms M (k i) := by rcases ok with q | q; omega; exact q.2
  have c7 : S.1 (21 + k i) 7 = M.1 6 (6 * k i + 3) := ca_X h3 hc h0 (j := 3) (by omega)
  have c8 : S.1 (21 + k i) 8 = M.1 6 (6 * k i + 4) := ca_X h3 hc h0 (j := 4) (by omega)
  have c9 : S.1 (21 + k i) 9 = M.1 6 (6 * k i + 5) := ca_X h3 hc h0 (j := 5) (by omega)
  have hS : S.1 (21 + k i) 1 = nI (ms M (k i)) := (h3.2 _ hc).2.1.trans (ms_e h3 hc)
  have w1 : ∀ (a bb : Int64) (mm : Int32) (p : Nat), p ≠ 5 → (wS S a bb mm).1 p = S.1 p := fun a bb mm p h => wS_1 h
  intro r
  induction r with
  | zero =>
    intro fu s F a bb mm hk hf hF
    obtain ⟨fu, rfl⟩ : ∃ q, fu = q + 1 := ⟨fu - 1, by omega⟩
    show ∃ q, f_X9_goOn_127 rec (l_X9_goOn_127 rec fu) (wS S a bb mm) (nI i) (nI b) o g z ⟨k i, hc⟩ st (nI F) (nI s) = _ ∧ _
    unfold f_X9_goOn_127 f_X1_sorts
    rw [obd2_s]
    show ∃ q, (if (wS S a bb mm).1 (21 + k i) 1 ≤ nI s then (if nI F ≤ 0 then some (wS S a bb mm) else obd (rec (wS S a bb mm) (nI i + 1) (st + (wS S a bb mm).1 (21 + k i) 9) (nI b) (o * (nI F).toInt64) (g - (wS S a bb mm).1 (21 + k i) 8) 1) fun S5 => some S5) else _) = _ ∧ _
    rw [w1 _ _ _ (21 + k i) (by omega), hS, if_pos (nI_le (by omega) (by omega)), c8, c9, nI_1]
    by_cases q : F = 0
    · rw [if_pos (show nI F ≤ 0 by rw [q]; decide), q]
      refine ⟨mm, ?_, Tp.no (fun t ht => ?_)⟩
      · rw [q_S, q_S, lN0, ← g5, ← g5]
      · rcases ht with ⟨s', a1, a2, -⟩ | ⟨a1, -⟩
        · omega
        · exact a1 rfl
    · rw [if_neg (show ¬ nI F ≤ 0 from nI_nle (by omega) (by omega)), nI_l (by omega)]
      obtain ⟨r, e, t⟩ := hrec a bb mm (st + M.1 6 (6 * k i + 5)) b (o * lN F) (g - M.1 6 (6 * k i + 4)) 1 hb
      rw [e, obd_S]
      refine ⟨r, ?_, t.iff (fun t => ⟨fun h => Or.inr ⟨q, h⟩, fun h => ?_⟩)⟩
      · rw [q_S, q_S, ← g4, ← g4]
      · rcases h with ⟨s', a1, a2, -⟩ | ⟨-, h⟩
        · omega
        · exact h
  | succ r ih =>
    intro fu s F a bb mm hk hf hF
    obtain ⟨fu, rfl⟩ : ∃ q, fu = q + 1 := ⟨fu - 1, by omega⟩
    have hs : s < ms M (k i) := by omega
    have hR' := wS_Rw hR a bb mm
    have hK' := wS_Kn hK a bb mm
    have r2 := R2_fr (wS_K S a bb mm).fs (FM.rf M) h2
    have r3 := R3_fr (wS_K S a bb mm).fs (FM.rf M) h3
    have hl := Kn_le h3 hK hc hs
    have s1 : S.1 (33 + (4 * k i + s)) 1 = M.1 8 (16 * k i + 4 * s + 1) := so_X h3 hc hs (by omega)
    show ∃ q, f_X9_goOn_127 rec (l_X9_goOn_127 rec fu) (wS S a bb mm) (nI i) (nI b) o g z ⟨k i, hc⟩ st (nI F) (nI s) = _ ∧ _
    unfold f_X9_goOn_127 f_X1_sorts f_X9_goOn_235 f_X4_tools
    rw [obd2_s]
    rw [if_neg (show ¬ (wS S a bb mm).1 (21 + k i) 1 ≤ nI s by rw [w1 _ _ _ _ (by omega), hS]; exact nI_ge (by omega) (by omega)), e_stX r3 hc hs, obd2_s, e_lof r3 hR' hK' hi hc hs, obd2_s, oel_S, obd2_s]
    simp only [bnd_e, nI_1]
    rw [e_lX r3 r2 hc hs, obd2_s]
    rw [q_S, q_S]
    by_cases q0 : L (k i) s = 0
    · rw [if_pos (show nI (L (k i) s) = 0 by rw [q0]; rfl)]
      obtain ⟨q, e, t⟩ := ih fu (s + 1) F a bb mm (by omega) (by omega) (by omega)
      rw [e]
      refine ⟨q, ?_, t.iff (fun t => ⟨fun h => ?_, fun h => ?_⟩)⟩
      · rw [q0, lN0, ← g3, ← g3]
      · rcases h with ⟨s', a1, a2⟩ | h
        · exact Or.inl ⟨s', by omega, a2⟩
        · exact Or.inr h
      · rcases h with ⟨s', a1, a2, a3, a4⟩ | h
        · refine Or.inl ⟨s', ?_, a2, a3, a4⟩
          have : s' ≠ s := fun z => a3 (by rw [z]; exact q0)
          omega
        · exact Or.inr h
    · rw [if_neg (show ¬ nI (L (k i) s) = 0 from nI_ne0 (by omega) (by omega))]
      rcases lt_or (M := M) (c := k i) (s := s) hb with ⟨q1, g7⟩ | ⟨q1, b', hb', e7, g7⟩
      · rw [if_pos g7, nI_add]
        obtain ⟨q, e, t⟩ := ih fu (s + 1) (F + L (k i) s) a bb mm (by omega) (by omega) (by omega)
        rw [e]
        have qn : ¬ q_ft M b (k i) s = true := by rw [q1]; decide
        refine ⟨q, ?_, t.iff (fun t => ⟨fun h => ?_, fun h => ?_⟩)⟩
        · rw [if_neg qn, if_neg qn, ← lN_add, g2, g2]
        · rcases h with ⟨s', a1, a2⟩ | ⟨-, h⟩
          · exact Or.inl ⟨s', by omega, a2⟩
          · exact Or.inl ⟨s, Nat.le_refl _, hs, q0, by rw [if_neg qn]; exact h⟩
        · rcases h with ⟨s', a1, a2, a3, a4⟩ | ⟨h1, h⟩
          · by_cases z : s' = s
            · subst z
              rw [if_neg qn] at a4
              exact Or.inr ⟨by omega, a4⟩
            · exact Or.inl ⟨s', by omega, a2, a3, a4⟩
          · exact Or.inr ⟨by omega, h⟩
      · rw [if_neg g7, e7, nI_l (by omega), w1 _ _ _ (21 + k i) (by omega), c7]
        show ∃ q, (obd (rec (wS S a bb mm) (nI (i + 1)) (st + (wS S a bb mm).1 (33 + (4 * k i + s)) 1) (nI b') (o * lN (L (k i) s)) (g + M.1 6 (6 * k i + 3)) z) _) = _ ∧ _
        rw [w1 _ _ _ (33 + (4 * k i + s)) (by omega), s1]
        obtain ⟨r', e, t⟩ := hrec a bb mm (st + M.1 8 (16 * k i + 4 * s + 1)) b' (o * lN (L (k i) s)) (g + M.1 6 (6 * k i + 3)) z hb'
        rw [e, obd_S, if_pos q1, if_pos q1, nv_nI (by omega)]
        obtain ⟨q, e2, t2⟩ := ih fu (s + 1) F _ _ r' (by omega) (by omega) (by omega)
        rw [e2]
        refine ⟨q, ?_, (t.seq t2).iff (fun t => ⟨fun h => ?_, fun h => ?_⟩)⟩
        · rw [g1, g1]
        · rcases h with h | ⟨s', a1, a2⟩ | h
          · exact Or.inl ⟨s, Nat.le_refl _, hs, q0, by rw [if_pos q1, e7, nv_nI (by omega)]; exact h⟩
          · exact Or.inl ⟨s', by omega, a2⟩
          · exact Or.inr h
        · rcases h with ⟨s', a1, a2, a3, a4⟩ | h
          · by_cases z : s' = s
            · subst z
              rw [if_pos q1, e7, nv_nI (by omega)] at a4
              exact Or.inl a4
            · exact Or.inr (Or.inl ⟨s', by omega, a2, a3, a4⟩)
          · exact Or.inr (Or.inr h)
theorem go_X (h2 : R2 S M) (h3 : R3 S M) (hR : Rw S M n k) (hK : Kno S M L) (hf : f ≤ 255) (h52 : S.1 5 2 = nI f) : ∀ (j d i : Nat), i + j = n → j < d → ∀ (a bb : Int64) (mm m : Int32) (b : Nat) (o : Int64) (g z : Int32), b ≤ 255 →
    ∃ r, g_X9_goOn d (wS S a bb mm) (nI i) m (nI b) o g z = some (wS S (a + o * q_E M L k f ph1 j i m b g z) (bb + o * q_E M L k f ph2 j i m b g z) r) ∧ Tp (q_lv M L k f j i m b) mm r := by
  intro j
  induction j with
  | zero =>
    intro d i hk hd a bb mm m b o g z hb
    obtain ⟨d, rfl⟩ : ∃ q, d = q + 1 := ⟨d - 1, by omega⟩
    have hn := hR.1
    show ∃ r, f_X9_goOn (g_X9_goOn d) (wS S a bb mm) (nI i) m (nI b) o g z = _ ∧ _
    unfold f_X9_goOn f_X6_length
    rw [obd2_s, wS_1 (by omega), hR.2.1, if_neg (show ¬ nI i < nI n from nI_nlt (by omega) (by omega)), e_fin, obd_S]
    exact ⟨_, rfl, Tp.one m mm⟩
  | succ j ih =>
    intro d i hk hd a bb mm m b o g z hb
    obtain ⟨d, rfl⟩ : ∃ q, d = q + 1 := ⟨d - 1, by omega⟩
    have hn := hR.1
    obtain ⟨ok, e16, e17, eR⟩ := hR.2.2 i (by omega)
    have hR' := wS_Rw hR a bb mm
    have hK' := wS_Kn hK a bb mm
    have r3 := R3_fr (wS_K S a bb mm).fs (FM.rf M) h3
    have w17 : (wS S a bb mm).1 (11 + (6 : Fin 10).val) i = q_w M k i := (congrFun (wS_1 (show 17 ≠ 5 by omega)) i).trans e17
    show ∃ r, f_X9_goOn (g_X9_goOn d) (wS S a bb mm) (nI i) m (nI b) o g z = _ ∧ _
    unfold f_X9_goOn f_X6_length f_X6_wayTo f_X1_lateAt f_X1_startedAt
    rw [obd2_s, wS_1 (p := 4) (by omega), hR.2.1, if_pos (show nI i < nI n from nI_lt (by omega) (by omega)), e_at _ 6 (by show i < 6; omega), obd2_s, obd2_s, w17, bnd_e, e_cat _ (by omega), obd2_s, show (wS S a bb mm).2.2 i = _ from eR, nI_1]
    by_cases hc : k i < 6
    · have h0 : 0 < ms M (k i) := by rcases ok with q | q; omega; exact q.2
      have c5 : (wS S a bb mm).1 (21 + k i) 5 = M.1 6 (6 * k i + 1) := (congrFun (wS_1 (by omega)) 5).trans (ca_X h3 hc h0 (j := 1) (by omega))
      have c6 : (wS S a bb mm).1 (21 + k i) 6 = M.1 6 (6 * k i + 2) := (congrFun (wS_1 (by omega)) 6).trans (ca_X h3 hc h0 (j := 2) (by omega))
      have c8 : (wS S a bb mm).1 (21 + k i) 8 = M.1 6 (6 * k i + 4) := (congrFun (wS_1 (by omega)) 8).trans (ca_X h3 hc h0 (j := 4) (by omega))
      rw [dif_pos hc, oel_S]
      show ∃ r, (obd2 (if m + q_w M k i ≤ (wS S a bb mm).1 (21 + k i) 6 then _ else _) fun r22 S22 => if r22 = 0 then (obd2 (bnd (if m + q_w M k i < S22.1 (21 + k i) 5 then S22.1 (21 + k i) 5 else m + q_w M k i) fun v1 => some (v1, S22)) _) else _) = _ ∧ _
      rw [c6, q_E, q_E, if_pos hc, if_pos hc]
      by_cases l : m + q_w M k i ≤ M.1 6 (6 * k i + 2)
      · rw [if_pos l, if_pos l, if_pos l, obd2_s, if_pos rfl, bnd_e, obd2_s, c5]
        obtain ⟨q, e, t⟩ := in_X h2 h3 hR hK (show i < n by omega) hc (fun a bb mm m b o g z hb => ih d (i + 1) (by omega) (by omega) a bb mm m b o g z hb) b hb o g z (q_be M (k i) (m + q_w M k i)) (ms M (k i)) FU 0 0 a bb mm (Nat.zero_add _) (by have := ms_le h3 hc; rw [FU_eq]; omega) (Nat.zero_le _)
        rw [lN0, Int64.zero_mul, Int64.zero_mul, Int64.mul_zero, Int64.add_zero, Int64.add_zero] at e
        refine ⟨q, e, t.iff (fun t => ?_)⟩
        rw [q_lv, if_pos hc, if_pos l]
        constructor
        · rintro (⟨s', -, h⟩ | ⟨h, -⟩)
          · exact ⟨s', h⟩
          · exact absurd rfl h
        · rintro ⟨s', h⟩
          exact Or.inl ⟨s', Nat.zero_le _, h⟩
      · rw [if_neg l, if_neg l, if_neg l, obd2_s, if_neg one0, e_lat r3 hR' hK' (by omega), obd2_s, if_pos hc, c8, nI_l (by have := Kn_sm h3 hK hc; omega)]
        obtain ⟨r, e, t⟩ := ih d (i + 1) (by omega) (by omega) a bb mm (m + q_w M k i) b (o * lN (fb_sm' (L (k i)) (ms M (k i)))) (g - M.1 6 (6 * k i + 4)) 1 hb
        rw [e, obd_S, Int64.mul_assoc, Int64.mul_assoc]
        refine ⟨r, rfl, t.iff (fun t => ?_)⟩
        rw [q_lv, if_pos hc, if_neg l]
    · rw [dif_neg hc, oel_N, wS_52, h52, q_E, q_E, if_neg hc, if_neg hc]
      obtain ⟨r, e, t⟩ := ih d (i + 1) (by omega) (by omega) a bb mm (m + q_w M k i) f o g z hf
      rw [e, obd_S]
      refine ⟨r, rfl, t.iff (fun t => ?_)⟩
      rw [q_lv, if_neg hc]
end WALK
/-- all but the walk's own cells -/
def T5 (S S' : St) : Prop := (∀ p, p ≠ 5 → S'.1 p = S.1 p) ∧ (∀ p, p ≠ 5 → S'.2.1 p = S.2.1 p) ∧ S'.2.2 = S.2.2
theorem T5.rf (S : St) : T5 S S := ⟨fun _ _ => rfl, fun _ _ => rfl, rfl⟩
theorem T5.tr {A B C : St} (h : T5 A B) (g : T5 B C) : T5 A C := ⟨fun p q => (g.1 p q).trans (h.1 p q), fun p q => (g.2.1 p q).trans (h.2.1 p q), g.2.2.trans h.2.2⟩
theorem T5.k {S S' : St} (h : T5 S S') : QX S S' := fun p _ q _ _ _ _ => h.1 p q
theorem T5_I (S : St) (j : Nat) (v : Int32) : T5 S (setI S 5 j v) := ⟨fun _ q => si_ne q, fun _ _ => rfl, rfl⟩
theorem T5_L (S : St) (j : Nat) (v : Int64) : T5 S (setL S 5 j v) := ⟨fun _ _ => rfl, fun _ q => by simp [setL, q], rfl⟩
theorem T5_w (S : St) (a b : Int64) (m : Int32) : T5 S (wS S a b m) := ⟨fun _ q => wS_1 q, fun _ q => wS_l q, rfl⟩
theorem T5.rw {S S' M : St} {n : Nat} {k : Nat → Nat} (h : T5 S S') (g : Rw S M n k) : Rw S' M n k := by
  unfold Rw
  rw [h.1 4 (by omega), h.1 16 (by omega), h.1 17 (by omega), h.2.2]
  exact g
theorem T5.kn {S S' M : St} {L : Nat → Nat → Nat} (h : T5 S S') (g : Kno S M L) : Kno S' M L := by
  unfold Kno
  rw [h.1 4 (by omega)]
  exact g
/-- the state behind a walk with bag b -/
def Tk (M : St) (L : Nat → Nat → Nat) (n : Nat) (k : Nat → Nat) (b : Nat) (S' : St) : Prop :=
  S'.2.1 5 3 = q_E M L k b ph1 n 0 (M.1 0 9) b 0 0 ∧ S'.2.1 5 4 = q_E M L k b ph2 n 0 (M.1 0 9) b 0 0 ∧ S'.2.1 5 5 = lN (q_A M L k n 0) ∧ Tp (q_lv M L k b n 0 (M.1 0 9) b) 0 (S'.1 5 6)
theorem tk_X {S0 M : St} {n : Nat} {k : Nat → Nat} {L : Nat → Nat → Nat} (h2 : R2 S0 M) (h3 : R3 S0 M) (hR : Rw S0 M n k) (hK : Kno S0 M L) {b : Nat} (hb : b ≤ 255) : ∀ (j fu i a : Nat) (S : St), i + j = n → j < fu → T5 S0 S → S.1 5 2 = nI b → S.1 5 6 = 0 → S.2.1 5 3 = 0 → S.2.1 5 4 = 0 → S.2.1 5 5 = lN a → a * q_A M L k j i = q_A M L k n 0 →
    ∃ S', l_X9_take_27 fu S (nI b) (nI i) = some S' ∧ T5 S0 S' ∧ Tk M L n k b S' := by
  have hn := hR.1
  intro j
  induction j with
  | zero =>
    intro fu i a S hk hf hT e2 e6 l3 l4 l5 ha
    obtain ⟨fu, rfl⟩ : ∃ q, fu = q + 1 := ⟨fu - 1, by omega⟩
    have hR' := hT.rw hR
    have r2 := R2_fr hT.k.fs (FM.rf M) h2
    have r3 := R3_fr hT.k.fs (FM.rf M) h3
    show ∃ S', f_X9_take_27 (l_X9_take_27 fu) S (nI b) (nI i) = _ ∧ _
    unfold f_X9_take_27 f_X6_length f_X4_begin
    rw [obd2_s, hR'.2.1, if_pos (show nI n ≤ nI i from nI_le (by omega) (by omega)), obd2_s, r2.2.2.2.2.1.1]
    obtain ⟨r, e, t⟩ := go_X r2 r3 hR' (hT.kn hK) hb e2 n 8 0 (Nat.zero_add _) (by omega) 0 0 0 (M.1 0 9) b 1 0 0 hb
    have ws : wS S 0 0 0 = S := by
      have h := wS_self S
      rw [l3, l4, e6] at h
      exact h
    rw [ws, Int64.one_mul, Int64.one_mul, Int64.zero_add, Int64.zero_add] at e
    have e : g_X9_goOn 8 S 0 (M.1 0 9) (nI b) 1 0 0 = _ := e
    rw [e, obd_S]
    refine ⟨_, rfl, hT.tr (T5_w _ _ _ _), wS_53, wS_54, wS_55.trans ?_, by rw [wS_56]; exact t⟩
    rw [l5]
    rw [q_A, Nat.mul_one] at ha
    rw [ha]
  | succ j ih =>
    intro fu i a S hk hf hT e2 e6 l3 l4 l5 ha
    obtain ⟨fu, rfl⟩ : ∃ q, fu = q + 1 := ⟨fu - 1, by omega⟩
    have hR' := hT.rw hR
    have r3 := R3_fr hT.k.fs (FM.rf M) h3
    rw [q_A, ← Nat.mul_assoc] at ha
    show ∃ S', f_X9_take_27 (l_X9_take_27 fu) S (nI b) (nI i) = _ ∧ _
    unfold f_X9_take_27 f_X6_length
    have hl : (if k i < 6 then fb_sm' (L (k i)) (ms M (k i)) else 1) ≤ 80 := by
      by_cases hc : k i < 6
      · rw [if_pos hc]; exact Kn_sm h3 hK hc
      · rw [if_neg hc]; omega
    rw [obd2_s, hR'.2.1, if_neg (show ¬ nI n ≤ nI i from nI_ge (by omega) (by omega)), e_lat r3 hR' (hT.kn hK) (by omega), obd2_s, bnd_e, bnd_e, nI_1, nI_l (by omega), l5, lN_mul]
    refine ih fu (i + 1) _ _ (by omega) (by omega) (hT.tr (T5_L _ _ _)) e2 e6 ?_ ?_ ?_ ha
    · exact (sl_nj (by omega)).trans l3
    · exact (sl_nj (by omega)).trans l4
    · exact sl_eq
theorem e_take {S M : St} {n : Nat} {k : Nat → Nat} {L : Nat → Nat → Nat} (h2 : R2 S M) (h3 : R3 S M) (hR : Rw S M n k) (hK : Kno S M L) {b : Nat} (hb : b ≤ 255) : ∃ S', f_X9_take S (nI b) = some S' ∧ T5 S S' ∧ Tk M L n k b S' := by
  unfold f_X9_take
  rw [bnd_e, bnd_e, bnd_e, bnd_e, bnd_e]
  refine tk_X h2 h3 hR hK hb n FU 0 1 _ (Nat.zero_add _) (by have := hR.1; rw [FU_eq]; omega) ((T5_I S 2 _).tr ((T5_L _ 3 _).tr ((T5_L _ 4 _).tr ((T5_I _ 6 _).tr (T5_L _ 5 _))))) ?_ ?_ ?_ ?_ ?_ (Nat.one_mul _)
  · rw [sl_1, si_nj (by omega), sl_1, sl_1, si_eq]
  · rw [sl_1, si_eq]
  · exact (sl_nj (by omega)).trans ((sl_nj (by omega)).trans sl_eq)
  · exact (sl_nj (by omega)).trans sl_eq
  · exact sl_eq
