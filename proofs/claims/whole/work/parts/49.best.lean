-- ===== 49: things that no sort of the row wants change nothing; best
theorem andn (x w : Int32) : x &&& (w ^^^ (-1)) = x ^^^ (x &&& w) := by
  rw [Int32.xor_neg_one]
  apply Int32.toBitVec_inj.mp
  show x.toBitVec &&& ~~~w.toBitVec = x.toBitVec ^^^ (x.toBitVec &&& w.toBitVec)
  apply BitVec.eq_of_getLsbD_eq
  intro i hi
  rw [BitVec.getLsbD_and, BitVec.getLsbD_xor, BitVec.getLsbD_and, BitVec.getLsbD_not]
  cases x.toBitVec.getLsbD i <;> cases w.toBitVec.getLsbD i <;> simp [hi]
theorem worth_e (x w : Int32) : x &&& (w ^^^ (-1)) = 0 ↔ x &&& w = x := by
  rw [andn, Int32.xor_eq_zero_iff]
  exact ⟨fun h => h.symm, fun h => h.symm⟩
/-- two bags that are the same for all that w has -/
def Sw (w : Int32) (a b : Nat) : Prop := nI a &&& w = nI b &&& w
theorem sub_and {v w x y : Int32} (h : v &&& w = v) (e : x &&& w = y &&& w) : v &&& x = v &&& y := by
  rw [← h, Int32.and_assoc, Int32.and_assoc, Int32.and_comm w, Int32.and_comm w, e]
theorem fit_sw {w v o x y : Int32} (hv : v &&& w = v) (ho : o &&& w = o) (e : x &&& w = y &&& w) (t : Int32) : q_fit x v o = q_fit y v o ∧ q_lf x v o t &&& w = q_lf y v o t &&& w := by
  have e1 := sub_and hv e
  have e2 := sub_and ho e
  have f : q_fit x v o = q_fit y v o := by
    unfold q_fit
    rw [andn, andn, e1, e2]
  refine ⟨f, ?_⟩
  unfold q_lf
  rw [f, e2]
  by_cases q : q_fit y v o = true
  · have a : ∀ a z : Int32, a &&& z &&& w = a &&& w &&& z := fun a z => by rw [Int32.and_assoc, Int32.and_comm z, ← Int32.and_assoc]
    rw [if_pos q, if_pos q, a, a, e]
  · rw [if_neg q, if_neg q]
/-- w has all that the sorts of the row want -/
def Wn (M : St) (k : Nat → Nat) (n : Nat) (w : Int32) : Prop := ∀ i s, i < n → k i < 6 → s < ms M (k i) → M.1 8 (16 * k i + 4 * s + 2) &&& w = M.1 8 (16 * k i + 4 * s + 2) ∧ M.1 8 (16 * k i + 4 * s + 3) &&& w = M.1 8 (16 * k i + 4 * s + 3)
theorem E_sw {M : St} {L : Nat → Nat → Nat} {k : Nat → Nat} {n : Nat} {w : Int32} {φ : Int32 → Int32 → Int32 → Int64} (hW : Wn M k n w) {f1 f2 : Nat} (hf1 : f1 ≤ 255) (hf2 : f2 ≤ 255) (hf : Sw w f1 f2) : ∀ (j i : Nat), i + j = n → ∀ (m : Int32) (b1 b2 : Nat) (g z : Int32), b1 ≤ 255 → b2 ≤ 255 → Sw w b1 b2 → q_E M L k f1 φ j i m b1 g z = q_E M L k f2 φ j i m b2 g z := by
  intro j
  induction j with
  | zero => intro i _ m b1 b2 g z _ _ _; rfl
  | succ j ih =>
    intro i hi m b1 b2 g z h1 h2 hb
    rw [q_E, q_E]
    by_cases hc : k i < 6
    · rw [if_pos hc, if_pos hc]
      by_cases l : m + q_w M k i ≤ M.1 6 (6 * k i + 2)
      · rw [if_pos l, if_pos l]
        refine S_congr _ 0 (fun s _ hs => ?_)
        obtain ⟨wv, wo⟩ := hW i s (by omega) hc (by omega)
        obtain ⟨ef, el⟩ := fit_sw wv wo (show nI b1 &&& w = nI b2 &&& w from hb) (M.1 0 6)
        have ef : q_ft M b1 (k i) s = q_ft M b2 (k i) s := ef
        have el : q_lt M b1 (k i) s &&& w = q_lt M b2 (k i) s &&& w := el
        rw [ef]
        rcases lt_or (M := M) (c := k i) (s := s) h1 with ⟨q, -⟩ | ⟨q, c1, d1, e1, -⟩
        · rw [ef] at q
          have qn : ¬ q_ft M b2 (k i) s = true := by rw [q]; decide
          rw [if_neg qn, if_neg qn, ih (i + 1) (by omega) _ b1 b2 _ _ h1 h2 hb]
        · rw [ef] at q
          rcases lt_or (M := M) (c := k i) (s := s) h2 with ⟨q2, -⟩ | ⟨-, c2, d2, e2, -⟩
          · rw [q] at q2; cases q2
          · rw [if_pos q, if_pos q]
            rw [e1, e2] at el ⊢
            rw [nv_nI (by omega), nv_nI (by omega), ih (i + 1) (by omega) _ c1 c2 _ _ d1 d2 el]
      · rw [if_neg l, if_neg l, ih (i + 1) (by omega) _ b1 b2 _ _ h1 h2 hb]
    · rw [if_neg hc, if_neg hc]
      exact ih (i + 1) (by omega) _ f1 f2 _ _ hf1 hf2 hf
theorem mn_sw {M : St} {L : Nat → Nat → Nat} {k : Nat → Nat} {n : Nat} {w : Int32} (hW : Wn M k n w) {a b : Nat} (ha : a ≤ 255) (hb : b ≤ 255) (h : Sw w a b) : q_mn M L k n a = q_mn M L k n b ∧ q_do M L k n a = q_do M L k n b :=
  ⟨E_sw hW ha hb h n 0 (Nat.zero_add _) _ a b 0 0 ha hb h, E_sw hW ha hb h n 0 (Nat.zero_add _) _ a b 0 0 ha hb h⟩
/-- what the row wants -/
def q_rw (M : St) (k : Nat → Nat) (n : Nat) : Int32 := q_or (fun i => if k i < 6 then q_wc M (k i) else 0) n
theorem and_or_l (a b : Int32) : a &&& (a ||| b) = a := by
  apply Int32.toBitVec_inj.mp
  show a.toBitVec &&& (a.toBitVec ||| b.toBitVec) = a.toBitVec
  apply BitVec.eq_of_getLsbD_eq
  intro i hi
  rw [BitVec.getLsbD_and, BitVec.getLsbD_or]
  cases a.toBitVec.getLsbD i <;> cases b.toBitVec.getLsbD i <;> rfl
theorem sub_tr {a b c : Int32} (h : a &&& b = a) (g : b &&& c = b) : a &&& c = a := by
  rw [← h, Int32.and_assoc, g]
theorem or_sub {f : Nat → Int32} : ∀ n i, i < n → f i &&& q_or f n = f i := by
  intro n
  induction n with
  | zero => intro i h; exact absurd h (Nat.not_lt_zero i)
  | succ n ih =>
    intro i h
    rw [q_or]
    by_cases z : i = n
    · rw [z, Int32.or_comm]; exact and_or_l _ _
    · exact sub_tr (ih i (by omega)) (and_or_l _ _)
theorem Wn_rw (M : St) (k : Nat → Nat) (n : Nat) : Wn M k n (q_rw M k n) := by
  intro i s hi hc hs
  have h1 : q_wc M (k i) &&& q_rw M k n = q_wc M (k i) := by
    have := or_sub (f := fun i => if k i < 6 then q_wc M (k i) else 0) n i hi
    simp only [if_pos hc] at this
    exact this
  have h2 : q_w1 M (k i) s &&& q_wc M (k i) = q_w1 M (k i) s := or_sub (ms M (k i)) s hs
  have h3 := sub_tr h2 h1
  unfold q_w1 at h3
  refine ⟨sub_tr (and_or_l _ (M.1 8 (16 * k i + 4 * s + 3))) h3, sub_tr ?_ h3⟩
  rw [Int32.or_comm]; exact and_or_l _ _
theorem rw_X {S M : St} {n : Nat} {k : Nat → Nat} (h3 : R3 S M) (hR : Rw S M n k) : ∀ (j fu i : Nat), i + j = n → j < fu → l_X6_wanted_4 fu S (q_rw M k i) (nI i) = some (q_rw M k n, S) := by
  obtain ⟨hn, h4, hr⟩ := hR
  intro j
  induction j with
  | zero =>
    intro fu i hk hf
    obtain ⟨fu, rfl⟩ : ∃ q, fu = q + 1 := ⟨fu - 1, by omega⟩
    show f_X6_wanted_4 (l_X6_wanted_4 fu) S _ (nI i) = _
    unfold f_X6_wanted_4
    have hi : i = n := by omega
    rw [h4, if_pos (show nI n ≤ nI i by rw [hi]; exact Int32.le_refl _), hi]
  | succ j ih =>
    intro fu i hk hf
    obtain ⟨fu, rfl⟩ : ∃ q, fu = q + 1 := ⟨fu - 1, by omega⟩
    obtain ⟨ok, -, -, eR⟩ := hr i (by omega)
    have e := ih fu (i + 1) (by omega) (by omega)
    rw [show q_rw M k (i + 1) = q_rw M k i ||| (if k i < 6 then q_wc M (k i) else 0) from rfl] at e
    show f_X6_wanted_4 (l_X6_wanted_4 fu) S _ (nI i) = _
    unfold f_X6_wanted_4 f_X6_wanted_29
    rw [h4, if_neg (nI_ge (by omega) (by omega)), e_cat S (by omega), obd2_s, eR]
    simp only [bnd_e, nI_1]
    by_cases hc : k i < 6
    · rw [if_pos hc] at e
      rw [dif_pos hc, oel_S, e_wcX h3 hc, obd2_s]
      exact e
    · rw [if_neg hc, Int32.or_zero] at e
      rw [dif_neg hc, oel_N]
      exact e
theorem e_rwX {S M : St} {n : Nat} {k : Nat → Nat} (h3 : R3 S M) (hR : Rw S M n k) : f_X6_wanted S = some (q_rw M k n, S) :=
  rw_X h3 hR n FU 0 (Nat.zero_add _) (by have := hR.1; rw [FU_eq]; omega)
/-- the part of bag b that w has -/
def q_ct2 (w : Int32) (b : Nat) : Nat := b &&& w.toBitVec.toNat
theorem ct2_e (w : Int32) (b : Nat) : nI b &&& w = nI (q_ct2 w b) := by
  conv => lhs; rw [nI_any w, nI_and]
  rfl
theorem ct2_le (w : Int32) (b : Nat) : q_ct2 w b ≤ b := Nat.and_le_left
theorem ct2_sw (w : Int32) (b : Nat) : Sw w (q_ct2 w b) b := by
  unfold Sw
  rw [← ct2_e, Int32.and_assoc, Int32.and_self]
theorem ct2_w {w : Int32} {b : Nat} (hb : b ≤ 255) : nI b &&& (w ^^^ (-1)) = 0 ↔ q_ct2 w b = b := by
  have := ct2_le w b
  rw [worth_e, ct2_e, nI_eq (by omega) (by omega)]
theorem bs_and {f : Nat → Nat} {b c : Nat} : ∀ (j k : Nat), q_bs f (b &&& c) k j ≤ q_bs f b k j := by
  intro j
  induction j with
  | zero => intro k; exact Nat.le_refl _
  | succ j ih =>
    intro k
    have h1 := ih (k + 1)
    rw [q_bs, q_bs, Nat.testBit_and]
    by_cases q : b.testBit k = true
    · rw [q, Bool.true_and]
      split <;> simp <;> omega
    · have : b.testBit k = false := Bool.eq_false_iff.mpr q
      rw [this, Bool.false_and]
      simp
      exact h1
theorem ct2_mb {M : St} {w : Int32} {b : Nat} (h : q_mb M b = true) : q_mb M (q_ct2 w b) = true ∧ q_wt M (q_ct2 w b) ≤ q_wt M b := by
  unfold q_mb at h ⊢
  have h1 : q_wt M (q_ct2 w b) ≤ q_wt M b := bs_and 8 0
  have h2 : q_pr M (q_ct2 w b) ≤ q_pr M b := bs_and 8 0
  have h := of_decide_eq_true h
  exact ⟨decide_eq_true (by omega), h1⟩
theorem mb_0 (M : St) : q_mb M 0 = true := by
  have z : ∀ (f : Nat → Nat) (j k : Nat), q_bs f 0 k j = 0 := by
    intro f j
    induction j with
    | zero => intro k; rfl
    | succ j ih => intro k; rw [q_bs, Nat.zero_testBit, if_neg (by decide), ih]
  unfold q_mb q_wt q_pr
  rw [z, z]
  exact decide_eq_true ⟨Nat.zero_le _, Nat.zero_le _⟩
/-- v is the best of the bags below k by F -/
def Bs (M : St) (F : Nat → Int64) (k v : Nat) : Prop := v < k ∧ q_mb M v = true ∧ ∀ b, b < k → q_mb M b = true → F b ≤ F v ∧ (b < v → F b < F v)
theorem Bs.un {M : St} {F : Nat → Int64} {k u v : Nat} (h : Bs M F k u) (g : Bs M F k v) : u = v := by
  rcases Nat.lt_trichotomy u v with l | l | l
  · exact absurd (Int64.lt_of_lt_of_le ((g.2.2 u h.1 h.2.1).2 l) (h.2.2 v g.1 g.2.1).1) (Int64.lt_irrefl)
  · exact l
  · exact absurd (Int64.lt_of_lt_of_le ((h.2.2 v g.1 g.2.1).2 l) (g.2.2 u h.1 h.2.1).1) (Int64.lt_irrefl)
/-- what a search for the best bag may change -/
def T6 (S S' : St) : Prop := (∀ p, p ≠ 5 → p ≠ 6 → S'.1 p = S.1 p) ∧ S'.2.2 = S.2.2
theorem T6.rf (S : St) : T6 S S := ⟨fun _ _ _ => rfl, rfl⟩
theorem T6.tr {A B C : St} (h : T6 A B) (g : T6 B C) : T6 A C := ⟨fun p q r => (g.1 p q r).trans (h.1 p q r), g.2.trans h.2⟩
theorem T6.k {S S' : St} (h : T6 S S') : QX S S' := fun p _ q r _ _ _ => h.1 p q r
theorem T5.t6 {S S' : St} (h : T5 S S') : T6 S S' := ⟨fun p q _ => h.1 p q, h.2.2⟩
theorem T6_I (S : St) (j : Nat) (v : Int32) : T6 S (setI S 6 j v) := ⟨fun _ _ q => si_ne q, rfl⟩
theorem T6_L (S : St) (j : Nat) (v : Int64) : T6 S (setL S 6 j v) := ⟨fun _ _ _ => rfl, rfl⟩
theorem T6.rw {S S' M : St} {n : Nat} {k : Nat → Nat} (h : T6 S S') (g : Rw S M n k) : Rw S' M n k := by
  unfold Rw
  rw [h.1 4 (by omega) (by omega), h.1 16 (by omega) (by omega), h.1 17 (by omega) (by omega), h.2]
  exact g
theorem T6.kn {S S' M : St} {L : Nat → Nat → Nat} (h : T6 S S') (g : Kno S M L) : Kno S' M L := by
  unfold Kno
  rw [h.1 4 (by omega) (by omega)]
  exact g
/-- where the class's search stands at k -/
def Fb (M : St) (F : Nat → Int64) (A : Int64) (k : Nat) (S : St) : Prop := (S.1 6 3 = -1 ∧ ∀ b, b < k → ¬ q_mb M b = true) ∨ ∃ v, S.1 6 3 = nI v ∧ S.2.1 6 5 = F v ∧ S.2.1 6 6 = A ∧ Bs M F k v
theorem fb_X {S0 M : St} {n : Nat} {k : Nat → Nat} {L : Nat → Nat → Nat} (h2 : R2 S0 M) (h3 : R3 S0 M) (hR : Rw S0 M n k) (hK : Kno S0 M L) : ∀ (j fu t : Nat) (S : St), t + j = 256 → j < fu → T6 S0 S → Fb M (q_mn M L k n) (lN (q_A M L k n 0)) t S →
    ∃ S', l_X2_findBest_15 fu S (q_rw M k n) (nI t) = some S' ∧ T6 S0 S' ∧ Fb M (q_mn M L k n) (lN (q_A M L k n 0)) 256 S' := by
  intro j
  induction j with
  | zero =>
    intro fu t S hk hf hT hF
    obtain ⟨fu, rfl⟩ : ∃ q, fu = q + 1 := ⟨fu - 1, by omega⟩
    have : t = 256 := by omega
    subst this
    show ∃ S', f_X2_findBest_15 (l_X2_findBest_15 fu) S _ _ = _ ∧ _
    unfold f_X2_findBest_15
    rw [if_pos (show (256 : Int32) ≤ nI 256 by decide)]
    exact ⟨S, rfl, hT, hF⟩
  | succ j ih =>
    intro fu t S hk hf hT hF
    obtain ⟨fu, rfl⟩ : ∃ q, fu = q + 1 := ⟨fu - 1, by omega⟩
    have r2 := R2_fr hT.k.fs (FM.rf M) h2
    have r3 := R3_fr hT.k.fs (FM.rf M) h3
    show ∃ S', f_X2_findBest_15 (l_X2_findBest_15 fu) S _ _ = _ ∧ _
    unfold f_X2_findBest_15 f_X2_findBest_65 f_X2_findBest_92 f_X2_isWorthATry f_X9_sum f_X9_scale
    simp only [bnd_e, nI_1, obd2_s]
    rw [if_neg (show ¬ (256 : Int32) ≤ nI t from nI_ge (a := t) (b := 256) (by omega) (by omega)), e_mayX r2 (by omega), obd2_s]
    -- the bag isn't looked at, and needn't be
    have skip : (q_mb M t = true → q_ct2 (q_rw M k n) t ≠ t) → ∃ S', l_X2_findBest_15 fu S (q_rw M k n) (nI (t + 1)) = some S' ∧ T6 S0 S' ∧ Fb M (q_mn M L k n) (lN (q_A M L k n 0)) 256 S' := by
      intro hs
      refine ih fu (t + 1) S (by omega) (by omega) hT ?_
      rcases hF with ⟨a, b⟩ | ⟨v, a, b, c, d1, d2, d3⟩
      · by_cases q : q_mb M t = true
        · have hl := ct2_le (q_rw M k n) t
          have hn := hs q
          exact absurd (ct2_mb (w := q_rw M k n) q).1 (b _ (by omega))
        · refine Or.inl ⟨a, fun b' hb' => ?_⟩
          by_cases z : b' = t
          · rw [z]; exact q
          · exact b b' (by omega)
      · refine Or.inr ⟨v, a, b, c, by omega, d2, fun b' hb' hm => ?_⟩
        by_cases z : b' = t
        · subst z
          have hl := ct2_le (q_rw M k n) b'
          have hn := hs hm
          have e := (mn_sw (L := L) (Wn_rw M k n) (show q_ct2 (q_rw M k n) b' ≤ 255 by omega) (show b' ≤ 255 by omega) (ct2_sw _ b')).1
          rw [← e]
          exact ⟨(d3 _ (by omega) (ct2_mb hm).1).1, fun l => by omega⟩
        · exact d3 b' (by omega) hm
    by_cases w : nI t &&& (q_rw M k n ^^^ (-1)) = 0
    · rw [if_pos w]
      by_cases q : q_mb M t = true
      · rw [if_pos q, if_neg one0, obd2_s, if_neg one0]
        obtain ⟨S1, e1, t5, k3, -, k5, -⟩ := e_take r2 r3 (hT.rw hR) (hT.kn hK) (show t ≤ 255 by omega)
        rw [e1, obd_S]
        have k3 : S1.2.1 5 3 = q_mn M L k n t := k3
        have c63 : S1.1 6 3 = S.1 6 3 := congrFun (t5.1 6 (by omega)) 3
        have c65 : S1.2.1 6 5 = S.2.1 6 5 := congrFun (t5.2.1 6 (by omega)) 5
        have c66 : S1.2.1 6 6 = S.2.1 6 6 := congrFun (t5.2.1 6 (by omega)) 6
        have tT : T6 S0 S1 := hT.tr t5.t6
        -- the bag is the best so far
        have new : (∀ b, b < t → q_mb M b = true → q_mn M L k n b < q_mn M L k n t) → ∃ S', l_X2_findBest_15 fu (setL (setL (setI S1 6 3 (nI t)) 6 5 ((setI S1 6 3 (nI t)).2.1 5 3)) 6 6 ((setL (setI S1 6 3 (nI t)) 6 5 ((setI S1 6 3 (nI t)).2.1 5 3)).2.1 5 5)) (q_rw M k n) (nI (t + 1)) = some S' ∧ T6 S0 S' ∧ Fb M (q_mn M L k n) (lN (q_A M L k n 0)) 256 S' := by
          intro hs
          refine ih fu (t + 1) _ (by omega) (by omega) (tT.tr ((T6_I S1 3 _).tr ((T6_L _ 5 _).tr (T6_L _ 6 _)))) (Or.inr ⟨t, ?_, ?_, ?_, by omega, q, fun b hb hm => ?_⟩)
          · rw [sl_1, sl_1, si_eq]
          · rw [sl_nj (by omega), sl_eq, si_2]; exact k3
          · rw [sl_eq, sl_ne (by omega), si_2]; exact k5
          · by_cases z : b = t
            · subst z; exact ⟨Int64.le_refl _, fun l => by omega⟩
            · have := hs b (by omega) hm
              exact ⟨Int64.le_of_lt this, fun _ => this⟩
        rw [c63, c65, k3]
        rcases hF with ⟨a, b⟩ | ⟨v, a, b, c, d1, d2, d3⟩
        · rw [if_pos a]
          exact new (fun b' hb' hm => absurd hm (b b' hb'))
        · rw [a, b, if_neg (m1_ne (by omega))]
          by_cases l : lg_cmp (q_mn M L k n t) (q_mn M L k n v) ≤ 0
          · rw [if_pos l]
            have l2 := (lg_cmp_le _ _).mp l
            refine ih fu (t + 1) S1 (by omega) (by omega) tT (Or.inr ⟨v, c63.trans a, c65.trans b, c66.trans c, by omega, d2, fun b' hb' hm => ?_⟩)
            by_cases z : b' = t
            · subst z; exact ⟨l2, fun l => by omega⟩
            · exact d3 b' (by omega) hm
          · rw [if_neg l]
            have l2 : q_mn M L k n v < q_mn M L k n t := Int64.not_le.mp (fun z => l ((lg_cmp_le _ _).mpr z))
            exact new (fun b' hb' hm => Int64.lt_of_le_of_lt (d3 b' hb' hm).1 l2)
      · rw [if_neg q, if_pos rfl, obd2_s, if_pos rfl]
        exact skip (fun z => absurd z q)
    · rw [if_neg w, obd2_s, if_pos rfl]
      exact skip (fun _ z => w ((ct2_w (by omega)).mpr z))
/-- the class finds the best bag -/
theorem e_fb {S M : St} {n : Nat} {k : Nat → Nat} {L : Nat → Nat → Nat} (h2 : R2 S M) (h3 : R3 S M) (hR : Rw S M n k) (hK : Kno S M L) : ∃ S' v, f_X2_findBest S = some S' ∧ T6 S S' ∧ S'.1 6 3 = nI v ∧ S'.2.1 6 5 = q_mn M L k n v ∧ S'.2.1 6 6 = lN (q_A M L k n 0) ∧ Bs M (q_mn M L k n) 256 v := by
  obtain ⟨S', e, hT, hF⟩ := fb_X h2 h3 hR hK 256 FU 0 (setI S 6 3 (-1)) rfl (by rw [FU_eq]; omega) (T6_I S 3 _) (Or.inl ⟨si_eq, fun b hb => absurd hb (Nat.not_lt_zero b)⟩)
  have e2 : f_X2_findBest S = some S' := by
    unfold f_X2_findBest
    rw [e_rwX h3 hR, obd2_s, bnd_e]
    exact e
  rcases hF with ⟨-, b⟩ | ⟨v, a, b, c, d⟩
  · exact absurd (mb_0 M) (b 0 (by omega))
  · exact ⟨S', v, e2, hT, a, b, c, d⟩
theorem bb_M {S M0 : St} {n : Nat} {k : Nat → Nat} (h2 : R2 S M0) (h3 : R3 S M0) (hn : n ≤ 6) (hok : ∀ t, t < n → Okk M0 (k t)) : ∀ (j fu t : Nat) (x1 : Int32) (x2 : Int64) (M : St), t + j = 256 → j < fu → QM M0 M → Ly M0 M n k → ((x1 = -1 ∧ ∀ b, b < t → ¬ q_mb M0 b = true) ∨ ∃ v, x1 = nI v ∧ x2 = q_mn M0 (q_lk M0) k n v ∧ Bs M0 (q_mn M0 (q_lk M0) k n) t v) →
    ∃ v M', l_X11_bestBag_7 fu M x1 x2 (nI t) = some (nI v, M') ∧ QM M0 M' ∧ Ly M0 M' n k ∧ Bs M0 (q_mn M0 (q_lk M0) k n) 256 v := by
  intro j
  induction j with
  | zero =>
    intro fu t x1 x2 M hk hf hK hY hI
    obtain ⟨fu, rfl⟩ : ∃ q, fu = q + 1 := ⟨fu - 1, by omega⟩
    have : t = 256 := by omega
    subst this
    show ∃ v M', f_X11_bestBag_7 (l_X11_bestBag_7 fu) M x1 x2 _ = _ ∧ _
    unfold f_X11_bestBag_7
    rw [if_pos (show (256 : Int32) ≤ nI 256 by decide)]
    rcases hI with ⟨-, b⟩ | ⟨v, rfl, -, d⟩
    · exact absurd (mb_0 M0) (b 0 (by omega))
    · exact ⟨v, M, rfl, hK, hY, d⟩
  | succ j ih =>
    intro fu t x1 x2 M hk hf hK hY hI
    obtain ⟨fu, rfl⟩ : ∃ q, fu = q + 1 := ⟨fu - 1, by omega⟩
    have r2 := R2_fr (FS.rf S) hK.fm h2
    have emb : q_mb M t = q_mb M0 t := by
      unfold q_mb q_wt q_pr
      rw [show q_wf M = q_wf M0 from funext fun t => congrArg nv (congrFun (hK.1 3 (by omega) (by omega) (by omega)) t), show q_pf M = q_pf M0 from funext fun t => congrArg nv (congrFun (hK.1 4 (by omega) (by omega) (by omega)) t), hK.2 7 (by omega), hK.2 8 (by omega)]
    show ∃ v M', f_X11_bestBag_7 (l_X11_bestBag_7 fu) M x1 x2 _ = _ ∧ _
    unfold f_X11_bestBag_7 f_X11_bestBag_46 f_X11_bestBag_51 f_X11_bestBag_64 f_X11_bestBag_76 f_X11_bestBag_77
    simp only [bnd_e, nI_1]
    rw [if_neg (show ¬ (256 : Int32) ≤ nI t from nI_ge (a := t) (b := 256) (by omega) (by omega)), e_mayM r2 (by omega), obd2_s, emb]
    by_cases q : q_mb M0 t = true
    · rw [if_pos q, if_neg one0]
      obtain ⟨M1, e1, k1, y1⟩ := e_mean h3 hn hok hK hY (show t ≤ 255 by omega) 0
      rw [e1, obd2_s]
      have new : (∀ b, b < t → q_mb M0 b = true → q_mn M0 (q_lk M0) k n b < q_mn M0 (q_lk M0) k n t) → ∃ v M', l_X11_bestBag_7 fu M1 (nI t) (q_mn M0 (q_lk M0) k n t) (nI (t + 1)) = some (nI v, M') ∧ QM M0 M' ∧ Ly M0 M' n k ∧ Bs M0 (q_mn M0 (q_lk M0) k n) 256 v := by
        intro hs
        refine ih fu (t + 1) _ _ M1 (by omega) (by omega) k1 y1 (Or.inr ⟨t, rfl, rfl, by omega, q, fun b hb hm => ?_⟩)
        by_cases z : b = t
        · subst z; exact ⟨Int64.le_refl _, fun l => by omega⟩
        · have := hs b (by omega) hm
          exact ⟨Int64.le_of_lt this, fun _ => this⟩
      rcases hI with ⟨rfl, b⟩ | ⟨v, rfl, rfl, d1, d2, d3⟩
      · rw [if_pos rfl, if_neg one0, if_neg one0]
        exact new (fun b' hb' hm => absurd hm (b b' hb'))
      · rw [if_neg (m1_ne (by omega))]
        by_cases l : lg_cmp (q_mn M0 (q_lk M0) k n t) (q_mn M0 (q_lk M0) k n v) ≤ 0
        · rw [if_pos l, if_pos trivial, if_pos trivial]
          have l2 := (lg_cmp_le _ _).mp l
          refine ih fu (t + 1) _ _ M1 (by omega) (by omega) k1 y1 (Or.inr ⟨v, rfl, rfl, by omega, d2, fun b' hb' hm => ?_⟩)
          by_cases z : b' = t
          · subst z; exact ⟨l2, fun l => by omega⟩
          · exact d3 b' (by omega) hm
        · rw [if_neg l, if_neg one0, if_neg one0]
          have l2 : q_mn M0 (q_lk M0) k n v < q_mn M0 (q_lk M0) k n t := Int64.not_le.mp (fun z => l ((lg_cmp_le _ _).mpr z))
          exact new (fun b' hb' hm => Int64.lt_of_le_of_lt (d3 b' hb' hm).1 l2)
    · rw [if_neg q, if_pos rfl]
      refine ih fu (t + 1) x1 x2 M (by omega) (by omega) hK hY ?_
      rcases hI with ⟨a, b⟩ | ⟨v, a, b, d1, d2, d3⟩
      · refine Or.inl ⟨a, fun b' hb' => ?_⟩
        by_cases z : b' = t
        · rw [z]; exact q
        · exact b b' (by omega)
      · refine Or.inr ⟨v, a, b, by omega, d2, fun b' hb' hm => ?_⟩
        by_cases z : b' = t
        · rw [z] at hm; exact absurd hm q
        · exact d3 b' (by omega) hm
theorem e_bb {S M0 M : St} {n : Nat} {k : Nat → Nat} (h2 : R2 S M0) (h3 : R3 S M0) (hn : n ≤ 6) (hok : ∀ t, t < n → Okk M0 (k t)) (hK : QM M0 M) (hY : Ly M0 M n k) : ∃ v M', f_X11_bestBag M = some (nI v, M') ∧ QM M0 M' ∧ Ly M0 M' n k ∧ Bs M0 (q_mn M0 (q_lk M0) k n) 256 v :=
  bb_M h2 h3 hn hok 256 FU 0 (-1) 0 M rfl (by rw [FU_eq]; omega) hK hY (Or.inl ⟨rfl, fun b hb => absurd hb (Nat.not_lt_zero b)⟩)
theorem st_best : PS_best RI := by
  intro S M h row y
  have hR := h
  obtain ⟨-, h2, h3, -⟩ := h
  obtain ⟨r, S', hK, eM, hr⟩ := e_refusal h2 h3 row y
  unfold f_X10_best f_X11_best
  rw [eM, obd2_s]
  rcases hr with ⟨hr, hz⟩ | ⟨rfl, z0, z1, n, rfl, hn1, hRw, -, h5⟩
  · rw [hz, obd2_s, if_neg (rn0 hr), if_neg (rn0 hr)]
    exact ⟨_, _, _, rfl, rfl, RI_K hK (QM.rf M) hR⟩
  · have hok : ∀ t, t < n → Okk M (q_st row t) := fun t ht => (hRw.2.2 t ht).1
    have r2 := R2_fr hK.fs (FM.rf M) h2
    have r3 := R3_fr hK.fs (FM.rf M) h3
    obtain ⟨S1, v, e1, t6, c1, -, -, bv⟩ := e_fb r2 r3 hRw (Or.inl ⟨h5, rfl⟩)
    obtain ⟨M1, e2, q1, y1⟩ := e_lay h3 row hRw.1 hok
    obtain ⟨u, M2, e3, q2, y2, bu⟩ := e_bb h2 h3 hRw.1 hok q1 y1
    unfold f_X2_bag
    rw [z1, obd2_s, if_pos rfl, if_pos rfl, e1, obd_S, obd2_s, e2, obd_S, e3, obd2_s, c1, bv.un bu]
    exact ⟨_, _, _, rfl, rfl, RI_K (hK.tr t6.k) q2 hR⟩
