-- ===== 58: a line is read alike
/-- behind a fault: nothing but the notes goes on -/
def Fl (S0 : St) (q e : Nat) (S : St) : Prop := RS S0 S ∧ S.1 2 6 = 1 ∧ S.1 2 4 = nI q ∧ S.1 2 5 = nI e
/-- a line is being read, j of its cells are there -/
def Gd (S0 M0 : St) (N q e L j : Nat) (T : Nat → Int32) (S M : St) : Prop :=
  RS S0 S ∧ RM M0 M ∧ S.1 2 6 = 0 ∧ Tq S M N q e ∧ S.1 2 3 = nI (8 * L + j) ∧ M.1 0 3 = nI L ∧ (∀ t, t < 8 * L → S.1 12 t = S0.1 12 t ∧ M.1 2 t = M0.1 2 t) ∧ (∀ i, i < j → S.1 12 (8 * L + i) = T i) ∧ (∀ i, 1 ≤ i → i < j → M.1 2 (8 * L + i) = T i) ∧ M.1 2 (8 * L) = T 0 - 1
def upT (T : Nat → Int32) (j : Nat) (v : Int32) : Nat → Int32 := fun i => if i = j then v else T i
/-- what the cells of a line tell -/
def LT (j : Nat) (T : Nat → Int32) : Prop :=
  (T 0 = 1 ∧ 5 ≤ j ∧ ∃ t w p k, t ≤ 7 ∧ 1 ≤ w ∧ w ≤ 99 ∧ p ≤ 99 ∧ k ≤ 1 ∧ T 1 = nI t ∧ T 2 = nI w ∧ T 3 = nI p ∧ T 4 = nI k) ∨
  (T 0 = 2 ∧ 2 ≤ j ∧ ∃ n, n ≤ 400 ∧ T 1 = nI n) ∨ (T 0 = 3 ∧ 2 ≤ j ∧ ∃ n, n ≤ 999 ∧ T 1 = nI n) ∨ (T 0 = 4 ∧ 2 ≤ j ∧ ∃ n, n ≤ 1439 ∧ T 1 = nI n) ∨
  (T 0 = 5 ∧ 4 ≤ j ∧ ∃ a b m, a ≤ 5 ∧ b ≤ 5 ∧ m ≤ 200 ∧ T 1 = nI a ∧ T 2 = nI b ∧ T 3 = nI m) ∨
  (T 0 = 6 ∧ 8 ≤ j ∧ ∃ c p o s w g l, c ≤ 5 ∧ 1 ≤ p ∧ p ≤ 5 ∧ o ≤ s ∧ s ≤ 1439 ∧ w ≤ 99 ∧ g ≤ 99 ∧ l ≤ 99 ∧ T 1 = nI c ∧ T 2 = nI p ∧ T 3 = nI o ∧ T 4 = nI s ∧ T 5 = nI w ∧ T 6 = nI g ∧ T 7 = nI l) ∨
  (T 0 = 7 ∧ 6 ≤ j ∧ ∃ c n m x y, c ≤ 5 ∧ 1 ≤ n ∧ n ≤ 20 ∧ m ≤ 200 ∧ x ≤ 255 ∧ y ≤ 255 ∧ T 1 = nI c ∧ T 2 = nI n ∧ T 3 = nI m ∧ T 4 = nI x ∧ T 5 = nI y)
def LN (S M : St) (L : Nat) : Prop := ∃ j T, LT j T ∧ (∀ i, i < j → S.1 12 (8 * L + i) = T i) ∧ (∀ i, 1 ≤ i → i < j → M.1 2 (8 * L + i) = T i) ∧ M.1 2 (8 * L) = T 0 - 1
/-- both fail at the same token -/
def Cf (S0 M0 : St) (N : Nat) (x : Option St) (y : Option (Int32 × St)) : Prop := ∃ S' M' q e, x = some S' ∧ Fl S0 q e S' ∧ q ≤ N ∧ y = some (0, M') ∧ M'.1 0 18 = nI q ∧ RM M0 M'
def C1 (S0 M0 : St) (N L : Nat) (x : Option St) (y : Option (Int32 × St)) : Prop := (∃ S' M' q e j T, x = some S' ∧ y = some (1, M') ∧ Gd S0 M0 N q e L j T S' M' ∧ LT j T) ∨ Cf S0 M0 N x y
def CL (S0 M0 : St) (N L : Nat) (x : Option St) (y : Option (Int32 × St)) : Prop := (∃ S' M' q e, x = some S' ∧ y = some (1, M') ∧ RS S0 S' ∧ RM M0 M' ∧ S'.1 2 6 = 0 ∧ Tq S' M' N q e ∧ M'.1 0 3 = nI (L + 1) ∧ (∀ t, t < 8 * L → S'.1 12 t = S0.1 12 t ∧ M'.1 2 t = M0.1 2 t) ∧ LN S' M' L) ∨ Cf S0 M0 N x y
theorem e_putany (S : St) (q : Fin 10) (x v : Int32) : ∃ S', f_X10_put S q x v = some S' ∧ (S' = S ∨ ∃ i, S' = setI S (11 + q.val) i v) := by
  have hq := alen_le q
  unfold f_X10_put
  by_cases a : x < 0
  · rw [if_pos a]; exact ⟨S, rfl, Or.inl rfl⟩
  · rw [if_neg a]
    by_cases b : nI (alen q.val) ≤ x
    · rw [if_pos b]; exact ⟨S, rfl, Or.inl rfl⟩
    · obtain ⟨k, hk, rfl⟩ := nI_of a
      have hl : k < alen q.val := by
        rw [nI_leI (by omega) hk] at b
        omega
      rw [if_neg b, chk_T (ixo_nI hl (by omega)), bnd_e]
      exact ⟨_, rfl, Or.inr ⟨_, rfl⟩⟩
theorem fl_note {S0 S : St} {q e : Nat} (h : Fl S0 q e S) (v : Int32) : ∃ S', f_X5_note S v = some S' ∧ Fl S0 q e S' := by
  obtain ⟨h1, h2, h3, h4⟩ := h
  obtain ⟨S1, e1, c⟩ := e_putany S 1 (S.1 2 3) v
  unfold f_X5_note
  rw [e1, obd_S, bnd_e]
  have k : RS S S1 ∧ S1.1 2 = S.1 2 := by
    rcases c with rfl | ⟨i, rfl⟩
    · exact ⟨RS.rf S1, rfl⟩
    · exact ⟨RS_I S 12 i v (by omega), si_ne (by show (2 : Nat) ≠ 12; omega)⟩
  refine ⟨_, rfl, (h1.tr k.1).tr (RS_I S1 2 3 _ (by omega)), ?_, ?_, ?_⟩
  · rw [si_nj (by omega), k.2]; exact h2
  · rw [si_nj (by omega), k.2]; exact h3
  · rw [si_nj (by omega), k.2]; exact h4
theorem fl_tk {S0 S : St} {q e : Nat} (h : Fl S0 q e S) (w : Nat) : f_X5_takes S w = some (0, S) := by
  unfold f_X5_takes
  rw [h.2.1, if_neg one0]
theorem fl_f {S0 S : St} {q e : Nat} (h : Fl S0 q e S) : Fl S0 q e (setI S 2 6 1) :=
  ⟨h.1.tr (RS_I S 2 6 1 (by omega)), si_eq, (si_nj (by omega)).trans h.2.2.1, (si_nj (by omega)).trans h.2.2.2⟩
section LINE
variable {S0 M0 : St} {N : Nat} {tx : Nat → Nat}
theorem fl_num (hT : Tx S0 M0 N tx) {S : St} {q e : Nat} (hqe : q ≤ e) (he : e ≤ N) (h : Fl S0 q e S) (a b : Int32) : ∃ S', f_X5_number S a b = some (0, S') ∧ Fl S0 q e S' := by
  have t := hT.fr h.1 (RM.rf M0)
  unfold f_X5_number f_X5_number_30
  rw [h.2.2.1, h.2.2.2, e_n8 t hqe he, obd2_s, (e_wi S S _ _ _).1, obd2_s]
  by_cases c : a ≤ q_nv tx N q e ∧ q_nv tx N q e ≤ b
  · rw [if_pos c, if_neg one0, h.2.1, if_neg one0]; exact ⟨S, rfl, h⟩
  · rw [if_neg c, if_pos rfl, bnd_e, si_eq, if_neg one0]; exact ⟨_, rfl, fl_f h⟩
theorem fl_nn (hT : Tx S0 M0 N tx) {S : St} {q e : Nat} (hqe : q ≤ e) (he : e ≤ N) (h : Fl S0 q e S) {a b : Int32} {cls : Int32 → St → Option St} (hc : ∀ r S', Fl S0 q e S' → ∃ S'', cls r S' = some S'' ∧ Fl S0 q e S'') : ∃ S'', (obd2 (f_X5_number S a b) fun r S1 => obd (f_X5_note S1 r) fun S2 => cls r S2) = some S'' ∧ Fl S0 q e S'' := by
  obtain ⟨S1, e1, h1⟩ := fl_num hT hqe he h a b
  obtain ⟨S2, e2, h2⟩ := fl_note h1 0
  rw [e1, obd2_s, e2, obd_S]
  exact hc 0 S2 h2
theorem fl_th (hT : Tx S0 M0 N tx) {S : St} {q e : Nat} (hqe : q ≤ e) (he : e ≤ N) (h : Fl S0 q e S) : ∃ S', f_X5_things S = some (0, S') ∧ Fl S0 q e S' := by
  have t := hT.fr h.1 (RM.rf M0)
  have tb := t
  unfold f_X5_things f_X5_things_25
  have eS0 : f_X8_things S (nI q) (nI e) = l_X8_things_5 FU S (nI e) 0 (nI q) := rfl
  rw [h.2.2.1, h.2.2.2, eS0]
  have key : ∃ b, l_X8_things_5 FU S (nI e) 0 (nI q) = some (b, S) := by
    have hN := hT.1
    -- the class's half alone: the other state is taken as one that has the same text
    have tm : Tx S (setI M0 0 19 (nI e)) N tx := t.fr (RS.rf S) (RM_0 M0 19 _ (by omega))
    rcases th_l tm (k := 0) he si_eq (e - q) FU FU q 0 (by omega) (by rw [FU_eq]; omega) (by rw [FU_eq]; omega) (Nat.le_refl q) (by omega) (by rw [ct_0]; omega) with ⟨a1, -⟩ | ⟨b, fw, -, -, a1, -⟩
    · exact ⟨_, a1⟩
    · exact ⟨_, a1⟩
  obtain ⟨b, eb⟩ := key
  rw [eb, obd2_s]
  by_cases z : b = 0
  · rw [if_pos z, bnd_e, si_eq, if_neg one0]; exact ⟨_, rfl, fl_f h⟩
  · rw [if_neg z, h.2.1, if_neg one0]; exact ⟨S, rfl, h⟩
/-- from a good state into a fault -/
theorem gd_fl {S M : St} {q e L j : Nat} {T : Nat → Int32} (h : Gd S0 M0 N q e L j T S M) : Fl S0 q e (setI S 2 6 1) :=
  ⟨h.1.tr (RS_I S 2 6 1 (by omega)), si_eq, (si_nj (by omega)).trans h.2.2.2.1.1, (si_nj (by omega)).trans h.2.2.2.1.2.1⟩
theorem gd_tx (hT : Tx S0 M0 N tx) {S M : St} {q e L j : Nat} {T : Nat → Int32} (h : Gd S0 M0 N q e L j T S M) : Tx S M N tx := hT.fr h.1 h.2.1
/-- a failure, told -/
theorem mk_f {S M : St} {q e L j : Nat} {T : Nat → Int32} (h : Gd S0 M0 N q e L j T S M) {x : Option St} {M' : St} (hx : ∃ S', x = some S' ∧ Fl S0 q e S') (hM : RM M M') (h18 : M'.1 0 18 = M.1 0 18) : Cf S0 M0 N x (some (0, M')) := by
  obtain ⟨S', e1, f⟩ := hx
  obtain ⟨t1, t2, t3, t4, t5, t6, t7, t8⟩ := h.2.2.2.1
  exact ⟨S', M', q, e, e1, f, by omega, rfl, h18.trans t4, h.2.1.tr hM⟩
/-- a note in a good state, where the reference has written the same -/
theorem gd_note {S M : St} {q e L j : Nat} {T : Nat → Int32} (hL : L ≤ 9) (hj : j ≤ 7) (h1 : 1 ≤ j) (h : Gd S0 M0 N q e L j T S M) (v : Int32) {S1 M1 : St} {q' e' : Nat} (hS : SF S S1) (hM : MF (setI M 2 (8 * L + j) v) M1) (ht : Tq S1 M1 N q' e') : ∃ S2, f_X5_note S1 v = some S2 ∧ Gd S0 M0 N q' e' L (j + 1) (upT T j v) S2 M1 := by
  obtain ⟨g1, g2, g3, g4, g5, g6, g7, g8, g9, g10⟩ := h
  have e3 : S1.1 2 3 = nI (8 * L + j) := (hS.2 3 (by omega) (by omega)).trans g5
  unfold f_X5_note
  rw [e3, e_put S1 1 v (by show 8 * L + j < 80; omega), obd_S, bnd_e]
  have c3 : (setI S1 (11 + (1 : Fin 10).val) (8 * L + j) v).1 2 3 = nI (8 * L + j) := (congrFun (si_ne (by show (2 : Nat) ≠ 12; omega)) 3).trans e3
  rw [c3, nI_1]
  have w2 : ∀ i, i ≠ 3 → (setI (setI S1 12 (8 * L + j) v) 2 3 (nI (8 * L + j + 1))).1 2 i = S1.1 2 i := fun i hi => by rw [si_nj hi, si_ne (by omega)]
  have w12 : ∀ i, i ≠ 8 * L + j → (setI (setI S1 12 (8 * L + j) v) 2 3 (nI (8 * L + j + 1))).1 12 i = S.1 12 i := fun i hi => by rw [si_ne (by omega), si_nj hi, hS.1 12 (by omega)]
  have w12e : (setI (setI S1 12 (8 * L + j) v) 2 3 (nI (8 * L + j + 1))).1 12 (8 * L + j) = v := by rw [si_ne (by omega), si_eq]
  have m2 : ∀ i, i ≠ 8 * L + j → M1.1 2 i = M.1 2 i := fun i hi => by rw [hM.1 2 (by omega), si_nj hi]
  have m2e : M1.1 2 (8 * L + j) = v := by rw [hM.1 2 (by omega), si_eq]
  obtain ⟨t1, t2, t3⟩ := ht
  refine ⟨setI (setI S1 12 (8 * L + j) v) 2 3 (nI (8 * L + j + 1)), rfl, ?_, ?_, ?_, ⟨?_, ?_, t3⟩, ?_, ?_, ?_, ?_, ?_, ?_⟩
  · exact (g1.tr hS.rs).tr ((RS_I S1 12 _ _ (by omega)).tr (RS_I _ 2 3 _ (by omega)))
  · exact g2.tr ((RM_2 M _ v).tr hM.rm)
  · rw [w2 6 (by omega), hS.2 6 (by omega) (by omega)]; exact g3
  · rw [w2 4 (by omega)]; exact t1
  · rw [w2 5 (by omega)]; exact t2
  · rw [si_eq]; rfl
  · rw [hM.2 3 (by omega) (by omega) (by omega), si_ne (by omega)]; exact g6
  · intro t htl
    rw [w12 t (by omega), m2 t (by omega)]
    exact g7 t htl
  · intro i hi
    unfold upT
    by_cases z : i = j
    · rw [if_pos z, z]; exact w12e
    · rw [if_neg z, w12 _ (by omega)]; exact g8 i (by omega)
  · intro i h1i hi
    unfold upT
    by_cases z : i = j
    · rw [if_pos z, z]; exact m2e
    · rw [if_neg z, m2 _ (by omega)]; exact g9 i h1i (by omega)
  · unfold upT
    rw [if_neg (by omega), m2 _ (by omega)]; exact g10
/-- a number, noted -/
theorem nst (hT : Tx S0 M0 N tx) {L : Nat} (hL : L ≤ 9) (C : Option St → Option (Int32 × St) → Prop) {cls : Int32 → St → Option St} {ref ff : St → Option (Int32 × St)} {S M : St} {q e : Nat} {T : Nat → Int32} (a b j : Nat) (h1 : 1 ≤ j) (hj : j ≤ 7) (ha : a < 2 ^ 31) (hb : b < 2 ^ 31) (h : Gd S0 M0 N q e L j T S M)
    (hg : ∀ v q' e' S' M', a ≤ v → v ≤ b → Gd S0 M0 N q' e' L (j + 1) (upT T j (nI v)) S' M' → (∀ i, i ≠ 8 * L + j → M'.1 2 i = M.1 2 i) → C (cls (nI v) S') (ref M'))
    (hf : ∀ S', Fl S0 q e S' → C (cls 0 S') (ff M)) :
    C (obd2 (f_X5_number S (nI a) (nI b)) fun r S1 => obd (f_X5_note S1 r) fun S2 => cls r S2) (obd2 (f_X11_reads M (nI (j - 1)) (nI a) (nI b)) fun r M1 => if r = 0 then ff M1 else ref M1) := by
  rcases e_nr (gd_tx hT h) h.2.2.2.1 h.2.2.1 h.2.2.2.2.2.1 (show 8 * L + 1 + (j - 1) < 80 by omega) ha hb with ⟨v, q', e', S', M', v1, v2, a1, a2, a3, a4, a5⟩ | ⟨a1, a2⟩
  · rw [show 8 * L + 1 + (j - 1) = 8 * L + j by omega] at a4
    obtain ⟨S2, e2, g2⟩ := gd_note hL hj h1 h (nI v) a3 a4 a5
    rw [a1, obd2_s, e2, obd_S, a2, obd2_s, if_neg one0]
    exact hg v q' e' S2 M' v1 v2 g2 (fun i hi => by rw [a4.1 2 (by omega), si_nj hi])
  · obtain ⟨S2, e2, f2⟩ := fl_note (gd_fl h) 0
    rw [a1, obd2_s, e2, obd_S, a2, obd2_s, if_pos rfl]
    exact hf S2 f2
theorem c1_cl {L : Nat} (hL : L ≤ 9) {x : Option St} {y : Option (Int32 × St)} (h : C1 S0 M0 N L x y) : CL S0 M0 N L x (obd2 y fun r S => f_X11_readsLine_322 S r) := by
  rcases h with ⟨S', M', q, e, j, T, rfl, rfl, hG, hL2⟩ | ⟨S', M', q, e, rfl, f, hq, rfl, h18, hM⟩
  · left
    obtain ⟨g1, g2, g3, ⟨t1, t2, t3, t4, t5, t6⟩, g5, g6, g7, g8, g9, g10⟩ := hG
    unfold f_X11_readsLine_322 f_X11_readsLine_336
    rw [obd2_s, if_neg one0, g6, nI_1, bnd_e, chk_T (show zb (1 : Int32) from Or.inr rfl)]
    have m2 : (setI M' 0 3 (nI (L + 1))).1 2 = M'.1 2 := si_ne (by omega)
    have m0 : ∀ i, i ≠ 3 → (setI M' 0 3 (nI (L + 1))).1 0 i = M'.1 0 i := fun i hi => si_nj hi
    refine ⟨S', _, q, e, rfl, rfl, g1, g2.tr (RM_0 M' 3 _ (by omega)), g3, ⟨t1, t2, (m0 17 (by omega)).trans t3, (m0 18 (by omega)).trans t4, (m0 19 (by omega)).trans t5, t6⟩, si_eq, ?_, j, T, hL2, g8, ?_, ?_⟩
    · rw [m2]; exact g7
    · rw [m2]; exact g9
    · rw [m2]; exact g10
  · right
    unfold f_X11_readsLine_322 f_X11_readsLine_336
    rw [obd2_s, if_pos rfl, bnd_e, chk_T (show zb (0 : Int32) from Or.inl rfl)]
    exact ⟨S', _, q, e, rfl, f, hq, rfl, (si_nj (by omega)).trans h18, hM.tr (RM_0 M' 3 _ (by omega))⟩
-- the words' numbers
theorem wo_1 : Wo 1 7808276 := by
  have : ∀ i : Fin 5, (96 : Int32) + (((7808276 : Int32) >>> ((5 * nI i.val) &&& 31)) &&& 31) = strB 1 i.val := by decide +kernel
  exact fun i hi => this ⟨i, hi⟩
theorem wo_2 : Wo 2 673840 := by
  have : ∀ i : Fin 4, (96 : Int32) + (((673840 : Int32) >>> ((5 * nI i.val) &&& 31)) &&& 31) = strB 2 i.val := by decide +kernel
  exact fun i hi => this ⟨i, hi⟩
theorem wo_3 : Wo 3 409076 := by
  have : ∀ i : Fin 4, (96 : Int32) + (((409076 : Int32) >>> ((5 * nI i.val) &&& 31)) &&& 31) = strB 3 i.val := by decide +kernel
  exact fun i hi => this ⟨i, hi⟩
theorem wo_4 : Wo 4 132588 := by
  have : ∀ i : Fin 4, (96 : Int32) + (((132588 : Int32) >>> ((5 * nI i.val) &&& 31)) &&& 31) = strB 4 i.val := by decide +kernel
  exact fun i hi => this ⟨i, hi⟩
theorem wo_5 : Wo 5 5884592 := by
  have : ∀ i : Fin 5, (96 : Int32) + (((5884592 : Int32) >>> ((5 * nI i.val) &&& 31)) &&& 31) = strB 5 i.val := by decide +kernel
  exact fun i hi => this ⟨i, hi⟩
theorem wo_6 : Wo 6 14982306 := by
  have : ∀ i : Fin 5, (96 : Int32) + (((14982306 : Int32) >>> ((5 * nI i.val) &&& 31)) &&& 31) = strB 6 i.val := by decide +kernel
  exact fun i hi => this ⟨i, hi⟩
theorem wo_7 : Wo 7 25655 := by
  have : ∀ i : Fin 3, (96 : Int32) + (((25655 : Int32) >>> ((5 * nI i.val) &&& 31)) &&& 31) = strB 7 i.val := by decide +kernel
  exact fun i hi => this ⟨i, hi⟩
theorem wo_8 : Wo 8 405539 := by
  have : ∀ i : Fin 4, (96 : Int32) + (((405539 : Int32) >>> ((5 * nI i.val) &&& 31)) &&& 31) = strB 8 i.val := by decide +kernel
  exact fun i hi => this ⟨i, hi⟩
theorem wo_9 : Wo 9 674291 := by
  have : ∀ i : Fin 4, (96 : Int32) + (((674291 : Int32) >>> ((5 * nI i.val) &&& 31)) &&& 31) = strB 9 i.val := by decide +kernel
  exact fun i hi => this ⟨i, hi⟩
theorem wo_10 : Wo 10 178670 := by
  have : ∀ i : Fin 4, (96 : Int32) + (((178670 : Int32) >>> ((5 * nI i.val) &&& 31)) &&& 31) = strB 10 i.val := by decide +kernel
  exact fun i hi => this ⟨i, hi⟩
theorem wo_11 : Wo 11 591 := by
  have : ∀ i : Fin 2, (96 : Int32) + (((591 : Int32) >>> ((5 * nI i.val) &&& 31)) &&& 31) = strB 11 i.val := by decide +kernel
  exact fun i hi => this ⟨i, hi⟩
/-- load, purse, begin -/
theorem ln_one (hT : Tx S0 M0 N tx) {L : Nat} (hL : L ≤ 9) {S M : St} {q e : Nat} {T : Nat → Int32} (most : Nat) (hm : most < 2 ^ 31) (h : Gd S0 M0 N q e L 1 T S M) (hT0 : ∀ n, n ≤ most → LT 2 (upT T 1 (nI n))) :
    C1 S0 M0 N L (obd2 (f_X5_number S 0 (nI most)) fun r2 S2 => obd (f_X5_note S2 r2) fun S3 => some S3) (f_X11_reads M 0 0 (nI most)) := by
  have k := nst (ff := fun M => some (0, M)) (ref := fun M => some (1, M)) (cls := fun _ S => some S) hT hL (C1 S0 M0 N L) 0 most 1 (by omega) (by omega) (by omega) hm h
    (fun v q' e' S' M' _ v2 g _ => Or.inl ⟨S', M', q', e', 2, _, rfl, rfl, g, hT0 v v2⟩)
    (fun S' f => Or.inr (mk_f h ⟨S', rfl, f⟩ (RM.rf M) rfl))
  have er : (obd2 (f_X11_reads M (nI (1 - 1)) (nI 0) (nI most)) fun r M1 => if r = 0 then some (0, M1) else some (1, M1)) = f_X11_reads M 0 0 (nI most) := by
    rcases e_nr (gd_tx hT h) h.2.2.2.1 h.2.2.1 h.2.2.2.2.2.1 (show 8 * L + 1 + 0 < 80 by omega) (show 0 < 2 ^ 31 by omega) hm with ⟨v, q', e', S', M', -, -, -, a2, -⟩ | ⟨-, a2⟩
    · have a2 : f_X11_reads M 0 0 (nI most) = some (1, M') := a2
      show (obd2 (f_X11_reads M 0 0 (nI most)) _) = _
      rw [a2, obd2_s, if_neg one0]
    · have a2 : f_X11_reads M 0 0 (nI most) = some (0, M) := a2
      show (obd2 (f_X11_reads M 0 0 (nI most)) _) = _
      rw [a2, obd2_s, if_pos rfl]
  rw [er] at k
  exact k
end LINE
