-- ===== 44: what a row brings, call by call; the class's walk through all that may be
def q_S (f : Nat → Int64) : Nat → Nat → Int64
  | 0, _ => 0
  | r + 1, s => f s + q_S f r (s + 1)
def q_be (M : St) (c : Nat) (t : Int32) : Int32 := if t < M.1 6 (6 * c + 1) then M.1 6 (6 * c + 1) else t
/-- what all that may be from stop i on brings, each by its chance; L: how likely each sort is, f: the full bag, φ: what an end brings -/
def q_E (M : St) (L : Nat → Nat → Nat) (k : Nat → Nat) (f : Nat) (φ : Int32 → Int32 → Int32 → Int64) : Nat → Nat → Int32 → Nat → Int32 → Int32 → Int64
  | 0, _, m, _, g, z => φ m g z
  | j + 1, i, m, b, g, z =>
    if k i < 6 then
      (if m + q_w M k i ≤ M.1 6 (6 * k i + 2) then
        q_S (fun s => lN (L (k i) s) * (if q_ft M b (k i) s = true then q_E M L k f φ j (i + 1) (q_be M (k i) (m + q_w M k i) + M.1 8 (16 * k i + 4 * s + 1)) (nv (q_lt M b (k i) s)) (g + M.1 6 (6 * k i + 3)) z else q_E M L k f φ j (i + 1) (q_be M (k i) (m + q_w M k i) + M.1 6 (6 * k i + 5)) b (g - M.1 6 (6 * k i + 4)) 1)) (ms M (k i)) 0
      else lN (fb_sm' (L (k i)) (ms M (k i))) * q_E M L k f φ j (i + 1) (m + q_w M k i) b (g - M.1 6 (6 * k i + 4)) 1)
    else q_E M L k f φ j (i + 1) (m + q_w M k i) f g z
/-- the minutes at which it may end -/
def q_lv (M : St) (L : Nat → Nat → Nat) (k : Nat → Nat) (f : Nat) : Nat → Nat → Int32 → Nat → Int32 → Prop
  | 0, _, m, _, t => t = m
  | j + 1, i, m, b, t =>
    if k i < 6 then
      (if m + q_w M k i ≤ M.1 6 (6 * k i + 2) then
        ∃ s, s < ms M (k i) ∧ L (k i) s ≠ 0 ∧ (if q_ft M b (k i) s = true then q_lv M L k f j (i + 1) (q_be M (k i) (m + q_w M k i) + M.1 8 (16 * k i + 4 * s + 1)) (nv (q_lt M b (k i) s)) t else q_lv M L k f j (i + 1) (q_be M (k i) (m + q_w M k i) + M.1 6 (6 * k i + 5)) b t)
      else q_lv M L k f j (i + 1) (m + q_w M k i) b t)
    else q_lv M L k f j (i + 1) (m + q_w M k i) f t
def ph1 (_ g _ : Int32) : Int64 := g.toInt64
def ph2 (_ _ z : Int32) : Int64 := if z = 0 then 1 else 0
/-- r is the greatest of a and all of P -/
def Tp (P : Int32 → Prop) (a r : Int32) : Prop := a ≤ r ∧ (∀ t, P t → t ≤ r) ∧ (r = a ∨ P r)
theorem Tp.seq {P Q : Int32 → Prop} {a b c : Int32} (h : Tp P a b) (g : Tp Q b c) : Tp (fun t => P t ∨ Q t) a c := by
  refine ⟨Int32.le_trans h.1 g.1, fun t ht => ht.elim (fun q => Int32.le_trans (h.2.1 t q) g.1) (g.2.1 t), ?_⟩
  rcases g.2.2 with e | q
  · rcases h.2.2 with e2 | q2
    · exact Or.inl (e.trans e2)
    · right; left; rw [e]; exact q2
  · exact Or.inr (Or.inr q)
theorem Tp.iff {P Q : Int32 → Prop} {a r : Int32} (h : Tp P a r) (g : ∀ t, P t ↔ Q t) : Tp Q a r :=
  ⟨h.1, fun t q => h.2.1 t ((g t).mpr q), h.2.2.elim Or.inl (fun q => Or.inr ((g r).mp q))⟩
theorem Tp.no {P : Int32 → Prop} {a : Int32} (h : ∀ t, ¬ P t) : Tp P a a := ⟨Int32.le_refl _, fun t q => absurd q (h t), Or.inl rfl⟩
theorem Tp.one (m a : Int32) : Tp (fun t => t = m) a (if a < m then m else a) := by
  by_cases q : a < m
  · rw [if_pos q]; exact ⟨Int32.le_of_lt q, fun t e => by rw [e]; exact Int32.le_refl _, Or.inr rfl⟩
  · rw [if_neg q]; exact ⟨Int32.le_refl _, fun t e => by rw [e]; exact Int32.not_lt.mp q, Or.inl rfl⟩
theorem Tp.un {P : Int32 → Prop} {a r s : Int32} (h : Tp P a r) (g : Tp P a s) : r = s := by
  have le : ∀ {x y : Int32}, Tp P a x → Tp P a y → x ≤ y := fun {x y} h g => by
    rcases h.2.2 with e | q
    · rw [e]; exact g.1
    · exact g.2.1 x q
  exact Int32.le_antisymm (le h g) (le g h)
/-- the three cells that the walk changes -/
def wS (S : St) (a b : Int64) (m : Int32) : St := (fun p j => if p = 5 ∧ j = 6 then m else S.1 p j, fun p j => if p = 5 ∧ j = 3 then a else if p = 5 ∧ j = 4 then b else S.2.1 p j, S.2.2)
theorem wS_1 {S : St} {a b : Int64} {m : Int32} {p : Nat} (h : p ≠ 5) : (wS S a b m).1 p = S.1 p := funext fun j => if_neg (fun q => h q.1)
theorem wS_52 {S : St} {a b : Int64} {m : Int32} : (wS S a b m).1 5 2 = S.1 5 2 := by simp [wS]
theorem wS_56 {S : St} {a b : Int64} {m : Int32} : (wS S a b m).1 5 6 = m := by simp [wS]
theorem wS_53 {S : St} {a b : Int64} {m : Int32} : (wS S a b m).2.1 5 3 = a := by simp [wS]
theorem wS_54 {S : St} {a b : Int64} {m : Int32} : (wS S a b m).2.1 5 4 = b := by simp [wS]
theorem wS_55 {S : St} {a b : Int64} {m : Int32} : (wS S a b m).2.1 5 5 = S.2.1 5 5 := by simp [wS]
theorem wS_l {S : St} {a b : Int64} {m : Int32} {p : Nat} (h : p ≠ 5) : (wS S a b m).2.1 p = S.2.1 p := funext fun j => (if_neg (fun q => h q.1)).trans (if_neg (fun q => h q.1))
theorem wS_K (S : St) (a b : Int64) (m : Int32) : QX S (wS S a b m) := fun p _ h _ _ _ _ => wS_1 h
theorem wS_L3 {S : St} {a b v : Int64} {m : Int32} : setL (wS S a b m) 5 3 v = wS S v b m := by
  refine Prod.ext rfl (Prod.ext (funext fun p => funext fun j => ?_) rfl)
  show (if p = 5 then vp_updL ((wS S a b m).2.1 p) 3 v else (wS S a b m).2.1 p) j = (if p = 5 ∧ j = 3 then v else if p = 5 ∧ j = 4 then b else S.2.1 p j)
  by_cases hp : p = 5
  · subst hp
    rw [if_pos rfl]
    by_cases hj : j = 3
    · rw [hj, pk_uLs, if_pos ⟨rfl, rfl⟩]
    · rw [pk_uLn hj, if_neg (fun q => hj q.2)]
      exact if_neg (fun q => hj q.2)
  · rw [if_neg hp, wS_l hp, if_neg (fun q => hp q.1), if_neg (fun q => hp q.1)]
theorem wS_L4 {S : St} {a b v : Int64} {m : Int32} : setL (wS S a b m) 5 4 v = wS S a v m := by
  refine Prod.ext rfl (Prod.ext (funext fun p => funext fun j => ?_) rfl)
  show (if p = 5 then vp_updL ((wS S a b m).2.1 p) 4 v else (wS S a b m).2.1 p) j = (if p = 5 ∧ j = 3 then a else if p = 5 ∧ j = 4 then v else S.2.1 p j)
  by_cases hp : p = 5
  · subst hp
    rw [if_pos rfl]
    by_cases hj : j = 4
    · rw [hj, pk_uLs, if_neg (by decide), if_pos ⟨rfl, rfl⟩]
    · rw [pk_uLn hj, if_neg (show ¬ (5 = 5 ∧ j = 4) from fun q => hj q.2)]
      show (if 5 = 5 ∧ j = 3 then a else if 5 = 5 ∧ j = 4 then b else S.2.1 5 j) = _
      rw [if_neg (show ¬ (5 = 5 ∧ j = 4) from fun q => hj q.2)]
  · rw [if_neg hp, wS_l hp, if_neg (fun q => hp q.1), if_neg (fun q => hp q.1)]
theorem wS_I6 {S : St} {a b : Int64} {m v : Int32} : setI (wS S a b m) 5 6 v = wS S a b v := by
  refine Prod.ext (funext fun p => funext fun j => ?_) rfl
  show (if p = 5 then upd ((wS S a b m).1 p) 6 v else (wS S a b m).1 p) j = (if p = 5 ∧ j = 6 then v else S.1 p j)
  by_cases hp : p = 5
  · subst hp
    rw [if_pos rfl]
    by_cases hj : j = 6
    · rw [hj, pk_us, if_pos ⟨rfl, rfl⟩]
    · rw [pk_un hj, if_neg (fun q => hj q.2)]
      exact if_neg (fun q => hj q.2)
  · rw [if_neg hp, wS_1 hp, if_neg (fun q => hp q.1)]
theorem wS_self (S : St) : wS S (S.2.1 5 3) (S.2.1 5 4) (S.1 5 6) = S := by
  refine Prod.ext (funext fun p => funext fun j => ?_) (Prod.ext (funext fun p => funext fun j => ?_) rfl)
  · show (if p = 5 ∧ j = 6 then S.1 5 6 else S.1 p j) = S.1 p j
    by_cases h : p = 5 ∧ j = 6
    · rw [if_pos h, h.1, h.2]
    · rw [if_neg h]
  · show (if p = 5 ∧ j = 3 then S.2.1 5 3 else if p = 5 ∧ j = 4 then S.2.1 5 4 else S.2.1 p j) = S.2.1 p j
    by_cases h : p = 5 ∧ j = 3
    · rw [if_pos h, h.1, h.2]
    · rw [if_neg h]
      by_cases h : p = 5 ∧ j = 4
      · rw [if_pos h, h.1, h.2]
      · rw [if_neg h]
theorem wS_Rw {S M : St} {n : Nat} {k : Nat → Nat} (h : Rw S M n k) (a b : Int64) (m : Int32) : Rw (wS S a b m) M n k := by
  refine ⟨h.1, by rw [wS_1 (by omega)]; exact h.2.1, fun i hi => ?_⟩
  rw [wS_1 (by omega), wS_1 (by omega)]
  exact h.2.2 i hi
/-- how likely the sorts are, as far as is known -/
def Kno (S M : St) (L : Nat → Nat → Nat) : Prop := (S.1 4 5 = -1 ∧ L = q_lk M) ∨ ∃ c0 s0, c0 < 6 ∧ s0 < ms M c0 ∧ S.1 4 5 = nI c0 ∧ S.1 4 6 = nI s0 ∧ L = fun c s => if c = c0 then (if s = s0 then 1 else 0) else q_lk M c s
theorem wS_Kn {S M : St} {L : Nat → Nat → Nat} (h : Kno S M L) (a b : Int64) (m : Int32) : Kno (wS S a b m) M L := by
  unfold Kno
  rw [wS_1 (by omega)]
  exact h
theorem sm_one {s0 : Nat} : ∀ n, fb_sm' (fun s => if s = s0 then 1 else 0) n = if s0 < n then 1 else 0 := by
  intro n
  induction n with
  | zero => rfl
  | succ n ih =>
    rw [fb_sm', ih]
    by_cases q : n = s0
    · rw [if_pos q, if_neg (by omega), if_pos (by omega)]
    · rw [if_neg q]
      by_cases q2 : s0 < n
      · rw [if_pos q2, if_pos (by omega)]
      · rw [if_neg q2, if_neg (by omega)]
theorem Kn_le {S M : St} {L : Nat → Nat → Nat} (h3 : R3 S M) (h : Kno S M L) {c s : Nat} (hc : c < 6) (hs : s < ms M c) : L c s ≤ 20 := by
  have h1 := (lk_rg h3 hc hs).2.2
  rcases h with ⟨-, rfl⟩ | ⟨c0, s0, -, -, -, -, rfl⟩
  · exact h1
  · show (if c = c0 then (if s = s0 then 1 else 0) else q_lk M c s) ≤ 20
    split
    · split <;> omega
    · exact h1
theorem Kn_sm {S M : St} {L : Nat → Nat → Nat} (h3 : R3 S M) (h : Kno S M L) {c : Nat} (hc : c < 6) : fb_sm' (L c) (ms M c) ≤ 80 := by
  have h1 := sm_le (f := L c) (B := 20) (ms M c) (fun s hs => Kn_le h3 h hc hs)
  have h2 := ms_le h3 hc
  omega
theorem m1_ne {k : Nat} (h : k < 2 ^ 31) : ¬ nI k = -1 := by
  intro z
  have z2 := congrArg Int32.toInt z
  rw [nI_toInt h] at z2
  have z3 : (-1 : Int32).toInt = -1 := rfl
  omega
theorem e_cat (S : St) {i : Nat} (hi : i < 6) : f_X6_callAt S (nI i) = some (S.2.2 i, S) := by
  unfold f_X6_callAt
  rw [if_neg (nI_pos (by omega)), if_neg (show ¬ (6 : Int32) ≤ nI i from nI_ge (a := i) (b := 6) (by omega) (by omega)), chk_T (ixo_nI hi (by omega)), bnd_e, nI_clamp (by omega)]
theorem e_lof {S M : St} {n : Nat} {k : Nat → Nat} {L : Nat → Nat → Nat} (h3 : R3 S M) (hR : Rw S M n k) (hK : Kno S M L) {i s : Nat} (hi : i < n) (hc : k i < 6) (hs : s < ms M (k i)) : f_X6_likelyOf S (nI i) (nI s) = some (nI (L (k i) s), S) := by
  obtain ⟨hn, -, hr⟩ := hR
  obtain ⟨-, e16, -, eR⟩ := hr i hi
  have hm := ms_le h3 hc
  rw [dif_pos hc] at eR
  have e0 : S.1 (33 + (4 * k i + s)) 0 = nI (q_lk M (k i) s) := (so_X h3 hc hs (by omega)).trans (lk_rg h3 hc hs).1
  have tail : (obd2 (f_X6_callAt S (nI i)) fun r4 S4 => oel r4 (f_X6_likelyOf_48 S4 none) fun v5 => obd2 (f_X1_sortTold S4 v5 (nI s)) fun r6 S6 => f_X6_likelyOf_48 S6 r6) = some (nI (q_lk M (k i) s), S) := by
    rw [e_cat S (by omega), obd2_s, eR, oel_S, e_stX h3 hc hs, obd2_s]
    unfold f_X6_likelyOf_48
    rw [oel_S]
    exact congrArg (fun z => some (z, S)) e0
  unfold f_X6_likelyOf
  rw [e_at S 5 (by show i < 6; omega), obd2_s, show S.1 (11 + (5 : Fin 10).val) i = nI (k i) from e16]
  rcases hK with ⟨h5, rfl⟩ | ⟨c0, s0, hc0, hs0, h5, h6, rfl⟩
  · rw [h5, if_neg (m1_ne (by omega))]
    exact tail
  · rw [h5, h6]
    show _ = some (nI (if k i = c0 then (if s = s0 then 1 else 0) else q_lk M (k i) s), S)
    have hm0 := ms_le h3 hc0
    by_cases q : k i = c0
    · rw [if_pos (congrArg nI q), if_pos q]
      by_cases q2 : s = s0
      · rw [if_pos (congrArg nI q2), if_pos q2]; rfl
      · rw [if_neg (fun z => q2 ((nI_eq (by omega) (by omega)).mp z)), if_neg q2]; rfl
    · rw [if_neg (fun z => q ((nI_eq (by omega) (by omega)).mp z)), if_neg q]
      exact tail
theorem e_lat {S M : St} {n : Nat} {k : Nat → Nat} {L : Nat → Nat → Nat} (h3 : R3 S M) (hR : Rw S M n k) (hK : Kno S M L) {i : Nat} (hi : i < n) : f_X6_likelyAt S (nI i) = some (nI (if k i < 6 then fb_sm' (L (k i)) (ms M (k i)) else 1), S) := by
  obtain ⟨hn, -, hr⟩ := hR
  obtain ⟨ok, e16, -, eR⟩ := hr i hi
  unfold f_X6_likelyAt f_X6_likelyAt_25
  rw [e_cat S (by omega), obd2_s, eR]
  by_cases hc : k i < 6
  · rw [dif_pos hc, oel_S, if_pos hc, e_at S 5 (by show i < 6; omega), obd2_s, show S.1 (11 + (5 : Fin 10).val) i = nI (k i) from e16, e_likX h3 hc, obd2_s]
    rcases hK with ⟨h5, rfl⟩ | ⟨c0, s0, hc0, hs0, h5, h6, rfl⟩
    · rw [h5, if_neg (m1_ne (by omega))]; rfl
    · rw [h5]
      by_cases q : k i = c0
      · rw [if_pos (congrArg nI q)]
        show _ = some (nI (fb_sm' (fun s => if k i = c0 then (if s = s0 then 1 else 0) else q_lk M (k i) s) (ms M (k i))), S)
        rw [show (fun s => if k i = c0 then (if s = s0 then 1 else 0) else q_lk M (k i) s) = (fun s => if s = s0 then 1 else 0) from funext fun s => if_pos q, sm_one, if_pos (by rw [q]; exact hs0)]; rfl
      · rw [if_neg (fun z => q ((nI_eq (by omega) (by omega)).mp z))]
        show _ = some (nI (fb_sm' (fun s => if k i = c0 then (if s = s0 then 1 else 0) else q_lk M (k i) s) (ms M (k i))), S)
        rw [show (fun s => if k i = c0 then (if s = s0 then 1 else 0) else q_lk M (k i) s) = q_lk M (k i) from funext fun s => if_neg q]; rfl
  · rw [dif_neg hc, oel_N, if_neg hc]; rfl
theorem g1 (a o l V Q F W : Int64) : (a + o * l * V) + (o * Q + o * (F * W)) = a + (o * (l * V + Q) + o * (F * W)) := by
  rw [Int64.mul_add, Int64.mul_assoc, Int64.add_assoc, Int64.add_assoc]
theorem g2 (a o l Q F W : Int64) : a + (o * Q + o * ((F + l) * W)) = a + (o * (l * W + Q) + o * (F * W)) := by
  rw [Int64.add_mul, Int64.mul_add, Int64.mul_add, Int64.add_comm (o * (F * W)), ← Int64.add_assoc (o * Q), Int64.add_comm (o * Q)]
theorem g3 (a o V Q F W : Int64) : a + (o * Q + o * (F * W)) = a + (o * (0 * V + Q) + o * (F * W)) := by
  rw [Int64.zero_mul, Int64.zero_add]
theorem g4 (a o F W : Int64) : a + o * F * W = a + (o * 0 + o * (F * W)) := by
  rw [Int64.mul_zero, Int64.zero_add, Int64.mul_assoc]
theorem g5 (a o W : Int64) : a = a + (o * 0 + o * (0 * W)) := by
  rw [Int64.zero_mul, Int64.mul_zero, Int64.add_zero, Int64.add_zero]
theorem lN0 : lN 0 = 0 := rfl
