-- ===== 39: calls and sorts by their numbers; idle, stands, box
theorem ms_le {S M : St} (h : R3 S M) {c : Nat} (hc : c < 6) : ms M c ≤ 4 := (h.2 c hc).2.2.1.2
theorem ms_e {S M : St} (h : R3 S M) {c : Nat} (hc : c < 6) : M.1 7 c = nI (ms M c) := (h.2 c hc).2.2.1.1
theorem tc_ms {S M : St} (h : R3 S M) {c : Nat} (hc : c < 6) (q : 0 < ms M c) : tc M c = true := by
  obtain ⟨-, -, -, h4, -⟩ := h.2 c hc
  by_cases t : tc M c = true
  · exact t
  · have e := h4 (Bool.eq_false_iff.mpr t)
    unfold ms at q
    rw [e] at q
    exact absurd q (by decide)
theorem e_icN {S M : St} (h : R3 S M) {c : Nat} (hc : c < 6) : f_X11_isCall M (nI c) = some (if tc M c = true then 1 else 0, M) := by
  unfold f_X11_isCall
  rw [e_in M _ 5 5 rfl, obd2_s, if_pos (inB_of (show c ≤ 5 by omega) (by omega)), if_neg one0, h.1.1, e_hasM M (by have := h.1.2; omega) (by omega), obd2_s]
  have e : (nv (M.1 0 11)).testBit c = tc M c := rfl
  rw [e]
  by_cases t : tc M c = true
  · rw [if_pos t, if_neg one0]
  · rw [if_neg t, if_pos rfl]
theorem e_ctN {S M : St} (h : R3 S M) {c : Nat} (hc : c < 6) : f_X4_callTold S (nI c) = some (if tc M c = true then some ⟨c, hc⟩ else none, S) := by
  rcases e_isCallM h (nI c) with ⟨h1, h2⟩ | ⟨d, hx, ht, h1, h2⟩
  · rw [e_icN h hc] at h2
    have : ¬ tc M c = true := fun t => by
      rw [if_pos t] at h2
      exact one0 (Prod.mk.inj (Option.some.inj h2)).1
    rw [h1, if_neg this]
  · have e : c = d.val := (nI_eq (by omega) (by have := d.isLt; omega)).mp hx
    subst e
    rw [h1, if_pos ht]
theorem e_stX {S M : St} (h : R3 S M) {c s : Nat} (hc : c < 6) (hs : s < ms M c) : f_X1_sortTold S ⟨c, hc⟩ (nI s) = some (some ⟨4 * c + s, by have := ms_le h hc; omega⟩, S) := by
  obtain ⟨-, c2, c3, -⟩ := h.2 c hc
  have c4 := ms_le h hc
  unfold f_X1_sortTold
  have f : finS ⟨c, hc⟩ (nI s) = some ⟨4 * c + s, by omega⟩ := by
    unfold finS
    rw [dif_pos (ixo_nI (show s < 4 by omega) (by omega))]
    exact congrArg some (Fin.ext (congrArg (fun z => 4 * c + z) (nI_clamp (by omega))))
  rw [if_neg (nI_pos (by omega)), if_neg (show ¬ S.1 (21 + c) 1 ≤ nI s by rw [c2, c3.1]; exact nI_ge hs (by unfold ms at c4; omega)), if_neg (show ¬ (4 : Int32) ≤ nI s from nI_ge (a := s) (b := 4) (by omega) (by omega)), f, obd_S]
theorem e_isN {S M : St} (h : R3 S M) {c s : Nat} (hc : c < 6) (hs : s < 4) : f_X11_isSort M (nI c) (nI s) = some (if s < ms M c then 1 else 0, M) ∧ f_X4_sortTold S (nI c) (nI s) = some (if s < ms M c then some ⟨4 * c + s, by omega⟩ else none, S) := by
  rcases e_isSortM h (nI c) (nI s) with ⟨h1, h2⟩ | ⟨d, t, ht4, hx, hy, htc, hm, h1, h2⟩
  · have : ¬ s < ms M c := fun q => by
      unfold f_X4_sortTold at h1
      rw [e_ctN h hc, if_pos (tc_ms h hc (by omega)), obd2_s, oel_S, e_stX h hc q, obd2_s] at h1
      cases (Prod.mk.inj (Option.some.inj h1)).1
    rw [h1, h2, if_neg this, if_neg this]; exact ⟨rfl, rfl⟩
  · have e : c = d.val := (nI_eq (by omega) (by have := d.isLt; omega)).mp hx
    have e2 : s = t := (nI_eq (by omega) (by omega)).mp hy
    subst e; subst e2
    rw [h1, h2, if_pos hm, if_pos hm]; exact ⟨rfl, rfl⟩
/-- all of f over the first n, together -/
def q_or (f : Nat → Int32) : Nat → Int32
  | 0 => 0
  | n + 1 => q_or f n ||| f n
def q_w1 (M : St) (c s : Nat) : Int32 := M.1 8 (16 * c + 4 * s + 2) ||| M.1 8 (16 * c + 4 * s + 3)
/-- what the sorts of call c want -/
def q_wc (M : St) (c : Nat) : Int32 := q_or (q_w1 M c) (ms M c)
theorem so_X {S M : St} (h : R3 S M) {c s k : Nat} (hc : c < 6) (hs : s < ms M c) (hk : k < 4) : S.1 (33 + (4 * c + s)) k = M.1 8 (16 * c + 4 * s + k) := by
  obtain ⟨-, -, -, -, -, c6, -⟩ := h.2 c hc
  exact (c6 s hs).1 k hk
theorem wc_X {S M : St} (h : R3 S M) {c : Nat} (hc : c < 6) : ∀ (j fu s : Nat), s + j = ms M c → j < fu → l_X1_wanted_4 fu S ⟨c, hc⟩ (q_or (q_w1 M c) s) (nI s) = some (q_wc M c, S) := by
  have hm := ms_le h hc
  have hS : S.1 (21 + c) 1 = nI (ms M c) := (h.2 c hc).2.1.trans (ms_e h hc)
  intro j
  induction j with
  | zero =>
    intro fu s hk hf
    obtain ⟨fu, rfl⟩ : ∃ q, fu = q + 1 := ⟨fu - 1, by omega⟩
    show f_X1_wanted_4 (l_X1_wanted_4 fu) S ⟨c, hc⟩ _ (nI s) = _
    unfold f_X1_wanted_4
    rw [if_pos (show S.1 (21 + c) 1 ≤ nI s by rw [hS]; exact nI_le (by omega) (by omega))]
    have : s = ms M c := by omega
    rw [this]; rfl
  | succ j ih =>
    intro fu s hk hf
    obtain ⟨fu, rfl⟩ : ∃ q, fu = q + 1 := ⟨fu - 1, by omega⟩
    show f_X1_wanted_4 (l_X1_wanted_4 fu) S ⟨c, hc⟩ _ (nI s) = _
    unfold f_X1_wanted_4 f_X1_wanted_29 f_X7_wanted
    rw [if_neg (show ¬ S.1 (21 + c) 1 ≤ nI s by rw [hS]; exact nI_ge (by omega) (by omega)), e_stX h hc (by omega), obd2_s, oel_S, obd2_s, bnd_e, bnd_e, nI_1]
    have e := ih fu (s + 1) (by omega) (by omega)
    rw [q_or, q_w1, ← so_X h hc (by omega) (by omega), ← so_X h hc (by omega) (by omega)] at e
    exact e
theorem e_wcX {S M : St} (h : R3 S M) {c : Nat} (hc : c < 6) : f_X1_wanted S ⟨c, hc⟩ = some (q_wc M c, S) :=
  wc_X h hc (ms M c) FU 0 (Nat.zero_add _) (by have := ms_le h hc; rw [FU_eq]; omega)
theorem wa_X {S M : St} (h : R3 S M) : ∀ (j fu c : Nat), c + j = 6 → j < fu → l_X4_wanted_4 fu S (q_or (q_wc M) c) (nI c) = some (q_or (q_wc M) 6, S) := by
  intro j
  induction j with
  | zero =>
    intro fu c hk hf
    obtain ⟨fu, rfl⟩ : ∃ q, fu = q + 1 := ⟨fu - 1, by omega⟩
    show f_X4_wanted_4 (l_X4_wanted_4 fu) S _ (nI c) = _
    unfold f_X4_wanted_4
    rw [if_pos (show (6 : Int32) ≤ nI c from nI_le (a := 6) (by omega) (by omega))]
    have : c = 6 := by omega
    rw [this]
  | succ j ih =>
    intro fu c hk hf
    obtain ⟨fu, rfl⟩ : ∃ q, fu = q + 1 := ⟨fu - 1, by omega⟩
    have hc : c < 6 := by omega
    show f_X4_wanted_4 (l_X4_wanted_4 fu) S _ (nI c) = _
    unfold f_X4_wanted_4 f_X4_wanted_27
    rw [if_neg (show ¬ (6 : Int32) ≤ nI c from nI_ge (a := c) (b := 6) (by omega) (by omega)), e_ctN h hc, obd2_s]
    have e := ih fu (c + 1) (by omega) (by omega)
    by_cases t : tc M c = true
    · rw [if_pos t, oel_S, e_wcX h hc, obd2_s, bnd_e, bnd_e, nI_1]
      exact e
    · rw [if_neg t, oel_N, bnd_e, nI_1]
      have z : ms M c = 0 := by
        by_cases q : 0 < ms M c
        · exact absurd (tc_ms h hc q) t
        · omega
      rw [q_or, q_wc, z, q_or, Int32.or_zero] at e
      exact e
/-- what the k-th sort of all wants -/
def q_wk (M : St) (k : Nat) : Int32 := if k % 4 < ms M (k / 4) then q_w1 M (k / 4) (k % 4) else 0
theorem wk_wc {S M : St} (h : R3 S M) : ∀ c, c ≤ 6 → q_or (q_wk M) (4 * c) = q_or (q_wc M) c := by
  intro c
  induction c with
  | zero => intro _; rfl
  | succ c ih =>
    intro hc
    have hm := ms_le h (show c < 6 by omega)
    have g : ∀ i, i < 4 → q_wk M (4 * c + i) = if i < ms M c then q_w1 M c i else 0 := by
      intro i hi
      unfold q_wk
      rw [show (4 * c + i) / 4 = c by omega, show (4 * c + i) % 4 = i by omega]
    show ((((q_or (q_wk M) (4 * c) ||| q_wk M (4 * c)) ||| q_wk M (4 * c + 1)) ||| q_wk M (4 * c + 2)) ||| q_wk M (4 * c + 3)) = q_or (q_wc M) c ||| q_wc M c
    rw [ih (by omega), show q_wk M (4 * c) = _ from g 0 (by omega), g 1 (by omega), g 2 (by omega), g 3 (by omega), q_wc]
    have : ms M c = 0 ∨ ms M c = 1 ∨ ms M c = 2 ∨ ms M c = 3 ∨ ms M c = 4 := by omega
    rcases this with e | e | e | e | e <;> rw [e] <;> simp [q_or, Int32.or_assoc]
theorem k4_div {k : Nat} (h : k < 24) : nI k / 4 = nI (k / 4) := pk_div (a := k) (d := 4) (by omega) (by omega) (by omega)
theorem k4_rem {k : Nat} (h : k < 24) : nI k - nI (k / 4) * 4 = nI (k % 4) := by
  rw [← k4_div h]; exact pk_rem (a := k) (d := 4) (by omega) (by omega) (by omega)
theorem k4_mul (k j : Nat) : 4 * nI k + nI j = nI (4 * k + j) := by rw [show (4 : Int32) = nI 4 from rfl, pk_mul, nI_add]
theorem id_M {S M : St} (h : R3 S M) : ∀ (j fu k : Nat), k + j = 24 → j < fu → l_X11_idle_4 fu M (q_or (q_wk M) k) (nI k) = some (255 &&& (q_or (q_wk M) 24 ^^^ (-1)), M) := by
  intro j
  induction j with
  | zero =>
    intro fu k hk hf
    obtain ⟨fu, rfl⟩ : ∃ q, fu = q + 1 := ⟨fu - 1, by omega⟩
    show f_X11_idle_4 (l_X11_idle_4 fu) M _ (nI k) = _
    unfold f_X11_idle_4
    rw [if_pos (show (24 : Int32) ≤ nI k from nI_le (a := 24) (by omega) (by omega))]
    have : k = 24 := by omega
    rw [this]
  | succ j ih =>
    intro fu k hk hf
    obtain ⟨fu, rfl⟩ : ∃ q, fu = q + 1 := ⟨fu - 1, by omega⟩
    have h24 : k < 24 := by omega
    show f_X11_idle_4 (l_X11_idle_4 fu) M _ (nI k) = _
    unfold f_X11_idle_4 f_X11_idle_49
    have e := ih fu (k + 1) (by omega) (by omega)
    rw [q_or] at e
    rw [if_neg (show ¬ (24 : Int32) ≤ nI k from nI_ge (a := k) (b := 24) (by omega) (by omega)), k4_div h24, k4_rem h24, (e_isN h (show k / 4 < 6 by omega) (show k % 4 < 4 by omega)).1, obd2_s]
    by_cases q : k % 4 < ms M (k / 4)
    · rw [if_pos q, if_neg one0, show 4 * nI k + 2 = nI (4 * k + 2) from k4_mul k 2, show 4 * nI k + 3 = nI (4 * k + 3) from k4_mul k 3, chk_T (ixo_nI (show 4 * k + 2 < 96 by omega) (by omega)), chk_T (ixo_nI (show 4 * k + 3 < 96 by omega) (by omega)), nI_clamp (by omega), nI_clamp (by omega), bnd_e, bnd_e, nI_1]
      rw [q_wk, if_pos q, q_w1, show 16 * (k / 4) + 4 * (k % 4) = 4 * k by omega] at e
      exact e
    · rw [if_neg q, if_pos rfl, bnd_e, bnd_e, nI_1]
      rw [q_wk, if_neg q] at e
      exact e
theorem st_idle : PS_idle RI := by
  intro S M h
  have hR := h
  obtain ⟨-, -, h3, -⟩ := h
  have e1 : f_X4_wanted S = some (q_or (q_wc M) 6, S) := wa_X h3 6 FU 0 rfl (by rw [FU_eq]; omega)
  have e2 : f_X11_idle M = some (255 &&& (q_or (q_wk M) 24 ^^^ (-1)), M) := id_M h3 24 FU 0 rfl (by rw [FU_eq]; omega)
  unfold f_X10_idle
  rw [e1, e2, obd2_s, show (24 : Nat) = 4 * 6 from rfl, wk_wc h3 6 (by omega)]
  exact ⟨_, _, _, rfl, rfl, hR⟩
