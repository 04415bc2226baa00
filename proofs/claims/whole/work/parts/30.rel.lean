-- ===== 30: PURE from here: the relation of the two states, and words for numbers
theorem obd2_s {α β : Type} (r : α) (S : St) (f : α → St → Option β) : obd2 (some (r, S)) f = f r S := rfl
theorem obd_S {β : Type} {α : Type} (a : α) (f : α → Option β) : obd (some a) f = f a := rfl
theorem bnd_e {α β : Type} (x : α) (f : α → β) : bnd x f = f x := rfl
theorem oel_N {α β : Type} (a : β) (f : α → β) : oel (none : Option α) a f = a := rfl
theorem oel_S {α β : Type} (c : α) (a : β) (f : α → β) : oel (some c) a f = f c := rfl
theorem chk_T {β : Type} {c : Prop} [Decidable c] (h : c) (x : Option β) : chk c x = x := if_pos h
def nv (x : Int32) : Nat := x.toNatClampNeg
/-- a number from 0 to hi -/
def rg (x : Int32) (hi : Nat) : Prop := x = nI (nv x) ∧ nv x ≤ hi
theorem nv_nI {k : Nat} (h : k < 2 ^ 31) : nv (nI k) = k := nI_clamp h
theorem rg_nI {k hi : Nat} (h : k ≤ hi) (hh : hi < 2 ^ 31) : rg (nI k) hi := by
  have e : nv (nI k) = k := nv_nI (by omega)
  exact ⟨by rw [e], by rw [e]; exact h⟩
def inb (x : Int32) (n : Nat) : Prop := 0 ≤ x.toInt ∧ x.toInt ≤ n
abbrev inB (x : Int32) (n : Nat) : Bool := decide (0 ≤ x.toInt) && decide (x.toInt ≤ n)
theorem inB_nI {x : Int32} {n : Nat} (h : inB x n = true) : ∃ k, k ≤ n ∧ k < 2 ^ 31 ∧ x = nI k := by
  simp only [inB, Bool.and_eq_true, decide_eq_true_eq] at h
  obtain ⟨k, hk, rfl⟩ := nI_of (x := x) (by rw [Int32.lt_iff_toInt_lt]; simpa using h.1)
  refine ⟨k, ?_, hk, rfl⟩
  have h2 := h.2
  rw [nI_toInt hk] at h2
  omega
theorem inB_of {n k : Nat} (h : k ≤ n) (hn : k < 2 ^ 31) : inB (nI k) n = true := by
  simp only [inB, Bool.and_eq_true, decide_eq_true_eq, nI_toInt hn]
  omega
theorem e_within (S : St) (x c : Int32) (n : Nat) (hc : c.toInt = n) : f_X10_within S x 0 c = some (if inB x n = true then 1 else 0, S) := by
  unfold f_X10_within
  by_cases h1 : x < 0
  · have h2 : ¬ inB x n = true := by
      intro h
      obtain ⟨k, -, hk, rfl⟩ := inB_nI h
      exact nI_pos hk h1
    rw [if_pos h1, if_neg h2]
  · rw [if_neg h1]
    obtain ⟨k, hk, rfl⟩ := nI_of h1
    by_cases h2 : c < nI k
    · rw [if_pos h2]
      rw [Int32.lt_iff_toInt_lt, hc, nI_toInt hk] at h2
      have h3 : ¬ inB (nI k) n = true := by
        simp only [inB, Bool.and_eq_true, decide_eq_true_eq, nI_toInt hk]
        omega
      rw [if_neg h3]
    · rw [if_neg h2]
      rw [Int32.lt_iff_toInt_lt, hc, nI_toInt hk] at h2
      rw [if_pos (inB_of (by omega) hk)]
theorem e_in (S : St) (x : Int32) (c : Int64) (n : Nat) (hc : c.toInt = n) : f_X11_in S x.toInt64 0 c = some (if inB x n = true then 1 else 0, S) := by
  unfold f_X11_in
  simp only [lg_cmp_lt, lg_cmp_gt, Int64.lt_iff_toInt_lt, Int32.toInt_toInt64, hc, Int64.toInt_zero, inB, Bool.and_eq_true, decide_eq_true_eq]
  by_cases h1 : x.toInt < 0
  · rw [if_pos h1, if_neg (by omega)]
  · rw [if_neg h1]
    by_cases h2 : (n : Int) < x.toInt
    · rw [if_pos h2, if_neg (by omega)]
    · rw [if_neg h2, if_pos (by omega)]
theorem ixo_nI {k N : Nat} (h : k < N) (hN : N < 2 ^ 31) : ixo (nI k) N := vp_in_nI h hN
theorem alen_le : ∀ q : Fin 10, alen q.val ≤ 200 := by decide
theorem e_at (S : St) (q : Fin 10) {k : Nat} (hk : k < alen q.val) : f_X10_at S q (nI k) = some (S.1 (11 + q.val) k, S) := by
  have hq := alen_le q
  unfold f_X10_at
  rw [if_neg (nI_pos (by omega)), if_neg (nI_ge hk (by omega)), chk_T (ixo_nI hk (by omega)), nI_clamp (by omega)]
theorem e_put (S : St) (q : Fin 10) {k : Nat} (v : Int32) (hk : k < alen q.val) : f_X10_put S q (nI k) v = some (setI S (11 + q.val) k v) := by
  have hq := alen_le q
  unfold f_X10_put
  rw [if_neg (nI_pos (by omega)), if_neg (nI_ge hk (by omega)), chk_T (ixo_nI hk (by omega)), nI_clamp (by omega)]
  rfl
def fb_sm' (f : Nat → Nat) : Nat → Nat
  | 0 => 0
  | n + 1 => fb_sm' f n + f n
/-- what the two states share of call c -/
def RC (S M : St) (c : Nat) : Prop :=
  (S.1 (21 + c) 3 = if (nv (M.1 0 11)).testBit c then 1 else 0) ∧ S.1 (21 + c) 1 = M.1 7 c ∧ rg (M.1 7 c) 4 ∧ ((nv (M.1 0 11)).testBit c = false → M.1 7 c = 0) ∧
  ((nv (M.1 0 11)).testBit c = true → (∀ k, k < 6 → S.1 (21 + c) (4 + k) = M.1 6 (6 * c + k)) ∧ rg (M.1 6 (6 * c)) 5 ∧ rg (M.1 6 (6 * c + 1)) 1439 ∧ rg (M.1 6 (6 * c + 2)) 1439 ∧ nv (M.1 6 (6 * c + 1)) ≤ nv (M.1 6 (6 * c + 2)) ∧ rg (M.1 6 (6 * c + 3)) 99 ∧ rg (M.1 6 (6 * c + 4)) 99 ∧ rg (M.1 6 (6 * c + 5)) 99) ∧
  (∀ s, s < nv (M.1 7 c) → (∀ k, k < 4 → S.1 (33 + (4 * c + s)) k = M.1 8 (16 * c + 4 * s + k)) ∧ rg (M.1 8 (16 * c + 4 * s)) 20 ∧ 1 ≤ nv (M.1 8 (16 * c + 4 * s)) ∧ rg (M.1 8 (16 * c + 4 * s + 1)) 200 ∧ rg (M.1 8 (16 * c + 4 * s + 2)) 255 ∧ rg (M.1 8 (16 * c + 4 * s + 3)) 255) ∧
  S.1 (21 + c) 2 = nI (fb_sm' (fun s => nv (M.1 8 (16 * c + 4 * s))) (nv (M.1 7 c)))
def R1 (S M : St) : Prop := S.1 1 1 = M.1 0 1 ∧ rg (M.1 0 1) 200 ∧ ∀ i, i < nv (M.1 0 1) → S.1 11 i = M.1 1 i ∧ rg (M.1 1 i) 255
def R2 (S M : St) : Prop := (∀ t, t < 8 → S.1 13 t = M.1 3 t ∧ rg (M.1 3 t) 99 ∧ 1 ≤ nv (M.1 3 t) ∧ S.1 14 t = M.1 4 t ∧ rg (M.1 4 t) 99) ∧ (S.1 3 4 = M.1 0 6 ∧ rg (M.1 0 6) 255) ∧ (S.1 3 5 = M.1 0 7 ∧ rg (M.1 0 7) 400) ∧ (S.1 3 6 = M.1 0 8 ∧ rg (M.1 0 8) 999) ∧ (S.1 3 7 = M.1 0 9 ∧ rg (M.1 0 9) 1439) ∧ ∀ k, k < 36 → S.1 15 k = M.1 5 k ∧ rg (M.1 5 k) 200
def R3 (S M : St) : Prop := rg (M.1 0 11) 63 ∧ ∀ c, c < 6 → RC S M c
def R4 (S M : St) : Prop := S.1 8 4 = M.1 0 16 ∧ rg (M.1 0 16) 16 ∧ ∀ k, k < nv (M.1 0 16) → S.1 18 k = M.1 9 (3 * k) ∧ S.1 19 k = M.1 9 (3 * k + 1) ∧ S.1 20 k = M.1 9 (3 * k + 2) ∧ rg (M.1 9 (3 * k)) 255 ∧ rg (M.1 9 (3 * k + 1)) 255 ∧ rg (M.1 9 (3 * k + 2)) 255
/-- THE RELATION that every call keeps -/
def RI (S M : St) : Prop := R1 S M ∧ R2 S M ∧ R3 S M ∧ R4 S M
theorem si_ne {S : St} {p j q : Nat} {v : Int32} (h : q ≠ p) : (setI S p j v).1 q = S.1 q := by simp [setI, h]
theorem zb_ite {c : Prop} [Decidable c] : zb (if c then (1 : Int32) else 0) := by by_cases h : c <;> simp [h, zb]
theorem R3_c {S M S' M' : St} (h : R3 S M) (h1 : ∀ c, c < 6 → S'.1 (21 + c) = S.1 (21 + c)) (h2 : ∀ q, q < 24 → S'.1 (33 + q) = S.1 (33 + q)) (h3 : M'.1 0 11 = M.1 0 11) (h6 : M'.1 6 = M.1 6) (h7 : M'.1 7 = M.1 7) (h8 : M'.1 8 = M.1 8) : R3 S' M' := by
  refine ⟨by rw [h3]; exact h.1, fun c hc => ?_⟩
  have hh := h.2 c hc
  unfold RC at hh ⊢
  rw [h3, h6, h7, h8, h1 c hc]
  obtain ⟨a1, a2, a3, a4, a5, a6, a7⟩ := hh
  refine ⟨a1, a2, a3, a4, a5, fun s hs => ?_, a7⟩
  rw [h2 (4 * c + s) (by have := a3.2; omega)]
  exact a6 s hs
theorem e_isThing (S : St) (x : Int32) : f_X11_isThing S x = some (if inB x 7 = true then 1 else 0, S) := by
  unfold f_X11_isThing
  rw [e_in S x 7 7 rfl, obd2_s, chk_T zb_ite]
theorem e_isPartX (S : St) (x : Int32) : f_X10_isPart S x = some (if inB x 1 = true then 1 else 0, S) := by
  unfold f_X10_isPart
  rw [e_within S x 1 1 rfl, obd2_s, chk_T zb_ite]
theorem e_isPartM (S : St) (x : Int32) : f_X11_isPart S x = some (if inB x 1 = true then 1 else 0, S) := by
  unfold f_X11_isPart
  rw [e_in S x 1 1 rfl, obd2_s, chk_T zb_ite]
theorem e_isBagX (S : St) (x : Int32) : f_X10_isBag S x = some (if inB x 255 = true then 1 else 0, S) := by
  unfold f_X10_isBag
  rw [e_within S x 255 255 rfl, obd2_s, chk_T zb_ite]
theorem e_isBagM (S : St) (x : Int32) : f_X11_isBag S x = some (if inB x 255 = true then 1 else 0, S) := by
  unfold f_X11_isBag
  rw [e_in S x 255 255 rfl, obd2_s, chk_T zb_ite]
theorem one0 : ¬ (1 : Int32) = 0 := by decide
