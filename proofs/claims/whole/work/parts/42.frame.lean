-- ===== 42: what a call may leave changed and keep the relation; write
/-- the places that R2, R3, R4 speak of -/
def FS (S S' : St) : Prop := ∀ p, (p = 3 ∨ p = 8 ∨ (13 ≤ p ∧ p ≤ 15) ∨ 18 ≤ p) → S'.1 p = S.1 p
def FM (M M' : St) : Prop := (∀ p, 3 ≤ p → p ≤ 9 → M'.1 p = M.1 p) ∧ ∀ j, 6 ≤ j → j ≤ 16 → M'.1 0 j = M.1 0 j
theorem FS.rf (S : St) : FS S S := fun _ _ => rfl
theorem FM.rf (M : St) : FM M M := ⟨fun _ _ _ => rfl, fun _ _ _ => rfl⟩
theorem FS.tr {A B C : St} (h : FS A B) (g : FS B C) : FS A C := fun p q => (g p q).trans (h p q)
theorem FM.tr {A B C : St} (h : FM A B) (g : FM B C) : FM A C := ⟨fun p q r => (g.1 p q r).trans (h.1 p q r), fun p q r => (g.2 p q r).trans (h.2 p q r)⟩
theorem R2_fr {S M S' M' : St} (hS : FS S S') (hM : FM M M') (h : R2 S M) : R2 S' M' := by
  unfold R2 at h ⊢
  rw [hS 13 (by omega), hS 14 (by omega), hS 15 (by omega), hS 3 (by omega), hM.1 3 (by omega) (by omega), hM.1 4 (by omega) (by omega), hM.1 5 (by omega) (by omega), hM.2 6 (by omega) (by omega), hM.2 7 (by omega) (by omega), hM.2 8 (by omega) (by omega), hM.2 9 (by omega) (by omega)]
  exact h
theorem R3_fr {S M S' M' : St} (hS : FS S S') (hM : FM M M') (h : R3 S M) : R3 S' M' :=
  R3_c h (fun c _ => hS _ (by omega)) (fun q _ => hS _ (by omega)) (hM.2 11 (by omega) (by omega)) (hM.1 6 (by omega) (by omega)) (hM.1 7 (by omega) (by omega)) (hM.1 8 (by omega) (by omega))
theorem R4_fr {S M S' M' : St} (hS : FS S S') (hM : FM M M') (h : R4 S M) : R4 S' M' := by
  unfold R4 at h ⊢
  rw [hS 8 (by omega), hS 18 (by omega), hS 19 (by omega), hS 20 (by omega), hM.1 9 (by omega) (by omega), hM.2 16 (by omega) (by omega)]
  exact h
/-- what the calls that look at bags and rows leave changed -/
def QX (S S' : St) : Prop := ∀ p, p ≠ 4 → p ≠ 5 → p ≠ 6 → p ≠ 7 → p ≠ 16 → p ≠ 17 → S'.1 p = S.1 p
def QM (M M' : St) : Prop := (∀ p, p ≠ 0 → p ≠ 10 → p ≠ 11 → M'.1 p = M.1 p) ∧ ∀ j, j ≤ 16 → M'.1 0 j = M.1 0 j
theorem QX.rf (S : St) : QX S S := fun _ _ _ _ _ _ _ => rfl
theorem QM.rf (M : St) : QM M M := ⟨fun _ _ _ _ => rfl, fun _ _ => rfl⟩
theorem QX.tr {A B C : St} (h : QX A B) (g : QX B C) : QX A C := fun p a b c d e f => (g p a b c d e f).trans (h p a b c d e f)
theorem QM.tr {A B C : St} (h : QM A B) (g : QM B C) : QM A C := ⟨fun p a b c => (g.1 p a b c).trans (h.1 p a b c), fun j a => (g.2 j a).trans (h.2 j a)⟩
theorem QX.fs {S S' : St} (h : QX S S') : FS S S' := fun p q => h p (by omega) (by omega) (by omega) (by omega) (by omega) (by omega)
theorem QM.fm {M M' : St} (h : QM M M') : FM M M' := ⟨fun p a b => h.1 p (by omega) (by omega) (by omega), fun j _ b => h.2 j b⟩
theorem RI_K {S M S' M' : St} (hS : QX S S') (hM : QM M M') (h : RI S M) : RI S' M' := by
  obtain ⟨h1, h2, h3, h4⟩ := h
  refine ⟨?_, R2_fr hS.fs hM.fm h2, R3_fr hS.fs hM.fm h3, R4_fr hS.fs hM.fm h4⟩
  unfold R1 at h1 ⊢
  rw [hS 1 (by omega) (by omega) (by omega) (by omega) (by omega) (by omega), hS 11 (by omega) (by omega) (by omega) (by omega) (by omega) (by omega), hM.1 1 (by omega) (by omega) (by omega), hM.2 1 (by omega)]
  exact h1
theorem QX_I {S : St} (p j : Nat) (v : Int32) (h : p = 4 ∨ p = 5 ∨ p = 6 ∨ p = 7 ∨ p = 16 ∨ p = 17) : QX S (setI S p j v) := fun q a b c d e f => si_ne (by omega)
theorem QX_L {S : St} (p j : Nat) (v : Int64) : QX S (setL S p j v) := fun _ _ _ _ _ _ _ => rfl
theorem QX_R {S : St} (i : Nat) (v : Option (Fin 6)) : QX S (setR S i v) := fun _ _ _ _ _ _ _ => rfl
theorem QM_L {S : St} (p j : Nat) (v : Int64) : QM S (setL S p j v) := ⟨fun _ _ _ _ => rfl, fun _ _ => rfl⟩
theorem QM_0 {S : St} (j : Nat) (v : Int32) (h : 16 < j) : QM S (setI S 0 j v) := ⟨fun q a _ _ => si_ne a, fun i hi => si_nj (by omega)⟩
theorem QM_I {S : St} (p j : Nat) (v : Int32) (h : p = 10 ∨ p = 11) : QM S (setI S p j v) := ⟨fun q _ a b => si_ne (by omega), fun i _ => congrFun (si_ne (by omega)) i⟩
theorem sl_1 {S : St} {p j : Nat} {v : Int64} : (setL S p j v).1 = S.1 := rfl
theorem sl_eq {S : St} {p j : Nat} {v : Int64} : (setL S p j v).2.1 p j = v := by
  show (if p = p then vp_updL (S.2.1 p) j v else S.2.1 p) j = v
  rw [if_pos rfl]; exact pk_uLs
theorem sl_nj {S : St} {p j i : Nat} {v : Int64} (h : i ≠ j) : (setL S p j v).2.1 p i = S.2.1 p i := by
  show (if p = p then vp_updL (S.2.1 p) j v else S.2.1 p) i = _
  rw [if_pos rfl]; exact pk_uLn h
theorem sl_ne {S : St} {p j q : Nat} {v : Int64} (h : q ≠ p) : (setL S p j v).2.1 q = S.2.1 q := by simp [setL, h]
theorem si_2 {S : St} {p j : Nat} {v : Int32} : (setI S p j v).2 = S.2 := rfl
-- write
theorem wr_l (x : Int64) (n L : Nat) (hn : L + n ≤ 200) {S0 M0 : St} : ∀ (j fu i : Nat) (S M : St), i + j = n → j < fu → S.1 1 1 = nI L → M.1 0 1 = nI (L + i) → (∀ t, t < L + i → S.1 11 t = M.1 1 t ∧ rg (M.1 1 t) 255) → FS S0 S → FM M0 M →
    ∃ S' M', l_X8_add_31 fu S x (nI n) (nI i) = some (nI (L + n), S') ∧ l_X11_write_33 fu M x (nI n) (nI i) = some (nI (L + n), M') ∧ FS S0 S' ∧ FM M0 M' ∧ R1 S' M' := by
  intro j
  induction j with
  | zero =>
    intro fu i S M hk hf h1 h2 ht hS hM
    obtain ⟨fu, rfl⟩ : ∃ q, fu = q + 1 := ⟨fu - 1, by omega⟩
    have hi : i = n := by omega
    subst hi
    show ∃ S' M', f_X8_add_31 (l_X8_add_31 fu) S x (nI i) (nI i) = _ ∧ f_X11_write_33 (l_X11_write_33 fu) M x (nI i) (nI i) = _ ∧ _
    unfold f_X8_add_31 f_X11_write_33
    rw [if_pos (Int32.le_refl _), if_pos (Int32.le_refl _), bnd_e, si_eq, h1, h2, nI_add]
    refine ⟨_, M, rfl, rfl, fun p q => (si_ne (by omega)).trans (hS p q), hM, ?_, ?_, ?_⟩
    · rw [si_eq, h2]
    · rw [h2]; exact rg_nI (by omega) (by omega)
    · rw [h2, nv_nI (by omega)]
      intro t q
      rw [si_ne (by omega)]
      exact ht t q
  | succ j ih =>
    intro fu i S M hk hf h1 h2 ht hS hM
    obtain ⟨fu, rfl⟩ : ∃ q, fu = q + 1 := ⟨fu - 1, by omega⟩
    show ∃ S' M', f_X8_add_31 (l_X8_add_31 fu) S x (nI n) (nI i) = _ ∧ f_X11_write_33 (l_X11_write_33 fu) M x (nI n) (nI i) = _ ∧ _
    unfold f_X8_add_31 f_X11_write_33
    have e : ¬ nI n ≤ nI i := nI_ge (by omega) (by omega)
    have hp : ∀ v, f_X10_put S 0 (nI (L + i)) v = some (setI S 11 (L + i) v) := fun v => e_put S 0 v (by show L + i < 200; omega)
    rw [if_neg e, if_neg e, h1, nI_add, hp, obd_S, h2, chk_T (ixo_nI (show L + i < 200 by omega) (by omega)), bnd_e, bnd_e, bnd_e, bnd_e, nI_1, nI_clamp (by omega), show (setI M 1 (L + i) (((x >>> (((8 * nI i) : Int32).toInt64 &&& 63)) &&& (255)).toInt32)).1 0 1 = nI (L + i) from (congrFun (si_ne (by omega)) 1).trans h2, nI_1]
    generalize hw : ((x >>> (((8 * nI i) : Int32).toInt64 &&& 63)) &&& (255)).toInt32 = w
    have hb : rg w 255 := by
      have : ∃ k : Nat, k ≤ 255 ∧ w = nI k := by
        rw [← hw]
        have e : (x >>> (((8 * nI i) : Int32).toInt64 &&& 63)) &&& 255 = lN ((x >>> (((8 * nI i) : Int32).toInt64 &&& 63)).toBitVec.toNat % 256) := by
          apply Int64.toBitVec_inj.mp
          apply BitVec.eq_of_toNat_eq
          rw [show (lN ((x >>> (((8 * nI i) : Int32).toInt64 &&& 63)).toBitVec.toNat % 256)).toBitVec.toNat = (x >>> (((8 * nI i) : Int32).toInt64 &&& 63)).toBitVec.toNat % 256 from Nat.mod_eq_of_lt (by omega)]
          show ((x >>> (((8 * nI i) : Int32).toInt64 &&& 63)).toBitVec &&& 255#64).toNat = _
          rw [BitVec.toNat_and]
          show ((x >>> (((8 * nI i) : Int32).toInt64 &&& 63)).toBitVec.toNat &&& (2 ^ 8 - 1)) = _
          rw [Nat.and_two_pow_sub_one_eq_mod]
        exact ⟨(x >>> (((8 * nI i) : Int32).toInt64 &&& 63)).toBitVec.toNat % 256, by omega, by rw [e, lN_i]⟩
      obtain ⟨k, hk, rfl⟩ := this
      exact rg_nI hk (by omega)
    refine ih fu (i + 1) _ _ (by omega) (by omega) ((congrFun (si_ne (by omega)) 1).trans h1) si_eq ?_ (fun p q => (si_ne (by omega)).trans (hS p q)) ⟨fun p a b => (si_ne (by omega)).trans ((si_ne (by omega)).trans (hM.1 p a b)), fun q a b => (si_nj (by omega)).trans ((congrFun (si_ne (by omega)) q).trans (hM.2 q a b))⟩
    intro t q
    rw [si_ne (p := 0) (q := 1) (by omega)]
    by_cases z : t = L + i
    · rw [z, si_eq, si_eq]; exact ⟨rfl, hb⟩
    · rw [si_nj z, si_nj z]; exact ht t (by omega)
theorem st_write : PS_write RI := by
  intro S M h x y
  have hR := h
  obtain ⟨⟨t1, t2, t3⟩, h2, h3, h4⟩ := h
  unfold f_X10_write f_X11_write f_X8_add
  rw [e_within1 S y 8 8 rfl, e_in1 M y 8 8 rfl, obd2_s, obd2_s]
  by_cases hb : inB1 y 8 = true
  · obtain ⟨k, k1, k8, -, rfl⟩ := inB1_nI hb
    have hL : nv (M.1 0 1) ≤ 200 := t2.2
    generalize hl : nv (M.1 0 1) = L at *
    have eM : M.1 0 1 = nI L := by rw [← hl]; exact t2.1
    have eS : S.1 1 1 = nI L := t1.trans eM
    rw [if_pos hb, if_neg one0, if_neg one0, eM, eS, nI_add]
    by_cases q : L + k ≤ 200
    · have e : nI (L + k) ≤ 200 := nI_le (b := 200) q (by omega)
      obtain ⟨S', M', e1, e2, f1, f2, r1⟩ := wr_l x k L q (S0 := S) (M0 := M) k FU 0 S M (Nat.zero_add _) (by rw [FU_eq]; omega) eS eM t3 (FS.rf S) (FM.rf M)
      have e1 : l_X8_add_31 FU S x (nI k) 0 = _ := e1
      have e2 : l_X11_write_33 FU M x (nI k) 0 = _ := e2
      rw [if_pos e, if_pos e, e1, e2, obd2_s]
      exact ⟨_, _, _, rfl, rfl, r1, R2_fr f1 f2 h2, R3_fr f1 f2 h3, R4_fr f1 f2 h4⟩
    · have e : ¬ nI (L + k) ≤ 200 := nI_ge (b := L + k) (a := 200) (by omega) (by omega)
      rw [if_neg e, if_neg e, obd2_s]; exact ⟨_, _, _, rfl, rfl, hR⟩
  · rw [if_neg hb, if_pos rfl, if_pos rfl, obd2_s]; exact ⟨_, _, _, rfl, rfl, hR⟩
