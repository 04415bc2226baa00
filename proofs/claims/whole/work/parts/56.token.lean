-- ===== 56: the text, read token by token
def k58 (c : Nat) : Nat := if c = 32 then 3 else 0
def k44 (c : Nat) : Nat := if c < 48 then k58 c else if 57 < c then k58 c else 2
/-- the kind of a byte: 1 a letter, 2 a digit, 3 a blank, 0 another -/
def kd (c : Nat) : Nat := if c < 97 then k44 c else if 122 < c then k44 c else 1
/-- what reading leaves as it is -/
def RS (S S' : St) : Prop := ∀ p, p ≠ 2 → p ≠ 12 → S'.1 p = S.1 p
def RM (M M' : St) : Prop := (∀ p, p ≠ 0 → p ≠ 2 → M'.1 p = M.1 p) ∧ ∀ j, j ≠ 3 → j ≠ 17 → j ≠ 18 → j ≠ 19 → M'.1 0 j = M.1 0 j
theorem RS.rf (S : St) : RS S S := fun _ _ _ => rfl
theorem RM.rf (M : St) : RM M M := ⟨fun _ _ _ => rfl, fun _ _ _ _ _ => rfl⟩
theorem RS.tr {A B C : St} (h : RS A B) (g : RS B C) : RS A C := fun p a b => (g p a b).trans (h p a b)
theorem RM.tr {A B C : St} (h : RM A B) (g : RM B C) : RM A C := ⟨fun p a b => (g.1 p a b).trans (h.1 p a b), fun j a b c d => (g.2 j a b c d).trans (h.2 j a b c d)⟩
theorem RS_I (S : St) (p j : Nat) (v : Int32) (h : p = 2 ∨ p = 12) : RS S (setI S p j v) := fun q a b => si_ne (by omega)
theorem RM_0 (M : St) (j : Nat) (v : Int32) (h : j = 3 ∨ j = 17 ∨ j = 18 ∨ j = 19) : RM M (setI M 0 j v) := ⟨fun q a _ => si_ne a, fun i _ _ _ _ => si_nj (by omega)⟩
theorem RM_2 (M : St) (j : Nat) (v : Int32) : RM M (setI M 2 j v) := ⟨fun q _ b => si_ne b, fun i _ _ _ _ => congrFun (si_ne (by omega)) i⟩
/-- the text of both -/
def Tx (S M : St) (N : Nat) (tx : Nat → Nat) : Prop := N ≤ 200 ∧ S.1 1 1 = nI N ∧ M.1 0 1 = nI N ∧ ∀ i, i < N → S.1 11 i = nI (tx i) ∧ M.1 1 i = nI (tx i) ∧ tx i ≤ 255
theorem Tx.fr {S M S' M' : St} {N : Nat} {tx : Nat → Nat} (h : Tx S M N tx) (hS : RS S S') (hM : RM M M') : Tx S' M' N tx := by
  unfold Tx
  rw [hS 1 (by omega) (by omega), hS 11 (by omega) (by omega), hM.1 1 (by omega) (by omega), hM.2 1 (by omega) (by omega) (by omega) (by omega)]
  exact h
section TOK
variable {S M : St} {N : Nat} {tx : Nat → Nat}
theorem kd_cls (S : St) {c : Nat} (hc : c ≤ 255) : (if nI c < 97 then f_X8_kindAt_44 S (nI c) else if 122 < nI c then f_X8_kindAt_44 S (nI c) else some (1, S)) = some (nI (kd c), S) := by
  have h58 : f_X8_kindAt_58 S (nI c) = some (nI (k58 c), S) := by
    unfold f_X8_kindAt_58 k58
    by_cases q : c = 32
    · rw [if_pos (show nI c = 32 by rw [q]; rfl), if_pos q]; rfl
    · rw [if_neg (show ¬ nI c = 32 from fun z => q ((nI_eq (a := c) (b := 32) (by omega) (by omega)).mp z)), if_neg q]; rfl
  have h44 : f_X8_kindAt_44 S (nI c) = some (nI (k44 c), S) := by
    unfold f_X8_kindAt_44 k44
    by_cases q : c < 48
    · rw [if_pos (show nI c < 48 from nI_lt (b := 48) q (by omega)), if_pos q, h58]
    · rw [if_neg (show ¬ nI c < 48 from nI_nlt (b := 48) (by omega) (by omega)), if_neg q]
      by_cases q2 : 57 < c
      · rw [if_pos (show 57 < nI c from nI_lt (a := 57) q2 (by omega)), if_pos q2, h58]
      · rw [if_neg (show ¬ 57 < nI c from nI_nlt (a := 57) (by omega) (by omega)), if_neg q2]; rfl
  unfold kd
  by_cases q : c < 97
  · rw [if_pos (show nI c < 97 from nI_lt (b := 97) q (by omega)), if_pos q, h44]
  · rw [if_neg (show ¬ nI c < 97 from nI_nlt (b := 97) (by omega) (by omega)), if_neg q]
    by_cases q2 : 122 < c
    · rw [if_pos (show 122 < nI c from nI_lt (a := 122) q2 (by omega)), if_pos q2, h44]
    · rw [if_neg (show ¬ 122 < nI c from nI_nlt (a := 122) (by omega) (by omega)), if_neg q2]; rfl
theorem kd_le (c : Nat) : kd c ≤ 3 := by
  unfold kd k44 k58
  repeat (first | omega | split)
theorem e_kind (h : Tx S M N tx) {i : Nat} (hi : i ≤ 200) : f_X8_kindAt S (nI i) = some (nI (if i < N then kd (tx i) else 0), S) := by
  obtain ⟨hN, h1, -, ht⟩ := h
  unfold f_X8_kindAt
  rw [if_neg (nI_pos (by omega)), h1]
  by_cases q : i < N
  · obtain ⟨a, -, b⟩ := ht i q
    rw [if_neg (nI_ge q (by omega)), if_pos (nI_lt (show i < 200 by omega) (by omega)), chk_T (ixo_nI (show i < 200 by omega) (by omega)), nI_clamp (by omega), a, bnd_e, if_pos q]
    exact kd_cls S b
  · rw [if_pos (nI_le (by omega) (by omega)), if_neg q]; rfl
/-- what the reference sees -/
def km (c : Nat) : Nat := if kd c = 3 then 0 else kd c
theorem e_kM (M : St) {c : Nat} (hc : c ≤ 255) : f_X11_kind M (nI c) = some (nI (km c), M) := by
  have : ∀ c : Fin 256, (if nI c.val < 97 then (if nI c.val < 48 then (0 : Int32) else if 57 < nI c.val then 0 else 2) else if 122 < nI c.val then (if nI c.val < 48 then (0 : Int32) else if 57 < nI c.val then 0 else 2) else 1) = nI (km c.val) := by decide +kernel
  have h := this ⟨c, by omega⟩
  unfold f_X11_kind f_X11_kind_16
  rw [← h]
  by_cases q : nI c < 97
  · rw [if_pos q, if_pos q]
    by_cases q2 : nI c < 48
    · rw [if_pos q2, if_pos q2]
    · rw [if_neg q2, if_neg q2]
      by_cases q3 : 57 < nI c
      · rw [if_pos q3, if_pos q3]
      · rw [if_neg q3, if_neg q3]
  · rw [if_neg q, if_neg q]
    by_cases q1 : 122 < nI c
    · rw [if_pos q1, if_pos q1]
      by_cases q2 : nI c < 48
      · rw [if_pos q2, if_pos q2]
      · rw [if_neg q2, if_neg q2]
        by_cases q3 : 57 < nI c
        · rw [if_pos q3, if_pos q3]
        · rw [if_neg q3, if_neg q3]
    · rw [if_neg q1, if_neg q1]
theorem kd32 : ∀ c : Fin 256, (kd c.val = 3 ↔ c.val = 32) := by decide +kernel
/-- only the token's own cells -/
def SF (S S' : St) : Prop := (∀ p, p ≠ 2 → S'.1 p = S.1 p) ∧ ∀ j, j ≠ 4 → j ≠ 5 → S'.1 2 j = S.1 2 j
def MF (M M' : St) : Prop := (∀ p, p ≠ 0 → M'.1 p = M.1 p) ∧ ∀ j, j ≠ 17 → j ≠ 18 → j ≠ 19 → M'.1 0 j = M.1 0 j
theorem SF.tr {A B C : St} (h : SF A B) (g : SF B C) : SF A C := ⟨fun p a => (g.1 p a).trans (h.1 p a), fun j a b => (g.2 j a b).trans (h.2 j a b)⟩
theorem MF.tr {A B C : St} (h : MF A B) (g : MF B C) : MF A C := ⟨fun p a => (g.1 p a).trans (h.1 p a), fun j a b c => (g.2 j a b c).trans (h.2 j a b c)⟩
theorem SF.rs {S S' : St} (h : SF S S') : RS S S' := fun p a _ => h.1 p a
theorem MF.rm {M M' : St} (h : MF M M') : RM M M' := ⟨fun p a _ => h.1 p a, fun j _ b c d => h.2 j b c d⟩
theorem SF_I (S : St) (j : Nat) (v : Int32) (h : j = 4 ∨ j = 5) : SF S (setI S 2 j v) := ⟨fun _ q => si_ne q, fun _ _ _ => si_nj (by omega)⟩
theorem MF_I (M : St) (j : Nat) (v : Int32) (h : j = 17 ∨ j = 18 ∨ j = 19) : MF M (setI M 0 j v) := ⟨fun _ q => si_ne q, fun _ _ _ _ => si_nj (by omega)⟩
theorem SF.rf (S : St) : SF S S := ⟨fun _ _ => rfl, fun _ _ _ => rfl⟩
theorem MF.rf (M : St) : MF M M := ⟨fun _ _ => rfl, fun _ _ _ _ => rfl⟩
/-- blanks are passed over -/
theorem skip_l {S0 M0 : St} (h : Tx S0 M0 N tx) : ∀ (j fu fv p : Nat) (S M : St), p + j = N → j < fu → j < fv → SF S0 S → MF M0 M → S.1 2 4 = nI p → M.1 0 17 = nI p →
    ∃ q S1 M1, p ≤ q ∧ q ≤ N ∧ (q < N → kd (tx q) ≠ 3) ∧ l_X5_step_16 fu S (nI N) = f_X5_step_52 S1 (nI N) ∧ l_X11_token_0 fv M = f_X11_token_38 M1 ∧ SF S0 S1 ∧ MF M0 M1 ∧ S1.1 2 4 = nI q ∧ M1.1 0 17 = nI q := by
  have hN := h.1
  intro j
  induction j with
  | zero =>
    intro fu fv p S M hk hf hg hS hM e4 e17
    obtain ⟨fu, rfl⟩ : ∃ q, fu = q + 1 := ⟨fu - 1, by omega⟩
    obtain ⟨fv, rfl⟩ : ∃ q, fv = q + 1 := ⟨fv - 1, by omega⟩
    have t := h.fr hS.rs hM.rm
    refine ⟨p, S, M, Nat.le_refl _, by omega, fun l => by omega, ?_, ?_, hS, hM, e4, e17⟩
    · show f_X5_step_16 (l_X5_step_16 fu) S (nI N) = _
      unfold f_X5_step_16
      rw [e4, if_pos (nI_le (by omega) (by omega))]
    · show f_X11_token_0 (l_X11_token_0 fv) M = _
      unfold f_X11_token_0
      rw [e17, t.2.2.1, if_pos (nI_le (by omega) (by omega))]
  | succ j ih =>
    intro fu fv p S M hk hf hg hS hM e4 e17
    obtain ⟨fu, rfl⟩ : ∃ q, fu = q + 1 := ⟨fu - 1, by omega⟩
    obtain ⟨fv, rfl⟩ : ∃ q, fv = q + 1 := ⟨fv - 1, by omega⟩
    have t := h.fr hS.rs hM.rm
    obtain ⟨-, tm, tb⟩ := t.2.2.2 p (by omega)
    have k32 : kd (tx p) = 3 ↔ tx p = 32 := kd32 ⟨tx p, by omega⟩
    have eS : l_X5_step_16 (fu + 1) S (nI N) = if kd (tx p) = 3 then l_X5_step_16 fu (setI S 2 4 (nI (p + 1))) (nI N) else f_X5_step_52 S (nI N) := by
      show f_X5_step_16 (l_X5_step_16 fu) S (nI N) = _
      unfold f_X5_step_16
      have hl := kd_le (tx p)
      rw [e4, if_neg (nI_ge (by omega) (by omega)), e_kind t (by omega), obd2_s, if_pos (show p < N by omega), e4, nI_1, bnd_e]
      by_cases q : kd (tx p) = 3
      · rw [if_pos (show nI (kd (tx p)) = 3 by rw [q]; rfl), if_pos q]
      · rw [if_neg (show ¬ nI (kd (tx p)) = 3 from fun z => q ((nI_eq (a := kd (tx p)) (b := 3) (by omega) (by omega)).mp z)), if_neg q]
    have eM : l_X11_token_0 (fv + 1) M = if kd (tx p) = 3 then l_X11_token_0 fv (setI M 0 17 (nI (p + 1))) else f_X11_token_38 M := by
      show f_X11_token_0 (l_X11_token_0 fv) M = _
      unfold f_X11_token_0
      rw [e17, t.2.2.1, if_neg (nI_ge (by omega) (by omega)), chk_T (ixo_nI (show p < 200 by omega) (by omega)), nI_clamp (by omega), tm, nI_1, bnd_e]
      by_cases q : kd (tx p) = 3
      · rw [if_pos (show nI (tx p) = 32 by rw [show tx p = 32 from k32.mp q]; rfl), if_pos q]
      · rw [if_neg (show ¬ nI (tx p) = 32 from fun z => q (k32.mpr ((nI_eq (a := tx p) (b := 32) (by omega) (by omega)).mp z))), if_neg q]
    rw [eS, eM]
    by_cases q : kd (tx p) = 3
    · rw [if_pos q, if_pos q]
      obtain ⟨q', S1, M1, a, b⟩ := ih fu fv (p + 1) _ _ (by omega) (by omega) (by omega) (hS.tr (SF_I S 4 _ (by omega))) (hM.tr (MF_I M 17 _ (by omega))) si_eq si_eq
      exact ⟨q', S1, M1, by omega, b⟩
    · rw [if_neg q, if_neg q]
      exact ⟨p, S, M, Nat.le_refl _, by omega, fun _ => q, rfl, rfl, hS, hM, e4, e17⟩
/-- a row of letters, or of digits -/
theorem ext_l {S0 M0 : St} (h : Tx S0 M0 N tx) {q : Nat} (hq : q < N) (hk3 : kd (tx q) ≠ 3) (hk0 : kd (tx q) ≠ 0) : ∀ (j fu fv e : Nat) (S M : St), e + j = N → j < fu → j < fv → SF S0 S → MF M0 M → S.1 2 4 = nI q → S.1 2 5 = nI e → M.1 0 18 = nI q → M.1 0 17 = nI e →
    ∃ e' S1 M1, e ≤ e' ∧ e' ≤ N ∧ l_X5_step_83 fu S (nI N) (nI (kd (tx q))) = some S1 ∧ l_X11_token_71 fv M = some M1 ∧ SF S0 S1 ∧ MF M0 M1 ∧ S1.1 2 4 = nI q ∧ S1.1 2 5 = nI e' ∧ M1.1 0 17 = nI e' ∧ M1.1 0 18 = nI q ∧ M1.1 0 19 = nI e' := by
  have hN := h.1
  have hkl := kd_le (tx q)
  have hend : ∀ (e : Nat) (M : St), MF M0 M → M.1 0 18 = nI q → M.1 0 17 = nI e → f_X11_token_137 M = some (setI M 0 19 (nI e)) ∧ MF M0 (setI M 0 19 (nI e)) ∧ (setI M 0 19 (nI e)).1 0 17 = nI e ∧ (setI M 0 19 (nI e)).1 0 18 = nI q ∧ (setI M 0 19 (nI e)).1 0 19 = nI e := by
    intro e M hM e18 e17
    refine ⟨?_, hM.tr (MF_I M 19 _ (by omega)), (si_nj (by omega)).trans e17, (si_nj (by omega)).trans e18, si_eq⟩
    unfold f_X11_token_137
    rw [e17, bnd_e]
  intro j
  induction j with
  | zero =>
    intro fu fv e S M hk hf hg hS hM e4 e5 e18 e17
    obtain ⟨fu, rfl⟩ : ∃ q, fu = q + 1 := ⟨fu - 1, by omega⟩
    obtain ⟨fv, rfl⟩ : ∃ q, fv = q + 1 := ⟨fv - 1, by omega⟩
    have t := h.fr hS.rs hM.rm
    obtain ⟨z1, z2, z3⟩ := hend e M hM e18 e17
    refine ⟨e, S, _, Nat.le_refl _, by omega, ?_, ?_, hS, z2, e4, e5, z3⟩
    · show f_X5_step_83 (l_X5_step_83 fu) S (nI N) _ = _
      unfold f_X5_step_83
      rw [e5, if_pos (nI_le (by omega) (by omega))]
    · show f_X11_token_71 (l_X11_token_71 fv) M = _
      unfold f_X11_token_71
      rw [e17, t.2.2.1, if_pos (nI_le (by omega) (by omega)), z1]
  | succ j ih =>
    intro fu fv e S M hk hf hg hS hM e4 e5 e18 e17
    obtain ⟨fu, rfl⟩ : ∃ q, fu = q + 1 := ⟨fu - 1, by omega⟩
    obtain ⟨fv, rfl⟩ : ∃ q, fv = q + 1 := ⟨fv - 1, by omega⟩
    have t := h.fr hS.rs hM.rm
    obtain ⟨-, tm, tb⟩ := t.2.2.2 e (by omega)
    obtain ⟨-, tmq, tbq⟩ := t.2.2.2 q hq
    have hl := kd_le (tx e)
    have eS : l_X5_step_83 (fu + 1) S (nI N) (nI (kd (tx q))) = if kd (tx e) = kd (tx q) then l_X5_step_83 fu (setI S 2 5 (nI (e + 1))) (nI N) (nI (kd (tx q))) else some S := by
      show f_X5_step_83 (l_X5_step_83 fu) S (nI N) _ = _
      unfold f_X5_step_83
      rw [e5, if_neg (nI_ge (by omega) (by omega)), e_kind t (by omega), obd2_s, if_pos (show e < N by omega), e5, nI_1, bnd_e]
      by_cases z : kd (tx e) = kd (tx q)
      · rw [if_pos (congrArg nI z), if_pos z]
      · rw [if_neg (fun y => z ((nI_eq (by omega) (by omega)).mp y)), if_neg z]
    have kmq : km (tx q) = kd (tx q) := if_neg hk3
    have kme : (km (tx q) = km (tx e)) ↔ kd (tx e) = kd (tx q) := by
      rw [kmq]
      unfold km
      split <;> omega
    have kml : km (tx e) ≤ 3 := by unfold km; split <;> omega
    have eM : l_X11_token_71 (fv + 1) M = if kd (tx e) = kd (tx q) then l_X11_token_71 fv (setI M 0 17 (nI (e + 1))) else f_X11_token_137 M := by
      show f_X11_token_71 (l_X11_token_71 fv) M = _
      unfold f_X11_token_71
      rw [e17, t.2.2.1, if_neg (nI_ge (by omega) (by omega)), e18, chk_T (ixo_nI (show q < 200 by omega) (by omega)), nI_clamp (show q < 2 ^ 31 by omega), tmq, e_kM M tbq, obd2_s, if_neg (show ¬ nI (km (tx q)) ≤ 0 from nI_nle (by omega) (by omega)), e17, chk_T (ixo_nI (show e < 200 by omega) (by omega)), nI_clamp (show e < 2 ^ 31 by omega), tm, e_kM M tb, obd2_s, e18, chk_T (ixo_nI (show q < 200 by omega) (by omega)), nI_clamp (show q < 2 ^ 31 by omega), tmq, e_kM M tbq, obd2_s, e17, nI_1, bnd_e]
      by_cases z : kd (tx e) = kd (tx q)
      · rw [if_pos (congrArg nI (kme.mpr z).symm), if_pos z]
      · rw [if_neg (fun y => z (kme.mp ((nI_eq (by omega) (by omega)).mp y).symm)), if_neg z]
    rw [eS, eM]
    by_cases z : kd (tx e) = kd (tx q)
    · rw [if_pos z, if_pos z]
      obtain ⟨e', S1, M1, a, b⟩ := ih fu fv (e + 1) _ _ (by omega) (by omega) (by omega) (hS.tr (SF_I S 5 _ (by omega))) (hM.tr (MF_I M 17 _ (by omega))) ((si_nj (by omega)).trans e4) si_eq ((si_nj (by omega)).trans e18) si_eq
      exact ⟨e', S1, M1, by omega, b⟩
    · rw [if_neg z, if_neg z]
      obtain ⟨z1, z2, z3⟩ := hend e M hM e18 e17
      exact ⟨e, S, _, Nat.le_refl _, by omega, rfl, z1, hS, z2, e4, e5, z3⟩
/-- the token at hand is the same -/
def Tq (S M : St) (N q e : Nat) : Prop := S.1 2 4 = nI q ∧ S.1 2 5 = nI e ∧ M.1 0 17 = nI e ∧ M.1 0 18 = nI q ∧ M.1 0 19 = nI e ∧ q ≤ e ∧ e ≤ N ∧ (q < N → q < e)
/-- to the next token -/
theorem e_step (h : Tx S M N tx) {p : Nat} (hp : p ≤ N) (e5 : S.1 2 5 = nI p) (e17 : M.1 0 17 = nI p) : ∃ q e S' M', f_X5_step S = some S' ∧ f_X11_token M = some M' ∧ SF S S' ∧ MF M M' ∧ Tq S' M' N q e := by
  have hN := h.1
  obtain ⟨q, S1, M1, a1, a2, a3, b1, b2, b3, b4, b5, b6⟩ := skip_l h (N - p) FU FU p (setI S 2 4 (nI p)) M (by omega) (by rw [FU_eq]; omega) (by rw [FU_eq]; omega) (SF_I S 4 _ (by omega)) (MF.rf M) si_eq e17
  have t1 := h.fr b3.rs b4.rm
  have eS : f_X5_step S = f_X5_step_52 S1 (nI N) := by
    unfold f_X5_step f_X8_length
    rw [obd2_s, h.2.1, e5, bnd_e]
    exact b1
  have eM : f_X11_token M = f_X11_token_38 M1 := b2
  rw [eS, eM]
  unfold f_X5_step_52 f_X11_token_38 f_X11_token_67
  by_cases l : q < N
  · obtain ⟨-, tm, tb⟩ := t1.2.2.2 q l
    have u5 : (if nI N < nI q + 1 then nI N else nI q + 1) = nI (q + 1) := by
      rw [nI_1, if_neg (nI_nlt (by omega) (by omega))]
    have s2 : SF S (setI S1 2 5 (nI (q + 1))) := b3.tr (SF_I S1 5 _ (by omega))
    have m2 : MF M (setI (setI M1 0 18 (nI q)) 0 17 (nI (q + 1))) := b4.tr ((MF_I M1 18 _ (by omega)).tr (MF_I _ 17 _ (by omega)))
    have c4 : (setI S1 2 5 (nI (q + 1))).1 2 4 = nI q := (si_nj (by omega)).trans b5
    have c18 : (setI (setI M1 0 18 (nI q)) 0 17 (nI (q + 1))).1 0 18 = nI q := (si_nj (by omega)).trans si_eq
    have m17 : (setI M1 0 18 (nI q)).1 0 17 = nI q := (si_nj (by omega)).trans b6
    have m1' : (setI M1 0 18 (nI q)).1 0 1 = nI N := (si_nj (by omega)).trans t1.2.2.1
    have kl := kd_le (tx q)
    rw [b5, u5, bnd_e, bnd_e, c4, e_kind (h.fr s2.rs b4.rm) (by omega), obd2_s, if_pos l, b6, bnd_e, m17, m1', if_neg (nI_ge l (by omega)), nI_1, bnd_e]
    by_cases k0 : kd (tx q) = 0
    · rw [if_pos (show nI (kd (tx q)) = 0 by rw [k0]; rfl)]
      refine ⟨q, q + 1, _, setI (setI (setI M1 0 18 (nI q)) 0 17 (nI (q + 1))) 0 19 (nI (q + 1)), rfl, ?_, s2, m2.tr (MF_I _ 19 _ (by omega)), c4, si_eq, ?_, ?_, si_eq, by omega, by omega, fun _ => by omega⟩
      · rw [show l_X11_token_71 FU = l_X11_token_71 (4999 + 1) from rfl]
        show f_X11_token_71 (l_X11_token_71 4999) _ = _
        have tt := h.fr s2.rs m2.rm
        obtain ⟨-, tm2, -⟩ := tt.2.2.2 q l
        have z0 : km (tx q) = 0 := by unfold km; rw [k0]; rfl
        unfold f_X11_token_71 f_X11_token_137
        rw [si_eq, tt.2.2.1, c18]
        by_cases l2 : q + 1 < N
        · rw [if_neg (nI_ge l2 (by omega)), chk_T (ixo_nI (show q < 200 by omega) (by omega)), nI_clamp (show q < 2 ^ 31 by omega), tm2, e_kM _ tb, obd2_s, z0, if_pos (show nI 0 ≤ 0 by decide), si_eq, bnd_e]
        · rw [if_pos (nI_le (by omega) (by omega)), bnd_e]
      · rw [si_nj (by omega), si_eq]
      · rw [si_nj (by omega)]; exact c18
    · rw [if_neg (show ¬ nI (kd (tx q)) = 0 from nI_ne0 (by omega) (by omega))]
      obtain ⟨e', S2, M2, d1, d2, d3, d4, d5, d6, d7, d8, d9, d10, d11⟩ := ext_l h l (a3 l) k0 (N - (q + 1)) FU FU (q + 1) _ _ (by omega) (by rw [FU_eq]; omega) (by rw [FU_eq]; omega) s2 m2 c4 si_eq c18 si_eq
      exact ⟨q, e', S2, M2, d3, d4, d5, d6, d7, d8, d9, d10, d11, by omega, d2, fun _ => by omega⟩
  · have hq : q = N := by omega
    subst hq
    have u5 : (if nI q < nI q + 1 then nI q else nI q + 1) = nI q := by
      rw [nI_1, if_pos (nI_lt (by omega) (by omega))]
    have s2 : SF S (setI S1 2 5 (nI q)) := b3.tr (SF_I S1 5 _ (by omega))
    have c4 : (setI S1 2 5 (nI q)).1 2 4 = nI q := (si_nj (by omega)).trans b5
    have m17 : (setI M1 0 18 (nI q)).1 0 17 = nI q := (si_nj (by omega)).trans b6
    have m1' : (setI M1 0 18 (nI q)).1 0 1 = nI q := (si_nj (by omega)).trans t1.2.2.1
    rw [b5, u5, bnd_e, bnd_e, c4, e_kind (h.fr s2.rs b4.rm) (by omega), obd2_s, if_neg l, if_pos (show nI 0 = 0 from rfl), b6, bnd_e, m17, m1', if_pos (Int32.le_refl _), Int32.add_zero, bnd_e]
    refine ⟨q, q, _, setI (setI (setI M1 0 18 (nI q)) 0 17 (nI q)) 0 19 (nI q), rfl, ?_, s2, b4.tr ((MF_I M1 18 _ (by omega)).tr ((MF_I _ 17 _ (by omega)).tr (MF_I _ 19 _ (by omega)))), c4, si_eq, ?_, ?_, si_eq, by omega, by omega, fun z => by omega⟩
    · rw [show l_X11_token_71 FU = l_X11_token_71 (4999 + 1) from rfl]
      show f_X11_token_71 (l_X11_token_71 4999) _ = _
      unfold f_X11_token_71 f_X11_token_137
      rw [si_eq, si_nj (show (1 : Nat) ≠ 17 by omega), m1', if_pos (Int32.le_refl _), bnd_e]
    · rw [si_nj (by omega), si_eq]
    · rw [si_nj (by omega), si_nj (by omega), si_eq]
end TOK
