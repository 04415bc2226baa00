-- ===== 24: the law from its entry, over any relation that every call keeps and that new objects meet
def strTm (i : Nat) : Term := .string (strO i) (strK i)
def stF (i : Nat) : Term := .field (strTm i) "java/lang/String" "value" "[B"
def flG : List Cond := flatC (Jvm.Cond.and given_1 narrow_1)
set_option maxRecDepth 100000 in
theorem fg_ex : ∀ i, i < 12 → Cond.exactly (strTm i) "java/lang/String" ∈ flG := by decide +kernel
set_option maxRecDepth 100000 in
theorem fg_co : ∀ i, i < 12 → Cond.eq (.field (strTm i) "java/lang/String" "coder" "B") (.int 0) ∈ flG := by decide +kernel
set_option maxRecDepth 100000 in
theorem fg_ar : ∀ i, i < 12 → Cond.arrayOf (stF i) .byte ∈ flG := by decide +kernel
set_option maxRecDepth 100000 in
theorem fg_le : ∀ i, i < 12 → Cond.eq (.length (stF i)) (.int (Int32.ofNat (strLen.getD i 0))) ∈ flG := by decide +kernel
set_option maxRecDepth 100000 in
theorem fg_el : ∀ i, i < 12 → ∀ j, j < strLen.getD i 0 → Cond.eq (.elem (stF i) (.int (Int32.ofNat j))) (.int ((strByt.getD i []).getD j 0)) ∈ flG := by decide +kernel
set_option maxRecDepth 100000 in
theorem fg_ne : ∀ i, i < 12 → ∀ j, j < 12 → i ≠ j → (Cond.not (Cond.eq (strTm i) (strTm j)) ∈ flG ∨ Cond.not (Cond.eq (strTm j) (strTm i)) ∈ flG) := by decide +kernel
set_option maxRecDepth 100000 in
theorem fg_sr : ∀ i, i < 12 → Cond.stringRef (strO i) (strK i) (strT i) ∈ lw_tbl := by decide +kernel
theorem fg_z1 : Cond.eq (.static "java/lang/String" "COMPACT_STRINGS" "Z") (.int 1) ∈ flG := by decide +kernel
theorem fg_z2 : Cond.isRef (.static "jdk/internal/util/Preconditions" "SIOOBE_FORMATTER" "Ljava/util/function/BiFunction;") ∈ flG := by decide +kernel
theorem str_facts {s : State} {args : Array Value} (hgv : (Jvm.Cond.and given_1 narrow_1).before args s = true) (hts : ∀ w ∈ lw_tbl, w.before args s = true) {A : Nat → Prop} (hA : ∀ a : Nat, a < s.heap.size → ¬ A a) : ∃ adK adV : Nat → Nat, SX adK adV A s := by
  have hs : ∀ c ∈ flG, c.before args s = true := flat_of_before _ hgv
  obtain ⟨adK, adV, h1, h2⟩ := vk_Sof (args := args) (s := s) (N := 12) (tm := strTm) (len := strLen) (byt := strByt) (A := A) (by decide +kernel) (fun i hi => hs _ (fg_ex i hi)) (fun i hi => hs _ (fg_co i hi)) (fun i hi => hs _ (fg_ar i hi)) (fun i hi => hs _ (fg_le i hi)) (fun i hi j hj => hs _ (fg_el i hi j hj)) (fun i j hi hj h => (fg_ne i hi j hj h).elim (fun q => Or.inl (hs _ q)) (fun q => Or.inr (hs _ q))) hA
  refine ⟨adK, adV, h1, fun i hi => vk_R.of (hts _ (fg_sr i hi)) (h2 i hi), va_Zof (hts _ (by decide +kernel)) (hts _ (by decide +kernel)) (va_eqi (hs _ fg_z1)) hA, ?_⟩
  obtain ⟨v, hv, hr⟩ := Cond.isRef_spec (hs _ fg_z2)
  have hz : ∀ r : Option Nat, v = va_rf r → ∃ af : Option Nat, va_Z "jdk/internal/util/Preconditions" "SIOOBE_FORMATTER" "Ljava/util/function/BiFunction;" (va_rf af) A s s.heap := fun r e => ⟨r, e ▸ va_Zof (hts _ (by decide +kernel)) (hts _ (by decide +kernel)) hv hA⟩
  cases v with
  | null => exact hz none rfl
  | ref a => exact hz (some a) rfl
  | _ => simp at hr
