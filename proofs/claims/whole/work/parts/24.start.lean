-- ===== 24: the law from its entry, over any relation that every call keeps and that new objects meet
def strTm (i : Nat) : Term := .string (strO i) (strK i)
def stF (i : Nat) : Term := .field (strTm i) "java/lang/String" "value" "[B"
def flG : List Cond := flatC (Jvm.Cond.and given_1 narrow_1)
set_option maxRecDepth 100000 in
theorem fg_ex : ∀ i, i < 12 → Cond.exactly (strTm i) "java/lang/String" ∈ flG := by decide +kernel
set_option maxRecDepth 100000 in
theorem fg_co : ∀ i, i < 12 → Cond.eq (.field (strTm i) "java/lang/String" "coder" "B") (.int 0) ∈ flG := by decide +kernel
set_option maxRecDepth 100000 in
theorem fg_ar : ∀ i, i < 12 → Cond.arrayOf (stF i) .byte ∈ flG := by decide +kernel
set_option maxRecDepth 100000 in
theorem fg_le : ∀ i, i < 12 → Cond.eq (.length (stF i)) (.int (Int32.ofNat (strLen.getD i 0))) ∈ flG := by decide +kernel
set_option maxRecDepth 100000 in
theorem fg_el : ∀ i, i < 12 → ∀ j, j < strLen.getD i 0 → Cond.eq (.elem (stF i) (.int (Int32.ofNat j))) (.int ((strByt.getD i []).getD j 0)) ∈ flG := by decide +kernel
set_option maxRecDepth 100000 in
theorem fg_ne : ∀ i, i < 12 → ∀ j, j < 12 → i ≠ j → (Cond.not (Cond.eq (strTm i) (strTm j)) ∈ flG ∨ Cond.not (Cond.eq (strTm j) (strTm i)) ∈ flG) := by decide +kernel
set_option maxRecDepth 100000 in
theorem fg_sr : ∀ i, i < 12 → Cond.stringRef (strO i) (strK i) (strT i) ∈ lw_tbl := by decide +kernel
theorem fg_z1 : Cond.eq (.static "java/lang/String" "COMPACT_STRINGS" "Z") (.int 1) ∈ flG := by decide +kernel
theorem fg_z2 : Cond.isRef (.static "jdk/internal/util/Preconditions" "SIOOBE_FORMATTER" "Ljava/util/function/BiFunction;") ∈ flG := by decide +kernel
theorem str_facts {s : State} {args : Array Value} (hgv : (Jvm.Cond.and given_1 narrow_1).before args s = true) (hts : ∀ w ∈ lw_tbl, w.before args s = true) {A : Nat → Prop} (hA : ∀ a : Nat, a < s.heap.size → ¬ A a) : ∃ adK adV : Nat → Nat, SX adK adV A s := by
  have hs : ∀ c ∈ flG, c.before args s = true := flat_of_before _ hgv
  obtain ⟨adK, adV, h1, h2⟩ := vk_Sof (args := args) (s := s) (N := 12) (tm := strTm) (len := strLen) (byt := strByt) (A := A) (by decide +kernel) (fun i hi => hs _ (fg_ex i hi)) (fun i hi => hs _ (fg_co i hi)) (fun i hi => hs _ (fg_ar i hi)) (fun i hi => hs _ (fg_le i hi)) (fun i hi j hj => hs _ (fg_el i hi j hj)) (fun i j hi hj h => (fg_ne i hi j hj h).elim (fun q => Or.inl (hs _ q)) (fun q => Or.inr (hs _ q))) hA
  refine ⟨adK, adV, h1, fun i hi => vk_R.of (hts _ (fg_sr i hi)) (h2 i hi), va_Zof (hts _ (by decide +kernel)) (hts _ (by decide +kernel)) (va_eqi (hs _ fg_z1)) hA, ?_⟩
  obtain ⟨v, hv, hr⟩ := Cond.isRef_spec (hs _ fg_z2)
  have hz : ∀ r : Option Nat, v = va_rf r → ∃ af : Option Nat, va_Z "jdk/internal/util/Preconditions" "SIOOBE_FORMATTER" "Ljava/util/function/BiFunction;" (va_rf af) A s s.heap := fun r e => ⟨r, e ▸ va_Zof (hts _ (by decide +kernel)) (hts _ (by decide +kernel)) hv hA⟩
  cases v with
  | null => exact hz none rfl
  | ref a => exact hz (some a) rfl
  | _ => cases hr
-- ===== start_of
theorem p_left {D : va_G} {a b : va_W} {H : Heap} (h : va_P D vwCl (a ++ b) H) : va_P D vwCl a H := fun k q hk => h k q (by rw [List.getElem?_append_left (List.getElem?_eq_some_iff.mp hk).1]; exact hk)
theorem p_right {D : va_G} {a b : va_W} {H : Heap} (h : va_P D vwCl (a ++ b) H) : va_P D vwCl b H := fun k q hk => h (a.length + k) q (by rw [List.getElem?_append_right (by omega), Nat.add_sub_cancel_left]; exact hk)
theorem d_left {A : Nat → Prop} {a b : va_W} (h : va_D A (a ++ b)) : va_D A a := by
  have e : ∀ (k : Nat) (q : Nat × va_E), a[k]? = some q → (a ++ b)[k]? = some q := fun k q hk => by rw [List.getElem?_append_left (List.getElem?_eq_some_iff.mp hk).1]; exact hk
  exact ⟨fun i j x y hi hj hxy => h.1 i j x y (e i x hi) (e j y hj) hxy, fun k q hk => h.2 k q (e k q hk)⟩
theorem d_right {A : Nat → Prop} {a b : va_W} (h : va_D A (a ++ b)) : va_D A b := by
  have e : ∀ (k : Nat) (q : Nat × va_E), b[k]? = some q → (a ++ b)[a.length + k]? = some q := fun k q hk => by rw [List.getElem?_append_right (by omega), Nat.add_sub_cancel_left]; exact hk
  exact ⟨fun i j x y hi hj hxy => by have := h.1 _ _ x y (e i x hi) (e j y hj) hxy; omega, fun k q hk => h.2 _ q (e k q hk)⟩
theorem d_apart {A : Nat → Prop} {a b : va_W} (h : va_D A (a ++ b)) : ∀ (i j : Nat) (p q : Nat × va_E), a[i]? = some p → b[j]? = some q → p.1 ≠ q.1 := by
  intro i j p q hp hq he
  have hl := (List.getElem?_eq_some_iff.mp hp).1
  have h1 : (a ++ b)[i]? = some p := by rw [List.getElem?_append_left hl]; exact hp
  have h2 : (a ++ b)[a.length + j]? = some q := by rw [List.getElem?_append_right (by omega), Nat.add_sub_cancel_left]; exact hq
  have := h.1 _ _ p q h1 h2 he
  omega
theorem cl_L_7 : Cond.classLink R_law 7 RX10 ∈ TT := tt_of 83 (by decide +kernel) rfl
theorem cl_L_10 : Cond.classLink R_law 10 RX11 ∈ TT := tt_of 1103 (by decide +kernel) rfl
theorem in_X10 : Cond.instantiable RX10 8 ∈ TT := tt_of 84 (by decide +kernel) rfl
theorem ii_X10 : Cond.initialized RX10 ∈ TT := tt_of 65 (by decide +kernel) rfl
theorem mi_X10_init : MI yX10_init cX10_init 1 0 := ⟨tt_of 87 (by decide +kernel) rfl, tt_of 86 (by decide +kernel) rfl, tt_of 65 (by decide +kernel) rfl, rfl, by decide +kernel, by decide +kernel, by decide +kernel⟩
theorem lk_L_X10 : Cond.methodLink R_law 9 yX10_init ∈ TT := tt_of 85 (by decide +kernel) rfl
theorem in_X11 : Cond.instantiable RX11 31 ∈ TT := tt_of 1104 (by decide +kernel) rfl
theorem ii_X11 : Cond.initialized RX11 ∈ TT := tt_of 76 (by decide +kernel) rfl
theorem mi_X11_init : MI yX11_init cX11_init 2 0 := ⟨tt_of 1107 (by decide +kernel) rfl, tt_of 1106 (by decide +kernel) rfl, tt_of 76 (by decide +kernel) rfl, rfl, by decide +kernel, by decide +kernel, by decide +kernel⟩
theorem lk_L_X11 : Cond.methodLink R_law 12 yX11_init ∈ TT := tt_of 1105 (by decide +kernel) rfl
set_option maxHeartbeats 40000000 in
set_option maxRecDepth 100000 in
theorem start_of {p : Program} {e : Env} {s : State} {m : MethodId} {below : List Frame} {meth : Method} {c : Code} (l : Launch) {b L : Nat} {xs : Nat → Int32} (hL : L ≤ 384) (C0 : lw_At p s m meth c b L xs) (RI : St → St → Prop) (h_write : PS_write RI) (h_erase : PS_erase RI) (h_fault : PS_fault RI) (h_day : PS_day RI) (h_thing : PS_thing RI) (h_call : PS_call RI) (h_sort : PS_sort RI) (h_way : PS_way RI) (h_may : PS_may RI) (h_does : PS_does RI) (h_chance : PS_chance RI) (h_mean : PS_mean RI) (h_all : PS_all RI) (h_end : PS_end RI) (h_best : PS_best RI) (h_sure : PS_sure RI) (h_know : PS_know RI) (h_both : PS_both RI) (h_value : PS_value RI) (h_next : PS_next RI) (h_stands : PS_stands RI) (h_idle : PS_idle RI) (h_visit : PS_visit RI) (h_saved : PS_saved RI) (h_most : PS_most RI) (h_box : PS_box RI) (h_run : PS_run RI) (h_count : PS_count RI) (h0 : RI S0x S0m) : W p l e room_1 s m #[Value.ref b] below meth c s.heap [] 0 0 (lw_Z below #[Value.ref b] s) (entryFrame m ([Value.ref b] : List Value).toArray 4) := by
  obtain ⟨hx, hb, hr, hml, hown, hts, hX, hbl, hlocks, hgv⟩ := id C0
  have hA : ∀ q : Nat, s.heap.size ≤ q → (fun q : Nat => s.heap.size ≤ q) q := fun _ h => h
  have C : CallFix p m c code 4 s #[Value.ref b] TT R_law := ⟨hx, hb, hml, hown, fun w h => hts w (tt_in h)⟩
  have HK : ∀ k : Nat, ∃ r : ClassId × (Nat → Nat), ∀ q : vw_C, vwCl[k]? = some q → u_Kn s q.1 q.2.1 q.2.2 r.1 r.2 := by
    intro k
    match k with
    | 0 => obtain ⟨cC, iS, h⟩ := u_known (C := RX0) (T := TX0) (N := 5) (n := 5) hts (fun w h => tt_in (inT0 w h)) (hts _ (tt_in in_X0)); exact ⟨(cC, iS), fun q hq => by cases hq; exact h⟩
    | 1 => obtain ⟨cC, iS, h⟩ := u_known (C := RX1) (T := TX1) (N := 10) (n := 10) hts (fun w h => tt_in (inT1 w h)) (hts _ (tt_in in_X1)); exact ⟨(cC, iS), fun q hq => by cases hq; exact h⟩
    | 2 => obtain ⟨cC, iS, h⟩ := u_known (C := RX2) (T := TX2) (N := 7) (n := 7) hts (fun w h => tt_in (inT2 w h)) (hts _ (tt_in in_X2)); exact ⟨(cC, iS), fun q hq => by cases hq; exact h⟩
    | 3 => obtain ⟨cC, iS, h⟩ := u_known (C := RX3) (T := TX3) (N := 4) (n := 4) hts (fun w h => tt_in (inT3 w h)) (hts _ (tt_in in_X3)); exact ⟨(cC, iS), fun q hq => by cases hq; exact h⟩
    | 4 => obtain ⟨cC, iS, h⟩ := u_known (C := RX4) (T := TX4) (N := 8) (n := 8) hts (fun w h => tt_in (inT4 w h)) (hts _ (tt_in in_X4)); exact ⟨(cC, iS), fun q hq => by cases hq; exact h⟩
    | 5 => obtain ⟨cC, iS, h⟩ := u_known (C := RX5) (T := TX5) (N := 7) (n := 7) hts (fun w h => tt_in (inT5 w h)) (hts _ (tt_in in_X5)); exact ⟨(cC, iS), fun q hq => by cases hq; exact h⟩
    | 6 => obtain ⟨cC, iS, h⟩ := u_known (C := RX6) (T := TX6) (N := 7) (n := 7) hts (fun w h => tt_in (inT6 w h)) (hts _ (tt_in in_X6)); exact ⟨(cC, iS), fun q hq => by cases hq; exact h⟩
    | 7 => obtain ⟨cC, iS, h⟩ := u_known (C := RX7) (T := TX7) (N := 4) (n := 4) hts (fun w h => tt_in (inT7 w h)) (hts _ (tt_in in_X7)); exact ⟨(cC, iS), fun q hq => by cases hq; exact h⟩
    | 8 => obtain ⟨cC, iS, h⟩ := u_known (C := RX8) (T := TX8) (N := 2) (n := 2) hts (fun w h => tt_in (inT8 w h)) (hts _ (tt_in in_X8)); exact ⟨(cC, iS), fun q hq => by cases hq; exact h⟩
    | 9 => obtain ⟨cC, iS, h⟩ := u_known (C := RX9) (T := TX9) (N := 9) (n := 9) hts (fun w h => tt_in (inT9 w h)) (hts _ (tt_in in_X9)); exact ⟨(cC, iS), fun q hq => by cases hq; exact h⟩
    | 10 => obtain ⟨cC, iS, h⟩ := u_known (C := RX10) (T := TX10) (N := 8) (n := 8) hts (fun w h => tt_in (inT10 w h)) (hts _ (tt_in in_X10)); exact ⟨(cC, iS), fun q hq => by cases hq; exact h⟩
    | 11 => obtain ⟨cC, iS, h⟩ := u_known (C := RX11) (T := TX11) (N := 31) (n := 31) hts (fun w h => tt_in (inT11 w h)) (hts _ (tt_in in_X11)); exact ⟨(cC, iS), fun q hq => by cases hq; exact h⟩
    | k + 12 => exact ⟨(0, fun _ => 0), fun q hq => by simp [vwCl] at hq⟩
  obtain ⟨f, hf⟩ := Classical.axiomOfChoice HK
  obtain ⟨cI, kI, oI, i1, i2, i3⟩ := Cond.arrayClass_spec (args := #[Value.ref b]) (s := s) (hts (.arrayClass .int) (by decide +kernel))
  obtain ⟨oC, cC, kC, j1, j2, j3, j4, j5⟩ := Cond.arrayOver_spec (args := #[Value.ref b]) (s := s) (hts (.arrayOver (.object "CarryUp$Call")) (by decide +kernel))
  obtain ⟨oS, cS, kS, m1, m2, m3, m4, m5⟩ := Cond.arrayOver_spec (args := #[Value.ref b]) (s := s) (hts (.arrayOver (.object "CarryUp$Sort")) (by decide +kernel))
  obtain ⟨D, hDf⟩ : ∃ D : va_G, D = (fun k => (f k).1, fun k => (f k).2) := ⟨_, rfl⟩
  have hKv : va_K D vwCl (xtys cI cC cS) s := by
    subst hDf
    refine ⟨fun k q hq => hf k q hq, fun k q hq => ?_⟩
    match k, hq with
    | 0, hq => cases hq; exact ⟨fun n z => ⟨fun k h => (by cases h), kI, i2, oI, i3⟩, i1⟩
    | 1, hq => cases hq; exact ⟨fun n z => ⟨fun k h => (by cases h), kC, j3, oC, j4⟩, kC, oC, j3, j4, j1, j5⟩
    | 2, hq => cases hq; exact ⟨fun n z => ⟨fun k h => (by cases h), kS, m3, oS, m4⟩, kS, oS, m3, m4, m1, m5⟩
    | k + 3, hq => simp at hq
  have hNN : ∀ w ∈ NN, va_Nw w s := fun w hw => nn_at w (nn_nest hw) (hts w (nn_in hw))
  have hKC : KC D cI cC cS s := ⟨hKv, hNN, va_AO.of (hts (.arrayOver (.object "CarryUp$Call")) (by decide +kernel)), va_AO.of (hts (.arrayOver (.object "CarryUp$Sort")) (by decide +kernel))⟩
  obtain ⟨adK, adV, hSX⟩ := str_facts (A := (fun q : Nat => s.heap.size ≤ q)) hgv hts (fun a h => Nat.not_le.mpr h)
  have hKX : KX D (xtys cI cC cS) adK adV (fun q : Nat => s.heap.size ≤ q) s := ⟨hKv, hNN, hSX⟩
  have I : Iw D [] (fun q : Nat => s.heap.size ≤ q) s s.heap [] := ⟨fun k q h => by simp at h, ⟨fun i j p q h => by simp at h, fun k q h => by simp at h⟩, va_S.rf⟩
  have hl := lv_entry ([.ref b]) (n := 4) (Nat.le_of_ble_eq_true rfl)
  rw [lg_entry_eq]
  generalize (lg_sl ([.ref b]) ++ List.replicate (4 - (lg_sl ([.ref b])).length) Slot.unset).toArray = ls at hl ⊢
  have hl : lv_has ls 4 [(0, .ref b)] := hl
  refine n_new (ci := 10) (fs := [.null, .null, .null, .null, .null, .null, .null, .null]) C hKC I hA inT10 tyX10 tyX10_ok cl_L_7 in_X10 ii_X10 rfl (fun j hj => match j, hj with | 0, _ => rfl | 1, _ => rfl | 2, _ => rfl | 3, _ => rfl | 4, _ => rfl | 5, _ => rfl | 6, _ => rfl | 7, _ => rfl | n + 8, h => absurd h (by omega)) (Nat.le_of_ble_eq_true rfl) (Nat.le_of_ble_eq_true rfl) dL_0 (fun q1 H I => ?_)
  refine lv_dup hx hb dL_3 rfl ?_
  have I : Iw D [(q1, .inr (10, [.null, .null, .null, .null, .null, .null, .null, .null]))] (fun q : Nat => s.heap.size ≤ q) s H _ := I
  refine n_I (As := []) (rest := [.ref q1]) (wc := [(q1, .inr (10, [.null, .null, .null, .null, .null, .null, .null, .null]))]) (wr := []) C hKC I hA [0] [] rfl rfl rfl (by decide) (by decide) (by decide) (c_X10_init l D cI cC cS q1) ⟨Nat.le_of_ble_eq_true rfl, Nat.le_of_ble_eq_true rfl⟩ ⟨Nat.le_of_ble_eq_true rfl, Nat.le_of_ble_eq_true rfl⟩ mi_X10_init lk_L_X10 rfl hl.1 rfl (Nat.le_of_ble_eq_true rfl) dL_4 (fun ws9 hp9 H locs I2 => ?_)
  obtain ⟨adx, hx0, rfl⟩ := hp9
  subst hx0
  have I : Iw D (xw cI cC cS adx S0x) (fun q : Nat => s.heap.size ≤ q) s H _ := I2
  refine lv_astore_n (lv' := [(1, .ref (adx 0)), (0, .ref b)]) hx hb dL_7 rfl hl (by decide) rfl (fun ls hl => ?_)
  refine n_new (ci := 11) (fs := [.null, .int 0, .null, .int 0, .null, .null, .int 0, .int 0, .int 0, .int 0, .null, .int 0, .null, .null, .null, .null, .int 0, .int 0, .int 0, .int 0, .null, .int 0, .int 0, .long 0, .long 0, .int 0, .int 0, .int 0, .int 0, .int 0, .null]) C hKC I hA inT11 tyX11 tyX11_ok cl_L_10 in_X11 ii_X11 rfl (fun j hj => match j, hj with | 0, _ => rfl | 1, _ => rfl | 2, _ => rfl | 3, _ => rfl | 4, _ => rfl | 5, _ => rfl | 6, _ => rfl | 7, _ => rfl | 8, _ => rfl | 9, _ => rfl | 10, _ => rfl | 11, _ => rfl | 12, _ => rfl | 13, _ => rfl | 14, _ => rfl | 15, _ => rfl | 16, _ => rfl | 17, _ => rfl | 18, _ => rfl | 19, _ => rfl | 20, _ => rfl | 21, _ => rfl | 22, _ => rfl | 23, _ => rfl | 24, _ => rfl | 25, _ => rfl | 26, _ => rfl | 27, _ => rfl | 28, _ => rfl | 29, _ => rfl | 30, _ => rfl | n + 31, h => absurd h (by omega)) (Nat.le_of_ble_eq_true rfl) (Nat.le_of_ble_eq_true rfl) dL_8 (fun q2 H I => ?_)
  refine lv_dup hx hb dL_11 rfl ?_
  refine n_I (As := []) (rest := [.ref q2]) (wc := [(q2, .inr (11, [.null, .int 0, .null, .int 0, .null, .null, .int 0, .int 0, .int 0, .int 0, .null, .int 0, .null, .null, .null, .null, .int 0, .int 0, .int 0, .int 0, .null, .int 0, .int 0, .long 0, .long 0, .int 0, .int 0, .int 0, .int 0, .int 0, .null]))]) (wr := xw cI cC cS adx S0x) C hKC I hA [57] (List.range 57) rfl rfl rfl (by decide +kernel) (by decide) (by decide +kernel) (c_X11_init l D cI cC cS q2) ⟨Nat.le_of_ble_eq_true rfl, Nat.le_of_ble_eq_true rfl⟩ ⟨Nat.le_of_ble_eq_true rfl, Nat.le_of_ble_eq_true rfl⟩ mi_X11_init lk_L_X11 rfl hl.1 rfl (Nat.le_of_ble_eq_true rfl) dL_12 (fun ws9 hp9 H locs I3 => ?_)
  obtain ⟨adm, hm0, rfl⟩ := hp9
  subst hm0
  refine lv_astore_n (lv' := [(2, .ref (adm 0)), (1, .ref (adx 0)), (0, .ref b)]) hx hb dL_15 rfl hl (by decide) rfl (fun ls hl => ?_)
  refine W.widen (k := 600000) (n := 7302250) (Nat.le_of_ble_eq_true rfl) (Nat.le_of_ble_eq_true rfl) ?_
  refine lv_iconst (v := 0) hx hb dL_16 (by decide) ?_
  refine lv_istore_n (lv' := [(3, .int 0), (2, .ref (adm 0)), (1, .ref (adx 0)), (0, .ref b)]) hx hb dL_17 rfl hl (by decide) rfl (fun ls hl => ?_)
  obtain ⟨hP, hD, hS⟩ := I3
  exact law_loop (adx := adx) (adm := adm) hL C0 hKX RI h_write h_erase h_fault h_day h_thing h_call h_sort h_way h_may h_does h_chance h_mean h_all h_end h_best h_sure h_know h_both h_value h_next h_stands h_idle h_visit h_saved h_most h_box h_run h_count (L + 1) 0 0 (Nat.zero_le L) (by omega) nI_0.symm S0x S0m h0 _ _ _ ⟨p_left hP, p_right hP, d_left hD, d_right hD, d_apart hD, hS⟩ (lv_sub hl [3, 2, 1, 0] rfl)
