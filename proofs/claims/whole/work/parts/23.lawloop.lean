theorem cn_L_13 : Cond.constantLong R_law 13 4294967295 ∈ TT := tt_of 1537 (by decide +kernel) rfl
def PS_write (RI : St → St → Prop) : Prop := ∀ S M : St, RI S M → ∀ (a0 : Int64) (a1 : Int32), ∃ r S1 M1, f_X10_write S a0 a1 = some (r, S1) ∧ f_X11_write M a0 a1 = some (r, M1) ∧ RI S1 M1
def PS_erase (RI : St → St → Prop) : Prop := ∀ S M : St, RI S M → ∃ r S1 M1, f_X10_erase S  = some (r, S1) ∧ f_X11_erase M  = some (r, M1) ∧ RI S1 M1
def PS_fault (RI : St → St → Prop) : Prop := ∀ S M : St, RI S M → ∃ r S1 M1, f_X10_fault S  = some (r, S1) ∧ f_X11_fault M  = some (r, M1) ∧ RI S1 M1
def PS_day (RI : St → St → Prop) : Prop := ∀ S M : St, RI S M → ∃ r S1 M1, f_X10_day S  = some (r, S1) ∧ f_X11_day M  = some (r, M1) ∧ RI S1 M1
def PS_thing (RI : St → St → Prop) : Prop := ∀ S M : St, RI S M → ∀ (a0 : Int32) (a1 : Int32), ∃ r S1 M1, f_X10_thing S a0 a1 = some (r, S1) ∧ f_X11_thing M a0 a1 = some (r, M1) ∧ RI S1 M1
def PS_call (RI : St → St → Prop) : Prop := ∀ S M : St, RI S M → ∀ (a0 : Int32) (a1 : Int32), ∃ r S1 M1, f_X10_call S a0 a1 = some (r, S1) ∧ f_X11_call M a0 a1 = some (r, M1) ∧ RI S1 M1
def PS_sort (RI : St → St → Prop) : Prop := ∀ S M : St, RI S M → ∀ (a0 : Int32) (a1 : Int32) (a2 : Int32), ∃ r S1 M1, f_X10_sort S a0 a1 a2 = some (r, S1) ∧ f_X11_sort M a0 a1 a2 = some (r, M1) ∧ RI S1 M1
def PS_way (RI : St → St → Prop) : Prop := ∀ S M : St, RI S M → ∀ (a0 : Int32) (a1 : Int32), ∃ r S1 M1, f_X10_way S a0 a1 = some (r, S1) ∧ f_X11_way M a0 a1 = some (r, M1) ∧ RI S1 M1
def PS_may (RI : St → St → Prop) : Prop := ∀ S M : St, RI S M → ∀ (a0 : Int32), ∃ r S1 M1, f_X10_may S a0 = some (r, S1) ∧ f_X11_may M a0 = some (r, M1) ∧ RI S1 M1
def PS_does (RI : St → St → Prop) : Prop := ∀ S M : St, RI S M → ∀ (a0 : Int32) (a1 : Int32) (a2 : Int32), ∃ r S1 M1, f_X10_does S a0 a1 a2 = some (r, S1) ∧ f_X11_does M a0 a1 a2 = some (r, M1) ∧ RI S1 M1
def PS_chance (RI : St → St → Prop) : Prop := ∀ S M : St, RI S M → ∀ (a0 : Int32) (a1 : Int32) (a2 : Int32), ∃ r S1 M1, f_X10_chance S a0 a1 a2 = some (r, S1) ∧ f_X11_chance M a0 a1 a2 = some (r, M1) ∧ RI S1 M1
def PS_mean (RI : St → St → Prop) : Prop := ∀ S M : St, RI S M → ∀ (a0 : Int32) (a1 : Int32) (a2 : Int32) (a3 : Int32), ∃ r S1 M1, f_X10_mean S a0 a1 a2 a3 = some (r, S1) ∧ f_X11_mean M a0 a1 a2 a3 = some (r, M1) ∧ RI S1 M1
def PS_all (RI : St → St → Prop) : Prop := ∀ S M : St, RI S M → ∀ (a0 : Int32) (a1 : Int32) (a2 : Int32) (a3 : Int32), ∃ r S1 M1, f_X10_all S a0 a1 a2 a3 = some (r, S1) ∧ f_X11_all M a0 a1 a2 a3 = some (r, M1) ∧ RI S1 M1
def PS_end (RI : St → St → Prop) : Prop := ∀ S M : St, RI S M → ∀ (a0 : Int32) (a1 : Int32) (a2 : Int32), ∃ r S1 M1, f_X10_end S a0 a1 a2 = some (r, S1) ∧ f_X11_end M a0 a1 a2 = some (r, M1) ∧ RI S1 M1
def PS_best (RI : St → St → Prop) : Prop := ∀ S M : St, RI S M → ∀ (a0 : Int32) (a1 : Int32), ∃ r S1 M1, f_X10_best S a0 a1 = some (r, S1) ∧ f_X11_best M a0 a1 = some (r, M1) ∧ RI S1 M1
def PS_sure (RI : St → St → Prop) : Prop := ∀ S M : St, RI S M → ∀ (a0 : Int32) (a1 : Int32) (a2 : Int32) (a3 : Int32), ∃ r S1 M1, f_X10_sure S a0 a1 a2 a3 = some (r, S1) ∧ f_X11_sure M a0 a1 a2 a3 = some (r, M1) ∧ RI S1 M1
def PS_know (RI : St → St → Prop) : Prop := ∀ S M : St, RI S M → ∀ (a0 : Int32) (a1 : Int32) (a2 : Int32) (a3 : Int32), ∃ r S1 M1, f_X10_know S a0 a1 a2 a3 = some (r, S1) ∧ f_X11_know M a0 a1 a2 a3 = some (r, M1) ∧ RI S1 M1
def PS_both (RI : St → St → Prop) : Prop := ∀ S M : St, RI S M → ∀ (a0 : Int32) (a1 : Int32), ∃ r S1 M1, f_X10_both S a0 a1 = some (r, S1) ∧ f_X11_both M a0 a1 = some (r, M1) ∧ RI S1 M1
def PS_value (RI : St → St → Prop) : Prop := ∀ S M : St, RI S M → ∀ (a0 : Int32) (a1 : Int32) (a2 : Int32) (a3 : Int32) (a4 : Int32), ∃ r S1 M1, f_X10_value S a0 a1 a2 a3 a4 = some (r, S1) ∧ f_X11_value M a0 a1 a2 a3 a4 = some (r, M1) ∧ RI S1 M1
def PS_next (RI : St → St → Prop) : Prop := ∀ S M : St, RI S M → ∀ (a0 : Int32) (a1 : Int32) (a2 : Int32) (a3 : Int32), ∃ r S1 M1, f_X10_next S a0 a1 a2 a3 = some (r, S1) ∧ f_X11_next M a0 a1 a2 a3 = some (r, M1) ∧ RI S1 M1
def PS_stands (RI : St → St → Prop) : Prop := ∀ S M : St, RI S M → ∀ (a0 : Int32) (a1 : Int32), ∃ r S1 M1, f_X10_stands S a0 a1 = some (r, S1) ∧ f_X11_stands M a0 a1 = some (r, M1) ∧ RI S1 M1
def PS_idle (RI : St → St → Prop) : Prop := ∀ S M : St, RI S M → ∃ r S1 M1, f_X10_idle S  = some (r, S1) ∧ f_X11_idle M  = some (r, M1) ∧ RI S1 M1
def PS_visit (RI : St → St → Prop) : Prop := ∀ S M : St, RI S M → ∀ (a0 : Int32) (a1 : Int32) (a2 : Int32), ∃ r S1 M1, f_X10_visit S a0 a1 a2 = some (r, S1) ∧ f_X11_visit M a0 a1 a2 = some (r, M1) ∧ RI S1 M1
def PS_saved (RI : St → St → Prop) : Prop := ∀ S M : St, RI S M → ∀ (a0 : Int32), ∃ r S1 M1, f_X10_saved S a0 = some (r, S1) ∧ f_X11_saved M a0 = some (r, M1) ∧ RI S1 M1
def PS_most (RI : St → St → Prop) : Prop := ∀ S M : St, RI S M → ∀ (a0 : Int32), ∃ r S1 M1, f_X10_most S a0 = some (r, S1) ∧ f_X11_most M a0 = some (r, M1) ∧ RI S1 M1
def PS_box (RI : St → St → Prop) : Prop := ∀ S M : St, RI S M → ∀ (a0 : Int32), ∃ r S1 M1, f_X10_box S a0 = some (r, S1) ∧ f_X11_box M a0 = some (r, M1) ∧ RI S1 M1
def PS_run (RI : St → St → Prop) : Prop := ∀ S M : St, RI S M → ∀ (a0 : Int32) (a1 : Int32) (a2 : Int32) (a3 : Int32) (a4 : Int32), ∃ r S1 M1, f_X10_run S a0 a1 a2 a3 a4 = some (r, S1) ∧ f_X11_run M a0 a1 a2 a3 a4 = some (r, M1) ∧ RI S1 M1
def PS_count (RI : St → St → Prop) : Prop := ∀ S M : St, RI S M → ∀ (a0 : Int32), ∃ r S1 M1, f_X10_count S a0 = some (r, S1) ∧ f_X11_count M a0 = some (r, M1) ∧ RI S1 M1
set_option maxHeartbeats 40000000 in
set_option maxRecDepth 100000 in
/-- THE LAW'S LOOP, over any relation of the two states that every call keeps -/
theorem law_loop {p : Program} {l : Launch} {e : Env} {s : State} {m : MethodId} {below : List Frame} {meth : Method} {c : Code} {D : va_G} {cI cC cS : ClassId} {adx adm adK adV : Nat → Nat} {b L : Nat} {xs : Nat → Int32} (hL : L ≤ 384) (C0 : lw_At p s m meth c b L xs) (hK : KX D (xtys cI cC cS) adK adV (fun q : Nat => s.heap.size ≤ q) s) (RI : St → St → Prop) (h_write : PS_write RI) (h_erase : PS_erase RI) (h_fault : PS_fault RI) (h_day : PS_day RI) (h_thing : PS_thing RI) (h_call : PS_call RI) (h_sort : PS_sort RI) (h_way : PS_way RI) (h_may : PS_may RI) (h_does : PS_does RI) (h_chance : PS_chance RI) (h_mean : PS_mean RI) (h_all : PS_all RI) (h_end : PS_end RI) (h_best : PS_best RI) (h_sure : PS_sure RI) (h_know : PS_know RI) (h_both : PS_both RI) (h_value : PS_value RI) (h_next : PS_next RI) (h_stands : PS_stands RI) (h_idle : PS_idle RI) (h_visit : PS_visit RI) (h_saved : PS_saved RI) (h_most : PS_most RI) (h_box : PS_box RI) (h_run : PS_run RI) (h_count : PS_count RI) :
    ∀ (n i : Nat) (x3 : Int32), i ≤ L → L < i + n → x3 = nI i → ∀ (S M : St), RI S M → ∀ (H : Heap) (locs : List Loc) (ls : Array Slot), L2 D (xw cI cC cS adx) S (mw cI adm) M (fun q : Nat => s.heap.size ≤ q) s H locs → lv_has ls 4 [(0, .ref b), (1, .ref (adx 0)), (2, .ref (adm 0)), (3, .int x3)] → W p l e room_1 s m #[Value.ref b] below meth c H locs 600000 7302250 (lw_Z below #[Value.ref b] s) (F0 m 18 ls []) := by
  obtain ⟨hx, hb, hr, hml, hown, hts, hX, hbl, hlocks, hgv⟩ := C0
  have hA : ∀ q : Nat, s.heap.size ≤ q → (fun q : Nat => s.heap.size ≤ q) q := fun _ h => h
  have hbA : ¬ (fun q : Nat => s.heap.size ≤ q) b := Nat.not_le.mpr hbl
  have C : CallFix p m c code 4 s #[Value.ref b] TT R_law := ⟨hx, hb, hml, hown, fun w h => hts w (tt_in h)⟩
  have kx := kx_ok D (xtys cI cC cS) adK adV
  intro n
  induction n with
  | zero => intro i x3 h1 h2; exact absurd h2 (by omega)
  | succ n ih =>
    intro i x3 hi hin ex3 S M hRI H locs ls I hl
    refine lv_iload_n hx hb dL_18 rfl (lv_at hl 3 rfl) ?_
    refine lv_aload_n hx hb dL_19 rfl (lv_at hl 0 rfl) ?_
    refine va_slen hx hb hX hbl hbA I.S dL_20 ?_
    refine lv_bipush (v := 6) hx hb dL_21 (by decide) ?_
    refine lv_isub hx hb dL_23 ?_
    refine lv_icmp_gt (tgt := 1204) hx hb dL_24 (by decide) (fun c_1 => ?_) (fun c_1 => ?_)
    · refine lv_iconst (v := 1) hx hb dL_1204 (by decide) ?_
      refine va_forget (fun q hq => I.S.2.2 q hq) ?_
      exact lw_ret hx hb hr hlocks dL_1205
    · have h6 : i + 6 ≤ L := sc_go hi hL (by rw [← ex3]; exact c_1)
      have hv0 : vp_in x3 L := by rw [ex3]; exact vp_in_nI (by omega) (by omega)
      have hv1 : vp_in (x3 + 1) L := by rw [ex3]; exact sc_in (k := 1) (by omega) hL
      have hv2 : vp_in (x3 + 2) L := by rw [ex3]; exact sc_in (k := 2) (by omega) hL
      have hv3 : vp_in (x3 + 3) L := by rw [ex3]; exact sc_in (k := 3) (by omega) hL
      have hv4 : vp_in (x3 + 4) L := by rw [ex3]; exact sc_in (k := 4) (by omega) hL
      have hv5 : vp_in (x3 + 5) L := by rw [ex3]; exact sc_in (k := 5) (by omega) hL
      have fin : ∀ (S M : St), RI S M → ∀ (H : Heap) (locs : List Loc) (ls : Array Slot), L2 D (xw cI cC cS adx) S (mw cI adm) M (fun q : Nat => s.heap.size ≤ q) s H locs → lv_has ls 4 [(0, .ref b), (1, .ref (adx 0)), (2, .ref (adm 0)), (3, .int x3)] → W p l e room_1 s m #[Value.ref b] below meth c H locs 600000 7302250 (lw_Z below #[Value.ref b] s) (F0 m 1198 ls []) := by
        intro S M hRI H locs ls I hl
        obtain ⟨x4, ex4⟩ : ∃ y : Int32, y = x3 + 6 := ⟨_, rfl⟩
        refine lv_iinc (v := x4) (lv' := [(3, .int x4), (0, .ref b), (1, .ref (adx 0)), (2, .ref (adm 0))]) hx hb dL_1198 hl (k := 3) rfl (by rw [ex4]; rfl) (by decide) rfl (fun ls hl => ?_)
        refine lv_goto (tgt := 18) hx hb dL_1201 (by decide) ?_
        exact ih (i + 6) x4 h6 (by omega) (by rw [ex4, ex3]; exact nI_add i 6) S M hRI H locs ls I (lv_sub hl [1, 2, 3, 0] rfl)
      refine lv_aload_n hx hb dL_27 rfl (lv_at hl 0 rfl) ?_
      refine lv_iload_n hx hb dL_28 rfl (lv_at hl 3 rfl) ?_
      refine va_sld hx hb hX hbl hbA I.S hv0 dL_29 ?_
      refine lv_bipush (v := 31) hx hb dL_30 (by decide) ?_
      refine lv_iand hx hb dL_32 ?_
      refine lv_topi (fun z ez => ?_)
      rcases Decidable.em (z = 0) with c_z0 | c_z0
      · rw [c_z0]
        refine lv_tableIn (x := 0) (off := 127) (tgt := 160) hx hb dL_33 (by decide) (by decide) (by decide) (by decide) ?_
        obtain ⟨r, Sa, Ma, e1, e2, hRI⟩ := h_write S M hRI ((((xs (x3 + 1).toNatClampNeg).toInt64) <<< ((32 : Int32).toInt64 &&& 63)) ||| (((xs (x3 + 2).toNatClampNeg).toInt64) &&& 4294967295)) (xs (x3 + 3).toNatClampNeg)
        refine lv_aload_n hx hb dL_160 rfl (lv_at hl 1 rfl) ?_
        refine lv_aload_n hx hb dL_161 rfl (lv_at hl 0 rfl) ?_
        refine lv_iload_n hx hb dL_162 rfl (lv_at hl 3 rfl) ?_
        refine lv_iconst (v := 1) hx hb dL_163 (by decide) ?_
        refine lv_iadd hx hb dL_164 ?_
        refine va_sld hx hb hX hbl hbA I.S hv1 dL_165 ?_
        refine lv_i2l hx hb dL_166 rfl ?_
        refine lv_bipush (v := 32) hx hb dL_167 (by decide) ?_
        refine lv_lshl hx hb dL_169 rfl ?_
        refine lv_aload_n hx hb dL_170 rfl (lv_at hl 0 rfl) ?_
        refine lv_iload_n hx hb dL_171 rfl (lv_at hl 3 rfl) ?_
        refine lv_iconst (v := 2) hx hb dL_172 (by decide) ?_
        refine lv_iadd hx hb dL_173 ?_
        refine va_sld hx hb hX hbl hbA I.S hv2 dL_174 ?_
        refine lv_i2l hx hb dL_175 rfl ?_
        refine lv_ldc2 (v := 4294967295) hx hb C.2.2.2.1 (C.2.2.2.2 _ cn_L_13) dL_176 ?_
        refine lv_land hx hb dL_179 ?_
        refine lv_lor hx hb dL_180 ?_
        refine lv_aload_n hx hb dL_181 rfl (lv_at hl 0 rfl) ?_
        refine lv_iload_n hx hb dL_182 rfl (lv_at hl 3 rfl) ?_
        refine lv_iconst (v := 3) hx hb dL_183 (by decide) ?_
        refine lv_iadd hx hb dL_184 ?_
        refine va_sld hx hb hX hbl hbA I.S hv3 dL_185 ?_
        refine k_V2 (As := [.long ((((xs (x3 + 1).toNatClampNeg).toInt64) <<< ((32 : Int32).toInt64 &&& 63)) ||| (((xs (x3 + 2).toNatClampNeg).toInt64) &&& 4294967295)), .int (xs (x3 + 3).toNatClampNeg)]) (rest := []) (st1 := [.int r]) C kx hK I hA (c_X10_write e1) ⟨Nat.le_of_ble_eq_true rfl, Nat.le_of_ble_eq_true rfl⟩ mv_X10_write lk_L_15 0 10 (xw_0 (cI := cI) (cC := cC) (cS := cS) (ad := adx)) rfl rfl hl.1 rfl (Nat.le_of_ble_eq_true rfl) dL_186 rfl ⟨Nat.le_of_ble_eq_true rfl, Nat.le_of_ble_eq_true rfl⟩ (fun H locs I => ?_)
        have I := I.swap
        refine lv_aload_n hx hb dL_189 rfl (lv_at hl 2 rfl) ?_
        refine lv_aload_n hx hb dL_190 rfl (lv_at hl 0 rfl) ?_
        refine lv_iload_n hx hb dL_191 rfl (lv_at hl 3 rfl) ?_
        refine lv_iconst (v := 1) hx hb dL_192 (by decide) ?_
        refine lv_iadd hx hb dL_193 ?_
        refine va_sld hx hb hX hbl hbA I.S hv1 dL_194 ?_
        refine lv_i2l hx hb dL_195 rfl ?_
        refine lv_bipush (v := 32) hx hb dL_196 (by decide) ?_
        refine lv_lshl hx hb dL_198 rfl ?_
        refine lv_aload_n hx hb dL_199 rfl (lv_at hl 0 rfl) ?_
        refine lv_iload_n hx hb dL_200 rfl (lv_at hl 3 rfl) ?_
        refine lv_iconst (v := 2) hx hb dL_201 (by decide) ?_
        refine lv_iadd hx hb dL_202 ?_
        refine va_sld hx hb hX hbl hbA I.S hv2 dL_203 ?_
        refine lv_i2l hx hb dL_204 rfl ?_
        refine lv_ldc2 (v := 4294967295) hx hb C.2.2.2.1 (C.2.2.2.2 _ cn_L_13) dL_205 ?_
        refine lv_land hx hb dL_208 ?_
        refine lv_lor hx hb dL_209 ?_
        refine lv_aload_n hx hb dL_210 rfl (lv_at hl 0 rfl) ?_
        refine lv_iload_n hx hb dL_211 rfl (lv_at hl 3 rfl) ?_
        refine lv_iconst (v := 3) hx hb dL_212 (by decide) ?_
        refine lv_iadd hx hb dL_213 ?_
        refine va_sld hx hb hX hbl hbA I.S hv3 dL_214 ?_
        refine k_V2 (As := [.long ((((xs (x3 + 1).toNatClampNeg).toInt64) <<< ((32 : Int32).toInt64 &&& 63)) ||| (((xs (x3 + 2).toNatClampNeg).toInt64) &&& 4294967295)), .int (xs (x3 + 3).toNatClampNeg)]) (rest := [.int r]) (st1 := [.int r, .int r]) C kx hK I hA (c_X11_write e2) ⟨Nat.le_of_ble_eq_true rfl, Nat.le_of_ble_eq_true rfl⟩ mv_X11_write lk_L_19 0 11 (mw_0 (cI := cI) (ad := adm)) rfl rfl hl.1 rfl (Nat.le_of_ble_eq_true rfl) dL_215 rfl ⟨Nat.le_of_ble_eq_true rfl, Nat.le_of_ble_eq_true rfl⟩ (fun H locs I => ?_)
        have I := I.swap
        refine lv_icmp_eq (tgt := 1198) hx hb dL_218 (by decide) (fun _ => ?_) (fun q => absurd rfl q)
        exact fin Sa Ma hRI _ _ _ I hl
      rcases Decidable.em (z = 1) with c_z1 | c_z1
      · rw [c_z1]
        refine lv_tableIn (x := 1) (off := 190) (tgt := 223) hx hb dL_33 (by decide) (by decide) (by decide) (by decide) ?_
        obtain ⟨r, Sa, Ma, e1, e2, hRI⟩ := h_erase S M hRI 
        refine lv_aload_n hx hb dL_223 rfl (lv_at hl 1 rfl) ?_
        refine k_V2 (As := []) (rest := []) (st1 := [.int r]) C kx hK I hA (c_X10_erase e1) ⟨Nat.le_of_ble_eq_true rfl, Nat.le_of_ble_eq_true rfl⟩ mv_X10_erase lk_L_20 0 10 (xw_0 (cI := cI) (cC := cC) (cS := cS) (ad := adx)) rfl rfl hl.1 rfl (Nat.le_of_ble_eq_true rfl) dL_224 rfl ⟨Nat.le_of_ble_eq_true rfl, Nat.le_of_ble_eq_true rfl⟩ (fun H locs I => ?_)
        have I := I.swap
        refine lv_aload_n hx hb dL_227 rfl (lv_at hl 2 rfl) ?_
        refine k_V2 (As := []) (rest := [.int r]) (st1 := [.int r, .int r]) C kx hK I hA (c_X11_erase e2) ⟨Nat.le_of_ble_eq_true rfl, Nat.le_of_ble_eq_true rfl⟩ mv_X11_erase lk_L_24 0 11 (mw_0 (cI := cI) (ad := adm)) rfl rfl hl.1 rfl (Nat.le_of_ble_eq_true rfl) dL_228 rfl ⟨Nat.le_of_ble_eq_true rfl, Nat.le_of_ble_eq_true rfl⟩ (fun H locs I => ?_)
        have I := I.swap
        refine lv_icmp_eq (tgt := 1198) hx hb dL_231 (by decide) (fun _ => ?_) (fun q => absurd rfl q)
        exact fin Sa Ma hRI _ _ _ I hl
      rcases Decidable.em (z = 2) with c_z2 | c_z2
      · rw [c_z2]
        refine lv_tableIn (x := 2) (off := 203) (tgt := 236) hx hb dL_33 (by decide) (by decide) (by decide) (by decide) ?_
        obtain ⟨r, Sa, Ma, e1, e2, hRI⟩ := h_fault S M hRI 
        refine lv_aload_n hx hb dL_236 rfl (lv_at hl 1 rfl) ?_
        refine k_V2 (As := []) (rest := []) (st1 := [.int r]) C kx hK I hA (c_X10_fault e1) ⟨Nat.le_of_ble_eq_true rfl, Nat.le_of_ble_eq_true rfl⟩ mv_X10_fault lk_L_25 0 10 (xw_0 (cI := cI) (cC := cC) (cS := cS) (ad := adx)) rfl rfl hl.1 rfl (Nat.le_of_ble_eq_true rfl) dL_237 rfl ⟨Nat.le_of_ble_eq_true rfl, Nat.le_of_ble_eq_true rfl⟩ (fun H locs I => ?_)
        have I := I.swap
        refine lv_aload_n hx hb dL_240 rfl (lv_at hl 2 rfl) ?_
        refine k_V2 (As := []) (rest := [.int r]) (st1 := [.int r, .int r]) C kx hK I hA (c_X11_fault e2) ⟨Nat.le_of_ble_eq_true rfl, Nat.le_of_ble_eq_true rfl⟩ mv_X11_fault lk_L_28 0 11 (mw_0 (cI := cI) (ad := adm)) rfl rfl hl.1 rfl (Nat.le_of_ble_eq_true rfl) dL_241 rfl ⟨Nat.le_of_ble_eq_true rfl, Nat.le_of_ble_eq_true rfl⟩ (fun H locs I => ?_)
        have I := I.swap
        refine lv_icmp_eq (tgt := 1198) hx hb dL_244 (by decide) (fun _ => ?_) (fun q => absurd rfl q)
        exact fin Sa Ma hRI _ _ _ I hl
      rcases Decidable.em (z = 3) with c_z3 | c_z3
      · rw [c_z3]
        refine lv_tableIn (x := 3) (off := 216) (tgt := 249) hx hb dL_33 (by decide) (by decide) (by decide) (by decide) ?_
        obtain ⟨r, Sa, Ma, e1, e2, hRI⟩ := h_day S M hRI 
        refine lv_aload_n hx hb dL_249 rfl (lv_at hl 1 rfl) ?_
        refine k_V2 (As := []) (rest := []) (st1 := [.int r]) C kx hK I hA (c_X10_day e1) ⟨Nat.le_of_ble_eq_true rfl, Nat.le_of_ble_eq_true rfl⟩ mv_X10_day lk_L_29 0 10 (xw_0 (cI := cI) (cC := cC) (cS := cS) (ad := adx)) rfl rfl hl.1 rfl (Nat.le_of_ble_eq_true rfl) dL_250 rfl ⟨Nat.le_of_ble_eq_true rfl, Nat.le_of_ble_eq_true rfl⟩ (fun H locs I => ?_)
        have I := I.swap
        refine lv_aload_n hx hb dL_253 rfl (lv_at hl 2 rfl) ?_
        refine k_V2 (As := []) (rest := [.int r]) (st1 := [.int r, .int r]) C kx hK I hA (c_X11_day e2) ⟨Nat.le_of_ble_eq_true rfl, Nat.le_of_ble_eq_true rfl⟩ mv_X11_day lk_L_32 0 11 (mw_0 (cI := cI) (ad := adm)) rfl rfl hl.1 rfl (Nat.le_of_ble_eq_true rfl) dL_254 rfl ⟨Nat.le_of_ble_eq_true rfl, Nat.le_of_ble_eq_true rfl⟩ (fun H locs I => ?_)
        have I := I.swap
        refine lv_icmp_eq (tgt := 1198) hx hb dL_257 (by decide) (fun _ => ?_) (fun q => absurd rfl q)
        exact fin Sa Ma hRI _ _ _ I hl
      rcases Decidable.em (z = 4) with c_z4 | c_z4
      · rw [c_z4]
        refine lv_tableIn (x := 4) (off := 229) (tgt := 262) hx hb dL_33 (by decide) (by decide) (by decide) (by decide) ?_
        obtain ⟨r, Sa, Ma, e1, e2, hRI⟩ := h_thing S M hRI (xs (x3 + 1).toNatClampNeg) (xs (x3 + 2).toNatClampNeg)
        refine lv_aload_n hx hb dL_262 rfl (lv_at hl 1 rfl) ?_
        refine lv_aload_n hx hb dL_263 rfl (lv_at hl 0 rfl) ?_
        refine lv_iload_n hx hb dL_264 rfl (lv_at hl 3 rfl) ?_
        refine lv_iconst (v := 1) hx hb dL_265 (by decide) ?_
        refine lv_iadd hx hb dL_266 ?_
        refine va_sld hx hb hX hbl hbA I.S hv1 dL_267 ?_
        refine lv_aload_n hx hb dL_268 rfl (lv_at hl 0 rfl) ?_
        refine lv_iload_n hx hb dL_269 rfl (lv_at hl 3 rfl) ?_
        refine lv_iconst (v := 2) hx hb dL_270 (by decide) ?_
        refine lv_iadd hx hb dL_271 ?_
        refine va_sld hx hb hX hbl hbA I.S hv2 dL_272 ?_
        refine k_V2 (As := [.int (xs (x3 + 1).toNatClampNeg), .int (xs (x3 + 2).toNatClampNeg)]) (rest := []) (st1 := [.int r]) C kx hK I hA (c_X10_thing e1) ⟨Nat.le_of_ble_eq_true rfl, Nat.le_of_ble_eq_true rfl⟩ mv_X10_thing lk_L_33 0 10 (xw_0 (cI := cI) (cC := cC) (cS := cS) (ad := adx)) rfl rfl hl.1 rfl (Nat.le_of_ble_eq_true rfl) dL_273 rfl ⟨Nat.le_of_ble_eq_true rfl, Nat.le_of_ble_eq_true rfl⟩ (fun H locs I => ?_)
        have I := I.swap
        refine lv_aload_n hx hb dL_276 rfl (lv_at hl 2 rfl) ?_
        refine lv_aload_n hx hb dL_277 rfl (lv_at hl 0 rfl) ?_
        refine lv_iload_n hx hb dL_278 rfl (lv_at hl 3 rfl) ?_
        refine lv_iconst (v := 1) hx hb dL_279 (by decide) ?_
        refine lv_iadd hx hb dL_280 ?_
        refine va_sld hx hb hX hbl hbA I.S hv1 dL_281 ?_
        refine lv_aload_n hx hb dL_282 rfl (lv_at hl 0 rfl) ?_
        refine lv_iload_n hx hb dL_283 rfl (lv_at hl 3 rfl) ?_
        refine lv_iconst (v := 2) hx hb dL_284 (by decide) ?_
        refine lv_iadd hx hb dL_285 ?_
        refine va_sld hx hb hX hbl hbA I.S hv2 dL_286 ?_
        refine k_V2 (As := [.int (xs (x3 + 1).toNatClampNeg), .int (xs (x3 + 2).toNatClampNeg)]) (rest := [.int r]) (st1 := [.int r, .int r]) C kx hK I hA (c_X11_thing e2) ⟨Nat.le_of_ble_eq_true rfl, Nat.le_of_ble_eq_true rfl⟩ mv_X11_thing lk_L_37 0 11 (mw_0 (cI := cI) (ad := adm)) rfl rfl hl.1 rfl (Nat.le_of_ble_eq_true rfl) dL_287 rfl ⟨Nat.le_of_ble_eq_true rfl, Nat.le_of_ble_eq_true rfl⟩ (fun H locs I => ?_)
        have I := I.swap
        refine lv_icmp_eq (tgt := 1198) hx hb dL_290 (by decide) (fun _ => ?_) (fun q => absurd rfl q)
        exact fin Sa Ma hRI _ _ _ I hl
      rcases Decidable.em (z = 5) with c_z5 | c_z5
      · rw [c_z5]
        refine lv_tableIn (x := 5) (off := 262) (tgt := 295) hx hb dL_33 (by decide) (by decide) (by decide) (by decide) ?_
        obtain ⟨r, Sa, Ma, e1, e2, hRI⟩ := h_call S M hRI (xs (x3 + 1).toNatClampNeg) (xs (x3 + 2).toNatClampNeg)
        refine lv_aload_n hx hb dL_295 rfl (lv_at hl 1 rfl) ?_
        refine lv_aload_n hx hb dL_296 rfl (lv_at hl 0 rfl) ?_
        refine lv_iload_n hx hb dL_297 rfl (lv_at hl 3 rfl) ?_
        refine lv_iconst (v := 1) hx hb dL_298 (by decide) ?_
        refine lv_iadd hx hb dL_299 ?_
        refine va_sld hx hb hX hbl hbA I.S hv1 dL_300 ?_
        refine lv_aload_n hx hb dL_301 rfl (lv_at hl 0 rfl) ?_
        refine lv_iload_n hx hb dL_302 rfl (lv_at hl 3 rfl) ?_
        refine lv_iconst (v := 2) hx hb dL_303 (by decide) ?_
        refine lv_iadd hx hb dL_304 ?_
        refine va_sld hx hb hX hbl hbA I.S hv2 dL_305 ?_
        refine k_V2 (As := [.int (xs (x3 + 1).toNatClampNeg), .int (xs (x3 + 2).toNatClampNeg)]) (rest := []) (st1 := [.int r]) C kx hK I hA (c_X10_call e1) ⟨Nat.le_of_ble_eq_true rfl, Nat.le_of_ble_eq_true rfl⟩ mv_X10_call lk_L_38 0 10 (xw_0 (cI := cI) (cC := cC) (cS := cS) (ad := adx)) rfl rfl hl.1 rfl (Nat.le_of_ble_eq_true rfl) dL_306 rfl ⟨Nat.le_of_ble_eq_true rfl, Nat.le_of_ble_eq_true rfl⟩ (fun H locs I => ?_)
        have I := I.swap
        refine lv_aload_n hx hb dL_309 rfl (lv_at hl 2 rfl) ?_
        refine lv_aload_n hx hb dL_310 rfl (lv_at hl 0 rfl) ?_
        refine lv_iload_n hx hb dL_311 rfl (lv_at hl 3 rfl) ?_
        refine lv_iconst (v := 1) hx hb dL_312 (by decide) ?_
        refine lv_iadd hx hb dL_313 ?_
        refine va_sld hx hb hX hbl hbA I.S hv1 dL_314 ?_
        refine lv_aload_n hx hb dL_315 rfl (lv_at hl 0 rfl) ?_
        refine lv_iload_n hx hb dL_316 rfl (lv_at hl 3 rfl) ?_
        refine lv_iconst (v := 2) hx hb dL_317 (by decide) ?_
        refine lv_iadd hx hb dL_318 ?_
        refine va_sld hx hb hX hbl hbA I.S hv2 dL_319 ?_
        refine k_V2 (As := [.int (xs (x3 + 1).toNatClampNeg), .int (xs (x3 + 2).toNatClampNeg)]) (rest := [.int r]) (st1 := [.int r, .int r]) C kx hK I hA (c_X11_call e2) ⟨Nat.le_of_ble_eq_true rfl, Nat.le_of_ble_eq_true rfl⟩ mv_X11_call lk_L_41 0 11 (mw_0 (cI := cI) (ad := adm)) rfl rfl hl.1 rfl (Nat.le_of_ble_eq_true rfl) dL_320 rfl ⟨Nat.le_of_ble_eq_true rfl, Nat.le_of_ble_eq_true rfl⟩ (fun H locs I => ?_)
        have I := I.swap
        refine lv_icmp_eq (tgt := 1198) hx hb dL_323 (by decide) (fun _ => ?_) (fun q => absurd rfl q)
        exact fin Sa Ma hRI _ _ _ I hl
      rcases Decidable.em (z = 6) with c_z6 | c_z6
      · rw [c_z6]
        refine lv_tableIn (x := 6) (off := 295) (tgt := 328) hx hb dL_33 (by decide) (by decide) (by decide) (by decide) ?_
        obtain ⟨r, Sa, Ma, e1, e2, hRI⟩ := h_sort S M hRI (xs (x3 + 1).toNatClampNeg) (xs (x3 + 2).toNatClampNeg) (xs (x3 + 3).toNatClampNeg)
        refine lv_aload_n hx hb dL_328 rfl (lv_at hl 1 rfl) ?_
        refine lv_aload_n hx hb dL_329 rfl (lv_at hl 0 rfl) ?_
        refine lv_iload_n hx hb dL_330 rfl (lv_at hl 3 rfl) ?_
        refine lv_iconst (v := 1) hx hb dL_331 (by decide) ?_
        refine lv_iadd hx hb dL_332 ?_
        refine va_sld hx hb hX hbl hbA I.S hv1 dL_333 ?_
        refine lv_aload_n hx hb dL_334 rfl (lv_at hl 0 rfl) ?_
        refine lv_iload_n hx hb dL_335 rfl (lv_at hl 3 rfl) ?_
        refine lv_iconst (v := 2) hx hb dL_336 (by decide) ?_
        refine lv_iadd hx hb dL_337 ?_
        refine va_sld hx hb hX hbl hbA I.S hv2 dL_338 ?_
        refine lv_aload_n hx hb dL_339 rfl (lv_at hl 0 rfl) ?_
        refine lv_iload_n hx hb dL_340 rfl (lv_at hl 3 rfl) ?_
        refine lv_iconst (v := 3) hx hb dL_341 (by decide) ?_
        refine lv_iadd hx hb dL_342 ?_
        refine va_sld hx hb hX hbl hbA I.S hv3 dL_343 ?_
        refine k_V2 (As := [.int (xs (x3 + 1).toNatClampNeg), .int (xs (x3 + 2).toNatClampNeg), .int (xs (x3 + 3).toNatClampNeg)]) (rest := []) (st1 := [.int r]) C kx hK I hA (c_X10_sort e1) ⟨Nat.le_of_ble_eq_true rfl, Nat.le_of_ble_eq_true rfl⟩ mv_X10_sort lk_L_42 0 10 (xw_0 (cI := cI) (cC := cC) (cS := cS) (ad := adx)) rfl rfl hl.1 rfl (Nat.le_of_ble_eq_true rfl) dL_344 rfl ⟨Nat.le_of_ble_eq_true rfl, Nat.le_of_ble_eq_true rfl⟩ (fun H locs I => ?_)
        have I := I.swap
        refine lv_aload_n hx hb dL_347 rfl (lv_at hl 2 rfl) ?_
        refine lv_aload_n hx hb dL_348 rfl (lv_at hl 0 rfl) ?_
        refine lv_iload_n hx hb dL_349 rfl (lv_at hl 3 rfl) ?_
        refine lv_iconst (v := 1) hx hb dL_350 (by decide) ?_
        refine lv_iadd hx hb dL_351 ?_
        refine va_sld hx hb hX hbl hbA I.S hv1 dL_352 ?_
        refine lv_aload_n hx hb dL_353 rfl (lv_at hl 0 rfl) ?_
        refine lv_iload_n hx hb dL_354 rfl (lv_at hl 3 rfl) ?_
        refine lv_iconst (v := 2) hx hb dL_355 (by decide) ?_
        refine lv_iadd hx hb dL_356 ?_
        refine va_sld hx hb hX hbl hbA I.S hv2 dL_357 ?_
        refine lv_aload_n hx hb dL_358 rfl (lv_at hl 0 rfl) ?_
        refine lv_iload_n hx hb dL_359 rfl (lv_at hl 3 rfl) ?_
        refine lv_iconst (v := 3) hx hb dL_360 (by decide) ?_
        refine lv_iadd hx hb dL_361 ?_
        refine va_sld hx hb hX hbl hbA I.S hv3 dL_362 ?_
        refine k_V2 (As := [.int (xs (x3 + 1).toNatClampNeg), .int (xs (x3 + 2).toNatClampNeg), .int (xs (x3 + 3).toNatClampNeg)]) (rest := [.int r]) (st1 := [.int r, .int r]) C kx hK I hA (c_X11_sort e2) ⟨Nat.le_of_ble_eq_true rfl, Nat.le_of_ble_eq_true rfl⟩ mv_X11_sort lk_L_46 0 11 (mw_0 (cI := cI) (ad := adm)) rfl rfl hl.1 rfl (Nat.le_of_ble_eq_true rfl) dL_363 rfl ⟨Nat.le_of_ble_eq_true rfl, Nat.le_of_ble_eq_true rfl⟩ (fun H locs I => ?_)
        have I := I.swap
        refine lv_icmp_eq (tgt := 1198) hx hb dL_366 (by decide) (fun _ => ?_) (fun q => absurd rfl q)
        exact fin Sa Ma hRI _ _ _ I hl
      rcases Decidable.em (z = 7) with c_z7 | c_z7
      · rw [c_z7]
        refine lv_tableIn (x := 7) (off := 338) (tgt := 371) hx hb dL_33 (by decide) (by decide) (by decide) (by decide) ?_
        obtain ⟨r, Sa, Ma, e1, e2, hRI⟩ := h_way S M hRI (xs (x3 + 1).toNatClampNeg) (xs (x3 + 2).toNatClampNeg)
        refine lv_aload_n hx hb dL_371 rfl (lv_at hl 1 rfl) ?_
        refine lv_aload_n hx hb dL_372 rfl (lv_at hl 0 rfl) ?_
        refine lv_iload_n hx hb dL_373 rfl (lv_at hl 3 rfl) ?_
        refine lv_iconst (v := 1) hx hb dL_374 (by decide) ?_
        refine lv_iadd hx hb dL_375 ?_
        refine va_sld hx hb hX hbl hbA I.S hv1 dL_376 ?_
        refine lv_aload_n hx hb dL_377 rfl (lv_at hl 0 rfl) ?_
        refine lv_iload_n hx hb dL_378 rfl (lv_at hl 3 rfl) ?_
        refine lv_iconst (v := 2) hx hb dL_379 (by decide) ?_
        refine lv_iadd hx hb dL_380 ?_
        refine va_sld hx hb hX hbl hbA I.S hv2 dL_381 ?_
        refine k_V2 (As := [.int (xs (x3 + 1).toNatClampNeg), .int (xs (x3 + 2).toNatClampNeg)]) (rest := []) (st1 := [.int r]) C kx hK I hA (c_X10_way e1) ⟨Nat.le_of_ble_eq_true rfl, Nat.le_of_ble_eq_true rfl⟩ mv_X10_way lk_L_47 0 10 (xw_0 (cI := cI) (cC := cC) (cS := cS) (ad := adx)) rfl rfl hl.1 rfl (Nat.le_of_ble_eq_true rfl) dL_382 rfl ⟨Nat.le_of_ble_eq_true rfl, Nat.le_of_ble_eq_true rfl⟩ (fun H locs I => ?_)
        have I := I.swap
        refine lv_aload_n hx hb dL_385 rfl (lv_at hl 2 rfl) ?_
        refine lv_aload_n hx hb dL_386 rfl (lv_at hl 0 rfl) ?_
        refine lv_iload_n hx hb dL_387 rfl (lv_at hl 3 rfl) ?_
        refine lv_iconst (v := 1) hx hb dL_388 (by decide) ?_
        refine lv_iadd hx hb dL_389 ?_
        refine va_sld hx hb hX hbl hbA I.S hv1 dL_390 ?_
        refine lv_aload_n hx hb dL_391 rfl (lv_at hl 0 rfl) ?_
        refine lv_iload_n hx hb dL_392 rfl (lv_at hl 3 rfl) ?_
        refine lv_iconst (v := 2) hx hb dL_393 (by decide) ?_
        refine lv_iadd hx hb dL_394 ?_
        refine va_sld hx hb hX hbl hbA I.S hv2 dL_395 ?_
        refine k_V2 (As := [.int (xs (x3 + 1).toNatClampNeg), .int (xs (x3 + 2).toNatClampNeg)]) (rest := [.int r]) (st1 := [.int r, .int r]) C kx hK I hA (c_X11_way e2) ⟨Nat.le_of_ble_eq_true rfl, Nat.le_of_ble_eq_true rfl⟩ mv_X11_way lk_L_50 0 11 (mw_0 (cI := cI) (ad := adm)) rfl rfl hl.1 rfl (Nat.le_of_ble_eq_true rfl) dL_396 rfl ⟨Nat.le_of_ble_eq_true rfl, Nat.le_of_ble_eq_true rfl⟩ (fun H locs I => ?_)
        have I := I.swap
        refine lv_icmp_eq (tgt := 1198) hx hb dL_399 (by decide) (fun _ => ?_) (fun q => absurd rfl q)
        exact fin Sa Ma hRI _ _ _ I hl
      rcases Decidable.em (z = 8) with c_z8 | c_z8
      · rw [c_z8]
        refine lv_tableIn (x := 8) (off := 371) (tgt := 404) hx hb dL_33 (by decide) (by decide) (by decide) (by decide) ?_
        obtain ⟨r, Sa, Ma, e1, e2, hRI⟩ := h_may S M hRI (xs (x3 + 1).toNatClampNeg)
        refine lv_aload_n hx hb dL_404 rfl (lv_at hl 1 rfl) ?_
        refine lv_aload_n hx hb dL_405 rfl (lv_at hl 0 rfl) ?_
        refine lv_iload_n hx hb dL_406 rfl (lv_at hl 3 rfl) ?_
        refine lv_iconst (v := 1) hx hb dL_407 (by decide) ?_
        refine lv_iadd hx hb dL_408 ?_
        refine va_sld hx hb hX hbl hbA I.S hv1 dL_409 ?_
        refine k_V2 (As := [.int (xs (x3 + 1).toNatClampNeg)]) (rest := []) (st1 := [.int r]) C kx hK I hA (c_X10_may e1) ⟨Nat.le_of_ble_eq_true rfl, Nat.le_of_ble_eq_true rfl⟩ mv_X10_may lk_L_51 0 10 (xw_0 (cI := cI) (cC := cC) (cS := cS) (ad := adx)) rfl rfl hl.1 rfl (Nat.le_of_ble_eq_true rfl) dL_410 rfl ⟨Nat.le_of_ble_eq_true rfl, Nat.le_of_ble_eq_true rfl⟩ (fun H locs I => ?_)
        have I := I.swap
        refine lv_aload_n hx hb dL_413 rfl (lv_at hl 2 rfl) ?_
        refine lv_aload_n hx hb dL_414 rfl (lv_at hl 0 rfl) ?_
        refine lv_iload_n hx hb dL_415 rfl (lv_at hl 3 rfl) ?_
        refine lv_iconst (v := 1) hx hb dL_416 (by decide) ?_
        refine lv_iadd hx hb dL_417 ?_
        refine va_sld hx hb hX hbl hbA I.S hv1 dL_418 ?_
        refine k_V2 (As := [.int (xs (x3 + 1).toNatClampNeg)]) (rest := [.int r]) (st1 := [.int r, .int r]) C kx hK I hA (c_X11_may e2) ⟨Nat.le_of_ble_eq_true rfl, Nat.le_of_ble_eq_true rfl⟩ mv_X11_may lk_L_55 0 11 (mw_0 (cI := cI) (ad := adm)) rfl rfl hl.1 rfl (Nat.le_of_ble_eq_true rfl) dL_419 rfl ⟨Nat.le_of_ble_eq_true rfl, Nat.le_of_ble_eq_true rfl⟩ (fun H locs I => ?_)
        have I := I.swap
        refine lv_icmp_eq (tgt := 1198) hx hb dL_422 (by decide) (fun _ => ?_) (fun q => absurd rfl q)
        exact fin Sa Ma hRI _ _ _ I hl
      rcases Decidable.em (z = 9) with c_z9 | c_z9
      · rw [c_z9]
        refine lv_tableIn (x := 9) (off := 394) (tgt := 427) hx hb dL_33 (by decide) (by decide) (by decide) (by decide) ?_
        obtain ⟨r, Sa, Ma, e1, e2, hRI⟩ := h_does S M hRI (xs (x3 + 1).toNatClampNeg) (xs (x3 + 2).toNatClampNeg) (xs (x3 + 3).toNatClampNeg)
        refine lv_aload_n hx hb dL_427 rfl (lv_at hl 1 rfl) ?_
        refine lv_aload_n hx hb dL_428 rfl (lv_at hl 0 rfl) ?_
        refine lv_iload_n hx hb dL_429 rfl (lv_at hl 3 rfl) ?_
        refine lv_iconst (v := 1) hx hb dL_430 (by decide) ?_
        refine lv_iadd hx hb dL_431 ?_
        refine va_sld hx hb hX hbl hbA I.S hv1 dL_432 ?_
        refine lv_aload_n hx hb dL_433 rfl (lv_at hl 0 rfl) ?_
        refine lv_iload_n hx hb dL_434 rfl (lv_at hl 3 rfl) ?_
        refine lv_iconst (v := 2) hx hb dL_435 (by decide) ?_
        refine lv_iadd hx hb dL_436 ?_
        refine va_sld hx hb hX hbl hbA I.S hv2 dL_437 ?_
        refine lv_aload_n hx hb dL_438 rfl (lv_at hl 0 rfl) ?_
        refine lv_iload_n hx hb dL_439 rfl (lv_at hl 3 rfl) ?_
        refine lv_iconst (v := 3) hx hb dL_440 (by decide) ?_
        refine lv_iadd hx hb dL_441 ?_
        refine va_sld hx hb hX hbl hbA I.S hv3 dL_442 ?_
        refine k_V2 (As := [.int (xs (x3 + 1).toNatClampNeg), .int (xs (x3 + 2).toNatClampNeg), .int (xs (x3 + 3).toNatClampNeg)]) (rest := []) (st1 := [.int r]) C kx hK I hA (c_X10_does e1) ⟨Nat.le_of_ble_eq_true rfl, Nat.le_of_ble_eq_true rfl⟩ mv_X10_does lk_L_56 0 10 (xw_0 (cI := cI) (cC := cC) (cS := cS) (ad := adx)) rfl rfl hl.1 rfl (Nat.le_of_ble_eq_true rfl) dL_443 rfl ⟨Nat.le_of_ble_eq_true rfl, Nat.le_of_ble_eq_true rfl⟩ (fun H locs I => ?_)
        have I := I.swap
        refine lv_aload_n hx hb dL_446 rfl (lv_at hl 2 rfl) ?_
        refine lv_aload_n hx hb dL_447 rfl (lv_at hl 0 rfl) ?_
        refine lv_iload_n hx hb dL_448 rfl (lv_at hl 3 rfl) ?_
        refine lv_iconst (v := 1) hx hb dL_449 (by decide) ?_
        refine lv_iadd hx hb dL_450 ?_
        refine va_sld hx hb hX hbl hbA I.S hv1 dL_451 ?_
        refine lv_aload_n hx hb dL_452 rfl (lv_at hl 0 rfl) ?_
        refine lv_iload_n hx hb dL_453 rfl (lv_at hl 3 rfl) ?_
        refine lv_iconst (v := 2) hx hb dL_454 (by decide) ?_
        refine lv_iadd hx hb dL_455 ?_
        refine va_sld hx hb hX hbl hbA I.S hv2 dL_456 ?_
        refine lv_aload_n hx hb dL_457 rfl (lv_at hl 0 rfl) ?_
        refine lv_iload_n hx hb dL_458 rfl (lv_at hl 3 rfl) ?_
        refine lv_iconst (v := 3) hx hb dL_459 (by decide) ?_
        refine lv_iadd hx hb dL_460 ?_
        refine va_sld hx hb hX hbl hbA I.S hv3 dL_461 ?_
        refine k_V2 (As := [.int (xs (x3 + 1).toNatClampNeg), .int (xs (x3 + 2).toNatClampNeg), .int (xs (x3 + 3).toNatClampNeg)]) (rest := [.int r]) (st1 := [.int r, .int r]) C kx hK I hA (c_X11_does e2) ⟨Nat.le_of_ble_eq_true rfl, Nat.le_of_ble_eq_true rfl⟩ mv_X11_does lk_L_59 0 11 (mw_0 (cI := cI) (ad := adm)) rfl rfl hl.1 rfl (Nat.le_of_ble_eq_true rfl) dL_462 rfl ⟨Nat.le_of_ble_eq_true rfl, Nat.le_of_ble_eq_true rfl⟩ (fun H locs I => ?_)
        have I := I.swap
        refine lv_icmp_eq (tgt := 1198) hx hb dL_465 (by decide) (fun _ => ?_) (fun q => absurd rfl q)
        exact fin Sa Ma hRI _ _ _ I hl
      rcases Decidable.em (z = 10) with c_z10 | c_z10
      · rw [c_z10]
        refine lv_tableIn (x := 10) (off := 437) (tgt := 470) hx hb dL_33 (by decide) (by decide) (by decide) (by decide) ?_
        obtain ⟨r, Sa, Ma, e1, e2, hRI⟩ := h_chance S M hRI (xs (x3 + 1).toNatClampNeg) (xs (x3 + 2).toNatClampNeg) (xs (x3 + 3).toNatClampNeg)
        refine lv_aload_n hx hb dL_470 rfl (lv_at hl 1 rfl) ?_
        refine lv_aload_n hx hb dL_471 rfl (lv_at hl 0 rfl) ?_
        refine lv_iload_n hx hb dL_472 rfl (lv_at hl 3 rfl) ?_
        refine lv_iconst (v := 1) hx hb dL_473 (by decide) ?_
        refine lv_iadd hx hb dL_474 ?_
        refine va_sld hx hb hX hbl hbA I.S hv1 dL_475 ?_
        refine lv_aload_n hx hb dL_476 rfl (lv_at hl 0 rfl) ?_
        refine lv_iload_n hx hb dL_477 rfl (lv_at hl 3 rfl) ?_
        refine lv_iconst (v := 2) hx hb dL_478 (by decide) ?_
        refine lv_iadd hx hb dL_479 ?_
        refine va_sld hx hb hX hbl hbA I.S hv2 dL_480 ?_
        refine lv_aload_n hx hb dL_481 rfl (lv_at hl 0 rfl) ?_
        refine lv_iload_n hx hb dL_482 rfl (lv_at hl 3 rfl) ?_
        refine lv_iconst (v := 3) hx hb dL_483 (by decide) ?_
        refine lv_iadd hx hb dL_484 ?_
        refine va_sld hx hb hX hbl hbA I.S hv3 dL_485 ?_
        refine k_V2 (As := [.int (xs (x3 + 1).toNatClampNeg), .int (xs (x3 + 2).toNatClampNeg), .int (xs (x3 + 3).toNatClampNeg)]) (rest := []) (st1 := [.int r]) C kx hK I hA (c_X10_chance e1) ⟨Nat.le_of_ble_eq_true rfl, Nat.le_of_ble_eq_true rfl⟩ mv_X10_chance lk_L_60 0 10 (xw_0 (cI := cI) (cC := cC) (cS := cS) (ad := adx)) rfl rfl hl.1 rfl (Nat.le_of_ble_eq_true rfl) dL_486 rfl ⟨Nat.le_of_ble_eq_true rfl, Nat.le_of_ble_eq_true rfl⟩ (fun H locs I => ?_)
        have I := I.swap
        refine lv_aload_n hx hb dL_489 rfl (lv_at hl 2 rfl) ?_
        refine lv_aload_n hx hb dL_490 rfl (lv_at hl 0 rfl) ?_
        refine lv_iload_n hx hb dL_491 rfl (lv_at hl 3 rfl) ?_
        refine lv_iconst (v := 1) hx hb dL_492 (by decide) ?_
        refine lv_iadd hx hb dL_493 ?_
        refine va_sld hx hb hX hbl hbA I.S hv1 dL_494 ?_
        refine lv_aload_n hx hb dL_495 rfl (lv_at hl 0 rfl) ?_
        refine lv_iload_n hx hb dL_496 rfl (lv_at hl 3 rfl) ?_
        refine lv_iconst (v := 2) hx hb dL_497 (by decide) ?_
        refine lv_iadd hx hb dL_498 ?_
        refine va_sld hx hb hX hbl hbA I.S hv2 dL_499 ?_
        refine lv_aload_n hx hb dL_500 rfl (lv_at hl 0 rfl) ?_
        refine lv_iload_n hx hb dL_501 rfl (lv_at hl 3 rfl) ?_
        refine lv_iconst (v := 3) hx hb dL_502 (by decide) ?_
        refine lv_iadd hx hb dL_503 ?_
        refine va_sld hx hb hX hbl hbA I.S hv3 dL_504 ?_
        refine k_V2 (As := [.int (xs (x3 + 1).toNatClampNeg), .int (xs (x3 + 2).toNatClampNeg), .int (xs (x3 + 3).toNatClampNeg)]) (rest := [.int r]) (st1 := [.int r, .int r]) C kx hK I hA (c_X11_chance e2) ⟨Nat.le_of_ble_eq_true rfl, Nat.le_of_ble_eq_true rfl⟩ mv_X11_chance lk_L_63 0 11 (mw_0 (cI := cI) (ad := adm)) rfl rfl hl.1 rfl (Nat.le_of_ble_eq_true rfl) dL_505 rfl ⟨Nat.le_of_ble_eq_true rfl, Nat.le_of_ble_eq_true rfl⟩ (fun H locs I => ?_)
        have I := I.swap
        refine lv_icmp_eq (tgt := 1198) hx hb dL_508 (by decide) (fun _ => ?_) (fun q => absurd rfl q)
        exact fin Sa Ma hRI _ _ _ I hl
      rcases Decidable.em (z = 11) with c_z11 | c_z11
      · rw [c_z11]
        refine lv_tableIn (x := 11) (off := 480) (tgt := 513) hx hb dL_33 (by decide) (by decide) (by decide) (by decide) ?_
        obtain ⟨r, Sa, Ma, e1, e2, hRI⟩ := h_mean S M hRI (xs (x3 + 1).toNatClampNeg) (xs (x3 + 2).toNatClampNeg) (xs (x3 + 3).toNatClampNeg) (xs (x3 + 4).toNatClampNeg)
        refine lv_aload_n hx hb dL_513 rfl (lv_at hl 1 rfl) ?_
        refine lv_aload_n hx hb dL_514 rfl (lv_at hl 0 rfl) ?_
        refine lv_iload_n hx hb dL_515 rfl (lv_at hl 3 rfl) ?_
        refine lv_iconst (v := 1) hx hb dL_516 (by decide) ?_
        refine lv_iadd hx hb dL_517 ?_
        refine va_sld hx hb hX hbl hbA I.S hv1 dL_518 ?_
        refine lv_aload_n hx hb dL_519 rfl (lv_at hl 0 rfl) ?_
        refine lv_iload_n hx hb dL_520 rfl (lv_at hl 3 rfl) ?_
        refine lv_iconst (v := 2) hx hb dL_521 (by decide) ?_
        refine lv_iadd hx hb dL_522 ?_
        refine va_sld hx hb hX hbl hbA I.S hv2 dL_523 ?_
        refine lv_aload_n hx hb dL_524 rfl (lv_at hl 0 rfl) ?_
        refine lv_iload_n hx hb dL_525 rfl (lv_at hl 3 rfl) ?_
        refine lv_iconst (v := 3) hx hb dL_526 (by decide) ?_
        refine lv_iadd hx hb dL_527 ?_
        refine va_sld hx hb hX hbl hbA I.S hv3 dL_528 ?_
        refine lv_aload_n hx hb dL_529 rfl (lv_at hl 0 rfl) ?_
        refine lv_iload_n hx hb dL_530 rfl (lv_at hl 3 rfl) ?_
        refine lv_iconst (v := 4) hx hb dL_531 (by decide) ?_
        refine lv_iadd hx hb dL_532 ?_
        refine va_sld hx hb hX hbl hbA I.S hv4 dL_533 ?_
        refine k_V2 (As := [.int (xs (x3 + 1).toNatClampNeg), .int (xs (x3 + 2).toNatClampNeg), .int (xs (x3 + 3).toNatClampNeg), .int (xs (x3 + 4).toNatClampNeg)]) (rest := []) (st1 := [.long r]) C kx hK I hA (c_X10_mean e1) ⟨Nat.le_of_ble_eq_true rfl, Nat.le_of_ble_eq_true rfl⟩ mv_X10_mean lk_L_64 0 10 (xw_0 (cI := cI) (cC := cC) (cS := cS) (ad := adx)) rfl rfl hl.1 rfl (Nat.le_of_ble_eq_true rfl) dL_534 rfl ⟨Nat.le_of_ble_eq_true rfl, Nat.le_of_ble_eq_true rfl⟩ (fun H locs I => ?_)
        have I := I.swap
        refine lv_aload_n hx hb dL_537 rfl (lv_at hl 2 rfl) ?_
        refine lv_aload_n hx hb dL_538 rfl (lv_at hl 0 rfl) ?_
        refine lv_iload_n hx hb dL_539 rfl (lv_at hl 3 rfl) ?_
        refine lv_iconst (v := 1) hx hb dL_540 (by decide) ?_
        refine lv_iadd hx hb dL_541 ?_
        refine va_sld hx hb hX hbl hbA I.S hv1 dL_542 ?_
        refine lv_aload_n hx hb dL_543 rfl (lv_at hl 0 rfl) ?_
        refine lv_iload_n hx hb dL_544 rfl (lv_at hl 3 rfl) ?_
        refine lv_iconst (v := 2) hx hb dL_545 (by decide) ?_
        refine lv_iadd hx hb dL_546 ?_
        refine va_sld hx hb hX hbl hbA I.S hv2 dL_547 ?_
        refine lv_aload_n hx hb dL_548 rfl (lv_at hl 0 rfl) ?_
        refine lv_iload_n hx hb dL_549 rfl (lv_at hl 3 rfl) ?_
        refine lv_iconst (v := 3) hx hb dL_550 (by decide) ?_
        refine lv_iadd hx hb dL_551 ?_
        refine va_sld hx hb hX hbl hbA I.S hv3 dL_552 ?_
        refine lv_aload_n hx hb dL_553 rfl (lv_at hl 0 rfl) ?_
        refine lv_iload_n hx hb dL_554 rfl (lv_at hl 3 rfl) ?_
        refine lv_iconst (v := 4) hx hb dL_555 (by decide) ?_
        refine lv_iadd hx hb dL_556 ?_
        refine va_sld hx hb hX hbl hbA I.S hv4 dL_557 ?_
        refine k_V2 (As := [.int (xs (x3 + 1).toNatClampNeg), .int (xs (x3 + 2).toNatClampNeg), .int (xs (x3 + 3).toNatClampNeg), .int (xs (x3 + 4).toNatClampNeg)]) (rest := [.long r]) (st1 := [.long r, .long r]) C kx hK I hA (c_X11_mean e2) ⟨Nat.le_of_ble_eq_true rfl, Nat.le_of_ble_eq_true rfl⟩ mv_X11_mean lk_L_68 0 11 (mw_0 (cI := cI) (ad := adm)) rfl rfl hl.1 rfl (Nat.le_of_ble_eq_true rfl) dL_558 rfl ⟨Nat.le_of_ble_eq_true rfl, Nat.le_of_ble_eq_true rfl⟩ (fun H locs I => ?_)
        have I := I.swap
        refine W.lcmp hx hb dL_561 ?_
        rw [lgc_self]
        refine lv_if_eq (tgt := 1198) hx hb dL_562 (by decide) (fun _ => ?_) (fun q => absurd rfl q)
        exact fin Sa Ma hRI _ _ _ I hl
      rcases Decidable.em (z = 12) with c_z12 | c_z12
      · rw [c_z12]
        refine lv_tableIn (x := 12) (off := 534) (tgt := 567) hx hb dL_33 (by decide) (by decide) (by decide) (by decide) ?_
        obtain ⟨r, Sa, Ma, e1, e2, hRI⟩ := h_all S M hRI (xs (x3 + 1).toNatClampNeg) (xs (x3 + 2).toNatClampNeg) (xs (x3 + 3).toNatClampNeg) (xs (x3 + 4).toNatClampNeg)
        refine lv_aload_n hx hb dL_567 rfl (lv_at hl 1 rfl) ?_
        refine lv_aload_n hx hb dL_568 rfl (lv_at hl 0 rfl) ?_
        refine lv_iload_n hx hb dL_569 rfl (lv_at hl 3 rfl) ?_
        refine lv_iconst (v := 1) hx hb dL_570 (by decide) ?_
        refine lv_iadd hx hb dL_571 ?_
        refine va_sld hx hb hX hbl hbA I.S hv1 dL_572 ?_
        refine lv_aload_n hx hb dL_573 rfl (lv_at hl 0 rfl) ?_
        refine lv_iload_n hx hb dL_574 rfl (lv_at hl 3 rfl) ?_
        refine lv_iconst (v := 2) hx hb dL_575 (by decide) ?_
        refine lv_iadd hx hb dL_576 ?_
        refine va_sld hx hb hX hbl hbA I.S hv2 dL_577 ?_
        refine lv_aload_n hx hb dL_578 rfl (lv_at hl 0 rfl) ?_
        refine lv_iload_n hx hb dL_579 rfl (lv_at hl 3 rfl) ?_
        refine lv_iconst (v := 3) hx hb dL_580 (by decide) ?_
        refine lv_iadd hx hb dL_581 ?_
        refine va_sld hx hb hX hbl hbA I.S hv3 dL_582 ?_
        refine lv_aload_n hx hb dL_583 rfl (lv_at hl 0 rfl) ?_
        refine lv_iload_n hx hb dL_584 rfl (lv_at hl 3 rfl) ?_
        refine lv_iconst (v := 4) hx hb dL_585 (by decide) ?_
        refine lv_iadd hx hb dL_586 ?_
        refine va_sld hx hb hX hbl hbA I.S hv4 dL_587 ?_
        refine k_V2 (As := [.int (xs (x3 + 1).toNatClampNeg), .int (xs (x3 + 2).toNatClampNeg), .int (xs (x3 + 3).toNatClampNeg), .int (xs (x3 + 4).toNatClampNeg)]) (rest := []) (st1 := [.long r]) C kx hK I hA (c_X10_all e1) ⟨Nat.le_of_ble_eq_true rfl, Nat.le_of_ble_eq_true rfl⟩ mv_X10_all lk_L_69 0 10 (xw_0 (cI := cI) (cC := cC) (cS := cS) (ad := adx)) rfl rfl hl.1 rfl (Nat.le_of_ble_eq_true rfl) dL_588 rfl ⟨Nat.le_of_ble_eq_true rfl, Nat.le_of_ble_eq_true rfl⟩ (fun H locs I => ?_)
        have I := I.swap
        refine lv_aload_n hx hb dL_591 rfl (lv_at hl 2 rfl) ?_
        refine lv_aload_n hx hb dL_592 rfl (lv_at hl 0 rfl) ?_
        refine lv_iload_n hx hb dL_593 rfl (lv_at hl 3 rfl) ?_
        refine lv_iconst (v := 1) hx hb dL_594 (by decide) ?_
        refine lv_iadd hx hb dL_595 ?_
        refine va_sld hx hb hX hbl hbA I.S hv1 dL_596 ?_
        refine lv_aload_n hx hb dL_597 rfl (lv_at hl 0 rfl) ?_
        refine lv_iload_n hx hb dL_598 rfl (lv_at hl 3 rfl) ?_
        refine lv_iconst (v := 2) hx hb dL_599 (by decide) ?_
        refine lv_iadd hx hb dL_600 ?_
        refine va_sld hx hb hX hbl hbA I.S hv2 dL_601 ?_
        refine lv_aload_n hx hb dL_602 rfl (lv_at hl 0 rfl) ?_
        refine lv_iload_n hx hb dL_603 rfl (lv_at hl 3 rfl) ?_
        refine lv_iconst (v := 3) hx hb dL_604 (by decide) ?_
        refine lv_iadd hx hb dL_605 ?_
        refine va_sld hx hb hX hbl hbA I.S hv3 dL_606 ?_
        refine lv_aload_n hx hb dL_607 rfl (lv_at hl 0 rfl) ?_
        refine lv_iload_n hx hb dL_608 rfl (lv_at hl 3 rfl) ?_
        refine lv_iconst (v := 4) hx hb dL_609 (by decide) ?_
        refine lv_iadd hx hb dL_610 ?_
        refine va_sld hx hb hX hbl hbA I.S hv4 dL_611 ?_
        refine k_V2 (As := [.int (xs (x3 + 1).toNatClampNeg), .int (xs (x3 + 2).toNatClampNeg), .int (xs (x3 + 3).toNatClampNeg), .int (xs (x3 + 4).toNatClampNeg)]) (rest := [.long r]) (st1 := [.long r, .long r]) C kx hK I hA (c_X11_all e2) ⟨Nat.le_of_ble_eq_true rfl, Nat.le_of_ble_eq_true rfl⟩ mv_X11_all lk_L_72 0 11 (mw_0 (cI := cI) (ad := adm)) rfl rfl hl.1 rfl (Nat.le_of_ble_eq_true rfl) dL_612 rfl ⟨Nat.le_of_ble_eq_true rfl, Nat.le_of_ble_eq_true rfl⟩ (fun H locs I => ?_)
        have I := I.swap
        refine W.lcmp hx hb dL_615 ?_
        rw [lgc_self]
        refine lv_if_eq (tgt := 1198) hx hb dL_616 (by decide) (fun _ => ?_) (fun q => absurd rfl q)
        exact fin Sa Ma hRI _ _ _ I hl
      rcases Decidable.em (z = 13) with c_z13 | c_z13
      · rw [c_z13]
        refine lv_tableIn (x := 13) (off := 588) (tgt := 621) hx hb dL_33 (by decide) (by decide) (by decide) (by decide) ?_
        obtain ⟨r, Sa, Ma, e1, e2, hRI⟩ := h_end S M hRI (xs (x3 + 1).toNatClampNeg) (xs (x3 + 2).toNatClampNeg) (xs (x3 + 3).toNatClampNeg)
        refine lv_aload_n hx hb dL_621 rfl (lv_at hl 1 rfl) ?_
        refine lv_aload_n hx hb dL_622 rfl (lv_at hl 0 rfl) ?_
        refine lv_iload_n hx hb dL_623 rfl (lv_at hl 3 rfl) ?_
        refine lv_iconst (v := 1) hx hb dL_624 (by decide) ?_
        refine lv_iadd hx hb dL_625 ?_
        refine va_sld hx hb hX hbl hbA I.S hv1 dL_626 ?_
        refine lv_aload_n hx hb dL_627 rfl (lv_at hl 0 rfl) ?_
        refine lv_iload_n hx hb dL_628 rfl (lv_at hl 3 rfl) ?_
        refine lv_iconst (v := 2) hx hb dL_629 (by decide) ?_
        refine lv_iadd hx hb dL_630 ?_
        refine va_sld hx hb hX hbl hbA I.S hv2 dL_631 ?_
        refine lv_aload_n hx hb dL_632 rfl (lv_at hl 0 rfl) ?_
        refine lv_iload_n hx hb dL_633 rfl (lv_at hl 3 rfl) ?_
        refine lv_iconst (v := 3) hx hb dL_634 (by decide) ?_
        refine lv_iadd hx hb dL_635 ?_
        refine va_sld hx hb hX hbl hbA I.S hv3 dL_636 ?_
        refine k_V2 (As := [.int (xs (x3 + 1).toNatClampNeg), .int (xs (x3 + 2).toNatClampNeg), .int (xs (x3 + 3).toNatClampNeg)]) (rest := []) (st1 := [.int r]) C kx hK I hA (c_X10_end e1) ⟨Nat.le_of_ble_eq_true rfl, Nat.le_of_ble_eq_true rfl⟩ mv_X10_end lk_L_73 0 10 (xw_0 (cI := cI) (cC := cC) (cS := cS) (ad := adx)) rfl rfl hl.1 rfl (Nat.le_of_ble_eq_true rfl) dL_637 rfl ⟨Nat.le_of_ble_eq_true rfl, Nat.le_of_ble_eq_true rfl⟩ (fun H locs I => ?_)
        have I := I.swap
        refine lv_aload_n hx hb dL_640 rfl (lv_at hl 2 rfl) ?_
        refine lv_aload_n hx hb dL_641 rfl (lv_at hl 0 rfl) ?_
        refine lv_iload_n hx hb dL_642 rfl (lv_at hl 3 rfl) ?_
        refine lv_iconst (v := 1) hx hb dL_643 (by decide) ?_
        refine lv_iadd hx hb dL_644 ?_
        refine va_sld hx hb hX hbl hbA I.S hv1 dL_645 ?_
        refine lv_aload_n hx hb dL_646 rfl (lv_at hl 0 rfl) ?_
        refine lv_iload_n hx hb dL_647 rfl (lv_at hl 3 rfl) ?_
        refine lv_iconst (v := 2) hx hb dL_648 (by decide) ?_
        refine lv_iadd hx hb dL_649 ?_
        refine va_sld hx hb hX hbl hbA I.S hv2 dL_650 ?_
        refine lv_aload_n hx hb dL_651 rfl (lv_at hl 0 rfl) ?_
        refine lv_iload_n hx hb dL_652 rfl (lv_at hl 3 rfl) ?_
        refine lv_iconst (v := 3) hx hb dL_653 (by decide) ?_
        refine lv_iadd hx hb dL_654 ?_
        refine va_sld hx hb hX hbl hbA I.S hv3 dL_655 ?_
        refine k_V2 (As := [.int (xs (x3 + 1).toNatClampNeg), .int (xs (x3 + 2).toNatClampNeg), .int (xs (x3 + 3).toNatClampNeg)]) (rest := [.int r]) (st1 := [.int r, .int r]) C kx hK I hA (c_X11_end e2) ⟨Nat.le_of_ble_eq_true rfl, Nat.le_of_ble_eq_true rfl⟩ mv_X11_end lk_L_76 0 11 (mw_0 (cI := cI) (ad := adm)) rfl rfl hl.1 rfl (Nat.le_of_ble_eq_true rfl) dL_656 rfl ⟨Nat.le_of_ble_eq_true rfl, Nat.le_of_ble_eq_true rfl⟩ (fun H locs I => ?_)
        have I := I.swap
        refine lv_icmp_eq (tgt := 1198) hx hb dL_659 (by decide) (fun _ => ?_) (fun q => absurd rfl q)
        exact fin Sa Ma hRI _ _ _ I hl
      rcases Decidable.em (z = 14) with c_z14 | c_z14
      · rw [c_z14]
        refine lv_tableIn (x := 14) (off := 631) (tgt := 664) hx hb dL_33 (by decide) (by decide) (by decide) (by decide) ?_
        obtain ⟨r, Sa, Ma, e1, e2, hRI⟩ := h_best S M hRI (xs (x3 + 1).toNatClampNeg) (xs (x3 + 2).toNatClampNeg)
        refine lv_aload_n hx hb dL_664 rfl (lv_at hl 1 rfl) ?_
        refine lv_aload_n hx hb dL_665 rfl (lv_at hl 0 rfl) ?_
        refine lv_iload_n hx hb dL_666 rfl (lv_at hl 3 rfl) ?_
        refine lv_iconst (v := 1) hx hb dL_667 (by decide) ?_
        refine lv_iadd hx hb dL_668 ?_
        refine va_sld hx hb hX hbl hbA I.S hv1 dL_669 ?_
        refine lv_aload_n hx hb dL_670 rfl (lv_at hl 0 rfl) ?_
        refine lv_iload_n hx hb dL_671 rfl (lv_at hl 3 rfl) ?_
        refine lv_iconst (v := 2) hx hb dL_672 (by decide) ?_
        refine lv_iadd hx hb dL_673 ?_
        refine va_sld hx hb hX hbl hbA I.S hv2 dL_674 ?_
        refine k_V2 (As := [.int (xs (x3 + 1).toNatClampNeg), .int (xs (x3 + 2).toNatClampNeg)]) (rest := []) (st1 := [.int r]) C kx hK I hA (c_X10_best e1) ⟨Nat.le_of_ble_eq_true rfl, Nat.le_of_ble_eq_true rfl⟩ mv_X10_best lk_L_77 0 10 (xw_0 (cI := cI) (cC := cC) (cS := cS) (ad := adx)) rfl rfl hl.1 rfl (Nat.le_of_ble_eq_true rfl) dL_675 rfl ⟨Nat.le_of_ble_eq_true rfl, Nat.le_of_ble_eq_true rfl⟩ (fun H locs I => ?_)
        have I := I.swap
        refine lv_aload_n hx hb dL_678 rfl (lv_at hl 2 rfl) ?_
        refine lv_aload_n hx hb dL_679 rfl (lv_at hl 0 rfl) ?_
        refine lv_iload_n hx hb dL_680 rfl (lv_at hl 3 rfl) ?_
        refine lv_iconst (v := 1) hx hb dL_681 (by decide) ?_
        refine lv_iadd hx hb dL_682 ?_
        refine va_sld hx hb hX hbl hbA I.S hv1 dL_683 ?_
        refine lv_aload_n hx hb dL_684 rfl (lv_at hl 0 rfl) ?_
        refine lv_iload_n hx hb dL_685 rfl (lv_at hl 3 rfl) ?_
        refine lv_iconst (v := 2) hx hb dL_686 (by decide) ?_
        refine lv_iadd hx hb dL_687 ?_
        refine va_sld hx hb hX hbl hbA I.S hv2 dL_688 ?_
        refine k_V2 (As := [.int (xs (x3 + 1).toNatClampNeg), .int (xs (x3 + 2).toNatClampNeg)]) (rest := [.int r]) (st1 := [.int r, .int r]) C kx hK I hA (c_X11_best e2) ⟨Nat.le_of_ble_eq_true rfl, Nat.le_of_ble_eq_true rfl⟩ mv_X11_best lk_L_80 0 11 (mw_0 (cI := cI) (ad := adm)) rfl rfl hl.1 rfl (Nat.le_of_ble_eq_true rfl) dL_689 rfl ⟨Nat.le_of_ble_eq_true rfl, Nat.le_of_ble_eq_true rfl⟩ (fun H locs I => ?_)
        have I := I.swap
        refine lv_icmp_eq (tgt := 1198) hx hb dL_692 (by decide) (fun _ => ?_) (fun q => absurd rfl q)
        exact fin Sa Ma hRI _ _ _ I hl
      rcases Decidable.em (z = 15) with c_z15 | c_z15
      · rw [c_z15]
        refine lv_tableIn (x := 15) (off := 664) (tgt := 697) hx hb dL_33 (by decide) (by decide) (by decide) (by decide) ?_
        obtain ⟨r, Sa, Ma, e1, e2, hRI⟩ := h_sure S M hRI (xs (x3 + 1).toNatClampNeg) (xs (x3 + 2).toNatClampNeg) (xs (x3 + 3).toNatClampNeg) (xs (x3 + 4).toNatClampNeg)
        refine lv_aload_n hx hb dL_697 rfl (lv_at hl 1 rfl) ?_
        refine lv_aload_n hx hb dL_698 rfl (lv_at hl 0 rfl) ?_
        refine lv_iload_n hx hb dL_699 rfl (lv_at hl 3 rfl) ?_
        refine lv_iconst (v := 1) hx hb dL_700 (by decide) ?_
        refine lv_iadd hx hb dL_701 ?_
        refine va_sld hx hb hX hbl hbA I.S hv1 dL_702 ?_
        refine lv_aload_n hx hb dL_703 rfl (lv_at hl 0 rfl) ?_
        refine lv_iload_n hx hb dL_704 rfl (lv_at hl 3 rfl) ?_
        refine lv_iconst (v := 2) hx hb dL_705 (by decide) ?_
        refine lv_iadd hx hb dL_706 ?_
        refine va_sld hx hb hX hbl hbA I.S hv2 dL_707 ?_
        refine lv_aload_n hx hb dL_708 rfl (lv_at hl 0 rfl) ?_
        refine lv_iload_n hx hb dL_709 rfl (lv_at hl 3 rfl) ?_
        refine lv_iconst (v := 3) hx hb dL_710 (by decide) ?_
        refine lv_iadd hx hb dL_711 ?_
        refine va_sld hx hb hX hbl hbA I.S hv3 dL_712 ?_
        refine lv_aload_n hx hb dL_713 rfl (lv_at hl 0 rfl) ?_
        refine lv_iload_n hx hb dL_714 rfl (lv_at hl 3 rfl) ?_
        refine lv_iconst (v := 4) hx hb dL_715 (by decide) ?_
        refine lv_iadd hx hb dL_716 ?_
        refine va_sld hx hb hX hbl hbA I.S hv4 dL_717 ?_
        refine k_V2 (As := [.int (xs (x3 + 1).toNatClampNeg), .int (xs (x3 + 2).toNatClampNeg), .int (xs (x3 + 3).toNatClampNeg), .int (xs (x3 + 4).toNatClampNeg)]) (rest := []) (st1 := [.int r]) C kx hK I hA (c_X10_sure e1) ⟨Nat.le_of_ble_eq_true rfl, Nat.le_of_ble_eq_true rfl⟩ mv_X10_sure lk_L_81 0 10 (xw_0 (cI := cI) (cC := cC) (cS := cS) (ad := adx)) rfl rfl hl.1 rfl (Nat.le_of_ble_eq_true rfl) dL_718 rfl ⟨Nat.le_of_ble_eq_true rfl, Nat.le_of_ble_eq_true rfl⟩ (fun H locs I => ?_)
        have I := I.swap
        refine lv_aload_n hx hb dL_721 rfl (lv_at hl 2 rfl) ?_
        refine lv_aload_n hx hb dL_722 rfl (lv_at hl 0 rfl) ?_
        refine lv_iload_n hx hb dL_723 rfl (lv_at hl 3 rfl) ?_
        refine lv_iconst (v := 1) hx hb dL_724 (by decide) ?_
        refine lv_iadd hx hb dL_725 ?_
        refine va_sld hx hb hX hbl hbA I.S hv1 dL_726 ?_
        refine lv_aload_n hx hb dL_727 rfl (lv_at hl 0 rfl) ?_
        refine lv_iload_n hx hb dL_728 rfl (lv_at hl 3 rfl) ?_
        refine lv_iconst (v := 2) hx hb dL_729 (by decide) ?_
        refine lv_iadd hx hb dL_730 ?_
        refine va_sld hx hb hX hbl hbA I.S hv2 dL_731 ?_
        refine lv_aload_n hx hb dL_732 rfl (lv_at hl 0 rfl) ?_
        refine lv_iload_n hx hb dL_733 rfl (lv_at hl 3 rfl) ?_
        refine lv_iconst (v := 3) hx hb dL_734 (by decide) ?_
        refine lv_iadd hx hb dL_735 ?_
        refine va_sld hx hb hX hbl hbA I.S hv3 dL_736 ?_
        refine lv_aload_n hx hb dL_737 rfl (lv_at hl 0 rfl) ?_
        refine lv_iload_n hx hb dL_738 rfl (lv_at hl 3 rfl) ?_
        refine lv_iconst (v := 4) hx hb dL_739 (by decide) ?_
        refine lv_iadd hx hb dL_740 ?_
        refine va_sld hx hb hX hbl hbA I.S hv4 dL_741 ?_
        refine k_V2 (As := [.int (xs (x3 + 1).toNatClampNeg), .int (xs (x3 + 2).toNatClampNeg), .int (xs (x3 + 3).toNatClampNeg), .int (xs (x3 + 4).toNatClampNeg)]) (rest := [.int r]) (st1 := [.int r, .int r]) C kx hK I hA (c_X11_sure e2) ⟨Nat.le_of_ble_eq_true rfl, Nat.le_of_ble_eq_true rfl⟩ mv_X11_sure lk_L_85 0 11 (mw_0 (cI := cI) (ad := adm)) rfl rfl hl.1 rfl (Nat.le_of_ble_eq_true rfl) dL_742 rfl ⟨Nat.le_of_ble_eq_true rfl, Nat.le_of_ble_eq_true rfl⟩ (fun H locs I => ?_)
        have I := I.swap
        refine lv_icmp_eq (tgt := 1198) hx hb dL_745 (by decide) (fun _ => ?_) (fun q => absurd rfl q)
        exact fin Sa Ma hRI _ _ _ I hl
      rcases Decidable.em (z = 16) with c_z16 | c_z16
      · rw [c_z16]
        refine lv_tableIn (x := 16) (off := 717) (tgt := 750) hx hb dL_33 (by decide) (by decide) (by decide) (by decide) ?_
        obtain ⟨r, Sa, Ma, e1, e2, hRI⟩ := h_know S M hRI (xs (x3 + 1).toNatClampNeg) (xs (x3 + 2).toNatClampNeg) (xs (x3 + 3).toNatClampNeg) (xs (x3 + 4).toNatClampNeg)
        refine lv_aload_n hx hb dL_750 rfl (lv_at hl 1 rfl) ?_
        refine lv_aload_n hx hb dL_751 rfl (lv_at hl 0 rfl) ?_
        refine lv_iload_n hx hb dL_752 rfl (lv_at hl 3 rfl) ?_
        refine lv_iconst (v := 1) hx hb dL_753 (by decide) ?_
        refine lv_iadd hx hb dL_754 ?_
        refine va_sld hx hb hX hbl hbA I.S hv1 dL_755 ?_
        refine lv_aload_n hx hb dL_756 rfl (lv_at hl 0 rfl) ?_
        refine lv_iload_n hx hb dL_757 rfl (lv_at hl 3 rfl) ?_
        refine lv_iconst (v := 2) hx hb dL_758 (by decide) ?_
        refine lv_iadd hx hb dL_759 ?_
        refine va_sld hx hb hX hbl hbA I.S hv2 dL_760 ?_
        refine lv_aload_n hx hb dL_761 rfl (lv_at hl 0 rfl) ?_
        refine lv_iload_n hx hb dL_762 rfl (lv_at hl 3 rfl) ?_
        refine lv_iconst (v := 3) hx hb dL_763 (by decide) ?_
        refine lv_iadd hx hb dL_764 ?_
        refine va_sld hx hb hX hbl hbA I.S hv3 dL_765 ?_
        refine lv_aload_n hx hb dL_766 rfl (lv_at hl 0 rfl) ?_
        refine lv_iload_n hx hb dL_767 rfl (lv_at hl 3 rfl) ?_
        refine lv_iconst (v := 4) hx hb dL_768 (by decide) ?_
        refine lv_iadd hx hb dL_769 ?_
        refine va_sld hx hb hX hbl hbA I.S hv4 dL_770 ?_
        refine k_V2 (As := [.int (xs (x3 + 1).toNatClampNeg), .int (xs (x3 + 2).toNatClampNeg), .int (xs (x3 + 3).toNatClampNeg), .int (xs (x3 + 4).toNatClampNeg)]) (rest := []) (st1 := [.long r]) C kx hK I hA (c_X10_know e1) ⟨Nat.le_of_ble_eq_true rfl, Nat.le_of_ble_eq_true rfl⟩ mv_X10_know lk_L_86 0 10 (xw_0 (cI := cI) (cC := cC) (cS := cS) (ad := adx)) rfl rfl hl.1 rfl (Nat.le_of_ble_eq_true rfl) dL_771 rfl ⟨Nat.le_of_ble_eq_true rfl, Nat.le_of_ble_eq_true rfl⟩ (fun H locs I => ?_)
        have I := I.swap
        refine lv_aload_n hx hb dL_774 rfl (lv_at hl 2 rfl) ?_
        refine lv_aload_n hx hb dL_775 rfl (lv_at hl 0 rfl) ?_
        refine lv_iload_n hx hb dL_776 rfl (lv_at hl 3 rfl) ?_
        refine lv_iconst (v := 1) hx hb dL_777 (by decide) ?_
        refine lv_iadd hx hb dL_778 ?_
        refine va_sld hx hb hX hbl hbA I.S hv1 dL_779 ?_
        refine lv_aload_n hx hb dL_780 rfl (lv_at hl 0 rfl) ?_
        refine lv_iload_n hx hb dL_781 rfl (lv_at hl 3 rfl) ?_
        refine lv_iconst (v := 2) hx hb dL_782 (by decide) ?_
        refine lv_iadd hx hb dL_783 ?_
        refine va_sld hx hb hX hbl hbA I.S hv2 dL_784 ?_
        refine lv_aload_n hx hb dL_785 rfl (lv_at hl 0 rfl) ?_
        refine lv_iload_n hx hb dL_786 rfl (lv_at hl 3 rfl) ?_
        refine lv_iconst (v := 3) hx hb dL_787 (by decide) ?_
        refine lv_iadd hx hb dL_788 ?_
        refine va_sld hx hb hX hbl hbA I.S hv3 dL_789 ?_
        refine lv_aload_n hx hb dL_790 rfl (lv_at hl 0 rfl) ?_
        refine lv_iload_n hx hb dL_791 rfl (lv_at hl 3 rfl) ?_
        refine lv_iconst (v := 4) hx hb dL_792 (by decide) ?_
        refine lv_iadd hx hb dL_793 ?_
        refine va_sld hx hb hX hbl hbA I.S hv4 dL_794 ?_
        refine k_V2 (As := [.int (xs (x3 + 1).toNatClampNeg), .int (xs (x3 + 2).toNatClampNeg), .int (xs (x3 + 3).toNatClampNeg), .int (xs (x3 + 4).toNatClampNeg)]) (rest := [.long r]) (st1 := [.long r, .long r]) C kx hK I hA (c_X11_know e2) ⟨Nat.le_of_ble_eq_true rfl, Nat.le_of_ble_eq_true rfl⟩ mv_X11_know lk_L_89 0 11 (mw_0 (cI := cI) (ad := adm)) rfl rfl hl.1 rfl (Nat.le_of_ble_eq_true rfl) dL_795 rfl ⟨Nat.le_of_ble_eq_true rfl, Nat.le_of_ble_eq_true rfl⟩ (fun H locs I => ?_)
        have I := I.swap
        refine W.lcmp hx hb dL_798 ?_
        rw [lgc_self]
        refine lv_if_eq (tgt := 1198) hx hb dL_799 (by decide) (fun _ => ?_) (fun q => absurd rfl q)
        exact fin Sa Ma hRI _ _ _ I hl
      rcases Decidable.em (z = 17) with c_z17 | c_z17
      · rw [c_z17]
        refine lv_tableIn (x := 17) (off := 771) (tgt := 804) hx hb dL_33 (by decide) (by decide) (by decide) (by decide) ?_
        obtain ⟨r, Sa, Ma, e1, e2, hRI⟩ := h_both S M hRI (xs (x3 + 1).toNatClampNeg) (xs (x3 + 2).toNatClampNeg)
        refine lv_aload_n hx hb dL_804 rfl (lv_at hl 1 rfl) ?_
        refine lv_aload_n hx hb dL_805 rfl (lv_at hl 0 rfl) ?_
        refine lv_iload_n hx hb dL_806 rfl (lv_at hl 3 rfl) ?_
        refine lv_iconst (v := 1) hx hb dL_807 (by decide) ?_
        refine lv_iadd hx hb dL_808 ?_
        refine va_sld hx hb hX hbl hbA I.S hv1 dL_809 ?_
        refine lv_aload_n hx hb dL_810 rfl (lv_at hl 0 rfl) ?_
        refine lv_iload_n hx hb dL_811 rfl (lv_at hl 3 rfl) ?_
        refine lv_iconst (v := 2) hx hb dL_812 (by decide) ?_
        refine lv_iadd hx hb dL_813 ?_
        refine va_sld hx hb hX hbl hbA I.S hv2 dL_814 ?_
        refine k_V2 (As := [.int (xs (x3 + 1).toNatClampNeg), .int (xs (x3 + 2).toNatClampNeg)]) (rest := []) (st1 := [.int r]) C kx hK I hA (c_X10_both e1) ⟨Nat.le_of_ble_eq_true rfl, Nat.le_of_ble_eq_true rfl⟩ mv_X10_both lk_L_90 0 10 (xw_0 (cI := cI) (cC := cC) (cS := cS) (ad := adx)) rfl rfl hl.1 rfl (Nat.le_of_ble_eq_true rfl) dL_815 rfl ⟨Nat.le_of_ble_eq_true rfl, Nat.le_of_ble_eq_true rfl⟩ (fun H locs I => ?_)
        have I := I.swap
        refine lv_aload_n hx hb dL_818 rfl (lv_at hl 2 rfl) ?_
        refine lv_aload_n hx hb dL_819 rfl (lv_at hl 0 rfl) ?_
        refine lv_iload_n hx hb dL_820 rfl (lv_at hl 3 rfl) ?_
        refine lv_iconst (v := 1) hx hb dL_821 (by decide) ?_
        refine lv_iadd hx hb dL_822 ?_
        refine va_sld hx hb hX hbl hbA I.S hv1 dL_823 ?_
        refine lv_aload_n hx hb dL_824 rfl (lv_at hl 0 rfl) ?_
        refine lv_iload_n hx hb dL_825 rfl (lv_at hl 3 rfl) ?_
        refine lv_iconst (v := 2) hx hb dL_826 (by decide) ?_
        refine lv_iadd hx hb dL_827 ?_
        refine va_sld hx hb hX hbl hbA I.S hv2 dL_828 ?_
        refine k_V2 (As := [.int (xs (x3 + 1).toNatClampNeg), .int (xs (x3 + 2).toNatClampNeg)]) (rest := [.int r]) (st1 := [.int r, .int r]) C kx hK I hA (c_X11_both e2) ⟨Nat.le_of_ble_eq_true rfl, Nat.le_of_ble_eq_true rfl⟩ mv_X11_both lk_L_93 0 11 (mw_0 (cI := cI) (ad := adm)) rfl rfl hl.1 rfl (Nat.le_of_ble_eq_true rfl) dL_829 rfl ⟨Nat.le_of_ble_eq_true rfl, Nat.le_of_ble_eq_true rfl⟩ (fun H locs I => ?_)
        have I := I.swap
        refine lv_icmp_eq (tgt := 1198) hx hb dL_832 (by decide) (fun _ => ?_) (fun q => absurd rfl q)
        exact fin Sa Ma hRI _ _ _ I hl
      rcases Decidable.em (z = 18) with c_z18 | c_z18
      · rw [c_z18]
        refine lv_tableIn (x := 18) (off := 804) (tgt := 837) hx hb dL_33 (by decide) (by decide) (by decide) (by decide) ?_
        obtain ⟨r, Sa, Ma, e1, e2, hRI⟩ := h_value S M hRI (xs (x3 + 1).toNatClampNeg) (xs (x3 + 2).toNatClampNeg) (xs (x3 + 3).toNatClampNeg) (xs (x3 + 4).toNatClampNeg) (xs (x3 + 5).toNatClampNeg)
        refine lv_aload_n hx hb dL_837 rfl (lv_at hl 1 rfl) ?_
        refine lv_aload_n hx hb dL_838 rfl (lv_at hl 0 rfl) ?_
        refine lv_iload_n hx hb dL_839 rfl (lv_at hl 3 rfl) ?_
        refine lv_iconst (v := 1) hx hb dL_840 (by decide) ?_
        refine lv_iadd hx hb dL_841 ?_
        refine va_sld hx hb hX hbl hbA I.S hv1 dL_842 ?_
        refine lv_aload_n hx hb dL_843 rfl (lv_at hl 0 rfl) ?_
        refine lv_iload_n hx hb dL_844 rfl (lv_at hl 3 rfl) ?_
        refine lv_iconst (v := 2) hx hb dL_845 (by decide) ?_
        refine lv_iadd hx hb dL_846 ?_
        refine va_sld hx hb hX hbl hbA I.S hv2 dL_847 ?_
        refine lv_aload_n hx hb dL_848 rfl (lv_at hl 0 rfl) ?_
        refine lv_iload_n hx hb dL_849 rfl (lv_at hl 3 rfl) ?_
        refine lv_iconst (v := 3) hx hb dL_850 (by decide) ?_
        refine lv_iadd hx hb dL_851 ?_
        refine va_sld hx hb hX hbl hbA I.S hv3 dL_852 ?_
        refine lv_aload_n hx hb dL_853 rfl (lv_at hl 0 rfl) ?_
        refine lv_iload_n hx hb dL_854 rfl (lv_at hl 3 rfl) ?_
        refine lv_iconst (v := 4) hx hb dL_855 (by decide) ?_
        refine lv_iadd hx hb dL_856 ?_
        refine va_sld hx hb hX hbl hbA I.S hv4 dL_857 ?_
        refine lv_aload_n hx hb dL_858 rfl (lv_at hl 0 rfl) ?_
        refine lv_iload_n hx hb dL_859 rfl (lv_at hl 3 rfl) ?_
        refine lv_iconst (v := 5) hx hb dL_860 (by decide) ?_
        refine lv_iadd hx hb dL_861 ?_
        refine va_sld hx hb hX hbl hbA I.S hv5 dL_862 ?_
        refine k_V2 (As := [.int (xs (x3 + 1).toNatClampNeg), .int (xs (x3 + 2).toNatClampNeg), .int (xs (x3 + 3).toNatClampNeg), .int (xs (x3 + 4).toNatClampNeg), .int (xs (x3 + 5).toNatClampNeg)]) (rest := []) (st1 := [.long r]) C kx hK I hA (c_X10_value e1) ⟨Nat.le_of_ble_eq_true rfl, Nat.le_of_ble_eq_true rfl⟩ mv_X10_value lk_L_94 0 10 (xw_0 (cI := cI) (cC := cC) (cS := cS) (ad := adx)) rfl rfl hl.1 rfl (Nat.le_of_ble_eq_true rfl) dL_863 rfl ⟨Nat.le_of_ble_eq_true rfl, Nat.le_of_ble_eq_true rfl⟩ (fun H locs I => ?_)
        have I := I.swap
        refine lv_aload_n hx hb dL_866 rfl (lv_at hl 2 rfl) ?_
        refine lv_aload_n hx hb dL_867 rfl (lv_at hl 0 rfl) ?_
        refine lv_iload_n hx hb dL_868 rfl (lv_at hl 3 rfl) ?_
        refine lv_iconst (v := 1) hx hb dL_869 (by decide) ?_
        refine lv_iadd hx hb dL_870 ?_
        refine va_sld hx hb hX hbl hbA I.S hv1 dL_871 ?_
        refine lv_aload_n hx hb dL_872 rfl (lv_at hl 0 rfl) ?_
        refine lv_iload_n hx hb dL_873 rfl (lv_at hl 3 rfl) ?_
        refine lv_iconst (v := 2) hx hb dL_874 (by decide) ?_
        refine lv_iadd hx hb dL_875 ?_
        refine va_sld hx hb hX hbl hbA I.S hv2 dL_876 ?_
        refine lv_aload_n hx hb dL_877 rfl (lv_at hl 0 rfl) ?_
        refine lv_iload_n hx hb dL_878 rfl (lv_at hl 3 rfl) ?_
        refine lv_iconst (v := 3) hx hb dL_879 (by decide) ?_
        refine lv_iadd hx hb dL_880 ?_
        refine va_sld hx hb hX hbl hbA I.S hv3 dL_881 ?_
        refine lv_aload_n hx hb dL_882 rfl (lv_at hl 0 rfl) ?_
        refine lv_iload_n hx hb dL_883 rfl (lv_at hl 3 rfl) ?_
        refine lv_iconst (v := 4) hx hb dL_884 (by decide) ?_
        refine lv_iadd hx hb dL_885 ?_
        refine va_sld hx hb hX hbl hbA I.S hv4 dL_886 ?_
        refine lv_aload_n hx hb dL_887 rfl (lv_at hl 0 rfl) ?_
        refine lv_iload_n hx hb dL_888 rfl (lv_at hl 3 rfl) ?_
        refine lv_iconst (v := 5) hx hb dL_889 (by decide) ?_
        refine lv_iadd hx hb dL_890 ?_
        refine va_sld hx hb hX hbl hbA I.S hv5 dL_891 ?_
        refine k_V2 (As := [.int (xs (x3 + 1).toNatClampNeg), .int (xs (x3 + 2).toNatClampNeg), .int (xs (x3 + 3).toNatClampNeg), .int (xs (x3 + 4).toNatClampNeg), .int (xs (x3 + 5).toNatClampNeg)]) (rest := [.long r]) (st1 := [.long r, .long r]) C kx hK I hA (c_X11_value e2) ⟨Nat.le_of_ble_eq_true rfl, Nat.le_of_ble_eq_true rfl⟩ mv_X11_value lk_L_98 0 11 (mw_0 (cI := cI) (ad := adm)) rfl rfl hl.1 rfl (Nat.le_of_ble_eq_true rfl) dL_892 rfl ⟨Nat.le_of_ble_eq_true rfl, Nat.le_of_ble_eq_true rfl⟩ (fun H locs I => ?_)
        have I := I.swap
        refine W.lcmp hx hb dL_895 ?_
        rw [lgc_self]
        refine lv_if_eq (tgt := 1198) hx hb dL_896 (by decide) (fun _ => ?_) (fun q => absurd rfl q)
        exact fin Sa Ma hRI _ _ _ I hl
      rcases Decidable.em (z = 19) with c_z19 | c_z19
      · rw [c_z19]
        refine lv_tableIn (x := 19) (off := 868) (tgt := 901) hx hb dL_33 (by decide) (by decide) (by decide) (by decide) ?_
        obtain ⟨r, Sa, Ma, e1, e2, hRI⟩ := h_next S M hRI (xs (x3 + 1).toNatClampNeg) (xs (x3 + 2).toNatClampNeg) (xs (x3 + 3).toNatClampNeg) (xs (x3 + 4).toNatClampNeg)
        refine lv_aload_n hx hb dL_901 rfl (lv_at hl 1 rfl) ?_
        refine lv_aload_n hx hb dL_902 rfl (lv_at hl 0 rfl) ?_
        refine lv_iload_n hx hb dL_903 rfl (lv_at hl 3 rfl) ?_
        refine lv_iconst (v := 1) hx hb dL_904 (by decide) ?_
        refine lv_iadd hx hb dL_905 ?_
        refine va_sld hx hb hX hbl hbA I.S hv1 dL_906 ?_
        refine lv_aload_n hx hb dL_907 rfl (lv_at hl 0 rfl) ?_
        refine lv_iload_n hx hb dL_908 rfl (lv_at hl 3 rfl) ?_
        refine lv_iconst (v := 2) hx hb dL_909 (by decide) ?_
        refine lv_iadd hx hb dL_910 ?_
        refine va_sld hx hb hX hbl hbA I.S hv2 dL_911 ?_
        refine lv_aload_n hx hb dL_912 rfl (lv_at hl 0 rfl) ?_
        refine lv_iload_n hx hb dL_913 rfl (lv_at hl 3 rfl) ?_
        refine lv_iconst (v := 3) hx hb dL_914 (by decide) ?_
        refine lv_iadd hx hb dL_915 ?_
        refine va_sld hx hb hX hbl hbA I.S hv3 dL_916 ?_
        refine lv_aload_n hx hb dL_917 rfl (lv_at hl 0 rfl) ?_
        refine lv_iload_n hx hb dL_918 rfl (lv_at hl 3 rfl) ?_
        refine lv_iconst (v := 4) hx hb dL_919 (by decide) ?_
        refine lv_iadd hx hb dL_920 ?_
        refine va_sld hx hb hX hbl hbA I.S hv4 dL_921 ?_
        refine k_V2 (As := [.int (xs (x3 + 1).toNatClampNeg), .int (xs (x3 + 2).toNatClampNeg), .int (xs (x3 + 3).toNatClampNeg), .int (xs (x3 + 4).toNatClampNeg)]) (rest := []) (st1 := [.int r]) C kx hK I hA (c_X10_next e1) ⟨Nat.le_of_ble_eq_true rfl, Nat.le_of_ble_eq_true rfl⟩ mv_X10_next lk_L_99 0 10 (xw_0 (cI := cI) (cC := cC) (cS := cS) (ad := adx)) rfl rfl hl.1 rfl (Nat.le_of_ble_eq_true rfl) dL_922 rfl ⟨Nat.le_of_ble_eq_true rfl, Nat.le_of_ble_eq_true rfl⟩ (fun H locs I => ?_)
        have I := I.swap
        refine lv_aload_n hx hb dL_925 rfl (lv_at hl 2 rfl) ?_
        refine lv_aload_n hx hb dL_926 rfl (lv_at hl 0 rfl) ?_
        refine lv_iload_n hx hb dL_927 rfl (lv_at hl 3 rfl) ?_
        refine lv_iconst (v := 1) hx hb dL_928 (by decide) ?_
        refine lv_iadd hx hb dL_929 ?_
        refine va_sld hx hb hX hbl hbA I.S hv1 dL_930 ?_
        refine lv_aload_n hx hb dL_931 rfl (lv_at hl 0 rfl) ?_
        refine lv_iload_n hx hb dL_932 rfl (lv_at hl 3 rfl) ?_
        refine lv_iconst (v := 2) hx hb dL_933 (by decide) ?_
        refine lv_iadd hx hb dL_934 ?_
        refine va_sld hx hb hX hbl hbA I.S hv2 dL_935 ?_
        refine lv_aload_n hx hb dL_936 rfl (lv_at hl 0 rfl) ?_
        refine lv_iload_n hx hb dL_937 rfl (lv_at hl 3 rfl) ?_
        refine lv_iconst (v := 3) hx hb dL_938 (by decide) ?_
        refine lv_iadd hx hb dL_939 ?_
        refine va_sld hx hb hX hbl hbA I.S hv3 dL_940 ?_
        refine lv_aload_n hx hb dL_941 rfl (lv_at hl 0 rfl) ?_
        refine lv_iload_n hx hb dL_942 rfl (lv_at hl 3 rfl) ?_
        refine lv_iconst (v := 4) hx hb dL_943 (by decide) ?_
        refine lv_iadd hx hb dL_944 ?_
        refine va_sld hx hb hX hbl hbA I.S hv4 dL_945 ?_
        refine k_V2 (As := [.int (xs (x3 + 1).toNatClampNeg), .int (xs (x3 + 2).toNatClampNeg), .int (xs (x3 + 3).toNatClampNeg), .int (xs (x3 + 4).toNatClampNeg)]) (rest := [.int r]) (st1 := [.int r, .int r]) C kx hK I hA (c_X11_next e2) ⟨Nat.le_of_ble_eq_true rfl, Nat.le_of_ble_eq_true rfl⟩ mv_X11_next lk_L_102 0 11 (mw_0 (cI := cI) (ad := adm)) rfl rfl hl.1 rfl (Nat.le_of_ble_eq_true rfl) dL_946 rfl ⟨Nat.le_of_ble_eq_true rfl, Nat.le_of_ble_eq_true rfl⟩ (fun H locs I => ?_)
        have I := I.swap
        refine lv_icmp_eq (tgt := 1198) hx hb dL_949 (by decide) (fun _ => ?_) (fun q => absurd rfl q)
        exact fin Sa Ma hRI _ _ _ I hl
      rcases Decidable.em (z = 20) with c_z20 | c_z20
      · rw [c_z20]
        refine lv_tableIn (x := 20) (off := 921) (tgt := 954) hx hb dL_33 (by decide) (by decide) (by decide) (by decide) ?_
        obtain ⟨r, Sa, Ma, e1, e2, hRI⟩ := h_stands S M hRI (xs (x3 + 1).toNatClampNeg) (xs (x3 + 2).toNatClampNeg)
        refine lv_aload_n hx hb dL_954 rfl (lv_at hl 1 rfl) ?_
        refine lv_aload_n hx hb dL_955 rfl (lv_at hl 0 rfl) ?_
        refine lv_iload_n hx hb dL_956 rfl (lv_at hl 3 rfl) ?_
        refine lv_iconst (v := 1) hx hb dL_957 (by decide) ?_
        refine lv_iadd hx hb dL_958 ?_
        refine va_sld hx hb hX hbl hbA I.S hv1 dL_959 ?_
        refine lv_aload_n hx hb dL_960 rfl (lv_at hl 0 rfl) ?_
        refine lv_iload_n hx hb dL_961 rfl (lv_at hl 3 rfl) ?_
        refine lv_iconst (v := 2) hx hb dL_962 (by decide) ?_
        refine lv_iadd hx hb dL_963 ?_
        refine va_sld hx hb hX hbl hbA I.S hv2 dL_964 ?_
        refine k_V2 (As := [.int (xs (x3 + 1).toNatClampNeg), .int (xs (x3 + 2).toNatClampNeg)]) (rest := []) (st1 := [.int r]) C kx hK I hA (c_X10_stands e1) ⟨Nat.le_of_ble_eq_true rfl, Nat.le_of_ble_eq_true rfl⟩ mv_X10_stands lk_L_103 0 10 (xw_0 (cI := cI) (cC := cC) (cS := cS) (ad := adx)) rfl rfl hl.1 rfl (Nat.le_of_ble_eq_true rfl) dL_965 rfl ⟨Nat.le_of_ble_eq_true rfl, Nat.le_of_ble_eq_true rfl⟩ (fun H locs I => ?_)
        have I := I.swap
        refine lv_aload_n hx hb dL_968 rfl (lv_at hl 2 rfl) ?_
        refine lv_aload_n hx hb dL_969 rfl (lv_at hl 0 rfl) ?_
        refine lv_iload_n hx hb dL_970 rfl (lv_at hl 3 rfl) ?_
        refine lv_iconst (v := 1) hx hb dL_971 (by decide) ?_
        refine lv_iadd hx hb dL_972 ?_
        refine va_sld hx hb hX hbl hbA I.S hv1 dL_973 ?_
        refine lv_aload_n hx hb dL_974 rfl (lv_at hl 0 rfl) ?_
        refine lv_iload_n hx hb dL_975 rfl (lv_at hl 3 rfl) ?_
        refine lv_iconst (v := 2) hx hb dL_976 (by decide) ?_
        refine lv_iadd hx hb dL_977 ?_
        refine va_sld hx hb hX hbl hbA I.S hv2 dL_978 ?_
        refine k_V2 (As := [.int (xs (x3 + 1).toNatClampNeg), .int (xs (x3 + 2).toNatClampNeg)]) (rest := [.int r]) (st1 := [.int r, .int r]) C kx hK I hA (c_X11_stands e2) ⟨Nat.le_of_ble_eq_true rfl, Nat.le_of_ble_eq_true rfl⟩ mv_X11_stands lk_L_106 0 11 (mw_0 (cI := cI) (ad := adm)) rfl rfl hl.1 rfl (Nat.le_of_ble_eq_true rfl) dL_979 rfl ⟨Nat.le_of_ble_eq_true rfl, Nat.le_of_ble_eq_true rfl⟩ (fun H locs I => ?_)
        have I := I.swap
        refine lv_icmp_eq (tgt := 1198) hx hb dL_982 (by decide) (fun _ => ?_) (fun q => absurd rfl q)
        exact fin Sa Ma hRI _ _ _ I hl
      rcases Decidable.em (z = 21) with c_z21 | c_z21
      · rw [c_z21]
        refine lv_tableIn (x := 21) (off := 954) (tgt := 987) hx hb dL_33 (by decide) (by decide) (by decide) (by decide) ?_
        obtain ⟨r, Sa, Ma, e1, e2, hRI⟩ := h_idle S M hRI 
        refine lv_aload_n hx hb dL_987 rfl (lv_at hl 1 rfl) ?_
        refine k_V2 (As := []) (rest := []) (st1 := [.int r]) C kx hK I hA (c_X10_idle e1) ⟨Nat.le_of_ble_eq_true rfl, Nat.le_of_ble_eq_true rfl⟩ mv_X10_idle lk_L_107 0 10 (xw_0 (cI := cI) (cC := cC) (cS := cS) (ad := adx)) rfl rfl hl.1 rfl (Nat.le_of_ble_eq_true rfl) dL_988 rfl ⟨Nat.le_of_ble_eq_true rfl, Nat.le_of_ble_eq_true rfl⟩ (fun H locs I => ?_)
        have I := I.swap
        refine lv_aload_n hx hb dL_991 rfl (lv_at hl 2 rfl) ?_
        refine k_V2 (As := []) (rest := [.int r]) (st1 := [.int r, .int r]) C kx hK I hA (c_X11_idle e2) ⟨Nat.le_of_ble_eq_true rfl, Nat.le_of_ble_eq_true rfl⟩ mv_X11_idle lk_L_110 0 11 (mw_0 (cI := cI) (ad := adm)) rfl rfl hl.1 rfl (Nat.le_of_ble_eq_true rfl) dL_992 rfl ⟨Nat.le_of_ble_eq_true rfl, Nat.le_of_ble_eq_true rfl⟩ (fun H locs I => ?_)
        have I := I.swap
        refine lv_icmp_eq (tgt := 1198) hx hb dL_995 (by decide) (fun _ => ?_) (fun q => absurd rfl q)
        exact fin Sa Ma hRI _ _ _ I hl
      rcases Decidable.em (z = 22) with c_z22 | c_z22
      · rw [c_z22]
        refine lv_tableIn (x := 22) (off := 967) (tgt := 1000) hx hb dL_33 (by decide) (by decide) (by decide) (by decide) ?_
        obtain ⟨r, Sa, Ma, e1, e2, hRI⟩ := h_visit S M hRI (xs (x3 + 1).toNatClampNeg) (xs (x3 + 2).toNatClampNeg) (xs (x3 + 3).toNatClampNeg)
        refine lv_aload_n hx hb dL_1000 rfl (lv_at hl 1 rfl) ?_
        refine lv_aload_n hx hb dL_1001 rfl (lv_at hl 0 rfl) ?_
        refine lv_iload_n hx hb dL_1002 rfl (lv_at hl 3 rfl) ?_
        refine lv_iconst (v := 1) hx hb dL_1003 (by decide) ?_
        refine lv_iadd hx hb dL_1004 ?_
        refine va_sld hx hb hX hbl hbA I.S hv1 dL_1005 ?_
        refine lv_aload_n hx hb dL_1006 rfl (lv_at hl 0 rfl) ?_
        refine lv_iload_n hx hb dL_1007 rfl (lv_at hl 3 rfl) ?_
        refine lv_iconst (v := 2) hx hb dL_1008 (by decide) ?_
        refine lv_iadd hx hb dL_1009 ?_
        refine va_sld hx hb hX hbl hbA I.S hv2 dL_1010 ?_
        refine lv_aload_n hx hb dL_1011 rfl (lv_at hl 0 rfl) ?_
        refine lv_iload_n hx hb dL_1012 rfl (lv_at hl 3 rfl) ?_
        refine lv_iconst (v := 3) hx hb dL_1013 (by decide) ?_
        refine lv_iadd hx hb dL_1014 ?_
        refine va_sld hx hb hX hbl hbA I.S hv3 dL_1015 ?_
        refine k_V2 (As := [.int (xs (x3 + 1).toNatClampNeg), .int (xs (x3 + 2).toNatClampNeg), .int (xs (x3 + 3).toNatClampNeg)]) (rest := []) (st1 := [.int r]) C kx hK I hA (c_X10_visit e1) ⟨Nat.le_of_ble_eq_true rfl, Nat.le_of_ble_eq_true rfl⟩ mv_X10_visit lk_L_111 0 10 (xw_0 (cI := cI) (cC := cC) (cS := cS) (ad := adx)) rfl rfl hl.1 rfl (Nat.le_of_ble_eq_true rfl) dL_1016 rfl ⟨Nat.le_of_ble_eq_true rfl, Nat.le_of_ble_eq_true rfl⟩ (fun H locs I => ?_)
        have I := I.swap
        refine lv_aload_n hx hb dL_1019 rfl (lv_at hl 2 rfl) ?_
        refine lv_aload_n hx hb dL_1020 rfl (lv_at hl 0 rfl) ?_
        refine lv_iload_n hx hb dL_1021 rfl (lv_at hl 3 rfl) ?_
        refine lv_iconst (v := 1) hx hb dL_1022 (by decide) ?_
        refine lv_iadd hx hb dL_1023 ?_
        refine va_sld hx hb hX hbl hbA I.S hv1 dL_1024 ?_
        refine lv_aload_n hx hb dL_1025 rfl (lv_at hl 0 rfl) ?_
        refine lv_iload_n hx hb dL_1026 rfl (lv_at hl 3 rfl) ?_
        refine lv_iconst (v := 2) hx hb dL_1027 (by decide) ?_
        refine lv_iadd hx hb dL_1028 ?_
        refine va_sld hx hb hX hbl hbA I.S hv2 dL_1029 ?_
        refine lv_aload_n hx hb dL_1030 rfl (lv_at hl 0 rfl) ?_
        refine lv_iload_n hx hb dL_1031 rfl (lv_at hl 3 rfl) ?_
        refine lv_iconst (v := 3) hx hb dL_1032 (by decide) ?_
        refine lv_iadd hx hb dL_1033 ?_
        refine va_sld hx hb hX hbl hbA I.S hv3 dL_1034 ?_
        refine k_V2 (As := [.int (xs (x3 + 1).toNatClampNeg), .int (xs (x3 + 2).toNatClampNeg), .int (xs (x3 + 3).toNatClampNeg)]) (rest := [.int r]) (st1 := [.int r, .int r]) C kx hK I hA (c_X11_visit e2) ⟨Nat.le_of_ble_eq_true rfl, Nat.le_of_ble_eq_true rfl⟩ mv_X11_visit lk_L_114 0 11 (mw_0 (cI := cI) (ad := adm)) rfl rfl hl.1 rfl (Nat.le_of_ble_eq_true rfl) dL_1035 rfl ⟨Nat.le_of_ble_eq_true rfl, Nat.le_of_ble_eq_true rfl⟩ (fun H locs I => ?_)
        have I := I.swap
        refine lv_icmp_eq (tgt := 1198) hx hb dL_1038 (by decide) (fun _ => ?_) (fun q => absurd rfl q)
        exact fin Sa Ma hRI _ _ _ I hl
      rcases Decidable.em (z = 23) with c_z23 | c_z23
      · rw [c_z23]
        refine lv_tableIn (x := 23) (off := 1010) (tgt := 1043) hx hb dL_33 (by decide) (by decide) (by decide) (by decide) ?_
        obtain ⟨r, Sa, Ma, e1, e2, hRI⟩ := h_saved S M hRI (xs (x3 + 1).toNatClampNeg)
        refine lv_aload_n hx hb dL_1043 rfl (lv_at hl 1 rfl) ?_
        refine lv_aload_n hx hb dL_1044 rfl (lv_at hl 0 rfl) ?_
        refine lv_iload_n hx hb dL_1045 rfl (lv_at hl 3 rfl) ?_
        refine lv_iconst (v := 1) hx hb dL_1046 (by decide) ?_
        refine lv_iadd hx hb dL_1047 ?_
        refine va_sld hx hb hX hbl hbA I.S hv1 dL_1048 ?_
        refine k_V2 (As := [.int (xs (x3 + 1).toNatClampNeg)]) (rest := []) (st1 := [.int r]) C kx hK I hA (c_X10_saved e1) ⟨Nat.le_of_ble_eq_true rfl, Nat.le_of_ble_eq_true rfl⟩ mv_X10_saved lk_L_115 0 10 (xw_0 (cI := cI) (cC := cC) (cS := cS) (ad := adx)) rfl rfl hl.1 rfl (Nat.le_of_ble_eq_true rfl) dL_1049 rfl ⟨Nat.le_of_ble_eq_true rfl, Nat.le_of_ble_eq_true rfl⟩ (fun H locs I => ?_)
        have I := I.swap
        refine lv_aload_n hx hb dL_1052 rfl (lv_at hl 2 rfl) ?_
        refine lv_aload_n hx hb dL_1053 rfl (lv_at hl 0 rfl) ?_
        refine lv_iload_n hx hb dL_1054 rfl (lv_at hl 3 rfl) ?_
        refine lv_iconst (v := 1) hx hb dL_1055 (by decide) ?_
        refine lv_iadd hx hb dL_1056 ?_
        refine va_sld hx hb hX hbl hbA I.S hv1 dL_1057 ?_
        refine k_V2 (As := [.int (xs (x3 + 1).toNatClampNeg)]) (rest := [.int r]) (st1 := [.int r, .int r]) C kx hK I hA (c_X11_saved e2) ⟨Nat.le_of_ble_eq_true rfl, Nat.le_of_ble_eq_true rfl⟩ mv_X11_saved lk_L_118 0 11 (mw_0 (cI := cI) (ad := adm)) rfl rfl hl.1 rfl (Nat.le_of_ble_eq_true rfl) dL_1058 rfl ⟨Nat.le_of_ble_eq_true rfl, Nat.le_of_ble_eq_true rfl⟩ (fun H locs I => ?_)
        have I := I.swap
        refine lv_icmp_eq (tgt := 1198) hx hb dL_1061 (by decide) (fun _ => ?_) (fun q => absurd rfl q)
        exact fin Sa Ma hRI _ _ _ I hl
      rcases Decidable.em (z = 24) with c_z24 | c_z24
      · rw [c_z24]
        refine lv_tableIn (x := 24) (off := 1033) (tgt := 1066) hx hb dL_33 (by decide) (by decide) (by decide) (by decide) ?_
        obtain ⟨r, Sa, Ma, e1, e2, hRI⟩ := h_most S M hRI (xs (x3 + 1).toNatClampNeg)
        refine lv_aload_n hx hb dL_1066 rfl (lv_at hl 1 rfl) ?_
        refine lv_aload_n hx hb dL_1067 rfl (lv_at hl 0 rfl) ?_
        refine lv_iload_n hx hb dL_1068 rfl (lv_at hl 3 rfl) ?_
        refine lv_iconst (v := 1) hx hb dL_1069 (by decide) ?_
        refine lv_iadd hx hb dL_1070 ?_
        refine va_sld hx hb hX hbl hbA I.S hv1 dL_1071 ?_
        refine k_V2 (As := [.int (xs (x3 + 1).toNatClampNeg)]) (rest := []) (st1 := [.int r]) C kx hK I hA (c_X10_most e1) ⟨Nat.le_of_ble_eq_true rfl, Nat.le_of_ble_eq_true rfl⟩ mv_X10_most lk_L_119 0 10 (xw_0 (cI := cI) (cC := cC) (cS := cS) (ad := adx)) rfl rfl hl.1 rfl (Nat.le_of_ble_eq_true rfl) dL_1072 rfl ⟨Nat.le_of_ble_eq_true rfl, Nat.le_of_ble_eq_true rfl⟩ (fun H locs I => ?_)
        have I := I.swap
        refine lv_aload_n hx hb dL_1075 rfl (lv_at hl 2 rfl) ?_
        refine lv_aload_n hx hb dL_1076 rfl (lv_at hl 0 rfl) ?_
        refine lv_iload_n hx hb dL_1077 rfl (lv_at hl 3 rfl) ?_
        refine lv_iconst (v := 1) hx hb dL_1078 (by decide) ?_
        refine lv_iadd hx hb dL_1079 ?_
        refine va_sld hx hb hX hbl hbA I.S hv1 dL_1080 ?_
        refine k_V2 (As := [.int (xs (x3 + 1).toNatClampNeg)]) (rest := [.int r]) (st1 := [.int r, .int r]) C kx hK I hA (c_X11_most e2) ⟨Nat.le_of_ble_eq_true rfl, Nat.le_of_ble_eq_true rfl⟩ mv_X11_most lk_L_122 0 11 (mw_0 (cI := cI) (ad := adm)) rfl rfl hl.1 rfl (Nat.le_of_ble_eq_true rfl) dL_1081 rfl ⟨Nat.le_of_ble_eq_true rfl, Nat.le_of_ble_eq_true rfl⟩ (fun H locs I => ?_)
        have I := I.swap
        refine lv_icmp_eq (tgt := 1198) hx hb dL_1084 (by decide) (fun _ => ?_) (fun q => absurd rfl q)
        exact fin Sa Ma hRI _ _ _ I hl
      rcases Decidable.em (z = 25) with c_z25 | c_z25
      · rw [c_z25]
        refine lv_tableIn (x := 25) (off := 1056) (tgt := 1089) hx hb dL_33 (by decide) (by decide) (by decide) (by decide) ?_
        obtain ⟨r, Sa, Ma, e1, e2, hRI⟩ := h_box S M hRI (xs (x3 + 1).toNatClampNeg)
        refine lv_aload_n hx hb dL_1089 rfl (lv_at hl 1 rfl) ?_
        refine lv_aload_n hx hb dL_1090 rfl (lv_at hl 0 rfl) ?_
        refine lv_iload_n hx hb dL_1091 rfl (lv_at hl 3 rfl) ?_
        refine lv_iconst (v := 1) hx hb dL_1092 (by decide) ?_
        refine lv_iadd hx hb dL_1093 ?_
        refine va_sld hx hb hX hbl hbA I.S hv1 dL_1094 ?_
        refine k_V2 (As := [.int (xs (x3 + 1).toNatClampNeg)]) (rest := []) (st1 := [.int r]) C kx hK I hA (c_X10_box e1) ⟨Nat.le_of_ble_eq_true rfl, Nat.le_of_ble_eq_true rfl⟩ mv_X10_box lk_L_123 0 10 (xw_0 (cI := cI) (cC := cC) (cS := cS) (ad := adx)) rfl rfl hl.1 rfl (Nat.le_of_ble_eq_true rfl) dL_1095 rfl ⟨Nat.le_of_ble_eq_true rfl, Nat.le_of_ble_eq_true rfl⟩ (fun H locs I => ?_)
        have I := I.swap
        refine lv_aload_n hx hb dL_1098 rfl (lv_at hl 2 rfl) ?_
        refine lv_aload_n hx hb dL_1099 rfl (lv_at hl 0 rfl) ?_
        refine lv_iload_n hx hb dL_1100 rfl (lv_at hl 3 rfl) ?_
        refine lv_iconst (v := 1) hx hb dL_1101 (by decide) ?_
        refine lv_iadd hx hb dL_1102 ?_
        refine va_sld hx hb hX hbl hbA I.S hv1 dL_1103 ?_
        refine k_V2 (As := [.int (xs (x3 + 1).toNatClampNeg)]) (rest := [.int r]) (st1 := [.int r, .int r]) C kx hK I hA (c_X11_box e2) ⟨Nat.le_of_ble_eq_true rfl, Nat.le_of_ble_eq_true rfl⟩ mv_X11_box lk_L_126 0 11 (mw_0 (cI := cI) (ad := adm)) rfl rfl hl.1 rfl (Nat.le_of_ble_eq_true rfl) dL_1104 rfl ⟨Nat.le_of_ble_eq_true rfl, Nat.le_of_ble_eq_true rfl⟩ (fun H locs I => ?_)
        have I := I.swap
        refine lv_icmp_eq (tgt := 1198) hx hb dL_1107 (by decide) (fun _ => ?_) (fun q => absurd rfl q)
        exact fin Sa Ma hRI _ _ _ I hl
      rcases Decidable.em (z = 26) with c_z26 | c_z26
      · rw [c_z26]
        refine lv_tableIn (x := 26) (off := 1079) (tgt := 1112) hx hb dL_33 (by decide) (by decide) (by decide) (by decide) ?_
        obtain ⟨r, Sa, Ma, e1, e2, hRI⟩ := h_run S M hRI (xs (x3 + 1).toNatClampNeg) (xs (x3 + 2).toNatClampNeg) (xs (x3 + 3).toNatClampNeg) (xs (x3 + 4).toNatClampNeg) (xs (x3 + 5).toNatClampNeg)
        refine lv_aload_n hx hb dL_1112 rfl (lv_at hl 1 rfl) ?_
        refine lv_aload_n hx hb dL_1113 rfl (lv_at hl 0 rfl) ?_
        refine lv_iload_n hx hb dL_1114 rfl (lv_at hl 3 rfl) ?_
        refine lv_iconst (v := 1) hx hb dL_1115 (by decide) ?_
        refine lv_iadd hx hb dL_1116 ?_
        refine va_sld hx hb hX hbl hbA I.S hv1 dL_1117 ?_
        refine lv_aload_n hx hb dL_1118 rfl (lv_at hl 0 rfl) ?_
        refine lv_iload_n hx hb dL_1119 rfl (lv_at hl 3 rfl) ?_
        refine lv_iconst (v := 2) hx hb dL_1120 (by decide) ?_
        refine lv_iadd hx hb dL_1121 ?_
        refine va_sld hx hb hX hbl hbA I.S hv2 dL_1122 ?_
        refine lv_aload_n hx hb dL_1123 rfl (lv_at hl 0 rfl) ?_
        refine lv_iload_n hx hb dL_1124 rfl (lv_at hl 3 rfl) ?_
        refine lv_iconst (v := 3) hx hb dL_1125 (by decide) ?_
        refine lv_iadd hx hb dL_1126 ?_
        refine va_sld hx hb hX hbl hbA I.S hv3 dL_1127 ?_
        refine lv_aload_n hx hb dL_1128 rfl (lv_at hl 0 rfl) ?_
        refine lv_iload_n hx hb dL_1129 rfl (lv_at hl 3 rfl) ?_
        refine lv_iconst (v := 4) hx hb dL_1130 (by decide) ?_
        refine lv_iadd hx hb dL_1131 ?_
        refine va_sld hx hb hX hbl hbA I.S hv4 dL_1132 ?_
        refine lv_aload_n hx hb dL_1133 rfl (lv_at hl 0 rfl) ?_
        refine lv_iload_n hx hb dL_1134 rfl (lv_at hl 3 rfl) ?_
        refine lv_iconst (v := 5) hx hb dL_1135 (by decide) ?_
        refine lv_iadd hx hb dL_1136 ?_
        refine va_sld hx hb hX hbl hbA I.S hv5 dL_1137 ?_
        refine k_V2 (As := [.int (xs (x3 + 1).toNatClampNeg), .int (xs (x3 + 2).toNatClampNeg), .int (xs (x3 + 3).toNatClampNeg), .int (xs (x3 + 4).toNatClampNeg), .int (xs (x3 + 5).toNatClampNeg)]) (rest := []) (st1 := [.int r]) C kx hK I hA (c_X10_run e1) ⟨Nat.le_of_ble_eq_true rfl, Nat.le_of_ble_eq_true rfl⟩ mv_X10_run lk_L_127 0 10 (xw_0 (cI := cI) (cC := cC) (cS := cS) (ad := adx)) rfl rfl hl.1 rfl (Nat.le_of_ble_eq_true rfl) dL_1138 rfl ⟨Nat.le_of_ble_eq_true rfl, Nat.le_of_ble_eq_true rfl⟩ (fun H locs I => ?_)
        have I := I.swap
        refine lv_aload_n hx hb dL_1141 rfl (lv_at hl 2 rfl) ?_
        refine lv_aload_n hx hb dL_1142 rfl (lv_at hl 0 rfl) ?_
        refine lv_iload_n hx hb dL_1143 rfl (lv_at hl 3 rfl) ?_
        refine lv_iconst (v := 1) hx hb dL_1144 (by decide) ?_
        refine lv_iadd hx hb dL_1145 ?_
        refine va_sld hx hb hX hbl hbA I.S hv1 dL_1146 ?_
        refine lv_aload_n hx hb dL_1147 rfl (lv_at hl 0 rfl) ?_
        refine lv_iload_n hx hb dL_1148 rfl (lv_at hl 3 rfl) ?_
        refine lv_iconst (v := 2) hx hb dL_1149 (by decide) ?_
        refine lv_iadd hx hb dL_1150 ?_
        refine va_sld hx hb hX hbl hbA I.S hv2 dL_1151 ?_
        refine lv_aload_n hx hb dL_1152 rfl (lv_at hl 0 rfl) ?_
        refine lv_iload_n hx hb dL_1153 rfl (lv_at hl 3 rfl) ?_
        refine lv_iconst (v := 3) hx hb dL_1154 (by decide) ?_
        refine lv_iadd hx hb dL_1155 ?_
        refine va_sld hx hb hX hbl hbA I.S hv3 dL_1156 ?_
        refine lv_aload_n hx hb dL_1157 rfl (lv_at hl 0 rfl) ?_
        refine lv_iload_n hx hb dL_1158 rfl (lv_at hl 3 rfl) ?_
        refine lv_iconst (v := 4) hx hb dL_1159 (by decide) ?_
        refine lv_iadd hx hb dL_1160 ?_
        refine va_sld hx hb hX hbl hbA I.S hv4 dL_1161 ?_
        refine lv_aload_n hx hb dL_1162 rfl (lv_at hl 0 rfl) ?_
        refine lv_iload_n hx hb dL_1163 rfl (lv_at hl 3 rfl) ?_
        refine lv_iconst (v := 5) hx hb dL_1164 (by decide) ?_
        refine lv_iadd hx hb dL_1165 ?_
        refine va_sld hx hb hX hbl hbA I.S hv5 dL_1166 ?_
        refine k_V2 (As := [.int (xs (x3 + 1).toNatClampNeg), .int (xs (x3 + 2).toNatClampNeg), .int (xs (x3 + 3).toNatClampNeg), .int (xs (x3 + 4).toNatClampNeg), .int (xs (x3 + 5).toNatClampNeg)]) (rest := [.int r]) (st1 := [.int r, .int r]) C kx hK I hA (c_X11_run e2) ⟨Nat.le_of_ble_eq_true rfl, Nat.le_of_ble_eq_true rfl⟩ mv_X11_run lk_L_131 0 11 (mw_0 (cI := cI) (ad := adm)) rfl rfl hl.1 rfl (Nat.le_of_ble_eq_true rfl) dL_1167 rfl ⟨Nat.le_of_ble_eq_true rfl, Nat.le_of_ble_eq_true rfl⟩ (fun H locs I => ?_)
        have I := I.swap
        refine lv_icmp_eq (tgt := 1198) hx hb dL_1170 (by decide) (fun _ => ?_) (fun q => absurd rfl q)
        exact fin Sa Ma hRI _ _ _ I hl
      rcases Decidable.em (z = 27) with c_z27 | c_z27
      · rw [c_z27]
        refine lv_tableIn (x := 27) (off := 1142) (tgt := 1175) hx hb dL_33 (by decide) (by decide) (by decide) (by decide) ?_
        obtain ⟨r, Sa, Ma, e1, e2, hRI⟩ := h_count S M hRI (xs (x3 + 1).toNatClampNeg)
        refine lv_aload_n hx hb dL_1175 rfl (lv_at hl 1 rfl) ?_
        refine lv_aload_n hx hb dL_1176 rfl (lv_at hl 0 rfl) ?_
        refine lv_iload_n hx hb dL_1177 rfl (lv_at hl 3 rfl) ?_
        refine lv_iconst (v := 1) hx hb dL_1178 (by decide) ?_
        refine lv_iadd hx hb dL_1179 ?_
        refine va_sld hx hb hX hbl hbA I.S hv1 dL_1180 ?_
        refine k_V2 (As := [.int (xs (x3 + 1).toNatClampNeg)]) (rest := []) (st1 := [.int r]) C kx hK I hA (c_X10_count e1) ⟨Nat.le_of_ble_eq_true rfl, Nat.le_of_ble_eq_true rfl⟩ mv_X10_count lk_L_132 0 10 (xw_0 (cI := cI) (cC := cC) (cS := cS) (ad := adx)) rfl rfl hl.1 rfl (Nat.le_of_ble_eq_true rfl) dL_1181 rfl ⟨Nat.le_of_ble_eq_true rfl, Nat.le_of_ble_eq_true rfl⟩ (fun H locs I => ?_)
        have I := I.swap
        refine lv_aload_n hx hb dL_1184 rfl (lv_at hl 2 rfl) ?_
        refine lv_aload_n hx hb dL_1185 rfl (lv_at hl 0 rfl) ?_
        refine lv_iload_n hx hb dL_1186 rfl (lv_at hl 3 rfl) ?_
        refine lv_iconst (v := 1) hx hb dL_1187 (by decide) ?_
        refine lv_iadd hx hb dL_1188 ?_
        refine va_sld hx hb hX hbl hbA I.S hv1 dL_1189 ?_
        refine k_V2 (As := [.int (xs (x3 + 1).toNatClampNeg)]) (rest := [.int r]) (st1 := [.int r, .int r]) C kx hK I hA (c_X11_count e2) ⟨Nat.le_of_ble_eq_true rfl, Nat.le_of_ble_eq_true rfl⟩ mv_X11_count lk_L_135 0 11 (mw_0 (cI := cI) (ad := adm)) rfl rfl hl.1 rfl (Nat.le_of_ble_eq_true rfl) dL_1190 rfl ⟨Nat.le_of_ble_eq_true rfl, Nat.le_of_ble_eq_true rfl⟩ (fun H locs I => ?_)
        have I := I.swap
        refine lv_icmp_eq (tgt := 1198) hx hb dL_1193 (by decide) (fun _ => ?_) (fun q => absurd rfl q)
        exact fin Sa Ma hRI _ _ _ I hl
      refine lv_tableOut (tgt := 1198) hx hb dL_33 (by have := lv_neT (k := 0) (a := 0) c_z0 (by decide); have := lv_neT (k := 1) (a := 1) c_z1 (by decide); have := lv_neT (k := 2) (a := 2) c_z2 (by decide); have := lv_neT (k := 3) (a := 3) c_z3 (by decide); have := lv_neT (k := 4) (a := 4) c_z4 (by decide); have := lv_neT (k := 5) (a := 5) c_z5 (by decide); have := lv_neT (k := 6) (a := 6) c_z6 (by decide); have := lv_neT (k := 7) (a := 7) c_z7 (by decide); have := lv_neT (k := 8) (a := 8) c_z8 (by decide); have := lv_neT (k := 9) (a := 9) c_z9 (by decide); have := lv_neT (k := 10) (a := 10) c_z10 (by decide); have := lv_neT (k := 11) (a := 11) c_z11 (by decide); have := lv_neT (k := 12) (a := 12) c_z12 (by decide); have := lv_neT (k := 13) (a := 13) c_z13 (by decide); have := lv_neT (k := 14) (a := 14) c_z14 (by decide); have := lv_neT (k := 15) (a := 15) c_z15 (by decide); have := lv_neT (k := 16) (a := 16) c_z16 (by decide); have := lv_neT (k := 17) (a := 17) c_z17 (by decide); have := lv_neT (k := 18) (a := 18) c_z18 (by decide); have := lv_neT (k := 19) (a := 19) c_z19 (by decide); have := lv_neT (k := 20) (a := 20) c_z20 (by decide); have := lv_neT (k := 21) (a := 21) c_z21 (by decide); have := lv_neT (k := 22) (a := 22) c_z22 (by decide); have := lv_neT (k := 23) (a := 23) c_z23 (by decide); have := lv_neT (k := 24) (a := 24) c_z24 (by decide); have := lv_neT (k := 25) (a := 25) c_z25 (by decide); have := lv_neT (k := 26) (a := 26) c_z26 (by decide); have := lv_neT (k := 27) (a := 27) c_z27 (by decide); omega) (by decide) ?_
      exact fin S M hRI _ _ _ I hl
