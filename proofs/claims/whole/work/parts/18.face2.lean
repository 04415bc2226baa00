theorem fl_X10_21 : Cond.fieldLink RX10 21 RX10 "reader" "LCarryUp$Reader;" ∈ TT := tt_of 385 (by decide +kernel) rfl
theorem lk_X10_84 : Cond.methodLink RX10 84 yX5_read ∈ TT := tt_of 440 (by decide +kernel) rfl
theorem mv_X5_read : MV yX5_read cX5_read 2 (some .int) 0 := ⟨tt_of 443 (by decide +kernel) rfl, tt_of 441 (by decide +kernel) rfl, tt_of 442 (by decide +kernel) rfl, tt_of 67 (by decide +kernel) rfl, ⟨by decide +kernel, by decide +kernel, by decide +kernel⟩⟩
theorem dX10_fault_0 : decode cX10_fault 0 = .ok (.aload_n 0, 1) := by decide +kernel
theorem dX10_fault_1 : decode cX10_fault 1 = .ok (.getfield 21, 3) := by decide +kernel
theorem dX10_fault_4 : decode cX10_fault 4 = .ok (.invokevirtual 84, 3) := by decide +kernel
theorem dX10_fault_7 : decode cX10_fault 7 = .ok (.ireturn, 1) := by decide +kernel
def f_X10_fault (S : St)  : Option (Int32 × St) :=
  obd2 (f_X5_read S ) fun r1 S1 =>
  some (r1, S1)
set_option maxHeartbeats 4000000 in
set_option maxRecDepth 100000 in
theorem c_X10_fault {l : Launch} {D : va_G} {cI cC cS : ClassId} {ad adK adV : Nat → Nat} {S S1 : St}  {r : Int32} (h : f_X10_fault S  = some (r, S1)) : Kt l D (xw cI cC cS ad) (KX D (xtys cI cC cS) adK adV) yX10_fault cX10_fault 1 (some .int) (9) (194) [.ref (ad 0)] S (some (.int r)) S1 := by
  refine k_ent (ins := .ireturn) (st := [.int r]) (by decide +kernel) (Nat.le_of_ble_eq_true rfl) ret_i ?_
  intro p e s m args below meth c A Q C hK I hA hq ls hl
  have C : CallFix p m c cX10_fault 1 s args TT RX10 := C
  have hx := C.1
  have hb := C.2.1
  have kx := kx_ok D (xtys cI cC cS) adK adV
  have hl : lv_has ls 1 [(0, .ref (ad 0))] := hl
  unfold f_X10_fault at h
  refine lv_aload_n hx hb dX10_fault_0 rfl (lv_at hl 0 rfl) ?_
  refine gx_0_1 C hK I fl_X10_21 dX10_fault_1 ?_
  obtain ⟨r1, S1, e1, h⟩ := obd2_ex h
  refine k_V (As := []) (rest := []) (st1 := [.int r1]) C kx hK I hA (c_X5_read e1) ⟨Nat.le_of_ble_eq_true rfl, Nat.le_of_ble_eq_true rfl⟩ mv_X5_read lk_X10_84 2 5 (xw_2 (cI := cI) (ad := ad) (cC := cC) (cS := cS)) rfl rfl hl.1 rfl (Nat.le_of_ble_eq_true rfl) dX10_fault_4 rfl (fun H locs I => ?_)
  exact rt_i hq h I dX10_fault_7
theorem lk_X10_90 : Cond.methodLink RX10 90 yX4_tell ∈ TT := tt_of 587 (by decide +kernel) rfl
theorem mv_X4_tell : MV yX4_tell cX4_tell 4 none 2 := ⟨tt_of 590 (by decide +kernel) rfl, tt_of 588 (by decide +kernel) rfl, tt_of 589 (by decide +kernel) rfl, tt_of 68 (by decide +kernel) rfl, ⟨by decide +kernel, by decide +kernel, by decide +kernel⟩⟩
theorem lk_X10_87 : Cond.methodLink RX10 87 yX5_lines ∈ TT := tt_of 583 (by decide +kernel) rfl
theorem mv_X5_lines : MV yX5_lines cX5_lines 1 (some .int) 0 := ⟨tt_of 586 (by decide +kernel) rfl, tt_of 584 (by decide +kernel) rfl, tt_of 585 (by decide +kernel) rfl, tt_of 67 (by decide +kernel) rfl, ⟨by decide +kernel, by decide +kernel, by decide +kernel⟩⟩
theorem dX10_day_0 : decode cX10_day 0 = .ok (.aload_n 0, 1) := by decide +kernel
theorem dX10_day_1 : decode cX10_day 1 = .ok (.getfield 21, 3) := by decide +kernel
theorem dX10_day_4 : decode cX10_day 4 = .ok (.invokevirtual 84, 3) := by decide +kernel
theorem dX10_day_7 : decode cX10_day 7 = .ok (.iconst (-1), 1) := by decide +kernel
theorem dX10_day_8 : decode cX10_day 8 = .ok (.if_icmp .eq 6, 3) := by decide +kernel
theorem dX10_day_11 : decode cX10_day 11 = .ok (.bipush (-4), 2) := by decide +kernel
theorem dX10_day_13 : decode cX10_day 13 = .ok (.ireturn, 1) := by decide +kernel
theorem dX10_day_14 : decode cX10_day 14 = .ok (.aload_n 0, 1) := by decide +kernel
theorem dX10_day_15 : decode cX10_day 15 = .ok (.getfield 21, 3) := by decide +kernel
theorem dX10_day_18 : decode cX10_day 18 = .ok (.invokevirtual 87, 3) := by decide +kernel
theorem dX10_day_21 : decode cX10_day 21 = .ok (.istore_n 1, 1) := by decide +kernel
theorem dX10_day_22 : decode cX10_day 22 = .ok (.iconst 0, 1) := by decide +kernel
theorem dX10_day_23 : decode cX10_day 23 = .ok (.istore_n 2, 1) := by decide +kernel
theorem dX10_day_24 : decode cX10_day 24 = .ok (.iload_n 2, 1) := by decide +kernel
theorem dX10_day_25 : decode cX10_day 25 = .ok (.iload_n 1, 1) := by decide +kernel
theorem dX10_day_26 : decode cX10_day 26 = .ok (.if_icmp .ge 21, 3) := by decide +kernel
theorem dX10_day_29 : decode cX10_day 29 = .ok (.aload_n 0, 1) := by decide +kernel
theorem dX10_day_30 : decode cX10_day 30 = .ok (.getfield 28, 3) := by decide +kernel
theorem dX10_day_33 : decode cX10_day 33 = .ok (.aload_n 0, 1) := by decide +kernel
theorem dX10_day_34 : decode cX10_day 34 = .ok (.getfield 21, 3) := by decide +kernel
theorem dX10_day_37 : decode cX10_day 37 = .ok (.iload_n 2, 1) := by decide +kernel
theorem dX10_day_38 : decode cX10_day 38 = .ok (.invokevirtual 90, 3) := by decide +kernel
theorem dX10_day_41 : decode cX10_day 41 = .ok (.iinc 2 1, 3) := by decide +kernel
theorem dX10_day_44 : decode cX10_day 44 = .ok (.goto (-20), 3) := by decide +kernel
theorem dX10_day_47 : decode cX10_day 47 = .ok (.aload_n 0, 1) := by decide +kernel
theorem dX10_day_48 : decode cX10_day 48 = .ok (.getfield 10, 3) := by decide +kernel
theorem dX10_day_51 : decode cX10_day 51 = .ok (.invokevirtual 81, 3) := by decide +kernel
theorem dX10_day_54 : decode cX10_day 54 = .ok (.iload_n 1, 1) := by decide +kernel
theorem dX10_day_55 : decode cX10_day 55 = .ok (.ireturn, 1) := by decide +kernel
def f_X10_day_24 (k_24 : St → Int32 → Int32 → Option (Int32 × St)) (S : St) (x1 : Int32) (x2 : Int32) : Option (Int32 × St) :=
  if x1 ≤ x2 then (
    obd (f_X8_clear S ) fun S2 =>
    some (x1, S2)
  ) else (
    obd (f_X4_tell S x2) fun S3 =>
    bnd (x2 + 1 : Int32) fun v4 =>
    k_24 S3 x1 v4
  )
def l_X10_day_24 : Nat → St → Int32 → Int32 → Option (Int32 × St)
  | 0, _, _, _ => none
  | fu + 1, S, x1, x2 => f_X10_day_24 (l_X10_day_24 fu) S x1 x2
def f_X10_day (S : St)  : Option (Int32 × St) :=
  obd2 (f_X5_read S ) fun r5 S5 =>
  if r5 = (-1) then (
    obd2 (f_X5_lines S5 ) fun r7 S7 =>
    l_X10_day_24 FU S7 r7 0
  ) else (
    some ((-4), S5)
  )
set_option maxHeartbeats 4000000 in
set_option maxRecDepth 100000 in
theorem c_X10_day {l : Launch} {D : va_G} {cI cC cS : ClassId} {ad adK adV : Nat → Nat} {S S1 : St}  {r : Int32} (h : f_X10_day S  = some (r, S1)) : Kt l D (xw cI cC cS ad) (KX D (xtys cI cC cS) adK adV) yX10_day cX10_day 3 (some .int) (9) (194) [.ref (ad 0)] S (some (.int r)) S1 := by
  refine k_ent (ins := .ireturn) (st := [.int r]) (by decide +kernel) (Nat.le_of_ble_eq_true rfl) ret_i ?_
  intro p e s m args below meth c A Q C hK I hA hq ls hl
  have C : CallFix p m c cX10_day 3 s args TT RX10 := C
  have hx := C.1
  have hb := C.2.1
  have kx := kx_ok D (xtys cI cC cS) adK adV
  have hl : lv_has ls 3 [(0, .ref (ad 0))] := hl
  have B_24 : ∀ (k_24 : St → Int32 → Int32 → Option (Int32 × St)) (hk_24 : ∀ (S : St) (x1 : Int32) (x2 : Int32), k_24 S x1 x2 = some (r, S1) → ∀ (H : Heap) (locs : List Loc) (ls : Array Slot), Iv D (xw cI cC cS ad) S A s H locs → lv_has ls 3 [(0, .ref (ad 0)), (1, .int x1), (2, .int x2)] → W p l e ({ frames := 9, cells := 0, slots := 0, locals := 194 } : Room) s m args below meth c H locs 0 0 Q (F0 m 24 ls [])) (S : St) (x1 : Int32) (x2 : Int32), f_X10_day_24 k_24 S x1 x2 = some (r, S1) → ∀ (H : Heap) (locs : List Loc) (ls : Array Slot), Iv D (xw cI cC cS ad) S A s H locs → lv_has ls 3 [(0, .ref (ad 0)), (1, .int x1), (2, .int x2)] → W p l e ({ frames := 9, cells := 0, slots := 0, locals := 194 } : Room) s m args below meth c H locs 0 0 Q (F0 m 24 ls []) := by
    intro k_24 hk_24 S x1 x2 h H locs ls I hl
    unfold f_X10_day_24 at h
    refine lv_iload_n hx hb dX10_day_24 rfl (lv_at hl 2 rfl) ?_
    refine lv_iload_n hx hb dX10_day_25 rfl (lv_at hl 1 rfl) ?_
    refine lv_icmp_ge (tgt := 47) hx hb dX10_day_26 (by decide) (fun c1 => ?_) (fun c1 => ?_)
    · have h := ite_t c1 h
      refine lv_aload_n hx hb dX10_day_47 rfl (lv_at hl 0 rfl) ?_
      refine gx_0_0 C hK I fl_X10_10 dX10_day_48 ?_
      obtain ⟨S2, e2, h⟩ := obd_ex h
      refine k_V (As := []) (rest := []) (st1 := []) C kx hK I hA (c_X8_clear e2) ⟨Nat.le_of_ble_eq_true rfl, Nat.le_of_ble_eq_true rfl⟩ mv_X8_clear lk_X10_81 1 8 (xw_1 (cI := cI) (ad := ad) (cC := cC) (cS := cS)) rfl rfl hl.1 rfl (Nat.le_of_ble_eq_true rfl) dX10_day_51 rfl (fun H locs I => ?_)
      refine lv_iload_n hx hb dX10_day_54 rfl (lv_at hl 1 rfl) ?_
      exact rt_i hq h I dX10_day_55
    · have h := ite_n c1 h
      refine lv_aload_n hx hb dX10_day_29 rfl (lv_at hl 0 rfl) ?_
      refine gx_0_2 C hK I fl_X10_28 dX10_day_30 ?_
      refine lv_aload_n hx hb dX10_day_33 rfl (lv_at hl 0 rfl) ?_
      refine gx_0_1 C hK I fl_X10_21 dX10_day_34 ?_
      refine lv_iload_n hx hb dX10_day_37 rfl (lv_at hl 2 rfl) ?_
      obtain ⟨S3, e3, h⟩ := obd_ex h
      refine k_V (As := [.ref (ad 2), .int x2]) (rest := []) (st1 := []) C kx hK I hA (c_X4_tell e3) ⟨Nat.le_of_ble_eq_true rfl, Nat.le_of_ble_eq_true rfl⟩ mv_X4_tell lk_X10_90 3 4 (xw_3 (cI := cI) (ad := ad) (cC := cC) (cS := cS)) rfl rfl hl.1 rfl (Nat.le_of_ble_eq_true rfl) dX10_day_38 rfl (fun H locs I => ?_)
      obtain ⟨v4, ev4⟩ : ∃ y : Int32, y = x2 + 1 := ⟨_, rfl⟩
      have h := bnd_at ev4 h
      refine lv_iinc (v := v4) (lv' := [(2, .int v4), (0, .ref (ad 0)), (1, .int x1)]) hx hb dX10_day_41 hl (k := 2) rfl (by rw [ev4]; rfl) (by decide) rfl (fun ls hl => ?_)
      clear ev4
      refine lv_goto (tgt := 24) hx hb dX10_day_44 (by decide) ?_
      exact hk_24 _ _ _ h _ _ _ I (lv_sub hl [1, 2, 0] rfl)
  have J_24 : ∀ (fu : Nat) (S : St) (x1 : Int32) (x2 : Int32), l_X10_day_24  fu S x1 x2 = some (r, S1) → ∀ (H : Heap) (locs : List Loc) (ls : Array Slot), Iv D (xw cI cC cS ad) S A s H locs → lv_has ls 3 [(0, .ref (ad 0)), (1, .int x1), (2, .int x2)] → W p l e ({ frames := 9, cells := 0, slots := 0, locals := 194 } : Room) s m args below meth c H locs 0 0 Q (F0 m 24 ls []) := by
    intro fu
    induction fu with
    | zero => intro S x1 x2 h; cases h
    | succ fu ih => intro S x1 x2 h; exact B_24 (l_X10_day_24 fu) ih S x1 x2 h
  unfold f_X10_day at h
  refine lv_aload_n hx hb dX10_day_0 rfl (lv_at hl 0 rfl) ?_
  refine gx_0_1 C hK I fl_X10_21 dX10_day_1 ?_
  obtain ⟨r5, S5, e5, h⟩ := obd2_ex h
  refine k_V (As := []) (rest := []) (st1 := [.int r5]) C kx hK I hA (c_X5_read e5) ⟨Nat.le_of_ble_eq_true rfl, Nat.le_of_ble_eq_true rfl⟩ mv_X5_read lk_X10_84 2 5 (xw_2 (cI := cI) (ad := ad) (cC := cC) (cS := cS)) rfl rfl hl.1 rfl (Nat.le_of_ble_eq_true rfl) dX10_day_4 rfl (fun H locs I => ?_)
  refine lv_iconst (v := (-1)) hx hb dX10_day_7 (by decide) ?_
  refine lv_icmp_eq (tgt := 14) hx hb dX10_day_8 (by decide) (fun c6 => ?_) (fun c6 => ?_)
  · have h := ite_t c6 h
    refine lv_aload_n hx hb dX10_day_14 rfl (lv_at hl 0 rfl) ?_
    refine gx_0_1 C hK I fl_X10_21 dX10_day_15 ?_
    obtain ⟨r7, S7, e7, h⟩ := obd2_ex h
    refine k_V (As := []) (rest := []) (st1 := [.int r7]) C kx hK I hA (c_X5_lines e7) ⟨Nat.le_of_ble_eq_true rfl, Nat.le_of_ble_eq_true rfl⟩ mv_X5_lines lk_X10_87 2 5 (xw_2 (cI := cI) (ad := ad) (cC := cC) (cS := cS)) rfl rfl hl.1 rfl (Nat.le_of_ble_eq_true rfl) dX10_day_18 rfl (fun H locs I => ?_)
    refine lv_istore_n (lv' := [(1, .int r7), (0, .ref (ad 0))]) hx hb dX10_day_21 rfl hl (by decide) rfl (fun ls hl => ?_)
    refine lv_iconst (v := 0) hx hb dX10_day_22 (by decide) ?_
    refine lv_istore_n (lv' := [(2, .int 0), (1, .int r7), (0, .ref (ad 0))]) hx hb dX10_day_23 rfl hl (by decide) rfl (fun ls hl => ?_)
    exact J_24 _ _ _ _ h _ _ _ I (lv_sub hl [2, 1, 0] rfl)
  · have h := ite_n c6 h
    refine lv_bipush (v := (-4)) hx hb dX10_day_11 (by decide) ?_
    exact rt_i hq h I dX10_day_13
