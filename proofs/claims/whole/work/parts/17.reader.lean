theorem fl_X5_19 : Cond.fieldLink RX5 19 RX5 "lines" "I" ∈ TT := tt_of 113 (by decide +kernel) rfl
theorem dX5_lines_0 : decode cX5_lines 0 = .ok (.aload_n 0, 1) := by decide +kernel
theorem dX5_lines_1 : decode cX5_lines 1 = .ok (.getfield 19, 3) := by decide +kernel
theorem dX5_lines_4 : decode cX5_lines 4 = .ok (.ireturn, 1) := by decide +kernel
def f_X5_lines (S : St)  : Option (Int32 × St) :=
  some ((S.1 2 2), S)
set_option maxHeartbeats 4000000 in
set_option maxRecDepth 100000 in
theorem c_X5_lines {l : Launch} {D : va_G} {cI cC cS : ClassId} {ad adK adV : Nat → Nat} {S S1 : St}  {r : Int32} (h : f_X5_lines S  = some (r, S1)) : Kt l D (xw cI cC cS ad) (KX D (xtys cI cC cS) adK adV) yX5_lines cX5_lines 1 (some .int) (0) (0) [.ref (ad 2)] S (some (.int r)) S1 := by
  refine k_ent (ins := .ireturn) (st := [.int r]) (by decide +kernel) (Nat.le_of_ble_eq_true rfl) ret_i ?_
  intro p e s m args below meth c A Q C hK I hA hq ls hl
  have C : CallFix p m c cX5_lines 1 s args TT RX5 := C
  have hx := C.1
  have hb := C.2.1
  have kx := kx_ok D (xtys cI cC cS) adK adV
  have hl : lv_has ls 1 [(0, .ref (ad 2))] := hl
  unfold f_X5_lines at h
  refine lv_aload_n hx hb dX5_lines_0 rfl (lv_at hl 0 rfl) ?_
  refine gx_2_2 C hK I fl_X5_19 dX5_lines_1 ?_
  exact rt_i hq h I dX5_lines_4
theorem fl_X5_35 : Cond.fieldLink RX5 35 RX5 "to" "I" ∈ TT := tt_of 116 (by decide +kernel) rfl
theorem fl_X5_15 : Cond.fieldLink RX5 15 RX5 "text" "LCarryUp$Text;" ∈ TT := tt_of 111 (by decide +kernel) rfl
theorem lk_X5_119 : Cond.methodLink RX5 119 yX8_kindAt ∈ TT := tt_of 449 (by decide +kernel) rfl
theorem fl_X5_53 : Cond.fieldLink RX5 53 RX5 "from" "I" ∈ TT := tt_of 115 (by decide +kernel) rfl
theorem fl_X5_47 : Cond.fieldLink RX5 47 RX5 "noted" "I" ∈ TT := tt_of 114 (by decide +kernel) rfl
theorem lk_X5_115 : Cond.methodLinkNest RX5 115 yX10_put "CarryUp" ∈ NN := nn_of 529 (by decide +kernel) rfl
theorem dX5_note_0 : decode cX5_note 0 = .ok (.aload_n 0, 1) := by decide +kernel
theorem dX5_note_1 : decode cX5_note 1 = .ok (.getfield 11, 3) := by decide +kernel
theorem dX5_note_4 : decode cX5_note 4 = .ok (.aload_n 0, 1) := by decide +kernel
theorem dX5_note_5 : decode cX5_note 5 = .ok (.getfield 47, 3) := by decide +kernel
theorem dX5_note_8 : decode cX5_note 8 = .ok (.iload_n 1, 1) := by decide +kernel
theorem dX5_note_9 : decode cX5_note 9 = .ok (.invokestatic 115, 3) := by decide +kernel
theorem dX5_note_12 : decode cX5_note 12 = .ok (.aload_n 0, 1) := by decide +kernel
theorem dX5_note_13 : decode cX5_note 13 = .ok (.dup, 1) := by decide +kernel
theorem dX5_note_14 : decode cX5_note 14 = .ok (.getfield 47, 3) := by decide +kernel
theorem dX5_note_17 : decode cX5_note 17 = .ok (.iconst 1, 1) := by decide +kernel
theorem dX5_note_18 : decode cX5_note 18 = .ok (.iadd, 1) := by decide +kernel
theorem dX5_note_19 : decode cX5_note 19 = .ok (.putfield 47, 3) := by decide +kernel
theorem dX5_note_22 : decode cX5_note 22 = .ok (.return_, 1) := by decide +kernel
def f_X5_note (S : St) (x1 : Int32) : Option St :=
  obd (f_X10_put S 1 (S.1 2 3) x1) fun S1 =>
  bnd (setI S1 2 3 ((S1.1 2 3) + 1)) fun S2 =>
  some S2
set_option maxHeartbeats 4000000 in
set_option maxRecDepth 100000 in
theorem c_X5_note {l : Launch} {D : va_G} {cI cC cS : ClassId} {ad adK adV : Nat → Nat} {S S1 : St} {x1 : Int32} (h : f_X5_note S x1 = some S1) : Kt l D (xw cI cC cS ad) (KX D (xtys cI cC cS) adK adV) yX5_note cX5_note 2 none (1) (22) [.ref (ad 2), .int x1] S (none) S1 := by
  refine k_ent (ins := .return_) (st := []) (by decide +kernel) (Nat.le_of_ble_eq_true rfl) ret_v ?_
  intro p e s m args below meth c A Q C hK I hA hq ls hl
  have C : CallFix p m c cX5_note 2 s args TT RX5 := C
  have hx := C.1
  have hb := C.2.1
  have kx := kx_ok D (xtys cI cC cS) adK adV
  have hl : lv_has ls 2 [(0, .ref (ad 2)), (1, .int x1)] := hl
  unfold f_X5_note at h
  refine lv_aload_n hx hb dX5_note_0 rfl (lv_at hl 0 rfl) ?_
  refine gx_2_1 C hK I fl_X5_11 dX5_note_1 ?_
  refine lv_aload_n hx hb dX5_note_4 rfl (lv_at hl 0 rfl) ?_
  refine gx_2_3 C hK I fl_X5_47 dX5_note_5 ?_
  refine lv_iload_n hx hb dX5_note_8 rfl (lv_at hl 1 rfl) ?_
  obtain ⟨S1, e1, h⟩ := obd_ex h
  refine k_SN (As := [.ref (ad 12), .int (S.1 2 3), .int x1]) (rest := []) (st1 := []) C kx hK I hA (c_X10_put e1) ⟨Nat.le_of_ble_eq_true rfl, Nat.le_of_ble_eq_true rfl⟩ ms_X10_put lk_X5_115 rfl hl.1 rfl (Nat.le_of_ble_eq_true rfl) dX5_note_9 rfl (fun H locs I => ?_)
  refine lv_aload_n hx hb dX5_note_12 rfl (lv_at hl 0 rfl) ?_
  refine lv_dup hx hb dX5_note_13 rfl ?_
  refine gx_2_3 C hK I fl_X5_47 dX5_note_14 ?_
  refine lv_iconst (v := 1) hx hb dX5_note_17 (by decide) ?_
  refine lv_iadd hx hb dX5_note_18 ?_
  refine px_2_3 C hK I fl_X5_47 dX5_note_19 (fun S2 eS2 H locs I => ?_)
  have h := bnd_at eS2 h
  clear eS2
  exact rt_v hq h I dX5_note_22
