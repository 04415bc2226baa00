theorem arrI : Cond.arrayClass .int ∈ TT := tt_of 104 (by decide +kernel) rfl
theorem objI : Cond.instanceMethod objectInit ∈ TT := tt_of 89 (by decide +kernel) rfl
theorem objC : Cond.code objectInit ⟨#[0xb1]⟩ 1 none ∈ TT := tt_of 90 (by decide +kernel) rfl
theorem up4 (a : Nat → Nat) : va_up (va_up (va_up (va_up (fun _ => none) 0 (some (a 0))) 1 (some (a 1))) 2 (some (a 2))) 3 (some (a 3)) = fun j => if j < 4 then some (a j) else none := by
  funext j
  match j with
  | 0 => rfl
  | 1 => rfl
  | 2 => rfl
  | 3 => rfl
  | n + 4 => simp only [va_up]; rw [if_neg (by omega), if_neg (by omega), if_neg (by omega), if_neg (by omega), if_neg (by omega)]
theorem up6 (a : Nat → Nat) : va_up (va_up (va_up (va_up (va_up (va_up (fun _ => none) 0 (some (a 0))) 1 (some (a 1))) 2 (some (a 2))) 3 (some (a 3))) 4 (some (a 4))) 5 (some (a 5)) = fun j => if j < 6 then some (a j) else none := by
  funext j
  match j with
  | 0 => rfl
  | 1 => rfl
  | 2 => rfl
  | 3 => rfl
  | 4 => rfl
  | 5 => rfl
  | n + 6 => simp only [va_up]; rw [if_neg (by omega), if_neg (by omega), if_neg (by omega), if_neg (by omega), if_neg (by omega), if_neg (by omega), if_neg (by omega)]
def adOf (L : List Nat) : Nat → Nat := fun k => L.getD k 0
theorem dX7_init_0 : decode cX7_init 0 = .ok (.aload_n 0, 1) := by decide +kernel
theorem dX7_init_1 : decode cX7_init 1 = .ok (.invokespecial 3, 3) := by decide +kernel
theorem dX7_init_4 : decode cX7_init 4 = .ok (.return_, 1) := by decide +kernel
theorem lo_X7 : Cond.methodLink RX7 3 objectInit ∈ TT := tt_of 152 (by decide +kernel) rfl
set_option maxHeartbeats 40000000 in
set_option maxRecDepth 100000 in
theorem c_X7_init (l : Launch) (D : va_G) (cI cC cS : ClassId) (h0 : Nat) : Kn l D cI cC cS yX7_init cX7_init 1 1 12 0 0 [.ref h0] [(h0, .inr (7, [.int 0, .int 0, .int 0, .int 0]))] (fun ws9 => ws9 = [(h0, .inr (7, [.int 0, .int 0, .int 0, .int 0]))]) := by
  refine n_ent (by decide +kernel) rfl (Nat.le_of_ble_eq_true rfl) ?_
  intro p e s m args below meth c A Q C hK I hA hin hq ls hl
  have C : CallFix p m c cX7_init 1 s args TT RX7 := C
  have hx := C.1
  have hb := C.2.1
  have hl : lv_has ls 1 [(0, .ref h0)] := hl
  refine lv_aload_n hx hb dX7_init_0 rfl (lv_at hl 0 rfl) ?_
  refine n_obj C lo_X7 objI objC hl.1 dX7_init_1 (Nat.le_of_ble_eq_true rfl) (Nat.le_of_ble_eq_true rfl) ?_
  exact hq _ _ _ _ _ rfl I dX7_init_4
theorem dX8_init_0 : decode cX8_init 0 = .ok (.aload_n 0, 1) := by decide +kernel
theorem dX8_init_1 : decode cX8_init 1 = .ok (.invokespecial 3, 3) := by decide +kernel
theorem dX8_init_4 : decode cX8_init 4 = .ok (.aload_n 0, 1) := by decide +kernel
theorem dX8_init_5 : decode cX8_init 5 = .ok (.sipush 200, 3) := by decide +kernel
theorem dX8_init_8 : decode cX8_init 8 = .ok (.newarray .int, 2) := by decide +kernel
theorem dX8_init_10 : decode cX8_init 10 = .ok (.putfield 11, 3) := by decide +kernel
theorem dX8_init_13 : decode cX8_init 13 = .ok (.return_, 1) := by decide +kernel
theorem lo_X8 : Cond.methodLink RX8 3 objectInit ∈ TT := tt_of 96 (by decide +kernel) rfl
set_option maxHeartbeats 40000000 in
set_option maxRecDepth 100000 in
theorem c_X8_init (l : Launch) (D : va_G) (cI cC cS : ClassId) (h0 : Nat) : Kn l D cI cC cS yX8_init cX8_init 1 1 12 1 200 [.ref h0] [(h0, .inr (8, [.null, .int 0]))] (fun ws9 => ∃ q : Nat → Nat, ws9 = [(h0, .inr (8, [.ref (q 0), .int 0])), ((q 0), .inl (cI, 200, .inl (fun _ => 0)))]) := by
  refine n_ent (by decide +kernel) rfl (Nat.le_of_ble_eq_true rfl) ?_
  intro p e s m args below meth c A Q C hK I hA hin hq ls hl
  have C : CallFix p m c cX8_init 1 s args TT RX8 := C
  have hx := C.1
  have hb := C.2.1
  have hl : lv_has ls 1 [(0, .ref h0)] := hl
  refine lv_aload_n hx hb dX8_init_0 rfl (lv_at hl 0 rfl) ?_
  refine n_obj C lo_X8 objI objC hl.1 dX8_init_1 (Nat.le_of_ble_eq_true rfl) (Nat.le_of_ble_eq_true rfl) ?_
  refine lv_aload_n hx hb dX8_init_4 rfl (lv_at hl 0 rfl) ?_
  refine lv_sipush (v := 200) hx hb dX8_init_5 (by decide) ?_
  refine n_int C hK I hA arrI (N := 200) (by decide) (by decide) (by decide) (Nat.le_of_ble_eq_true rfl) (Nat.le_of_ble_eq_true rfl) dX8_init_8 (fun q1 H I => ?_)
  have I : Iw D [(h0, .inr (8, [.null, .int 0])), (q1, .inl (cI, 200, .inl (fun _ => 0)))] A s H _ := I
  refine n_putF C hK I inT8 tyX8 tyX8_ok nmX8 0 8 0 rfl rfl (by decide) rfl rfl hin fl_X8_11 rfl rfl rfl (Nat.le_of_ble_eq_true rfl) (ws1 := [(h0, .inr (8, [.ref q1, .int 0])), (q1, .inl (cI, 200, .inl (fun _ => 0)))]) rfl dX8_init_10 (fun H locs I => ?_)
  exact hq _ _ _ _ _ ⟨fun k => [q1].getD k 0, rfl⟩ I dX8_init_13
theorem dX5_init_0 : decode cX5_init 0 = .ok (.aload_n 0, 1) := by decide +kernel
theorem dX5_init_1 : decode cX5_init 1 = .ok (.invokespecial 3, 3) := by decide +kernel
theorem dX5_init_4 : decode cX5_init 4 = .ok (.aload_n 0, 1) := by decide +kernel
theorem dX5_init_5 : decode cX5_init 5 = .ok (.bipush 80, 2) := by decide +kernel
theorem dX5_init_7 : decode cX5_init 7 = .ok (.newarray .int, 2) := by decide +kernel
theorem dX5_init_9 : decode cX5_init 9 = .ok (.putfield 11, 3) := by decide +kernel
theorem dX5_init_12 : decode cX5_init 12 = .ok (.aload_n 0, 1) := by decide +kernel
theorem dX5_init_13 : decode cX5_init 13 = .ok (.aload_n 1, 1) := by decide +kernel
theorem dX5_init_14 : decode cX5_init 14 = .ok (.putfield 15, 3) := by decide +kernel
theorem dX5_init_17 : decode cX5_init 17 = .ok (.return_, 1) := by decide +kernel
theorem lo_X5 : Cond.methodLink RX5 3 objectInit ∈ TT := tt_of 110 (by decide +kernel) rfl
set_option maxHeartbeats 40000000 in
set_option maxRecDepth 100000 in
theorem c_X5_init (l : Launch) (D : va_G) (cI cC cS : ClassId) (h0 p1 : Nat) : Kn l D cI cC cS yX5_init cX5_init 2 1 12 1 80 [.ref h0, .ref p1] [(h0, .inr (5, [.null, .null, .int 0, .int 0, .int 0, .int 0, .int 0]))] (fun ws9 => ∃ q : Nat → Nat, ws9 = [(h0, .inr (5, [.ref p1, .ref (q 0), .int 0, .int 0, .int 0, .int 0, .int 0])), ((q 0), .inl (cI, 80, .inl (fun _ => 0)))]) := by
  refine n_ent (by decide +kernel) rfl (Nat.le_of_ble_eq_true rfl) ?_
  intro p e s m args below meth c A Q C hK I hA hin hq ls hl
  have C : CallFix p m c cX5_init 2 s args TT RX5 := C
  have hx := C.1
  have hb := C.2.1
  have hl : lv_has ls 2 [(0, .ref h0), (1, .ref p1)] := hl
  refine lv_aload_n hx hb dX5_init_0 rfl (lv_at hl 0 rfl) ?_
  refine n_obj C lo_X5 objI objC hl.1 dX5_init_1 (Nat.le_of_ble_eq_true rfl) (Nat.le_of_ble_eq_true rfl) ?_
  refine lv_aload_n hx hb dX5_init_4 rfl (lv_at hl 0 rfl) ?_
  refine lv_bipush (v := 80) hx hb dX5_init_5 (by decide) ?_
  refine n_int C hK I hA arrI (N := 80) (by decide) (by decide) (by decide) (Nat.le_of_ble_eq_true rfl) (Nat.le_of_ble_eq_true rfl) dX5_init_7 (fun q1 H I => ?_)
  have I : Iw D [(h0, .inr (5, [.null, .null, .int 0, .int 0, .int 0, .int 0, .int 0])), (q1, .inl (cI, 80, .inl (fun _ => 0)))] A s H _ := I
  refine n_putF C hK I inT5 tyX5 tyX5_ok nmX5 0 5 1 rfl rfl (by decide) rfl rfl hin fl_X5_11 rfl rfl rfl (Nat.le_of_ble_eq_true rfl) (ws1 := [(h0, .inr (5, [.null, .ref q1, .int 0, .int 0, .int 0, .int 0, .int 0])), (q1, .inl (cI, 80, .inl (fun _ => 0)))]) rfl dX5_init_9 (fun H locs I => ?_)
  refine lv_aload_n hx hb dX5_init_12 rfl (lv_at hl 0 rfl) ?_
  refine lv_aload_n hx hb dX5_init_13 rfl (lv_at hl 1 rfl) ?_
  refine n_putF C hK I inT5 tyX5 tyX5_ok nmX5 0 5 0 rfl rfl (by decide) rfl rfl hin fl_X5_15 rfl rfl rfl (Nat.le_of_ble_eq_true rfl) (ws1 := [(h0, .inr (5, [.ref p1, .ref q1, .int 0, .int 0, .int 0, .int 0, .int 0])), (q1, .inl (cI, 80, .inl (fun _ => 0)))]) rfl dX5_init_14 (fun H locs I => ?_)
  exact hq _ _ _ _ _ ⟨fun k => [q1].getD k 0, rfl⟩ I dX5_init_17
theorem dX6_init_0 : decode cX6_init 0 = .ok (.aload_n 0, 1) := by decide +kernel
theorem dX6_init_1 : decode cX6_init 1 = .ok (.invokespecial 3, 3) := by decide +kernel
theorem dX6_init_4 : decode cX6_init 4 = .ok (.aload_n 0, 1) := by decide +kernel
theorem dX6_init_5 : decode cX6_init 5 = .ok (.bipush 6, 2) := by decide +kernel
theorem dX6_init_7 : decode cX6_init 7 = .ok (.newarray .int, 2) := by decide +kernel
theorem dX6_init_9 : decode cX6_init 9 = .ok (.putfield 9, 3) := by decide +kernel
theorem dX6_init_12 : decode cX6_init 12 = .ok (.aload_n 0, 1) := by decide +kernel
theorem dX6_init_13 : decode cX6_init 13 = .ok (.bipush 6, 2) := by decide +kernel
theorem dX6_init_15 : decode cX6_init 15 = .ok (.newarray .int, 2) := by decide +kernel
theorem dX6_init_17 : decode cX6_init 17 = .ok (.putfield 15, 3) := by decide +kernel
theorem dX6_init_20 : decode cX6_init 20 = .ok (.aload_n 0, 1) := by decide +kernel
theorem dX6_init_21 : decode cX6_init 21 = .ok (.bipush 6, 2) := by decide +kernel
theorem dX6_init_23 : decode cX6_init 23 = .ok (.anewarray 18, 3) := by decide +kernel
theorem dX6_init_26 : decode cX6_init 26 = .ok (.putfield 20, 3) := by decide +kernel
theorem dX6_init_29 : decode cX6_init 29 = .ok (.aload_n 0, 1) := by decide +kernel
theorem dX6_init_30 : decode cX6_init 30 = .ok (.iconst (-1), 1) := by decide +kernel
theorem dX6_init_31 : decode cX6_init 31 = .ok (.putfield 24, 3) := by decide +kernel
theorem dX6_init_34 : decode cX6_init 34 = .ok (.aload_n 0, 1) := by decide +kernel
theorem dX6_init_35 : decode cX6_init 35 = .ok (.iconst (-1), 1) := by decide +kernel
theorem dX6_init_36 : decode cX6_init 36 = .ok (.putfield 28, 3) := by decide +kernel
theorem dX6_init_39 : decode cX6_init 39 = .ok (.aload_n 0, 1) := by decide +kernel
theorem dX6_init_40 : decode cX6_init 40 = .ok (.aload_n 1, 1) := by decide +kernel
theorem dX6_init_41 : decode cX6_init 41 = .ok (.putfield 31, 3) := by decide +kernel
theorem dX6_init_44 : decode cX6_init 44 = .ok (.return_, 1) := by decide +kernel
theorem lo_X6 : Cond.methodLink RX6 3 objectInit ∈ TT := tt_of 257 (by decide +kernel) rfl
theorem cl_X6_18 : Cond.classLink RX6 18 RX1 ∈ TT := tt_of 258 (by decide +kernel) rfl
set_option maxHeartbeats 40000000 in
set_option maxRecDepth 100000 in
theorem c_X6_init (l : Launch) (D : va_G) (cI cC cS : ClassId) (h0 p1 : Nat) : Kn l D cI cC cS yX6_init cX6_init 2 1 12 3 18 [.ref h0, .ref p1] [(h0, .inr (6, [.null, .null, .null, .null, .int 0, .int 0, .int 0]))] (fun ws9 => ∃ q : Nat → Nat, ws9 = [(h0, .inr (6, [.ref p1, .ref (q 0), .ref (q 1), .ref (q 2), .int 0, .int (-1), .int (-1)])), ((q 0), .inl (cI, 6, .inl (fun _ => 0))), ((q 1), .inl (cI, 6, .inl (fun _ => 0))), ((q 2), .inl (cC, 6, .inr (.inr (.inr (.inr (fun _ => none))))))]) := by
  refine n_ent (by decide +kernel) rfl (Nat.le_of_ble_eq_true rfl) ?_
  intro p e s m args below meth c A Q C hK I hA hin hq ls hl
  have C : CallFix p m c cX6_init 2 s args TT RX6 := C
  have hx := C.1
  have hb := C.2.1
  have hl : lv_has ls 2 [(0, .ref h0), (1, .ref p1)] := hl
  refine lv_aload_n hx hb dX6_init_0 rfl (lv_at hl 0 rfl) ?_
  refine n_obj C lo_X6 objI objC hl.1 dX6_init_1 (Nat.le_of_ble_eq_true rfl) (Nat.le_of_ble_eq_true rfl) ?_
  refine lv_aload_n hx hb dX6_init_4 rfl (lv_at hl 0 rfl) ?_
  refine lv_bipush (v := 6) hx hb dX6_init_5 (by decide) ?_
  refine n_int C hK I hA arrI (N := 6) (by decide) (by decide) (by decide) (Nat.le_of_ble_eq_true rfl) (Nat.le_of_ble_eq_true rfl) dX6_init_7 (fun q1 H I => ?_)
  have I : Iw D [(h0, .inr (6, [.null, .null, .null, .null, .int 0, .int 0, .int 0])), (q1, .inl (cI, 6, .inl (fun _ => 0)))] A s H _ := I
  refine n_putF C hK I inT6 tyX6 tyX6_ok nmX6 0 6 1 rfl rfl (by decide) rfl rfl hin fl_X6_9 rfl rfl rfl (Nat.le_of_ble_eq_true rfl) (ws1 := [(h0, .inr (6, [.null, .ref q1, .null, .null, .int 0, .int 0, .int 0])), (q1, .inl (cI, 6, .inl (fun _ => 0)))]) rfl dX6_init_9 (fun H locs I => ?_)
  refine lv_aload_n hx hb dX6_init_12 rfl (lv_at hl 0 rfl) ?_
  refine lv_bipush (v := 6) hx hb dX6_init_13 (by decide) ?_
  refine n_int C hK I hA arrI (N := 6) (by decide) (by decide) (by decide) (Nat.le_of_ble_eq_true rfl) (Nat.le_of_ble_eq_true rfl) dX6_init_15 (fun q2 H I => ?_)
  have I : Iw D [(h0, .inr (6, [.null, .ref q1, .null, .null, .int 0, .int 0, .int 0])), (q1, .inl (cI, 6, .inl (fun _ => 0))), (q2, .inl (cI, 6, .inl (fun _ => 0)))] A s H _ := I
  refine n_putF C hK I inT6 tyX6 tyX6_ok nmX6 0 6 2 rfl rfl (by decide) rfl rfl hin fl_X6_15 rfl rfl rfl (Nat.le_of_ble_eq_true rfl) (ws1 := [(h0, .inr (6, [.null, .ref q1, .ref q2, .null, .int 0, .int 0, .int 0])), (q1, .inl (cI, 6, .inl (fun _ => 0))), (q2, .inl (cI, 6, .inl (fun _ => 0)))]) rfl dX6_init_17 (fun H locs I => ?_)
  refine lv_aload_n hx hb dX6_init_20 rfl (lv_at hl 0 rfl) ?_
  refine lv_bipush (v := 6) hx hb dX6_init_21 (by decide) ?_
  refine n_ref C hK I hA 1 rfl hK.2.2.1 cl_X6_18 (N := 6) (by decide) (by decide) (by decide) (Nat.le_of_ble_eq_true rfl) (Nat.le_of_ble_eq_true rfl) dX6_init_23 (fun q3 H I => ?_)
  have I : Iw D [(h0, .inr (6, [.null, .ref q1, .ref q2, .null, .int 0, .int 0, .int 0])), (q1, .inl (cI, 6, .inl (fun _ => 0))), (q2, .inl (cI, 6, .inl (fun _ => 0))), (q3, .inl (cC, 6, .inr (.inr (.inr (.inr (fun _ => none))))))] A s H _ := I
  refine n_putF C hK I inT6 tyX6 tyX6_ok nmX6 0 6 3 rfl rfl (by decide) rfl rfl hin fl_X6_20 rfl rfl rfl (Nat.le_of_ble_eq_true rfl) (ws1 := [(h0, .inr (6, [.null, .ref q1, .ref q2, .ref q3, .int 0, .int 0, .int 0])), (q1, .inl (cI, 6, .inl (fun _ => 0))), (q2, .inl (cI, 6, .inl (fun _ => 0))), (q3, .inl (cC, 6, .inr (.inr (.inr (.inr (fun _ => none))))))]) rfl dX6_init_26 (fun H locs I => ?_)
  refine lv_aload_n hx hb dX6_init_29 rfl (lv_at hl 0 rfl) ?_
  refine lv_iconst (v := (-1)) hx hb dX6_init_30 (by decide) ?_
  refine n_put C hK I inT6 tyX6 tyX6_ok nmX6 0 6 5 rfl rfl (by decide) rfl fl_X6_24 rfl rfl rfl (Nat.le_of_ble_eq_true rfl) (ws1 := [(h0, .inr (6, [.null, .ref q1, .ref q2, .ref q3, .int 0, .int (-1), .int 0])), (q1, .inl (cI, 6, .inl (fun _ => 0))), (q2, .inl (cI, 6, .inl (fun _ => 0))), (q3, .inl (cC, 6, .inr (.inr (.inr (.inr (fun _ => none))))))]) rfl dX6_init_31 (fun H locs I => ?_)
  refine lv_aload_n hx hb dX6_init_34 rfl (lv_at hl 0 rfl) ?_
  refine lv_iconst (v := (-1)) hx hb dX6_init_35 (by decide) ?_
  refine n_put C hK I inT6 tyX6 tyX6_ok nmX6 0 6 6 rfl rfl (by decide) rfl fl_X6_28 rfl rfl rfl (Nat.le_of_ble_eq_true rfl) (ws1 := [(h0, .inr (6, [.null, .ref q1, .ref q2, .ref q3, .int 0, .int (-1), .int (-1)])), (q1, .inl (cI, 6, .inl (fun _ => 0))), (q2, .inl (cI, 6, .inl (fun _ => 0))), (q3, .inl (cC, 6, .inr (.inr (.inr (.inr (fun _ => none))))))]) rfl dX6_init_36 (fun H locs I => ?_)
  refine lv_aload_n hx hb dX6_init_39 rfl (lv_at hl 0 rfl) ?_
  refine lv_aload_n hx hb dX6_init_40 rfl (lv_at hl 1 rfl) ?_
  refine n_putF C hK I inT6 tyX6 tyX6_ok nmX6 0 6 0 rfl rfl (by decide) rfl rfl hin fl_X6_31 rfl rfl rfl (Nat.le_of_ble_eq_true rfl) (ws1 := [(h0, .inr (6, [.ref p1, .ref q1, .ref q2, .ref q3, .int 0, .int (-1), .int (-1)])), (q1, .inl (cI, 6, .inl (fun _ => 0))), (q2, .inl (cI, 6, .inl (fun _ => 0))), (q3, .inl (cC, 6, .inr (.inr (.inr (.inr (fun _ => none))))))]) rfl dX6_init_41 (fun H locs I => ?_)
  exact hq _ _ _ _ _ ⟨fun k => [q1, q2, q3].getD k 0, rfl⟩ I dX6_init_44
theorem dX9_init_0 : decode cX9_init 0 = .ok (.aload_n 0, 1) := by decide +kernel
theorem dX9_init_1 : decode cX9_init 1 = .ok (.invokespecial 3, 3) := by decide +kernel
theorem dX9_init_4 : decode cX9_init 4 = .ok (.aload_n 0, 1) := by decide +kernel
theorem dX9_init_5 : decode cX9_init 5 = .ok (.aload_n 1, 1) := by decide +kernel
theorem dX9_init_6 : decode cX9_init 6 = .ok (.putfield 9, 3) := by decide +kernel
theorem dX9_init_9 : decode cX9_init 9 = .ok (.aload_n 0, 1) := by decide +kernel
theorem dX9_init_10 : decode cX9_init 10 = .ok (.aload_n 2, 1) := by decide +kernel
theorem dX9_init_11 : decode cX9_init 11 = .ok (.putfield 15, 3) := by decide +kernel
theorem dX9_init_14 : decode cX9_init 14 = .ok (.return_, 1) := by decide +kernel
theorem lo_X9 : Cond.methodLink RX9 3 objectInit ∈ TT := tt_of 286 (by decide +kernel) rfl
set_option maxHeartbeats 40000000 in
set_option maxRecDepth 100000 in
theorem c_X9_init (l : Launch) (D : va_G) (cI cC cS : ClassId) (h0 p1 p2 : Nat) : Kn l D cI cC cS yX9_init cX9_init 3 1 12 0 0 [.ref h0, .ref p1, .ref p2] [(h0, .inr (9, [.null, .null, .int 0, .long 0, .long 0, .long 0, .int 0, .int 0, .int 0]))] (fun ws9 => ws9 = [(h0, .inr (9, [.ref p1, .ref p2, .int 0, .long 0, .long 0, .long 0, .int 0, .int 0, .int 0]))]) := by
  refine n_ent (by decide +kernel) rfl (Nat.le_of_ble_eq_true rfl) ?_
  intro p e s m args below meth c A Q C hK I hA hin hq ls hl
  have C : CallFix p m c cX9_init 3 s args TT RX9 := C
  have hx := C.1
  have hb := C.2.1
  have hl : lv_has ls 3 [(0, .ref h0), (1, .ref p1), (2, .ref p2)] := hl
  refine lv_aload_n hx hb dX9_init_0 rfl (lv_at hl 0 rfl) ?_
  refine n_obj C lo_X9 objI objC hl.1 dX9_init_1 (Nat.le_of_ble_eq_true rfl) (Nat.le_of_ble_eq_true rfl) ?_
  refine lv_aload_n hx hb dX9_init_4 rfl (lv_at hl 0 rfl) ?_
  refine lv_aload_n hx hb dX9_init_5 rfl (lv_at hl 1 rfl) ?_
  refine n_putF C hK I inT9 tyX9 tyX9_ok nmX9 0 9 0 rfl rfl (by decide) rfl rfl hin fl_X9_9 rfl rfl rfl (Nat.le_of_ble_eq_true rfl) (ws1 := [(h0, .inr (9, [.ref p1, .null, .int 0, .long 0, .long 0, .long 0, .int 0, .int 0, .int 0]))]) rfl dX9_init_6 (fun H locs I => ?_)
  refine lv_aload_n hx hb dX9_init_9 rfl (lv_at hl 0 rfl) ?_
  refine lv_aload_n hx hb dX9_init_10 rfl (lv_at hl 2 rfl) ?_
  refine n_putF C hK I inT9 tyX9 tyX9_ok nmX9 0 9 1 rfl rfl (by decide) rfl rfl hin fl_X9_15 rfl rfl rfl (Nat.le_of_ble_eq_true rfl) (ws1 := [(h0, .inr (9, [.ref p1, .ref p2, .int 0, .long 0, .long 0, .long 0, .int 0, .int 0, .int 0]))]) rfl dX9_init_11 (fun H locs I => ?_)
  exact hq _ _ _ _ _ rfl I dX9_init_14
theorem dX2_init_0 : decode cX2_init 0 = .ok (.aload_n 0, 1) := by decide +kernel
theorem dX2_init_1 : decode cX2_init 1 = .ok (.invokespecial 3, 3) := by decide +kernel
theorem dX2_init_4 : decode cX2_init 4 = .ok (.aload_n 0, 1) := by decide +kernel
theorem dX2_init_5 : decode cX2_init 5 = .ok (.aload_n 1, 1) := by decide +kernel
theorem dX2_init_6 : decode cX2_init 6 = .ok (.putfield 9, 3) := by decide +kernel
theorem dX2_init_9 : decode cX2_init 9 = .ok (.aload_n 0, 1) := by decide +kernel
theorem dX2_init_10 : decode cX2_init 10 = .ok (.aload_n 2, 1) := by decide +kernel
theorem dX2_init_11 : decode cX2_init 11 = .ok (.putfield 15, 3) := by decide +kernel
theorem dX2_init_14 : decode cX2_init 14 = .ok (.aload_n 0, 1) := by decide +kernel
theorem dX2_init_15 : decode cX2_init 15 = .ok (.aload_n 3, 1) := by decide +kernel
theorem dX2_init_16 : decode cX2_init 16 = .ok (.putfield 19, 3) := by decide +kernel
theorem dX2_init_19 : decode cX2_init 19 = .ok (.return_, 1) := by decide +kernel
theorem lo_X2 : Cond.methodLink RX2 3 objectInit ∈ TT := tt_of 320 (by decide +kernel) rfl
set_option maxHeartbeats 40000000 in
set_option maxRecDepth 100000 in
theorem c_X2_init (l : Launch) (D : va_G) (cI cC cS : ClassId) (h0 p1 p2 p3 : Nat) : Kn l D cI cC cS yX2_init cX2_init 4 1 12 0 0 [.ref h0, .ref p1, .ref p2, .ref p3] [(h0, .inr (2, [.null, .null, .null, .int 0, .int 0, .long 0, .long 0]))] (fun ws9 => ws9 = [(h0, .inr (2, [.ref p1, .ref p2, .ref p3, .int 0, .int 0, .long 0, .long 0]))]) := by
  refine n_ent (by decide +kernel) rfl (Nat.le_of_ble_eq_true rfl) ?_
  intro p e s m args below meth c A Q C hK I hA hin hq ls hl
  have C : CallFix p m c cX2_init 4 s args TT RX2 := C
  have hx := C.1
  have hb := C.2.1
  have hl : lv_has ls 4 [(0, .ref h0), (1, .ref p1), (2, .ref p2), (3, .ref p3)] := hl
  refine lv_aload_n hx hb dX2_init_0 rfl (lv_at hl 0 rfl) ?_
  refine n_obj C lo_X2 objI objC hl.1 dX2_init_1 (Nat.le_of_ble_eq_true rfl) (Nat.le_of_ble_eq_true rfl) ?_
  refine lv_aload_n hx hb dX2_init_4 rfl (lv_at hl 0 rfl) ?_
  refine lv_aload_n hx hb dX2_init_5 rfl (lv_at hl 1 rfl) ?_
  refine n_putF C hK I inT2 tyX2 tyX2_ok nmX2 0 2 0 rfl rfl (by decide) rfl rfl hin fl_X2_9 rfl rfl rfl (Nat.le_of_ble_eq_true rfl) (ws1 := [(h0, .inr (2, [.ref p1, .null, .null, .int 0, .int 0, .long 0, .long 0]))]) rfl dX2_init_6 (fun H locs I => ?_)
  refine lv_aload_n hx hb dX2_init_9 rfl (lv_at hl 0 rfl) ?_
  refine lv_aload_n hx hb dX2_init_10 rfl (lv_at hl 2 rfl) ?_
  refine n_putF C hK I inT2 tyX2 tyX2_ok nmX2 0 2 1 rfl rfl (by decide) rfl rfl hin fl_X2_15 rfl rfl rfl (Nat.le_of_ble_eq_true rfl) (ws1 := [(h0, .inr (2, [.ref p1, .ref p2, .null, .int 0, .int 0, .long 0, .long 0]))]) rfl dX2_init_11 (fun H locs I => ?_)
  refine lv_aload_n hx hb dX2_init_14 rfl (lv_at hl 0 rfl) ?_
  refine lv_aload_n hx hb dX2_init_15 rfl (lv_at hl 3 rfl) ?_
  refine n_putF C hK I inT2 tyX2 tyX2_ok nmX2 0 2 2 rfl rfl (by decide) rfl rfl hin fl_X2_19 rfl rfl rfl (Nat.le_of_ble_eq_true rfl) (ws1 := [(h0, .inr (2, [.ref p1, .ref p2, .ref p3, .int 0, .int 0, .long 0, .long 0]))]) rfl dX2_init_16 (fun H locs I => ?_)
  exact hq _ _ _ _ _ rfl I dX2_init_19
theorem dX3_init_0 : decode cX3_init 0 = .ok (.aload_n 0, 1) := by decide +kernel
theorem dX3_init_1 : decode cX3_init 1 = .ok (.invokespecial 3, 3) := by decide +kernel
theorem dX3_init_4 : decode cX3_init 4 = .ok (.aload_n 0, 1) := by decide +kernel
theorem dX3_init_5 : decode cX3_init 5 = .ok (.aload_n 1, 1) := by decide +kernel
theorem dX3_init_6 : decode cX3_init 6 = .ok (.putfield 9, 3) := by decide +kernel
theorem dX3_init_9 : decode cX3_init 9 = .ok (.return_, 1) := by decide +kernel
theorem lo_X3 : Cond.methodLink RX3 3 objectInit ∈ TT := tt_of 348 (by decide +kernel) rfl
set_option maxHeartbeats 40000000 in
set_option maxRecDepth 100000 in
theorem c_X3_init (l : Launch) (D : va_G) (cI cC cS : ClassId) (h0 p1 : Nat) : Kn l D cI cC cS yX3_init cX3_init 2 1 12 0 0 [.ref h0, .ref p1] [(h0, .inr (3, [.null, .int 0, .long 0, .long 0]))] (fun ws9 => ws9 = [(h0, .inr (3, [.ref p1, .int 0, .long 0, .long 0]))]) := by
  refine n_ent (by decide +kernel) rfl (Nat.le_of_ble_eq_true rfl) ?_
  intro p e s m args below meth c A Q C hK I hA hin hq ls hl
  have C : CallFix p m c cX3_init 2 s args TT RX3 := C
  have hx := C.1
  have hb := C.2.1
  have hl : lv_has ls 2 [(0, .ref h0), (1, .ref p1)] := hl
  refine lv_aload_n hx hb dX3_init_0 rfl (lv_at hl 0 rfl) ?_
  refine n_obj C lo_X3 objI objC hl.1 dX3_init_1 (Nat.le_of_ble_eq_true rfl) (Nat.le_of_ble_eq_true rfl) ?_
  refine lv_aload_n hx hb dX3_init_4 rfl (lv_at hl 0 rfl) ?_
  refine lv_aload_n hx hb dX3_init_5 rfl (lv_at hl 1 rfl) ?_
  refine n_putF C hK I inT3 tyX3 tyX3_ok nmX3 0 3 0 rfl rfl (by decide) rfl rfl hin fl_X3_9 rfl rfl rfl (Nat.le_of_ble_eq_true rfl) (ws1 := [(h0, .inr (3, [.ref p1, .int 0, .long 0, .long 0]))]) rfl dX3_init_6 (fun H locs I => ?_)
  exact hq _ _ _ _ _ rfl I dX3_init_9
theorem dX0_init_0 : decode cX0_init 0 = .ok (.aload_n 0, 1) := by decide +kernel
theorem dX0_init_1 : decode cX0_init 1 = .ok (.invokespecial 3, 3) := by decide +kernel
theorem dX0_init_4 : decode cX0_init 4 = .ok (.aload_n 0, 1) := by decide +kernel
theorem dX0_init_5 : decode cX0_init 5 = .ok (.bipush 16, 2) := by decide +kernel
theorem dX0_init_7 : decode cX0_init 7 = .ok (.newarray .int, 2) := by decide +kernel
theorem dX0_init_9 : decode cX0_init 9 = .ok (.putfield 9, 3) := by decide +kernel
theorem dX0_init_12 : decode cX0_init 12 = .ok (.aload_n 0, 1) := by decide +kernel
theorem dX0_init_13 : decode cX0_init 13 = .ok (.bipush 16, 2) := by decide +kernel
theorem dX0_init_15 : decode cX0_init 15 = .ok (.newarray .int, 2) := by decide +kernel
theorem dX0_init_17 : decode cX0_init 17 = .ok (.putfield 15, 3) := by decide +kernel
theorem dX0_init_20 : decode cX0_init 20 = .ok (.aload_n 0, 1) := by decide +kernel
theorem dX0_init_21 : decode cX0_init 21 = .ok (.bipush 16, 2) := by decide +kernel
theorem dX0_init_23 : decode cX0_init 23 = .ok (.newarray .int, 2) := by decide +kernel
theorem dX0_init_25 : decode cX0_init 25 = .ok (.putfield 18, 3) := by decide +kernel
theorem dX0_init_28 : decode cX0_init 28 = .ok (.aload_n 0, 1) := by decide +kernel
theorem dX0_init_29 : decode cX0_init 29 = .ok (.aload_n 1, 1) := by decide +kernel
theorem dX0_init_30 : decode cX0_init 30 = .ok (.putfield 21, 3) := by decide +kernel
theorem dX0_init_33 : decode cX0_init 33 = .ok (.return_, 1) := by decide +kernel
theorem lo_X0 : Cond.methodLink RX0 3 objectInit ∈ TT := tt_of 367 (by decide +kernel) rfl
set_option maxHeartbeats 40000000 in
set_option maxRecDepth 100000 in
theorem c_X0_init (l : Launch) (D : va_G) (cI cC cS : ClassId) (h0 p1 : Nat) : Kn l D cI cC cS yX0_init cX0_init 2 1 12 3 48 [.ref h0, .ref p1] [(h0, .inr (0, [.null, .null, .null, .null, .int 0]))] (fun ws9 => ∃ q : Nat → Nat, ws9 = [(h0, .inr (0, [.ref p1, .ref (q 0), .ref (q 1), .ref (q 2), .int 0])), ((q 0), .inl (cI, 16, .inl (fun _ => 0))), ((q 1), .inl (cI, 16, .inl (fun _ => 0))), ((q 2), .inl (cI, 16, .inl (fun _ => 0)))]) := by
  refine n_ent (by decide +kernel) rfl (Nat.le_of_ble_eq_true rfl) ?_
  intro p e s m args below meth c A Q C hK I hA hin hq ls hl
  have C : CallFix p m c cX0_init 2 s args TT RX0 := C
  have hx := C.1
  have hb := C.2.1
  have hl : lv_has ls 2 [(0, .ref h0), (1, .ref p1)] := hl
  refine lv_aload_n hx hb dX0_init_0 rfl (lv_at hl 0 rfl) ?_
  refine n_obj C lo_X0 objI objC hl.1 dX0_init_1 (Nat.le_of_ble_eq_true rfl) (Nat.le_of_ble_eq_true rfl) ?_
  refine lv_aload_n hx hb dX0_init_4 rfl (lv_at hl 0 rfl) ?_
  refine lv_bipush (v := 16) hx hb dX0_init_5 (by decide) ?_
  refine n_int C hK I hA arrI (N := 16) (by decide) (by decide) (by decide) (Nat.le_of_ble_eq_true rfl) (Nat.le_of_ble_eq_true rfl) dX0_init_7 (fun q1 H I => ?_)
  have I : Iw D [(h0, .inr (0, [.null, .null, .null, .null, .int 0])), (q1, .inl (cI, 16, .inl (fun _ => 0)))] A s H _ := I
  refine n_putF C hK I inT0 tyX0 tyX0_ok nmX0 0 0 1 rfl rfl (by decide) rfl rfl hin fl_X0_9 rfl rfl rfl (Nat.le_of_ble_eq_true rfl) (ws1 := [(h0, .inr (0, [.null, .ref q1, .null, .null, .int 0])), (q1, .inl (cI, 16, .inl (fun _ => 0)))]) rfl dX0_init_9 (fun H locs I => ?_)
  refine lv_aload_n hx hb dX0_init_12 rfl (lv_at hl 0 rfl) ?_
  refine lv_bipush (v := 16) hx hb dX0_init_13 (by decide) ?_
  refine n_int C hK I hA arrI (N := 16) (by decide) (by decide) (by decide) (Nat.le_of_ble_eq_true rfl) (Nat.le_of_ble_eq_true rfl) dX0_init_15 (fun q2 H I => ?_)
  have I : Iw D [(h0, .inr (0, [.null, .ref q1, .null, .null, .int 0])), (q1, .inl (cI, 16, .inl (fun _ => 0))), (q2, .inl (cI, 16, .inl (fun _ => 0)))] A s H _ := I
  refine n_putF C hK I inT0 tyX0 tyX0_ok nmX0 0 0 2 rfl rfl (by decide) rfl rfl hin fl_X0_15 rfl rfl rfl (Nat.le_of_ble_eq_true rfl) (ws1 := [(h0, .inr (0, [.null, .ref q1, .ref q2, .null, .int 0])), (q1, .inl (cI, 16, .inl (fun _ => 0))), (q2, .inl (cI, 16, .inl (fun _ => 0)))]) rfl dX0_init_17 (fun H locs I => ?_)
  refine lv_aload_n hx hb dX0_init_20 rfl (lv_at hl 0 rfl) ?_
  refine lv_bipush (v := 16) hx hb dX0_init_21 (by decide) ?_
  refine n_int C hK I hA arrI (N := 16) (by decide) (by decide) (by decide) (Nat.le_of_ble_eq_true rfl) (Nat.le_of_ble_eq_true rfl) dX0_init_23 (fun q3 H I => ?_)
  have I : Iw D [(h0, .inr (0, [.null, .ref q1, .ref q2, .null, .int 0])), (q1, .inl (cI, 16, .inl (fun _ => 0))), (q2, .inl (cI, 16, .inl (fun _ => 0))), (q3, .inl (cI, 16, .inl (fun _ => 0)))] A s H _ := I
  refine n_putF C hK I inT0 tyX0 tyX0_ok nmX0 0 0 3 rfl rfl (by decide) rfl rfl hin fl_X0_18 rfl rfl rfl (Nat.le_of_ble_eq_true rfl) (ws1 := [(h0, .inr (0, [.null, .ref q1, .ref q2, .ref q3, .int 0])), (q1, .inl (cI, 16, .inl (fun _ => 0))), (q2, .inl (cI, 16, .inl (fun _ => 0))), (q3, .inl (cI, 16, .inl (fun _ => 0)))]) rfl dX0_init_25 (fun H locs I => ?_)
  refine lv_aload_n hx hb dX0_init_28 rfl (lv_at hl 0 rfl) ?_
  refine lv_aload_n hx hb dX0_init_29 rfl (lv_at hl 1 rfl) ?_
  refine n_putF C hK I inT0 tyX0 tyX0_ok nmX0 0 0 0 rfl rfl (by decide) rfl rfl hin fl_X0_21 rfl rfl rfl (Nat.le_of_ble_eq_true rfl) (ws1 := [(h0, .inr (0, [.ref p1, .ref q1, .ref q2, .ref q3, .int 0])), (q1, .inl (cI, 16, .inl (fun _ => 0))), (q2, .inl (cI, 16, .inl (fun _ => 0))), (q3, .inl (cI, 16, .inl (fun _ => 0)))]) rfl dX0_init_30 (fun H locs I => ?_)
  exact hq _ _ _ _ _ ⟨fun k => [q1, q2, q3].getD k 0, rfl⟩ I dX0_init_33
theorem dX1_init_0 : decode cX1_init 0 = .ok (.aload_n 0, 1) := by decide +kernel
theorem dX1_init_1 : decode cX1_init 1 = .ok (.invokespecial 3, 3) := by decide +kernel
theorem dX1_init_4 : decode cX1_init 4 = .ok (.aload_n 0, 1) := by decide +kernel
theorem dX1_init_5 : decode cX1_init 5 = .ok (.iconst 4, 1) := by decide +kernel
theorem dX1_init_6 : decode cX1_init 6 = .ok (.anewarray 9, 3) := by decide +kernel
theorem dX1_init_9 : decode cX1_init 9 = .ok (.putfield 11, 3) := by decide +kernel
theorem dX1_init_12 : decode cX1_init 12 = .ok (.iconst 0, 1) := by decide +kernel
theorem dX1_init_13 : decode cX1_init 13 = .ok (.istore_n 1, 1) := by decide +kernel
theorem dX1_init_14 : decode cX1_init 14 = .ok (.iload_n 1, 1) := by decide +kernel
theorem dX1_init_15 : decode cX1_init 15 = .ok (.aload_n 0, 1) := by decide +kernel
theorem dX1_init_16 : decode cX1_init 16 = .ok (.getfield 11, 3) := by decide +kernel
theorem dX1_init_19 : decode cX1_init 19 = .ok (.arraylength, 1) := by decide +kernel
theorem dX1_init_20 : decode cX1_init 20 = .ok (.if_icmp .ge 22, 3) := by decide +kernel
theorem dX1_init_23 : decode cX1_init 23 = .ok (.aload_n 0, 1) := by decide +kernel
theorem dX1_init_24 : decode cX1_init 24 = .ok (.getfield 11, 3) := by decide +kernel
theorem dX1_init_27 : decode cX1_init 27 = .ok (.iload_n 1, 1) := by decide +kernel
theorem dX1_init_28 : decode cX1_init 28 = .ok (.new 9, 3) := by decide +kernel
theorem dX1_init_31 : decode cX1_init 31 = .ok (.dup, 1) := by decide +kernel
theorem dX1_init_32 : decode cX1_init 32 = .ok (.invokespecial 17, 3) := by decide +kernel
theorem dX1_init_35 : decode cX1_init 35 = .ok (.aastore, 1) := by decide +kernel
theorem dX1_init_36 : decode cX1_init 36 = .ok (.iinc 1 1, 3) := by decide +kernel
theorem dX1_init_39 : decode cX1_init 39 = .ok (.goto (-25), 3) := by decide +kernel
theorem dX1_init_42 : decode cX1_init 42 = .ok (.return_, 1) := by decide +kernel
theorem lo_X1 : Cond.methodLink RX1 3 objectInit ∈ TT := tt_of 145 (by decide +kernel) rfl
theorem cl_X1_9 : Cond.classLink RX1 9 RX7 ∈ TT := tt_of 146 (by decide +kernel) rfl
theorem in_X7 : Cond.instantiable RX7 4 ∈ TT := tt_of 148 (by decide +kernel) rfl
theorem ii_X7 : Cond.initialized RX7 ∈ TT := tt_of 70 (by decide +kernel) rfl
theorem lk_X1_17 : Cond.methodLinkNest RX1 17 yX7_init "CarryUp" ∈ NN := nn_of 149 (by decide +kernel) rfl
theorem mi_X7_init : MI yX7_init cX7_init 1 0 := ⟨tt_of 151 (by decide +kernel) rfl, tt_of 150 (by decide +kernel) rfl, tt_of 70 (by decide +kernel) rfl, rfl, by decide +kernel, by decide +kernel, by decide +kernel⟩
set_option maxHeartbeats 40000000 in
set_option maxRecDepth 100000 in
theorem c_X1_init (l : Launch) (D : va_G) (cI cC cS : ClassId) (h0 : Nat) : Kn l D cI cC cS yX1_init cX1_init 2 2 32 5 20 [.ref h0] [(h0, .inr (1, [.null, .int 0, .int 0, .int 0, .int 0, .int 0, .int 0, .int 0, .int 0, .int 0]))] (fun ws9 => ∃ q : Nat → Nat, ws9 = [(h0, .inr (1, [.ref (q 0), .int 0, .int 0, .int 0, .int 0, .int 0, .int 0, .int 0, .int 0, .int 0])), ((q 0), .inl (cS, 4, .inr (.inr (.inr (.inr (va_up (va_up (va_up (va_up (fun _ => none) 0 (some (q 1))) 1 (some (q 2))) 2 (some (q 3))) 3 (some (q 4)))))))), ((q 1), .inr (7, [.int 0, .int 0, .int 0, .int 0])), ((q 2), .inr (7, [.int 0, .int 0, .int 0, .int 0])), ((q 3), .inr (7, [.int 0, .int 0, .int 0, .int 0])), ((q 4), .inr (7, [.int 0, .int 0, .int 0, .int 0]))]) := by
  refine n_ent (by decide +kernel) rfl (Nat.le_of_ble_eq_true rfl) ?_
  intro p e s m args below meth c A Q C hK I hA hin hq ls hl
  have C : CallFix p m c cX1_init 2 s args TT RX1 := C
  have hx := C.1
  have hb := C.2.1
  have hl : lv_has ls 2 [(0, .ref h0)] := hl
  refine lv_aload_n hx hb dX1_init_0 rfl (lv_at hl 0 rfl) ?_
  refine n_obj C lo_X1 objI objC hl.1 dX1_init_1 (Nat.le_of_ble_eq_true rfl) (Nat.le_of_ble_eq_true rfl) ?_
  refine lv_aload_n hx hb dX1_init_4 rfl (lv_at hl 0 rfl) ?_
  refine lv_iconst (v := 4) hx hb dX1_init_5 (by decide) ?_
  refine n_ref C hK I hA 2 rfl hK.2.2.2 cl_X1_9 (N := 4) (by decide) (by decide) (by decide) (Nat.le_of_ble_eq_true rfl) (Nat.le_of_ble_eq_true rfl) dX1_init_6 (fun q1 H I => ?_)
  have I : Iw D [(h0, .inr (1, [.null, .int 0, .int 0, .int 0, .int 0, .int 0, .int 0, .int 0, .int 0, .int 0])), (q1, .inl (cS, 4, .inr (.inr (.inr (.inr (fun _ => none))))))] A s H _ := I
  refine n_putF C hK I inT1 tyX1 tyX1_ok nmX1 0 1 0 rfl rfl (by decide) rfl rfl hin fl_X1_11 rfl rfl rfl (Nat.le_of_ble_eq_true rfl) (ws1 := [(h0, .inr (1, [.ref q1, .int 0, .int 0, .int 0, .int 0, .int 0, .int 0, .int 0, .int 0, .int 0])), (q1, .inl (cS, 4, .inr (.inr (.inr (.inr (fun _ => none))))))]) rfl dX1_init_9 (fun H locs I => ?_)
  refine lv_iconst (v := 0) hx hb dX1_init_12 (by decide) ?_
  refine lv_istore_n (lv' := [(1, .int 0), (0, .ref h0)]) hx hb dX1_init_13 rfl hl (by decide) rfl (fun ls hl => ?_)
  refine lv_iload_n hx hb dX1_init_14 rfl (lv_at hl 0 rfl) ?_
  refine lv_aload_n hx hb dX1_init_15 rfl (lv_at hl 1 rfl) ?_
  refine n_get C hK I inT1 0 1 0 rfl rfl (by decide) rfl fl_X1_11 rfl dX1_init_16 ?_
  refine n_len C hK I 1 2 rfl rfl (v := 4) rfl dX1_init_19 ?_
  refine lv_icmp_ge (tgt := 42) hx hb dX1_init_20 (by decide) (fun q => absurd q (by decide)) (fun _ => ?_)
  refine lv_aload_n hx hb dX1_init_23 rfl (lv_at hl 1 rfl) ?_
  refine n_get C hK I inT1 0 1 0 rfl rfl (by decide) rfl fl_X1_11 rfl dX1_init_24 ?_
  refine lv_iload_n hx hb dX1_init_27 rfl (lv_at hl 0 rfl) ?_
  refine n_new (ci := 7) (fs := [.int 0, .int 0, .int 0, .int 0]) C hK I hA inT7 tyX7 tyX7_ok cl_X1_9 in_X7 ii_X7 rfl (fun j hj => match j, hj with | 0, _ => rfl | 1, _ => rfl | 2, _ => rfl | 3, _ => rfl | n + 4, h => absurd h (by omega)) (Nat.le_of_ble_eq_true rfl) (Nat.le_of_ble_eq_true rfl) dX1_init_28 (fun q2 H I => ?_)
  have I : Iw D [(h0, .inr (1, [.ref q1, .int 0, .int 0, .int 0, .int 0, .int 0, .int 0, .int 0, .int 0, .int 0])), (q1, .inl (cS, 4, .inr (.inr (.inr (.inr (fun _ => none)))))), (q2, .inr (7, [.int 0, .int 0, .int 0, .int 0]))] A s H _ := I
  refine lv_dup hx hb dX1_init_31 rfl ?_
  refine n_IN (As := []) (rest := [.ref q2, .int 0, .ref q1]) (wc := [(q2, .inr (7, [.int 0, .int 0, .int 0, .int 0]))]) (wr := [(h0, .inr (1, [.ref q1, .int 0, .int 0, .int 0, .int 0, .int 0, .int 0, .int 0, .int 0, .int 0])), (q1, .inl (cS, 4, .inr (.inr (.inr (.inr (fun _ => none))))))]) C hK I hA [2] [0, 1] rfl rfl rfl (by decide) (by decide) (by decide) (c_X7_init l D cI cC cS q2) ⟨Nat.le_of_ble_eq_true rfl, Nat.le_of_ble_eq_true rfl⟩ ⟨Nat.le_of_ble_eq_true rfl, Nat.le_of_ble_eq_true rfl⟩ mi_X7_init lk_X1_17 rfl hl.1 rfl (Nat.le_of_ble_eq_true rfl) dX1_init_32 (fun ws9 hp9 H locs I => ?_)
  have hp9 : ws9 = _ := hp9
  subst hp9
  have I : Iw D [(h0, .inr (1, [.ref q1, .int 0, .int 0, .int 0, .int 0, .int 0, .int 0, .int 0, .int 0, .int 0])), (q1, .inl (cS, 4, .inr (.inr (.inr (.inr (fun _ => none)))))), (q2, .inr (7, [.int 0, .int 0, .int 0, .int 0]))] A s H _ := I
  refine n_asr C hK I 1 2 2 7 (r := (RX7, TX7, 4)) rfl rfl rfl rfl (by decide) (ws1 := [(h0, .inr (1, [.ref q1, .int 0, .int 0, .int 0, .int 0, .int 0, .int 0, .int 0, .int 0, .int 0])), (q1, .inl (cS, 4, .inr (.inr (.inr (.inr (va_up (fun _ => none) 0 (some q2))))))), (q2, .inr (7, [.int 0, .int 0, .int 0, .int 0]))]) rfl dX1_init_35 (fun H locs I => ?_)
  refine lv_iinc (v := 1) (lv' := [(1, .int 1), (0, .ref h0)]) hx hb dX1_init_36 hl (k := 0) rfl (by decide) (by decide) rfl (fun ls hl => ?_)
  refine lv_goto (tgt := 14) hx hb dX1_init_39 (by decide) ?_
  refine lv_iload_n hx hb dX1_init_14 rfl (lv_at hl 0 rfl) ?_
  refine lv_aload_n hx hb dX1_init_15 rfl (lv_at hl 1 rfl) ?_
  refine n_get C hK I inT1 0 1 0 rfl rfl (by decide) rfl fl_X1_11 rfl dX1_init_16 ?_
  refine n_len C hK I 1 2 rfl rfl (v := 4) rfl dX1_init_19 ?_
  refine lv_icmp_ge (tgt := 42) hx hb dX1_init_20 (by decide) (fun q => absurd q (by decide)) (fun _ => ?_)
  refine lv_aload_n hx hb dX1_init_23 rfl (lv_at hl 1 rfl) ?_
  refine n_get C hK I inT1 0 1 0 rfl rfl (by decide) rfl fl_X1_11 rfl dX1_init_24 ?_
  refine lv_iload_n hx hb dX1_init_27 rfl (lv_at hl 0 rfl) ?_
  refine n_new (ci := 7) (fs := [.int 0, .int 0, .int 0, .int 0]) C hK I hA inT7 tyX7 tyX7_ok cl_X1_9 in_X7 ii_X7 rfl (fun j hj => match j, hj with | 0, _ => rfl | 1, _ => rfl | 2, _ => rfl | 3, _ => rfl | n + 4, h => absurd h (by omega)) (Nat.le_of_ble_eq_true rfl) (Nat.le_of_ble_eq_true rfl) dX1_init_28 (fun q4 H I => ?_)
  have I : Iw D [(h0, .inr (1, [.ref q1, .int 0, .int 0, .int 0, .int 0, .int 0, .int 0, .int 0, .int 0, .int 0])), (q1, .inl (cS, 4, .inr (.inr (.inr (.inr (va_up (fun _ => none) 0 (some q2))))))), (q2, .inr (7, [.int 0, .int 0, .int 0, .int 0])), (q4, .inr (7, [.int 0, .int 0, .int 0, .int 0]))] A s H _ := I
  refine lv_dup hx hb dX1_init_31 rfl ?_
  refine n_IN (As := []) (rest := [.ref q4, .int 1, .ref q1]) (wc := [(q4, .inr (7, [.int 0, .int 0, .int 0, .int 0]))]) (wr := [(h0, .inr (1, [.ref q1, .int 0, .int 0, .int 0, .int 0, .int 0, .int 0, .int 0, .int 0, .int 0])), (q1, .inl (cS, 4, .inr (.inr (.inr (.inr (va_up (fun _ => none) 0 (some q2))))))), (q2, .inr (7, [.int 0, .int 0, .int 0, .int 0]))]) C hK I hA [3] [0, 1, 2] rfl rfl rfl (by decide) (by decide) (by decide) (c_X7_init l D cI cC cS q4) ⟨Nat.le_of_ble_eq_true rfl, Nat.le_of_ble_eq_true rfl⟩ ⟨Nat.le_of_ble_eq_true rfl, Nat.le_of_ble_eq_true rfl⟩ mi_X7_init lk_X1_17 rfl hl.1 rfl (Nat.le_of_ble_eq_true rfl) dX1_init_32 (fun ws9 hp9 H locs I => ?_)
  have hp9 : ws9 = _ := hp9
  subst hp9
  have I : Iw D [(h0, .inr (1, [.ref q1, .int 0, .int 0, .int 0, .int 0, .int 0, .int 0, .int 0, .int 0, .int 0])), (q1, .inl (cS, 4, .inr (.inr (.inr (.inr (va_up (fun _ => none) 0 (some q2))))))), (q2, .inr (7, [.int 0, .int 0, .int 0, .int 0])), (q4, .inr (7, [.int 0, .int 0, .int 0, .int 0]))] A s H _ := I
  refine n_asr C hK I 1 2 3 7 (r := (RX7, TX7, 4)) rfl rfl rfl rfl (by decide) (ws1 := [(h0, .inr (1, [.ref q1, .int 0, .int 0, .int 0, .int 0, .int 0, .int 0, .int 0, .int 0, .int 0])), (q1, .inl (cS, 4, .inr (.inr (.inr (.inr (va_up (va_up (fun _ => none) 0 (some q2)) 1 (some q4))))))), (q2, .inr (7, [.int 0, .int 0, .int 0, .int 0])), (q4, .inr (7, [.int 0, .int 0, .int 0, .int 0]))]) rfl dX1_init_35 (fun H locs I => ?_)
  refine lv_iinc (v := 2) (lv' := [(1, .int 2), (0, .ref h0)]) hx hb dX1_init_36 hl (k := 0) rfl (by decide) (by decide) rfl (fun ls hl => ?_)
  refine lv_goto (tgt := 14) hx hb dX1_init_39 (by decide) ?_
  refine lv_iload_n hx hb dX1_init_14 rfl (lv_at hl 0 rfl) ?_
  refine lv_aload_n hx hb dX1_init_15 rfl (lv_at hl 1 rfl) ?_
  refine n_get C hK I inT1 0 1 0 rfl rfl (by decide) rfl fl_X1_11 rfl dX1_init_16 ?_
  refine n_len C hK I 1 2 rfl rfl (v := 4) rfl dX1_init_19 ?_
  refine lv_icmp_ge (tgt := 42) hx hb dX1_init_20 (by decide) (fun q => absurd q (by decide)) (fun _ => ?_)
  refine lv_aload_n hx hb dX1_init_23 rfl (lv_at hl 1 rfl) ?_
  refine n_get C hK I inT1 0 1 0 rfl rfl (by decide) rfl fl_X1_11 rfl dX1_init_24 ?_
  refine lv_iload_n hx hb dX1_init_27 rfl (lv_at hl 0 rfl) ?_
  refine n_new (ci := 7) (fs := [.int 0, .int 0, .int 0, .int 0]) C hK I hA inT7 tyX7 tyX7_ok cl_X1_9 in_X7 ii_X7 rfl (fun j hj => match j, hj with | 0, _ => rfl | 1, _ => rfl | 2, _ => rfl | 3, _ => rfl | n + 4, h => absurd h (by omega)) (Nat.le_of_ble_eq_true rfl) (Nat.le_of_ble_eq_true rfl) dX1_init_28 (fun q6 H I => ?_)
  have I : Iw D [(h0, .inr (1, [.ref q1, .int 0, .int 0, .int 0, .int 0, .int 0, .int 0, .int 0, .int 0, .int 0])), (q1, .inl (cS, 4, .inr (.inr (.inr (.inr (va_up (va_up (fun _ => none) 0 (some q2)) 1 (some q4))))))), (q2, .inr (7, [.int 0, .int 0, .int 0, .int 0])), (q4, .inr (7, [.int 0, .int 0, .int 0, .int 0])), (q6, .inr (7, [.int 0, .int 0, .int 0, .int 0]))] A s H _ := I
  refine lv_dup hx hb dX1_init_31 rfl ?_
  refine n_IN (As := []) (rest := [.ref q6, .int 2, .ref q1]) (wc := [(q6, .inr (7, [.int 0, .int 0, .int 0, .int 0]))]) (wr := [(h0, .inr (1, [.ref q1, .int 0, .int 0, .int 0, .int 0, .int 0, .int 0, .int 0, .int 0, .int 0])), (q1, .inl (cS, 4, .inr (.inr (.inr (.inr (va_up (va_up (fun _ => none) 0 (some q2)) 1 (some q4))))))), (q2, .inr (7, [.int 0, .int 0, .int 0, .int 0])), (q4, .inr (7, [.int 0, .int 0, .int 0, .int 0]))]) C hK I hA [4] [0, 1, 2, 3] rfl rfl rfl (by decide) (by decide) (by decide) (c_X7_init l D cI cC cS q6) ⟨Nat.le_of_ble_eq_true rfl, Nat.le_of_ble_eq_true rfl⟩ ⟨Nat.le_of_ble_eq_true rfl, Nat.le_of_ble_eq_true rfl⟩ mi_X7_init lk_X1_17 rfl hl.1 rfl (Nat.le_of_ble_eq_true rfl) dX1_init_32 (fun ws9 hp9 H locs I => ?_)
  have hp9 : ws9 = _ := hp9
  subst hp9
  have I : Iw D [(h0, .inr (1, [.ref q1, .int 0, .int 0, .int 0, .int 0, .int 0, .int 0, .int 0, .int 0, .int 0])), (q1, .inl (cS, 4, .inr (.inr (.inr (.inr (va_up (va_up (fun _ => none) 0 (some q2)) 1 (some q4))))))), (q2, .inr (7, [.int 0, .int 0, .int 0, .int 0])), (q4, .inr (7, [.int 0, .int 0, .int 0, .int 0])), (q6, .inr (7, [.int 0, .int 0, .int 0, .int 0]))] A s H _ := I
  refine n_asr C hK I 1 2 4 7 (r := (RX7, TX7, 4)) rfl rfl rfl rfl (by decide) (ws1 := [(h0, .inr (1, [.ref q1, .int 0, .int 0, .int 0, .int 0, .int 0, .int 0, .int 0, .int 0, .int 0])), (q1, .inl (cS, 4, .inr (.inr (.inr (.inr (va_up (va_up (va_up (fun _ => none) 0 (some q2)) 1 (some q4)) 2 (some q6))))))), (q2, .inr (7, [.int 0, .int 0, .int 0, .int 0])), (q4, .inr (7, [.int 0, .int 0, .int 0, .int 0])), (q6, .inr (7, [.int 0, .int 0, .int 0, .int 0]))]) rfl dX1_init_35 (fun H locs I => ?_)
  refine lv_iinc (v := 3) (lv' := [(1, .int 3), (0, .ref h0)]) hx hb dX1_init_36 hl (k := 0) rfl (by decide) (by decide) rfl (fun ls hl => ?_)
  refine lv_goto (tgt := 14) hx hb dX1_init_39 (by decide) ?_
  refine lv_iload_n hx hb dX1_init_14 rfl (lv_at hl 0 rfl) ?_
  refine lv_aload_n hx hb dX1_init_15 rfl (lv_at hl 1 rfl) ?_
  refine n_get C hK I inT1 0 1 0 rfl rfl (by decide) rfl fl_X1_11 rfl dX1_init_16 ?_
  refine n_len C hK I 1 2 rfl rfl (v := 4) rfl dX1_init_19 ?_
  refine lv_icmp_ge (tgt := 42) hx hb dX1_init_20 (by decide) (fun q => absurd q (by decide)) (fun _ => ?_)
  refine lv_aload_n hx hb dX1_init_23 rfl (lv_at hl 1 rfl) ?_
  refine n_get C hK I inT1 0 1 0 rfl rfl (by decide) rfl fl_X1_11 rfl dX1_init_24 ?_
  refine lv_iload_n hx hb dX1_init_27 rfl (lv_at hl 0 rfl) ?_
  refine n_new (ci := 7) (fs := [.int 0, .int 0, .int 0, .int 0]) C hK I hA inT7 tyX7 tyX7_ok cl_X1_9 in_X7 ii_X7 rfl (fun j hj => match j, hj with | 0, _ => rfl | 1, _ => rfl | 2, _ => rfl | 3, _ => rfl | n + 4, h => absurd h (by omega)) (Nat.le_of_ble_eq_true rfl) (Nat.le_of_ble_eq_true rfl) dX1_init_28 (fun q8 H I => ?_)
  have I : Iw D [(h0, .inr (1, [.ref q1, .int 0, .int 0, .int 0, .int 0, .int 0, .int 0, .int 0, .int 0, .int 0])), (q1, .inl (cS, 4, .inr (.inr (.inr (.inr (va_up (va_up (va_up (fun _ => none) 0 (some q2)) 1 (some q4)) 2 (some q6))))))), (q2, .inr (7, [.int 0, .int 0, .int 0, .int 0])), (q4, .inr (7, [.int 0, .int 0, .int 0, .int 0])), (q6, .inr (7, [.int 0, .int 0, .int 0, .int 0])), (q8, .inr (7, [.int 0, .int 0, .int 0, .int 0]))] A s H _ := I
  refine lv_dup hx hb dX1_init_31 rfl ?_
  refine n_IN (As := []) (rest := [.ref q8, .int 3, .ref q1]) (wc := [(q8, .inr (7, [.int 0, .int 0, .int 0, .int 0]))]) (wr := [(h0, .inr (1, [.ref q1, .int 0, .int 0, .int 0, .int 0, .int 0, .int 0, .int 0, .int 0, .int 0])), (q1, .inl (cS, 4, .inr (.inr (.inr (.inr (va_up (va_up (va_up (fun _ => none) 0 (some q2)) 1 (some q4)) 2 (some q6))))))), (q2, .inr (7, [.int 0, .int 0, .int 0, .int 0])), (q4, .inr (7, [.int 0, .int 0, .int 0, .int 0])), (q6, .inr (7, [.int 0, .int 0, .int 0, .int 0]))]) C hK I hA [5] [0, 1, 2, 3, 4] rfl rfl rfl (by decide) (by decide) (by decide) (c_X7_init l D cI cC cS q8) ⟨Nat.le_of_ble_eq_true rfl, Nat.le_of_ble_eq_true rfl⟩ ⟨Nat.le_of_ble_eq_true rfl, Nat.le_of_ble_eq_true rfl⟩ mi_X7_init lk_X1_17 rfl hl.1 rfl (Nat.le_of_ble_eq_true rfl) dX1_init_32 (fun ws9 hp9 H locs I => ?_)
  have hp9 : ws9 = _ := hp9
  subst hp9
  have I : Iw D [(h0, .inr (1, [.ref q1, .int 0, .int 0, .int 0, .int 0, .int 0, .int 0, .int 0, .int 0, .int 0])), (q1, .inl (cS, 4, .inr (.inr (.inr (.inr (va_up (va_up (va_up (fun _ => none) 0 (some q2)) 1 (some q4)) 2 (some q6))))))), (q2, .inr (7, [.int 0, .int 0, .int 0, .int 0])), (q4, .inr (7, [.int 0, .int 0, .int 0, .int 0])), (q6, .inr (7, [.int 0, .int 0, .int 0, .int 0])), (q8, .inr (7, [.int 0, .int 0, .int 0, .int 0]))] A s H _ := I
  refine n_asr C hK I 1 2 5 7 (r := (RX7, TX7, 4)) rfl rfl rfl rfl (by decide) (ws1 := [(h0, .inr (1, [.ref q1, .int 0, .int 0, .int 0, .int 0, .int 0, .int 0, .int 0, .int 0, .int 0])), (q1, .inl (cS, 4, .inr (.inr (.inr (.inr (va_up (va_up (va_up (va_up (fun _ => none) 0 (some q2)) 1 (some q4)) 2 (some q6)) 3 (some q8))))))), (q2, .inr (7, [.int 0, .int 0, .int 0, .int 0])), (q4, .inr (7, [.int 0, .int 0, .int 0, .int 0])), (q6, .inr (7, [.int 0, .int 0, .int 0, .int 0])), (q8, .inr (7, [.int 0, .int 0, .int 0, .int 0]))]) rfl dX1_init_35 (fun H locs I => ?_)
  refine lv_iinc (v := 4) (lv' := [(1, .int 4), (0, .ref h0)]) hx hb dX1_init_36 hl (k := 0) rfl (by decide) (by decide) rfl (fun ls hl => ?_)
  refine lv_goto (tgt := 14) hx hb dX1_init_39 (by decide) ?_
  refine lv_iload_n hx hb dX1_init_14 rfl (lv_at hl 0 rfl) ?_
  refine lv_aload_n hx hb dX1_init_15 rfl (lv_at hl 1 rfl) ?_
  refine n_get C hK I inT1 0 1 0 rfl rfl (by decide) rfl fl_X1_11 rfl dX1_init_16 ?_
  refine n_len C hK I 1 2 rfl rfl (v := 4) rfl dX1_init_19 ?_
  refine lv_icmp_ge (tgt := 42) hx hb dX1_init_20 (by decide) (fun _ => ?_) (fun q => absurd q (by decide))
  exact hq _ _ _ _ _ ⟨fun k => [q1, q2, q4, q6, q8].getD k 0, rfl⟩ I dX1_init_42
theorem dX4_init_0 : decode cX4_init 0 = .ok (.aload_n 0, 1) := by decide +kernel
theorem dX4_init_1 : decode cX4_init 1 = .ok (.invokespecial 3, 3) := by decide +kernel
theorem dX4_init_4 : decode cX4_init 4 = .ok (.aload_n 0, 1) := by decide +kernel
theorem dX4_init_5 : decode cX4_init 5 = .ok (.bipush 8, 2) := by decide +kernel
theorem dX4_init_7 : decode cX4_init 7 = .ok (.newarray .int, 2) := by decide +kernel
theorem dX4_init_9 : decode cX4_init 9 = .ok (.putfield 9, 3) := by decide +kernel
theorem dX4_init_12 : decode cX4_init 12 = .ok (.aload_n 0, 1) := by decide +kernel
theorem dX4_init_13 : decode cX4_init 13 = .ok (.bipush 8, 2) := by decide +kernel
theorem dX4_init_15 : decode cX4_init 15 = .ok (.newarray .int, 2) := by decide +kernel
theorem dX4_init_17 : decode cX4_init 17 = .ok (.putfield 15, 3) := by decide +kernel
theorem dX4_init_20 : decode cX4_init 20 = .ok (.aload_n 0, 1) := by decide +kernel
theorem dX4_init_21 : decode cX4_init 21 = .ok (.bipush 36, 2) := by decide +kernel
theorem dX4_init_23 : decode cX4_init 23 = .ok (.newarray .int, 2) := by decide +kernel
theorem dX4_init_25 : decode cX4_init 25 = .ok (.putfield 18, 3) := by decide +kernel
theorem dX4_init_28 : decode cX4_init 28 = .ok (.aload_n 0, 1) := by decide +kernel
theorem dX4_init_29 : decode cX4_init 29 = .ok (.bipush 6, 2) := by decide +kernel
theorem dX4_init_31 : decode cX4_init 31 = .ok (.anewarray 21, 3) := by decide +kernel
theorem dX4_init_34 : decode cX4_init 34 = .ok (.putfield 23, 3) := by decide +kernel
theorem dX4_init_37 : decode cX4_init 37 = .ok (.aload_n 0, 1) := by decide +kernel
theorem dX4_init_38 : decode cX4_init 38 = .ok (.iconst 0, 1) := by decide +kernel
theorem dX4_init_39 : decode cX4_init 39 = .ok (.putfield 27, 3) := by decide +kernel
theorem dX4_init_42 : decode cX4_init 42 = .ok (.aload_n 0, 1) := by decide +kernel
theorem dX4_init_43 : decode cX4_init 43 = .ok (.bipush 40, 2) := by decide +kernel
theorem dX4_init_45 : decode cX4_init 45 = .ok (.putfield 31, 3) := by decide +kernel
theorem dX4_init_48 : decode cX4_init 48 = .ok (.aload_n 0, 1) := by decide +kernel
theorem dX4_init_49 : decode cX4_init 49 = .ok (.sipush 999, 3) := by decide +kernel
theorem dX4_init_52 : decode cX4_init 52 = .ok (.putfield 34, 3) := by decide +kernel
theorem dX4_init_55 : decode cX4_init 55 = .ok (.aload_n 0, 1) := by decide +kernel
theorem dX4_init_56 : decode cX4_init 56 = .ok (.sipush 480, 3) := by decide +kernel
theorem dX4_init_59 : decode cX4_init 59 = .ok (.putfield 37, 3) := by decide +kernel
theorem dX4_init_62 : decode cX4_init 62 = .ok (.iconst 0, 1) := by decide +kernel
theorem dX4_init_63 : decode cX4_init 63 = .ok (.istore_n 1, 1) := by decide +kernel
theorem dX4_init_64 : decode cX4_init 64 = .ok (.iload_n 1, 1) := by decide +kernel
theorem dX4_init_65 : decode cX4_init 65 = .ok (.aload_n 0, 1) := by decide +kernel
theorem dX4_init_66 : decode cX4_init 66 = .ok (.getfield 9, 3) := by decide +kernel
theorem dX4_init_69 : decode cX4_init 69 = .ok (.arraylength, 1) := by decide +kernel
theorem dX4_init_70 : decode cX4_init 70 = .ok (.if_icmp .ge 16, 3) := by decide +kernel
theorem dX4_init_73 : decode cX4_init 73 = .ok (.aload_n 0, 1) := by decide +kernel
theorem dX4_init_74 : decode cX4_init 74 = .ok (.getfield 9, 3) := by decide +kernel
theorem dX4_init_77 : decode cX4_init 77 = .ok (.iload_n 1, 1) := by decide +kernel
theorem dX4_init_78 : decode cX4_init 78 = .ok (.iconst 1, 1) := by decide +kernel
theorem dX4_init_79 : decode cX4_init 79 = .ok (.iastore, 1) := by decide +kernel
theorem dX4_init_80 : decode cX4_init 80 = .ok (.iinc 1 1, 3) := by decide +kernel
theorem dX4_init_83 : decode cX4_init 83 = .ok (.goto (-19), 3) := by decide +kernel
theorem dX4_init_86 : decode cX4_init 86 = .ok (.iconst 0, 1) := by decide +kernel
theorem dX4_init_87 : decode cX4_init 87 = .ok (.istore_n 1, 1) := by decide +kernel
theorem dX4_init_88 : decode cX4_init 88 = .ok (.iload_n 1, 1) := by decide +kernel
theorem dX4_init_89 : decode cX4_init 89 = .ok (.aload_n 0, 1) := by decide +kernel
theorem dX4_init_90 : decode cX4_init 90 = .ok (.getfield 18, 3) := by decide +kernel
theorem dX4_init_93 : decode cX4_init 93 = .ok (.arraylength, 1) := by decide +kernel
theorem dX4_init_94 : decode cX4_init 94 = .ok (.if_icmp .ge 32, 3) := by decide +kernel
theorem dX4_init_97 : decode cX4_init 97 = .ok (.aload_n 0, 1) := by decide +kernel
theorem dX4_init_98 : decode cX4_init 98 = .ok (.getfield 18, 3) := by decide +kernel
theorem dX4_init_101 : decode cX4_init 101 = .ok (.iload_n 1, 1) := by decide +kernel
theorem dX4_init_102 : decode cX4_init 102 = .ok (.iload_n 1, 1) := by decide +kernel
theorem dX4_init_103 : decode cX4_init 103 = .ok (.bipush 6, 2) := by decide +kernel
theorem dX4_init_105 : decode cX4_init 105 = .ok (.idiv, 1) := by decide +kernel
theorem dX4_init_106 : decode cX4_init 106 = .ok (.iload_n 1, 1) := by decide +kernel
theorem dX4_init_107 : decode cX4_init 107 = .ok (.bipush 6, 2) := by decide +kernel
theorem dX4_init_109 : decode cX4_init 109 = .ok (.irem, 1) := by decide +kernel
theorem dX4_init_110 : decode cX4_init 110 = .ok (.if_icmp .ne 7, 3) := by decide +kernel
theorem dX4_init_113 : decode cX4_init 113 = .ok (.iconst 0, 1) := by decide +kernel
theorem dX4_init_114 : decode cX4_init 114 = .ok (.goto 5, 3) := by decide +kernel
theorem dX4_init_117 : decode cX4_init 117 = .ok (.bipush 10, 2) := by decide +kernel
theorem dX4_init_119 : decode cX4_init 119 = .ok (.iastore, 1) := by decide +kernel
theorem dX4_init_120 : decode cX4_init 120 = .ok (.iinc 1 1, 3) := by decide +kernel
theorem dX4_init_123 : decode cX4_init 123 = .ok (.goto (-35), 3) := by decide +kernel
theorem dX4_init_126 : decode cX4_init 126 = .ok (.iconst 0, 1) := by decide +kernel
theorem dX4_init_127 : decode cX4_init 127 = .ok (.istore_n 1, 1) := by decide +kernel
theorem dX4_init_128 : decode cX4_init 128 = .ok (.iload_n 1, 1) := by decide +kernel
theorem dX4_init_129 : decode cX4_init 129 = .ok (.aload_n 0, 1) := by decide +kernel
theorem dX4_init_130 : decode cX4_init 130 = .ok (.getfield 23, 3) := by decide +kernel
theorem dX4_init_133 : decode cX4_init 133 = .ok (.arraylength, 1) := by decide +kernel
theorem dX4_init_134 : decode cX4_init 134 = .ok (.if_icmp .ge 22, 3) := by decide +kernel
theorem dX4_init_137 : decode cX4_init 137 = .ok (.aload_n 0, 1) := by decide +kernel
theorem dX4_init_138 : decode cX4_init 138 = .ok (.getfield 23, 3) := by decide +kernel
theorem dX4_init_141 : decode cX4_init 141 = .ok (.iload_n 1, 1) := by decide +kernel
theorem dX4_init_142 : decode cX4_init 142 = .ok (.new 21, 3) := by decide +kernel
theorem dX4_init_145 : decode cX4_init 145 = .ok (.dup, 1) := by decide +kernel
theorem dX4_init_146 : decode cX4_init 146 = .ok (.invokespecial 40, 3) := by decide +kernel
theorem dX4_init_149 : decode cX4_init 149 = .ok (.aastore, 1) := by decide +kernel
theorem dX4_init_150 : decode cX4_init 150 = .ok (.iinc 1 1, 3) := by decide +kernel
theorem dX4_init_153 : decode cX4_init 153 = .ok (.goto (-25), 3) := by decide +kernel
theorem dX4_init_156 : decode cX4_init 156 = .ok (.return_, 1) := by decide +kernel
theorem lo_X4 : Cond.methodLink RX4 3 objectInit ∈ TT := tt_of 138 (by decide +kernel) rfl
theorem cl_X4_21 : Cond.classLink RX4 21 RX1 ∈ TT := tt_of 139 (by decide +kernel) rfl
def wX4_init_q1_1 : Nat → Int32 := upd (fun _ => 0) 0 1
def wX4_init_q1_2 : Nat → Int32 := upd wX4_init_q1_1 1 1
def wX4_init_q1_3 : Nat → Int32 := upd wX4_init_q1_2 2 1
def wX4_init_q1_4 : Nat → Int32 := upd wX4_init_q1_3 3 1
def wX4_init_q1_5 : Nat → Int32 := upd wX4_init_q1_4 4 1
def wX4_init_q1_6 : Nat → Int32 := upd wX4_init_q1_5 5 1
def wX4_init_q1_7 : Nat → Int32 := upd wX4_init_q1_6 6 1
def wX4_init_q1_8 : Nat → Int32 := upd wX4_init_q1_7 7 1
def wX4_init_q3_1 : Nat → Int32 := upd (fun _ => 0) 0 0
def wX4_init_q3_2 : Nat → Int32 := upd wX4_init_q3_1 1 10
def wX4_init_q3_3 : Nat → Int32 := upd wX4_init_q3_2 2 10
def wX4_init_q3_4 : Nat → Int32 := upd wX4_init_q3_3 3 10
def wX4_init_q3_5 : Nat → Int32 := upd wX4_init_q3_4 4 10
def wX4_init_q3_6 : Nat → Int32 := upd wX4_init_q3_5 5 10
def wX4_init_q3_7 : Nat → Int32 := upd wX4_init_q3_6 6 10
def wX4_init_q3_8 : Nat → Int32 := upd wX4_init_q3_7 7 0
def wX4_init_q3_9 : Nat → Int32 := upd wX4_init_q3_8 8 10
def wX4_init_q3_10 : Nat → Int32 := upd wX4_init_q3_9 9 10
def wX4_init_q3_11 : Nat → Int32 := upd wX4_init_q3_10 10 10
def wX4_init_q3_12 : Nat → Int32 := upd wX4_init_q3_11 11 10
def wX4_init_q3_13 : Nat → Int32 := upd wX4_init_q3_12 12 10
def wX4_init_q3_14 : Nat → Int32 := upd wX4_init_q3_13 13 10
def wX4_init_q3_15 : Nat → Int32 := upd wX4_init_q3_14 14 0
def wX4_init_q3_16 : Nat → Int32 := upd wX4_init_q3_15 15 10
def wX4_init_q3_17 : Nat → Int32 := upd wX4_init_q3_16 16 10
def wX4_init_q3_18 : Nat → Int32 := upd wX4_init_q3_17 17 10
def wX4_init_q3_19 : Nat → Int32 := upd wX4_init_q3_18 18 10
def wX4_init_q3_20 : Nat → Int32 := upd wX4_init_q3_19 19 10
def wX4_init_q3_21 : Nat → Int32 := upd wX4_init_q3_20 20 10
def wX4_init_q3_22 : Nat → Int32 := upd wX4_init_q3_21 21 0
def wX4_init_q3_23 : Nat → Int32 := upd wX4_init_q3_22 22 10
def wX4_init_q3_24 : Nat → Int32 := upd wX4_init_q3_23 23 10
def wX4_init_q3_25 : Nat → Int32 := upd wX4_init_q3_24 24 10
def wX4_init_q3_26 : Nat → Int32 := upd wX4_init_q3_25 25 10
def wX4_init_q3_27 : Nat → Int32 := upd wX4_init_q3_26 26 10
def wX4_init_q3_28 : Nat → Int32 := upd wX4_init_q3_27 27 10
def wX4_init_q3_29 : Nat → Int32 := upd wX4_init_q3_28 28 0
def wX4_init_q3_30 : Nat → Int32 := upd wX4_init_q3_29 29 10
def wX4_init_q3_31 : Nat → Int32 := upd wX4_init_q3_30 30 10
def wX4_init_q3_32 : Nat → Int32 := upd wX4_init_q3_31 31 10
def wX4_init_q3_33 : Nat → Int32 := upd wX4_init_q3_32 32 10
def wX4_init_q3_34 : Nat → Int32 := upd wX4_init_q3_33 33 10
def wX4_init_q3_35 : Nat → Int32 := upd wX4_init_q3_34 34 10
def wX4_init_q3_36 : Nat → Int32 := upd wX4_init_q3_35 35 0
theorem in_X1 : Cond.instantiable RX1 10 ∈ TT := tt_of 141 (by decide +kernel) rfl
theorem ii_X1 : Cond.initialized RX1 ∈ TT := tt_of 69 (by decide +kernel) rfl
theorem lk_X4_40 : Cond.methodLink RX4 40 yX1_init ∈ TT := tt_of 142 (by decide +kernel) rfl
theorem mi_X1_init : MI yX1_init cX1_init 2 0 := ⟨tt_of 144 (by decide +kernel) rfl, tt_of 143 (by decide +kernel) rfl, tt_of 69 (by decide +kernel) rfl, rfl, by decide +kernel, by decide +kernel, by decide +kernel⟩
set_option maxHeartbeats 40000000 in
set_option maxRecDepth 100000 in
theorem c_X4_init (l : Launch) (D : va_G) (cI cC cS : ClassId) (h0 : Nat) : Kn l D cI cC cS yX4_init cX4_init 2 3 53 40 238 [.ref h0] [(h0, .inr (4, [.null, .null, .null, .null, .int 0, .int 0, .int 0, .int 0]))] (fun ws9 => ∃ q : Nat → Nat, ws9 = [(h0, .inr (4, [.ref (q 0), .ref (q 1), .ref (q 2), .ref (q 3), .int 0, .int 40, .int 999, .int 480])), ((q 0), .inl (cI, 8, .inl wX4_init_q1_8)), ((q 1), .inl (cI, 8, .inl (fun _ => 0))), ((q 2), .inl (cI, 36, .inl wX4_init_q3_36)), ((q 3), .inl (cC, 6, .inr (.inr (.inr (.inr (va_up (va_up (va_up (va_up (va_up (va_up (fun _ => none) 0 (some (q 4))) 1 (some (q 10))) 2 (some (q 16))) 3 (some (q 22))) 4 (some (q 28))) 5 (some (q 34)))))))), ((q 4), .inr (1, [.ref (q 5), .int 0, .int 0, .int 0, .int 0, .int 0, .int 0, .int 0, .int 0, .int 0])), ((q 5), .inl (cS, 4, .inr (.inr (.inr (.inr (va_up (va_up (va_up (va_up (fun _ => none) 0 (some (q 6))) 1 (some (q 7))) 2 (some (q 8))) 3 (some (q 9)))))))), ((q 6), .inr (7, [.int 0, .int 0, .int 0, .int 0])), ((q 7), .inr (7, [.int 0, .int 0, .int 0, .int 0])), ((q 8), .inr (7, [.int 0, .int 0, .int 0, .int 0])), ((q 9), .inr (7, [.int 0, .int 0, .int 0, .int 0])), ((q 10), .inr (1, [.ref (q 11), .int 0, .int 0, .int 0, .int 0, .int 0, .int 0, .int 0, .int 0, .int 0])), ((q 11), .inl (cS, 4, .inr (.inr (.inr (.inr (va_up (va_up (va_up (va_up (fun _ => none) 0 (some (q 12))) 1 (some (q 13))) 2 (some (q 14))) 3 (some (q 15)))))))), ((q 12), .inr (7, [.int 0, .int 0, .int 0, .int 0])), ((q 13), .inr (7, [.int 0, .int 0, .int 0, .int 0])), ((q 14), .inr (7, [.int 0, .int 0, .int 0, .int 0])), ((q 15), .inr (7, [.int 0, .int 0, .int 0, .int 0])), ((q 16), .inr (1, [.ref (q 17), .int 0, .int 0, .int 0, .int 0, .int 0, .int 0, .int 0, .int 0, .int 0])), ((q 17), .inl (cS, 4, .inr (.inr (.inr (.inr (va_up (va_up (va_up (va_up (fun _ => none) 0 (some (q 18))) 1 (some (q 19))) 2 (some (q 20))) 3 (some (q 21)))))))), ((q 18), .inr (7, [.int 0, .int 0, .int 0, .int 0])), ((q 19), .inr (7, [.int 0, .int 0, .int 0, .int 0])), ((q 20), .inr (7, [.int 0, .int 0, .int 0, .int 0])), ((q 21), .inr (7, [.int 0, .int 0, .int 0, .int 0])), ((q 22), .inr (1, [.ref (q 23), .int 0, .int 0, .int 0, .int 0, .int 0, .int 0, .int 0, .int 0, .int 0])), ((q 23), .inl (cS, 4, .inr (.inr (.inr (.inr (va_up (va_up (va_up (va_up (fun _ => none) 0 (some (q 24))) 1 (some (q 25))) 2 (some (q 26))) 3 (some (q 27)))))))), ((q 24), .inr (7, [.int 0, .int 0, .int 0, .int 0])), ((q 25), .inr (7, [.int 0, .int 0, .int 0, .int 0])), ((q 26), .inr (7, [.int 0, .int 0, .int 0, .int 0])), ((q 27), .inr (7, [.int 0, .int 0, .int 0, .int 0])), ((q 28), .inr (1, [.ref (q 29), .int 0, .int 0, .int 0, .int 0, .int 0, .int 0, .int 0, .int 0, .int 0])), ((q 29), .inl (cS, 4, .inr (.inr (.inr (.inr (va_up (va_up (va_up (va_up (fun _ => none) 0 (some (q 30))) 1 (some (q 31))) 2 (some (q 32))) 3 (some (q 33)))))))), ((q 30), .inr (7, [.int 0, .int 0, .int 0, .int 0])), ((q 31), .inr (7, [.int 0, .int 0, .int 0, .int 0])), ((q 32), .inr (7, [.int 0, .int 0, .int 0, .int 0])), ((q 33), .inr (7, [.int 0, .int 0, .int 0, .int 0])), ((q 34), .inr (1, [.ref (q 35), .int 0, .int 0, .int 0, .int 0, .int 0, .int 0, .int 0, .int 0, .int 0])), ((q 35), .inl (cS, 4, .inr (.inr (.inr (.inr (va_up (va_up (va_up (va_up (fun _ => none) 0 (some (q 36))) 1 (some (q 37))) 2 (some (q 38))) 3 (some (q 39)))))))), ((q 36), .inr (7, [.int 0, .int 0, .int 0, .int 0])), ((q 37), .inr (7, [.int 0, .int 0, .int 0, .int 0])), ((q 38), .inr (7, [.int 0, .int 0, .int 0, .int 0])), ((q 39), .inr (7, [.int 0, .int 0, .int 0, .int 0]))]) := by
  refine n_ent (by decide +kernel) rfl (Nat.le_of_ble_eq_true rfl) ?_
  intro p e s m args below meth c A Q C hK I hA hin hq ls hl
  have C : CallFix p m c cX4_init 2 s args TT RX4 := C
  have hx := C.1
  have hb := C.2.1
  have hl : lv_has ls 2 [(0, .ref h0)] := hl
  refine lv_aload_n hx hb dX4_init_0 rfl (lv_at hl 0 rfl) ?_
  refine n_obj C lo_X4 objI objC hl.1 dX4_init_1 (Nat.le_of_ble_eq_true rfl) (Nat.le_of_ble_eq_true rfl) ?_
  refine lv_aload_n hx hb dX4_init_4 rfl (lv_at hl 0 rfl) ?_
  refine lv_bipush (v := 8) hx hb dX4_init_5 (by decide) ?_
  refine n_int C hK I hA arrI (N := 8) (by decide) (by decide) (by decide) (Nat.le_of_ble_eq_true rfl) (Nat.le_of_ble_eq_true rfl) dX4_init_7 (fun q1 H I => ?_)
  have I : Iw D [(h0, .inr (4, [.null, .null, .null, .null, .int 0, .int 0, .int 0, .int 0])), (q1, .inl (cI, 8, .inl (fun _ => 0)))] A s H _ := I
  refine n_putF C hK I inT4 tyX4 tyX4_ok nmX4 0 4 0 rfl rfl (by decide) rfl rfl hin fl_X4_9 rfl rfl rfl (Nat.le_of_ble_eq_true rfl) (ws1 := [(h0, .inr (4, [.ref q1, .null, .null, .null, .int 0, .int 0, .int 0, .int 0])), (q1, .inl (cI, 8, .inl (fun _ => 0)))]) rfl dX4_init_9 (fun H locs I => ?_)
  refine lv_aload_n hx hb dX4_init_12 rfl (lv_at hl 0 rfl) ?_
  refine lv_bipush (v := 8) hx hb dX4_init_13 (by decide) ?_
  refine n_int C hK I hA arrI (N := 8) (by decide) (by decide) (by decide) (Nat.le_of_ble_eq_true rfl) (Nat.le_of_ble_eq_true rfl) dX4_init_15 (fun q2 H I => ?_)
  have I : Iw D [(h0, .inr (4, [.ref q1, .null, .null, .null, .int 0, .int 0, .int 0, .int 0])), (q1, .inl (cI, 8, .inl (fun _ => 0))), (q2, .inl (cI, 8, .inl (fun _ => 0)))] A s H _ := I
  refine n_putF C hK I inT4 tyX4 tyX4_ok nmX4 0 4 1 rfl rfl (by decide) rfl rfl hin fl_X4_15 rfl rfl rfl (Nat.le_of_ble_eq_true rfl) (ws1 := [(h0, .inr (4, [.ref q1, .ref q2, .null, .null, .int 0, .int 0, .int 0, .int 0])), (q1, .inl (cI, 8, .inl (fun _ => 0))), (q2, .inl (cI, 8, .inl (fun _ => 0)))]) rfl dX4_init_17 (fun H locs I => ?_)
  refine lv_aload_n hx hb dX4_init_20 rfl (lv_at hl 0 rfl) ?_
  refine lv_bipush (v := 36) hx hb dX4_init_21 (by decide) ?_
  refine n_int C hK I hA arrI (N := 36) (by decide) (by decide) (by decide) (Nat.le_of_ble_eq_true rfl) (Nat.le_of_ble_eq_true rfl) dX4_init_23 (fun q3 H I => ?_)
  have I : Iw D [(h0, .inr (4, [.ref q1, .ref q2, .null, .null, .int 0, .int 0, .int 0, .int 0])), (q1, .inl (cI, 8, .inl (fun _ => 0))), (q2, .inl (cI, 8, .inl (fun _ => 0))), (q3, .inl (cI, 36, .inl (fun _ => 0)))] A s H _ := I
  refine n_putF C hK I inT4 tyX4 tyX4_ok nmX4 0 4 2 rfl rfl (by decide) rfl rfl hin fl_X4_18 rfl rfl rfl (Nat.le_of_ble_eq_true rfl) (ws1 := [(h0, .inr (4, [.ref q1, .ref q2, .ref q3, .null, .int 0, .int 0, .int 0, .int 0])), (q1, .inl (cI, 8, .inl (fun _ => 0))), (q2, .inl (cI, 8, .inl (fun _ => 0))), (q3, .inl (cI, 36, .inl (fun _ => 0)))]) rfl dX4_init_25 (fun H locs I => ?_)
  refine lv_aload_n hx hb dX4_init_28 rfl (lv_at hl 0 rfl) ?_
  refine lv_bipush (v := 6) hx hb dX4_init_29 (by decide) ?_
  refine n_ref C hK I hA 1 rfl hK.2.2.1 cl_X4_21 (N := 6) (by decide) (by decide) (by decide) (Nat.le_of_ble_eq_true rfl) (Nat.le_of_ble_eq_true rfl) dX4_init_31 (fun q4 H I => ?_)
  have I : Iw D [(h0, .inr (4, [.ref q1, .ref q2, .ref q3, .null, .int 0, .int 0, .int 0, .int 0])), (q1, .inl (cI, 8, .inl (fun _ => 0))), (q2, .inl (cI, 8, .inl (fun _ => 0))), (q3, .inl (cI, 36, .inl (fun _ => 0))), (q4, .inl (cC, 6, .inr (.inr (.inr (.inr (fun _ => none))))))] A s H _ := I
  refine n_putF C hK I inT4 tyX4 tyX4_ok nmX4 0 4 3 rfl rfl (by decide) rfl rfl hin fl_X4_23 rfl rfl rfl (Nat.le_of_ble_eq_true rfl) (ws1 := [(h0, .inr (4, [.ref q1, .ref q2, .ref q3, .ref q4, .int 0, .int 0, .int 0, .int 0])), (q1, .inl (cI, 8, .inl (fun _ => 0))), (q2, .inl (cI, 8, .inl (fun _ => 0))), (q3, .inl (cI, 36, .inl (fun _ => 0))), (q4, .inl (cC, 6, .inr (.inr (.inr (.inr (fun _ => none))))))]) rfl dX4_init_34 (fun H locs I => ?_)
  refine lv_aload_n hx hb dX4_init_37 rfl (lv_at hl 0 rfl) ?_
  refine lv_iconst (v := 0) hx hb dX4_init_38 (by decide) ?_
  refine n_put C hK I inT4 tyX4 tyX4_ok nmX4 0 4 4 rfl rfl (by decide) rfl fl_X4_27 rfl rfl rfl (Nat.le_of_ble_eq_true rfl) (ws1 := [(h0, .inr (4, [.ref q1, .ref q2, .ref q3, .ref q4, .int 0, .int 0, .int 0, .int 0])), (q1, .inl (cI, 8, .inl (fun _ => 0))), (q2, .inl (cI, 8, .inl (fun _ => 0))), (q3, .inl (cI, 36, .inl (fun _ => 0))), (q4, .inl (cC, 6, .inr (.inr (.inr (.inr (fun _ => none))))))]) rfl dX4_init_39 (fun H locs I => ?_)
  refine lv_aload_n hx hb dX4_init_42 rfl (lv_at hl 0 rfl) ?_
  refine lv_bipush (v := 40) hx hb dX4_init_43 (by decide) ?_
  refine n_put C hK I inT4 tyX4 tyX4_ok nmX4 0 4 5 rfl rfl (by decide) rfl fl_X4_31 rfl rfl rfl (Nat.le_of_ble_eq_true rfl) (ws1 := [(h0, .inr (4, [.ref q1, .ref q2, .ref q3, .ref q4, .int 0, .int 40, .int 0, .int 0])), (q1, .inl (cI, 8, .inl (fun _ => 0))), (q2, .inl (cI, 8, .inl (fun _ => 0))), (q3, .inl (cI, 36, .inl (fun _ => 0))), (q4, .inl (cC, 6, .inr (.inr (.inr (.inr (fun _ => none))))))]) rfl dX4_init_45 (fun H locs I => ?_)
  refine lv_aload_n hx hb dX4_init_48 rfl (lv_at hl 0 rfl) ?_
  refine lv_sipush (v := 999) hx hb dX4_init_49 (by decide) ?_
  refine n_put C hK I inT4 tyX4 tyX4_ok nmX4 0 4 6 rfl rfl (by decide) rfl fl_X4_34 rfl rfl rfl (Nat.le_of_ble_eq_true rfl) (ws1 := [(h0, .inr (4, [.ref q1, .ref q2, .ref q3, .ref q4, .int 0, .int 40, .int 999, .int 0])), (q1, .inl (cI, 8, .inl (fun _ => 0))), (q2, .inl (cI, 8, .inl (fun _ => 0))), (q3, .inl (cI, 36, .inl (fun _ => 0))), (q4, .inl (cC, 6, .inr (.inr (.inr (.inr (fun _ => none))))))]) rfl dX4_init_52 (fun H locs I => ?_)
  refine lv_aload_n hx hb dX4_init_55 rfl (lv_at hl 0 rfl) ?_
  refine lv_sipush (v := 480) hx hb dX4_init_56 (by decide) ?_
  refine n_put C hK I inT4 tyX4 tyX4_ok nmX4 0 4 7 rfl rfl (by decide) rfl fl_X4_37 rfl rfl rfl (Nat.le_of_ble_eq_true rfl) (ws1 := [(h0, .inr (4, [.ref q1, .ref q2, .ref q3, .ref q4, .int 0, .int 40, .int 999, .int 480])), (q1, .inl (cI, 8, .inl (fun _ => 0))), (q2, .inl (cI, 8, .inl (fun _ => 0))), (q3, .inl (cI, 36, .inl (fun _ => 0))), (q4, .inl (cC, 6, .inr (.inr (.inr (.inr (fun _ => none))))))]) rfl dX4_init_59 (fun H locs I => ?_)
  refine lv_iconst (v := 0) hx hb dX4_init_62 (by decide) ?_
  refine lv_istore_n (lv' := [(1, .int 0), (0, .ref h0)]) hx hb dX4_init_63 rfl hl (by decide) rfl (fun ls hl => ?_)
  refine lv_iload_n hx hb dX4_init_64 rfl (lv_at hl 0 rfl) ?_
  refine lv_aload_n hx hb dX4_init_65 rfl (lv_at hl 1 rfl) ?_
  refine n_get C hK I inT4 0 4 0 rfl rfl (by decide) rfl fl_X4_9 rfl dX4_init_66 ?_
  refine n_len C hK I 1 0 rfl rfl (v := 8) rfl dX4_init_69 ?_
  refine lv_icmp_ge (tgt := 86) hx hb dX4_init_70 (by decide) (fun q => absurd q (by decide)) (fun _ => ?_)
  refine lv_aload_n hx hb dX4_init_73 rfl (lv_at hl 1 rfl) ?_
  refine n_get C hK I inT4 0 4 0 rfl rfl (by decide) rfl fl_X4_9 rfl dX4_init_74 ?_
  refine lv_iload_n hx hb dX4_init_77 rfl (lv_at hl 0 rfl) ?_
  refine lv_iconst (v := 1) hx hb dX4_init_78 (by decide) ?_
  refine n_ast C hK I 1 rfl (by decide) (ws1 := [(h0, .inr (4, [.ref q1, .ref q2, .ref q3, .ref q4, .int 0, .int 40, .int 999, .int 480])), (q1, .inl (cI, 8, .inl wX4_init_q1_1)), (q2, .inl (cI, 8, .inl (fun _ => 0))), (q3, .inl (cI, 36, .inl (fun _ => 0))), (q4, .inl (cC, 6, .inr (.inr (.inr (.inr (fun _ => none))))))]) rfl dX4_init_79 (fun H locs I => ?_)
  refine lv_iinc (v := 1) (lv' := [(1, .int 1), (0, .ref h0)]) hx hb dX4_init_80 hl (k := 0) rfl (by decide) (by decide) rfl (fun ls hl => ?_)
  refine lv_goto (tgt := 64) hx hb dX4_init_83 (by decide) ?_
  refine lv_iload_n hx hb dX4_init_64 rfl (lv_at hl 0 rfl) ?_
  refine lv_aload_n hx hb dX4_init_65 rfl (lv_at hl 1 rfl) ?_
  refine n_get C hK I inT4 0 4 0 rfl rfl (by decide) rfl fl_X4_9 rfl dX4_init_66 ?_
  refine n_len C hK I 1 0 rfl rfl (v := 8) rfl dX4_init_69 ?_
  refine lv_icmp_ge (tgt := 86) hx hb dX4_init_70 (by decide) (fun q => absurd q (by decide)) (fun _ => ?_)
  refine lv_aload_n hx hb dX4_init_73 rfl (lv_at hl 1 rfl) ?_
  refine n_get C hK I inT4 0 4 0 rfl rfl (by decide) rfl fl_X4_9 rfl dX4_init_74 ?_
  refine lv_iload_n hx hb dX4_init_77 rfl (lv_at hl 0 rfl) ?_
  refine lv_iconst (v := 1) hx hb dX4_init_78 (by decide) ?_
  refine n_ast C hK I 1 rfl (by decide) (ws1 := [(h0, .inr (4, [.ref q1, .ref q2, .ref q3, .ref q4, .int 0, .int 40, .int 999, .int 480])), (q1, .inl (cI, 8, .inl wX4_init_q1_2)), (q2, .inl (cI, 8, .inl (fun _ => 0))), (q3, .inl (cI, 36, .inl (fun _ => 0))), (q4, .inl (cC, 6, .inr (.inr (.inr (.inr (fun _ => none))))))]) rfl dX4_init_79 (fun H locs I => ?_)
  refine lv_iinc (v := 2) (lv' := [(1, .int 2), (0, .ref h0)]) hx hb dX4_init_80 hl (k := 0) rfl (by decide) (by decide) rfl (fun ls hl => ?_)
  refine lv_goto (tgt := 64) hx hb dX4_init_83 (by decide) ?_
  refine lv_iload_n hx hb dX4_init_64 rfl (lv_at hl 0 rfl) ?_
  refine lv_aload_n hx hb dX4_init_65 rfl (lv_at hl 1 rfl) ?_
  refine n_get C hK I inT4 0 4 0 rfl rfl (by decide) rfl fl_X4_9 rfl dX4_init_66 ?_
  refine n_len C hK I 1 0 rfl rfl (v := 8) rfl dX4_init_69 ?_
  refine lv_icmp_ge (tgt := 86) hx hb dX4_init_70 (by decide) (fun q => absurd q (by decide)) (fun _ => ?_)
  refine lv_aload_n hx hb dX4_init_73 rfl (lv_at hl 1 rfl) ?_
  refine n_get C hK I inT4 0 4 0 rfl rfl (by decide) rfl fl_X4_9 rfl dX4_init_74 ?_
  refine lv_iload_n hx hb dX4_init_77 rfl (lv_at hl 0 rfl) ?_
  refine lv_iconst (v := 1) hx hb dX4_init_78 (by decide) ?_
  refine n_ast C hK I 1 rfl (by decide) (ws1 := [(h0, .inr (4, [.ref q1, .ref q2, .ref q3, .ref q4, .int 0, .int 40, .int 999, .int 480])), (q1, .inl (cI, 8, .inl wX4_init_q1_3)), (q2, .inl (cI, 8, .inl (fun _ => 0))), (q3, .inl (cI, 36, .inl (fun _ => 0))), (q4, .inl (cC, 6, .inr (.inr (.inr (.inr (fun _ => none))))))]) rfl dX4_init_79 (fun H locs I => ?_)
  refine lv_iinc (v := 3) (lv' := [(1, .int 3), (0, .ref h0)]) hx hb dX4_init_80 hl (k := 0) rfl (by decide) (by decide) rfl (fun ls hl => ?_)
  refine lv_goto (tgt := 64) hx hb dX4_init_83 (by decide) ?_
  refine lv_iload_n hx hb dX4_init_64 rfl (lv_at hl 0 rfl) ?_
  refine lv_aload_n hx hb dX4_init_65 rfl (lv_at hl 1 rfl) ?_
  refine n_get C hK I inT4 0 4 0 rfl rfl (by decide) rfl fl_X4_9 rfl dX4_init_66 ?_
  refine n_len C hK I 1 0 rfl rfl (v := 8) rfl dX4_init_69 ?_
  refine lv_icmp_ge (tgt := 86) hx hb dX4_init_70 (by decide) (fun q => absurd q (by decide)) (fun _ => ?_)
  refine lv_aload_n hx hb dX4_init_73 rfl (lv_at hl 1 rfl) ?_
  refine n_get C hK I inT4 0 4 0 rfl rfl (by decide) rfl fl_X4_9 rfl dX4_init_74 ?_
  refine lv_iload_n hx hb dX4_init_77 rfl (lv_at hl 0 rfl) ?_
  refine lv_iconst (v := 1) hx hb dX4_init_78 (by decide) ?_
  refine n_ast C hK I 1 rfl (by decide) (ws1 := [(h0, .inr (4, [.ref q1, .ref q2, .ref q3, .ref q4, .int 0, .int 40, .int 999, .int 480])), (q1, .inl (cI, 8, .inl wX4_init_q1_4)), (q2, .inl (cI, 8, .inl (fun _ => 0))), (q3, .inl (cI, 36, .inl (fun _ => 0))), (q4, .inl (cC, 6, .inr (.inr (.inr (.inr (fun _ => none))))))]) rfl dX4_init_79 (fun H locs I => ?_)
  refine lv_iinc (v := 4) (lv' := [(1, .int 4), (0, .ref h0)]) hx hb dX4_init_80 hl (k := 0) rfl (by decide) (by decide) rfl (fun ls hl => ?_)
  refine lv_goto (tgt := 64) hx hb dX4_init_83 (by decide) ?_
  refine lv_iload_n hx hb dX4_init_64 rfl (lv_at hl 0 rfl) ?_
  refine lv_aload_n hx hb dX4_init_65 rfl (lv_at hl 1 rfl) ?_
  refine n_get C hK I inT4 0 4 0 rfl rfl (by decide) rfl fl_X4_9 rfl dX4_init_66 ?_
  refine n_len C hK I 1 0 rfl rfl (v := 8) rfl dX4_init_69 ?_
  refine lv_icmp_ge (tgt := 86) hx hb dX4_init_70 (by decide) (fun q => absurd q (by decide)) (fun _ => ?_)
  refine lv_aload_n hx hb dX4_init_73 rfl (lv_at hl 1 rfl) ?_
  refine n_get C hK I inT4 0 4 0 rfl rfl (by decide) rfl fl_X4_9 rfl dX4_init_74 ?_
  refine lv_iload_n hx hb dX4_init_77 rfl (lv_at hl 0 rfl) ?_
  refine lv_iconst (v := 1) hx hb dX4_init_78 (by decide) ?_
  refine n_ast C hK I 1 rfl (by decide) (ws1 := [(h0, .inr (4, [.ref q1, .ref q2, .ref q3, .ref q4, .int 0, .int 40, .int 999, .int 480])), (q1, .inl (cI, 8, .inl wX4_init_q1_5)), (q2, .inl (cI, 8, .inl (fun _ => 0))), (q3, .inl (cI, 36, .inl (fun _ => 0))), (q4, .inl (cC, 6, .inr (.inr (.inr (.inr (fun _ => none))))))]) rfl dX4_init_79 (fun H locs I => ?_)
  refine lv_iinc (v := 5) (lv' := [(1, .int 5), (0, .ref h0)]) hx hb dX4_init_80 hl (k := 0) rfl (by decide) (by decide) rfl (fun ls hl => ?_)
  refine lv_goto (tgt := 64) hx hb dX4_init_83 (by decide) ?_
  refine lv_iload_n hx hb dX4_init_64 rfl (lv_at hl 0 rfl) ?_
  refine lv_aload_n hx hb dX4_init_65 rfl (lv_at hl 1 rfl) ?_
  refine n_get C hK I inT4 0 4 0 rfl rfl (by decide) rfl fl_X4_9 rfl dX4_init_66 ?_
  refine n_len C hK I 1 0 rfl rfl (v := 8) rfl dX4_init_69 ?_
  refine lv_icmp_ge (tgt := 86) hx hb dX4_init_70 (by decide) (fun q => absurd q (by decide)) (fun _ => ?_)
  refine lv_aload_n hx hb dX4_init_73 rfl (lv_at hl 1 rfl) ?_
  refine n_get C hK I inT4 0 4 0 rfl rfl (by decide) rfl fl_X4_9 rfl dX4_init_74 ?_
  refine lv_iload_n hx hb dX4_init_77 rfl (lv_at hl 0 rfl) ?_
  refine lv_iconst (v := 1) hx hb dX4_init_78 (by decide) ?_
  refine n_ast C hK I 1 rfl (by decide) (ws1 := [(h0, .inr (4, [.ref q1, .ref q2, .ref q3, .ref q4, .int 0, .int 40, .int 999, .int 480])), (q1, .inl (cI, 8, .inl wX4_init_q1_6)), (q2, .inl (cI, 8, .inl (fun _ => 0))), (q3, .inl (cI, 36, .inl (fun _ => 0))), (q4, .inl (cC, 6, .inr (.inr (.inr (.inr (fun _ => none))))))]) rfl dX4_init_79 (fun H locs I => ?_)
  refine lv_iinc (v := 6) (lv' := [(1, .int 6), (0, .ref h0)]) hx hb dX4_init_80 hl (k := 0) rfl (by decide) (by decide) rfl (fun ls hl => ?_)
  refine lv_goto (tgt := 64) hx hb dX4_init_83 (by decide) ?_
  refine lv_iload_n hx hb dX4_init_64 rfl (lv_at hl 0 rfl) ?_
  refine lv_aload_n hx hb dX4_init_65 rfl (lv_at hl 1 rfl) ?_
  refine n_get C hK I inT4 0 4 0 rfl rfl (by decide) rfl fl_X4_9 rfl dX4_init_66 ?_
  refine n_len C hK I 1 0 rfl rfl (v := 8) rfl dX4_init_69 ?_
  refine lv_icmp_ge (tgt := 86) hx hb dX4_init_70 (by decide) (fun q => absurd q (by decide)) (fun _ => ?_)
  refine lv_aload_n hx hb dX4_init_73 rfl (lv_at hl 1 rfl) ?_
  refine n_get C hK I inT4 0 4 0 rfl rfl (by decide) rfl fl_X4_9 rfl dX4_init_74 ?_
  refine lv_iload_n hx hb dX4_init_77 rfl (lv_at hl 0 rfl) ?_
  refine lv_iconst (v := 1) hx hb dX4_init_78 (by decide) ?_
  refine n_ast C hK I 1 rfl (by decide) (ws1 := [(h0, .inr (4, [.ref q1, .ref q2, .ref q3, .ref q4, .int 0, .int 40, .int 999, .int 480])), (q1, .inl (cI, 8, .inl wX4_init_q1_7)), (q2, .inl (cI, 8, .inl (fun _ => 0))), (q3, .inl (cI, 36, .inl (fun _ => 0))), (q4, .inl (cC, 6, .inr (.inr (.inr (.inr (fun _ => none))))))]) rfl dX4_init_79 (fun H locs I => ?_)
  refine lv_iinc (v := 7) (lv' := [(1, .int 7), (0, .ref h0)]) hx hb dX4_init_80 hl (k := 0) rfl (by decide) (by decide) rfl (fun ls hl => ?_)
  refine lv_goto (tgt := 64) hx hb dX4_init_83 (by decide) ?_
  refine lv_iload_n hx hb dX4_init_64 rfl (lv_at hl 0 rfl) ?_
  refine lv_aload_n hx hb dX4_init_65 rfl (lv_at hl 1 rfl) ?_
  refine n_get C hK I inT4 0 4 0 rfl rfl (by decide) rfl fl_X4_9 rfl dX4_init_66 ?_
  refine n_len C hK I 1 0 rfl rfl (v := 8) rfl dX4_init_69 ?_
  refine lv_icmp_ge (tgt := 86) hx hb dX4_init_70 (by decide) (fun q => absurd q (by decide)) (fun _ => ?_)
  refine lv_aload_n hx hb dX4_init_73 rfl (lv_at hl 1 rfl) ?_
  refine n_get C hK I inT4 0 4 0 rfl rfl (by decide) rfl fl_X4_9 rfl dX4_init_74 ?_
  refine lv_iload_n hx hb dX4_init_77 rfl (lv_at hl 0 rfl) ?_
  refine lv_iconst (v := 1) hx hb dX4_init_78 (by decide) ?_
  refine n_ast C hK I 1 rfl (by decide) (ws1 := [(h0, .inr (4, [.ref q1, .ref q2, .ref q3, .ref q4, .int 0, .int 40, .int 999, .int 480])), (q1, .inl (cI, 8, .inl wX4_init_q1_8)), (q2, .inl (cI, 8, .inl (fun _ => 0))), (q3, .inl (cI, 36, .inl (fun _ => 0))), (q4, .inl (cC, 6, .inr (.inr (.inr (.inr (fun _ => none))))))]) rfl dX4_init_79 (fun H locs I => ?_)
  refine lv_iinc (v := 8) (lv' := [(1, .int 8), (0, .ref h0)]) hx hb dX4_init_80 hl (k := 0) rfl (by decide) (by decide) rfl (fun ls hl => ?_)
  refine lv_goto (tgt := 64) hx hb dX4_init_83 (by decide) ?_
  refine lv_iload_n hx hb dX4_init_64 rfl (lv_at hl 0 rfl) ?_
  refine lv_aload_n hx hb dX4_init_65 rfl (lv_at hl 1 rfl) ?_
  refine n_get C hK I inT4 0 4 0 rfl rfl (by decide) rfl fl_X4_9 rfl dX4_init_66 ?_
  refine n_len C hK I 1 0 rfl rfl (v := 8) rfl dX4_init_69 ?_
  refine lv_icmp_ge (tgt := 86) hx hb dX4_init_70 (by decide) (fun _ => ?_) (fun q => absurd q (by decide))
  refine lv_iconst (v := 0) hx hb dX4_init_86 (by decide) ?_
  refine lv_istore_n (lv' := [(1, .int 0), (0, .ref h0)]) hx hb dX4_init_87 rfl hl (by decide) rfl (fun ls hl => ?_)
  refine lv_iload_n hx hb dX4_init_88 rfl (lv_at hl 0 rfl) ?_
  refine lv_aload_n hx hb dX4_init_89 rfl (lv_at hl 1 rfl) ?_
  refine n_get C hK I inT4 0 4 2 rfl rfl (by decide) rfl fl_X4_18 rfl dX4_init_90 ?_
  refine n_len C hK I 3 0 rfl rfl (v := 36) rfl dX4_init_93 ?_
  refine lv_icmp_ge (tgt := 126) hx hb dX4_init_94 (by decide) (fun q => absurd q (by decide)) (fun _ => ?_)
  refine lv_aload_n hx hb dX4_init_97 rfl (lv_at hl 1 rfl) ?_
  refine n_get C hK I inT4 0 4 2 rfl rfl (by decide) rfl fl_X4_18 rfl dX4_init_98 ?_
  refine lv_iload_n hx hb dX4_init_101 rfl (lv_at hl 0 rfl) ?_
  refine lv_iload_n hx hb dX4_init_102 rfl (lv_at hl 0 rfl) ?_
  refine lv_bipush (v := 6) hx hb dX4_init_103 (by decide) ?_
  refine lv_idiv hx hb dX4_init_105 (by decide) ?_
  refine W.eq (g2 := F0 m 106 ls [.int 0, .int 0, .ref q3]) (by first | rfl | decide) ?_
  refine lv_iload_n hx hb dX4_init_106 rfl (lv_at hl 0 rfl) ?_
  refine lv_bipush (v := 6) hx hb dX4_init_107 (by decide) ?_
  refine lv_irem hx hb dX4_init_109 (by decide) ?_
  refine W.eq (g2 := F0 m 110 ls [.int 0, .int 0, .int 0, .ref q3]) (by first | rfl | decide) ?_
  refine lv_icmp_ne (tgt := 117) hx hb dX4_init_110 (by decide) (fun q => absurd q (by decide)) (fun _ => ?_)
  refine lv_iconst (v := 0) hx hb dX4_init_113 (by decide) ?_
  refine lv_goto (tgt := 119) hx hb dX4_init_114 (by decide) ?_
  refine n_ast C hK I 3 rfl (by decide) (ws1 := [(h0, .inr (4, [.ref q1, .ref q2, .ref q3, .ref q4, .int 0, .int 40, .int 999, .int 480])), (q1, .inl (cI, 8, .inl wX4_init_q1_8)), (q2, .inl (cI, 8, .inl (fun _ => 0))), (q3, .inl (cI, 36, .inl wX4_init_q3_1)), (q4, .inl (cC, 6, .inr (.inr (.inr (.inr (fun _ => none))))))]) rfl dX4_init_119 (fun H locs I => ?_)
  refine lv_iinc (v := 1) (lv' := [(1, .int 1), (0, .ref h0)]) hx hb dX4_init_120 hl (k := 0) rfl (by decide) (by decide) rfl (fun ls hl => ?_)
  refine lv_goto (tgt := 88) hx hb dX4_init_123 (by decide) ?_
  refine lv_iload_n hx hb dX4_init_88 rfl (lv_at hl 0 rfl) ?_
  refine lv_aload_n hx hb dX4_init_89 rfl (lv_at hl 1 rfl) ?_
  refine n_get C hK I inT4 0 4 2 rfl rfl (by decide) rfl fl_X4_18 rfl dX4_init_90 ?_
  refine n_len C hK I 3 0 rfl rfl (v := 36) rfl dX4_init_93 ?_
  refine lv_icmp_ge (tgt := 126) hx hb dX4_init_94 (by decide) (fun q => absurd q (by decide)) (fun _ => ?_)
  refine lv_aload_n hx hb dX4_init_97 rfl (lv_at hl 1 rfl) ?_
  refine n_get C hK I inT4 0 4 2 rfl rfl (by decide) rfl fl_X4_18 rfl dX4_init_98 ?_
  refine lv_iload_n hx hb dX4_init_101 rfl (lv_at hl 0 rfl) ?_
  refine lv_iload_n hx hb dX4_init_102 rfl (lv_at hl 0 rfl) ?_
  refine lv_bipush (v := 6) hx hb dX4_init_103 (by decide) ?_
  refine lv_idiv hx hb dX4_init_105 (by decide) ?_
  refine W.eq (g2 := F0 m 106 ls [.int 0, .int 1, .ref q3]) (by first | rfl | decide) ?_
  refine lv_iload_n hx hb dX4_init_106 rfl (lv_at hl 0 rfl) ?_
  refine lv_bipush (v := 6) hx hb dX4_init_107 (by decide) ?_
  refine lv_irem hx hb dX4_init_109 (by decide) ?_
  refine W.eq (g2 := F0 m 110 ls [.int 1, .int 0, .int 1, .ref q3]) (by first | rfl | decide) ?_
  refine lv_icmp_ne (tgt := 117) hx hb dX4_init_110 (by decide) (fun _ => ?_) (fun q => absurd q (by decide))
  refine lv_bipush (v := 10) hx hb dX4_init_117 (by decide) ?_
  refine n_ast C hK I 3 rfl (by decide) (ws1 := [(h0, .inr (4, [.ref q1, .ref q2, .ref q3, .ref q4, .int 0, .int 40, .int 999, .int 480])), (q1, .inl (cI, 8, .inl wX4_init_q1_8)), (q2, .inl (cI, 8, .inl (fun _ => 0))), (q3, .inl (cI, 36, .inl wX4_init_q3_2)), (q4, .inl (cC, 6, .inr (.inr (.inr (.inr (fun _ => none))))))]) rfl dX4_init_119 (fun H locs I => ?_)
  refine lv_iinc (v := 2) (lv' := [(1, .int 2), (0, .ref h0)]) hx hb dX4_init_120 hl (k := 0) rfl (by decide) (by decide) rfl (fun ls hl => ?_)
  refine lv_goto (tgt := 88) hx hb dX4_init_123 (by decide) ?_
  refine lv_iload_n hx hb dX4_init_88 rfl (lv_at hl 0 rfl) ?_
  refine lv_aload_n hx hb dX4_init_89 rfl (lv_at hl 1 rfl) ?_
  refine n_get C hK I inT4 0 4 2 rfl rfl (by decide) rfl fl_X4_18 rfl dX4_init_90 ?_
  refine n_len C hK I 3 0 rfl rfl (v := 36) rfl dX4_init_93 ?_
  refine lv_icmp_ge (tgt := 126) hx hb dX4_init_94 (by decide) (fun q => absurd q (by decide)) (fun _ => ?_)
  refine lv_aload_n hx hb dX4_init_97 rfl (lv_at hl 1 rfl) ?_
  refine n_get C hK I inT4 0 4 2 rfl rfl (by decide) rfl fl_X4_18 rfl dX4_init_98 ?_
  refine lv_iload_n hx hb dX4_init_101 rfl (lv_at hl 0 rfl) ?_
  refine lv_iload_n hx hb dX4_init_102 rfl (lv_at hl 0 rfl) ?_
  refine lv_bipush (v := 6) hx hb dX4_init_103 (by decide) ?_
  refine lv_idiv hx hb dX4_init_105 (by decide) ?_
  refine W.eq (g2 := F0 m 106 ls [.int 0, .int 2, .ref q3]) (by first | rfl | decide) ?_
  refine lv_iload_n hx hb dX4_init_106 rfl (lv_at hl 0 rfl) ?_
  refine lv_bipush (v := 6) hx hb dX4_init_107 (by decide) ?_
  refine lv_irem hx hb dX4_init_109 (by decide) ?_
  refine W.eq (g2 := F0 m 110 ls [.int 2, .int 0, .int 2, .ref q3]) (by first | rfl | decide) ?_
  refine lv_icmp_ne (tgt := 117) hx hb dX4_init_110 (by decide) (fun _ => ?_) (fun q => absurd q (by decide))
  refine lv_bipush (v := 10) hx hb dX4_init_117 (by decide) ?_
  refine n_ast C hK I 3 rfl (by decide) (ws1 := [(h0, .inr (4, [.ref q1, .ref q2, .ref q3, .ref q4, .int 0, .int 40, .int 999, .int 480])), (q1, .inl (cI, 8, .inl wX4_init_q1_8)), (q2, .inl (cI, 8, .inl (fun _ => 0))), (q3, .inl (cI, 36, .inl wX4_init_q3_3)), (q4, .inl (cC, 6, .inr (.inr (.inr (.inr (fun _ => none))))))]) rfl dX4_init_119 (fun H locs I => ?_)
  refine lv_iinc (v := 3) (lv' := [(1, .int 3), (0, .ref h0)]) hx hb dX4_init_120 hl (k := 0) rfl (by decide) (by decide) rfl (fun ls hl => ?_)
  refine lv_goto (tgt := 88) hx hb dX4_init_123 (by decide) ?_
  refine lv_iload_n hx hb dX4_init_88 rfl (lv_at hl 0 rfl) ?_
  refine lv_aload_n hx hb dX4_init_89 rfl (lv_at hl 1 rfl) ?_
  refine n_get C hK I inT4 0 4 2 rfl rfl (by decide) rfl fl_X4_18 rfl dX4_init_90 ?_
  refine n_len C hK I 3 0 rfl rfl (v := 36) rfl dX4_init_93 ?_
  refine lv_icmp_ge (tgt := 126) hx hb dX4_init_94 (by decide) (fun q => absurd q (by decide)) (fun _ => ?_)
  refine lv_aload_n hx hb dX4_init_97 rfl (lv_at hl 1 rfl) ?_
  refine n_get C hK I inT4 0 4 2 rfl rfl (by decide) rfl fl_X4_18 rfl dX4_init_98 ?_
  refine lv_iload_n hx hb dX4_init_101 rfl (lv_at hl 0 rfl) ?_
  refine lv_iload_n hx hb dX4_init_102 rfl (lv_at hl 0 rfl) ?_
  refine lv_bipush (v := 6) hx hb dX4_init_103 (by decide) ?_
  refine lv_idiv hx hb dX4_init_105 (by decide) ?_
  refine W.eq (g2 := F0 m 106 ls [.int 0, .int 3, .ref q3]) (by first | rfl | decide) ?_
  refine lv_iload_n hx hb dX4_init_106 rfl (lv_at hl 0 rfl) ?_
  refine lv_bipush (v := 6) hx hb dX4_init_107 (by decide) ?_
  refine lv_irem hx hb dX4_init_109 (by decide) ?_
  refine W.eq (g2 := F0 m 110 ls [.int 3, .int 0, .int 3, .ref q3]) (by first | rfl | decide) ?_
  refine lv_icmp_ne (tgt := 117) hx hb dX4_init_110 (by decide) (fun _ => ?_) (fun q => absurd q (by decide))
  refine lv_bipush (v := 10) hx hb dX4_init_117 (by decide) ?_
  refine n_ast C hK I 3 rfl (by decide) (ws1 := [(h0, .inr (4, [.ref q1, .ref q2, .ref q3, .ref q4, .int 0, .int 40, .int 999, .int 480])), (q1, .inl (cI, 8, .inl wX4_init_q1_8)), (q2, .inl (cI, 8, .inl (fun _ => 0))), (q3, .inl (cI, 36, .inl wX4_init_q3_4)), (q4, .inl (cC, 6, .inr (.inr (.inr (.inr (fun _ => none))))))]) rfl dX4_init_119 (fun H locs I => ?_)
  refine lv_iinc (v := 4) (lv' := [(1, .int 4), (0, .ref h0)]) hx hb dX4_init_120 hl (k := 0) rfl (by decide) (by decide) rfl (fun ls hl => ?_)
  refine lv_goto (tgt := 88) hx hb dX4_init_123 (by decide) ?_
  refine lv_iload_n hx hb dX4_init_88 rfl (lv_at hl 0 rfl) ?_
  refine lv_aload_n hx hb dX4_init_89 rfl (lv_at hl 1 rfl) ?_
  refine n_get C hK I inT4 0 4 2 rfl rfl (by decide) rfl fl_X4_18 rfl dX4_init_90 ?_
  refine n_len C hK I 3 0 rfl rfl (v := 36) rfl dX4_init_93 ?_
  refine lv_icmp_ge (tgt := 126) hx hb dX4_init_94 (by decide) (fun q => absurd q (by decide)) (fun _ => ?_)
  refine lv_aload_n hx hb dX4_init_97 rfl (lv_at hl 1 rfl) ?_
  refine n_get C hK I inT4 0 4 2 rfl rfl (by decide) rfl fl_X4_18 rfl dX4_init_98 ?_
  refine lv_iload_n hx hb dX4_init_101 rfl (lv_at hl 0 rfl) ?_
  refine lv_iload_n hx hb dX4_init_102 rfl (lv_at hl 0 rfl) ?_
  refine lv_bipush (v := 6) hx hb dX4_init_103 (by decide) ?_
  refine lv_idiv hx hb dX4_init_105 (by decide) ?_
  refine W.eq (g2 := F0 m 106 ls [.int 0, .int 4, .ref q3]) (by first | rfl | decide) ?_
  refine lv_iload_n hx hb dX4_init_106 rfl (lv_at hl 0 rfl) ?_
  refine lv_bipush (v := 6) hx hb dX4_init_107 (by decide) ?_
  refine lv_irem hx hb dX4_init_109 (by decide) ?_
  refine W.eq (g2 := F0 m 110 ls [.int 4, .int 0, .int 4, .ref q3]) (by first | rfl | decide) ?_
  refine lv_icmp_ne (tgt := 117) hx hb dX4_init_110 (by decide) (fun _ => ?_) (fun q => absurd q (by decide))
  refine lv_bipush (v := 10) hx hb dX4_init_117 (by decide) ?_
  refine n_ast C hK I 3 rfl (by decide) (ws1 := [(h0, .inr (4, [.ref q1, .ref q2, .ref q3, .ref q4, .int 0, .int 40, .int 999, .int 480])), (q1, .inl (cI, 8, .inl wX4_init_q1_8)), (q2, .inl (cI, 8, .inl (fun _ => 0))), (q3, .inl (cI, 36, .inl wX4_init_q3_5)), (q4, .inl (cC, 6, .inr (.inr (.inr (.inr (fun _ => none))))))]) rfl dX4_init_119 (fun H locs I => ?_)
  refine lv_iinc (v := 5) (lv' := [(1, .int 5), (0, .ref h0)]) hx hb dX4_init_120 hl (k := 0) rfl (by decide) (by decide) rfl (fun ls hl => ?_)
  refine lv_goto (tgt := 88) hx hb dX4_init_123 (by decide) ?_
  refine lv_iload_n hx hb dX4_init_88 rfl (lv_at hl 0 rfl) ?_
  refine lv_aload_n hx hb dX4_init_89 rfl (lv_at hl 1 rfl) ?_
  refine n_get C hK I inT4 0 4 2 rfl rfl (by decide) rfl fl_X4_18 rfl dX4_init_90 ?_
  refine n_len C hK I 3 0 rfl rfl (v := 36) rfl dX4_init_93 ?_
  refine lv_icmp_ge (tgt := 126) hx hb dX4_init_94 (by decide) (fun q => absurd q (by decide)) (fun _ => ?_)
  refine lv_aload_n hx hb dX4_init_97 rfl (lv_at hl 1 rfl) ?_
  refine n_get C hK I inT4 0 4 2 rfl rfl (by decide) rfl fl_X4_18 rfl dX4_init_98 ?_
  refine lv_iload_n hx hb dX4_init_101 rfl (lv_at hl 0 rfl) ?_
  refine lv_iload_n hx hb dX4_init_102 rfl (lv_at hl 0 rfl) ?_
  refine lv_bipush (v := 6) hx hb dX4_init_103 (by decide) ?_
  refine lv_idiv hx hb dX4_init_105 (by decide) ?_
  refine W.eq (g2 := F0 m 106 ls [.int 0, .int 5, .ref q3]) (by first | rfl | decide) ?_
  refine lv_iload_n hx hb dX4_init_106 rfl (lv_at hl 0 rfl) ?_
  refine lv_bipush (v := 6) hx hb dX4_init_107 (by decide) ?_
  refine lv_irem hx hb dX4_init_109 (by decide) ?_
  refine W.eq (g2 := F0 m 110 ls [.int 5, .int 0, .int 5, .ref q3]) (by first | rfl | decide) ?_
  refine lv_icmp_ne (tgt := 117) hx hb dX4_init_110 (by decide) (fun _ => ?_) (fun q => absurd q (by decide))
  refine lv_bipush (v := 10) hx hb dX4_init_117 (by decide) ?_
  refine n_ast C hK I 3 rfl (by decide) (ws1 := [(h0, .inr (4, [.ref q1, .ref q2, .ref q3, .ref q4, .int 0, .int 40, .int 999, .int 480])), (q1, .inl (cI, 8, .inl wX4_init_q1_8)), (q2, .inl (cI, 8, .inl (fun _ => 0))), (q3, .inl (cI, 36, .inl wX4_init_q3_6)), (q4, .inl (cC, 6, .inr (.inr (.inr (.inr (fun _ => none))))))]) rfl dX4_init_119 (fun H locs I => ?_)
  refine lv_iinc (v := 6) (lv' := [(1, .int 6), (0, .ref h0)]) hx hb dX4_init_120 hl (k := 0) rfl (by decide) (by decide) rfl (fun ls hl => ?_)
  refine lv_goto (tgt := 88) hx hb dX4_init_123 (by decide) ?_
  refine lv_iload_n hx hb dX4_init_88 rfl (lv_at hl 0 rfl) ?_
  refine lv_aload_n hx hb dX4_init_89 rfl (lv_at hl 1 rfl) ?_
  refine n_get C hK I inT4 0 4 2 rfl rfl (by decide) rfl fl_X4_18 rfl dX4_init_90 ?_
  refine n_len C hK I 3 0 rfl rfl (v := 36) rfl dX4_init_93 ?_
  refine lv_icmp_ge (tgt := 126) hx hb dX4_init_94 (by decide) (fun q => absurd q (by decide)) (fun _ => ?_)
  refine lv_aload_n hx hb dX4_init_97 rfl (lv_at hl 1 rfl) ?_
  refine n_get C hK I inT4 0 4 2 rfl rfl (by decide) rfl fl_X4_18 rfl dX4_init_98 ?_
  refine lv_iload_n hx hb dX4_init_101 rfl (lv_at hl 0 rfl) ?_
  refine lv_iload_n hx hb dX4_init_102 rfl (lv_at hl 0 rfl) ?_
  refine lv_bipush (v := 6) hx hb dX4_init_103 (by decide) ?_
  refine lv_idiv hx hb dX4_init_105 (by decide) ?_
  refine W.eq (g2 := F0 m 106 ls [.int 1, .int 6, .ref q3]) (by first | rfl | decide) ?_
  refine lv_iload_n hx hb dX4_init_106 rfl (lv_at hl 0 rfl) ?_
  refine lv_bipush (v := 6) hx hb dX4_init_107 (by decide) ?_
  refine lv_irem hx hb dX4_init_109 (by decide) ?_
  refine W.eq (g2 := F0 m 110 ls [.int 0, .int 1, .int 6, .ref q3]) (by first | rfl | decide) ?_
  refine lv_icmp_ne (tgt := 117) hx hb dX4_init_110 (by decide) (fun _ => ?_) (fun q => absurd q (by decide))
  refine lv_bipush (v := 10) hx hb dX4_init_117 (by decide) ?_
  refine n_ast C hK I 3 rfl (by decide) (ws1 := [(h0, .inr (4, [.ref q1, .ref q2, .ref q3, .ref q4, .int 0, .int 40, .int 999, .int 480])), (q1, .inl (cI, 8, .inl wX4_init_q1_8)), (q2, .inl (cI, 8, .inl (fun _ => 0))), (q3, .inl (cI, 36, .inl wX4_init_q3_7)), (q4, .inl (cC, 6, .inr (.inr (.inr (.inr (fun _ => none))))))]) rfl dX4_init_119 (fun H locs I => ?_)
  refine lv_iinc (v := 7) (lv' := [(1, .int 7), (0, .ref h0)]) hx hb dX4_init_120 hl (k := 0) rfl (by decide) (by decide) rfl (fun ls hl => ?_)
  refine lv_goto (tgt := 88) hx hb dX4_init_123 (by decide) ?_
  refine lv_iload_n hx hb dX4_init_88 rfl (lv_at hl 0 rfl) ?_
  refine lv_aload_n hx hb dX4_init_89 rfl (lv_at hl 1 rfl) ?_
  refine n_get C hK I inT4 0 4 2 rfl rfl (by decide) rfl fl_X4_18 rfl dX4_init_90 ?_
  refine n_len C hK I 3 0 rfl rfl (v := 36) rfl dX4_init_93 ?_
  refine lv_icmp_ge (tgt := 126) hx hb dX4_init_94 (by decide) (fun q => absurd q (by decide)) (fun _ => ?_)
  refine lv_aload_n hx hb dX4_init_97 rfl (lv_at hl 1 rfl) ?_
  refine n_get C hK I inT4 0 4 2 rfl rfl (by decide) rfl fl_X4_18 rfl dX4_init_98 ?_
  refine lv_iload_n hx hb dX4_init_101 rfl (lv_at hl 0 rfl) ?_
  refine lv_iload_n hx hb dX4_init_102 rfl (lv_at hl 0 rfl) ?_
  refine lv_bipush (v := 6) hx hb dX4_init_103 (by decide) ?_
  refine lv_idiv hx hb dX4_init_105 (by decide) ?_
  refine W.eq (g2 := F0 m 106 ls [.int 1, .int 7, .ref q3]) (by first | rfl | decide) ?_
  refine lv_iload_n hx hb dX4_init_106 rfl (lv_at hl 0 rfl) ?_
  refine lv_bipush (v := 6) hx hb dX4_init_107 (by decide) ?_
  refine lv_irem hx hb dX4_init_109 (by decide) ?_
  refine W.eq (g2 := F0 m 110 ls [.int 1, .int 1, .int 7, .ref q3]) (by first | rfl | decide) ?_
  refine lv_icmp_ne (tgt := 117) hx hb dX4_init_110 (by decide) (fun q => absurd q (by decide)) (fun _ => ?_)
  refine lv_iconst (v := 0) hx hb dX4_init_113 (by decide) ?_
  refine lv_goto (tgt := 119) hx hb dX4_init_114 (by decide) ?_
  refine n_ast C hK I 3 rfl (by decide) (ws1 := [(h0, .inr (4, [.ref q1, .ref q2, .ref q3, .ref q4, .int 0, .int 40, .int 999, .int 480])), (q1, .inl (cI, 8, .inl wX4_init_q1_8)), (q2, .inl (cI, 8, .inl (fun _ => 0))), (q3, .inl (cI, 36, .inl wX4_init_q3_8)), (q4, .inl (cC, 6, .inr (.inr (.inr (.inr (fun _ => none))))))]) rfl dX4_init_119 (fun H locs I => ?_)
  refine lv_iinc (v := 8) (lv' := [(1, .int 8), (0, .ref h0)]) hx hb dX4_init_120 hl (k := 0) rfl (by decide) (by decide) rfl (fun ls hl => ?_)
  refine lv_goto (tgt := 88) hx hb dX4_init_123 (by decide) ?_
  refine lv_iload_n hx hb dX4_init_88 rfl (lv_at hl 0 rfl) ?_
  refine lv_aload_n hx hb dX4_init_89 rfl (lv_at hl 1 rfl) ?_
  refine n_get C hK I inT4 0 4 2 rfl rfl (by decide) rfl fl_X4_18 rfl dX4_init_90 ?_
  refine n_len C hK I 3 0 rfl rfl (v := 36) rfl dX4_init_93 ?_
  refine lv_icmp_ge (tgt := 126) hx hb dX4_init_94 (by decide) (fun q => absurd q (by decide)) (fun _ => ?_)
  refine lv_aload_n hx hb dX4_init_97 rfl (lv_at hl 1 rfl) ?_
  refine n_get C hK I inT4 0 4 2 rfl rfl (by decide) rfl fl_X4_18 rfl dX4_init_98 ?_
  refine lv_iload_n hx hb dX4_init_101 rfl (lv_at hl 0 rfl) ?_
  refine lv_iload_n hx hb dX4_init_102 rfl (lv_at hl 0 rfl) ?_
  refine lv_bipush (v := 6) hx hb dX4_init_103 (by decide) ?_
  refine lv_idiv hx hb dX4_init_105 (by decide) ?_
  refine W.eq (g2 := F0 m 106 ls [.int 1, .int 8, .ref q3]) (by first | rfl | decide) ?_
  refine lv_iload_n hx hb dX4_init_106 rfl (lv_at hl 0 rfl) ?_
  refine lv_bipush (v := 6) hx hb dX4_init_107 (by decide) ?_
  refine lv_irem hx hb dX4_init_109 (by decide) ?_
  refine W.eq (g2 := F0 m 110 ls [.int 2, .int 1, .int 8, .ref q3]) (by first | rfl | decide) ?_
  refine lv_icmp_ne (tgt := 117) hx hb dX4_init_110 (by decide) (fun _ => ?_) (fun q => absurd q (by decide))
  refine lv_bipush (v := 10) hx hb dX4_init_117 (by decide) ?_
  refine n_ast C hK I 3 rfl (by decide) (ws1 := [(h0, .inr (4, [.ref q1, .ref q2, .ref q3, .ref q4, .int 0, .int 40, .int 999, .int 480])), (q1, .inl (cI, 8, .inl wX4_init_q1_8)), (q2, .inl (cI, 8, .inl (fun _ => 0))), (q3, .inl (cI, 36, .inl wX4_init_q3_9)), (q4, .inl (cC, 6, .inr (.inr (.inr (.inr (fun _ => none))))))]) rfl dX4_init_119 (fun H locs I => ?_)
  refine lv_iinc (v := 9) (lv' := [(1, .int 9), (0, .ref h0)]) hx hb dX4_init_120 hl (k := 0) rfl (by decide) (by decide) rfl (fun ls hl => ?_)
  refine lv_goto (tgt := 88) hx hb dX4_init_123 (by decide) ?_
  refine lv_iload_n hx hb dX4_init_88 rfl (lv_at hl 0 rfl) ?_
  refine lv_aload_n hx hb dX4_init_89 rfl (lv_at hl 1 rfl) ?_
  refine n_get C hK I inT4 0 4 2 rfl rfl (by decide) rfl fl_X4_18 rfl dX4_init_90 ?_
  refine n_len C hK I 3 0 rfl rfl (v := 36) rfl dX4_init_93 ?_
  refine lv_icmp_ge (tgt := 126) hx hb dX4_init_94 (by decide) (fun q => absurd q (by decide)) (fun _ => ?_)
  refine lv_aload_n hx hb dX4_init_97 rfl (lv_at hl 1 rfl) ?_
  refine n_get C hK I inT4 0 4 2 rfl rfl (by decide) rfl fl_X4_18 rfl dX4_init_98 ?_
  refine lv_iload_n hx hb dX4_init_101 rfl (lv_at hl 0 rfl) ?_
  refine lv_iload_n hx hb dX4_init_102 rfl (lv_at hl 0 rfl) ?_
  refine lv_bipush (v := 6) hx hb dX4_init_103 (by decide) ?_
  refine lv_idiv hx hb dX4_init_105 (by decide) ?_
  refine W.eq (g2 := F0 m 106 ls [.int 1, .int 9, .ref q3]) (by first | rfl | decide) ?_
  refine lv_iload_n hx hb dX4_init_106 rfl (lv_at hl 0 rfl) ?_
  refine lv_bipush (v := 6) hx hb dX4_init_107 (by decide) ?_
  refine lv_irem hx hb dX4_init_109 (by decide) ?_
  refine W.eq (g2 := F0 m 110 ls [.int 3, .int 1, .int 9, .ref q3]) (by first | rfl | decide) ?_
  refine lv_icmp_ne (tgt := 117) hx hb dX4_init_110 (by decide) (fun _ => ?_) (fun q => absurd q (by decide))
  refine lv_bipush (v := 10) hx hb dX4_init_117 (by decide) ?_
  refine n_ast C hK I 3 rfl (by decide) (ws1 := [(h0, .inr (4, [.ref q1, .ref q2, .ref q3, .ref q4, .int 0, .int 40, .int 999, .int 480])), (q1, .inl (cI, 8, .inl wX4_init_q1_8)), (q2, .inl (cI, 8, .inl (fun _ => 0))), (q3, .inl (cI, 36, .inl wX4_init_q3_10)), (q4, .inl (cC, 6, .inr (.inr (.inr (.inr (fun _ => none))))))]) rfl dX4_init_119 (fun H locs I => ?_)
  refine lv_iinc (v := 10) (lv' := [(1, .int 10), (0, .ref h0)]) hx hb dX4_init_120 hl (k := 0) rfl (by decide) (by decide) rfl (fun ls hl => ?_)
  refine lv_goto (tgt := 88) hx hb dX4_init_123 (by decide) ?_
  refine lv_iload_n hx hb dX4_init_88 rfl (lv_at hl 0 rfl) ?_
  refine lv_aload_n hx hb dX4_init_89 rfl (lv_at hl 1 rfl) ?_
  refine n_get C hK I inT4 0 4 2 rfl rfl (by decide) rfl fl_X4_18 rfl dX4_init_90 ?_
  refine n_len C hK I 3 0 rfl rfl (v := 36) rfl dX4_init_93 ?_
  refine lv_icmp_ge (tgt := 126) hx hb dX4_init_94 (by decide) (fun q => absurd q (by decide)) (fun _ => ?_)
  refine lv_aload_n hx hb dX4_init_97 rfl (lv_at hl 1 rfl) ?_
  refine n_get C hK I inT4 0 4 2 rfl rfl (by decide) rfl fl_X4_18 rfl dX4_init_98 ?_
  refine lv_iload_n hx hb dX4_init_101 rfl (lv_at hl 0 rfl) ?_
  refine lv_iload_n hx hb dX4_init_102 rfl (lv_at hl 0 rfl) ?_
  refine lv_bipush (v := 6) hx hb dX4_init_103 (by decide) ?_
  refine lv_idiv hx hb dX4_init_105 (by decide) ?_
  refine W.eq (g2 := F0 m 106 ls [.int 1, .int 10, .ref q3]) (by first | rfl | decide) ?_
  refine lv_iload_n hx hb dX4_init_106 rfl (lv_at hl 0 rfl) ?_
  refine lv_bipush (v := 6) hx hb dX4_init_107 (by decide) ?_
  refine lv_irem hx hb dX4_init_109 (by decide) ?_
  refine W.eq (g2 := F0 m 110 ls [.int 4, .int 1, .int 10, .ref q3]) (by first | rfl | decide) ?_
  refine lv_icmp_ne (tgt := 117) hx hb dX4_init_110 (by decide) (fun _ => ?_) (fun q => absurd q (by decide))
  refine lv_bipush (v := 10) hx hb dX4_init_117 (by decide) ?_
  refine n_ast C hK I 3 rfl (by decide) (ws1 := [(h0, .inr (4, [.ref q1, .ref q2, .ref q3, .ref q4, .int 0, .int 40, .int 999, .int 480])), (q1, .inl (cI, 8, .inl wX4_init_q1_8)), (q2, .inl (cI, 8, .inl (fun _ => 0))), (q3, .inl (cI, 36, .inl wX4_init_q3_11)), (q4, .inl (cC, 6, .inr (.inr (.inr (.inr (fun _ => none))))))]) rfl dX4_init_119 (fun H locs I => ?_)
  refine lv_iinc (v := 11) (lv' := [(1, .int 11), (0, .ref h0)]) hx hb dX4_init_120 hl (k := 0) rfl (by decide) (by decide) rfl (fun ls hl => ?_)
  refine lv_goto (tgt := 88) hx hb dX4_init_123 (by decide) ?_
  refine lv_iload_n hx hb dX4_init_88 rfl (lv_at hl 0 rfl) ?_
  refine lv_aload_n hx hb dX4_init_89 rfl (lv_at hl 1 rfl) ?_
  refine n_get C hK I inT4 0 4 2 rfl rfl (by decide) rfl fl_X4_18 rfl dX4_init_90 ?_
  refine n_len C hK I 3 0 rfl rfl (v := 36) rfl dX4_init_93 ?_
  refine lv_icmp_ge (tgt := 126) hx hb dX4_init_94 (by decide) (fun q => absurd q (by decide)) (fun _ => ?_)
  refine lv_aload_n hx hb dX4_init_97 rfl (lv_at hl 1 rfl) ?_
  refine n_get C hK I inT4 0 4 2 rfl rfl (by decide) rfl fl_X4_18 rfl dX4_init_98 ?_
  refine lv_iload_n hx hb dX4_init_101 rfl (lv_at hl 0 rfl) ?_
  refine lv_iload_n hx hb dX4_init_102 rfl (lv_at hl 0 rfl) ?_
  refine lv_bipush (v := 6) hx hb dX4_init_103 (by decide) ?_
  refine lv_idiv hx hb dX4_init_105 (by decide) ?_
  refine W.eq (g2 := F0 m 106 ls [.int 1, .int 11, .ref q3]) (by first | rfl | decide) ?_
  refine lv_iload_n hx hb dX4_init_106 rfl (lv_at hl 0 rfl) ?_
  refine lv_bipush (v := 6) hx hb dX4_init_107 (by decide) ?_
  refine lv_irem hx hb dX4_init_109 (by decide) ?_
  refine W.eq (g2 := F0 m 110 ls [.int 5, .int 1, .int 11, .ref q3]) (by first | rfl | decide) ?_
  refine lv_icmp_ne (tgt := 117) hx hb dX4_init_110 (by decide) (fun _ => ?_) (fun q => absurd q (by decide))
  refine lv_bipush (v := 10) hx hb dX4_init_117 (by decide) ?_
  refine n_ast C hK I 3 rfl (by decide) (ws1 := [(h0, .inr (4, [.ref q1, .ref q2, .ref q3, .ref q4, .int 0, .int 40, .int 999, .int 480])), (q1, .inl (cI, 8, .inl wX4_init_q1_8)), (q2, .inl (cI, 8, .inl (fun _ => 0))), (q3, .inl (cI, 36, .inl wX4_init_q3_12)), (q4, .inl (cC, 6, .inr (.inr (.inr (.inr (fun _ => none))))))]) rfl dX4_init_119 (fun H locs I => ?_)
  refine lv_iinc (v := 12) (lv' := [(1, .int 12), (0, .ref h0)]) hx hb dX4_init_120 hl (k := 0) rfl (by decide) (by decide) rfl (fun ls hl => ?_)
  refine lv_goto (tgt := 88) hx hb dX4_init_123 (by decide) ?_
  refine lv_iload_n hx hb dX4_init_88 rfl (lv_at hl 0 rfl) ?_
  refine lv_aload_n hx hb dX4_init_89 rfl (lv_at hl 1 rfl) ?_
  refine n_get C hK I inT4 0 4 2 rfl rfl (by decide) rfl fl_X4_18 rfl dX4_init_90 ?_
  refine n_len C hK I 3 0 rfl rfl (v := 36) rfl dX4_init_93 ?_
  refine lv_icmp_ge (tgt := 126) hx hb dX4_init_94 (by decide) (fun q => absurd q (by decide)) (fun _ => ?_)
  refine lv_aload_n hx hb dX4_init_97 rfl (lv_at hl 1 rfl) ?_
  refine n_get C hK I inT4 0 4 2 rfl rfl (by decide) rfl fl_X4_18 rfl dX4_init_98 ?_
  refine lv_iload_n hx hb dX4_init_101 rfl (lv_at hl 0 rfl) ?_
  refine lv_iload_n hx hb dX4_init_102 rfl (lv_at hl 0 rfl) ?_
  refine lv_bipush (v := 6) hx hb dX4_init_103 (by decide) ?_
  refine lv_idiv hx hb dX4_init_105 (by decide) ?_
  refine W.eq (g2 := F0 m 106 ls [.int 2, .int 12, .ref q3]) (by first | rfl | decide) ?_
  refine lv_iload_n hx hb dX4_init_106 rfl (lv_at hl 0 rfl) ?_
  refine lv_bipush (v := 6) hx hb dX4_init_107 (by decide) ?_
  refine lv_irem hx hb dX4_init_109 (by decide) ?_
  refine W.eq (g2 := F0 m 110 ls [.int 0, .int 2, .int 12, .ref q3]) (by first | rfl | decide) ?_
  refine lv_icmp_ne (tgt := 117) hx hb dX4_init_110 (by decide) (fun _ => ?_) (fun q => absurd q (by decide))
  refine lv_bipush (v := 10) hx hb dX4_init_117 (by decide) ?_
  refine n_ast C hK I 3 rfl (by decide) (ws1 := [(h0, .inr (4, [.ref q1, .ref q2, .ref q3, .ref q4, .int 0, .int 40, .int 999, .int 480])), (q1, .inl (cI, 8, .inl wX4_init_q1_8)), (q2, .inl (cI, 8, .inl (fun _ => 0))), (q3, .inl (cI, 36, .inl wX4_init_q3_13)), (q4, .inl (cC, 6, .inr (.inr (.inr (.inr (fun _ => none))))))]) rfl dX4_init_119 (fun H locs I => ?_)
  refine lv_iinc (v := 13) (lv' := [(1, .int 13), (0, .ref h0)]) hx hb dX4_init_120 hl (k := 0) rfl (by decide) (by decide) rfl (fun ls hl => ?_)
  refine lv_goto (tgt := 88) hx hb dX4_init_123 (by decide) ?_
  refine lv_iload_n hx hb dX4_init_88 rfl (lv_at hl 0 rfl) ?_
  refine lv_aload_n hx hb dX4_init_89 rfl (lv_at hl 1 rfl) ?_
  refine n_get C hK I inT4 0 4 2 rfl rfl (by decide) rfl fl_X4_18 rfl dX4_init_90 ?_
  refine n_len C hK I 3 0 rfl rfl (v := 36) rfl dX4_init_93 ?_
  refine lv_icmp_ge (tgt := 126) hx hb dX4_init_94 (by decide) (fun q => absurd q (by decide)) (fun _ => ?_)
  refine lv_aload_n hx hb dX4_init_97 rfl (lv_at hl 1 rfl) ?_
  refine n_get C hK I inT4 0 4 2 rfl rfl (by decide) rfl fl_X4_18 rfl dX4_init_98 ?_
  refine lv_iload_n hx hb dX4_init_101 rfl (lv_at hl 0 rfl) ?_
  refine lv_iload_n hx hb dX4_init_102 rfl (lv_at hl 0 rfl) ?_
  refine lv_bipush (v := 6) hx hb dX4_init_103 (by decide) ?_
  refine lv_idiv hx hb dX4_init_105 (by decide) ?_
  refine W.eq (g2 := F0 m 106 ls [.int 2, .int 13, .ref q3]) (by first | rfl | decide) ?_
  refine lv_iload_n hx hb dX4_init_106 rfl (lv_at hl 0 rfl) ?_
  refine lv_bipush (v := 6) hx hb dX4_init_107 (by decide) ?_
  refine lv_irem hx hb dX4_init_109 (by decide) ?_
  refine W.eq (g2 := F0 m 110 ls [.int 1, .int 2, .int 13, .ref q3]) (by first | rfl | decide) ?_
  refine lv_icmp_ne (tgt := 117) hx hb dX4_init_110 (by decide) (fun _ => ?_) (fun q => absurd q (by decide))
  refine lv_bipush (v := 10) hx hb dX4_init_117 (by decide) ?_
  refine n_ast C hK I 3 rfl (by decide) (ws1 := [(h0, .inr (4, [.ref q1, .ref q2, .ref q3, .ref q4, .int 0, .int 40, .int 999, .int 480])), (q1, .inl (cI, 8, .inl wX4_init_q1_8)), (q2, .inl (cI, 8, .inl (fun _ => 0))), (q3, .inl (cI, 36, .inl wX4_init_q3_14)), (q4, .inl (cC, 6, .inr (.inr (.inr (.inr (fun _ => none))))))]) rfl dX4_init_119 (fun H locs I => ?_)
  refine lv_iinc (v := 14) (lv' := [(1, .int 14), (0, .ref h0)]) hx hb dX4_init_120 hl (k := 0) rfl (by decide) (by decide) rfl (fun ls hl => ?_)
  refine lv_goto (tgt := 88) hx hb dX4_init_123 (by decide) ?_
  refine lv_iload_n hx hb dX4_init_88 rfl (lv_at hl 0 rfl) ?_
  refine lv_aload_n hx hb dX4_init_89 rfl (lv_at hl 1 rfl) ?_
  refine n_get C hK I inT4 0 4 2 rfl rfl (by decide) rfl fl_X4_18 rfl dX4_init_90 ?_
  refine n_len C hK I 3 0 rfl rfl (v := 36) rfl dX4_init_93 ?_
  refine lv_icmp_ge (tgt := 126) hx hb dX4_init_94 (by decide) (fun q => absurd q (by decide)) (fun _ => ?_)
  refine lv_aload_n hx hb dX4_init_97 rfl (lv_at hl 1 rfl) ?_
  refine n_get C hK I inT4 0 4 2 rfl rfl (by decide) rfl fl_X4_18 rfl dX4_init_98 ?_
  refine lv_iload_n hx hb dX4_init_101 rfl (lv_at hl 0 rfl) ?_
  refine lv_iload_n hx hb dX4_init_102 rfl (lv_at hl 0 rfl) ?_
  refine lv_bipush (v := 6) hx hb dX4_init_103 (by decide) ?_
  refine lv_idiv hx hb dX4_init_105 (by decide) ?_
  refine W.eq (g2 := F0 m 106 ls [.int 2, .int 14, .ref q3]) (by first | rfl | decide) ?_
  refine lv_iload_n hx hb dX4_init_106 rfl (lv_at hl 0 rfl) ?_
  refine lv_bipush (v := 6) hx hb dX4_init_107 (by decide) ?_
  refine lv_irem hx hb dX4_init_109 (by decide) ?_
  refine W.eq (g2 := F0 m 110 ls [.int 2, .int 2, .int 14, .ref q3]) (by first | rfl | decide) ?_
  refine lv_icmp_ne (tgt := 117) hx hb dX4_init_110 (by decide) (fun q => absurd q (by decide)) (fun _ => ?_)
  refine lv_iconst (v := 0) hx hb dX4_init_113 (by decide) ?_
  refine lv_goto (tgt := 119) hx hb dX4_init_114 (by decide) ?_
  refine n_ast C hK I 3 rfl (by decide) (ws1 := [(h0, .inr (4, [.ref q1, .ref q2, .ref q3, .ref q4, .int 0, .int 40, .int 999, .int 480])), (q1, .inl (cI, 8, .inl wX4_init_q1_8)), (q2, .inl (cI, 8, .inl (fun _ => 0))), (q3, .inl (cI, 36, .inl wX4_init_q3_15)), (q4, .inl (cC, 6, .inr (.inr (.inr (.inr (fun _ => none))))))]) rfl dX4_init_119 (fun H locs I => ?_)
  refine lv_iinc (v := 15) (lv' := [(1, .int 15), (0, .ref h0)]) hx hb dX4_init_120 hl (k := 0) rfl (by decide) (by decide) rfl (fun ls hl => ?_)
  refine lv_goto (tgt := 88) hx hb dX4_init_123 (by decide) ?_
  refine lv_iload_n hx hb dX4_init_88 rfl (lv_at hl 0 rfl) ?_
  refine lv_aload_n hx hb dX4_init_89 rfl (lv_at hl 1 rfl) ?_
  refine n_get C hK I inT4 0 4 2 rfl rfl (by decide) rfl fl_X4_18 rfl dX4_init_90 ?_
  refine n_len C hK I 3 0 rfl rfl (v := 36) rfl dX4_init_93 ?_
  refine lv_icmp_ge (tgt := 126) hx hb dX4_init_94 (by decide) (fun q => absurd q (by decide)) (fun _ => ?_)
  refine lv_aload_n hx hb dX4_init_97 rfl (lv_at hl 1 rfl) ?_
  refine n_get C hK I inT4 0 4 2 rfl rfl (by decide) rfl fl_X4_18 rfl dX4_init_98 ?_
  refine lv_iload_n hx hb dX4_init_101 rfl (lv_at hl 0 rfl) ?_
  refine lv_iload_n hx hb dX4_init_102 rfl (lv_at hl 0 rfl) ?_
  refine lv_bipush (v := 6) hx hb dX4_init_103 (by decide) ?_
  refine lv_idiv hx hb dX4_init_105 (by decide) ?_
  refine W.eq (g2 := F0 m 106 ls [.int 2, .int 15, .ref q3]) (by first | rfl | decide) ?_
  refine lv_iload_n hx hb dX4_init_106 rfl (lv_at hl 0 rfl) ?_
  refine lv_bipush (v := 6) hx hb dX4_init_107 (by decide) ?_
  refine lv_irem hx hb dX4_init_109 (by decide) ?_
  refine W.eq (g2 := F0 m 110 ls [.int 3, .int 2, .int 15, .ref q3]) (by first | rfl | decide) ?_
  refine lv_icmp_ne (tgt := 117) hx hb dX4_init_110 (by decide) (fun _ => ?_) (fun q => absurd q (by decide))
  refine lv_bipush (v := 10) hx hb dX4_init_117 (by decide) ?_
  refine n_ast C hK I 3 rfl (by decide) (ws1 := [(h0, .inr (4, [.ref q1, .ref q2, .ref q3, .ref q4, .int 0, .int 40, .int 999, .int 480])), (q1, .inl (cI, 8, .inl wX4_init_q1_8)), (q2, .inl (cI, 8, .inl (fun _ => 0))), (q3, .inl (cI, 36, .inl wX4_init_q3_16)), (q4, .inl (cC, 6, .inr (.inr (.inr (.inr (fun _ => none))))))]) rfl dX4_init_119 (fun H locs I => ?_)
  refine lv_iinc (v := 16) (lv' := [(1, .int 16), (0, .ref h0)]) hx hb dX4_init_120 hl (k := 0) rfl (by decide) (by decide) rfl (fun ls hl => ?_)
  refine lv_goto (tgt := 88) hx hb dX4_init_123 (by decide) ?_
  refine lv_iload_n hx hb dX4_init_88 rfl (lv_at hl 0 rfl) ?_
  refine lv_aload_n hx hb dX4_init_89 rfl (lv_at hl 1 rfl) ?_
  refine n_get C hK I inT4 0 4 2 rfl rfl (by decide) rfl fl_X4_18 rfl dX4_init_90 ?_
  refine n_len C hK I 3 0 rfl rfl (v := 36) rfl dX4_init_93 ?_
  refine lv_icmp_ge (tgt := 126) hx hb dX4_init_94 (by decide) (fun q => absurd q (by decide)) (fun _ => ?_)
  refine lv_aload_n hx hb dX4_init_97 rfl (lv_at hl 1 rfl) ?_
  refine n_get C hK I inT4 0 4 2 rfl rfl (by decide) rfl fl_X4_18 rfl dX4_init_98 ?_
  refine lv_iload_n hx hb dX4_init_101 rfl (lv_at hl 0 rfl) ?_
  refine lv_iload_n hx hb dX4_init_102 rfl (lv_at hl 0 rfl) ?_
  refine lv_bipush (v := 6) hx hb dX4_init_103 (by decide) ?_
  refine lv_idiv hx hb dX4_init_105 (by decide) ?_
  refine W.eq (g2 := F0 m 106 ls [.int 2, .int 16, .ref q3]) (by first | rfl | decide) ?_
  refine lv_iload_n hx hb dX4_init_106 rfl (lv_at hl 0 rfl) ?_
  refine lv_bipush (v := 6) hx hb dX4_init_107 (by decide) ?_
  refine lv_irem hx hb dX4_init_109 (by decide) ?_
  refine W.eq (g2 := F0 m 110 ls [.int 4, .int 2, .int 16, .ref q3]) (by first | rfl | decide) ?_
  refine lv_icmp_ne (tgt := 117) hx hb dX4_init_110 (by decide) (fun _ => ?_) (fun q => absurd q (by decide))
  refine lv_bipush (v := 10) hx hb dX4_init_117 (by decide) ?_
  refine n_ast C hK I 3 rfl (by decide) (ws1 := [(h0, .inr (4, [.ref q1, .ref q2, .ref q3, .ref q4, .int 0, .int 40, .int 999, .int 480])), (q1, .inl (cI, 8, .inl wX4_init_q1_8)), (q2, .inl (cI, 8, .inl (fun _ => 0))), (q3, .inl (cI, 36, .inl wX4_init_q3_17)), (q4, .inl (cC, 6, .inr (.inr (.inr (.inr (fun _ => none))))))]) rfl dX4_init_119 (fun H locs I => ?_)
  refine lv_iinc (v := 17) (lv' := [(1, .int 17), (0, .ref h0)]) hx hb dX4_init_120 hl (k := 0) rfl (by decide) (by decide) rfl (fun ls hl => ?_)
  refine lv_goto (tgt := 88) hx hb dX4_init_123 (by decide) ?_
  refine lv_iload_n hx hb dX4_init_88 rfl (lv_at hl 0 rfl) ?_
  refine lv_aload_n hx hb dX4_init_89 rfl (lv_at hl 1 rfl) ?_
  refine n_get C hK I inT4 0 4 2 rfl rfl (by decide) rfl fl_X4_18 rfl dX4_init_90 ?_
  refine n_len C hK I 3 0 rfl rfl (v := 36) rfl dX4_init_93 ?_
  refine lv_icmp_ge (tgt := 126) hx hb dX4_init_94 (by decide) (fun q => absurd q (by decide)) (fun _ => ?_)
  refine lv_aload_n hx hb dX4_init_97 rfl (lv_at hl 1 rfl) ?_
  refine n_get C hK I inT4 0 4 2 rfl rfl (by decide) rfl fl_X4_18 rfl dX4_init_98 ?_
  refine lv_iload_n hx hb dX4_init_101 rfl (lv_at hl 0 rfl) ?_
  refine lv_iload_n hx hb dX4_init_102 rfl (lv_at hl 0 rfl) ?_
  refine lv_bipush (v := 6) hx hb dX4_init_103 (by decide) ?_
  refine lv_idiv hx hb dX4_init_105 (by decide) ?_
  refine W.eq (g2 := F0 m 106 ls [.int 2, .int 17, .ref q3]) (by first | rfl | decide) ?_
  refine lv_iload_n hx hb dX4_init_106 rfl (lv_at hl 0 rfl) ?_
  refine lv_bipush (v := 6) hx hb dX4_init_107 (by decide) ?_
  refine lv_irem hx hb dX4_init_109 (by decide) ?_
  refine W.eq (g2 := F0 m 110 ls [.int 5, .int 2, .int 17, .ref q3]) (by first | rfl | decide) ?_
  refine lv_icmp_ne (tgt := 117) hx hb dX4_init_110 (by decide) (fun _ => ?_) (fun q => absurd q (by decide))
  refine lv_bipush (v := 10) hx hb dX4_init_117 (by decide) ?_
  refine n_ast C hK I 3 rfl (by decide) (ws1 := [(h0, .inr (4, [.ref q1, .ref q2, .ref q3, .ref q4, .int 0, .int 40, .int 999, .int 480])), (q1, .inl (cI, 8, .inl wX4_init_q1_8)), (q2, .inl (cI, 8, .inl (fun _ => 0))), (q3, .inl (cI, 36, .inl wX4_init_q3_18)), (q4, .inl (cC, 6, .inr (.inr (.inr (.inr (fun _ => none))))))]) rfl dX4_init_119 (fun H locs I => ?_)
  refine lv_iinc (v := 18) (lv' := [(1, .int 18), (0, .ref h0)]) hx hb dX4_init_120 hl (k := 0) rfl (by decide) (by decide) rfl (fun ls hl => ?_)
  refine lv_goto (tgt := 88) hx hb dX4_init_123 (by decide) ?_
  refine lv_iload_n hx hb dX4_init_88 rfl (lv_at hl 0 rfl) ?_
  refine lv_aload_n hx hb dX4_init_89 rfl (lv_at hl 1 rfl) ?_
  refine n_get C hK I inT4 0 4 2 rfl rfl (by decide) rfl fl_X4_18 rfl dX4_init_90 ?_
  refine n_len C hK I 3 0 rfl rfl (v := 36) rfl dX4_init_93 ?_
  refine lv_icmp_ge (tgt := 126) hx hb dX4_init_94 (by decide) (fun q => absurd q (by decide)) (fun _ => ?_)
  refine lv_aload_n hx hb dX4_init_97 rfl (lv_at hl 1 rfl) ?_
  refine n_get C hK I inT4 0 4 2 rfl rfl (by decide) rfl fl_X4_18 rfl dX4_init_98 ?_
  refine lv_iload_n hx hb dX4_init_101 rfl (lv_at hl 0 rfl) ?_
  refine lv_iload_n hx hb dX4_init_102 rfl (lv_at hl 0 rfl) ?_
  refine lv_bipush (v := 6) hx hb dX4_init_103 (by decide) ?_
  refine lv_idiv hx hb dX4_init_105 (by decide) ?_
  refine W.eq (g2 := F0 m 106 ls [.int 3, .int 18, .ref q3]) (by first | rfl | decide) ?_
  refine lv_iload_n hx hb dX4_init_106 rfl (lv_at hl 0 rfl) ?_
  refine lv_bipush (v := 6) hx hb dX4_init_107 (by decide) ?_
  refine lv_irem hx hb dX4_init_109 (by decide) ?_
  refine W.eq (g2 := F0 m 110 ls [.int 0, .int 3, .int 18, .ref q3]) (by first | rfl | decide) ?_
  refine lv_icmp_ne (tgt := 117) hx hb dX4_init_110 (by decide) (fun _ => ?_) (fun q => absurd q (by decide))
  refine lv_bipush (v := 10) hx hb dX4_init_117 (by decide) ?_
  refine n_ast C hK I 3 rfl (by decide) (ws1 := [(h0, .inr (4, [.ref q1, .ref q2, .ref q3, .ref q4, .int 0, .int 40, .int 999, .int 480])), (q1, .inl (cI, 8, .inl wX4_init_q1_8)), (q2, .inl (cI, 8, .inl (fun _ => 0))), (q3, .inl (cI, 36, .inl wX4_init_q3_19)), (q4, .inl (cC, 6, .inr (.inr (.inr (.inr (fun _ => none))))))]) rfl dX4_init_119 (fun H locs I => ?_)
  refine lv_iinc (v := 19) (lv' := [(1, .int 19), (0, .ref h0)]) hx hb dX4_init_120 hl (k := 0) rfl (by decide) (by decide) rfl (fun ls hl => ?_)
  refine lv_goto (tgt := 88) hx hb dX4_init_123 (by decide) ?_
  refine lv_iload_n hx hb dX4_init_88 rfl (lv_at hl 0 rfl) ?_
  refine lv_aload_n hx hb dX4_init_89 rfl (lv_at hl 1 rfl) ?_
  refine n_get C hK I inT4 0 4 2 rfl rfl (by decide) rfl fl_X4_18 rfl dX4_init_90 ?_
  refine n_len C hK I 3 0 rfl rfl (v := 36) rfl dX4_init_93 ?_
  refine lv_icmp_ge (tgt := 126) hx hb dX4_init_94 (by decide) (fun q => absurd q (by decide)) (fun _ => ?_)
  refine lv_aload_n hx hb dX4_init_97 rfl (lv_at hl 1 rfl) ?_
  refine n_get C hK I inT4 0 4 2 rfl rfl (by decide) rfl fl_X4_18 rfl dX4_init_98 ?_
  refine lv_iload_n hx hb dX4_init_101 rfl (lv_at hl 0 rfl) ?_
  refine lv_iload_n hx hb dX4_init_102 rfl (lv_at hl 0 rfl) ?_
  refine lv_bipush (v := 6) hx hb dX4_init_103 (by decide) ?_
  refine lv_idiv hx hb dX4_init_105 (by decide) ?_
  refine W.eq (g2 := F0 m 106 ls [.int 3, .int 19, .ref q3]) (by first | rfl | decide) ?_
  refine lv_iload_n hx hb dX4_init_106 rfl (lv_at hl 0 rfl) ?_
  refine lv_bipush (v := 6) hx hb dX4_init_107 (by decide) ?_
  refine lv_irem hx hb dX4_init_109 (by decide) ?_
  refine W.eq (g2 := F0 m 110 ls [.int 1, .int 3, .int 19, .ref q3]) (by first | rfl | decide) ?_
  refine lv_icmp_ne (tgt := 117) hx hb dX4_init_110 (by decide) (fun _ => ?_) (fun q => absurd q (by decide))
  refine lv_bipush (v := 10) hx hb dX4_init_117 (by decide) ?_
  refine n_ast C hK I 3 rfl (by decide) (ws1 := [(h0, .inr (4, [.ref q1, .ref q2, .ref q3, .ref q4, .int 0, .int 40, .int 999, .int 480])), (q1, .inl (cI, 8, .inl wX4_init_q1_8)), (q2, .inl (cI, 8, .inl (fun _ => 0))), (q3, .inl (cI, 36, .inl wX4_init_q3_20)), (q4, .inl (cC, 6, .inr (.inr (.inr (.inr (fun _ => none))))))]) rfl dX4_init_119 (fun H locs I => ?_)
  refine lv_iinc (v := 20) (lv' := [(1, .int 20), (0, .ref h0)]) hx hb dX4_init_120 hl (k := 0) rfl (by decide) (by decide) rfl (fun ls hl => ?_)
  refine lv_goto (tgt := 88) hx hb dX4_init_123 (by decide) ?_
  refine lv_iload_n hx hb dX4_init_88 rfl (lv_at hl 0 rfl) ?_
  refine lv_aload_n hx hb dX4_init_89 rfl (lv_at hl 1 rfl) ?_
  refine n_get C hK I inT4 0 4 2 rfl rfl (by decide) rfl fl_X4_18 rfl dX4_init_90 ?_
  refine n_len C hK I 3 0 rfl rfl (v := 36) rfl dX4_init_93 ?_
  refine lv_icmp_ge (tgt := 126) hx hb dX4_init_94 (by decide) (fun q => absurd q (by decide)) (fun _ => ?_)
  refine lv_aload_n hx hb dX4_init_97 rfl (lv_at hl 1 rfl) ?_
  refine n_get C hK I inT4 0 4 2 rfl rfl (by decide) rfl fl_X4_18 rfl dX4_init_98 ?_
  refine lv_iload_n hx hb dX4_init_101 rfl (lv_at hl 0 rfl) ?_
  refine lv_iload_n hx hb dX4_init_102 rfl (lv_at hl 0 rfl) ?_
  refine lv_bipush (v := 6) hx hb dX4_init_103 (by decide) ?_
  refine lv_idiv hx hb dX4_init_105 (by decide) ?_
  refine W.eq (g2 := F0 m 106 ls [.int 3, .int 20, .ref q3]) (by first | rfl | decide) ?_
  refine lv_iload_n hx hb dX4_init_106 rfl (lv_at hl 0 rfl) ?_
  refine lv_bipush (v := 6) hx hb dX4_init_107 (by decide) ?_
  refine lv_irem hx hb dX4_init_109 (by decide) ?_
  refine W.eq (g2 := F0 m 110 ls [.int 2, .int 3, .int 20, .ref q3]) (by first | rfl | decide) ?_
  refine lv_icmp_ne (tgt := 117) hx hb dX4_init_110 (by decide) (fun _ => ?_) (fun q => absurd q (by decide))
  refine lv_bipush (v := 10) hx hb dX4_init_117 (by decide) ?_
  refine n_ast C hK I 3 rfl (by decide) (ws1 := [(h0, .inr (4, [.ref q1, .ref q2, .ref q3, .ref q4, .int 0, .int 40, .int 999, .int 480])), (q1, .inl (cI, 8, .inl wX4_init_q1_8)), (q2, .inl (cI, 8, .inl (fun _ => 0))), (q3, .inl (cI, 36, .inl wX4_init_q3_21)), (q4, .inl (cC, 6, .inr (.inr (.inr (.inr (fun _ => none))))))]) rfl dX4_init_119 (fun H locs I => ?_)
  refine lv_iinc (v := 21) (lv' := [(1, .int 21), (0, .ref h0)]) hx hb dX4_init_120 hl (k := 0) rfl (by decide) (by decide) rfl (fun ls hl => ?_)
  refine lv_goto (tgt := 88) hx hb dX4_init_123 (by decide) ?_
  refine lv_iload_n hx hb dX4_init_88 rfl (lv_at hl 0 rfl) ?_
  refine lv_aload_n hx hb dX4_init_89 rfl (lv_at hl 1 rfl) ?_
  refine n_get C hK I inT4 0 4 2 rfl rfl (by decide) rfl fl_X4_18 rfl dX4_init_90 ?_
  refine n_len C hK I 3 0 rfl rfl (v := 36) rfl dX4_init_93 ?_
  refine lv_icmp_ge (tgt := 126) hx hb dX4_init_94 (by decide) (fun q => absurd q (by decide)) (fun _ => ?_)
  refine lv_aload_n hx hb dX4_init_97 rfl (lv_at hl 1 rfl) ?_
  refine n_get C hK I inT4 0 4 2 rfl rfl (by decide) rfl fl_X4_18 rfl dX4_init_98 ?_
  refine lv_iload_n hx hb dX4_init_101 rfl (lv_at hl 0 rfl) ?_
  refine lv_iload_n hx hb dX4_init_102 rfl (lv_at hl 0 rfl) ?_
  refine lv_bipush (v := 6) hx hb dX4_init_103 (by decide) ?_
  refine lv_idiv hx hb dX4_init_105 (by decide) ?_
  refine W.eq (g2 := F0 m 106 ls [.int 3, .int 21, .ref q3]) (by first | rfl | decide) ?_
  refine lv_iload_n hx hb dX4_init_106 rfl (lv_at hl 0 rfl) ?_
  refine lv_bipush (v := 6) hx hb dX4_init_107 (by decide) ?_
  refine lv_irem hx hb dX4_init_109 (by decide) ?_
  refine W.eq (g2 := F0 m 110 ls [.int 3, .int 3, .int 21, .ref q3]) (by first | rfl | decide) ?_
  refine lv_icmp_ne (tgt := 117) hx hb dX4_init_110 (by decide) (fun q => absurd q (by decide)) (fun _ => ?_)
  refine lv_iconst (v := 0) hx hb dX4_init_113 (by decide) ?_
  refine lv_goto (tgt := 119) hx hb dX4_init_114 (by decide) ?_
  refine n_ast C hK I 3 rfl (by decide) (ws1 := [(h0, .inr (4, [.ref q1, .ref q2, .ref q3, .ref q4, .int 0, .int 40, .int 999, .int 480])), (q1, .inl (cI, 8, .inl wX4_init_q1_8)), (q2, .inl (cI, 8, .inl (fun _ => 0))), (q3, .inl (cI, 36, .inl wX4_init_q3_22)), (q4, .inl (cC, 6, .inr (.inr (.inr (.inr (fun _ => none))))))]) rfl dX4_init_119 (fun H locs I => ?_)
  refine lv_iinc (v := 22) (lv' := [(1, .int 22), (0, .ref h0)]) hx hb dX4_init_120 hl (k := 0) rfl (by decide) (by decide) rfl (fun ls hl => ?_)
  refine lv_goto (tgt := 88) hx hb dX4_init_123 (by decide) ?_
  refine lv_iload_n hx hb dX4_init_88 rfl (lv_at hl 0 rfl) ?_
  refine lv_aload_n hx hb dX4_init_89 rfl (lv_at hl 1 rfl) ?_
  refine n_get C hK I inT4 0 4 2 rfl rfl (by decide) rfl fl_X4_18 rfl dX4_init_90 ?_
  refine n_len C hK I 3 0 rfl rfl (v := 36) rfl dX4_init_93 ?_
  refine lv_icmp_ge (tgt := 126) hx hb dX4_init_94 (by decide) (fun q => absurd q (by decide)) (fun _ => ?_)
  refine lv_aload_n hx hb dX4_init_97 rfl (lv_at hl 1 rfl) ?_
  refine n_get C hK I inT4 0 4 2 rfl rfl (by decide) rfl fl_X4_18 rfl dX4_init_98 ?_
  refine lv_iload_n hx hb dX4_init_101 rfl (lv_at hl 0 rfl) ?_
  refine lv_iload_n hx hb dX4_init_102 rfl (lv_at hl 0 rfl) ?_
  refine lv_bipush (v := 6) hx hb dX4_init_103 (by decide) ?_
  refine lv_idiv hx hb dX4_init_105 (by decide) ?_
  refine W.eq (g2 := F0 m 106 ls [.int 3, .int 22, .ref q3]) (by first | rfl | decide) ?_
  refine lv_iload_n hx hb dX4_init_106 rfl (lv_at hl 0 rfl) ?_
  refine lv_bipush (v := 6) hx hb dX4_init_107 (by decide) ?_
  refine lv_irem hx hb dX4_init_109 (by decide) ?_
  refine W.eq (g2 := F0 m 110 ls [.int 4, .int 3, .int 22, .ref q3]) (by first | rfl | decide) ?_
  refine lv_icmp_ne (tgt := 117) hx hb dX4_init_110 (by decide) (fun _ => ?_) (fun q => absurd q (by decide))
  refine lv_bipush (v := 10) hx hb dX4_init_117 (by decide) ?_
  refine n_ast C hK I 3 rfl (by decide) (ws1 := [(h0, .inr (4, [.ref q1, .ref q2, .ref q3, .ref q4, .int 0, .int 40, .int 999, .int 480])), (q1, .inl (cI, 8, .inl wX4_init_q1_8)), (q2, .inl (cI, 8, .inl (fun _ => 0))), (q3, .inl (cI, 36, .inl wX4_init_q3_23)), (q4, .inl (cC, 6, .inr (.inr (.inr (.inr (fun _ => none))))))]) rfl dX4_init_119 (fun H locs I => ?_)
  refine lv_iinc (v := 23) (lv' := [(1, .int 23), (0, .ref h0)]) hx hb dX4_init_120 hl (k := 0) rfl (by decide) (by decide) rfl (fun ls hl => ?_)
  refine lv_goto (tgt := 88) hx hb dX4_init_123 (by decide) ?_
  refine lv_iload_n hx hb dX4_init_88 rfl (lv_at hl 0 rfl) ?_
  refine lv_aload_n hx hb dX4_init_89 rfl (lv_at hl 1 rfl) ?_
  refine n_get C hK I inT4 0 4 2 rfl rfl (by decide) rfl fl_X4_18 rfl dX4_init_90 ?_
  refine n_len C hK I 3 0 rfl rfl (v := 36) rfl dX4_init_93 ?_
  refine lv_icmp_ge (tgt := 126) hx hb dX4_init_94 (by decide) (fun q => absurd q (by decide)) (fun _ => ?_)
  refine lv_aload_n hx hb dX4_init_97 rfl (lv_at hl 1 rfl) ?_
  refine n_get C hK I inT4 0 4 2 rfl rfl (by decide) rfl fl_X4_18 rfl dX4_init_98 ?_
  refine lv_iload_n hx hb dX4_init_101 rfl (lv_at hl 0 rfl) ?_
  refine lv_iload_n hx hb dX4_init_102 rfl (lv_at hl 0 rfl) ?_
  refine lv_bipush (v := 6) hx hb dX4_init_103 (by decide) ?_
  refine lv_idiv hx hb dX4_init_105 (by decide) ?_
  refine W.eq (g2 := F0 m 106 ls [.int 3, .int 23, .ref q3]) (by first | rfl | decide) ?_
  refine lv_iload_n hx hb dX4_init_106 rfl (lv_at hl 0 rfl) ?_
  refine lv_bipush (v := 6) hx hb dX4_init_107 (by decide) ?_
  refine lv_irem hx hb dX4_init_109 (by decide) ?_
  refine W.eq (g2 := F0 m 110 ls [.int 5, .int 3, .int 23, .ref q3]) (by first | rfl | decide) ?_
  refine lv_icmp_ne (tgt := 117) hx hb dX4_init_110 (by decide) (fun _ => ?_) (fun q => absurd q (by decide))
  refine lv_bipush (v := 10) hx hb dX4_init_117 (by decide) ?_
  refine n_ast C hK I 3 rfl (by decide) (ws1 := [(h0, .inr (4, [.ref q1, .ref q2, .ref q3, .ref q4, .int 0, .int 40, .int 999, .int 480])), (q1, .inl (cI, 8, .inl wX4_init_q1_8)), (q2, .inl (cI, 8, .inl (fun _ => 0))), (q3, .inl (cI, 36, .inl wX4_init_q3_24)), (q4, .inl (cC, 6, .inr (.inr (.inr (.inr (fun _ => none))))))]) rfl dX4_init_119 (fun H locs I => ?_)
  refine lv_iinc (v := 24) (lv' := [(1, .int 24), (0, .ref h0)]) hx hb dX4_init_120 hl (k := 0) rfl (by decide) (by decide) rfl (fun ls hl => ?_)
  refine lv_goto (tgt := 88) hx hb dX4_init_123 (by decide) ?_
  refine lv_iload_n hx hb dX4_init_88 rfl (lv_at hl 0 rfl) ?_
  refine lv_aload_n hx hb dX4_init_89 rfl (lv_at hl 1 rfl) ?_
  refine n_get C hK I inT4 0 4 2 rfl rfl (by decide) rfl fl_X4_18 rfl dX4_init_90 ?_
  refine n_len C hK I 3 0 rfl rfl (v := 36) rfl dX4_init_93 ?_
  refine lv_icmp_ge (tgt := 126) hx hb dX4_init_94 (by decide) (fun q => absurd q (by decide)) (fun _ => ?_)
  refine lv_aload_n hx hb dX4_init_97 rfl (lv_at hl 1 rfl) ?_
  refine n_get C hK I inT4 0 4 2 rfl rfl (by decide) rfl fl_X4_18 rfl dX4_init_98 ?_
  refine lv_iload_n hx hb dX4_init_101 rfl (lv_at hl 0 rfl) ?_
  refine lv_iload_n hx hb dX4_init_102 rfl (lv_at hl 0 rfl) ?_
  refine lv_bipush (v := 6) hx hb dX4_init_103 (by decide) ?_
  refine lv_idiv hx hb dX4_init_105 (by decide) ?_
  refine W.eq (g2 := F0 m 106 ls [.int 4, .int 24, .ref q3]) (by first | rfl | decide) ?_
  refine lv_iload_n hx hb dX4_init_106 rfl (lv_at hl 0 rfl) ?_
  refine lv_bipush (v := 6) hx hb dX4_init_107 (by decide) ?_
  refine lv_irem hx hb dX4_init_109 (by decide) ?_
  refine W.eq (g2 := F0 m 110 ls [.int 0, .int 4, .int 24, .ref q3]) (by first | rfl | decide) ?_
  refine lv_icmp_ne (tgt := 117) hx hb dX4_init_110 (by decide) (fun _ => ?_) (fun q => absurd q (by decide))
  refine lv_bipush (v := 10) hx hb dX4_init_117 (by decide) ?_
  refine n_ast C hK I 3 rfl (by decide) (ws1 := [(h0, .inr (4, [.ref q1, .ref q2, .ref q3, .ref q4, .int 0, .int 40, .int 999, .int 480])), (q1, .inl (cI, 8, .inl wX4_init_q1_8)), (q2, .inl (cI, 8, .inl (fun _ => 0))), (q3, .inl (cI, 36, .inl wX4_init_q3_25)), (q4, .inl (cC, 6, .inr (.inr (.inr (.inr (fun _ => none))))))]) rfl dX4_init_119 (fun H locs I => ?_)
  refine lv_iinc (v := 25) (lv' := [(1, .int 25), (0, .ref h0)]) hx hb dX4_init_120 hl (k := 0) rfl (by decide) (by decide) rfl (fun ls hl => ?_)
  refine lv_goto (tgt := 88) hx hb dX4_init_123 (by decide) ?_
  refine lv_iload_n hx hb dX4_init_88 rfl (lv_at hl 0 rfl) ?_
  refine lv_aload_n hx hb dX4_init_89 rfl (lv_at hl 1 rfl) ?_
  refine n_get C hK I inT4 0 4 2 rfl rfl (by decide) rfl fl_X4_18 rfl dX4_init_90 ?_
  refine n_len C hK I 3 0 rfl rfl (v := 36) rfl dX4_init_93 ?_
  refine lv_icmp_ge (tgt := 126) hx hb dX4_init_94 (by decide) (fun q => absurd q (by decide)) (fun _ => ?_)
  refine lv_aload_n hx hb dX4_init_97 rfl (lv_at hl 1 rfl) ?_
  refine n_get C hK I inT4 0 4 2 rfl rfl (by decide) rfl fl_X4_18 rfl dX4_init_98 ?_
  refine lv_iload_n hx hb dX4_init_101 rfl (lv_at hl 0 rfl) ?_
  refine lv_iload_n hx hb dX4_init_102 rfl (lv_at hl 0 rfl) ?_
  refine lv_bipush (v := 6) hx hb dX4_init_103 (by decide) ?_
  refine lv_idiv hx hb dX4_init_105 (by decide) ?_
  refine W.eq (g2 := F0 m 106 ls [.int 4, .int 25, .ref q3]) (by first | rfl | decide) ?_
  refine lv_iload_n hx hb dX4_init_106 rfl (lv_at hl 0 rfl) ?_
  refine lv_bipush (v := 6) hx hb dX4_init_107 (by decide) ?_
  refine lv_irem hx hb dX4_init_109 (by decide) ?_
  refine W.eq (g2 := F0 m 110 ls [.int 1, .int 4, .int 25, .ref q3]) (by first | rfl | decide) ?_
  refine lv_icmp_ne (tgt := 117) hx hb dX4_init_110 (by decide) (fun _ => ?_) (fun q => absurd q (by decide))
  refine lv_bipush (v := 10) hx hb dX4_init_117 (by decide) ?_
  refine n_ast C hK I 3 rfl (by decide) (ws1 := [(h0, .inr (4, [.ref q1, .ref q2, .ref q3, .ref q4, .int 0, .int 40, .int 999, .int 480])), (q1, .inl (cI, 8, .inl wX4_init_q1_8)), (q2, .inl (cI, 8, .inl (fun _ => 0))), (q3, .inl (cI, 36, .inl wX4_init_q3_26)), (q4, .inl (cC, 6, .inr (.inr (.inr (.inr (fun _ => none))))))]) rfl dX4_init_119 (fun H locs I => ?_)
  refine lv_iinc (v := 26) (lv' := [(1, .int 26), (0, .ref h0)]) hx hb dX4_init_120 hl (k := 0) rfl (by decide) (by decide) rfl (fun ls hl => ?_)
  refine lv_goto (tgt := 88) hx hb dX4_init_123 (by decide) ?_
  refine lv_iload_n hx hb dX4_init_88 rfl (lv_at hl 0 rfl) ?_
  refine lv_aload_n hx hb dX4_init_89 rfl (lv_at hl 1 rfl) ?_
  refine n_get C hK I inT4 0 4 2 rfl rfl (by decide) rfl fl_X4_18 rfl dX4_init_90 ?_
  refine n_len C hK I 3 0 rfl rfl (v := 36) rfl dX4_init_93 ?_
  refine lv_icmp_ge (tgt := 126) hx hb dX4_init_94 (by decide) (fun q => absurd q (by decide)) (fun _ => ?_)
  refine lv_aload_n hx hb dX4_init_97 rfl (lv_at hl 1 rfl) ?_
  refine n_get C hK I inT4 0 4 2 rfl rfl (by decide) rfl fl_X4_18 rfl dX4_init_98 ?_
  refine lv_iload_n hx hb dX4_init_101 rfl (lv_at hl 0 rfl) ?_
  refine lv_iload_n hx hb dX4_init_102 rfl (lv_at hl 0 rfl) ?_
  refine lv_bipush (v := 6) hx hb dX4_init_103 (by decide) ?_
  refine lv_idiv hx hb dX4_init_105 (by decide) ?_
  refine W.eq (g2 := F0 m 106 ls [.int 4, .int 26, .ref q3]) (by first | rfl | decide) ?_
  refine lv_iload_n hx hb dX4_init_106 rfl (lv_at hl 0 rfl) ?_
  refine lv_bipush (v := 6) hx hb dX4_init_107 (by decide) ?_
  refine lv_irem hx hb dX4_init_109 (by decide) ?_
  refine W.eq (g2 := F0 m 110 ls [.int 2, .int 4, .int 26, .ref q3]) (by first | rfl | decide) ?_
  refine lv_icmp_ne (tgt := 117) hx hb dX4_init_110 (by decide) (fun _ => ?_) (fun q => absurd q (by decide))
  refine lv_bipush (v := 10) hx hb dX4_init_117 (by decide) ?_
  refine n_ast C hK I 3 rfl (by decide) (ws1 := [(h0, .inr (4, [.ref q1, .ref q2, .ref q3, .ref q4, .int 0, .int 40, .int 999, .int 480])), (q1, .inl (cI, 8, .inl wX4_init_q1_8)), (q2, .inl (cI, 8, .inl (fun _ => 0))), (q3, .inl (cI, 36, .inl wX4_init_q3_27)), (q4, .inl (cC, 6, .inr (.inr (.inr (.inr (fun _ => none))))))]) rfl dX4_init_119 (fun H locs I => ?_)
  refine lv_iinc (v := 27) (lv' := [(1, .int 27), (0, .ref h0)]) hx hb dX4_init_120 hl (k := 0) rfl (by decide) (by decide) rfl (fun ls hl => ?_)
  refine lv_goto (tgt := 88) hx hb dX4_init_123 (by decide) ?_
  refine lv_iload_n hx hb dX4_init_88 rfl (lv_at hl 0 rfl) ?_
  refine lv_aload_n hx hb dX4_init_89 rfl (lv_at hl 1 rfl) ?_
  refine n_get C hK I inT4 0 4 2 rfl rfl (by decide) rfl fl_X4_18 rfl dX4_init_90 ?_
  refine n_len C hK I 3 0 rfl rfl (v := 36) rfl dX4_init_93 ?_
  refine lv_icmp_ge (tgt := 126) hx hb dX4_init_94 (by decide) (fun q => absurd q (by decide)) (fun _ => ?_)
  refine lv_aload_n hx hb dX4_init_97 rfl (lv_at hl 1 rfl) ?_
  refine n_get C hK I inT4 0 4 2 rfl rfl (by decide) rfl fl_X4_18 rfl dX4_init_98 ?_
  refine lv_iload_n hx hb dX4_init_101 rfl (lv_at hl 0 rfl) ?_
  refine lv_iload_n hx hb dX4_init_102 rfl (lv_at hl 0 rfl) ?_
  refine lv_bipush (v := 6) hx hb dX4_init_103 (by decide) ?_
  refine lv_idiv hx hb dX4_init_105 (by decide) ?_
  refine W.eq (g2 := F0 m 106 ls [.int 4, .int 27, .ref q3]) (by first | rfl | decide) ?_
  refine lv_iload_n hx hb dX4_init_106 rfl (lv_at hl 0 rfl) ?_
  refine lv_bipush (v := 6) hx hb dX4_init_107 (by decide) ?_
  refine lv_irem hx hb dX4_init_109 (by decide) ?_
  refine W.eq (g2 := F0 m 110 ls [.int 3, .int 4, .int 27, .ref q3]) (by first | rfl | decide) ?_
  refine lv_icmp_ne (tgt := 117) hx hb dX4_init_110 (by decide) (fun _ => ?_) (fun q => absurd q (by decide))
  refine lv_bipush (v := 10) hx hb dX4_init_117 (by decide) ?_
  refine n_ast C hK I 3 rfl (by decide) (ws1 := [(h0, .inr (4, [.ref q1, .ref q2, .ref q3, .ref q4, .int 0, .int 40, .int 999, .int 480])), (q1, .inl (cI, 8, .inl wX4_init_q1_8)), (q2, .inl (cI, 8, .inl (fun _ => 0))), (q3, .inl (cI, 36, .inl wX4_init_q3_28)), (q4, .inl (cC, 6, .inr (.inr (.inr (.inr (fun _ => none))))))]) rfl dX4_init_119 (fun H locs I => ?_)
  refine lv_iinc (v := 28) (lv' := [(1, .int 28), (0, .ref h0)]) hx hb dX4_init_120 hl (k := 0) rfl (by decide) (by decide) rfl (fun ls hl => ?_)
  refine lv_goto (tgt := 88) hx hb dX4_init_123 (by decide) ?_
  refine lv_iload_n hx hb dX4_init_88 rfl (lv_at hl 0 rfl) ?_
  refine lv_aload_n hx hb dX4_init_89 rfl (lv_at hl 1 rfl) ?_
  refine n_get C hK I inT4 0 4 2 rfl rfl (by decide) rfl fl_X4_18 rfl dX4_init_90 ?_
  refine n_len C hK I 3 0 rfl rfl (v := 36) rfl dX4_init_93 ?_
  refine lv_icmp_ge (tgt := 126) hx hb dX4_init_94 (by decide) (fun q => absurd q (by decide)) (fun _ => ?_)
  refine lv_aload_n hx hb dX4_init_97 rfl (lv_at hl 1 rfl) ?_
  refine n_get C hK I inT4 0 4 2 rfl rfl (by decide) rfl fl_X4_18 rfl dX4_init_98 ?_
  refine lv_iload_n hx hb dX4_init_101 rfl (lv_at hl 0 rfl) ?_
  refine lv_iload_n hx hb dX4_init_102 rfl (lv_at hl 0 rfl) ?_
  refine lv_bipush (v := 6) hx hb dX4_init_103 (by decide) ?_
  refine lv_idiv hx hb dX4_init_105 (by decide) ?_
  refine W.eq (g2 := F0 m 106 ls [.int 4, .int 28, .ref q3]) (by first | rfl | decide) ?_
  refine lv_iload_n hx hb dX4_init_106 rfl (lv_at hl 0 rfl) ?_
  refine lv_bipush (v := 6) hx hb dX4_init_107 (by decide) ?_
  refine lv_irem hx hb dX4_init_109 (by decide) ?_
  refine W.eq (g2 := F0 m 110 ls [.int 4, .int 4, .int 28, .ref q3]) (by first | rfl | decide) ?_
  refine lv_icmp_ne (tgt := 117) hx hb dX4_init_110 (by decide) (fun q => absurd q (by decide)) (fun _ => ?_)
  refine lv_iconst (v := 0) hx hb dX4_init_113 (by decide) ?_
  refine lv_goto (tgt := 119) hx hb dX4_init_114 (by decide) ?_
  refine n_ast C hK I 3 rfl (by decide) (ws1 := [(h0, .inr (4, [.ref q1, .ref q2, .ref q3, .ref q4, .int 0, .int 40, .int 999, .int 480])), (q1, .inl (cI, 8, .inl wX4_init_q1_8)), (q2, .inl (cI, 8, .inl (fun _ => 0))), (q3, .inl (cI, 36, .inl wX4_init_q3_29)), (q4, .inl (cC, 6, .inr (.inr (.inr (.inr (fun _ => none))))))]) rfl dX4_init_119 (fun H locs I => ?_)
  refine lv_iinc (v := 29) (lv' := [(1, .int 29), (0, .ref h0)]) hx hb dX4_init_120 hl (k := 0) rfl (by decide) (by decide) rfl (fun ls hl => ?_)
  refine lv_goto (tgt := 88) hx hb dX4_init_123 (by decide) ?_
  refine lv_iload_n hx hb dX4_init_88 rfl (lv_at hl 0 rfl) ?_
  refine lv_aload_n hx hb dX4_init_89 rfl (lv_at hl 1 rfl) ?_
  refine n_get C hK I inT4 0 4 2 rfl rfl (by decide) rfl fl_X4_18 rfl dX4_init_90 ?_
  refine n_len C hK I 3 0 rfl rfl (v := 36) rfl dX4_init_93 ?_
  refine lv_icmp_ge (tgt := 126) hx hb dX4_init_94 (by decide) (fun q => absurd q (by decide)) (fun _ => ?_)
  refine lv_aload_n hx hb dX4_init_97 rfl (lv_at hl 1 rfl) ?_
  refine n_get C hK I inT4 0 4 2 rfl rfl (by decide) rfl fl_X4_18 rfl dX4_init_98 ?_
  refine lv_iload_n hx hb dX4_init_101 rfl (lv_at hl 0 rfl) ?_
  refine lv_iload_n hx hb dX4_init_102 rfl (lv_at hl 0 rfl) ?_
  refine lv_bipush (v := 6) hx hb dX4_init_103 (by decide) ?_
  refine lv_idiv hx hb dX4_init_105 (by decide) ?_
  refine W.eq (g2 := F0 m 106 ls [.int 4, .int 29, .ref q3]) (by first | rfl | decide) ?_
  refine lv_iload_n hx hb dX4_init_106 rfl (lv_at hl 0 rfl) ?_
  refine lv_bipush (v := 6) hx hb dX4_init_107 (by decide) ?_
  refine lv_irem hx hb dX4_init_109 (by decide) ?_
  refine W.eq (g2 := F0 m 110 ls [.int 5, .int 4, .int 29, .ref q3]) (by first | rfl | decide) ?_
  refine lv_icmp_ne (tgt := 117) hx hb dX4_init_110 (by decide) (fun _ => ?_) (fun q => absurd q (by decide))
  refine lv_bipush (v := 10) hx hb dX4_init_117 (by decide) ?_
  refine n_ast C hK I 3 rfl (by decide) (ws1 := [(h0, .inr (4, [.ref q1, .ref q2, .ref q3, .ref q4, .int 0, .int 40, .int 999, .int 480])), (q1, .inl (cI, 8, .inl wX4_init_q1_8)), (q2, .inl (cI, 8, .inl (fun _ => 0))), (q3, .inl (cI, 36, .inl wX4_init_q3_30)), (q4, .inl (cC, 6, .inr (.inr (.inr (.inr (fun _ => none))))))]) rfl dX4_init_119 (fun H locs I => ?_)
  refine lv_iinc (v := 30) (lv' := [(1, .int 30), (0, .ref h0)]) hx hb dX4_init_120 hl (k := 0) rfl (by decide) (by decide) rfl (fun ls hl => ?_)
  refine lv_goto (tgt := 88) hx hb dX4_init_123 (by decide) ?_
  refine lv_iload_n hx hb dX4_init_88 rfl (lv_at hl 0 rfl) ?_
  refine lv_aload_n hx hb dX4_init_89 rfl (lv_at hl 1 rfl) ?_
  refine n_get C hK I inT4 0 4 2 rfl rfl (by decide) rfl fl_X4_18 rfl dX4_init_90 ?_
  refine n_len C hK I 3 0 rfl rfl (v := 36) rfl dX4_init_93 ?_
  refine lv_icmp_ge (tgt := 126) hx hb dX4_init_94 (by decide) (fun q => absurd q (by decide)) (fun _ => ?_)
  refine lv_aload_n hx hb dX4_init_97 rfl (lv_at hl 1 rfl) ?_
  refine n_get C hK I inT4 0 4 2 rfl rfl (by decide) rfl fl_X4_18 rfl dX4_init_98 ?_
  refine lv_iload_n hx hb dX4_init_101 rfl (lv_at hl 0 rfl) ?_
  refine lv_iload_n hx hb dX4_init_102 rfl (lv_at hl 0 rfl) ?_
  refine lv_bipush (v := 6) hx hb dX4_init_103 (by decide) ?_
  refine lv_idiv hx hb dX4_init_105 (by decide) ?_
  refine W.eq (g2 := F0 m 106 ls [.int 5, .int 30, .ref q3]) (by first | rfl | decide) ?_
  refine lv_iload_n hx hb dX4_init_106 rfl (lv_at hl 0 rfl) ?_
  refine lv_bipush (v := 6) hx hb dX4_init_107 (by decide) ?_
  refine lv_irem hx hb dX4_init_109 (by decide) ?_
  refine W.eq (g2 := F0 m 110 ls [.int 0, .int 5, .int 30, .ref q3]) (by first | rfl | decide) ?_
  refine lv_icmp_ne (tgt := 117) hx hb dX4_init_110 (by decide) (fun _ => ?_) (fun q => absurd q (by decide))
  refine lv_bipush (v := 10) hx hb dX4_init_117 (by decide) ?_
  refine n_ast C hK I 3 rfl (by decide) (ws1 := [(h0, .inr (4, [.ref q1, .ref q2, .ref q3, .ref q4, .int 0, .int 40, .int 999, .int 480])), (q1, .inl (cI, 8, .inl wX4_init_q1_8)), (q2, .inl (cI, 8, .inl (fun _ => 0))), (q3, .inl (cI, 36, .inl wX4_init_q3_31)), (q4, .inl (cC, 6, .inr (.inr (.inr (.inr (fun _ => none))))))]) rfl dX4_init_119 (fun H locs I => ?_)
  refine lv_iinc (v := 31) (lv' := [(1, .int 31), (0, .ref h0)]) hx hb dX4_init_120 hl (k := 0) rfl (by decide) (by decide) rfl (fun ls hl => ?_)
  refine lv_goto (tgt := 88) hx hb dX4_init_123 (by decide) ?_
  refine lv_iload_n hx hb dX4_init_88 rfl (lv_at hl 0 rfl) ?_
  refine lv_aload_n hx hb dX4_init_89 rfl (lv_at hl 1 rfl) ?_
  refine n_get C hK I inT4 0 4 2 rfl rfl (by decide) rfl fl_X4_18 rfl dX4_init_90 ?_
  refine n_len C hK I 3 0 rfl rfl (v := 36) rfl dX4_init_93 ?_
  refine lv_icmp_ge (tgt := 126) hx hb dX4_init_94 (by decide) (fun q => absurd q (by decide)) (fun _ => ?_)
  refine lv_aload_n hx hb dX4_init_97 rfl (lv_at hl 1 rfl) ?_
  refine n_get C hK I inT4 0 4 2 rfl rfl (by decide) rfl fl_X4_18 rfl dX4_init_98 ?_
  refine lv_iload_n hx hb dX4_init_101 rfl (lv_at hl 0 rfl) ?_
  refine lv_iload_n hx hb dX4_init_102 rfl (lv_at hl 0 rfl) ?_
  refine lv_bipush (v := 6) hx hb dX4_init_103 (by decide) ?_
  refine lv_idiv hx hb dX4_init_105 (by decide) ?_
  refine W.eq (g2 := F0 m 106 ls [.int 5, .int 31, .ref q3]) (by first | rfl | decide) ?_
  refine lv_iload_n hx hb dX4_init_106 rfl (lv_at hl 0 rfl) ?_
  refine lv_bipush (v := 6) hx hb dX4_init_107 (by decide) ?_
  refine lv_irem hx hb dX4_init_109 (by decide) ?_
  refine W.eq (g2 := F0 m 110 ls [.int 1, .int 5, .int 31, .ref q3]) (by first | rfl | decide) ?_
  refine lv_icmp_ne (tgt := 117) hx hb dX4_init_110 (by decide) (fun _ => ?_) (fun q => absurd q (by decide))
  refine lv_bipush (v := 10) hx hb dX4_init_117 (by decide) ?_
  refine n_ast C hK I 3 rfl (by decide) (ws1 := [(h0, .inr (4, [.ref q1, .ref q2, .ref q3, .ref q4, .int 0, .int 40, .int 999, .int 480])), (q1, .inl (cI, 8, .inl wX4_init_q1_8)), (q2, .inl (cI, 8, .inl (fun _ => 0))), (q3, .inl (cI, 36, .inl wX4_init_q3_32)), (q4, .inl (cC, 6, .inr (.inr (.inr (.inr (fun _ => none))))))]) rfl dX4_init_119 (fun H locs I => ?_)
  refine lv_iinc (v := 32) (lv' := [(1, .int 32), (0, .ref h0)]) hx hb dX4_init_120 hl (k := 0) rfl (by decide) (by decide) rfl (fun ls hl => ?_)
  refine lv_goto (tgt := 88) hx hb dX4_init_123 (by decide) ?_
  refine lv_iload_n hx hb dX4_init_88 rfl (lv_at hl 0 rfl) ?_
  refine lv_aload_n hx hb dX4_init_89 rfl (lv_at hl 1 rfl) ?_
  refine n_get C hK I inT4 0 4 2 rfl rfl (by decide) rfl fl_X4_18 rfl dX4_init_90 ?_
  refine n_len C hK I 3 0 rfl rfl (v := 36) rfl dX4_init_93 ?_
  refine lv_icmp_ge (tgt := 126) hx hb dX4_init_94 (by decide) (fun q => absurd q (by decide)) (fun _ => ?_)
  refine lv_aload_n hx hb dX4_init_97 rfl (lv_at hl 1 rfl) ?_
  refine n_get C hK I inT4 0 4 2 rfl rfl (by decide) rfl fl_X4_18 rfl dX4_init_98 ?_
  refine lv_iload_n hx hb dX4_init_101 rfl (lv_at hl 0 rfl) ?_
  refine lv_iload_n hx hb dX4_init_102 rfl (lv_at hl 0 rfl) ?_
  refine lv_bipush (v := 6) hx hb dX4_init_103 (by decide) ?_
  refine lv_idiv hx hb dX4_init_105 (by decide) ?_
  refine W.eq (g2 := F0 m 106 ls [.int 5, .int 32, .ref q3]) (by first | rfl | decide) ?_
  refine lv_iload_n hx hb dX4_init_106 rfl (lv_at hl 0 rfl) ?_
  refine lv_bipush (v := 6) hx hb dX4_init_107 (by decide) ?_
  refine lv_irem hx hb dX4_init_109 (by decide) ?_
  refine W.eq (g2 := F0 m 110 ls [.int 2, .int 5, .int 32, .ref q3]) (by first | rfl | decide) ?_
  refine lv_icmp_ne (tgt := 117) hx hb dX4_init_110 (by decide) (fun _ => ?_) (fun q => absurd q (by decide))
  refine lv_bipush (v := 10) hx hb dX4_init_117 (by decide) ?_
  refine n_ast C hK I 3 rfl (by decide) (ws1 := [(h0, .inr (4, [.ref q1, .ref q2, .ref q3, .ref q4, .int 0, .int 40, .int 999, .int 480])), (q1, .inl (cI, 8, .inl wX4_init_q1_8)), (q2, .inl (cI, 8, .inl (fun _ => 0))), (q3, .inl (cI, 36, .inl wX4_init_q3_33)), (q4, .inl (cC, 6, .inr (.inr (.inr (.inr (fun _ => none))))))]) rfl dX4_init_119 (fun H locs I => ?_)
  refine lv_iinc (v := 33) (lv' := [(1, .int 33), (0, .ref h0)]) hx hb dX4_init_120 hl (k := 0) rfl (by decide) (by decide) rfl (fun ls hl => ?_)
  refine lv_goto (tgt := 88) hx hb dX4_init_123 (by decide) ?_
  refine lv_iload_n hx hb dX4_init_88 rfl (lv_at hl 0 rfl) ?_
  refine lv_aload_n hx hb dX4_init_89 rfl (lv_at hl 1 rfl) ?_
  refine n_get C hK I inT4 0 4 2 rfl rfl (by decide) rfl fl_X4_18 rfl dX4_init_90 ?_
  refine n_len C hK I 3 0 rfl rfl (v := 36) rfl dX4_init_93 ?_
  refine lv_icmp_ge (tgt := 126) hx hb dX4_init_94 (by decide) (fun q => absurd q (by decide)) (fun _ => ?_)
  refine lv_aload_n hx hb dX4_init_97 rfl (lv_at hl 1 rfl) ?_
  refine n_get C hK I inT4 0 4 2 rfl rfl (by decide) rfl fl_X4_18 rfl dX4_init_98 ?_
  refine lv_iload_n hx hb dX4_init_101 rfl (lv_at hl 0 rfl) ?_
  refine lv_iload_n hx hb dX4_init_102 rfl (lv_at hl 0 rfl) ?_
  refine lv_bipush (v := 6) hx hb dX4_init_103 (by decide) ?_
  refine lv_idiv hx hb dX4_init_105 (by decide) ?_
  refine W.eq (g2 := F0 m 106 ls [.int 5, .int 33, .ref q3]) (by first | rfl | decide) ?_
  refine lv_iload_n hx hb dX4_init_106 rfl (lv_at hl 0 rfl) ?_
  refine lv_bipush (v := 6) hx hb dX4_init_107 (by decide) ?_
  refine lv_irem hx hb dX4_init_109 (by decide) ?_
  refine W.eq (g2 := F0 m 110 ls [.int 3, .int 5, .int 33, .ref q3]) (by first | rfl | decide) ?_
  refine lv_icmp_ne (tgt := 117) hx hb dX4_init_110 (by decide) (fun _ => ?_) (fun q => absurd q (by decide))
  refine lv_bipush (v := 10) hx hb dX4_init_117 (by decide) ?_
  refine n_ast C hK I 3 rfl (by decide) (ws1 := [(h0, .inr (4, [.ref q1, .ref q2, .ref q3, .ref q4, .int 0, .int 40, .int 999, .int 480])), (q1, .inl (cI, 8, .inl wX4_init_q1_8)), (q2, .inl (cI, 8, .inl (fun _ => 0))), (q3, .inl (cI, 36, .inl wX4_init_q3_34)), (q4, .inl (cC, 6, .inr (.inr (.inr (.inr (fun _ => none))))))]) rfl dX4_init_119 (fun H locs I => ?_)
  refine lv_iinc (v := 34) (lv' := [(1, .int 34), (0, .ref h0)]) hx hb dX4_init_120 hl (k := 0) rfl (by decide) (by decide) rfl (fun ls hl => ?_)
  refine lv_goto (tgt := 88) hx hb dX4_init_123 (by decide) ?_
  refine lv_iload_n hx hb dX4_init_88 rfl (lv_at hl 0 rfl) ?_
  refine lv_aload_n hx hb dX4_init_89 rfl (lv_at hl 1 rfl) ?_
  refine n_get C hK I inT4 0 4 2 rfl rfl (by decide) rfl fl_X4_18 rfl dX4_init_90 ?_
  refine n_len C hK I 3 0 rfl rfl (v := 36) rfl dX4_init_93 ?_
  refine lv_icmp_ge (tgt := 126) hx hb dX4_init_94 (by decide) (fun q => absurd q (by decide)) (fun _ => ?_)
  refine lv_aload_n hx hb dX4_init_97 rfl (lv_at hl 1 rfl) ?_
  refine n_get C hK I inT4 0 4 2 rfl rfl (by decide) rfl fl_X4_18 rfl dX4_init_98 ?_
  refine lv_iload_n hx hb dX4_init_101 rfl (lv_at hl 0 rfl) ?_
  refine lv_iload_n hx hb dX4_init_102 rfl (lv_at hl 0 rfl) ?_
  refine lv_bipush (v := 6) hx hb dX4_init_103 (by decide) ?_
  refine lv_idiv hx hb dX4_init_105 (by decide) ?_
  refine W.eq (g2 := F0 m 106 ls [.int 5, .int 34, .ref q3]) (by first | rfl | decide) ?_
  refine lv_iload_n hx hb dX4_init_106 rfl (lv_at hl 0 rfl) ?_
  refine lv_bipush (v := 6) hx hb dX4_init_107 (by decide) ?_
  refine lv_irem hx hb dX4_init_109 (by decide) ?_
  refine W.eq (g2 := F0 m 110 ls [.int 4, .int 5, .int 34, .ref q3]) (by first | rfl | decide) ?_
  refine lv_icmp_ne (tgt := 117) hx hb dX4_init_110 (by decide) (fun _ => ?_) (fun q => absurd q (by decide))
  refine lv_bipush (v := 10) hx hb dX4_init_117 (by decide) ?_
  refine n_ast C hK I 3 rfl (by decide) (ws1 := [(h0, .inr (4, [.ref q1, .ref q2, .ref q3, .ref q4, .int 0, .int 40, .int 999, .int 480])), (q1, .inl (cI, 8, .inl wX4_init_q1_8)), (q2, .inl (cI, 8, .inl (fun _ => 0))), (q3, .inl (cI, 36, .inl wX4_init_q3_35)), (q4, .inl (cC, 6, .inr (.inr (.inr (.inr (fun _ => none))))))]) rfl dX4_init_119 (fun H locs I => ?_)
  refine lv_iinc (v := 35) (lv' := [(1, .int 35), (0, .ref h0)]) hx hb dX4_init_120 hl (k := 0) rfl (by decide) (by decide) rfl (fun ls hl => ?_)
  refine lv_goto (tgt := 88) hx hb dX4_init_123 (by decide) ?_
  refine lv_iload_n hx hb dX4_init_88 rfl (lv_at hl 0 rfl) ?_
  refine lv_aload_n hx hb dX4_init_89 rfl (lv_at hl 1 rfl) ?_
  refine n_get C hK I inT4 0 4 2 rfl rfl (by decide) rfl fl_X4_18 rfl dX4_init_90 ?_
  refine n_len C hK I 3 0 rfl rfl (v := 36) rfl dX4_init_93 ?_
  refine lv_icmp_ge (tgt := 126) hx hb dX4_init_94 (by decide) (fun q => absurd q (by decide)) (fun _ => ?_)
  refine lv_aload_n hx hb dX4_init_97 rfl (lv_at hl 1 rfl) ?_
  refine n_get C hK I inT4 0 4 2 rfl rfl (by decide) rfl fl_X4_18 rfl dX4_init_98 ?_
  refine lv_iload_n hx hb dX4_init_101 rfl (lv_at hl 0 rfl) ?_
  refine lv_iload_n hx hb dX4_init_102 rfl (lv_at hl 0 rfl) ?_
  refine lv_bipush (v := 6) hx hb dX4_init_103 (by decide) ?_
  refine lv_idiv hx hb dX4_init_105 (by decide) ?_
  refine W.eq (g2 := F0 m 106 ls [.int 5, .int 35, .ref q3]) (by first | rfl | decide) ?_
  refine lv_iload_n hx hb dX4_init_106 rfl (lv_at hl 0 rfl) ?_
  refine lv_bipush (v := 6) hx hb dX4_init_107 (by decide) ?_
  refine lv_irem hx hb dX4_init_109 (by decide) ?_
  refine W.eq (g2 := F0 m 110 ls [.int 5, .int 5, .int 35, .ref q3]) (by first | rfl | decide) ?_
  refine lv_icmp_ne (tgt := 117) hx hb dX4_init_110 (by decide) (fun q => absurd q (by decide)) (fun _ => ?_)
  refine lv_iconst (v := 0) hx hb dX4_init_113 (by decide) ?_
  refine lv_goto (tgt := 119) hx hb dX4_init_114 (by decide) ?_
  refine n_ast C hK I 3 rfl (by decide) (ws1 := [(h0, .inr (4, [.ref q1, .ref q2, .ref q3, .ref q4, .int 0, .int 40, .int 999, .int 480])), (q1, .inl (cI, 8, .inl wX4_init_q1_8)), (q2, .inl (cI, 8, .inl (fun _ => 0))), (q3, .inl (cI, 36, .inl wX4_init_q3_36)), (q4, .inl (cC, 6, .inr (.inr (.inr (.inr (fun _ => none))))))]) rfl dX4_init_119 (fun H locs I => ?_)
  refine lv_iinc (v := 36) (lv' := [(1, .int 36), (0, .ref h0)]) hx hb dX4_init_120 hl (k := 0) rfl (by decide) (by decide) rfl (fun ls hl => ?_)
  refine lv_goto (tgt := 88) hx hb dX4_init_123 (by decide) ?_
  refine lv_iload_n hx hb dX4_init_88 rfl (lv_at hl 0 rfl) ?_
  refine lv_aload_n hx hb dX4_init_89 rfl (lv_at hl 1 rfl) ?_
  refine n_get C hK I inT4 0 4 2 rfl rfl (by decide) rfl fl_X4_18 rfl dX4_init_90 ?_
  refine n_len C hK I 3 0 rfl rfl (v := 36) rfl dX4_init_93 ?_
  refine lv_icmp_ge (tgt := 126) hx hb dX4_init_94 (by decide) (fun _ => ?_) (fun q => absurd q (by decide))
  refine lv_iconst (v := 0) hx hb dX4_init_126 (by decide) ?_
  refine lv_istore_n (lv' := [(1, .int 0), (0, .ref h0)]) hx hb dX4_init_127 rfl hl (by decide) rfl (fun ls hl => ?_)
  refine lv_iload_n hx hb dX4_init_128 rfl (lv_at hl 0 rfl) ?_
  refine lv_aload_n hx hb dX4_init_129 rfl (lv_at hl 1 rfl) ?_
  refine n_get C hK I inT4 0 4 3 rfl rfl (by decide) rfl fl_X4_23 rfl dX4_init_130 ?_
  refine n_len C hK I 4 1 rfl rfl (v := 6) rfl dX4_init_133 ?_
  refine lv_icmp_ge (tgt := 156) hx hb dX4_init_134 (by decide) (fun q => absurd q (by decide)) (fun _ => ?_)
  refine lv_aload_n hx hb dX4_init_137 rfl (lv_at hl 1 rfl) ?_
  refine n_get C hK I inT4 0 4 3 rfl rfl (by decide) rfl fl_X4_23 rfl dX4_init_138 ?_
  refine lv_iload_n hx hb dX4_init_141 rfl (lv_at hl 0 rfl) ?_
  refine n_new (ci := 1) (fs := [.null, .int 0, .int 0, .int 0, .int 0, .int 0, .int 0, .int 0, .int 0, .int 0]) C hK I hA inT1 tyX1 tyX1_ok cl_X4_21 in_X1 ii_X1 rfl (fun j hj => match j, hj with | 0, _ => rfl | 1, _ => rfl | 2, _ => rfl | 3, _ => rfl | 4, _ => rfl | 5, _ => rfl | 6, _ => rfl | 7, _ => rfl | 8, _ => rfl | 9, _ => rfl | n + 10, h => absurd h (by omega)) (Nat.le_of_ble_eq_true rfl) (Nat.le_of_ble_eq_true rfl) dX4_init_142 (fun q5 H I => ?_)
  have I : Iw D [(h0, .inr (4, [.ref q1, .ref q2, .ref q3, .ref q4, .int 0, .int 40, .int 999, .int 480])), (q1, .inl (cI, 8, .inl wX4_init_q1_8)), (q2, .inl (cI, 8, .inl (fun _ => 0))), (q3, .inl (cI, 36, .inl wX4_init_q3_36)), (q4, .inl (cC, 6, .inr (.inr (.inr (.inr (fun _ => none)))))), (q5, .inr (1, [.null, .int 0, .int 0, .int 0, .int 0, .int 0, .int 0, .int 0, .int 0, .int 0]))] A s H _ := I
  refine lv_dup hx hb dX4_init_145 rfl ?_
  refine n_I (As := []) (rest := [.ref q5, .int 0, .ref q4]) (wc := [(q5, .inr (1, [.null, .int 0, .int 0, .int 0, .int 0, .int 0, .int 0, .int 0, .int 0, .int 0]))]) (wr := [(h0, .inr (4, [.ref q1, .ref q2, .ref q3, .ref q4, .int 0, .int 40, .int 999, .int 480])), (q1, .inl (cI, 8, .inl wX4_init_q1_8)), (q2, .inl (cI, 8, .inl (fun _ => 0))), (q3, .inl (cI, 36, .inl wX4_init_q3_36)), (q4, .inl (cC, 6, .inr (.inr (.inr (.inr (fun _ => none))))))]) C hK I hA [5] [0, 1, 2, 3, 4] rfl rfl rfl (by decide) (by decide) (by decide) (c_X1_init l D cI cC cS q5) ⟨Nat.le_of_ble_eq_true rfl, Nat.le_of_ble_eq_true rfl⟩ ⟨Nat.le_of_ble_eq_true rfl, Nat.le_of_ble_eq_true rfl⟩ mi_X1_init lk_X4_40 rfl hl.1 rfl (Nat.le_of_ble_eq_true rfl) dX4_init_146 (fun ws9 hp9 H locs I => ?_)
  obtain ⟨g6, rfl⟩ := hp9
  have I : Iw D [(h0, .inr (4, [.ref q1, .ref q2, .ref q3, .ref q4, .int 0, .int 40, .int 999, .int 480])), (q1, .inl (cI, 8, .inl wX4_init_q1_8)), (q2, .inl (cI, 8, .inl (fun _ => 0))), (q3, .inl (cI, 36, .inl wX4_init_q3_36)), (q4, .inl (cC, 6, .inr (.inr (.inr (.inr (fun _ => none)))))), (q5, .inr (1, [.ref (g6 0), .int 0, .int 0, .int 0, .int 0, .int 0, .int 0, .int 0, .int 0, .int 0])), ((g6 0), .inl (cS, 4, .inr (.inr (.inr (.inr (va_up (va_up (va_up (va_up (fun _ => none) 0 (some (g6 1))) 1 (some (g6 2))) 2 (some (g6 3))) 3 (some (g6 4)))))))), ((g6 1), .inr (7, [.int 0, .int 0, .int 0, .int 0])), ((g6 2), .inr (7, [.int 0, .int 0, .int 0, .int 0])), ((g6 3), .inr (7, [.int 0, .int 0, .int 0, .int 0])), ((g6 4), .inr (7, [.int 0, .int 0, .int 0, .int 0]))] A s H _ := I
  refine n_asr C hK I 4 1 5 1 (r := (RX1, TX1, 10)) rfl rfl rfl rfl (by decide) (ws1 := [(h0, .inr (4, [.ref q1, .ref q2, .ref q3, .ref q4, .int 0, .int 40, .int 999, .int 480])), (q1, .inl (cI, 8, .inl wX4_init_q1_8)), (q2, .inl (cI, 8, .inl (fun _ => 0))), (q3, .inl (cI, 36, .inl wX4_init_q3_36)), (q4, .inl (cC, 6, .inr (.inr (.inr (.inr (va_up (fun _ => none) 0 (some q5))))))), (q5, .inr (1, [.ref (g6 0), .int 0, .int 0, .int 0, .int 0, .int 0, .int 0, .int 0, .int 0, .int 0])), ((g6 0), .inl (cS, 4, .inr (.inr (.inr (.inr (va_up (va_up (va_up (va_up (fun _ => none) 0 (some (g6 1))) 1 (some (g6 2))) 2 (some (g6 3))) 3 (some (g6 4)))))))), ((g6 1), .inr (7, [.int 0, .int 0, .int 0, .int 0])), ((g6 2), .inr (7, [.int 0, .int 0, .int 0, .int 0])), ((g6 3), .inr (7, [.int 0, .int 0, .int 0, .int 0])), ((g6 4), .inr (7, [.int 0, .int 0, .int 0, .int 0]))]) rfl dX4_init_149 (fun H locs I => ?_)
  refine lv_iinc (v := 1) (lv' := [(1, .int 1), (0, .ref h0)]) hx hb dX4_init_150 hl (k := 0) rfl (by decide) (by decide) rfl (fun ls hl => ?_)
  refine lv_goto (tgt := 128) hx hb dX4_init_153 (by decide) ?_
  refine lv_iload_n hx hb dX4_init_128 rfl (lv_at hl 0 rfl) ?_
  refine lv_aload_n hx hb dX4_init_129 rfl (lv_at hl 1 rfl) ?_
  refine n_get C hK I inT4 0 4 3 rfl rfl (by decide) rfl fl_X4_23 rfl dX4_init_130 ?_
  refine n_len C hK I 4 1 rfl rfl (v := 6) rfl dX4_init_133 ?_
  refine lv_icmp_ge (tgt := 156) hx hb dX4_init_134 (by decide) (fun q => absurd q (by decide)) (fun _ => ?_)
  refine lv_aload_n hx hb dX4_init_137 rfl (lv_at hl 1 rfl) ?_
  refine n_get C hK I inT4 0 4 3 rfl rfl (by decide) rfl fl_X4_23 rfl dX4_init_138 ?_
  refine lv_iload_n hx hb dX4_init_141 rfl (lv_at hl 0 rfl) ?_
  refine n_new (ci := 1) (fs := [.null, .int 0, .int 0, .int 0, .int 0, .int 0, .int 0, .int 0, .int 0, .int 0]) C hK I hA inT1 tyX1 tyX1_ok cl_X4_21 in_X1 ii_X1 rfl (fun j hj => match j, hj with | 0, _ => rfl | 1, _ => rfl | 2, _ => rfl | 3, _ => rfl | 4, _ => rfl | 5, _ => rfl | 6, _ => rfl | 7, _ => rfl | 8, _ => rfl | 9, _ => rfl | n + 10, h => absurd h (by omega)) (Nat.le_of_ble_eq_true rfl) (Nat.le_of_ble_eq_true rfl) dX4_init_142 (fun q7 H I => ?_)
  have I : Iw D [(h0, .inr (4, [.ref q1, .ref q2, .ref q3, .ref q4, .int 0, .int 40, .int 999, .int 480])), (q1, .inl (cI, 8, .inl wX4_init_q1_8)), (q2, .inl (cI, 8, .inl (fun _ => 0))), (q3, .inl (cI, 36, .inl wX4_init_q3_36)), (q4, .inl (cC, 6, .inr (.inr (.inr (.inr (va_up (fun _ => none) 0 (some q5))))))), (q5, .inr (1, [.ref (g6 0), .int 0, .int 0, .int 0, .int 0, .int 0, .int 0, .int 0, .int 0, .int 0])), ((g6 0), .inl (cS, 4, .inr (.inr (.inr (.inr (va_up (va_up (va_up (va_up (fun _ => none) 0 (some (g6 1))) 1 (some (g6 2))) 2 (some (g6 3))) 3 (some (g6 4)))))))), ((g6 1), .inr (7, [.int 0, .int 0, .int 0, .int 0])), ((g6 2), .inr (7, [.int 0, .int 0, .int 0, .int 0])), ((g6 3), .inr (7, [.int 0, .int 0, .int 0, .int 0])), ((g6 4), .inr (7, [.int 0, .int 0, .int 0, .int 0])), (q7, .inr (1, [.null, .int 0, .int 0, .int 0, .int 0, .int 0, .int 0, .int 0, .int 0, .int 0]))] A s H _ := I
  refine lv_dup hx hb dX4_init_145 rfl ?_
  refine n_I (As := []) (rest := [.ref q7, .int 1, .ref q4]) (wc := [(q7, .inr (1, [.null, .int 0, .int 0, .int 0, .int 0, .int 0, .int 0, .int 0, .int 0, .int 0]))]) (wr := [(h0, .inr (4, [.ref q1, .ref q2, .ref q3, .ref q4, .int 0, .int 40, .int 999, .int 480])), (q1, .inl (cI, 8, .inl wX4_init_q1_8)), (q2, .inl (cI, 8, .inl (fun _ => 0))), (q3, .inl (cI, 36, .inl wX4_init_q3_36)), (q4, .inl (cC, 6, .inr (.inr (.inr (.inr (va_up (fun _ => none) 0 (some q5))))))), (q5, .inr (1, [.ref (g6 0), .int 0, .int 0, .int 0, .int 0, .int 0, .int 0, .int 0, .int 0, .int 0])), ((g6 0), .inl (cS, 4, .inr (.inr (.inr (.inr (va_up (va_up (va_up (va_up (fun _ => none) 0 (some (g6 1))) 1 (some (g6 2))) 2 (some (g6 3))) 3 (some (g6 4)))))))), ((g6 1), .inr (7, [.int 0, .int 0, .int 0, .int 0])), ((g6 2), .inr (7, [.int 0, .int 0, .int 0, .int 0])), ((g6 3), .inr (7, [.int 0, .int 0, .int 0, .int 0])), ((g6 4), .inr (7, [.int 0, .int 0, .int 0, .int 0]))]) C hK I hA [11] [0, 1, 2, 3, 4, 5, 6, 7, 8, 9, 10] rfl rfl rfl (by decide) (by decide) (by decide) (c_X1_init l D cI cC cS q7) ⟨Nat.le_of_ble_eq_true rfl, Nat.le_of_ble_eq_true rfl⟩ ⟨Nat.le_of_ble_eq_true rfl, Nat.le_of_ble_eq_true rfl⟩ mi_X1_init lk_X4_40 rfl hl.1 rfl (Nat.le_of_ble_eq_true rfl) dX4_init_146 (fun ws9 hp9 H locs I => ?_)
  obtain ⟨g8, rfl⟩ := hp9
  have I : Iw D [(h0, .inr (4, [.ref q1, .ref q2, .ref q3, .ref q4, .int 0, .int 40, .int 999, .int 480])), (q1, .inl (cI, 8, .inl wX4_init_q1_8)), (q2, .inl (cI, 8, .inl (fun _ => 0))), (q3, .inl (cI, 36, .inl wX4_init_q3_36)), (q4, .inl (cC, 6, .inr (.inr (.inr (.inr (va_up (fun _ => none) 0 (some q5))))))), (q5, .inr (1, [.ref (g6 0), .int 0, .int 0, .int 0, .int 0, .int 0, .int 0, .int 0, .int 0, .int 0])), ((g6 0), .inl (cS, 4, .inr (.inr (.inr (.inr (va_up (va_up (va_up (va_up (fun _ => none) 0 (some (g6 1))) 1 (some (g6 2))) 2 (some (g6 3))) 3 (some (g6 4)))))))), ((g6 1), .inr (7, [.int 0, .int 0, .int 0, .int 0])), ((g6 2), .inr (7, [.int 0, .int 0, .int 0, .int 0])), ((g6 3), .inr (7, [.int 0, .int 0, .int 0, .int 0])), ((g6 4), .inr (7, [.int 0, .int 0, .int 0, .int 0])), (q7, .inr (1, [.ref (g8 0), .int 0, .int 0, .int 0, .int 0, .int 0, .int 0, .int 0, .int 0, .int 0])), ((g8 0), .inl (cS, 4, .inr (.inr (.inr (.inr (va_up (va_up (va_up (va_up (fun _ => none) 0 (some (g8 1))) 1 (some (g8 2))) 2 (some (g8 3))) 3 (some (g8 4)))))))), ((g8 1), .inr (7, [.int 0, .int 0, .int 0, .int 0])), ((g8 2), .inr (7, [.int 0, .int 0, .int 0, .int 0])), ((g8 3), .inr (7, [.int 0, .int 0, .int 0, .int 0])), ((g8 4), .inr (7, [.int 0, .int 0, .int 0, .int 0]))] A s H _ := I
  refine n_asr C hK I 4 1 11 1 (r := (RX1, TX1, 10)) rfl rfl rfl rfl (by decide) (ws1 := [(h0, .inr (4, [.ref q1, .ref q2, .ref q3, .ref q4, .int 0, .int 40, .int 999, .int 480])), (q1, .inl (cI, 8, .inl wX4_init_q1_8)), (q2, .inl (cI, 8, .inl (fun _ => 0))), (q3, .inl (cI, 36, .inl wX4_init_q3_36)), (q4, .inl (cC, 6, .inr (.inr (.inr (.inr (va_up (va_up (fun _ => none) 0 (some q5)) 1 (some q7))))))), (q5, .inr (1, [.ref (g6 0), .int 0, .int 0, .int 0, .int 0, .int 0, .int 0, .int 0, .int 0, .int 0])), ((g6 0), .inl (cS, 4, .inr (.inr (.inr (.inr (va_up (va_up (va_up (va_up (fun _ => none) 0 (some (g6 1))) 1 (some (g6 2))) 2 (some (g6 3))) 3 (some (g6 4)))))))), ((g6 1), .inr (7, [.int 0, .int 0, .int 0, .int 0])), ((g6 2), .inr (7, [.int 0, .int 0, .int 0, .int 0])), ((g6 3), .inr (7, [.int 0, .int 0, .int 0, .int 0])), ((g6 4), .inr (7, [.int 0, .int 0, .int 0, .int 0])), (q7, .inr (1, [.ref (g8 0), .int 0, .int 0, .int 0, .int 0, .int 0, .int 0, .int 0, .int 0, .int 0])), ((g8 0), .inl (cS, 4, .inr (.inr (.inr (.inr (va_up (va_up (va_up (va_up (fun _ => none) 0 (some (g8 1))) 1 (some (g8 2))) 2 (some (g8 3))) 3 (some (g8 4)))))))), ((g8 1), .inr (7, [.int 0, .int 0, .int 0, .int 0])), ((g8 2), .inr (7, [.int 0, .int 0, .int 0, .int 0])), ((g8 3), .inr (7, [.int 0, .int 0, .int 0, .int 0])), ((g8 4), .inr (7, [.int 0, .int 0, .int 0, .int 0]))]) rfl dX4_init_149 (fun H locs I => ?_)
  refine lv_iinc (v := 2) (lv' := [(1, .int 2), (0, .ref h0)]) hx hb dX4_init_150 hl (k := 0) rfl (by decide) (by decide) rfl (fun ls hl => ?_)
  refine lv_goto (tgt := 128) hx hb dX4_init_153 (by decide) ?_
  refine lv_iload_n hx hb dX4_init_128 rfl (lv_at hl 0 rfl) ?_
  refine lv_aload_n hx hb dX4_init_129 rfl (lv_at hl 1 rfl) ?_
  refine n_get C hK I inT4 0 4 3 rfl rfl (by decide) rfl fl_X4_23 rfl dX4_init_130 ?_
  refine n_len C hK I 4 1 rfl rfl (v := 6) rfl dX4_init_133 ?_
  refine lv_icmp_ge (tgt := 156) hx hb dX4_init_134 (by decide) (fun q => absurd q (by decide)) (fun _ => ?_)
  refine lv_aload_n hx hb dX4_init_137 rfl (lv_at hl 1 rfl) ?_
  refine n_get C hK I inT4 0 4 3 rfl rfl (by decide) rfl fl_X4_23 rfl dX4_init_138 ?_
  refine lv_iload_n hx hb dX4_init_141 rfl (lv_at hl 0 rfl) ?_
  refine n_new (ci := 1) (fs := [.null, .int 0, .int 0, .int 0, .int 0, .int 0, .int 0, .int 0, .int 0, .int 0]) C hK I hA inT1 tyX1 tyX1_ok cl_X4_21 in_X1 ii_X1 rfl (fun j hj => match j, hj with | 0, _ => rfl | 1, _ => rfl | 2, _ => rfl | 3, _ => rfl | 4, _ => rfl | 5, _ => rfl | 6, _ => rfl | 7, _ => rfl | 8, _ => rfl | 9, _ => rfl | n + 10, h => absurd h (by omega)) (Nat.le_of_ble_eq_true rfl) (Nat.le_of_ble_eq_true rfl) dX4_init_142 (fun q9 H I => ?_)
  have I : Iw D [(h0, .inr (4, [.ref q1, .ref q2, .ref q3, .ref q4, .int 0, .int 40, .int 999, .int 480])), (q1, .inl (cI, 8, .inl wX4_init_q1_8)), (q2, .inl (cI, 8, .inl (fun _ => 0))), (q3, .inl (cI, 36, .inl wX4_init_q3_36)), (q4, .inl (cC, 6, .inr (.inr (.inr (.inr (va_up (va_up (fun _ => none) 0 (some q5)) 1 (some q7))))))), (q5, .inr (1, [.ref (g6 0), .int 0, .int 0, .int 0, .int 0, .int 0, .int 0, .int 0, .int 0, .int 0])), ((g6 0), .inl (cS, 4, .inr (.inr (.inr (.inr (va_up (va_up (va_up (va_up (fun _ => none) 0 (some (g6 1))) 1 (some (g6 2))) 2 (some (g6 3))) 3 (some (g6 4)))))))), ((g6 1), .inr (7, [.int 0, .int 0, .int 0, .int 0])), ((g6 2), .inr (7, [.int 0, .int 0, .int 0, .int 0])), ((g6 3), .inr (7, [.int 0, .int 0, .int 0, .int 0])), ((g6 4), .inr (7, [.int 0, .int 0, .int 0, .int 0])), (q7, .inr (1, [.ref (g8 0), .int 0, .int 0, .int 0, .int 0, .int 0, .int 0, .int 0, .int 0, .int 0])), ((g8 0), .inl (cS, 4, .inr (.inr (.inr (.inr (va_up (va_up (va_up (va_up (fun _ => none) 0 (some (g8 1))) 1 (some (g8 2))) 2 (some (g8 3))) 3 (some (g8 4)))))))), ((g8 1), .inr (7, [.int 0, .int 0, .int 0, .int 0])), ((g8 2), .inr (7, [.int 0, .int 0, .int 0, .int 0])), ((g8 3), .inr (7, [.int 0, .int 0, .int 0, .int 0])), ((g8 4), .inr (7, [.int 0, .int 0, .int 0, .int 0])), (q9, .inr (1, [.null, .int 0, .int 0, .int 0, .int 0, .int 0, .int 0, .int 0, .int 0, .int 0]))] A s H _ := I
  refine lv_dup hx hb dX4_init_145 rfl ?_
  refine n_I (As := []) (rest := [.ref q9, .int 2, .ref q4]) (wc := [(q9, .inr (1, [.null, .int 0, .int 0, .int 0, .int 0, .int 0, .int 0, .int 0, .int 0, .int 0]))]) (wr := [(h0, .inr (4, [.ref q1, .ref q2, .ref q3, .ref q4, .int 0, .int 40, .int 999, .int 480])), (q1, .inl (cI, 8, .inl wX4_init_q1_8)), (q2, .inl (cI, 8, .inl (fun _ => 0))), (q3, .inl (cI, 36, .inl wX4_init_q3_36)), (q4, .inl (cC, 6, .inr (.inr (.inr (.inr (va_up (va_up (fun _ => none) 0 (some q5)) 1 (some q7))))))), (q5, .inr (1, [.ref (g6 0), .int 0, .int 0, .int 0, .int 0, .int 0, .int 0, .int 0, .int 0, .int 0])), ((g6 0), .inl (cS, 4, .inr (.inr (.inr (.inr (va_up (va_up (va_up (va_up (fun _ => none) 0 (some (g6 1))) 1 (some (g6 2))) 2 (some (g6 3))) 3 (some (g6 4)))))))), ((g6 1), .inr (7, [.int 0, .int 0, .int 0, .int 0])), ((g6 2), .inr (7, [.int 0, .int 0, .int 0, .int 0])), ((g6 3), .inr (7, [.int 0, .int 0, .int 0, .int 0])), ((g6 4), .inr (7, [.int 0, .int 0, .int 0, .int 0])), (q7, .inr (1, [.ref (g8 0), .int 0, .int 0, .int 0, .int 0, .int 0, .int 0, .int 0, .int 0, .int 0])), ((g8 0), .inl (cS, 4, .inr (.inr (.inr (.inr (va_up (va_up (va_up (va_up (fun _ => none) 0 (some (g8 1))) 1 (some (g8 2))) 2 (some (g8 3))) 3 (some (g8 4)))))))), ((g8 1), .inr (7, [.int 0, .int 0, .int 0, .int 0])), ((g8 2), .inr (7, [.int 0, .int 0, .int 0, .int 0])), ((g8 3), .inr (7, [.int 0, .int 0, .int 0, .int 0])), ((g8 4), .inr (7, [.int 0, .int 0, .int 0, .int 0]))]) C hK I hA [17] [0, 1, 2, 3, 4, 5, 6, 7, 8, 9, 10, 11, 12, 13, 14, 15, 16] rfl rfl rfl (by decide) (by decide) (by decide) (c_X1_init l D cI cC cS q9) ⟨Nat.le_of_ble_eq_true rfl, Nat.le_of_ble_eq_true rfl⟩ ⟨Nat.le_of_ble_eq_true rfl, Nat.le_of_ble_eq_true rfl⟩ mi_X1_init lk_X4_40 rfl hl.1 rfl (Nat.le_of_ble_eq_true rfl) dX4_init_146 (fun ws9 hp9 H locs I => ?_)
  obtain ⟨g10, rfl⟩ := hp9
  have I : Iw D [(h0, .inr (4, [.ref q1, .ref q2, .ref q3, .ref q4, .int 0, .int 40, .int 999, .int 480])), (q1, .inl (cI, 8, .inl wX4_init_q1_8)), (q2, .inl (cI, 8, .inl (fun _ => 0))), (q3, .inl (cI, 36, .inl wX4_init_q3_36)), (q4, .inl (cC, 6, .inr (.inr (.inr (.inr (va_up (va_up (fun _ => none) 0 (some q5)) 1 (some q7))))))), (q5, .inr (1, [.ref (g6 0), .int 0, .int 0, .int 0, .int 0, .int 0, .int 0, .int 0, .int 0, .int 0])), ((g6 0), .inl (cS, 4, .inr (.inr (.inr (.inr (va_up (va_up (va_up (va_up (fun _ => none) 0 (some (g6 1))) 1 (some (g6 2))) 2 (some (g6 3))) 3 (some (g6 4)))))))), ((g6 1), .inr (7, [.int 0, .int 0, .int 0, .int 0])), ((g6 2), .inr (7, [.int 0, .int 0, .int 0, .int 0])), ((g6 3), .inr (7, [.int 0, .int 0, .int 0, .int 0])), ((g6 4), .inr (7, [.int 0, .int 0, .int 0, .int 0])), (q7, .inr (1, [.ref (g8 0), .int 0, .int 0, .int 0, .int 0, .int 0, .int 0, .int 0, .int 0, .int 0])), ((g8 0), .inl (cS, 4, .inr (.inr (.inr (.inr (va_up (va_up (va_up (va_up (fun _ => none) 0 (some (g8 1))) 1 (some (g8 2))) 2 (some (g8 3))) 3 (some (g8 4)))))))), ((g8 1), .inr (7, [.int 0, .int 0, .int 0, .int 0])), ((g8 2), .inr (7, [.int 0, .int 0, .int 0, .int 0])), ((g8 3), .inr (7, [.int 0, .int 0, .int 0, .int 0])), ((g8 4), .inr (7, [.int 0, .int 0, .int 0, .int 0])), (q9, .inr (1, [.ref (g10 0), .int 0, .int 0, .int 0, .int 0, .int 0, .int 0, .int 0, .int 0, .int 0])), ((g10 0), .inl (cS, 4, .inr (.inr (.inr (.inr (va_up (va_up (va_up (va_up (fun _ => none) 0 (some (g10 1))) 1 (some (g10 2))) 2 (some (g10 3))) 3 (some (g10 4)))))))), ((g10 1), .inr (7, [.int 0, .int 0, .int 0, .int 0])), ((g10 2), .inr (7, [.int 0, .int 0, .int 0, .int 0])), ((g10 3), .inr (7, [.int 0, .int 0, .int 0, .int 0])), ((g10 4), .inr (7, [.int 0, .int 0, .int 0, .int 0]))] A s H _ := I
  refine n_asr C hK I 4 1 17 1 (r := (RX1, TX1, 10)) rfl rfl rfl rfl (by decide) (ws1 := [(h0, .inr (4, [.ref q1, .ref q2, .ref q3, .ref q4, .int 0, .int 40, .int 999, .int 480])), (q1, .inl (cI, 8, .inl wX4_init_q1_8)), (q2, .inl (cI, 8, .inl (fun _ => 0))), (q3, .inl (cI, 36, .inl wX4_init_q3_36)), (q4, .inl (cC, 6, .inr (.inr (.inr (.inr (va_up (va_up (va_up (fun _ => none) 0 (some q5)) 1 (some q7)) 2 (some q9))))))), (q5, .inr (1, [.ref (g6 0), .int 0, .int 0, .int 0, .int 0, .int 0, .int 0, .int 0, .int 0, .int 0])), ((g6 0), .inl (cS, 4, .inr (.inr (.inr (.inr (va_up (va_up (va_up (va_up (fun _ => none) 0 (some (g6 1))) 1 (some (g6 2))) 2 (some (g6 3))) 3 (some (g6 4)))))))), ((g6 1), .inr (7, [.int 0, .int 0, .int 0, .int 0])), ((g6 2), .inr (7, [.int 0, .int 0, .int 0, .int 0])), ((g6 3), .inr (7, [.int 0, .int 0, .int 0, .int 0])), ((g6 4), .inr (7, [.int 0, .int 0, .int 0, .int 0])), (q7, .inr (1, [.ref (g8 0), .int 0, .int 0, .int 0, .int 0, .int 0, .int 0, .int 0, .int 0, .int 0])), ((g8 0), .inl (cS, 4, .inr (.inr (.inr (.inr (va_up (va_up (va_up (va_up (fun _ => none) 0 (some (g8 1))) 1 (some (g8 2))) 2 (some (g8 3))) 3 (some (g8 4)))))))), ((g8 1), .inr (7, [.int 0, .int 0, .int 0, .int 0])), ((g8 2), .inr (7, [.int 0, .int 0, .int 0, .int 0])), ((g8 3), .inr (7, [.int 0, .int 0, .int 0, .int 0])), ((g8 4), .inr (7, [.int 0, .int 0, .int 0, .int 0])), (q9, .inr (1, [.ref (g10 0), .int 0, .int 0, .int 0, .int 0, .int 0, .int 0, .int 0, .int 0, .int 0])), ((g10 0), .inl (cS, 4, .inr (.inr (.inr (.inr (va_up (va_up (va_up (va_up (fun _ => none) 0 (some (g10 1))) 1 (some (g10 2))) 2 (some (g10 3))) 3 (some (g10 4)))))))), ((g10 1), .inr (7, [.int 0, .int 0, .int 0, .int 0])), ((g10 2), .inr (7, [.int 0, .int 0, .int 0, .int 0])), ((g10 3), .inr (7, [.int 0, .int 0, .int 0, .int 0])), ((g10 4), .inr (7, [.int 0, .int 0, .int 0, .int 0]))]) rfl dX4_init_149 (fun H locs I => ?_)
  refine lv_iinc (v := 3) (lv' := [(1, .int 3), (0, .ref h0)]) hx hb dX4_init_150 hl (k := 0) rfl (by decide) (by decide) rfl (fun ls hl => ?_)
  refine lv_goto (tgt := 128) hx hb dX4_init_153 (by decide) ?_
  refine lv_iload_n hx hb dX4_init_128 rfl (lv_at hl 0 rfl) ?_
  refine lv_aload_n hx hb dX4_init_129 rfl (lv_at hl 1 rfl) ?_
  refine n_get C hK I inT4 0 4 3 rfl rfl (by decide) rfl fl_X4_23 rfl dX4_init_130 ?_
  refine n_len C hK I 4 1 rfl rfl (v := 6) rfl dX4_init_133 ?_
  refine lv_icmp_ge (tgt := 156) hx hb dX4_init_134 (by decide) (fun q => absurd q (by decide)) (fun _ => ?_)
  refine lv_aload_n hx hb dX4_init_137 rfl (lv_at hl 1 rfl) ?_
  refine n_get C hK I inT4 0 4 3 rfl rfl (by decide) rfl fl_X4_23 rfl dX4_init_138 ?_
  refine lv_iload_n hx hb dX4_init_141 rfl (lv_at hl 0 rfl) ?_
  refine n_new (ci := 1) (fs := [.null, .int 0, .int 0, .int 0, .int 0, .int 0, .int 0, .int 0, .int 0, .int 0]) C hK I hA inT1 tyX1 tyX1_ok cl_X4_21 in_X1 ii_X1 rfl (fun j hj => match j, hj with | 0, _ => rfl | 1, _ => rfl | 2, _ => rfl | 3, _ => rfl | 4, _ => rfl | 5, _ => rfl | 6, _ => rfl | 7, _ => rfl | 8, _ => rfl | 9, _ => rfl | n + 10, h => absurd h (by omega)) (Nat.le_of_ble_eq_true rfl) (Nat.le_of_ble_eq_true rfl) dX4_init_142 (fun q11 H I => ?_)
  have I : Iw D [(h0, .inr (4, [.ref q1, .ref q2, .ref q3, .ref q4, .int 0, .int 40, .int 999, .int 480])), (q1, .inl (cI, 8, .inl wX4_init_q1_8)), (q2, .inl (cI, 8, .inl (fun _ => 0))), (q3, .inl (cI, 36, .inl wX4_init_q3_36)), (q4, .inl (cC, 6, .inr (.inr (.inr (.inr (va_up (va_up (va_up (fun _ => none) 0 (some q5)) 1 (some q7)) 2 (some q9))))))), (q5, .inr (1, [.ref (g6 0), .int 0, .int 0, .int 0, .int 0, .int 0, .int 0, .int 0, .int 0, .int 0])), ((g6 0), .inl (cS, 4, .inr (.inr (.inr (.inr (va_up (va_up (va_up (va_up (fun _ => none) 0 (some (g6 1))) 1 (some (g6 2))) 2 (some (g6 3))) 3 (some (g6 4)))))))), ((g6 1), .inr (7, [.int 0, .int 0, .int 0, .int 0])), ((g6 2), .inr (7, [.int 0, .int 0, .int 0, .int 0])), ((g6 3), .inr (7, [.int 0, .int 0, .int 0, .int 0])), ((g6 4), .inr (7, [.int 0, .int 0, .int 0, .int 0])), (q7, .inr (1, [.ref (g8 0), .int 0, .int 0, .int 0, .int 0, .int 0, .int 0, .int 0, .int 0, .int 0])), ((g8 0), .inl (cS, 4, .inr (.inr (.inr (.inr (va_up (va_up (va_up (va_up (fun _ => none) 0 (some (g8 1))) 1 (some (g8 2))) 2 (some (g8 3))) 3 (some (g8 4)))))))), ((g8 1), .inr (7, [.int 0, .int 0, .int 0, .int 0])), ((g8 2), .inr (7, [.int 0, .int 0, .int 0, .int 0])), ((g8 3), .inr (7, [.int 0, .int 0, .int 0, .int 0])), ((g8 4), .inr (7, [.int 0, .int 0, .int 0, .int 0])), (q9, .inr (1, [.ref (g10 0), .int 0, .int 0, .int 0, .int 0, .int 0, .int 0, .int 0, .int 0, .int 0])), ((g10 0), .inl (cS, 4, .inr (.inr (.inr (.inr (va_up (va_up (va_up (va_up (fun _ => none) 0 (some (g10 1))) 1 (some (g10 2))) 2 (some (g10 3))) 3 (some (g10 4)))))))), ((g10 1), .inr (7, [.int 0, .int 0, .int 0, .int 0])), ((g10 2), .inr (7, [.int 0, .int 0, .int 0, .int 0])), ((g10 3), .inr (7, [.int 0, .int 0, .int 0, .int 0])), ((g10 4), .inr (7, [.int 0, .int 0, .int 0, .int 0])), (q11, .inr (1, [.null, .int 0, .int 0, .int 0, .int 0, .int 0, .int 0, .int 0, .int 0, .int 0]))] A s H _ := I
  refine lv_dup hx hb dX4_init_145 rfl ?_
  refine n_I (As := []) (rest := [.ref q11, .int 3, .ref q4]) (wc := [(q11, .inr (1, [.null, .int 0, .int 0, .int 0, .int 0, .int 0, .int 0, .int 0, .int 0, .int 0]))]) (wr := [(h0, .inr (4, [.ref q1, .ref q2, .ref q3, .ref q4, .int 0, .int 40, .int 999, .int 480])), (q1, .inl (cI, 8, .inl wX4_init_q1_8)), (q2, .inl (cI, 8, .inl (fun _ => 0))), (q3, .inl (cI, 36, .inl wX4_init_q3_36)), (q4, .inl (cC, 6, .inr (.inr (.inr (.inr (va_up (va_up (va_up (fun _ => none) 0 (some q5)) 1 (some q7)) 2 (some q9))))))), (q5, .inr (1, [.ref (g6 0), .int 0, .int 0, .int 0, .int 0, .int 0, .int 0, .int 0, .int 0, .int 0])), ((g6 0), .inl (cS, 4, .inr (.inr (.inr (.inr (va_up (va_up (va_up (va_up (fun _ => none) 0 (some (g6 1))) 1 (some (g6 2))) 2 (some (g6 3))) 3 (some (g6 4)))))))), ((g6 1), .inr (7, [.int 0, .int 0, .int 0, .int 0])), ((g6 2), .inr (7, [.int 0, .int 0, .int 0, .int 0])), ((g6 3), .inr (7, [.int 0, .int 0, .int 0, .int 0])), ((g6 4), .inr (7, [.int 0, .int 0, .int 0, .int 0])), (q7, .inr (1, [.ref (g8 0), .int 0, .int 0, .int 0, .int 0, .int 0, .int 0, .int 0, .int 0, .int 0])), ((g8 0), .inl (cS, 4, .inr (.inr (.inr (.inr (va_up (va_up (va_up (va_up (fun _ => none) 0 (some (g8 1))) 1 (some (g8 2))) 2 (some (g8 3))) 3 (some (g8 4)))))))), ((g8 1), .inr (7, [.int 0, .int 0, .int 0, .int 0])), ((g8 2), .inr (7, [.int 0, .int 0, .int 0, .int 0])), ((g8 3), .inr (7, [.int 0, .int 0, .int 0, .int 0])), ((g8 4), .inr (7, [.int 0, .int 0, .int 0, .int 0])), (q9, .inr (1, [.ref (g10 0), .int 0, .int 0, .int 0, .int 0, .int 0, .int 0, .int 0, .int 0, .int 0])), ((g10 0), .inl (cS, 4, .inr (.inr (.inr (.inr (va_up (va_up (va_up (va_up (fun _ => none) 0 (some (g10 1))) 1 (some (g10 2))) 2 (some (g10 3))) 3 (some (g10 4)))))))), ((g10 1), .inr (7, [.int 0, .int 0, .int 0, .int 0])), ((g10 2), .inr (7, [.int 0, .int 0, .int 0, .int 0])), ((g10 3), .inr (7, [.int 0, .int 0, .int 0, .int 0])), ((g10 4), .inr (7, [.int 0, .int 0, .int 0, .int 0]))]) C hK I hA [23] [0, 1, 2, 3, 4, 5, 6, 7, 8, 9, 10, 11, 12, 13, 14, 15, 16, 17, 18, 19, 20, 21, 22] rfl rfl rfl (by decide) (by decide) (by decide) (c_X1_init l D cI cC cS q11) ⟨Nat.le_of_ble_eq_true rfl, Nat.le_of_ble_eq_true rfl⟩ ⟨Nat.le_of_ble_eq_true rfl, Nat.le_of_ble_eq_true rfl⟩ mi_X1_init lk_X4_40 rfl hl.1 rfl (Nat.le_of_ble_eq_true rfl) dX4_init_146 (fun ws9 hp9 H locs I => ?_)
  obtain ⟨g12, rfl⟩ := hp9
  have I : Iw D [(h0, .inr (4, [.ref q1, .ref q2, .ref q3, .ref q4, .int 0, .int 40, .int 999, .int 480])), (q1, .inl (cI, 8, .inl wX4_init_q1_8)), (q2, .inl (cI, 8, .inl (fun _ => 0))), (q3, .inl (cI, 36, .inl wX4_init_q3_36)), (q4, .inl (cC, 6, .inr (.inr (.inr (.inr (va_up (va_up (va_up (fun _ => none) 0 (some q5)) 1 (some q7)) 2 (some q9))))))), (q5, .inr (1, [.ref (g6 0), .int 0, .int 0, .int 0, .int 0, .int 0, .int 0, .int 0, .int 0, .int 0])), ((g6 0), .inl (cS, 4, .inr (.inr (.inr (.inr (va_up (va_up (va_up (va_up (fun _ => none) 0 (some (g6 1))) 1 (some (g6 2))) 2 (some (g6 3))) 3 (some (g6 4)))))))), ((g6 1), .inr (7, [.int 0, .int 0, .int 0, .int 0])), ((g6 2), .inr (7, [.int 0, .int 0, .int 0, .int 0])), ((g6 3), .inr (7, [.int 0, .int 0, .int 0, .int 0])), ((g6 4), .inr (7, [.int 0, .int 0, .int 0, .int 0])), (q7, .inr (1, [.ref (g8 0), .int 0, .int 0, .int 0, .int 0, .int 0, .int 0, .int 0, .int 0, .int 0])), ((g8 0), .inl (cS, 4, .inr (.inr (.inr (.inr (va_up (va_up (va_up (va_up (fun _ => none) 0 (some (g8 1))) 1 (some (g8 2))) 2 (some (g8 3))) 3 (some (g8 4)))))))), ((g8 1), .inr (7, [.int 0, .int 0, .int 0, .int 0])), ((g8 2), .inr (7, [.int 0, .int 0, .int 0, .int 0])), ((g8 3), .inr (7, [.int 0, .int 0, .int 0, .int 0])), ((g8 4), .inr (7, [.int 0, .int 0, .int 0, .int 0])), (q9, .inr (1, [.ref (g10 0), .int 0, .int 0, .int 0, .int 0, .int 0, .int 0, .int 0, .int 0, .int 0])), ((g10 0), .inl (cS, 4, .inr (.inr (.inr (.inr (va_up (va_up (va_up (va_up (fun _ => none) 0 (some (g10 1))) 1 (some (g10 2))) 2 (some (g10 3))) 3 (some (g10 4)))))))), ((g10 1), .inr (7, [.int 0, .int 0, .int 0, .int 0])), ((g10 2), .inr (7, [.int 0, .int 0, .int 0, .int 0])), ((g10 3), .inr (7, [.int 0, .int 0, .int 0, .int 0])), ((g10 4), .inr (7, [.int 0, .int 0, .int 0, .int 0])), (q11, .inr (1, [.ref (g12 0), .int 0, .int 0, .int 0, .int 0, .int 0, .int 0, .int 0, .int 0, .int 0])), ((g12 0), .inl (cS, 4, .inr (.inr (.inr (.inr (va_up (va_up (va_up (va_up (fun _ => none) 0 (some (g12 1))) 1 (some (g12 2))) 2 (some (g12 3))) 3 (some (g12 4)))))))), ((g12 1), .inr (7, [.int 0, .int 0, .int 0, .int 0])), ((g12 2), .inr (7, [.int 0, .int 0, .int 0, .int 0])), ((g12 3), .inr (7, [.int 0, .int 0, .int 0, .int 0])), ((g12 4), .inr (7, [.int 0, .int 0, .int 0, .int 0]))] A s H _ := I
  refine n_asr C hK I 4 1 23 1 (r := (RX1, TX1, 10)) rfl rfl rfl rfl (by decide) (ws1 := [(h0, .inr (4, [.ref q1, .ref q2, .ref q3, .ref q4, .int 0, .int 40, .int 999, .int 480])), (q1, .inl (cI, 8, .inl wX4_init_q1_8)), (q2, .inl (cI, 8, .inl (fun _ => 0))), (q3, .inl (cI, 36, .inl wX4_init_q3_36)), (q4, .inl (cC, 6, .inr (.inr (.inr (.inr (va_up (va_up (va_up (va_up (fun _ => none) 0 (some q5)) 1 (some q7)) 2 (some q9)) 3 (some q11))))))), (q5, .inr (1, [.ref (g6 0), .int 0, .int 0, .int 0, .int 0, .int 0, .int 0, .int 0, .int 0, .int 0])), ((g6 0), .inl (cS, 4, .inr (.inr (.inr (.inr (va_up (va_up (va_up (va_up (fun _ => none) 0 (some (g6 1))) 1 (some (g6 2))) 2 (some (g6 3))) 3 (some (g6 4)))))))), ((g6 1), .inr (7, [.int 0, .int 0, .int 0, .int 0])), ((g6 2), .inr (7, [.int 0, .int 0, .int 0, .int 0])), ((g6 3), .inr (7, [.int 0, .int 0, .int 0, .int 0])), ((g6 4), .inr (7, [.int 0, .int 0, .int 0, .int 0])), (q7, .inr (1, [.ref (g8 0), .int 0, .int 0, .int 0, .int 0, .int 0, .int 0, .int 0, .int 0, .int 0])), ((g8 0), .inl (cS, 4, .inr (.inr (.inr (.inr (va_up (va_up (va_up (va_up (fun _ => none) 0 (some (g8 1))) 1 (some (g8 2))) 2 (some (g8 3))) 3 (some (g8 4)))))))), ((g8 1), .inr (7, [.int 0, .int 0, .int 0, .int 0])), ((g8 2), .inr (7, [.int 0, .int 0, .int 0, .int 0])), ((g8 3), .inr (7, [.int 0, .int 0, .int 0, .int 0])), ((g8 4), .inr (7, [.int 0, .int 0, .int 0, .int 0])), (q9, .inr (1, [.ref (g10 0), .int 0, .int 0, .int 0, .int 0, .int 0, .int 0, .int 0, .int 0, .int 0])), ((g10 0), .inl (cS, 4, .inr (.inr (.inr (.inr (va_up (va_up (va_up (va_up (fun _ => none) 0 (some (g10 1))) 1 (some (g10 2))) 2 (some (g10 3))) 3 (some (g10 4)))))))), ((g10 1), .inr (7, [.int 0, .int 0, .int 0, .int 0])), ((g10 2), .inr (7, [.int 0, .int 0, .int 0, .int 0])), ((g10 3), .inr (7, [.int 0, .int 0, .int 0, .int 0])), ((g10 4), .inr (7, [.int 0, .int 0, .int 0, .int 0])), (q11, .inr (1, [.ref (g12 0), .int 0, .int 0, .int 0, .int 0, .int 0, .int 0, .int 0, .int 0, .int 0])), ((g12 0), .inl (cS, 4, .inr (.inr (.inr (.inr (va_up (va_up (va_up (va_up (fun _ => none) 0 (some (g12 1))) 1 (some (g12 2))) 2 (some (g12 3))) 3 (some (g12 4)))))))), ((g12 1), .inr (7, [.int 0, .int 0, .int 0, .int 0])), ((g12 2), .inr (7, [.int 0, .int 0, .int 0, .int 0])), ((g12 3), .inr (7, [.int 0, .int 0, .int 0, .int 0])), ((g12 4), .inr (7, [.int 0, .int 0, .int 0, .int 0]))]) rfl dX4_init_149 (fun H locs I => ?_)
  refine lv_iinc (v := 4) (lv' := [(1, .int 4), (0, .ref h0)]) hx hb dX4_init_150 hl (k := 0) rfl (by decide) (by decide) rfl (fun ls hl => ?_)
  refine lv_goto (tgt := 128) hx hb dX4_init_153 (by decide) ?_
  refine lv_iload_n hx hb dX4_init_128 rfl (lv_at hl 0 rfl) ?_
  refine lv_aload_n hx hb dX4_init_129 rfl (lv_at hl 1 rfl) ?_
  refine n_get C hK I inT4 0 4 3 rfl rfl (by decide) rfl fl_X4_23 rfl dX4_init_130 ?_
  refine n_len C hK I 4 1 rfl rfl (v := 6) rfl dX4_init_133 ?_
  refine lv_icmp_ge (tgt := 156) hx hb dX4_init_134 (by decide) (fun q => absurd q (by decide)) (fun _ => ?_)
  refine lv_aload_n hx hb dX4_init_137 rfl (lv_at hl 1 rfl) ?_
  refine n_get C hK I inT4 0 4 3 rfl rfl (by decide) rfl fl_X4_23 rfl dX4_init_138 ?_
  refine lv_iload_n hx hb dX4_init_141 rfl (lv_at hl 0 rfl) ?_
  refine n_new (ci := 1) (fs := [.null, .int 0, .int 0, .int 0, .int 0, .int 0, .int 0, .int 0, .int 0, .int 0]) C hK I hA inT1 tyX1 tyX1_ok cl_X4_21 in_X1 ii_X1 rfl (fun j hj => match j, hj with | 0, _ => rfl | 1, _ => rfl | 2, _ => rfl | 3, _ => rfl | 4, _ => rfl | 5, _ => rfl | 6, _ => rfl | 7, _ => rfl | 8, _ => rfl | 9, _ => rfl | n + 10, h => absurd h (by omega)) (Nat.le_of_ble_eq_true rfl) (Nat.le_of_ble_eq_true rfl) dX4_init_142 (fun q13 H I => ?_)
  have I : Iw D [(h0, .inr (4, [.ref q1, .ref q2, .ref q3, .ref q4, .int 0, .int 40, .int 999, .int 480])), (q1, .inl (cI, 8, .inl wX4_init_q1_8)), (q2, .inl (cI, 8, .inl (fun _ => 0))), (q3, .inl (cI, 36, .inl wX4_init_q3_36)), (q4, .inl (cC, 6, .inr (.inr (.inr (.inr (va_up (va_up (va_up (va_up (fun _ => none) 0 (some q5)) 1 (some q7)) 2 (some q9)) 3 (some q11))))))), (q5, .inr (1, [.ref (g6 0), .int 0, .int 0, .int 0, .int 0, .int 0, .int 0, .int 0, .int 0, .int 0])), ((g6 0), .inl (cS, 4, .inr (.inr (.inr (.inr (va_up (va_up (va_up (va_up (fun _ => none) 0 (some (g6 1))) 1 (some (g6 2))) 2 (some (g6 3))) 3 (some (g6 4)))))))), ((g6 1), .inr (7, [.int 0, .int 0, .int 0, .int 0])), ((g6 2), .inr (7, [.int 0, .int 0, .int 0, .int 0])), ((g6 3), .inr (7, [.int 0, .int 0, .int 0, .int 0])), ((g6 4), .inr (7, [.int 0, .int 0, .int 0, .int 0])), (q7, .inr (1, [.ref (g8 0), .int 0, .int 0, .int 0, .int 0, .int 0, .int 0, .int 0, .int 0, .int 0])), ((g8 0), .inl (cS, 4, .inr (.inr (.inr (.inr (va_up (va_up (va_up (va_up (fun _ => none) 0 (some (g8 1))) 1 (some (g8 2))) 2 (some (g8 3))) 3 (some (g8 4)))))))), ((g8 1), .inr (7, [.int 0, .int 0, .int 0, .int 0])), ((g8 2), .inr (7, [.int 0, .int 0, .int 0, .int 0])), ((g8 3), .inr (7, [.int 0, .int 0, .int 0, .int 0])), ((g8 4), .inr (7, [.int 0, .int 0, .int 0, .int 0])), (q9, .inr (1, [.ref (g10 0), .int 0, .int 0, .int 0, .int 0, .int 0, .int 0, .int 0, .int 0, .int 0])), ((g10 0), .inl (cS, 4, .inr (.inr (.inr (.inr (va_up (va_up (va_up (va_up (fun _ => none) 0 (some (g10 1))) 1 (some (g10 2))) 2 (some (g10 3))) 3 (some (g10 4)))))))), ((g10 1), .inr (7, [.int 0, .int 0, .int 0, .int 0])), ((g10 2), .inr (7, [.int 0, .int 0, .int 0, .int 0])), ((g10 3), .inr (7, [.int 0, .int 0, .int 0, .int 0])), ((g10 4), .inr (7, [.int 0, .int 0, .int 0, .int 0])), (q11, .inr (1, [.ref (g12 0), .int 0, .int 0, .int 0, .int 0, .int 0, .int 0, .int 0, .int 0, .int 0])), ((g12 0), .inl (cS, 4, .inr (.inr (.inr (.inr (va_up (va_up (va_up (va_up (fun _ => none) 0 (some (g12 1))) 1 (some (g12 2))) 2 (some (g12 3))) 3 (some (g12 4)))))))), ((g12 1), .inr (7, [.int 0, .int 0, .int 0, .int 0])), ((g12 2), .inr (7, [.int 0, .int 0, .int 0, .int 0])), ((g12 3), .inr (7, [.int 0, .int 0, .int 0, .int 0])), ((g12 4), .inr (7, [.int 0, .int 0, .int 0, .int 0])), (q13, .inr (1, [.null, .int 0, .int 0, .int 0, .int 0, .int 0, .int 0, .int 0, .int 0, .int 0]))] A s H _ := I
  refine lv_dup hx hb dX4_init_145 rfl ?_
  refine n_I (As := []) (rest := [.ref q13, .int 4, .ref q4]) (wc := [(q13, .inr (1, [.null, .int 0, .int 0, .int 0, .int 0, .int 0, .int 0, .int 0, .int 0, .int 0]))]) (wr := [(h0, .inr (4, [.ref q1, .ref q2, .ref q3, .ref q4, .int 0, .int 40, .int 999, .int 480])), (q1, .inl (cI, 8, .inl wX4_init_q1_8)), (q2, .inl (cI, 8, .inl (fun _ => 0))), (q3, .inl (cI, 36, .inl wX4_init_q3_36)), (q4, .inl (cC, 6, .inr (.inr (.inr (.inr (va_up (va_up (va_up (va_up (fun _ => none) 0 (some q5)) 1 (some q7)) 2 (some q9)) 3 (some q11))))))), (q5, .inr (1, [.ref (g6 0), .int 0, .int 0, .int 0, .int 0, .int 0, .int 0, .int 0, .int 0, .int 0])), ((g6 0), .inl (cS, 4, .inr (.inr (.inr (.inr (va_up (va_up (va_up (va_up (fun _ => none) 0 (some (g6 1))) 1 (some (g6 2))) 2 (some (g6 3))) 3 (some (g6 4)))))))), ((g6 1), .inr (7, [.int 0, .int 0, .int 0, .int 0])), ((g6 2), .inr (7, [.int 0, .int 0, .int 0, .int 0])), ((g6 3), .inr (7, [.int 0, .int 0, .int 0, .int 0])), ((g6 4), .inr (7, [.int 0, .int 0, .int 0, .int 0])), (q7, .inr (1, [.ref (g8 0), .int 0, .int 0, .int 0, .int 0, .int 0, .int 0, .int 0, .int 0, .int 0])), ((g8 0), .inl (cS, 4, .inr (.inr (.inr (.inr (va_up (va_up (va_up (va_up (fun _ => none) 0 (some (g8 1))) 1 (some (g8 2))) 2 (some (g8 3))) 3 (some (g8 4)))))))), ((g8 1), .inr (7, [.int 0, .int 0, .int 0, .int 0])), ((g8 2), .inr (7, [.int 0, .int 0, .int 0, .int 0])), ((g8 3), .inr (7, [.int 0, .int 0, .int 0, .int 0])), ((g8 4), .inr (7, [.int 0, .int 0, .int 0, .int 0])), (q9, .inr (1, [.ref (g10 0), .int 0, .int 0, .int 0, .int 0, .int 0, .int 0, .int 0, .int 0, .int 0])), ((g10 0), .inl (cS, 4, .inr (.inr (.inr (.inr (va_up (va_up (va_up (va_up (fun _ => none) 0 (some (g10 1))) 1 (some (g10 2))) 2 (some (g10 3))) 3 (some (g10 4)))))))), ((g10 1), .inr (7, [.int 0, .int 0, .int 0, .int 0])), ((g10 2), .inr (7, [.int 0, .int 0, .int 0, .int 0])), ((g10 3), .inr (7, [.int 0, .int 0, .int 0, .int 0])), ((g10 4), .inr (7, [.int 0, .int 0, .int 0, .int 0])), (q11, .inr (1, [.ref (g12 0), .int 0, .int 0, .int 0, .int 0, .int 0, .int 0, .int 0, .int 0, .int 0])), ((g12 0), .inl (cS, 4, .inr (.inr (.inr (.inr (va_up (va_up (va_up (va_up (fun _ => none) 0 (some (g12 1))) 1 (some (g12 2))) 2 (some (g12 3))) 3 (some (g12 4)))))))), ((g12 1), .inr (7, [.int 0, .int 0, .int 0, .int 0])), ((g12 2), .inr (7, [.int 0, .int 0, .int 0, .int 0])), ((g12 3), .inr (7, [.int 0, .int 0, .int 0, .int 0])), ((g12 4), .inr (7, [.int 0, .int 0, .int 0, .int 0]))]) C hK I hA [29] [0, 1, 2, 3, 4, 5, 6, 7, 8, 9, 10, 11, 12, 13, 14, 15, 16, 17, 18, 19, 20, 21, 22, 23, 24, 25, 26, 27, 28] rfl rfl rfl (by decide) (by decide) (by decide) (c_X1_init l D cI cC cS q13) ⟨Nat.le_of_ble_eq_true rfl, Nat.le_of_ble_eq_true rfl⟩ ⟨Nat.le_of_ble_eq_true rfl, Nat.le_of_ble_eq_true rfl⟩ mi_X1_init lk_X4_40 rfl hl.1 rfl (Nat.le_of_ble_eq_true rfl) dX4_init_146 (fun ws9 hp9 H locs I => ?_)
  obtain ⟨g14, rfl⟩ := hp9
  have I : Iw D [(h0, .inr (4, [.ref q1, .ref q2, .ref q3, .ref q4, .int 0, .int 40, .int 999, .int 480])), (q1, .inl (cI, 8, .inl wX4_init_q1_8)), (q2, .inl (cI, 8, .inl (fun _ => 0))), (q3, .inl (cI, 36, .inl wX4_init_q3_36)), (q4, .inl (cC, 6, .inr (.inr (.inr (.inr (va_up (va_up (va_up (va_up (fun _ => none) 0 (some q5)) 1 (some q7)) 2 (some q9)) 3 (some q11))))))), (q5, .inr (1, [.ref (g6 0), .int 0, .int 0, .int 0, .int 0, .int 0, .int 0, .int 0, .int 0, .int 0])), ((g6 0), .inl (cS, 4, .inr (.inr (.inr (.inr (va_up (va_up (va_up (va_up (fun _ => none) 0 (some (g6 1))) 1 (some (g6 2))) 2 (some (g6 3))) 3 (some (g6 4)))))))), ((g6 1), .inr (7, [.int 0, .int 0, .int 0, .int 0])), ((g6 2), .inr (7, [.int 0, .int 0, .int 0, .int 0])), ((g6 3), .inr (7, [.int 0, .int 0, .int 0, .int 0])), ((g6 4), .inr (7, [.int 0, .int 0, .int 0, .int 0])), (q7, .inr (1, [.ref (g8 0), .int 0, .int 0, .int 0, .int 0, .int 0, .int 0, .int 0, .int 0, .int 0])), ((g8 0), .inl (cS, 4, .inr (.inr (.inr (.inr (va_up (va_up (va_up (va_up (fun _ => none) 0 (some (g8 1))) 1 (some (g8 2))) 2 (some (g8 3))) 3 (some (g8 4)))))))), ((g8 1), .inr (7, [.int 0, .int 0, .int 0, .int 0])), ((g8 2), .inr (7, [.int 0, .int 0, .int 0, .int 0])), ((g8 3), .inr (7, [.int 0, .int 0, .int 0, .int 0])), ((g8 4), .inr (7, [.int 0, .int 0, .int 0, .int 0])), (q9, .inr (1, [.ref (g10 0), .int 0, .int 0, .int 0, .int 0, .int 0, .int 0, .int 0, .int 0, .int 0])), ((g10 0), .inl (cS, 4, .inr (.inr (.inr (.inr (va_up (va_up (va_up (va_up (fun _ => none) 0 (some (g10 1))) 1 (some (g10 2))) 2 (some (g10 3))) 3 (some (g10 4)))))))), ((g10 1), .inr (7, [.int 0, .int 0, .int 0, .int 0])), ((g10 2), .inr (7, [.int 0, .int 0, .int 0, .int 0])), ((g10 3), .inr (7, [.int 0, .int 0, .int 0, .int 0])), ((g10 4), .inr (7, [.int 0, .int 0, .int 0, .int 0])), (q11, .inr (1, [.ref (g12 0), .int 0, .int 0, .int 0, .int 0, .int 0, .int 0, .int 0, .int 0, .int 0])), ((g12 0), .inl (cS, 4, .inr (.inr (.inr (.inr (va_up (va_up (va_up (va_up (fun _ => none) 0 (some (g12 1))) 1 (some (g12 2))) 2 (some (g12 3))) 3 (some (g12 4)))))))), ((g12 1), .inr (7, [.int 0, .int 0, .int 0, .int 0])), ((g12 2), .inr (7, [.int 0, .int 0, .int 0, .int 0])), ((g12 3), .inr (7, [.int 0, .int 0, .int 0, .int 0])), ((g12 4), .inr (7, [.int 0, .int 0, .int 0, .int 0])), (q13, .inr (1, [.ref (g14 0), .int 0, .int 0, .int 0, .int 0, .int 0, .int 0, .int 0, .int 0, .int 0])), ((g14 0), .inl (cS, 4, .inr (.inr (.inr (.inr (va_up (va_up (va_up (va_up (fun _ => none) 0 (some (g14 1))) 1 (some (g14 2))) 2 (some (g14 3))) 3 (some (g14 4)))))))), ((g14 1), .inr (7, [.int 0, .int 0, .int 0, .int 0])), ((g14 2), .inr (7, [.int 0, .int 0, .int 0, .int 0])), ((g14 3), .inr (7, [.int 0, .int 0, .int 0, .int 0])), ((g14 4), .inr (7, [.int 0, .int 0, .int 0, .int 0]))] A s H _ := I
  refine n_asr C hK I 4 1 29 1 (r := (RX1, TX1, 10)) rfl rfl rfl rfl (by decide) (ws1 := [(h0, .inr (4, [.ref q1, .ref q2, .ref q3, .ref q4, .int 0, .int 40, .int 999, .int 480])), (q1, .inl (cI, 8, .inl wX4_init_q1_8)), (q2, .inl (cI, 8, .inl (fun _ => 0))), (q3, .inl (cI, 36, .inl wX4_init_q3_36)), (q4, .inl (cC, 6, .inr (.inr (.inr (.inr (va_up (va_up (va_up (va_up (va_up (fun _ => none) 0 (some q5)) 1 (some q7)) 2 (some q9)) 3 (some q11)) 4 (some q13))))))), (q5, .inr (1, [.ref (g6 0), .int 0, .int 0, .int 0, .int 0, .int 0, .int 0, .int 0, .int 0, .int 0])), ((g6 0), .inl (cS, 4, .inr (.inr (.inr (.inr (va_up (va_up (va_up (va_up (fun _ => none) 0 (some (g6 1))) 1 (some (g6 2))) 2 (some (g6 3))) 3 (some (g6 4)))))))), ((g6 1), .inr (7, [.int 0, .int 0, .int 0, .int 0])), ((g6 2), .inr (7, [.int 0, .int 0, .int 0, .int 0])), ((g6 3), .inr (7, [.int 0, .int 0, .int 0, .int 0])), ((g6 4), .inr (7, [.int 0, .int 0, .int 0, .int 0])), (q7, .inr (1, [.ref (g8 0), .int 0, .int 0, .int 0, .int 0, .int 0, .int 0, .int 0, .int 0, .int 0])), ((g8 0), .inl (cS, 4, .inr (.inr (.inr (.inr (va_up (va_up (va_up (va_up (fun _ => none) 0 (some (g8 1))) 1 (some (g8 2))) 2 (some (g8 3))) 3 (some (g8 4)))))))), ((g8 1), .inr (7, [.int 0, .int 0, .int 0, .int 0])), ((g8 2), .inr (7, [.int 0, .int 0, .int 0, .int 0])), ((g8 3), .inr (7, [.int 0, .int 0, .int 0, .int 0])), ((g8 4), .inr (7, [.int 0, .int 0, .int 0, .int 0])), (q9, .inr (1, [.ref (g10 0), .int 0, .int 0, .int 0, .int 0, .int 0, .int 0, .int 0, .int 0, .int 0])), ((g10 0), .inl (cS, 4, .inr (.inr (.inr (.inr (va_up (va_up (va_up (va_up (fun _ => none) 0 (some (g10 1))) 1 (some (g10 2))) 2 (some (g10 3))) 3 (some (g10 4)))))))), ((g10 1), .inr (7, [.int 0, .int 0, .int 0, .int 0])), ((g10 2), .inr (7, [.int 0, .int 0, .int 0, .int 0])), ((g10 3), .inr (7, [.int 0, .int 0, .int 0, .int 0])), ((g10 4), .inr (7, [.int 0, .int 0, .int 0, .int 0])), (q11, .inr (1, [.ref (g12 0), .int 0, .int 0, .int 0, .int 0, .int 0, .int 0, .int 0, .int 0, .int 0])), ((g12 0), .inl (cS, 4, .inr (.inr (.inr (.inr (va_up (va_up (va_up (va_up (fun _ => none) 0 (some (g12 1))) 1 (some (g12 2))) 2 (some (g12 3))) 3 (some (g12 4)))))))), ((g12 1), .inr (7, [.int 0, .int 0, .int 0, .int 0])), ((g12 2), .inr (7, [.int 0, .int 0, .int 0, .int 0])), ((g12 3), .inr (7, [.int 0, .int 0, .int 0, .int 0])), ((g12 4), .inr (7, [.int 0, .int 0, .int 0, .int 0])), (q13, .inr (1, [.ref (g14 0), .int 0, .int 0, .int 0, .int 0, .int 0, .int 0, .int 0, .int 0, .int 0])), ((g14 0), .inl (cS, 4, .inr (.inr (.inr (.inr (va_up (va_up (va_up (va_up (fun _ => none) 0 (some (g14 1))) 1 (some (g14 2))) 2 (some (g14 3))) 3 (some (g14 4)))))))), ((g14 1), .inr (7, [.int 0, .int 0, .int 0, .int 0])), ((g14 2), .inr (7, [.int 0, .int 0, .int 0, .int 0])), ((g14 3), .inr (7, [.int 0, .int 0, .int 0, .int 0])), ((g14 4), .inr (7, [.int 0, .int 0, .int 0, .int 0]))]) rfl dX4_init_149 (fun H locs I => ?_)
  refine lv_iinc (v := 5) (lv' := [(1, .int 5), (0, .ref h0)]) hx hb dX4_init_150 hl (k := 0) rfl (by decide) (by decide) rfl (fun ls hl => ?_)
  refine lv_goto (tgt := 128) hx hb dX4_init_153 (by decide) ?_
  refine lv_iload_n hx hb dX4_init_128 rfl (lv_at hl 0 rfl) ?_
  refine lv_aload_n hx hb dX4_init_129 rfl (lv_at hl 1 rfl) ?_
  refine n_get C hK I inT4 0 4 3 rfl rfl (by decide) rfl fl_X4_23 rfl dX4_init_130 ?_
  refine n_len C hK I 4 1 rfl rfl (v := 6) rfl dX4_init_133 ?_
  refine lv_icmp_ge (tgt := 156) hx hb dX4_init_134 (by decide) (fun q => absurd q (by decide)) (fun _ => ?_)
  refine lv_aload_n hx hb dX4_init_137 rfl (lv_at hl 1 rfl) ?_
  refine n_get C hK I inT4 0 4 3 rfl rfl (by decide) rfl fl_X4_23 rfl dX4_init_138 ?_
  refine lv_iload_n hx hb dX4_init_141 rfl (lv_at hl 0 rfl) ?_
  refine n_new (ci := 1) (fs := [.null, .int 0, .int 0, .int 0, .int 0, .int 0, .int 0, .int 0, .int 0, .int 0]) C hK I hA inT1 tyX1 tyX1_ok cl_X4_21 in_X1 ii_X1 rfl (fun j hj => match j, hj with | 0, _ => rfl | 1, _ => rfl | 2, _ => rfl | 3, _ => rfl | 4, _ => rfl | 5, _ => rfl | 6, _ => rfl | 7, _ => rfl | 8, _ => rfl | 9, _ => rfl | n + 10, h => absurd h (by omega)) (Nat.le_of_ble_eq_true rfl) (Nat.le_of_ble_eq_true rfl) dX4_init_142 (fun q15 H I => ?_)
  have I : Iw D [(h0, .inr (4, [.ref q1, .ref q2, .ref q3, .ref q4, .int 0, .int 40, .int 999, .int 480])), (q1, .inl (cI, 8, .inl wX4_init_q1_8)), (q2, .inl (cI, 8, .inl (fun _ => 0))), (q3, .inl (cI, 36, .inl wX4_init_q3_36)), (q4, .inl (cC, 6, .inr (.inr (.inr (.inr (va_up (va_up (va_up (va_up (va_up (fun _ => none) 0 (some q5)) 1 (some q7)) 2 (some q9)) 3 (some q11)) 4 (some q13))))))), (q5, .inr (1, [.ref (g6 0), .int 0, .int 0, .int 0, .int 0, .int 0, .int 0, .int 0, .int 0, .int 0])), ((g6 0), .inl (cS, 4, .inr (.inr (.inr (.inr (va_up (va_up (va_up (va_up (fun _ => none) 0 (some (g6 1))) 1 (some (g6 2))) 2 (some (g6 3))) 3 (some (g6 4)))))))), ((g6 1), .inr (7, [.int 0, .int 0, .int 0, .int 0])), ((g6 2), .inr (7, [.int 0, .int 0, .int 0, .int 0])), ((g6 3), .inr (7, [.int 0, .int 0, .int 0, .int 0])), ((g6 4), .inr (7, [.int 0, .int 0, .int 0, .int 0])), (q7, .inr (1, [.ref (g8 0), .int 0, .int 0, .int 0, .int 0, .int 0, .int 0, .int 0, .int 0, .int 0])), ((g8 0), .inl (cS, 4, .inr (.inr (.inr (.inr (va_up (va_up (va_up (va_up (fun _ => none) 0 (some (g8 1))) 1 (some (g8 2))) 2 (some (g8 3))) 3 (some (g8 4)))))))), ((g8 1), .inr (7, [.int 0, .int 0, .int 0, .int 0])), ((g8 2), .inr (7, [.int 0, .int 0, .int 0, .int 0])), ((g8 3), .inr (7, [.int 0, .int 0, .int 0, .int 0])), ((g8 4), .inr (7, [.int 0, .int 0, .int 0, .int 0])), (q9, .inr (1, [.ref (g10 0), .int 0, .int 0, .int 0, .int 0, .int 0, .int 0, .int 0, .int 0, .int 0])), ((g10 0), .inl (cS, 4, .inr (.inr (.inr (.inr (va_up (va_up (va_up (va_up (fun _ => none) 0 (some (g10 1))) 1 (some (g10 2))) 2 (some (g10 3))) 3 (some (g10 4)))))))), ((g10 1), .inr (7, [.int 0, .int 0, .int 0, .int 0])), ((g10 2), .inr (7, [.int 0, .int 0, .int 0, .int 0])), ((g10 3), .inr (7, [.int 0, .int 0, .int 0, .int 0])), ((g10 4), .inr (7, [.int 0, .int 0, .int 0, .int 0])), (q11, .inr (1, [.ref (g12 0), .int 0, .int 0, .int 0, .int 0, .int 0, .int 0, .int 0, .int 0, .int 0])), ((g12 0), .inl (cS, 4, .inr (.inr (.inr (.inr (va_up (va_up (va_up (va_up (fun _ => none) 0 (some (g12 1))) 1 (some (g12 2))) 2 (some (g12 3))) 3 (some (g12 4)))))))), ((g12 1), .inr (7, [.int 0, .int 0, .int 0, .int 0])), ((g12 2), .inr (7, [.int 0, .int 0, .int 0, .int 0])), ((g12 3), .inr (7, [.int 0, .int 0, .int 0, .int 0])), ((g12 4), .inr (7, [.int 0, .int 0, .int 0, .int 0])), (q13, .inr (1, [.ref (g14 0), .int 0, .int 0, .int 0, .int 0, .int 0, .int 0, .int 0, .int 0, .int 0])), ((g14 0), .inl (cS, 4, .inr (.inr (.inr (.inr (va_up (va_up (va_up (va_up (fun _ => none) 0 (some (g14 1))) 1 (some (g14 2))) 2 (some (g14 3))) 3 (some (g14 4)))))))), ((g14 1), .inr (7, [.int 0, .int 0, .int 0, .int 0])), ((g14 2), .inr (7, [.int 0, .int 0, .int 0, .int 0])), ((g14 3), .inr (7, [.int 0, .int 0, .int 0, .int 0])), ((g14 4), .inr (7, [.int 0, .int 0, .int 0, .int 0])), (q15, .inr (1, [.null, .int 0, .int 0, .int 0, .int 0, .int 0, .int 0, .int 0, .int 0, .int 0]))] A s H _ := I
  refine lv_dup hx hb dX4_init_145 rfl ?_
  refine n_I (As := []) (rest := [.ref q15, .int 5, .ref q4]) (wc := [(q15, .inr (1, [.null, .int 0, .int 0, .int 0, .int 0, .int 0, .int 0, .int 0, .int 0, .int 0]))]) (wr := [(h0, .inr (4, [.ref q1, .ref q2, .ref q3, .ref q4, .int 0, .int 40, .int 999, .int 480])), (q1, .inl (cI, 8, .inl wX4_init_q1_8)), (q2, .inl (cI, 8, .inl (fun _ => 0))), (q3, .inl (cI, 36, .inl wX4_init_q3_36)), (q4, .inl (cC, 6, .inr (.inr (.inr (.inr (va_up (va_up (va_up (va_up (va_up (fun _ => none) 0 (some q5)) 1 (some q7)) 2 (some q9)) 3 (some q11)) 4 (some q13))))))), (q5, .inr (1, [.ref (g6 0), .int 0, .int 0, .int 0, .int 0, .int 0, .int 0, .int 0, .int 0, .int 0])), ((g6 0), .inl (cS, 4, .inr (.inr (.inr (.inr (va_up (va_up (va_up (va_up (fun _ => none) 0 (some (g6 1))) 1 (some (g6 2))) 2 (some (g6 3))) 3 (some (g6 4)))))))), ((g6 1), .inr (7, [.int 0, .int 0, .int 0, .int 0])), ((g6 2), .inr (7, [.int 0, .int 0, .int 0, .int 0])), ((g6 3), .inr (7, [.int 0, .int 0, .int 0, .int 0])), ((g6 4), .inr (7, [.int 0, .int 0, .int 0, .int 0])), (q7, .inr (1, [.ref (g8 0), .int 0, .int 0, .int 0, .int 0, .int 0, .int 0, .int 0, .int 0, .int 0])), ((g8 0), .inl (cS, 4, .inr (.inr (.inr (.inr (va_up (va_up (va_up (va_up (fun _ => none) 0 (some (g8 1))) 1 (some (g8 2))) 2 (some (g8 3))) 3 (some (g8 4)))))))), ((g8 1), .inr (7, [.int 0, .int 0, .int 0, .int 0])), ((g8 2), .inr (7, [.int 0, .int 0, .int 0, .int 0])), ((g8 3), .inr (7, [.int 0, .int 0, .int 0, .int 0])), ((g8 4), .inr (7, [.int 0, .int 0, .int 0, .int 0])), (q9, .inr (1, [.ref (g10 0), .int 0, .int 0, .int 0, .int 0, .int 0, .int 0, .int 0, .int 0, .int 0])), ((g10 0), .inl (cS, 4, .inr (.inr (.inr (.inr (va_up (va_up (va_up (va_up (fun _ => none) 0 (some (g10 1))) 1 (some (g10 2))) 2 (some (g10 3))) 3 (some (g10 4)))))))), ((g10 1), .inr (7, [.int 0, .int 0, .int 0, .int 0])), ((g10 2), .inr (7, [.int 0, .int 0, .int 0, .int 0])), ((g10 3), .inr (7, [.int 0, .int 0, .int 0, .int 0])), ((g10 4), .inr (7, [.int 0, .int 0, .int 0, .int 0])), (q11, .inr (1, [.ref (g12 0), .int 0, .int 0, .int 0, .int 0, .int 0, .int 0, .int 0, .int 0, .int 0])), ((g12 0), .inl (cS, 4, .inr (.inr (.inr (.inr (va_up (va_up (va_up (va_up (fun _ => none) 0 (some (g12 1))) 1 (some (g12 2))) 2 (some (g12 3))) 3 (some (g12 4)))))))), ((g12 1), .inr (7, [.int 0, .int 0, .int 0, .int 0])), ((g12 2), .inr (7, [.int 0, .int 0, .int 0, .int 0])), ((g12 3), .inr (7, [.int 0, .int 0, .int 0, .int 0])), ((g12 4), .inr (7, [.int 0, .int 0, .int 0, .int 0])), (q13, .inr (1, [.ref (g14 0), .int 0, .int 0, .int 0, .int 0, .int 0, .int 0, .int 0, .int 0, .int 0])), ((g14 0), .inl (cS, 4, .inr (.inr (.inr (.inr (va_up (va_up (va_up (va_up (fun _ => none) 0 (some (g14 1))) 1 (some (g14 2))) 2 (some (g14 3))) 3 (some (g14 4)))))))), ((g14 1), .inr (7, [.int 0, .int 0, .int 0, .int 0])), ((g14 2), .inr (7, [.int 0, .int 0, .int 0, .int 0])), ((g14 3), .inr (7, [.int 0, .int 0, .int 0, .int 0])), ((g14 4), .inr (7, [.int 0, .int 0, .int 0, .int 0]))]) C hK I hA [35] [0, 1, 2, 3, 4, 5, 6, 7, 8, 9, 10, 11, 12, 13, 14, 15, 16, 17, 18, 19, 20, 21, 22, 23, 24, 25, 26, 27, 28, 29, 30, 31, 32, 33, 34] rfl rfl rfl (by decide) (by decide) (by decide) (c_X1_init l D cI cC cS q15) ⟨Nat.le_of_ble_eq_true rfl, Nat.le_of_ble_eq_true rfl⟩ ⟨Nat.le_of_ble_eq_true rfl, Nat.le_of_ble_eq_true rfl⟩ mi_X1_init lk_X4_40 rfl hl.1 rfl (Nat.le_of_ble_eq_true rfl) dX4_init_146 (fun ws9 hp9 H locs I => ?_)
  obtain ⟨g16, rfl⟩ := hp9
  have I : Iw D [(h0, .inr (4, [.ref q1, .ref q2, .ref q3, .ref q4, .int 0, .int 40, .int 999, .int 480])), (q1, .inl (cI, 8, .inl wX4_init_q1_8)), (q2, .inl (cI, 8, .inl (fun _ => 0))), (q3, .inl (cI, 36, .inl wX4_init_q3_36)), (q4, .inl (cC, 6, .inr (.inr (.inr (.inr (va_up (va_up (va_up (va_up (va_up (fun _ => none) 0 (some q5)) 1 (some q7)) 2 (some q9)) 3 (some q11)) 4 (some q13))))))), (q5, .inr (1, [.ref (g6 0), .int 0, .int 0, .int 0, .int 0, .int 0, .int 0, .int 0, .int 0, .int 0])), ((g6 0), .inl (cS, 4, .inr (.inr (.inr (.inr (va_up (va_up (va_up (va_up (fun _ => none) 0 (some (g6 1))) 1 (some (g6 2))) 2 (some (g6 3))) 3 (some (g6 4)))))))), ((g6 1), .inr (7, [.int 0, .int 0, .int 0, .int 0])), ((g6 2), .inr (7, [.int 0, .int 0, .int 0, .int 0])), ((g6 3), .inr (7, [.int 0, .int 0, .int 0, .int 0])), ((g6 4), .inr (7, [.int 0, .int 0, .int 0, .int 0])), (q7, .inr (1, [.ref (g8 0), .int 0, .int 0, .int 0, .int 0, .int 0, .int 0, .int 0, .int 0, .int 0])), ((g8 0), .inl (cS, 4, .inr (.inr (.inr (.inr (va_up (va_up (va_up (va_up (fun _ => none) 0 (some (g8 1))) 1 (some (g8 2))) 2 (some (g8 3))) 3 (some (g8 4)))))))), ((g8 1), .inr (7, [.int 0, .int 0, .int 0, .int 0])), ((g8 2), .inr (7, [.int 0, .int 0, .int 0, .int 0])), ((g8 3), .inr (7, [.int 0, .int 0, .int 0, .int 0])), ((g8 4), .inr (7, [.int 0, .int 0, .int 0, .int 0])), (q9, .inr (1, [.ref (g10 0), .int 0, .int 0, .int 0, .int 0, .int 0, .int 0, .int 0, .int 0, .int 0])), ((g10 0), .inl (cS, 4, .inr (.inr (.inr (.inr (va_up (va_up (va_up (va_up (fun _ => none) 0 (some (g10 1))) 1 (some (g10 2))) 2 (some (g10 3))) 3 (some (g10 4)))))))), ((g10 1), .inr (7, [.int 0, .int 0, .int 0, .int 0])), ((g10 2), .inr (7, [.int 0, .int 0, .int 0, .int 0])), ((g10 3), .inr (7, [.int 0, .int 0, .int 0, .int 0])), ((g10 4), .inr (7, [.int 0, .int 0, .int 0, .int 0])), (q11, .inr (1, [.ref (g12 0), .int 0, .int 0, .int 0, .int 0, .int 0, .int 0, .int 0, .int 0, .int 0])), ((g12 0), .inl (cS, 4, .inr (.inr (.inr (.inr (va_up (va_up (va_up (va_up (fun _ => none) 0 (some (g12 1))) 1 (some (g12 2))) 2 (some (g12 3))) 3 (some (g12 4)))))))), ((g12 1), .inr (7, [.int 0, .int 0, .int 0, .int 0])), ((g12 2), .inr (7, [.int 0, .int 0, .int 0, .int 0])), ((g12 3), .inr (7, [.int 0, .int 0, .int 0, .int 0])), ((g12 4), .inr (7, [.int 0, .int 0, .int 0, .int 0])), (q13, .inr (1, [.ref (g14 0), .int 0, .int 0, .int 0, .int 0, .int 0, .int 0, .int 0, .int 0, .int 0])), ((g14 0), .inl (cS, 4, .inr (.inr (.inr (.inr (va_up (va_up (va_up (va_up (fun _ => none) 0 (some (g14 1))) 1 (some (g14 2))) 2 (some (g14 3))) 3 (some (g14 4)))))))), ((g14 1), .inr (7, [.int 0, .int 0, .int 0, .int 0])), ((g14 2), .inr (7, [.int 0, .int 0, .int 0, .int 0])), ((g14 3), .inr (7, [.int 0, .int 0, .int 0, .int 0])), ((g14 4), .inr (7, [.int 0, .int 0, .int 0, .int 0])), (q15, .inr (1, [.ref (g16 0), .int 0, .int 0, .int 0, .int 0, .int 0, .int 0, .int 0, .int 0, .int 0])), ((g16 0), .inl (cS, 4, .inr (.inr (.inr (.inr (va_up (va_up (va_up (va_up (fun _ => none) 0 (some (g16 1))) 1 (some (g16 2))) 2 (some (g16 3))) 3 (some (g16 4)))))))), ((g16 1), .inr (7, [.int 0, .int 0, .int 0, .int 0])), ((g16 2), .inr (7, [.int 0, .int 0, .int 0, .int 0])), ((g16 3), .inr (7, [.int 0, .int 0, .int 0, .int 0])), ((g16 4), .inr (7, [.int 0, .int 0, .int 0, .int 0]))] A s H _ := I
  refine n_asr C hK I 4 1 35 1 (r := (RX1, TX1, 10)) rfl rfl rfl rfl (by decide) (ws1 := [(h0, .inr (4, [.ref q1, .ref q2, .ref q3, .ref q4, .int 0, .int 40, .int 999, .int 480])), (q1, .inl (cI, 8, .inl wX4_init_q1_8)), (q2, .inl (cI, 8, .inl (fun _ => 0))), (q3, .inl (cI, 36, .inl wX4_init_q3_36)), (q4, .inl (cC, 6, .inr (.inr (.inr (.inr (va_up (va_up (va_up (va_up (va_up (va_up (fun _ => none) 0 (some q5)) 1 (some q7)) 2 (some q9)) 3 (some q11)) 4 (some q13)) 5 (some q15))))))), (q5, .inr (1, [.ref (g6 0), .int 0, .int 0, .int 0, .int 0, .int 0, .int 0, .int 0, .int 0, .int 0])), ((g6 0), .inl (cS, 4, .inr (.inr (.inr (.inr (va_up (va_up (va_up (va_up (fun _ => none) 0 (some (g6 1))) 1 (some (g6 2))) 2 (some (g6 3))) 3 (some (g6 4)))))))), ((g6 1), .inr (7, [.int 0, .int 0, .int 0, .int 0])), ((g6 2), .inr (7, [.int 0, .int 0, .int 0, .int 0])), ((g6 3), .inr (7, [.int 0, .int 0, .int 0, .int 0])), ((g6 4), .inr (7, [.int 0, .int 0, .int 0, .int 0])), (q7, .inr (1, [.ref (g8 0), .int 0, .int 0, .int 0, .int 0, .int 0, .int 0, .int 0, .int 0, .int 0])), ((g8 0), .inl (cS, 4, .inr (.inr (.inr (.inr (va_up (va_up (va_up (va_up (fun _ => none) 0 (some (g8 1))) 1 (some (g8 2))) 2 (some (g8 3))) 3 (some (g8 4)))))))), ((g8 1), .inr (7, [.int 0, .int 0, .int 0, .int 0])), ((g8 2), .inr (7, [.int 0, .int 0, .int 0, .int 0])), ((g8 3), .inr (7, [.int 0, .int 0, .int 0, .int 0])), ((g8 4), .inr (7, [.int 0, .int 0, .int 0, .int 0])), (q9, .inr (1, [.ref (g10 0), .int 0, .int 0, .int 0, .int 0, .int 0, .int 0, .int 0, .int 0, .int 0])), ((g10 0), .inl (cS, 4, .inr (.inr (.inr (.inr (va_up (va_up (va_up (va_up (fun _ => none) 0 (some (g10 1))) 1 (some (g10 2))) 2 (some (g10 3))) 3 (some (g10 4)))))))), ((g10 1), .inr (7, [.int 0, .int 0, .int 0, .int 0])), ((g10 2), .inr (7, [.int 0, .int 0, .int 0, .int 0])), ((g10 3), .inr (7, [.int 0, .int 0, .int 0, .int 0])), ((g10 4), .inr (7, [.int 0, .int 0, .int 0, .int 0])), (q11, .inr (1, [.ref (g12 0), .int 0, .int 0, .int 0, .int 0, .int 0, .int 0, .int 0, .int 0, .int 0])), ((g12 0), .inl (cS, 4, .inr (.inr (.inr (.inr (va_up (va_up (va_up (va_up (fun _ => none) 0 (some (g12 1))) 1 (some (g12 2))) 2 (some (g12 3))) 3 (some (g12 4)))))))), ((g12 1), .inr (7, [.int 0, .int 0, .int 0, .int 0])), ((g12 2), .inr (7, [.int 0, .int 0, .int 0, .int 0])), ((g12 3), .inr (7, [.int 0, .int 0, .int 0, .int 0])), ((g12 4), .inr (7, [.int 0, .int 0, .int 0, .int 0])), (q13, .inr (1, [.ref (g14 0), .int 0, .int 0, .int 0, .int 0, .int 0, .int 0, .int 0, .int 0, .int 0])), ((g14 0), .inl (cS, 4, .inr (.inr (.inr (.inr (va_up (va_up (va_up (va_up (fun _ => none) 0 (some (g14 1))) 1 (some (g14 2))) 2 (some (g14 3))) 3 (some (g14 4)))))))), ((g14 1), .inr (7, [.int 0, .int 0, .int 0, .int 0])), ((g14 2), .inr (7, [.int 0, .int 0, .int 0, .int 0])), ((g14 3), .inr (7, [.int 0, .int 0, .int 0, .int 0])), ((g14 4), .inr (7, [.int 0, .int 0, .int 0, .int 0])), (q15, .inr (1, [.ref (g16 0), .int 0, .int 0, .int 0, .int 0, .int 0, .int 0, .int 0, .int 0, .int 0])), ((g16 0), .inl (cS, 4, .inr (.inr (.inr (.inr (va_up (va_up (va_up (va_up (fun _ => none) 0 (some (g16 1))) 1 (some (g16 2))) 2 (some (g16 3))) 3 (some (g16 4)))))))), ((g16 1), .inr (7, [.int 0, .int 0, .int 0, .int 0])), ((g16 2), .inr (7, [.int 0, .int 0, .int 0, .int 0])), ((g16 3), .inr (7, [.int 0, .int 0, .int 0, .int 0])), ((g16 4), .inr (7, [.int 0, .int 0, .int 0, .int 0]))]) rfl dX4_init_149 (fun H locs I => ?_)
  refine lv_iinc (v := 6) (lv' := [(1, .int 6), (0, .ref h0)]) hx hb dX4_init_150 hl (k := 0) rfl (by decide) (by decide) rfl (fun ls hl => ?_)
  refine lv_goto (tgt := 128) hx hb dX4_init_153 (by decide) ?_
  refine lv_iload_n hx hb dX4_init_128 rfl (lv_at hl 0 rfl) ?_
  refine lv_aload_n hx hb dX4_init_129 rfl (lv_at hl 1 rfl) ?_
  refine n_get C hK I inT4 0 4 3 rfl rfl (by decide) rfl fl_X4_23 rfl dX4_init_130 ?_
  refine n_len C hK I 4 1 rfl rfl (v := 6) rfl dX4_init_133 ?_
  refine lv_icmp_ge (tgt := 156) hx hb dX4_init_134 (by decide) (fun _ => ?_) (fun q => absurd q (by decide))
  exact hq _ _ _ _ _ ⟨fun k => [q1, q2, q3, q4, q5, (g6 0), (g6 1), (g6 2), (g6 3), (g6 4), q7, (g8 0), (g8 1), (g8 2), (g8 3), (g8 4), q9, (g10 0), (g10 1), (g10 2), (g10 3), (g10 4), q11, (g12 0), (g12 1), (g12 2), (g12 3), (g12 4), q13, (g14 0), (g14 1), (g14 2), (g14 3), (g14 4), q15, (g16 0), (g16 1), (g16 2), (g16 3), (g16 4)].getD k 0, rfl⟩ I dX4_init_156
theorem dX10_init_0 : decode cX10_init 0 = .ok (.aload_n 0, 1) := by decide +kernel
theorem dX10_init_1 : decode cX10_init 1 = .ok (.invokespecial 1, 3) := by decide +kernel
theorem dX10_init_4 : decode cX10_init 4 = .ok (.aload_n 0, 1) := by decide +kernel
theorem dX10_init_5 : decode cX10_init 5 = .ok (.new 7, 3) := by decide +kernel
theorem dX10_init_8 : decode cX10_init 8 = .ok (.dup, 1) := by decide +kernel
theorem dX10_init_9 : decode cX10_init 9 = .ok (.invokespecial 9, 3) := by decide +kernel
theorem dX10_init_12 : decode cX10_init 12 = .ok (.putfield 10, 3) := by decide +kernel
theorem dX10_init_15 : decode cX10_init 15 = .ok (.aload_n 0, 1) := by decide +kernel
theorem dX10_init_16 : decode cX10_init 16 = .ok (.new 16, 3) := by decide +kernel
theorem dX10_init_19 : decode cX10_init 19 = .ok (.dup, 1) := by decide +kernel
theorem dX10_init_20 : decode cX10_init 20 = .ok (.aload_n 0, 1) := by decide +kernel
theorem dX10_init_21 : decode cX10_init 21 = .ok (.getfield 10, 3) := by decide +kernel
theorem dX10_init_24 : decode cX10_init 24 = .ok (.invokespecial 18, 3) := by decide +kernel
theorem dX10_init_27 : decode cX10_init 27 = .ok (.putfield 21, 3) := by decide +kernel
theorem dX10_init_30 : decode cX10_init 30 = .ok (.aload_n 0, 1) := by decide +kernel
theorem dX10_init_31 : decode cX10_init 31 = .ok (.new 25, 3) := by decide +kernel
theorem dX10_init_34 : decode cX10_init 34 = .ok (.dup, 1) := by decide +kernel
theorem dX10_init_35 : decode cX10_init 35 = .ok (.invokespecial 27, 3) := by decide +kernel
theorem dX10_init_38 : decode cX10_init 38 = .ok (.putfield 28, 3) := by decide +kernel
theorem dX10_init_41 : decode cX10_init 41 = .ok (.aload_n 0, 1) := by decide +kernel
theorem dX10_init_42 : decode cX10_init 42 = .ok (.new 32, 3) := by decide +kernel
theorem dX10_init_45 : decode cX10_init 45 = .ok (.dup, 1) := by decide +kernel
theorem dX10_init_46 : decode cX10_init 46 = .ok (.aload_n 0, 1) := by decide +kernel
theorem dX10_init_47 : decode cX10_init 47 = .ok (.getfield 28, 3) := by decide +kernel
theorem dX10_init_50 : decode cX10_init 50 = .ok (.invokespecial 34, 3) := by decide +kernel
theorem dX10_init_53 : decode cX10_init 53 = .ok (.putfield 37, 3) := by decide +kernel
theorem dX10_init_56 : decode cX10_init 56 = .ok (.aload_n 0, 1) := by decide +kernel
theorem dX10_init_57 : decode cX10_init 57 = .ok (.new 41, 3) := by decide +kernel
theorem dX10_init_60 : decode cX10_init 60 = .ok (.dup, 1) := by decide +kernel
theorem dX10_init_61 : decode cX10_init 61 = .ok (.aload_n 0, 1) := by decide +kernel
theorem dX10_init_62 : decode cX10_init 62 = .ok (.getfield 28, 3) := by decide +kernel
theorem dX10_init_65 : decode cX10_init 65 = .ok (.aload_n 0, 1) := by decide +kernel
theorem dX10_init_66 : decode cX10_init 66 = .ok (.getfield 37, 3) := by decide +kernel
theorem dX10_init_69 : decode cX10_init 69 = .ok (.invokespecial 43, 3) := by decide +kernel
theorem dX10_init_72 : decode cX10_init 72 = .ok (.putfield 46, 3) := by decide +kernel
theorem dX10_init_75 : decode cX10_init 75 = .ok (.aload_n 0, 1) := by decide +kernel
theorem dX10_init_76 : decode cX10_init 76 = .ok (.new 50, 3) := by decide +kernel
theorem dX10_init_79 : decode cX10_init 79 = .ok (.dup, 1) := by decide +kernel
theorem dX10_init_80 : decode cX10_init 80 = .ok (.aload_n 0, 1) := by decide +kernel
theorem dX10_init_81 : decode cX10_init 81 = .ok (.getfield 28, 3) := by decide +kernel
theorem dX10_init_84 : decode cX10_init 84 = .ok (.aload_n 0, 1) := by decide +kernel
theorem dX10_init_85 : decode cX10_init 85 = .ok (.getfield 37, 3) := by decide +kernel
theorem dX10_init_88 : decode cX10_init 88 = .ok (.aload_n 0, 1) := by decide +kernel
theorem dX10_init_89 : decode cX10_init 89 = .ok (.getfield 46, 3) := by decide +kernel
theorem dX10_init_92 : decode cX10_init 92 = .ok (.invokespecial 52, 3) := by decide +kernel
theorem dX10_init_95 : decode cX10_init 95 = .ok (.putfield 55, 3) := by decide +kernel
theorem dX10_init_98 : decode cX10_init 98 = .ok (.aload_n 0, 1) := by decide +kernel
theorem dX10_init_99 : decode cX10_init 99 = .ok (.new 59, 3) := by decide +kernel
theorem dX10_init_102 : decode cX10_init 102 = .ok (.dup, 1) := by decide +kernel
theorem dX10_init_103 : decode cX10_init 103 = .ok (.aload_n 0, 1) := by decide +kernel
theorem dX10_init_104 : decode cX10_init 104 = .ok (.getfield 28, 3) := by decide +kernel
theorem dX10_init_107 : decode cX10_init 107 = .ok (.invokespecial 61, 3) := by decide +kernel
theorem dX10_init_110 : decode cX10_init 110 = .ok (.putfield 62, 3) := by decide +kernel
theorem dX10_init_113 : decode cX10_init 113 = .ok (.aload_n 0, 1) := by decide +kernel
theorem dX10_init_114 : decode cX10_init 114 = .ok (.new 66, 3) := by decide +kernel
theorem dX10_init_117 : decode cX10_init 117 = .ok (.dup, 1) := by decide +kernel
theorem dX10_init_118 : decode cX10_init 118 = .ok (.aload_n 0, 1) := by decide +kernel
theorem dX10_init_119 : decode cX10_init 119 = .ok (.getfield 28, 3) := by decide +kernel
theorem dX10_init_122 : decode cX10_init 122 = .ok (.invokespecial 68, 3) := by decide +kernel
theorem dX10_init_125 : decode cX10_init 125 = .ok (.putfield 69, 3) := by decide +kernel
theorem dX10_init_128 : decode cX10_init 128 = .ok (.return_, 1) := by decide +kernel
theorem lo_X10 : Cond.methodLink RX10 1 objectInit ∈ TT := tt_of 88 (by decide +kernel) rfl
theorem cl_X10_7 : Cond.classLink RX10 7 RX8 ∈ TT := tt_of 91 (by decide +kernel) rfl
theorem in_X8 : Cond.instantiable RX8 2 ∈ TT := tt_of 92 (by decide +kernel) rfl
theorem ii_X8 : Cond.initialized RX8 ∈ TT := tt_of 66 (by decide +kernel) rfl
theorem lk_X10_9 : Cond.methodLinkNest RX10 9 yX8_init "CarryUp" ∈ NN := nn_of 93 (by decide +kernel) rfl
theorem mi_X8_init : MI yX8_init cX8_init 1 0 := ⟨tt_of 95 (by decide +kernel) rfl, tt_of 94 (by decide +kernel) rfl, tt_of 66 (by decide +kernel) rfl, rfl, by decide +kernel, by decide +kernel, by decide +kernel⟩
theorem cl_X10_16 : Cond.classLink RX10 16 RX5 ∈ TT := tt_of 105 (by decide +kernel) rfl
theorem in_X5 : Cond.instantiable RX5 7 ∈ TT := tt_of 106 (by decide +kernel) rfl
theorem ii_X5 : Cond.initialized RX5 ∈ TT := tt_of 67 (by decide +kernel) rfl
theorem lk_X10_18 : Cond.methodLink RX10 18 yX5_init ∈ TT := tt_of 107 (by decide +kernel) rfl
theorem mi_X5_init : MI yX5_init cX5_init 2 1 := ⟨tt_of 109 (by decide +kernel) rfl, tt_of 108 (by decide +kernel) rfl, tt_of 67 (by decide +kernel) rfl, rfl, by decide +kernel, by decide +kernel, by decide +kernel⟩
theorem cl_X10_25 : Cond.classLink RX10 25 RX4 ∈ TT := tt_of 133 (by decide +kernel) rfl
theorem in_X4 : Cond.instantiable RX4 8 ∈ TT := tt_of 134 (by decide +kernel) rfl
theorem ii_X4 : Cond.initialized RX4 ∈ TT := tt_of 68 (by decide +kernel) rfl
theorem lk_X10_27 : Cond.methodLink RX10 27 yX4_init ∈ TT := tt_of 135 (by decide +kernel) rfl
theorem mi_X4_init : MI yX4_init cX4_init 2 0 := ⟨tt_of 137 (by decide +kernel) rfl, tt_of 136 (by decide +kernel) rfl, tt_of 68 (by decide +kernel) rfl, rfl, by decide +kernel, by decide +kernel, by decide +kernel⟩
theorem cl_X10_32 : Cond.classLink RX10 32 RX6 ∈ TT := tt_of 252 (by decide +kernel) rfl
theorem in_X6 : Cond.instantiable RX6 7 ∈ TT := tt_of 253 (by decide +kernel) rfl
theorem ii_X6 : Cond.initialized RX6 ∈ TT := tt_of 71 (by decide +kernel) rfl
theorem lk_X10_34 : Cond.methodLink RX10 34 yX6_init ∈ TT := tt_of 254 (by decide +kernel) rfl
theorem mi_X6_init : MI yX6_init cX6_init 2 1 := ⟨tt_of 256 (by decide +kernel) rfl, tt_of 255 (by decide +kernel) rfl, tt_of 71 (by decide +kernel) rfl, rfl, by decide +kernel, by decide +kernel, by decide +kernel⟩
theorem cl_X10_41 : Cond.classLink RX10 41 RX9 ∈ TT := tt_of 281 (by decide +kernel) rfl
theorem in_X9 : Cond.instantiable RX9 9 ∈ TT := tt_of 282 (by decide +kernel) rfl
theorem ii_X9 : Cond.initialized RX9 ∈ TT := tt_of 72 (by decide +kernel) rfl
theorem lk_X10_43 : Cond.methodLink RX10 43 yX9_init ∈ TT := tt_of 283 (by decide +kernel) rfl
theorem mi_X9_init : MI yX9_init cX9_init 3 2 := ⟨tt_of 285 (by decide +kernel) rfl, tt_of 284 (by decide +kernel) rfl, tt_of 72 (by decide +kernel) rfl, rfl, by decide +kernel, by decide +kernel, by decide +kernel⟩
theorem cl_X10_50 : Cond.classLink RX10 50 RX2 ∈ TT := tt_of 315 (by decide +kernel) rfl
theorem in_X2 : Cond.instantiable RX2 7 ∈ TT := tt_of 316 (by decide +kernel) rfl
theorem ii_X2 : Cond.initialized RX2 ∈ TT := tt_of 73 (by decide +kernel) rfl
theorem lk_X10_52 : Cond.methodLink RX10 52 yX2_init ∈ TT := tt_of 317 (by decide +kernel) rfl
theorem mi_X2_init : MI yX2_init cX2_init 4 3 := ⟨tt_of 319 (by decide +kernel) rfl, tt_of 318 (by decide +kernel) rfl, tt_of 73 (by decide +kernel) rfl, rfl, by decide +kernel, by decide +kernel, by decide +kernel⟩
theorem cl_X10_59 : Cond.classLink RX10 59 RX3 ∈ TT := tt_of 343 (by decide +kernel) rfl
theorem in_X3 : Cond.instantiable RX3 4 ∈ TT := tt_of 344 (by decide +kernel) rfl
theorem ii_X3 : Cond.initialized RX3 ∈ TT := tt_of 74 (by decide +kernel) rfl
theorem lk_X10_61 : Cond.methodLink RX10 61 yX3_init ∈ TT := tt_of 345 (by decide +kernel) rfl
theorem mi_X3_init : MI yX3_init cX3_init 2 1 := ⟨tt_of 347 (by decide +kernel) rfl, tt_of 346 (by decide +kernel) rfl, tt_of 74 (by decide +kernel) rfl, rfl, by decide +kernel, by decide +kernel, by decide +kernel⟩
theorem cl_X10_66 : Cond.classLink RX10 66 RX0 ∈ TT := tt_of 362 (by decide +kernel) rfl
theorem in_X0 : Cond.instantiable RX0 5 ∈ TT := tt_of 363 (by decide +kernel) rfl
theorem ii_X0 : Cond.initialized RX0 ∈ TT := tt_of 75 (by decide +kernel) rfl
theorem lk_X10_68 : Cond.methodLink RX10 68 yX0_init ∈ TT := tt_of 364 (by decide +kernel) rfl
theorem mi_X0_init : MI yX0_init cX0_init 2 1 := ⟨tt_of 366 (by decide +kernel) rfl, tt_of 365 (by decide +kernel) rfl, tt_of 75 (by decide +kernel) rfl, rfl, by decide +kernel, by decide +kernel, by decide +kernel⟩
/-- the state of a new object -/
def S0x : St := (fun p => if p = 13 then wX4_init_q1_8 else if p = 15 then wX4_init_q3_36 else if p = 3 then (fun j => if j = 5 then 40 else if j = 6 then 999 else if j = 7 then 480 else 0) else if p = 4 then (fun j => if j = 5 then (-1) else if j = 6 then (-1) else 0) else fun _ => 0, fun _ _ => 0, fun _ => none)
set_option maxHeartbeats 40000000 in
set_option maxRecDepth 100000 in
theorem c_X10_init (l : Launch) (D : va_G) (cI cC cS : ClassId) (h0 : Nat) : Kn l D cI cC cS yX10_init cX10_init 1 4 74 56 633 [.ref h0] [(h0, .inr (10, [.null, .null, .null, .null, .null, .null, .null, .null]))] (fun ws9 => ∃ ad : Nat → Nat, ad 0 = h0 ∧ ws9 = xw cI cC cS ad S0x) := by
  refine n_ent (by decide +kernel) rfl (Nat.le_of_ble_eq_true rfl) ?_
  intro p e s m args below meth c A Q C hK I hA hin hq ls hl
  have C : CallFix p m c cX10_init 1 s args TT RX10 := C
  have hx := C.1
  have hb := C.2.1
  have hl : lv_has ls 1 [(0, .ref h0)] := hl
  refine lv_aload_n hx hb dX10_init_0 rfl (lv_at hl 0 rfl) ?_
  refine n_obj C lo_X10 objI objC hl.1 dX10_init_1 (Nat.le_of_ble_eq_true rfl) (Nat.le_of_ble_eq_true rfl) ?_
  refine lv_aload_n hx hb dX10_init_4 rfl (lv_at hl 0 rfl) ?_
  refine n_new (ci := 8) (fs := [.null, .int 0]) C hK I hA inT8 tyX8 tyX8_ok cl_X10_7 in_X8 ii_X8 rfl (fun j hj => match j, hj with | 0, _ => rfl | 1, _ => rfl | n + 2, h => absurd h (by omega)) (Nat.le_of_ble_eq_true rfl) (Nat.le_of_ble_eq_true rfl) dX10_init_5 (fun q1 H I => ?_)
  have I : Iw D [(h0, .inr (10, [.null, .null, .null, .null, .null, .null, .null, .null])), (q1, .inr (8, [.null, .int 0]))] A s H _ := I
  refine lv_dup hx hb dX10_init_8 rfl ?_
  refine n_IN (As := []) (rest := [.ref q1, .ref h0]) (wc := [(q1, .inr (8, [.null, .int 0]))]) (wr := [(h0, .inr (10, [.null, .null, .null, .null, .null, .null, .null, .null]))]) C hK I hA [1] [0] rfl rfl rfl (by decide) (by decide) (by decide) (c_X8_init l D cI cC cS q1) ⟨Nat.le_of_ble_eq_true rfl, Nat.le_of_ble_eq_true rfl⟩ ⟨Nat.le_of_ble_eq_true rfl, Nat.le_of_ble_eq_true rfl⟩ mi_X8_init lk_X10_9 rfl hl.1 rfl (Nat.le_of_ble_eq_true rfl) dX10_init_9 (fun ws9 hp9 H locs I => ?_)
  obtain ⟨g2, rfl⟩ := hp9
  have I : Iw D [(h0, .inr (10, [.null, .null, .null, .null, .null, .null, .null, .null])), (q1, .inr (8, [.ref (g2 0), .int 0])), ((g2 0), .inl (cI, 200, .inl (fun _ => 0)))] A s H _ := I
  refine n_putF C hK I inT10 tyX10 tyX10_ok nmX10 0 10 0 rfl rfl (by decide) rfl rfl hin fl_X10_10 rfl rfl rfl (Nat.le_of_ble_eq_true rfl) (ws1 := [(h0, .inr (10, [.ref q1, .null, .null, .null, .null, .null, .null, .null])), (q1, .inr (8, [.ref (g2 0), .int 0])), ((g2 0), .inl (cI, 200, .inl (fun _ => 0)))]) rfl dX10_init_12 (fun H locs I => ?_)
  refine lv_aload_n hx hb dX10_init_15 rfl (lv_at hl 0 rfl) ?_
  refine n_new (ci := 5) (fs := [.null, .null, .int 0, .int 0, .int 0, .int 0, .int 0]) C hK I hA inT5 tyX5 tyX5_ok cl_X10_16 in_X5 ii_X5 rfl (fun j hj => match j, hj with | 0, _ => rfl | 1, _ => rfl | 2, _ => rfl | 3, _ => rfl | 4, _ => rfl | 5, _ => rfl | 6, _ => rfl | n + 7, h => absurd h (by omega)) (Nat.le_of_ble_eq_true rfl) (Nat.le_of_ble_eq_true rfl) dX10_init_16 (fun q3 H I => ?_)
  have I : Iw D [(h0, .inr (10, [.ref q1, .null, .null, .null, .null, .null, .null, .null])), (q1, .inr (8, [.ref (g2 0), .int 0])), ((g2 0), .inl (cI, 200, .inl (fun _ => 0))), (q3, .inr (5, [.null, .null, .int 0, .int 0, .int 0, .int 0, .int 0]))] A s H _ := I
  refine lv_dup hx hb dX10_init_19 rfl ?_
  refine lv_aload_n hx hb dX10_init_20 rfl (lv_at hl 0 rfl) ?_
  refine n_get C hK I inT10 0 10 0 rfl rfl (by decide) rfl fl_X10_10 rfl dX10_init_21 ?_
  refine n_I (As := [.ref q1]) (rest := [.ref q3, .ref h0]) (wc := [(q3, .inr (5, [.null, .null, .int 0, .int 0, .int 0, .int 0, .int 0]))]) (wr := [(h0, .inr (10, [.ref q1, .null, .null, .null, .null, .null, .null, .null])), (q1, .inr (8, [.ref (g2 0), .int 0])), ((g2 0), .inl (cI, 200, .inl (fun _ => 0)))]) C hK I hA [3] [0, 1, 2] rfl rfl rfl (by decide) (by decide) (by decide) (c_X5_init l D cI cC cS q3 q1) ⟨Nat.le_of_ble_eq_true rfl, Nat.le_of_ble_eq_true rfl⟩ ⟨Nat.le_of_ble_eq_true rfl, Nat.le_of_ble_eq_true rfl⟩ mi_X5_init lk_X10_18 rfl hl.1 rfl (Nat.le_of_ble_eq_true rfl) dX10_init_24 (fun ws9 hp9 H locs I => ?_)
  obtain ⟨g4, rfl⟩ := hp9
  have I : Iw D [(h0, .inr (10, [.ref q1, .null, .null, .null, .null, .null, .null, .null])), (q1, .inr (8, [.ref (g2 0), .int 0])), ((g2 0), .inl (cI, 200, .inl (fun _ => 0))), (q3, .inr (5, [.ref q1, .ref (g4 0), .int 0, .int 0, .int 0, .int 0, .int 0])), ((g4 0), .inl (cI, 80, .inl (fun _ => 0)))] A s H _ := I
  refine n_putF C hK I inT10 tyX10 tyX10_ok nmX10 0 10 1 rfl rfl (by decide) rfl rfl hin fl_X10_21 rfl rfl rfl (Nat.le_of_ble_eq_true rfl) (ws1 := [(h0, .inr (10, [.ref q1, .ref q3, .null, .null, .null, .null, .null, .null])), (q1, .inr (8, [.ref (g2 0), .int 0])), ((g2 0), .inl (cI, 200, .inl (fun _ => 0))), (q3, .inr (5, [.ref q1, .ref (g4 0), .int 0, .int 0, .int 0, .int 0, .int 0])), ((g4 0), .inl (cI, 80, .inl (fun _ => 0)))]) rfl dX10_init_27 (fun H locs I => ?_)
  refine lv_aload_n hx hb dX10_init_30 rfl (lv_at hl 0 rfl) ?_
  refine n_new (ci := 4) (fs := [.null, .null, .null, .null, .int 0, .int 0, .int 0, .int 0]) C hK I hA inT4 tyX4 tyX4_ok cl_X10_25 in_X4 ii_X4 rfl (fun j hj => match j, hj with | 0, _ => rfl | 1, _ => rfl | 2, _ => rfl | 3, _ => rfl | 4, _ => rfl | 5, _ => rfl | 6, _ => rfl | 7, _ => rfl | n + 8, h => absurd h (by omega)) (Nat.le_of_ble_eq_true rfl) (Nat.le_of_ble_eq_true rfl) dX10_init_31 (fun q5 H I => ?_)
  have I : Iw D [(h0, .inr (10, [.ref q1, .ref q3, .null, .null, .null, .null, .null, .null])), (q1, .inr (8, [.ref (g2 0), .int 0])), ((g2 0), .inl (cI, 200, .inl (fun _ => 0))), (q3, .inr (5, [.ref q1, .ref (g4 0), .int 0, .int 0, .int 0, .int 0, .int 0])), ((g4 0), .inl (cI, 80, .inl (fun _ => 0))), (q5, .inr (4, [.null, .null, .null, .null, .int 0, .int 0, .int 0, .int 0]))] A s H _ := I
  refine lv_dup hx hb dX10_init_34 rfl ?_
  refine n_I (As := []) (rest := [.ref q5, .ref h0]) (wc := [(q5, .inr (4, [.null, .null, .null, .null, .int 0, .int 0, .int 0, .int 0]))]) (wr := [(h0, .inr (10, [.ref q1, .ref q3, .null, .null, .null, .null, .null, .null])), (q1, .inr (8, [.ref (g2 0), .int 0])), ((g2 0), .inl (cI, 200, .inl (fun _ => 0))), (q3, .inr (5, [.ref q1, .ref (g4 0), .int 0, .int 0, .int 0, .int 0, .int 0])), ((g4 0), .inl (cI, 80, .inl (fun _ => 0)))]) C hK I hA [5] [0, 1, 2, 3, 4] rfl rfl rfl (by decide) (by decide) (by decide) (c_X4_init l D cI cC cS q5) ⟨Nat.le_of_ble_eq_true rfl, Nat.le_of_ble_eq_true rfl⟩ ⟨Nat.le_of_ble_eq_true rfl, Nat.le_of_ble_eq_true rfl⟩ mi_X4_init lk_X10_27 rfl hl.1 rfl (Nat.le_of_ble_eq_true rfl) dX10_init_35 (fun ws9 hp9 H locs I => ?_)
  obtain ⟨g6, rfl⟩ := hp9
  have I : Iw D [(h0, .inr (10, [.ref q1, .ref q3, .null, .null, .null, .null, .null, .null])), (q1, .inr (8, [.ref (g2 0), .int 0])), ((g2 0), .inl (cI, 200, .inl (fun _ => 0))), (q3, .inr (5, [.ref q1, .ref (g4 0), .int 0, .int 0, .int 0, .int 0, .int 0])), ((g4 0), .inl (cI, 80, .inl (fun _ => 0))), (q5, .inr (4, [.ref (g6 0), .ref (g6 1), .ref (g6 2), .ref (g6 3), .int 0, .int 40, .int 999, .int 480])), ((g6 0), .inl (cI, 8, .inl wX4_init_q1_8)), ((g6 1), .inl (cI, 8, .inl (fun _ => 0))), ((g6 2), .inl (cI, 36, .inl wX4_init_q3_36)), ((g6 3), .inl (cC, 6, .inr (.inr (.inr (.inr (va_up (va_up (va_up (va_up (va_up (va_up (fun _ => none) 0 (some (g6 4))) 1 (some (g6 10))) 2 (some (g6 16))) 3 (some (g6 22))) 4 (some (g6 28))) 5 (some (g6 34)))))))), ((g6 4), .inr (1, [.ref (g6 5), .int 0, .int 0, .int 0, .int 0, .int 0, .int 0, .int 0, .int 0, .int 0])), ((g6 5), .inl (cS, 4, .inr (.inr (.inr (.inr (va_up (va_up (va_up (va_up (fun _ => none) 0 (some (g6 6))) 1 (some (g6 7))) 2 (some (g6 8))) 3 (some (g6 9)))))))), ((g6 6), .inr (7, [.int 0, .int 0, .int 0, .int 0])), ((g6 7), .inr (7, [.int 0, .int 0, .int 0, .int 0])), ((g6 8), .inr (7, [.int 0, .int 0, .int 0, .int 0])), ((g6 9), .inr (7, [.int 0, .int 0, .int 0, .int 0])), ((g6 10), .inr (1, [.ref (g6 11), .int 0, .int 0, .int 0, .int 0, .int 0, .int 0, .int 0, .int 0, .int 0])), ((g6 11), .inl (cS, 4, .inr (.inr (.inr (.inr (va_up (va_up (va_up (va_up (fun _ => none) 0 (some (g6 12))) 1 (some (g6 13))) 2 (some (g6 14))) 3 (some (g6 15)))))))), ((g6 12), .inr (7, [.int 0, .int 0, .int 0, .int 0])), ((g6 13), .inr (7, [.int 0, .int 0, .int 0, .int 0])), ((g6 14), .inr (7, [.int 0, .int 0, .int 0, .int 0])), ((g6 15), .inr (7, [.int 0, .int 0, .int 0, .int 0])), ((g6 16), .inr (1, [.ref (g6 17), .int 0, .int 0, .int 0, .int 0, .int 0, .int 0, .int 0, .int 0, .int 0])), ((g6 17), .inl (cS, 4, .inr (.inr (.inr (.inr (va_up (va_up (va_up (va_up (fun _ => none) 0 (some (g6 18))) 1 (some (g6 19))) 2 (some (g6 20))) 3 (some (g6 21)))))))), ((g6 18), .inr (7, [.int 0, .int 0, .int 0, .int 0])), ((g6 19), .inr (7, [.int 0, .int 0, .int 0, .int 0])), ((g6 20), .inr (7, [.int 0, .int 0, .int 0, .int 0])), ((g6 21), .inr (7, [.int 0, .int 0, .int 0, .int 0])), ((g6 22), .inr (1, [.ref (g6 23), .int 0, .int 0, .int 0, .int 0, .int 0, .int 0, .int 0, .int 0, .int 0])), ((g6 23), .inl (cS, 4, .inr (.inr (.inr (.inr (va_up (va_up (va_up (va_up (fun _ => none) 0 (some (g6 24))) 1 (some (g6 25))) 2 (some (g6 26))) 3 (some (g6 27)))))))), ((g6 24), .inr (7, [.int 0, .int 0, .int 0, .int 0])), ((g6 25), .inr (7, [.int 0, .int 0, .int 0, .int 0])), ((g6 26), .inr (7, [.int 0, .int 0, .int 0, .int 0])), ((g6 27), .inr (7, [.int 0, .int 0, .int 0, .int 0])), ((g6 28), .inr (1, [.ref (g6 29), .int 0, .int 0, .int 0, .int 0, .int 0, .int 0, .int 0, .int 0, .int 0])), ((g6 29), .inl (cS, 4, .inr (.inr (.inr (.inr (va_up (va_up (va_up (va_up (fun _ => none) 0 (some (g6 30))) 1 (some (g6 31))) 2 (some (g6 32))) 3 (some (g6 33)))))))), ((g6 30), .inr (7, [.int 0, .int 0, .int 0, .int 0])), ((g6 31), .inr (7, [.int 0, .int 0, .int 0, .int 0])), ((g6 32), .inr (7, [.int 0, .int 0, .int 0, .int 0])), ((g6 33), .inr (7, [.int 0, .int 0, .int 0, .int 0])), ((g6 34), .inr (1, [.ref (g6 35), .int 0, .int 0, .int 0, .int 0, .int 0, .int 0, .int 0, .int 0, .int 0])), ((g6 35), .inl (cS, 4, .inr (.inr (.inr (.inr (va_up (va_up (va_up (va_up (fun _ => none) 0 (some (g6 36))) 1 (some (g6 37))) 2 (some (g6 38))) 3 (some (g6 39)))))))), ((g6 36), .inr (7, [.int 0, .int 0, .int 0, .int 0])), ((g6 37), .inr (7, [.int 0, .int 0, .int 0, .int 0])), ((g6 38), .inr (7, [.int 0, .int 0, .int 0, .int 0])), ((g6 39), .inr (7, [.int 0, .int 0, .int 0, .int 0]))] A s H _ := I
  refine n_putF C hK I inT10 tyX10 tyX10_ok nmX10 0 10 2 rfl rfl (by decide) rfl rfl hin fl_X10_28 rfl rfl rfl (Nat.le_of_ble_eq_true rfl) (ws1 := [(h0, .inr (10, [.ref q1, .ref q3, .ref q5, .null, .null, .null, .null, .null])), (q1, .inr (8, [.ref (g2 0), .int 0])), ((g2 0), .inl (cI, 200, .inl (fun _ => 0))), (q3, .inr (5, [.ref q1, .ref (g4 0), .int 0, .int 0, .int 0, .int 0, .int 0])), ((g4 0), .inl (cI, 80, .inl (fun _ => 0))), (q5, .inr (4, [.ref (g6 0), .ref (g6 1), .ref (g6 2), .ref (g6 3), .int 0, .int 40, .int 999, .int 480])), ((g6 0), .inl (cI, 8, .inl wX4_init_q1_8)), ((g6 1), .inl (cI, 8, .inl (fun _ => 0))), ((g6 2), .inl (cI, 36, .inl wX4_init_q3_36)), ((g6 3), .inl (cC, 6, .inr (.inr (.inr (.inr (va_up (va_up (va_up (va_up (va_up (va_up (fun _ => none) 0 (some (g6 4))) 1 (some (g6 10))) 2 (some (g6 16))) 3 (some (g6 22))) 4 (some (g6 28))) 5 (some (g6 34)))))))), ((g6 4), .inr (1, [.ref (g6 5), .int 0, .int 0, .int 0, .int 0, .int 0, .int 0, .int 0, .int 0, .int 0])), ((g6 5), .inl (cS, 4, .inr (.inr (.inr (.inr (va_up (va_up (va_up (va_up (fun _ => none) 0 (some (g6 6))) 1 (some (g6 7))) 2 (some (g6 8))) 3 (some (g6 9)))))))), ((g6 6), .inr (7, [.int 0, .int 0, .int 0, .int 0])), ((g6 7), .inr (7, [.int 0, .int 0, .int 0, .int 0])), ((g6 8), .inr (7, [.int 0, .int 0, .int 0, .int 0])), ((g6 9), .inr (7, [.int 0, .int 0, .int 0, .int 0])), ((g6 10), .inr (1, [.ref (g6 11), .int 0, .int 0, .int 0, .int 0, .int 0, .int 0, .int 0, .int 0, .int 0])), ((g6 11), .inl (cS, 4, .inr (.inr (.inr (.inr (va_up (va_up (va_up (va_up (fun _ => none) 0 (some (g6 12))) 1 (some (g6 13))) 2 (some (g6 14))) 3 (some (g6 15)))))))), ((g6 12), .inr (7, [.int 0, .int 0, .int 0, .int 0])), ((g6 13), .inr (7, [.int 0, .int 0, .int 0, .int 0])), ((g6 14), .inr (7, [.int 0, .int 0, .int 0, .int 0])), ((g6 15), .inr (7, [.int 0, .int 0, .int 0, .int 0])), ((g6 16), .inr (1, [.ref (g6 17), .int 0, .int 0, .int 0, .int 0, .int 0, .int 0, .int 0, .int 0, .int 0])), ((g6 17), .inl (cS, 4, .inr (.inr (.inr (.inr (va_up (va_up (va_up (va_up (fun _ => none) 0 (some (g6 18))) 1 (some (g6 19))) 2 (some (g6 20))) 3 (some (g6 21)))))))), ((g6 18), .inr (7, [.int 0, .int 0, .int 0, .int 0])), ((g6 19), .inr (7, [.int 0, .int 0, .int 0, .int 0])), ((g6 20), .inr (7, [.int 0, .int 0, .int 0, .int 0])), ((g6 21), .inr (7, [.int 0, .int 0, .int 0, .int 0])), ((g6 22), .inr (1, [.ref (g6 23), .int 0, .int 0, .int 0, .int 0, .int 0, .int 0, .int 0, .int 0, .int 0])), ((g6 23), .inl (cS, 4, .inr (.inr (.inr (.inr (va_up (va_up (va_up (va_up (fun _ => none) 0 (some (g6 24))) 1 (some (g6 25))) 2 (some (g6 26))) 3 (some (g6 27)))))))), ((g6 24), .inr (7, [.int 0, .int 0, .int 0, .int 0])), ((g6 25), .inr (7, [.int 0, .int 0, .int 0, .int 0])), ((g6 26), .inr (7, [.int 0, .int 0, .int 0, .int 0])), ((g6 27), .inr (7, [.int 0, .int 0, .int 0, .int 0])), ((g6 28), .inr (1, [.ref (g6 29), .int 0, .int 0, .int 0, .int 0, .int 0, .int 0, .int 0, .int 0, .int 0])), ((g6 29), .inl (cS, 4, .inr (.inr (.inr (.inr (va_up (va_up (va_up (va_up (fun _ => none) 0 (some (g6 30))) 1 (some (g6 31))) 2 (some (g6 32))) 3 (some (g6 33)))))))), ((g6 30), .inr (7, [.int 0, .int 0, .int 0, .int 0])), ((g6 31), .inr (7, [.int 0, .int 0, .int 0, .int 0])), ((g6 32), .inr (7, [.int 0, .int 0, .int 0, .int 0])), ((g6 33), .inr (7, [.int 0, .int 0, .int 0, .int 0])), ((g6 34), .inr (1, [.ref (g6 35), .int 0, .int 0, .int 0, .int 0, .int 0, .int 0, .int 0, .int 0, .int 0])), ((g6 35), .inl (cS, 4, .inr (.inr (.inr (.inr (va_up (va_up (va_up (va_up (fun _ => none) 0 (some (g6 36))) 1 (some (g6 37))) 2 (some (g6 38))) 3 (some (g6 39)))))))), ((g6 36), .inr (7, [.int 0, .int 0, .int 0, .int 0])), ((g6 37), .inr (7, [.int 0, .int 0, .int 0, .int 0])), ((g6 38), .inr (7, [.int 0, .int 0, .int 0, .int 0])), ((g6 39), .inr (7, [.int 0, .int 0, .int 0, .int 0]))]) rfl dX10_init_38 (fun H locs I => ?_)
  refine lv_aload_n hx hb dX10_init_41 rfl (lv_at hl 0 rfl) ?_
  refine n_new (ci := 6) (fs := [.null, .null, .null, .null, .int 0, .int 0, .int 0]) C hK I hA inT6 tyX6 tyX6_ok cl_X10_32 in_X6 ii_X6 rfl (fun j hj => match j, hj with | 0, _ => rfl | 1, _ => rfl | 2, _ => rfl | 3, _ => rfl | 4, _ => rfl | 5, _ => rfl | 6, _ => rfl | n + 7, h => absurd h (by omega)) (Nat.le_of_ble_eq_true rfl) (Nat.le_of_ble_eq_true rfl) dX10_init_42 (fun q7 H I => ?_)
  have I : Iw D [(h0, .inr (10, [.ref q1, .ref q3, .ref q5, .null, .null, .null, .null, .null])), (q1, .inr (8, [.ref (g2 0), .int 0])), ((g2 0), .inl (cI, 200, .inl (fun _ => 0))), (q3, .inr (5, [.ref q1, .ref (g4 0), .int 0, .int 0, .int 0, .int 0, .int 0])), ((g4 0), .inl (cI, 80, .inl (fun _ => 0))), (q5, .inr (4, [.ref (g6 0), .ref (g6 1), .ref (g6 2), .ref (g6 3), .int 0, .int 40, .int 999, .int 480])), ((g6 0), .inl (cI, 8, .inl wX4_init_q1_8)), ((g6 1), .inl (cI, 8, .inl (fun _ => 0))), ((g6 2), .inl (cI, 36, .inl wX4_init_q3_36)), ((g6 3), .inl (cC, 6, .inr (.inr (.inr (.inr (va_up (va_up (va_up (va_up (va_up (va_up (fun _ => none) 0 (some (g6 4))) 1 (some (g6 10))) 2 (some (g6 16))) 3 (some (g6 22))) 4 (some (g6 28))) 5 (some (g6 34)))))))), ((g6 4), .inr (1, [.ref (g6 5), .int 0, .int 0, .int 0, .int 0, .int 0, .int 0, .int 0, .int 0, .int 0])), ((g6 5), .inl (cS, 4, .inr (.inr (.inr (.inr (va_up (va_up (va_up (va_up (fun _ => none) 0 (some (g6 6))) 1 (some (g6 7))) 2 (some (g6 8))) 3 (some (g6 9)))))))), ((g6 6), .inr (7, [.int 0, .int 0, .int 0, .int 0])), ((g6 7), .inr (7, [.int 0, .int 0, .int 0, .int 0])), ((g6 8), .inr (7, [.int 0, .int 0, .int 0, .int 0])), ((g6 9), .inr (7, [.int 0, .int 0, .int 0, .int 0])), ((g6 10), .inr (1, [.ref (g6 11), .int 0, .int 0, .int 0, .int 0, .int 0, .int 0, .int 0, .int 0, .int 0])), ((g6 11), .inl (cS, 4, .inr (.inr (.inr (.inr (va_up (va_up (va_up (va_up (fun _ => none) 0 (some (g6 12))) 1 (some (g6 13))) 2 (some (g6 14))) 3 (some (g6 15)))))))), ((g6 12), .inr (7, [.int 0, .int 0, .int 0, .int 0])), ((g6 13), .inr (7, [.int 0, .int 0, .int 0, .int 0])), ((g6 14), .inr (7, [.int 0, .int 0, .int 0, .int 0])), ((g6 15), .inr (7, [.int 0, .int 0, .int 0, .int 0])), ((g6 16), .inr (1, [.ref (g6 17), .int 0, .int 0, .int 0, .int 0, .int 0, .int 0, .int 0, .int 0, .int 0])), ((g6 17), .inl (cS, 4, .inr (.inr (.inr (.inr (va_up (va_up (va_up (va_up (fun _ => none) 0 (some (g6 18))) 1 (some (g6 19))) 2 (some (g6 20))) 3 (some (g6 21)))))))), ((g6 18), .inr (7, [.int 0, .int 0, .int 0, .int 0])), ((g6 19), .inr (7, [.int 0, .int 0, .int 0, .int 0])), ((g6 20), .inr (7, [.int 0, .int 0, .int 0, .int 0])), ((g6 21), .inr (7, [.int 0, .int 0, .int 0, .int 0])), ((g6 22), .inr (1, [.ref (g6 23), .int 0, .int 0, .int 0, .int 0, .int 0, .int 0, .int 0, .int 0, .int 0])), ((g6 23), .inl (cS, 4, .inr (.inr (.inr (.inr (va_up (va_up (va_up (va_up (fun _ => none) 0 (some (g6 24))) 1 (some (g6 25))) 2 (some (g6 26))) 3 (some (g6 27)))))))), ((g6 24), .inr (7, [.int 0, .int 0, .int 0, .int 0])), ((g6 25), .inr (7, [.int 0, .int 0, .int 0, .int 0])), ((g6 26), .inr (7, [.int 0, .int 0, .int 0, .int 0])), ((g6 27), .inr (7, [.int 0, .int 0, .int 0, .int 0])), ((g6 28), .inr (1, [.ref (g6 29), .int 0, .int 0, .int 0, .int 0, .int 0, .int 0, .int 0, .int 0, .int 0])), ((g6 29), .inl (cS, 4, .inr (.inr (.inr (.inr (va_up (va_up (va_up (va_up (fun _ => none) 0 (some (g6 30))) 1 (some (g6 31))) 2 (some (g6 32))) 3 (some (g6 33)))))))), ((g6 30), .inr (7, [.int 0, .int 0, .int 0, .int 0])), ((g6 31), .inr (7, [.int 0, .int 0, .int 0, .int 0])), ((g6 32), .inr (7, [.int 0, .int 0, .int 0, .int 0])), ((g6 33), .inr (7, [.int 0, .int 0, .int 0, .int 0])), ((g6 34), .inr (1, [.ref (g6 35), .int 0, .int 0, .int 0, .int 0, .int 0, .int 0, .int 0, .int 0, .int 0])), ((g6 35), .inl (cS, 4, .inr (.inr (.inr (.inr (va_up (va_up (va_up (va_up (fun _ => none) 0 (some (g6 36))) 1 (some (g6 37))) 2 (some (g6 38))) 3 (some (g6 39)))))))), ((g6 36), .inr (7, [.int 0, .int 0, .int 0, .int 0])), ((g6 37), .inr (7, [.int 0, .int 0, .int 0, .int 0])), ((g6 38), .inr (7, [.int 0, .int 0, .int 0, .int 0])), ((g6 39), .inr (7, [.int 0, .int 0, .int 0, .int 0])), (q7, .inr (6, [.null, .null, .null, .null, .int 0, .int 0, .int 0]))] A s H _ := I
  refine lv_dup hx hb dX10_init_45 rfl ?_
  refine lv_aload_n hx hb dX10_init_46 rfl (lv_at hl 0 rfl) ?_
  refine n_get C hK I inT10 0 10 2 rfl rfl (by decide) rfl fl_X10_28 rfl dX10_init_47 ?_
  refine n_I (As := [.ref q5]) (rest := [.ref q7, .ref h0]) (wc := [(q7, .inr (6, [.null, .null, .null, .null, .int 0, .int 0, .int 0]))]) (wr := [(h0, .inr (10, [.ref q1, .ref q3, .ref q5, .null, .null, .null, .null, .null])), (q1, .inr (8, [.ref (g2 0), .int 0])), ((g2 0), .inl (cI, 200, .inl (fun _ => 0))), (q3, .inr (5, [.ref q1, .ref (g4 0), .int 0, .int 0, .int 0, .int 0, .int 0])), ((g4 0), .inl (cI, 80, .inl (fun _ => 0))), (q5, .inr (4, [.ref (g6 0), .ref (g6 1), .ref (g6 2), .ref (g6 3), .int 0, .int 40, .int 999, .int 480])), ((g6 0), .inl (cI, 8, .inl wX4_init_q1_8)), ((g6 1), .inl (cI, 8, .inl (fun _ => 0))), ((g6 2), .inl (cI, 36, .inl wX4_init_q3_36)), ((g6 3), .inl (cC, 6, .inr (.inr (.inr (.inr (va_up (va_up (va_up (va_up (va_up (va_up (fun _ => none) 0 (some (g6 4))) 1 (some (g6 10))) 2 (some (g6 16))) 3 (some (g6 22))) 4 (some (g6 28))) 5 (some (g6 34)))))))), ((g6 4), .inr (1, [.ref (g6 5), .int 0, .int 0, .int 0, .int 0, .int 0, .int 0, .int 0, .int 0, .int 0])), ((g6 5), .inl (cS, 4, .inr (.inr (.inr (.inr (va_up (va_up (va_up (va_up (fun _ => none) 0 (some (g6 6))) 1 (some (g6 7))) 2 (some (g6 8))) 3 (some (g6 9)))))))), ((g6 6), .inr (7, [.int 0, .int 0, .int 0, .int 0])), ((g6 7), .inr (7, [.int 0, .int 0, .int 0, .int 0])), ((g6 8), .inr (7, [.int 0, .int 0, .int 0, .int 0])), ((g6 9), .inr (7, [.int 0, .int 0, .int 0, .int 0])), ((g6 10), .inr (1, [.ref (g6 11), .int 0, .int 0, .int 0, .int 0, .int 0, .int 0, .int 0, .int 0, .int 0])), ((g6 11), .inl (cS, 4, .inr (.inr (.inr (.inr (va_up (va_up (va_up (va_up (fun _ => none) 0 (some (g6 12))) 1 (some (g6 13))) 2 (some (g6 14))) 3 (some (g6 15)))))))), ((g6 12), .inr (7, [.int 0, .int 0, .int 0, .int 0])), ((g6 13), .inr (7, [.int 0, .int 0, .int 0, .int 0])), ((g6 14), .inr (7, [.int 0, .int 0, .int 0, .int 0])), ((g6 15), .inr (7, [.int 0, .int 0, .int 0, .int 0])), ((g6 16), .inr (1, [.ref (g6 17), .int 0, .int 0, .int 0, .int 0, .int 0, .int 0, .int 0, .int 0, .int 0])), ((g6 17), .inl (cS, 4, .inr (.inr (.inr (.inr (va_up (va_up (va_up (va_up (fun _ => none) 0 (some (g6 18))) 1 (some (g6 19))) 2 (some (g6 20))) 3 (some (g6 21)))))))), ((g6 18), .inr (7, [.int 0, .int 0, .int 0, .int 0])), ((g6 19), .inr (7, [.int 0, .int 0, .int 0, .int 0])), ((g6 20), .inr (7, [.int 0, .int 0, .int 0, .int 0])), ((g6 21), .inr (7, [.int 0, .int 0, .int 0, .int 0])), ((g6 22), .inr (1, [.ref (g6 23), .int 0, .int 0, .int 0, .int 0, .int 0, .int 0, .int 0, .int 0, .int 0])), ((g6 23), .inl (cS, 4, .inr (.inr (.inr (.inr (va_up (va_up (va_up (va_up (fun _ => none) 0 (some (g6 24))) 1 (some (g6 25))) 2 (some (g6 26))) 3 (some (g6 27)))))))), ((g6 24), .inr (7, [.int 0, .int 0, .int 0, .int 0])), ((g6 25), .inr (7, [.int 0, .int 0, .int 0, .int 0])), ((g6 26), .inr (7, [.int 0, .int 0, .int 0, .int 0])), ((g6 27), .inr (7, [.int 0, .int 0, .int 0, .int 0])), ((g6 28), .inr (1, [.ref (g6 29), .int 0, .int 0, .int 0, .int 0, .int 0, .int 0, .int 0, .int 0, .int 0])), ((g6 29), .inl (cS, 4, .inr (.inr (.inr (.inr (va_up (va_up (va_up (va_up (fun _ => none) 0 (some (g6 30))) 1 (some (g6 31))) 2 (some (g6 32))) 3 (some (g6 33)))))))), ((g6 30), .inr (7, [.int 0, .int 0, .int 0, .int 0])), ((g6 31), .inr (7, [.int 0, .int 0, .int 0, .int 0])), ((g6 32), .inr (7, [.int 0, .int 0, .int 0, .int 0])), ((g6 33), .inr (7, [.int 0, .int 0, .int 0, .int 0])), ((g6 34), .inr (1, [.ref (g6 35), .int 0, .int 0, .int 0, .int 0, .int 0, .int 0, .int 0, .int 0, .int 0])), ((g6 35), .inl (cS, 4, .inr (.inr (.inr (.inr (va_up (va_up (va_up (va_up (fun _ => none) 0 (some (g6 36))) 1 (some (g6 37))) 2 (some (g6 38))) 3 (some (g6 39)))))))), ((g6 36), .inr (7, [.int 0, .int 0, .int 0, .int 0])), ((g6 37), .inr (7, [.int 0, .int 0, .int 0, .int 0])), ((g6 38), .inr (7, [.int 0, .int 0, .int 0, .int 0])), ((g6 39), .inr (7, [.int 0, .int 0, .int 0, .int 0]))]) C hK I hA [46] [0, 1, 2, 3, 4, 5, 6, 7, 8, 9, 10, 11, 12, 13, 14, 15, 16, 17, 18, 19, 20, 21, 22, 23, 24, 25, 26, 27, 28, 29, 30, 31, 32, 33, 34, 35, 36, 37, 38, 39, 40, 41, 42, 43, 44, 45] rfl rfl rfl (by decide) (by decide) (by decide) (c_X6_init l D cI cC cS q7 q5) ⟨Nat.le_of_ble_eq_true rfl, Nat.le_of_ble_eq_true rfl⟩ ⟨Nat.le_of_ble_eq_true rfl, Nat.le_of_ble_eq_true rfl⟩ mi_X6_init lk_X10_34 rfl hl.1 rfl (Nat.le_of_ble_eq_true rfl) dX10_init_50 (fun ws9 hp9 H locs I => ?_)
  obtain ⟨g8, rfl⟩ := hp9
  have I : Iw D [(h0, .inr (10, [.ref q1, .ref q3, .ref q5, .null, .null, .null, .null, .null])), (q1, .inr (8, [.ref (g2 0), .int 0])), ((g2 0), .inl (cI, 200, .inl (fun _ => 0))), (q3, .inr (5, [.ref q1, .ref (g4 0), .int 0, .int 0, .int 0, .int 0, .int 0])), ((g4 0), .inl (cI, 80, .inl (fun _ => 0))), (q5, .inr (4, [.ref (g6 0), .ref (g6 1), .ref (g6 2), .ref (g6 3), .int 0, .int 40, .int 999, .int 480])), ((g6 0), .inl (cI, 8, .inl wX4_init_q1_8)), ((g6 1), .inl (cI, 8, .inl (fun _ => 0))), ((g6 2), .inl (cI, 36, .inl wX4_init_q3_36)), ((g6 3), .inl (cC, 6, .inr (.inr (.inr (.inr (va_up (va_up (va_up (va_up (va_up (va_up (fun _ => none) 0 (some (g6 4))) 1 (some (g6 10))) 2 (some (g6 16))) 3 (some (g6 22))) 4 (some (g6 28))) 5 (some (g6 34)))))))), ((g6 4), .inr (1, [.ref (g6 5), .int 0, .int 0, .int 0, .int 0, .int 0, .int 0, .int 0, .int 0, .int 0])), ((g6 5), .inl (cS, 4, .inr (.inr (.inr (.inr (va_up (va_up (va_up (va_up (fun _ => none) 0 (some (g6 6))) 1 (some (g6 7))) 2 (some (g6 8))) 3 (some (g6 9)))))))), ((g6 6), .inr (7, [.int 0, .int 0, .int 0, .int 0])), ((g6 7), .inr (7, [.int 0, .int 0, .int 0, .int 0])), ((g6 8), .inr (7, [.int 0, .int 0, .int 0, .int 0])), ((g6 9), .inr (7, [.int 0, .int 0, .int 0, .int 0])), ((g6 10), .inr (1, [.ref (g6 11), .int 0, .int 0, .int 0, .int 0, .int 0, .int 0, .int 0, .int 0, .int 0])), ((g6 11), .inl (cS, 4, .inr (.inr (.inr (.inr (va_up (va_up (va_up (va_up (fun _ => none) 0 (some (g6 12))) 1 (some (g6 13))) 2 (some (g6 14))) 3 (some (g6 15)))))))), ((g6 12), .inr (7, [.int 0, .int 0, .int 0, .int 0])), ((g6 13), .inr (7, [.int 0, .int 0, .int 0, .int 0])), ((g6 14), .inr (7, [.int 0, .int 0, .int 0, .int 0])), ((g6 15), .inr (7, [.int 0, .int 0, .int 0, .int 0])), ((g6 16), .inr (1, [.ref (g6 17), .int 0, .int 0, .int 0, .int 0, .int 0, .int 0, .int 0, .int 0, .int 0])), ((g6 17), .inl (cS, 4, .inr (.inr (.inr (.inr (va_up (va_up (va_up (va_up (fun _ => none) 0 (some (g6 18))) 1 (some (g6 19))) 2 (some (g6 20))) 3 (some (g6 21)))))))), ((g6 18), .inr (7, [.int 0, .int 0, .int 0, .int 0])), ((g6 19), .inr (7, [.int 0, .int 0, .int 0, .int 0])), ((g6 20), .inr (7, [.int 0, .int 0, .int 0, .int 0])), ((g6 21), .inr (7, [.int 0, .int 0, .int 0, .int 0])), ((g6 22), .inr (1, [.ref (g6 23), .int 0, .int 0, .int 0, .int 0, .int 0, .int 0, .int 0, .int 0, .int 0])), ((g6 23), .inl (cS, 4, .inr (.inr (.inr (.inr (va_up (va_up (va_up (va_up (fun _ => none) 0 (some (g6 24))) 1 (some (g6 25))) 2 (some (g6 26))) 3 (some (g6 27)))))))), ((g6 24), .inr (7, [.int 0, .int 0, .int 0, .int 0])), ((g6 25), .inr (7, [.int 0, .int 0, .int 0, .int 0])), ((g6 26), .inr (7, [.int 0, .int 0, .int 0, .int 0])), ((g6 27), .inr (7, [.int 0, .int 0, .int 0, .int 0])), ((g6 28), .inr (1, [.ref (g6 29), .int 0, .int 0, .int 0, .int 0, .int 0, .int 0, .int 0, .int 0, .int 0])), ((g6 29), .inl (cS, 4, .inr (.inr (.inr (.inr (va_up (va_up (va_up (va_up (fun _ => none) 0 (some (g6 30))) 1 (some (g6 31))) 2 (some (g6 32))) 3 (some (g6 33)))))))), ((g6 30), .inr (7, [.int 0, .int 0, .int 0, .int 0])), ((g6 31), .inr (7, [.int 0, .int 0, .int 0, .int 0])), ((g6 32), .inr (7, [.int 0, .int 0, .int 0, .int 0])), ((g6 33), .inr (7, [.int 0, .int 0, .int 0, .int 0])), ((g6 34), .inr (1, [.ref (g6 35), .int 0, .int 0, .int 0, .int 0, .int 0, .int 0, .int 0, .int 0, .int 0])), ((g6 35), .inl (cS, 4, .inr (.inr (.inr (.inr (va_up (va_up (va_up (va_up (fun _ => none) 0 (some (g6 36))) 1 (some (g6 37))) 2 (some (g6 38))) 3 (some (g6 39)))))))), ((g6 36), .inr (7, [.int 0, .int 0, .int 0, .int 0])), ((g6 37), .inr (7, [.int 0, .int 0, .int 0, .int 0])), ((g6 38), .inr (7, [.int 0, .int 0, .int 0, .int 0])), ((g6 39), .inr (7, [.int 0, .int 0, .int 0, .int 0])), (q7, .inr (6, [.ref q5, .ref (g8 0), .ref (g8 1), .ref (g8 2), .int 0, .int (-1), .int (-1)])), ((g8 0), .inl (cI, 6, .inl (fun _ => 0))), ((g8 1), .inl (cI, 6, .inl (fun _ => 0))), ((g8 2), .inl (cC, 6, .inr (.inr (.inr (.inr (fun _ => none))))))] A s H _ := I
  refine n_putF C hK I inT10 tyX10 tyX10_ok nmX10 0 10 3 rfl rfl (by decide) rfl rfl hin fl_X10_37 rfl rfl rfl (Nat.le_of_ble_eq_true rfl) (ws1 := [(h0, .inr (10, [.ref q1, .ref q3, .ref q5, .ref q7, .null, .null, .null, .null])), (q1, .inr (8, [.ref (g2 0), .int 0])), ((g2 0), .inl (cI, 200, .inl (fun _ => 0))), (q3, .inr (5, [.ref q1, .ref (g4 0), .int 0, .int 0, .int 0, .int 0, .int 0])), ((g4 0), .inl (cI, 80, .inl (fun _ => 0))), (q5, .inr (4, [.ref (g6 0), .ref (g6 1), .ref (g6 2), .ref (g6 3), .int 0, .int 40, .int 999, .int 480])), ((g6 0), .inl (cI, 8, .inl wX4_init_q1_8)), ((g6 1), .inl (cI, 8, .inl (fun _ => 0))), ((g6 2), .inl (cI, 36, .inl wX4_init_q3_36)), ((g6 3), .inl (cC, 6, .inr (.inr (.inr (.inr (va_up (va_up (va_up (va_up (va_up (va_up (fun _ => none) 0 (some (g6 4))) 1 (some (g6 10))) 2 (some (g6 16))) 3 (some (g6 22))) 4 (some (g6 28))) 5 (some (g6 34)))))))), ((g6 4), .inr (1, [.ref (g6 5), .int 0, .int 0, .int 0, .int 0, .int 0, .int 0, .int 0, .int 0, .int 0])), ((g6 5), .inl (cS, 4, .inr (.inr (.inr (.inr (va_up (va_up (va_up (va_up (fun _ => none) 0 (some (g6 6))) 1 (some (g6 7))) 2 (some (g6 8))) 3 (some (g6 9)))))))), ((g6 6), .inr (7, [.int 0, .int 0, .int 0, .int 0])), ((g6 7), .inr (7, [.int 0, .int 0, .int 0, .int 0])), ((g6 8), .inr (7, [.int 0, .int 0, .int 0, .int 0])), ((g6 9), .inr (7, [.int 0, .int 0, .int 0, .int 0])), ((g6 10), .inr (1, [.ref (g6 11), .int 0, .int 0, .int 0, .int 0, .int 0, .int 0, .int 0, .int 0, .int 0])), ((g6 11), .inl (cS, 4, .inr (.inr (.inr (.inr (va_up (va_up (va_up (va_up (fun _ => none) 0 (some (g6 12))) 1 (some (g6 13))) 2 (some (g6 14))) 3 (some (g6 15)))))))), ((g6 12), .inr (7, [.int 0, .int 0, .int 0, .int 0])), ((g6 13), .inr (7, [.int 0, .int 0, .int 0, .int 0])), ((g6 14), .inr (7, [.int 0, .int 0, .int 0, .int 0])), ((g6 15), .inr (7, [.int 0, .int 0, .int 0, .int 0])), ((g6 16), .inr (1, [.ref (g6 17), .int 0, .int 0, .int 0, .int 0, .int 0, .int 0, .int 0, .int 0, .int 0])), ((g6 17), .inl (cS, 4, .inr (.inr (.inr (.inr (va_up (va_up (va_up (va_up (fun _ => none) 0 (some (g6 18))) 1 (some (g6 19))) 2 (some (g6 20))) 3 (some (g6 21)))))))), ((g6 18), .inr (7, [.int 0, .int 0, .int 0, .int 0])), ((g6 19), .inr (7, [.int 0, .int 0, .int 0, .int 0])), ((g6 20), .inr (7, [.int 0, .int 0, .int 0, .int 0])), ((g6 21), .inr (7, [.int 0, .int 0, .int 0, .int 0])), ((g6 22), .inr (1, [.ref (g6 23), .int 0, .int 0, .int 0, .int 0, .int 0, .int 0, .int 0, .int 0, .int 0])), ((g6 23), .inl (cS, 4, .inr (.inr (.inr (.inr (va_up (va_up (va_up (va_up (fun _ => none) 0 (some (g6 24))) 1 (some (g6 25))) 2 (some (g6 26))) 3 (some (g6 27)))))))), ((g6 24), .inr (7, [.int 0, .int 0, .int 0, .int 0])), ((g6 25), .inr (7, [.int 0, .int 0, .int 0, .int 0])), ((g6 26), .inr (7, [.int 0, .int 0, .int 0, .int 0])), ((g6 27), .inr (7, [.int 0, .int 0, .int 0, .int 0])), ((g6 28), .inr (1, [.ref (g6 29), .int 0, .int 0, .int 0, .int 0, .int 0, .int 0, .int 0, .int 0, .int 0])), ((g6 29), .inl (cS, 4, .inr (.inr (.inr (.inr (va_up (va_up (va_up (va_up (fun _ => none) 0 (some (g6 30))) 1 (some (g6 31))) 2 (some (g6 32))) 3 (some (g6 33)))))))), ((g6 30), .inr (7, [.int 0, .int 0, .int 0, .int 0])), ((g6 31), .inr (7, [.int 0, .int 0, .int 0, .int 0])), ((g6 32), .inr (7, [.int 0, .int 0, .int 0, .int 0])), ((g6 33), .inr (7, [.int 0, .int 0, .int 0, .int 0])), ((g6 34), .inr (1, [.ref (g6 35), .int 0, .int 0, .int 0, .int 0, .int 0, .int 0, .int 0, .int 0, .int 0])), ((g6 35), .inl (cS, 4, .inr (.inr (.inr (.inr (va_up (va_up (va_up (va_up (fun _ => none) 0 (some (g6 36))) 1 (some (g6 37))) 2 (some (g6 38))) 3 (some (g6 39)))))))), ((g6 36), .inr (7, [.int 0, .int 0, .int 0, .int 0])), ((g6 37), .inr (7, [.int 0, .int 0, .int 0, .int 0])), ((g6 38), .inr (7, [.int 0, .int 0, .int 0, .int 0])), ((g6 39), .inr (7, [.int 0, .int 0, .int 0, .int 0])), (q7, .inr (6, [.ref q5, .ref (g8 0), .ref (g8 1), .ref (g8 2), .int 0, .int (-1), .int (-1)])), ((g8 0), .inl (cI, 6, .inl (fun _ => 0))), ((g8 1), .inl (cI, 6, .inl (fun _ => 0))), ((g8 2), .inl (cC, 6, .inr (.inr (.inr (.inr (fun _ => none))))))]) rfl dX10_init_53 (fun H locs I => ?_)
  refine lv_aload_n hx hb dX10_init_56 rfl (lv_at hl 0 rfl) ?_
  refine n_new (ci := 9) (fs := [.null, .null, .int 0, .long 0, .long 0, .long 0, .int 0, .int 0, .int 0]) C hK I hA inT9 tyX9 tyX9_ok cl_X10_41 in_X9 ii_X9 rfl (fun j hj => match j, hj with | 0, _ => rfl | 1, _ => rfl | 2, _ => rfl | 3, _ => rfl | 4, _ => rfl | 5, _ => rfl | 6, _ => rfl | 7, _ => rfl | 8, _ => rfl | n + 9, h => absurd h (by omega)) (Nat.le_of_ble_eq_true rfl) (Nat.le_of_ble_eq_true rfl) dX10_init_57 (fun q9 H I => ?_)
  have I : Iw D [(h0, .inr (10, [.ref q1, .ref q3, .ref q5, .ref q7, .null, .null, .null, .null])), (q1, .inr (8, [.ref (g2 0), .int 0])), ((g2 0), .inl (cI, 200, .inl (fun _ => 0))), (q3, .inr (5, [.ref q1, .ref (g4 0), .int 0, .int 0, .int 0, .int 0, .int 0])), ((g4 0), .inl (cI, 80, .inl (fun _ => 0))), (q5, .inr (4, [.ref (g6 0), .ref (g6 1), .ref (g6 2), .ref (g6 3), .int 0, .int 40, .int 999, .int 480])), ((g6 0), .inl (cI, 8, .inl wX4_init_q1_8)), ((g6 1), .inl (cI, 8, .inl (fun _ => 0))), ((g6 2), .inl (cI, 36, .inl wX4_init_q3_36)), ((g6 3), .inl (cC, 6, .inr (.inr (.inr (.inr (va_up (va_up (va_up (va_up (va_up (va_up (fun _ => none) 0 (some (g6 4))) 1 (some (g6 10))) 2 (some (g6 16))) 3 (some (g6 22))) 4 (some (g6 28))) 5 (some (g6 34)))))))), ((g6 4), .inr (1, [.ref (g6 5), .int 0, .int 0, .int 0, .int 0, .int 0, .int 0, .int 0, .int 0, .int 0])), ((g6 5), .inl (cS, 4, .inr (.inr (.inr (.inr (va_up (va_up (va_up (va_up (fun _ => none) 0 (some (g6 6))) 1 (some (g6 7))) 2 (some (g6 8))) 3 (some (g6 9)))))))), ((g6 6), .inr (7, [.int 0, .int 0, .int 0, .int 0])), ((g6 7), .inr (7, [.int 0, .int 0, .int 0, .int 0])), ((g6 8), .inr (7, [.int 0, .int 0, .int 0, .int 0])), ((g6 9), .inr (7, [.int 0, .int 0, .int 0, .int 0])), ((g6 10), .inr (1, [.ref (g6 11), .int 0, .int 0, .int 0, .int 0, .int 0, .int 0, .int 0, .int 0, .int 0])), ((g6 11), .inl (cS, 4, .inr (.inr (.inr (.inr (va_up (va_up (va_up (va_up (fun _ => none) 0 (some (g6 12))) 1 (some (g6 13))) 2 (some (g6 14))) 3 (some (g6 15)))))))), ((g6 12), .inr (7, [.int 0, .int 0, .int 0, .int 0])), ((g6 13), .inr (7, [.int 0, .int 0, .int 0, .int 0])), ((g6 14), .inr (7, [.int 0, .int 0, .int 0, .int 0])), ((g6 15), .inr (7, [.int 0, .int 0, .int 0, .int 0])), ((g6 16), .inr (1, [.ref (g6 17), .int 0, .int 0, .int 0, .int 0, .int 0, .int 0, .int 0, .int 0, .int 0])), ((g6 17), .inl (cS, 4, .inr (.inr (.inr (.inr (va_up (va_up (va_up (va_up (fun _ => none) 0 (some (g6 18))) 1 (some (g6 19))) 2 (some (g6 20))) 3 (some (g6 21)))))))), ((g6 18), .inr (7, [.int 0, .int 0, .int 0, .int 0])), ((g6 19), .inr (7, [.int 0, .int 0, .int 0, .int 0])), ((g6 20), .inr (7, [.int 0, .int 0, .int 0, .int 0])), ((g6 21), .inr (7, [.int 0, .int 0, .int 0, .int 0])), ((g6 22), .inr (1, [.ref (g6 23), .int 0, .int 0, .int 0, .int 0, .int 0, .int 0, .int 0, .int 0, .int 0])), ((g6 23), .inl (cS, 4, .inr (.inr (.inr (.inr (va_up (va_up (va_up (va_up (fun _ => none) 0 (some (g6 24))) 1 (some (g6 25))) 2 (some (g6 26))) 3 (some (g6 27)))))))), ((g6 24), .inr (7, [.int 0, .int 0, .int 0, .int 0])), ((g6 25), .inr (7, [.int 0, .int 0, .int 0, .int 0])), ((g6 26), .inr (7, [.int 0, .int 0, .int 0, .int 0])), ((g6 27), .inr (7, [.int 0, .int 0, .int 0, .int 0])), ((g6 28), .inr (1, [.ref (g6 29), .int 0, .int 0, .int 0, .int 0, .int 0, .int 0, .int 0, .int 0, .int 0])), ((g6 29), .inl (cS, 4, .inr (.inr (.inr (.inr (va_up (va_up (va_up (va_up (fun _ => none) 0 (some (g6 30))) 1 (some (g6 31))) 2 (some (g6 32))) 3 (some (g6 33)))))))), ((g6 30), .inr (7, [.int 0, .int 0, .int 0, .int 0])), ((g6 31), .inr (7, [.int 0, .int 0, .int 0, .int 0])), ((g6 32), .inr (7, [.int 0, .int 0, .int 0, .int 0])), ((g6 33), .inr (7, [.int 0, .int 0, .int 0, .int 0])), ((g6 34), .inr (1, [.ref (g6 35), .int 0, .int 0, .int 0, .int 0, .int 0, .int 0, .int 0, .int 0, .int 0])), ((g6 35), .inl (cS, 4, .inr (.inr (.inr (.inr (va_up (va_up (va_up (va_up (fun _ => none) 0 (some (g6 36))) 1 (some (g6 37))) 2 (some (g6 38))) 3 (some (g6 39)))))))), ((g6 36), .inr (7, [.int 0, .int 0, .int 0, .int 0])), ((g6 37), .inr (7, [.int 0, .int 0, .int 0, .int 0])), ((g6 38), .inr (7, [.int 0, .int 0, .int 0, .int 0])), ((g6 39), .inr (7, [.int 0, .int 0, .int 0, .int 0])), (q7, .inr (6, [.ref q5, .ref (g8 0), .ref (g8 1), .ref (g8 2), .int 0, .int (-1), .int (-1)])), ((g8 0), .inl (cI, 6, .inl (fun _ => 0))), ((g8 1), .inl (cI, 6, .inl (fun _ => 0))), ((g8 2), .inl (cC, 6, .inr (.inr (.inr (.inr (fun _ => none)))))), (q9, .inr (9, [.null, .null, .int 0, .long 0, .long 0, .long 0, .int 0, .int 0, .int 0]))] A s H _ := I
  refine lv_dup hx hb dX10_init_60 rfl ?_
  refine lv_aload_n hx hb dX10_init_61 rfl (lv_at hl 0 rfl) ?_
  refine n_get C hK I inT10 0 10 2 rfl rfl (by decide) rfl fl_X10_28 rfl dX10_init_62 ?_
  refine lv_aload_n hx hb dX10_init_65 rfl (lv_at hl 0 rfl) ?_
  refine n_get C hK I inT10 0 10 3 rfl rfl (by decide) rfl fl_X10_37 rfl dX10_init_66 ?_
  refine n_I (As := [.ref q5, .ref q7]) (rest := [.ref q9, .ref h0]) (wc := [(q9, .inr (9, [.null, .null, .int 0, .long 0, .long 0, .long 0, .int 0, .int 0, .int 0]))]) (wr := [(h0, .inr (10, [.ref q1, .ref q3, .ref q5, .ref q7, .null, .null, .null, .null])), (q1, .inr (8, [.ref (g2 0), .int 0])), ((g2 0), .inl (cI, 200, .inl (fun _ => 0))), (q3, .inr (5, [.ref q1, .ref (g4 0), .int 0, .int 0, .int 0, .int 0, .int 0])), ((g4 0), .inl (cI, 80, .inl (fun _ => 0))), (q5, .inr (4, [.ref (g6 0), .ref (g6 1), .ref (g6 2), .ref (g6 3), .int 0, .int 40, .int 999, .int 480])), ((g6 0), .inl (cI, 8, .inl wX4_init_q1_8)), ((g6 1), .inl (cI, 8, .inl (fun _ => 0))), ((g6 2), .inl (cI, 36, .inl wX4_init_q3_36)), ((g6 3), .inl (cC, 6, .inr (.inr (.inr (.inr (va_up (va_up (va_up (va_up (va_up (va_up (fun _ => none) 0 (some (g6 4))) 1 (some (g6 10))) 2 (some (g6 16))) 3 (some (g6 22))) 4 (some (g6 28))) 5 (some (g6 34)))))))), ((g6 4), .inr (1, [.ref (g6 5), .int 0, .int 0, .int 0, .int 0, .int 0, .int 0, .int 0, .int 0, .int 0])), ((g6 5), .inl (cS, 4, .inr (.inr (.inr (.inr (va_up (va_up (va_up (va_up (fun _ => none) 0 (some (g6 6))) 1 (some (g6 7))) 2 (some (g6 8))) 3 (some (g6 9)))))))), ((g6 6), .inr (7, [.int 0, .int 0, .int 0, .int 0])), ((g6 7), .inr (7, [.int 0, .int 0, .int 0, .int 0])), ((g6 8), .inr (7, [.int 0, .int 0, .int 0, .int 0])), ((g6 9), .inr (7, [.int 0, .int 0, .int 0, .int 0])), ((g6 10), .inr (1, [.ref (g6 11), .int 0, .int 0, .int 0, .int 0, .int 0, .int 0, .int 0, .int 0, .int 0])), ((g6 11), .inl (cS, 4, .inr (.inr (.inr (.inr (va_up (va_up (va_up (va_up (fun _ => none) 0 (some (g6 12))) 1 (some (g6 13))) 2 (some (g6 14))) 3 (some (g6 15)))))))), ((g6 12), .inr (7, [.int 0, .int 0, .int 0, .int 0])), ((g6 13), .inr (7, [.int 0, .int 0, .int 0, .int 0])), ((g6 14), .inr (7, [.int 0, .int 0, .int 0, .int 0])), ((g6 15), .inr (7, [.int 0, .int 0, .int 0, .int 0])), ((g6 16), .inr (1, [.ref (g6 17), .int 0, .int 0, .int 0, .int 0, .int 0, .int 0, .int 0, .int 0, .int 0])), ((g6 17), .inl (cS, 4, .inr (.inr (.inr (.inr (va_up (va_up (va_up (va_up (fun _ => none) 0 (some (g6 18))) 1 (some (g6 19))) 2 (some (g6 20))) 3 (some (g6 21)))))))), ((g6 18), .inr (7, [.int 0, .int 0, .int 0, .int 0])), ((g6 19), .inr (7, [.int 0, .int 0, .int 0, .int 0])), ((g6 20), .inr (7, [.int 0, .int 0, .int 0, .int 0])), ((g6 21), .inr (7, [.int 0, .int 0, .int 0, .int 0])), ((g6 22), .inr (1, [.ref (g6 23), .int 0, .int 0, .int 0, .int 0, .int 0, .int 0, .int 0, .int 0, .int 0])), ((g6 23), .inl (cS, 4, .inr (.inr (.inr (.inr (va_up (va_up (va_up (va_up (fun _ => none) 0 (some (g6 24))) 1 (some (g6 25))) 2 (some (g6 26))) 3 (some (g6 27)))))))), ((g6 24), .inr (7, [.int 0, .int 0, .int 0, .int 0])), ((g6 25), .inr (7, [.int 0, .int 0, .int 0, .int 0])), ((g6 26), .inr (7, [.int 0, .int 0, .int 0, .int 0])), ((g6 27), .inr (7, [.int 0, .int 0, .int 0, .int 0])), ((g6 28), .inr (1, [.ref (g6 29), .int 0, .int 0, .int 0, .int 0, .int 0, .int 0, .int 0, .int 0, .int 0])), ((g6 29), .inl (cS, 4, .inr (.inr (.inr (.inr (va_up (va_up (va_up (va_up (fun _ => none) 0 (some (g6 30))) 1 (some (g6 31))) 2 (some (g6 32))) 3 (some (g6 33)))))))), ((g6 30), .inr (7, [.int 0, .int 0, .int 0, .int 0])), ((g6 31), .inr (7, [.int 0, .int 0, .int 0, .int 0])), ((g6 32), .inr (7, [.int 0, .int 0, .int 0, .int 0])), ((g6 33), .inr (7, [.int 0, .int 0, .int 0, .int 0])), ((g6 34), .inr (1, [.ref (g6 35), .int 0, .int 0, .int 0, .int 0, .int 0, .int 0, .int 0, .int 0, .int 0])), ((g6 35), .inl (cS, 4, .inr (.inr (.inr (.inr (va_up (va_up (va_up (va_up (fun _ => none) 0 (some (g6 36))) 1 (some (g6 37))) 2 (some (g6 38))) 3 (some (g6 39)))))))), ((g6 36), .inr (7, [.int 0, .int 0, .int 0, .int 0])), ((g6 37), .inr (7, [.int 0, .int 0, .int 0, .int 0])), ((g6 38), .inr (7, [.int 0, .int 0, .int 0, .int 0])), ((g6 39), .inr (7, [.int 0, .int 0, .int 0, .int 0])), (q7, .inr (6, [.ref q5, .ref (g8 0), .ref (g8 1), .ref (g8 2), .int 0, .int (-1), .int (-1)])), ((g8 0), .inl (cI, 6, .inl (fun _ => 0))), ((g8 1), .inl (cI, 6, .inl (fun _ => 0))), ((g8 2), .inl (cC, 6, .inr (.inr (.inr (.inr (fun _ => none))))))]) C hK I hA [50] [0, 1, 2, 3, 4, 5, 6, 7, 8, 9, 10, 11, 12, 13, 14, 15, 16, 17, 18, 19, 20, 21, 22, 23, 24, 25, 26, 27, 28, 29, 30, 31, 32, 33, 34, 35, 36, 37, 38, 39, 40, 41, 42, 43, 44, 45, 46, 47, 48, 49] rfl rfl rfl (by decide) (by decide) (by decide) (c_X9_init l D cI cC cS q9 q5 q7) ⟨Nat.le_of_ble_eq_true rfl, Nat.le_of_ble_eq_true rfl⟩ ⟨Nat.le_of_ble_eq_true rfl, Nat.le_of_ble_eq_true rfl⟩ mi_X9_init lk_X10_43 rfl hl.1 rfl (Nat.le_of_ble_eq_true rfl) dX10_init_69 (fun ws9 hp9 H locs I => ?_)
  have hp9 : ws9 = _ := hp9
  subst hp9
  have I : Iw D [(h0, .inr (10, [.ref q1, .ref q3, .ref q5, .ref q7, .null, .null, .null, .null])), (q1, .inr (8, [.ref (g2 0), .int 0])), ((g2 0), .inl (cI, 200, .inl (fun _ => 0))), (q3, .inr (5, [.ref q1, .ref (g4 0), .int 0, .int 0, .int 0, .int 0, .int 0])), ((g4 0), .inl (cI, 80, .inl (fun _ => 0))), (q5, .inr (4, [.ref (g6 0), .ref (g6 1), .ref (g6 2), .ref (g6 3), .int 0, .int 40, .int 999, .int 480])), ((g6 0), .inl (cI, 8, .inl wX4_init_q1_8)), ((g6 1), .inl (cI, 8, .inl (fun _ => 0))), ((g6 2), .inl (cI, 36, .inl wX4_init_q3_36)), ((g6 3), .inl (cC, 6, .inr (.inr (.inr (.inr (va_up (va_up (va_up (va_up (va_up (va_up (fun _ => none) 0 (some (g6 4))) 1 (some (g6 10))) 2 (some (g6 16))) 3 (some (g6 22))) 4 (some (g6 28))) 5 (some (g6 34)))))))), ((g6 4), .inr (1, [.ref (g6 5), .int 0, .int 0, .int 0, .int 0, .int 0, .int 0, .int 0, .int 0, .int 0])), ((g6 5), .inl (cS, 4, .inr (.inr (.inr (.inr (va_up (va_up (va_up (va_up (fun _ => none) 0 (some (g6 6))) 1 (some (g6 7))) 2 (some (g6 8))) 3 (some (g6 9)))))))), ((g6 6), .inr (7, [.int 0, .int 0, .int 0, .int 0])), ((g6 7), .inr (7, [.int 0, .int 0, .int 0, .int 0])), ((g6 8), .inr (7, [.int 0, .int 0, .int 0, .int 0])), ((g6 9), .inr (7, [.int 0, .int 0, .int 0, .int 0])), ((g6 10), .inr (1, [.ref (g6 11), .int 0, .int 0, .int 0, .int 0, .int 0, .int 0, .int 0, .int 0, .int 0])), ((g6 11), .inl (cS, 4, .inr (.inr (.inr (.inr (va_up (va_up (va_up (va_up (fun _ => none) 0 (some (g6 12))) 1 (some (g6 13))) 2 (some (g6 14))) 3 (some (g6 15)))))))), ((g6 12), .inr (7, [.int 0, .int 0, .int 0, .int 0])), ((g6 13), .inr (7, [.int 0, .int 0, .int 0, .int 0])), ((g6 14), .inr (7, [.int 0, .int 0, .int 0, .int 0])), ((g6 15), .inr (7, [.int 0, .int 0, .int 0, .int 0])), ((g6 16), .inr (1, [.ref (g6 17), .int 0, .int 0, .int 0, .int 0, .int 0, .int 0, .int 0, .int 0, .int 0])), ((g6 17), .inl (cS, 4, .inr (.inr (.inr (.inr (va_up (va_up (va_up (va_up (fun _ => none) 0 (some (g6 18))) 1 (some (g6 19))) 2 (some (g6 20))) 3 (some (g6 21)))))))), ((g6 18), .inr (7, [.int 0, .int 0, .int 0, .int 0])), ((g6 19), .inr (7, [.int 0, .int 0, .int 0, .int 0])), ((g6 20), .inr (7, [.int 0, .int 0, .int 0, .int 0])), ((g6 21), .inr (7, [.int 0, .int 0, .int 0, .int 0])), ((g6 22), .inr (1, [.ref (g6 23), .int 0, .int 0, .int 0, .int 0, .int 0, .int 0, .int 0, .int 0, .int 0])), ((g6 23), .inl (cS, 4, .inr (.inr (.inr (.inr (va_up (va_up (va_up (va_up (fun _ => none) 0 (some (g6 24))) 1 (some (g6 25))) 2 (some (g6 26))) 3 (some (g6 27)))))))), ((g6 24), .inr (7, [.int 0, .int 0, .int 0, .int 0])), ((g6 25), .inr (7, [.int 0, .int 0, .int 0, .int 0])), ((g6 26), .inr (7, [.int 0, .int 0, .int 0, .int 0])), ((g6 27), .inr (7, [.int 0, .int 0, .int 0, .int 0])), ((g6 28), .inr (1, [.ref (g6 29), .int 0, .int 0, .int 0, .int 0, .int 0, .int 0, .int 0, .int 0, .int 0])), ((g6 29), .inl (cS, 4, .inr (.inr (.inr (.inr (va_up (va_up (va_up (va_up (fun _ => none) 0 (some (g6 30))) 1 (some (g6 31))) 2 (some (g6 32))) 3 (some (g6 33)))))))), ((g6 30), .inr (7, [.int 0, .int 0, .int 0, .int 0])), ((g6 31), .inr (7, [.int 0, .int 0, .int 0, .int 0])), ((g6 32), .inr (7, [.int 0, .int 0, .int 0, .int 0])), ((g6 33), .inr (7, [.int 0, .int 0, .int 0, .int 0])), ((g6 34), .inr (1, [.ref (g6 35), .int 0, .int 0, .int 0, .int 0, .int 0, .int 0, .int 0, .int 0, .int 0])), ((g6 35), .inl (cS, 4, .inr (.inr (.inr (.inr (va_up (va_up (va_up (va_up (fun _ => none) 0 (some (g6 36))) 1 (some (g6 37))) 2 (some (g6 38))) 3 (some (g6 39)))))))), ((g6 36), .inr (7, [.int 0, .int 0, .int 0, .int 0])), ((g6 37), .inr (7, [.int 0, .int 0, .int 0, .int 0])), ((g6 38), .inr (7, [.int 0, .int 0, .int 0, .int 0])), ((g6 39), .inr (7, [.int 0, .int 0, .int 0, .int 0])), (q7, .inr (6, [.ref q5, .ref (g8 0), .ref (g8 1), .ref (g8 2), .int 0, .int (-1), .int (-1)])), ((g8 0), .inl (cI, 6, .inl (fun _ => 0))), ((g8 1), .inl (cI, 6, .inl (fun _ => 0))), ((g8 2), .inl (cC, 6, .inr (.inr (.inr (.inr (fun _ => none)))))), (q9, .inr (9, [.ref q5, .ref q7, .int 0, .long 0, .long 0, .long 0, .int 0, .int 0, .int 0]))] A s H _ := I
  refine n_putF C hK I inT10 tyX10 tyX10_ok nmX10 0 10 4 rfl rfl (by decide) rfl rfl hin fl_X10_46 rfl rfl rfl (Nat.le_of_ble_eq_true rfl) (ws1 := [(h0, .inr (10, [.ref q1, .ref q3, .ref q5, .ref q7, .ref q9, .null, .null, .null])), (q1, .inr (8, [.ref (g2 0), .int 0])), ((g2 0), .inl (cI, 200, .inl (fun _ => 0))), (q3, .inr (5, [.ref q1, .ref (g4 0), .int 0, .int 0, .int 0, .int 0, .int 0])), ((g4 0), .inl (cI, 80, .inl (fun _ => 0))), (q5, .inr (4, [.ref (g6 0), .ref (g6 1), .ref (g6 2), .ref (g6 3), .int 0, .int 40, .int 999, .int 480])), ((g6 0), .inl (cI, 8, .inl wX4_init_q1_8)), ((g6 1), .inl (cI, 8, .inl (fun _ => 0))), ((g6 2), .inl (cI, 36, .inl wX4_init_q3_36)), ((g6 3), .inl (cC, 6, .inr (.inr (.inr (.inr (va_up (va_up (va_up (va_up (va_up (va_up (fun _ => none) 0 (some (g6 4))) 1 (some (g6 10))) 2 (some (g6 16))) 3 (some (g6 22))) 4 (some (g6 28))) 5 (some (g6 34)))))))), ((g6 4), .inr (1, [.ref (g6 5), .int 0, .int 0, .int 0, .int 0, .int 0, .int 0, .int 0, .int 0, .int 0])), ((g6 5), .inl (cS, 4, .inr (.inr (.inr (.inr (va_up (va_up (va_up (va_up (fun _ => none) 0 (some (g6 6))) 1 (some (g6 7))) 2 (some (g6 8))) 3 (some (g6 9)))))))), ((g6 6), .inr (7, [.int 0, .int 0, .int 0, .int 0])), ((g6 7), .inr (7, [.int 0, .int 0, .int 0, .int 0])), ((g6 8), .inr (7, [.int 0, .int 0, .int 0, .int 0])), ((g6 9), .inr (7, [.int 0, .int 0, .int 0, .int 0])), ((g6 10), .inr (1, [.ref (g6 11), .int 0, .int 0, .int 0, .int 0, .int 0, .int 0, .int 0, .int 0, .int 0])), ((g6 11), .inl (cS, 4, .inr (.inr (.inr (.inr (va_up (va_up (va_up (va_up (fun _ => none) 0 (some (g6 12))) 1 (some (g6 13))) 2 (some (g6 14))) 3 (some (g6 15)))))))), ((g6 12), .inr (7, [.int 0, .int 0, .int 0, .int 0])), ((g6 13), .inr (7, [.int 0, .int 0, .int 0, .int 0])), ((g6 14), .inr (7, [.int 0, .int 0, .int 0, .int 0])), ((g6 15), .inr (7, [.int 0, .int 0, .int 0, .int 0])), ((g6 16), .inr (1, [.ref (g6 17), .int 0, .int 0, .int 0, .int 0, .int 0, .int 0, .int 0, .int 0, .int 0])), ((g6 17), .inl (cS, 4, .inr (.inr (.inr (.inr (va_up (va_up (va_up (va_up (fun _ => none) 0 (some (g6 18))) 1 (some (g6 19))) 2 (some (g6 20))) 3 (some (g6 21)))))))), ((g6 18), .inr (7, [.int 0, .int 0, .int 0, .int 0])), ((g6 19), .inr (7, [.int 0, .int 0, .int 0, .int 0])), ((g6 20), .inr (7, [.int 0, .int 0, .int 0, .int 0])), ((g6 21), .inr (7, [.int 0, .int 0, .int 0, .int 0])), ((g6 22), .inr (1, [.ref (g6 23), .int 0, .int 0, .int 0, .int 0, .int 0, .int 0, .int 0, .int 0, .int 0])), ((g6 23), .inl (cS, 4, .inr (.inr (.inr (.inr (va_up (va_up (va_up (va_up (fun _ => none) 0 (some (g6 24))) 1 (some (g6 25))) 2 (some (g6 26))) 3 (some (g6 27)))))))), ((g6 24), .inr (7, [.int 0, .int 0, .int 0, .int 0])), ((g6 25), .inr (7, [.int 0, .int 0, .int 0, .int 0])), ((g6 26), .inr (7, [.int 0, .int 0, .int 0, .int 0])), ((g6 27), .inr (7, [.int 0, .int 0, .int 0, .int 0])), ((g6 28), .inr (1, [.ref (g6 29), .int 0, .int 0, .int 0, .int 0, .int 0, .int 0, .int 0, .int 0, .int 0])), ((g6 29), .inl (cS, 4, .inr (.inr (.inr (.inr (va_up (va_up (va_up (va_up (fun _ => none) 0 (some (g6 30))) 1 (some (g6 31))) 2 (some (g6 32))) 3 (some (g6 33)))))))), ((g6 30), .inr (7, [.int 0, .int 0, .int 0, .int 0])), ((g6 31), .inr (7, [.int 0, .int 0, .int 0, .int 0])), ((g6 32), .inr (7, [.int 0, .int 0, .int 0, .int 0])), ((g6 33), .inr (7, [.int 0, .int 0, .int 0, .int 0])), ((g6 34), .inr (1, [.ref (g6 35), .int 0, .int 0, .int 0, .int 0, .int 0, .int 0, .int 0, .int 0, .int 0])), ((g6 35), .inl (cS, 4, .inr (.inr (.inr (.inr (va_up (va_up (va_up (va_up (fun _ => none) 0 (some (g6 36))) 1 (some (g6 37))) 2 (some (g6 38))) 3 (some (g6 39)))))))), ((g6 36), .inr (7, [.int 0, .int 0, .int 0, .int 0])), ((g6 37), .inr (7, [.int 0, .int 0, .int 0, .int 0])), ((g6 38), .inr (7, [.int 0, .int 0, .int 0, .int 0])), ((g6 39), .inr (7, [.int 0, .int 0, .int 0, .int 0])), (q7, .inr (6, [.ref q5, .ref (g8 0), .ref (g8 1), .ref (g8 2), .int 0, .int (-1), .int (-1)])), ((g8 0), .inl (cI, 6, .inl (fun _ => 0))), ((g8 1), .inl (cI, 6, .inl (fun _ => 0))), ((g8 2), .inl (cC, 6, .inr (.inr (.inr (.inr (fun _ => none)))))), (q9, .inr (9, [.ref q5, .ref q7, .int 0, .long 0, .long 0, .long 0, .int 0, .int 0, .int 0]))]) rfl dX10_init_72 (fun H locs I => ?_)
  refine lv_aload_n hx hb dX10_init_75 rfl (lv_at hl 0 rfl) ?_
  refine n_new (ci := 2) (fs := [.null, .null, .null, .int 0, .int 0, .long 0, .long 0]) C hK I hA inT2 tyX2 tyX2_ok cl_X10_50 in_X2 ii_X2 rfl (fun j hj => match j, hj with | 0, _ => rfl | 1, _ => rfl | 2, _ => rfl | 3, _ => rfl | 4, _ => rfl | 5, _ => rfl | 6, _ => rfl | n + 7, h => absurd h (by omega)) (Nat.le_of_ble_eq_true rfl) (Nat.le_of_ble_eq_true rfl) dX10_init_76 (fun q11 H I => ?_)
  have I : Iw D [(h0, .inr (10, [.ref q1, .ref q3, .ref q5, .ref q7, .ref q9, .null, .null, .null])), (q1, .inr (8, [.ref (g2 0), .int 0])), ((g2 0), .inl (cI, 200, .inl (fun _ => 0))), (q3, .inr (5, [.ref q1, .ref (g4 0), .int 0, .int 0, .int 0, .int 0, .int 0])), ((g4 0), .inl (cI, 80, .inl (fun _ => 0))), (q5, .inr (4, [.ref (g6 0), .ref (g6 1), .ref (g6 2), .ref (g6 3), .int 0, .int 40, .int 999, .int 480])), ((g6 0), .inl (cI, 8, .inl wX4_init_q1_8)), ((g6 1), .inl (cI, 8, .inl (fun _ => 0))), ((g6 2), .inl (cI, 36, .inl wX4_init_q3_36)), ((g6 3), .inl (cC, 6, .inr (.inr (.inr (.inr (va_up (va_up (va_up (va_up (va_up (va_up (fun _ => none) 0 (some (g6 4))) 1 (some (g6 10))) 2 (some (g6 16))) 3 (some (g6 22))) 4 (some (g6 28))) 5 (some (g6 34)))))))), ((g6 4), .inr (1, [.ref (g6 5), .int 0, .int 0, .int 0, .int 0, .int 0, .int 0, .int 0, .int 0, .int 0])), ((g6 5), .inl (cS, 4, .inr (.inr (.inr (.inr (va_up (va_up (va_up (va_up (fun _ => none) 0 (some (g6 6))) 1 (some (g6 7))) 2 (some (g6 8))) 3 (some (g6 9)))))))), ((g6 6), .inr (7, [.int 0, .int 0, .int 0, .int 0])), ((g6 7), .inr (7, [.int 0, .int 0, .int 0, .int 0])), ((g6 8), .inr (7, [.int 0, .int 0, .int 0, .int 0])), ((g6 9), .inr (7, [.int 0, .int 0, .int 0, .int 0])), ((g6 10), .inr (1, [.ref (g6 11), .int 0, .int 0, .int 0, .int 0, .int 0, .int 0, .int 0, .int 0, .int 0])), ((g6 11), .inl (cS, 4, .inr (.inr (.inr (.inr (va_up (va_up (va_up (va_up (fun _ => none) 0 (some (g6 12))) 1 (some (g6 13))) 2 (some (g6 14))) 3 (some (g6 15)))))))), ((g6 12), .inr (7, [.int 0, .int 0, .int 0, .int 0])), ((g6 13), .inr (7, [.int 0, .int 0, .int 0, .int 0])), ((g6 14), .inr (7, [.int 0, .int 0, .int 0, .int 0])), ((g6 15), .inr (7, [.int 0, .int 0, .int 0, .int 0])), ((g6 16), .inr (1, [.ref (g6 17), .int 0, .int 0, .int 0, .int 0, .int 0, .int 0, .int 0, .int 0, .int 0])), ((g6 17), .inl (cS, 4, .inr (.inr (.inr (.inr (va_up (va_up (va_up (va_up (fun _ => none) 0 (some (g6 18))) 1 (some (g6 19))) 2 (some (g6 20))) 3 (some (g6 21)))))))), ((g6 18), .inr (7, [.int 0, .int 0, .int 0, .int 0])), ((g6 19), .inr (7, [.int 0, .int 0, .int 0, .int 0])), ((g6 20), .inr (7, [.int 0, .int 0, .int 0, .int 0])), ((g6 21), .inr (7, [.int 0, .int 0, .int 0, .int 0])), ((g6 22), .inr (1, [.ref (g6 23), .int 0, .int 0, .int 0, .int 0, .int 0, .int 0, .int 0, .int 0, .int 0])), ((g6 23), .inl (cS, 4, .inr (.inr (.inr (.inr (va_up (va_up (va_up (va_up (fun _ => none) 0 (some (g6 24))) 1 (some (g6 25))) 2 (some (g6 26))) 3 (some (g6 27)))))))), ((g6 24), .inr (7, [.int 0, .int 0, .int 0, .int 0])), ((g6 25), .inr (7, [.int 0, .int 0, .int 0, .int 0])), ((g6 26), .inr (7, [.int 0, .int 0, .int 0, .int 0])), ((g6 27), .inr (7, [.int 0, .int 0, .int 0, .int 0])), ((g6 28), .inr (1, [.ref (g6 29), .int 0, .int 0, .int 0, .int 0, .int 0, .int 0, .int 0, .int 0, .int 0])), ((g6 29), .inl (cS, 4, .inr (.inr (.inr (.inr (va_up (va_up (va_up (va_up (fun _ => none) 0 (some (g6 30))) 1 (some (g6 31))) 2 (some (g6 32))) 3 (some (g6 33)))))))), ((g6 30), .inr (7, [.int 0, .int 0, .int 0, .int 0])), ((g6 31), .inr (7, [.int 0, .int 0, .int 0, .int 0])), ((g6 32), .inr (7, [.int 0, .int 0, .int 0, .int 0])), ((g6 33), .inr (7, [.int 0, .int 0, .int 0, .int 0])), ((g6 34), .inr (1, [.ref (g6 35), .int 0, .int 0, .int 0, .int 0, .int 0, .int 0, .int 0, .int 0, .int 0])), ((g6 35), .inl (cS, 4, .inr (.inr (.inr (.inr (va_up (va_up (va_up (va_up (fun _ => none) 0 (some (g6 36))) 1 (some (g6 37))) 2 (some (g6 38))) 3 (some (g6 39)))))))), ((g6 36), .inr (7, [.int 0, .int 0, .int 0, .int 0])), ((g6 37), .inr (7, [.int 0, .int 0, .int 0, .int 0])), ((g6 38), .inr (7, [.int 0, .int 0, .int 0, .int 0])), ((g6 39), .inr (7, [.int 0, .int 0, .int 0, .int 0])), (q7, .inr (6, [.ref q5, .ref (g8 0), .ref (g8 1), .ref (g8 2), .int 0, .int (-1), .int (-1)])), ((g8 0), .inl (cI, 6, .inl (fun _ => 0))), ((g8 1), .inl (cI, 6, .inl (fun _ => 0))), ((g8 2), .inl (cC, 6, .inr (.inr (.inr (.inr (fun _ => none)))))), (q9, .inr (9, [.ref q5, .ref q7, .int 0, .long 0, .long 0, .long 0, .int 0, .int 0, .int 0])), (q11, .inr (2, [.null, .null, .null, .int 0, .int 0, .long 0, .long 0]))] A s H _ := I
  refine lv_dup hx hb dX10_init_79 rfl ?_
  refine lv_aload_n hx hb dX10_init_80 rfl (lv_at hl 0 rfl) ?_
  refine n_get C hK I inT10 0 10 2 rfl rfl (by decide) rfl fl_X10_28 rfl dX10_init_81 ?_
  refine lv_aload_n hx hb dX10_init_84 rfl (lv_at hl 0 rfl) ?_
  refine n_get C hK I inT10 0 10 3 rfl rfl (by decide) rfl fl_X10_37 rfl dX10_init_85 ?_
  refine lv_aload_n hx hb dX10_init_88 rfl (lv_at hl 0 rfl) ?_
  refine n_get C hK I inT10 0 10 4 rfl rfl (by decide) rfl fl_X10_46 rfl dX10_init_89 ?_
  refine n_I (As := [.ref q5, .ref q7, .ref q9]) (rest := [.ref q11, .ref h0]) (wc := [(q11, .inr (2, [.null, .null, .null, .int 0, .int 0, .long 0, .long 0]))]) (wr := [(h0, .inr (10, [.ref q1, .ref q3, .ref q5, .ref q7, .ref q9, .null, .null, .null])), (q1, .inr (8, [.ref (g2 0), .int 0])), ((g2 0), .inl (cI, 200, .inl (fun _ => 0))), (q3, .inr (5, [.ref q1, .ref (g4 0), .int 0, .int 0, .int 0, .int 0, .int 0])), ((g4 0), .inl (cI, 80, .inl (fun _ => 0))), (q5, .inr (4, [.ref (g6 0), .ref (g6 1), .ref (g6 2), .ref (g6 3), .int 0, .int 40, .int 999, .int 480])), ((g6 0), .inl (cI, 8, .inl wX4_init_q1_8)), ((g6 1), .inl (cI, 8, .inl (fun _ => 0))), ((g6 2), .inl (cI, 36, .inl wX4_init_q3_36)), ((g6 3), .inl (cC, 6, .inr (.inr (.inr (.inr (va_up (va_up (va_up (va_up (va_up (va_up (fun _ => none) 0 (some (g6 4))) 1 (some (g6 10))) 2 (some (g6 16))) 3 (some (g6 22))) 4 (some (g6 28))) 5 (some (g6 34)))))))), ((g6 4), .inr (1, [.ref (g6 5), .int 0, .int 0, .int 0, .int 0, .int 0, .int 0, .int 0, .int 0, .int 0])), ((g6 5), .inl (cS, 4, .inr (.inr (.inr (.inr (va_up (va_up (va_up (va_up (fun _ => none) 0 (some (g6 6))) 1 (some (g6 7))) 2 (some (g6 8))) 3 (some (g6 9)))))))), ((g6 6), .inr (7, [.int 0, .int 0, .int 0, .int 0])), ((g6 7), .inr (7, [.int 0, .int 0, .int 0, .int 0])), ((g6 8), .inr (7, [.int 0, .int 0, .int 0, .int 0])), ((g6 9), .inr (7, [.int 0, .int 0, .int 0, .int 0])), ((g6 10), .inr (1, [.ref (g6 11), .int 0, .int 0, .int 0, .int 0, .int 0, .int 0, .int 0, .int 0, .int 0])), ((g6 11), .inl (cS, 4, .inr (.inr (.inr (.inr (va_up (va_up (va_up (va_up (fun _ => none) 0 (some (g6 12))) 1 (some (g6 13))) 2 (some (g6 14))) 3 (some (g6 15)))))))), ((g6 12), .inr (7, [.int 0, .int 0, .int 0, .int 0])), ((g6 13), .inr (7, [.int 0, .int 0, .int 0, .int 0])), ((g6 14), .inr (7, [.int 0, .int 0, .int 0, .int 0])), ((g6 15), .inr (7, [.int 0, .int 0, .int 0, .int 0])), ((g6 16), .inr (1, [.ref (g6 17), .int 0, .int 0, .int 0, .int 0, .int 0, .int 0, .int 0, .int 0, .int 0])), ((g6 17), .inl (cS, 4, .inr (.inr (.inr (.inr (va_up (va_up (va_up (va_up (fun _ => none) 0 (some (g6 18))) 1 (some (g6 19))) 2 (some (g6 20))) 3 (some (g6 21)))))))), ((g6 18), .inr (7, [.int 0, .int 0, .int 0, .int 0])), ((g6 19), .inr (7, [.int 0, .int 0, .int 0, .int 0])), ((g6 20), .inr (7, [.int 0, .int 0, .int 0, .int 0])), ((g6 21), .inr (7, [.int 0, .int 0, .int 0, .int 0])), ((g6 22), .inr (1, [.ref (g6 23), .int 0, .int 0, .int 0, .int 0, .int 0, .int 0, .int 0, .int 0, .int 0])), ((g6 23), .inl (cS, 4, .inr (.inr (.inr (.inr (va_up (va_up (va_up (va_up (fun _ => none) 0 (some (g6 24))) 1 (some (g6 25))) 2 (some (g6 26))) 3 (some (g6 27)))))))), ((g6 24), .inr (7, [.int 0, .int 0, .int 0, .int 0])), ((g6 25), .inr (7, [.int 0, .int 0, .int 0, .int 0])), ((g6 26), .inr (7, [.int 0, .int 0, .int 0, .int 0])), ((g6 27), .inr (7, [.int 0, .int 0, .int 0, .int 0])), ((g6 28), .inr (1, [.ref (g6 29), .int 0, .int 0, .int 0, .int 0, .int 0, .int 0, .int 0, .int 0, .int 0])), ((g6 29), .inl (cS, 4, .inr (.inr (.inr (.inr (va_up (va_up (va_up (va_up (fun _ => none) 0 (some (g6 30))) 1 (some (g6 31))) 2 (some (g6 32))) 3 (some (g6 33)))))))), ((g6 30), .inr (7, [.int 0, .int 0, .int 0, .int 0])), ((g6 31), .inr (7, [.int 0, .int 0, .int 0, .int 0])), ((g6 32), .inr (7, [.int 0, .int 0, .int 0, .int 0])), ((g6 33), .inr (7, [.int 0, .int 0, .int 0, .int 0])), ((g6 34), .inr (1, [.ref (g6 35), .int 0, .int 0, .int 0, .int 0, .int 0, .int 0, .int 0, .int 0, .int 0])), ((g6 35), .inl (cS, 4, .inr (.inr (.inr (.inr (va_up (va_up (va_up (va_up (fun _ => none) 0 (some (g6 36))) 1 (some (g6 37))) 2 (some (g6 38))) 3 (some (g6 39)))))))), ((g6 36), .inr (7, [.int 0, .int 0, .int 0, .int 0])), ((g6 37), .inr (7, [.int 0, .int 0, .int 0, .int 0])), ((g6 38), .inr (7, [.int 0, .int 0, .int 0, .int 0])), ((g6 39), .inr (7, [.int 0, .int 0, .int 0, .int 0])), (q7, .inr (6, [.ref q5, .ref (g8 0), .ref (g8 1), .ref (g8 2), .int 0, .int (-1), .int (-1)])), ((g8 0), .inl (cI, 6, .inl (fun _ => 0))), ((g8 1), .inl (cI, 6, .inl (fun _ => 0))), ((g8 2), .inl (cC, 6, .inr (.inr (.inr (.inr (fun _ => none)))))), (q9, .inr (9, [.ref q5, .ref q7, .int 0, .long 0, .long 0, .long 0, .int 0, .int 0, .int 0]))]) C hK I hA [51] [0, 1, 2, 3, 4, 5, 6, 7, 8, 9, 10, 11, 12, 13, 14, 15, 16, 17, 18, 19, 20, 21, 22, 23, 24, 25, 26, 27, 28, 29, 30, 31, 32, 33, 34, 35, 36, 37, 38, 39, 40, 41, 42, 43, 44, 45, 46, 47, 48, 49, 50] rfl rfl rfl (by decide) (by decide) (by decide) (c_X2_init l D cI cC cS q11 q5 q7 q9) ⟨Nat.le_of_ble_eq_true rfl, Nat.le_of_ble_eq_true rfl⟩ ⟨Nat.le_of_ble_eq_true rfl, Nat.le_of_ble_eq_true rfl⟩ mi_X2_init lk_X10_52 rfl hl.1 rfl (Nat.le_of_ble_eq_true rfl) dX10_init_92 (fun ws9 hp9 H locs I => ?_)
  have hp9 : ws9 = _ := hp9
  subst hp9
  have I : Iw D [(h0, .inr (10, [.ref q1, .ref q3, .ref q5, .ref q7, .ref q9, .null, .null, .null])), (q1, .inr (8, [.ref (g2 0), .int 0])), ((g2 0), .inl (cI, 200, .inl (fun _ => 0))), (q3, .inr (5, [.ref q1, .ref (g4 0), .int 0, .int 0, .int 0, .int 0, .int 0])), ((g4 0), .inl (cI, 80, .inl (fun _ => 0))), (q5, .inr (4, [.ref (g6 0), .ref (g6 1), .ref (g6 2), .ref (g6 3), .int 0, .int 40, .int 999, .int 480])), ((g6 0), .inl (cI, 8, .inl wX4_init_q1_8)), ((g6 1), .inl (cI, 8, .inl (fun _ => 0))), ((g6 2), .inl (cI, 36, .inl wX4_init_q3_36)), ((g6 3), .inl (cC, 6, .inr (.inr (.inr (.inr (va_up (va_up (va_up (va_up (va_up (va_up (fun _ => none) 0 (some (g6 4))) 1 (some (g6 10))) 2 (some (g6 16))) 3 (some (g6 22))) 4 (some (g6 28))) 5 (some (g6 34)))))))), ((g6 4), .inr (1, [.ref (g6 5), .int 0, .int 0, .int 0, .int 0, .int 0, .int 0, .int 0, .int 0, .int 0])), ((g6 5), .inl (cS, 4, .inr (.inr (.inr (.inr (va_up (va_up (va_up (va_up (fun _ => none) 0 (some (g6 6))) 1 (some (g6 7))) 2 (some (g6 8))) 3 (some (g6 9)))))))), ((g6 6), .inr (7, [.int 0, .int 0, .int 0, .int 0])), ((g6 7), .inr (7, [.int 0, .int 0, .int 0, .int 0])), ((g6 8), .inr (7, [.int 0, .int 0, .int 0, .int 0])), ((g6 9), .inr (7, [.int 0, .int 0, .int 0, .int 0])), ((g6 10), .inr (1, [.ref (g6 11), .int 0, .int 0, .int 0, .int 0, .int 0, .int 0, .int 0, .int 0, .int 0])), ((g6 11), .inl (cS, 4, .inr (.inr (.inr (.inr (va_up (va_up (va_up (va_up (fun _ => none) 0 (some (g6 12))) 1 (some (g6 13))) 2 (some (g6 14))) 3 (some (g6 15)))))))), ((g6 12), .inr (7, [.int 0, .int 0, .int 0, .int 0])), ((g6 13), .inr (7, [.int 0, .int 0, .int 0, .int 0])), ((g6 14), .inr (7, [.int 0, .int 0, .int 0, .int 0])), ((g6 15), .inr (7, [.int 0, .int 0, .int 0, .int 0])), ((g6 16), .inr (1, [.ref (g6 17), .int 0, .int 0, .int 0, .int 0, .int 0, .int 0, .int 0, .int 0, .int 0])), ((g6 17), .inl (cS, 4, .inr (.inr (.inr (.inr (va_up (va_up (va_up (va_up (fun _ => none) 0 (some (g6 18))) 1 (some (g6 19))) 2 (some (g6 20))) 3 (some (g6 21)))))))), ((g6 18), .inr (7, [.int 0, .int 0, .int 0, .int 0])), ((g6 19), .inr (7, [.int 0, .int 0, .int 0, .int 0])), ((g6 20), .inr (7, [.int 0, .int 0, .int 0, .int 0])), ((g6 21), .inr (7, [.int 0, .int 0, .int 0, .int 0])), ((g6 22), .inr (1, [.ref (g6 23), .int 0, .int 0, .int 0, .int 0, .int 0, .int 0, .int 0, .int 0, .int 0])), ((g6 23), .inl (cS, 4, .inr (.inr (.inr (.inr (va_up (va_up (va_up (va_up (fun _ => none) 0 (some (g6 24))) 1 (some (g6 25))) 2 (some (g6 26))) 3 (some (g6 27)))))))), ((g6 24), .inr (7, [.int 0, .int 0, .int 0, .int 0])), ((g6 25), .inr (7, [.int 0, .int 0, .int 0, .int 0])), ((g6 26), .inr (7, [.int 0, .int 0, .int 0, .int 0])), ((g6 27), .inr (7, [.int 0, .int 0, .int 0, .int 0])), ((g6 28), .inr (1, [.ref (g6 29), .int 0, .int 0, .int 0, .int 0, .int 0, .int 0, .int 0, .int 0, .int 0])), ((g6 29), .inl (cS, 4, .inr (.inr (.inr (.inr (va_up (va_up (va_up (va_up (fun _ => none) 0 (some (g6 30))) 1 (some (g6 31))) 2 (some (g6 32))) 3 (some (g6 33)))))))), ((g6 30), .inr (7, [.int 0, .int 0, .int 0, .int 0])), ((g6 31), .inr (7, [.int 0, .int 0, .int 0, .int 0])), ((g6 32), .inr (7, [.int 0, .int 0, .int 0, .int 0])), ((g6 33), .inr (7, [.int 0, .int 0, .int 0, .int 0])), ((g6 34), .inr (1, [.ref (g6 35), .int 0, .int 0, .int 0, .int 0, .int 0, .int 0, .int 0, .int 0, .int 0])), ((g6 35), .inl (cS, 4, .inr (.inr (.inr (.inr (va_up (va_up (va_up (va_up (fun _ => none) 0 (some (g6 36))) 1 (some (g6 37))) 2 (some (g6 38))) 3 (some (g6 39)))))))), ((g6 36), .inr (7, [.int 0, .int 0, .int 0, .int 0])), ((g6 37), .inr (7, [.int 0, .int 0, .int 0, .int 0])), ((g6 38), .inr (7, [.int 0, .int 0, .int 0, .int 0])), ((g6 39), .inr (7, [.int 0, .int 0, .int 0, .int 0])), (q7, .inr (6, [.ref q5, .ref (g8 0), .ref (g8 1), .ref (g8 2), .int 0, .int (-1), .int (-1)])), ((g8 0), .inl (cI, 6, .inl (fun _ => 0))), ((g8 1), .inl (cI, 6, .inl (fun _ => 0))), ((g8 2), .inl (cC, 6, .inr (.inr (.inr (.inr (fun _ => none)))))), (q9, .inr (9, [.ref q5, .ref q7, .int 0, .long 0, .long 0, .long 0, .int 0, .int 0, .int 0])), (q11, .inr (2, [.ref q5, .ref q7, .ref q9, .int 0, .int 0, .long 0, .long 0]))] A s H _ := I
  refine n_putF C hK I inT10 tyX10 tyX10_ok nmX10 0 10 5 rfl rfl (by decide) rfl rfl hin fl_X10_55 rfl rfl rfl (Nat.le_of_ble_eq_true rfl) (ws1 := [(h0, .inr (10, [.ref q1, .ref q3, .ref q5, .ref q7, .ref q9, .ref q11, .null, .null])), (q1, .inr (8, [.ref (g2 0), .int 0])), ((g2 0), .inl (cI, 200, .inl (fun _ => 0))), (q3, .inr (5, [.ref q1, .ref (g4 0), .int 0, .int 0, .int 0, .int 0, .int 0])), ((g4 0), .inl (cI, 80, .inl (fun _ => 0))), (q5, .inr (4, [.ref (g6 0), .ref (g6 1), .ref (g6 2), .ref (g6 3), .int 0, .int 40, .int 999, .int 480])), ((g6 0), .inl (cI, 8, .inl wX4_init_q1_8)), ((g6 1), .inl (cI, 8, .inl (fun _ => 0))), ((g6 2), .inl (cI, 36, .inl wX4_init_q3_36)), ((g6 3), .inl (cC, 6, .inr (.inr (.inr (.inr (va_up (va_up (va_up (va_up (va_up (va_up (fun _ => none) 0 (some (g6 4))) 1 (some (g6 10))) 2 (some (g6 16))) 3 (some (g6 22))) 4 (some (g6 28))) 5 (some (g6 34)))))))), ((g6 4), .inr (1, [.ref (g6 5), .int 0, .int 0, .int 0, .int 0, .int 0, .int 0, .int 0, .int 0, .int 0])), ((g6 5), .inl (cS, 4, .inr (.inr (.inr (.inr (va_up (va_up (va_up (va_up (fun _ => none) 0 (some (g6 6))) 1 (some (g6 7))) 2 (some (g6 8))) 3 (some (g6 9)))))))), ((g6 6), .inr (7, [.int 0, .int 0, .int 0, .int 0])), ((g6 7), .inr (7, [.int 0, .int 0, .int 0, .int 0])), ((g6 8), .inr (7, [.int 0, .int 0, .int 0, .int 0])), ((g6 9), .inr (7, [.int 0, .int 0, .int 0, .int 0])), ((g6 10), .inr (1, [.ref (g6 11), .int 0, .int 0, .int 0, .int 0, .int 0, .int 0, .int 0, .int 0, .int 0])), ((g6 11), .inl (cS, 4, .inr (.inr (.inr (.inr (va_up (va_up (va_up (va_up (fun _ => none) 0 (some (g6 12))) 1 (some (g6 13))) 2 (some (g6 14))) 3 (some (g6 15)))))))), ((g6 12), .inr (7, [.int 0, .int 0, .int 0, .int 0])), ((g6 13), .inr (7, [.int 0, .int 0, .int 0, .int 0])), ((g6 14), .inr (7, [.int 0, .int 0, .int 0, .int 0])), ((g6 15), .inr (7, [.int 0, .int 0, .int 0, .int 0])), ((g6 16), .inr (1, [.ref (g6 17), .int 0, .int 0, .int 0, .int 0, .int 0, .int 0, .int 0, .int 0, .int 0])), ((g6 17), .inl (cS, 4, .inr (.inr (.inr (.inr (va_up (va_up (va_up (va_up (fun _ => none) 0 (some (g6 18))) 1 (some (g6 19))) 2 (some (g6 20))) 3 (some (g6 21)))))))), ((g6 18), .inr (7, [.int 0, .int 0, .int 0, .int 0])), ((g6 19), .inr (7, [.int 0, .int 0, .int 0, .int 0])), ((g6 20), .inr (7, [.int 0, .int 0, .int 0, .int 0])), ((g6 21), .inr (7, [.int 0, .int 0, .int 0, .int 0])), ((g6 22), .inr (1, [.ref (g6 23), .int 0, .int 0, .int 0, .int 0, .int 0, .int 0, .int 0, .int 0, .int 0])), ((g6 23), .inl (cS, 4, .inr (.inr (.inr (.inr (va_up (va_up (va_up (va_up (fun _ => none) 0 (some (g6 24))) 1 (some (g6 25))) 2 (some (g6 26))) 3 (some (g6 27)))))))), ((g6 24), .inr (7, [.int 0, .int 0, .int 0, .int 0])), ((g6 25), .inr (7, [.int 0, .int 0, .int 0, .int 0])), ((g6 26), .inr (7, [.int 0, .int 0, .int 0, .int 0])), ((g6 27), .inr (7, [.int 0, .int 0, .int 0, .int 0])), ((g6 28), .inr (1, [.ref (g6 29), .int 0, .int 0, .int 0, .int 0, .int 0, .int 0, .int 0, .int 0, .int 0])), ((g6 29), .inl (cS, 4, .inr (.inr (.inr (.inr (va_up (va_up (va_up (va_up (fun _ => none) 0 (some (g6 30))) 1 (some (g6 31))) 2 (some (g6 32))) 3 (some (g6 33)))))))), ((g6 30), .inr (7, [.int 0, .int 0, .int 0, .int 0])), ((g6 31), .inr (7, [.int 0, .int 0, .int 0, .int 0])), ((g6 32), .inr (7, [.int 0, .int 0, .int 0, .int 0])), ((g6 33), .inr (7, [.int 0, .int 0, .int 0, .int 0])), ((g6 34), .inr (1, [.ref (g6 35), .int 0, .int 0, .int 0, .int 0, .int 0, .int 0, .int 0, .int 0, .int 0])), ((g6 35), .inl (cS, 4, .inr (.inr (.inr (.inr (va_up (va_up (va_up (va_up (fun _ => none) 0 (some (g6 36))) 1 (some (g6 37))) 2 (some (g6 38))) 3 (some (g6 39)))))))), ((g6 36), .inr (7, [.int 0, .int 0, .int 0, .int 0])), ((g6 37), .inr (7, [.int 0, .int 0, .int 0, .int 0])), ((g6 38), .inr (7, [.int 0, .int 0, .int 0, .int 0])), ((g6 39), .inr (7, [.int 0, .int 0, .int 0, .int 0])), (q7, .inr (6, [.ref q5, .ref (g8 0), .ref (g8 1), .ref (g8 2), .int 0, .int (-1), .int (-1)])), ((g8 0), .inl (cI, 6, .inl (fun _ => 0))), ((g8 1), .inl (cI, 6, .inl (fun _ => 0))), ((g8 2), .inl (cC, 6, .inr (.inr (.inr (.inr (fun _ => none)))))), (q9, .inr (9, [.ref q5, .ref q7, .int 0, .long 0, .long 0, .long 0, .int 0, .int 0, .int 0])), (q11, .inr (2, [.ref q5, .ref q7, .ref q9, .int 0, .int 0, .long 0, .long 0]))]) rfl dX10_init_95 (fun H locs I => ?_)
  refine lv_aload_n hx hb dX10_init_98 rfl (lv_at hl 0 rfl) ?_
  refine n_new (ci := 3) (fs := [.null, .int 0, .long 0, .long 0]) C hK I hA inT3 tyX3 tyX3_ok cl_X10_59 in_X3 ii_X3 rfl (fun j hj => match j, hj with | 0, _ => rfl | 1, _ => rfl | 2, _ => rfl | 3, _ => rfl | n + 4, h => absurd h (by omega)) (Nat.le_of_ble_eq_true rfl) (Nat.le_of_ble_eq_true rfl) dX10_init_99 (fun q13 H I => ?_)
  have I : Iw D [(h0, .inr (10, [.ref q1, .ref q3, .ref q5, .ref q7, .ref q9, .ref q11, .null, .null])), (q1, .inr (8, [.ref (g2 0), .int 0])), ((g2 0), .inl (cI, 200, .inl (fun _ => 0))), (q3, .inr (5, [.ref q1, .ref (g4 0), .int 0, .int 0, .int 0, .int 0, .int 0])), ((g4 0), .inl (cI, 80, .inl (fun _ => 0))), (q5, .inr (4, [.ref (g6 0), .ref (g6 1), .ref (g6 2), .ref (g6 3), .int 0, .int 40, .int 999, .int 480])), ((g6 0), .inl (cI, 8, .inl wX4_init_q1_8)), ((g6 1), .inl (cI, 8, .inl (fun _ => 0))), ((g6 2), .inl (cI, 36, .inl wX4_init_q3_36)), ((g6 3), .inl (cC, 6, .inr (.inr (.inr (.inr (va_up (va_up (va_up (va_up (va_up (va_up (fun _ => none) 0 (some (g6 4))) 1 (some (g6 10))) 2 (some (g6 16))) 3 (some (g6 22))) 4 (some (g6 28))) 5 (some (g6 34)))))))), ((g6 4), .inr (1, [.ref (g6 5), .int 0, .int 0, .int 0, .int 0, .int 0, .int 0, .int 0, .int 0, .int 0])), ((g6 5), .inl (cS, 4, .inr (.inr (.inr (.inr (va_up (va_up (va_up (va_up (fun _ => none) 0 (some (g6 6))) 1 (some (g6 7))) 2 (some (g6 8))) 3 (some (g6 9)))))))), ((g6 6), .inr (7, [.int 0, .int 0, .int 0, .int 0])), ((g6 7), .inr (7, [.int 0, .int 0, .int 0, .int 0])), ((g6 8), .inr (7, [.int 0, .int 0, .int 0, .int 0])), ((g6 9), .inr (7, [.int 0, .int 0, .int 0, .int 0])), ((g6 10), .inr (1, [.ref (g6 11), .int 0, .int 0, .int 0, .int 0, .int 0, .int 0, .int 0, .int 0, .int 0])), ((g6 11), .inl (cS, 4, .inr (.inr (.inr (.inr (va_up (va_up (va_up (va_up (fun _ => none) 0 (some (g6 12))) 1 (some (g6 13))) 2 (some (g6 14))) 3 (some (g6 15)))))))), ((g6 12), .inr (7, [.int 0, .int 0, .int 0, .int 0])), ((g6 13), .inr (7, [.int 0, .int 0, .int 0, .int 0])), ((g6 14), .inr (7, [.int 0, .int 0, .int 0, .int 0])), ((g6 15), .inr (7, [.int 0, .int 0, .int 0, .int 0])), ((g6 16), .inr (1, [.ref (g6 17), .int 0, .int 0, .int 0, .int 0, .int 0, .int 0, .int 0, .int 0, .int 0])), ((g6 17), .inl (cS, 4, .inr (.inr (.inr (.inr (va_up (va_up (va_up (va_up (fun _ => none) 0 (some (g6 18))) 1 (some (g6 19))) 2 (some (g6 20))) 3 (some (g6 21)))))))), ((g6 18), .inr (7, [.int 0, .int 0, .int 0, .int 0])), ((g6 19), .inr (7, [.int 0, .int 0, .int 0, .int 0])), ((g6 20), .inr (7, [.int 0, .int 0, .int 0, .int 0])), ((g6 21), .inr (7, [.int 0, .int 0, .int 0, .int 0])), ((g6 22), .inr (1, [.ref (g6 23), .int 0, .int 0, .int 0, .int 0, .int 0, .int 0, .int 0, .int 0, .int 0])), ((g6 23), .inl (cS, 4, .inr (.inr (.inr (.inr (va_up (va_up (va_up (va_up (fun _ => none) 0 (some (g6 24))) 1 (some (g6 25))) 2 (some (g6 26))) 3 (some (g6 27)))))))), ((g6 24), .inr (7, [.int 0, .int 0, .int 0, .int 0])), ((g6 25), .inr (7, [.int 0, .int 0, .int 0, .int 0])), ((g6 26), .inr (7, [.int 0, .int 0, .int 0, .int 0])), ((g6 27), .inr (7, [.int 0, .int 0, .int 0, .int 0])), ((g6 28), .inr (1, [.ref (g6 29), .int 0, .int 0, .int 0, .int 0, .int 0, .int 0, .int 0, .int 0, .int 0])), ((g6 29), .inl (cS, 4, .inr (.inr (.inr (.inr (va_up (va_up (va_up (va_up (fun _ => none) 0 (some (g6 30))) 1 (some (g6 31))) 2 (some (g6 32))) 3 (some (g6 33)))))))), ((g6 30), .inr (7, [.int 0, .int 0, .int 0, .int 0])), ((g6 31), .inr (7, [.int 0, .int 0, .int 0, .int 0])), ((g6 32), .inr (7, [.int 0, .int 0, .int 0, .int 0])), ((g6 33), .inr (7, [.int 0, .int 0, .int 0, .int 0])), ((g6 34), .inr (1, [.ref (g6 35), .int 0, .int 0, .int 0, .int 0, .int 0, .int 0, .int 0, .int 0, .int 0])), ((g6 35), .inl (cS, 4, .inr (.inr (.inr (.inr (va_up (va_up (va_up (va_up (fun _ => none) 0 (some (g6 36))) 1 (some (g6 37))) 2 (some (g6 38))) 3 (some (g6 39)))))))), ((g6 36), .inr (7, [.int 0, .int 0, .int 0, .int 0])), ((g6 37), .inr (7, [.int 0, .int 0, .int 0, .int 0])), ((g6 38), .inr (7, [.int 0, .int 0, .int 0, .int 0])), ((g6 39), .inr (7, [.int 0, .int 0, .int 0, .int 0])), (q7, .inr (6, [.ref q5, .ref (g8 0), .ref (g8 1), .ref (g8 2), .int 0, .int (-1), .int (-1)])), ((g8 0), .inl (cI, 6, .inl (fun _ => 0))), ((g8 1), .inl (cI, 6, .inl (fun _ => 0))), ((g8 2), .inl (cC, 6, .inr (.inr (.inr (.inr (fun _ => none)))))), (q9, .inr (9, [.ref q5, .ref q7, .int 0, .long 0, .long 0, .long 0, .int 0, .int 0, .int 0])), (q11, .inr (2, [.ref q5, .ref q7, .ref q9, .int 0, .int 0, .long 0, .long 0])), (q13, .inr (3, [.null, .int 0, .long 0, .long 0]))] A s H _ := I
  refine lv_dup hx hb dX10_init_102 rfl ?_
  refine lv_aload_n hx hb dX10_init_103 rfl (lv_at hl 0 rfl) ?_
  refine n_get C hK I inT10 0 10 2 rfl rfl (by decide) rfl fl_X10_28 rfl dX10_init_104 ?_
  refine n_I (As := [.ref q5]) (rest := [.ref q13, .ref h0]) (wc := [(q13, .inr (3, [.null, .int 0, .long 0, .long 0]))]) (wr := [(h0, .inr (10, [.ref q1, .ref q3, .ref q5, .ref q7, .ref q9, .ref q11, .null, .null])), (q1, .inr (8, [.ref (g2 0), .int 0])), ((g2 0), .inl (cI, 200, .inl (fun _ => 0))), (q3, .inr (5, [.ref q1, .ref (g4 0), .int 0, .int 0, .int 0, .int 0, .int 0])), ((g4 0), .inl (cI, 80, .inl (fun _ => 0))), (q5, .inr (4, [.ref (g6 0), .ref (g6 1), .ref (g6 2), .ref (g6 3), .int 0, .int 40, .int 999, .int 480])), ((g6 0), .inl (cI, 8, .inl wX4_init_q1_8)), ((g6 1), .inl (cI, 8, .inl (fun _ => 0))), ((g6 2), .inl (cI, 36, .inl wX4_init_q3_36)), ((g6 3), .inl (cC, 6, .inr (.inr (.inr (.inr (va_up (va_up (va_up (va_up (va_up (va_up (fun _ => none) 0 (some (g6 4))) 1 (some (g6 10))) 2 (some (g6 16))) 3 (some (g6 22))) 4 (some (g6 28))) 5 (some (g6 34)))))))), ((g6 4), .inr (1, [.ref (g6 5), .int 0, .int 0, .int 0, .int 0, .int 0, .int 0, .int 0, .int 0, .int 0])), ((g6 5), .inl (cS, 4, .inr (.inr (.inr (.inr (va_up (va_up (va_up (va_up (fun _ => none) 0 (some (g6 6))) 1 (some (g6 7))) 2 (some (g6 8))) 3 (some (g6 9)))))))), ((g6 6), .inr (7, [.int 0, .int 0, .int 0, .int 0])), ((g6 7), .inr (7, [.int 0, .int 0, .int 0, .int 0])), ((g6 8), .inr (7, [.int 0, .int 0, .int 0, .int 0])), ((g6 9), .inr (7, [.int 0, .int 0, .int 0, .int 0])), ((g6 10), .inr (1, [.ref (g6 11), .int 0, .int 0, .int 0, .int 0, .int 0, .int 0, .int 0, .int 0, .int 0])), ((g6 11), .inl (cS, 4, .inr (.inr (.inr (.inr (va_up (va_up (va_up (va_up (fun _ => none) 0 (some (g6 12))) 1 (some (g6 13))) 2 (some (g6 14))) 3 (some (g6 15)))))))), ((g6 12), .inr (7, [.int 0, .int 0, .int 0, .int 0])), ((g6 13), .inr (7, [.int 0, .int 0, .int 0, .int 0])), ((g6 14), .inr (7, [.int 0, .int 0, .int 0, .int 0])), ((g6 15), .inr (7, [.int 0, .int 0, .int 0, .int 0])), ((g6 16), .inr (1, [.ref (g6 17), .int 0, .int 0, .int 0, .int 0, .int 0, .int 0, .int 0, .int 0, .int 0])), ((g6 17), .inl (cS, 4, .inr (.inr (.inr (.inr (va_up (va_up (va_up (va_up (fun _ => none) 0 (some (g6 18))) 1 (some (g6 19))) 2 (some (g6 20))) 3 (some (g6 21)))))))), ((g6 18), .inr (7, [.int 0, .int 0, .int 0, .int 0])), ((g6 19), .inr (7, [.int 0, .int 0, .int 0, .int 0])), ((g6 20), .inr (7, [.int 0, .int 0, .int 0, .int 0])), ((g6 21), .inr (7, [.int 0, .int 0, .int 0, .int 0])), ((g6 22), .inr (1, [.ref (g6 23), .int 0, .int 0, .int 0, .int 0, .int 0, .int 0, .int 0, .int 0, .int 0])), ((g6 23), .inl (cS, 4, .inr (.inr (.inr (.inr (va_up (va_up (va_up (va_up (fun _ => none) 0 (some (g6 24))) 1 (some (g6 25))) 2 (some (g6 26))) 3 (some (g6 27)))))))), ((g6 24), .inr (7, [.int 0, .int 0, .int 0, .int 0])), ((g6 25), .inr (7, [.int 0, .int 0, .int 0, .int 0])), ((g6 26), .inr (7, [.int 0, .int 0, .int 0, .int 0])), ((g6 27), .inr (7, [.int 0, .int 0, .int 0, .int 0])), ((g6 28), .inr (1, [.ref (g6 29), .int 0, .int 0, .int 0, .int 0, .int 0, .int 0, .int 0, .int 0, .int 0])), ((g6 29), .inl (cS, 4, .inr (.inr (.inr (.inr (va_up (va_up (va_up (va_up (fun _ => none) 0 (some (g6 30))) 1 (some (g6 31))) 2 (some (g6 32))) 3 (some (g6 33)))))))), ((g6 30), .inr (7, [.int 0, .int 0, .int 0, .int 0])), ((g6 31), .inr (7, [.int 0, .int 0, .int 0, .int 0])), ((g6 32), .inr (7, [.int 0, .int 0, .int 0, .int 0])), ((g6 33), .inr (7, [.int 0, .int 0, .int 0, .int 0])), ((g6 34), .inr (1, [.ref (g6 35), .int 0, .int 0, .int 0, .int 0, .int 0, .int 0, .int 0, .int 0, .int 0])), ((g6 35), .inl (cS, 4, .inr (.inr (.inr (.inr (va_up (va_up (va_up (va_up (fun _ => none) 0 (some (g6 36))) 1 (some (g6 37))) 2 (some (g6 38))) 3 (some (g6 39)))))))), ((g6 36), .inr (7, [.int 0, .int 0, .int 0, .int 0])), ((g6 37), .inr (7, [.int 0, .int 0, .int 0, .int 0])), ((g6 38), .inr (7, [.int 0, .int 0, .int 0, .int 0])), ((g6 39), .inr (7, [.int 0, .int 0, .int 0, .int 0])), (q7, .inr (6, [.ref q5, .ref (g8 0), .ref (g8 1), .ref (g8 2), .int 0, .int (-1), .int (-1)])), ((g8 0), .inl (cI, 6, .inl (fun _ => 0))), ((g8 1), .inl (cI, 6, .inl (fun _ => 0))), ((g8 2), .inl (cC, 6, .inr (.inr (.inr (.inr (fun _ => none)))))), (q9, .inr (9, [.ref q5, .ref q7, .int 0, .long 0, .long 0, .long 0, .int 0, .int 0, .int 0])), (q11, .inr (2, [.ref q5, .ref q7, .ref q9, .int 0, .int 0, .long 0, .long 0]))]) C hK I hA [52] [0, 1, 2, 3, 4, 5, 6, 7, 8, 9, 10, 11, 12, 13, 14, 15, 16, 17, 18, 19, 20, 21, 22, 23, 24, 25, 26, 27, 28, 29, 30, 31, 32, 33, 34, 35, 36, 37, 38, 39, 40, 41, 42, 43, 44, 45, 46, 47, 48, 49, 50, 51] rfl rfl rfl (by decide) (by decide) (by decide) (c_X3_init l D cI cC cS q13 q5) ⟨Nat.le_of_ble_eq_true rfl, Nat.le_of_ble_eq_true rfl⟩ ⟨Nat.le_of_ble_eq_true rfl, Nat.le_of_ble_eq_true rfl⟩ mi_X3_init lk_X10_61 rfl hl.1 rfl (Nat.le_of_ble_eq_true rfl) dX10_init_107 (fun ws9 hp9 H locs I => ?_)
  have hp9 : ws9 = _ := hp9
  subst hp9
  have I : Iw D [(h0, .inr (10, [.ref q1, .ref q3, .ref q5, .ref q7, .ref q9, .ref q11, .null, .null])), (q1, .inr (8, [.ref (g2 0), .int 0])), ((g2 0), .inl (cI, 200, .inl (fun _ => 0))), (q3, .inr (5, [.ref q1, .ref (g4 0), .int 0, .int 0, .int 0, .int 0, .int 0])), ((g4 0), .inl (cI, 80, .inl (fun _ => 0))), (q5, .inr (4, [.ref (g6 0), .ref (g6 1), .ref (g6 2), .ref (g6 3), .int 0, .int 40, .int 999, .int 480])), ((g6 0), .inl (cI, 8, .inl wX4_init_q1_8)), ((g6 1), .inl (cI, 8, .inl (fun _ => 0))), ((g6 2), .inl (cI, 36, .inl wX4_init_q3_36)), ((g6 3), .inl (cC, 6, .inr (.inr (.inr (.inr (va_up (va_up (va_up (va_up (va_up (va_up (fun _ => none) 0 (some (g6 4))) 1 (some (g6 10))) 2 (some (g6 16))) 3 (some (g6 22))) 4 (some (g6 28))) 5 (some (g6 34)))))))), ((g6 4), .inr (1, [.ref (g6 5), .int 0, .int 0, .int 0, .int 0, .int 0, .int 0, .int 0, .int 0, .int 0])), ((g6 5), .inl (cS, 4, .inr (.inr (.inr (.inr (va_up (va_up (va_up (va_up (fun _ => none) 0 (some (g6 6))) 1 (some (g6 7))) 2 (some (g6 8))) 3 (some (g6 9)))))))), ((g6 6), .inr (7, [.int 0, .int 0, .int 0, .int 0])), ((g6 7), .inr (7, [.int 0, .int 0, .int 0, .int 0])), ((g6 8), .inr (7, [.int 0, .int 0, .int 0, .int 0])), ((g6 9), .inr (7, [.int 0, .int 0, .int 0, .int 0])), ((g6 10), .inr (1, [.ref (g6 11), .int 0, .int 0, .int 0, .int 0, .int 0, .int 0, .int 0, .int 0, .int 0])), ((g6 11), .inl (cS, 4, .inr (.inr (.inr (.inr (va_up (va_up (va_up (va_up (fun _ => none) 0 (some (g6 12))) 1 (some (g6 13))) 2 (some (g6 14))) 3 (some (g6 15)))))))), ((g6 12), .inr (7, [.int 0, .int 0, .int 0, .int 0])), ((g6 13), .inr (7, [.int 0, .int 0, .int 0, .int 0])), ((g6 14), .inr (7, [.int 0, .int 0, .int 0, .int 0])), ((g6 15), .inr (7, [.int 0, .int 0, .int 0, .int 0])), ((g6 16), .inr (1, [.ref (g6 17), .int 0, .int 0, .int 0, .int 0, .int 0, .int 0, .int 0, .int 0, .int 0])), ((g6 17), .inl (cS, 4, .inr (.inr (.inr (.inr (va_up (va_up (va_up (va_up (fun _ => none) 0 (some (g6 18))) 1 (some (g6 19))) 2 (some (g6 20))) 3 (some (g6 21)))))))), ((g6 18), .inr (7, [.int 0, .int 0, .int 0, .int 0])), ((g6 19), .inr (7, [.int 0, .int 0, .int 0, .int 0])), ((g6 20), .inr (7, [.int 0, .int 0, .int 0, .int 0])), ((g6 21), .inr (7, [.int 0, .int 0, .int 0, .int 0])), ((g6 22), .inr (1, [.ref (g6 23), .int 0, .int 0, .int 0, .int 0, .int 0, .int 0, .int 0, .int 0, .int 0])), ((g6 23), .inl (cS, 4, .inr (.inr (.inr (.inr (va_up (va_up (va_up (va_up (fun _ => none) 0 (some (g6 24))) 1 (some (g6 25))) 2 (some (g6 26))) 3 (some (g6 27)))))))), ((g6 24), .inr (7, [.int 0, .int 0, .int 0, .int 0])), ((g6 25), .inr (7, [.int 0, .int 0, .int 0, .int 0])), ((g6 26), .inr (7, [.int 0, .int 0, .int 0, .int 0])), ((g6 27), .inr (7, [.int 0, .int 0, .int 0, .int 0])), ((g6 28), .inr (1, [.ref (g6 29), .int 0, .int 0, .int 0, .int 0, .int 0, .int 0, .int 0, .int 0, .int 0])), ((g6 29), .inl (cS, 4, .inr (.inr (.inr (.inr (va_up (va_up (va_up (va_up (fun _ => none) 0 (some (g6 30))) 1 (some (g6 31))) 2 (some (g6 32))) 3 (some (g6 33)))))))), ((g6 30), .inr (7, [.int 0, .int 0, .int 0, .int 0])), ((g6 31), .inr (7, [.int 0, .int 0, .int 0, .int 0])), ((g6 32), .inr (7, [.int 0, .int 0, .int 0, .int 0])), ((g6 33), .inr (7, [.int 0, .int 0, .int 0, .int 0])), ((g6 34), .inr (1, [.ref (g6 35), .int 0, .int 0, .int 0, .int 0, .int 0, .int 0, .int 0, .int 0, .int 0])), ((g6 35), .inl (cS, 4, .inr (.inr (.inr (.inr (va_up (va_up (va_up (va_up (fun _ => none) 0 (some (g6 36))) 1 (some (g6 37))) 2 (some (g6 38))) 3 (some (g6 39)))))))), ((g6 36), .inr (7, [.int 0, .int 0, .int 0, .int 0])), ((g6 37), .inr (7, [.int 0, .int 0, .int 0, .int 0])), ((g6 38), .inr (7, [.int 0, .int 0, .int 0, .int 0])), ((g6 39), .inr (7, [.int 0, .int 0, .int 0, .int 0])), (q7, .inr (6, [.ref q5, .ref (g8 0), .ref (g8 1), .ref (g8 2), .int 0, .int (-1), .int (-1)])), ((g8 0), .inl (cI, 6, .inl (fun _ => 0))), ((g8 1), .inl (cI, 6, .inl (fun _ => 0))), ((g8 2), .inl (cC, 6, .inr (.inr (.inr (.inr (fun _ => none)))))), (q9, .inr (9, [.ref q5, .ref q7, .int 0, .long 0, .long 0, .long 0, .int 0, .int 0, .int 0])), (q11, .inr (2, [.ref q5, .ref q7, .ref q9, .int 0, .int 0, .long 0, .long 0])), (q13, .inr (3, [.ref q5, .int 0, .long 0, .long 0]))] A s H _ := I
  refine n_putF C hK I inT10 tyX10 tyX10_ok nmX10 0 10 6 rfl rfl (by decide) rfl rfl hin fl_X10_62 rfl rfl rfl (Nat.le_of_ble_eq_true rfl) (ws1 := [(h0, .inr (10, [.ref q1, .ref q3, .ref q5, .ref q7, .ref q9, .ref q11, .ref q13, .null])), (q1, .inr (8, [.ref (g2 0), .int 0])), ((g2 0), .inl (cI, 200, .inl (fun _ => 0))), (q3, .inr (5, [.ref q1, .ref (g4 0), .int 0, .int 0, .int 0, .int 0, .int 0])), ((g4 0), .inl (cI, 80, .inl (fun _ => 0))), (q5, .inr (4, [.ref (g6 0), .ref (g6 1), .ref (g6 2), .ref (g6 3), .int 0, .int 40, .int 999, .int 480])), ((g6 0), .inl (cI, 8, .inl wX4_init_q1_8)), ((g6 1), .inl (cI, 8, .inl (fun _ => 0))), ((g6 2), .inl (cI, 36, .inl wX4_init_q3_36)), ((g6 3), .inl (cC, 6, .inr (.inr (.inr (.inr (va_up (va_up (va_up (va_up (va_up (va_up (fun _ => none) 0 (some (g6 4))) 1 (some (g6 10))) 2 (some (g6 16))) 3 (some (g6 22))) 4 (some (g6 28))) 5 (some (g6 34)))))))), ((g6 4), .inr (1, [.ref (g6 5), .int 0, .int 0, .int 0, .int 0, .int 0, .int 0, .int 0, .int 0, .int 0])), ((g6 5), .inl (cS, 4, .inr (.inr (.inr (.inr (va_up (va_up (va_up (va_up (fun _ => none) 0 (some (g6 6))) 1 (some (g6 7))) 2 (some (g6 8))) 3 (some (g6 9)))))))), ((g6 6), .inr (7, [.int 0, .int 0, .int 0, .int 0])), ((g6 7), .inr (7, [.int 0, .int 0, .int 0, .int 0])), ((g6 8), .inr (7, [.int 0, .int 0, .int 0, .int 0])), ((g6 9), .inr (7, [.int 0, .int 0, .int 0, .int 0])), ((g6 10), .inr (1, [.ref (g6 11), .int 0, .int 0, .int 0, .int 0, .int 0, .int 0, .int 0, .int 0, .int 0])), ((g6 11), .inl (cS, 4, .inr (.inr (.inr (.inr (va_up (va_up (va_up (va_up (fun _ => none) 0 (some (g6 12))) 1 (some (g6 13))) 2 (some (g6 14))) 3 (some (g6 15)))))))), ((g6 12), .inr (7, [.int 0, .int 0, .int 0, .int 0])), ((g6 13), .inr (7, [.int 0, .int 0, .int 0, .int 0])), ((g6 14), .inr (7, [.int 0, .int 0, .int 0, .int 0])), ((g6 15), .inr (7, [.int 0, .int 0, .int 0, .int 0])), ((g6 16), .inr (1, [.ref (g6 17), .int 0, .int 0, .int 0, .int 0, .int 0, .int 0, .int 0, .int 0, .int 0])), ((g6 17), .inl (cS, 4, .inr (.inr (.inr (.inr (va_up (va_up (va_up (va_up (fun _ => none) 0 (some (g6 18))) 1 (some (g6 19))) 2 (some (g6 20))) 3 (some (g6 21)))))))), ((g6 18), .inr (7, [.int 0, .int 0, .int 0, .int 0])), ((g6 19), .inr (7, [.int 0, .int 0, .int 0, .int 0])), ((g6 20), .inr (7, [.int 0, .int 0, .int 0, .int 0])), ((g6 21), .inr (7, [.int 0, .int 0, .int 0, .int 0])), ((g6 22), .inr (1, [.ref (g6 23), .int 0, .int 0, .int 0, .int 0, .int 0, .int 0, .int 0, .int 0, .int 0])), ((g6 23), .inl (cS, 4, .inr (.inr (.inr (.inr (va_up (va_up (va_up (va_up (fun _ => none) 0 (some (g6 24))) 1 (some (g6 25))) 2 (some (g6 26))) 3 (some (g6 27)))))))), ((g6 24), .inr (7, [.int 0, .int 0, .int 0, .int 0])), ((g6 25), .inr (7, [.int 0, .int 0, .int 0, .int 0])), ((g6 26), .inr (7, [.int 0, .int 0, .int 0, .int 0])), ((g6 27), .inr (7, [.int 0, .int 0, .int 0, .int 0])), ((g6 28), .inr (1, [.ref (g6 29), .int 0, .int 0, .int 0, .int 0, .int 0, .int 0, .int 0, .int 0, .int 0])), ((g6 29), .inl (cS, 4, .inr (.inr (.inr (.inr (va_up (va_up (va_up (va_up (fun _ => none) 0 (some (g6 30))) 1 (some (g6 31))) 2 (some (g6 32))) 3 (some (g6 33)))))))), ((g6 30), .inr (7, [.int 0, .int 0, .int 0, .int 0])), ((g6 31), .inr (7, [.int 0, .int 0, .int 0, .int 0])), ((g6 32), .inr (7, [.int 0, .int 0, .int 0, .int 0])), ((g6 33), .inr (7, [.int 0, .int 0, .int 0, .int 0])), ((g6 34), .inr (1, [.ref (g6 35), .int 0, .int 0, .int 0, .int 0, .int 0, .int 0, .int 0, .int 0, .int 0])), ((g6 35), .inl (cS, 4, .inr (.inr (.inr (.inr (va_up (va_up (va_up (va_up (fun _ => none) 0 (some (g6 36))) 1 (some (g6 37))) 2 (some (g6 38))) 3 (some (g6 39)))))))), ((g6 36), .inr (7, [.int 0, .int 0, .int 0, .int 0])), ((g6 37), .inr (7, [.int 0, .int 0, .int 0, .int 0])), ((g6 38), .inr (7, [.int 0, .int 0, .int 0, .int 0])), ((g6 39), .inr (7, [.int 0, .int 0, .int 0, .int 0])), (q7, .inr (6, [.ref q5, .ref (g8 0), .ref (g8 1), .ref (g8 2), .int 0, .int (-1), .int (-1)])), ((g8 0), .inl (cI, 6, .inl (fun _ => 0))), ((g8 1), .inl (cI, 6, .inl (fun _ => 0))), ((g8 2), .inl (cC, 6, .inr (.inr (.inr (.inr (fun _ => none)))))), (q9, .inr (9, [.ref q5, .ref q7, .int 0, .long 0, .long 0, .long 0, .int 0, .int 0, .int 0])), (q11, .inr (2, [.ref q5, .ref q7, .ref q9, .int 0, .int 0, .long 0, .long 0])), (q13, .inr (3, [.ref q5, .int 0, .long 0, .long 0]))]) rfl dX10_init_110 (fun H locs I => ?_)
  refine lv_aload_n hx hb dX10_init_113 rfl (lv_at hl 0 rfl) ?_
  refine n_new (ci := 0) (fs := [.null, .null, .null, .null, .int 0]) C hK I hA inT0 tyX0 tyX0_ok cl_X10_66 in_X0 ii_X0 rfl (fun j hj => match j, hj with | 0, _ => rfl | 1, _ => rfl | 2, _ => rfl | 3, _ => rfl | 4, _ => rfl | n + 5, h => absurd h (by omega)) (Nat.le_of_ble_eq_true rfl) (Nat.le_of_ble_eq_true rfl) dX10_init_114 (fun q15 H I => ?_)
  have I : Iw D [(h0, .inr (10, [.ref q1, .ref q3, .ref q5, .ref q7, .ref q9, .ref q11, .ref q13, .null])), (q1, .inr (8, [.ref (g2 0), .int 0])), ((g2 0), .inl (cI, 200, .inl (fun _ => 0))), (q3, .inr (5, [.ref q1, .ref (g4 0), .int 0, .int 0, .int 0, .int 0, .int 0])), ((g4 0), .inl (cI, 80, .inl (fun _ => 0))), (q5, .inr (4, [.ref (g6 0), .ref (g6 1), .ref (g6 2), .ref (g6 3), .int 0, .int 40, .int 999, .int 480])), ((g6 0), .inl (cI, 8, .inl wX4_init_q1_8)), ((g6 1), .inl (cI, 8, .inl (fun _ => 0))), ((g6 2), .inl (cI, 36, .inl wX4_init_q3_36)), ((g6 3), .inl (cC, 6, .inr (.inr (.inr (.inr (va_up (va_up (va_up (va_up (va_up (va_up (fun _ => none) 0 (some (g6 4))) 1 (some (g6 10))) 2 (some (g6 16))) 3 (some (g6 22))) 4 (some (g6 28))) 5 (some (g6 34)))))))), ((g6 4), .inr (1, [.ref (g6 5), .int 0, .int 0, .int 0, .int 0, .int 0, .int 0, .int 0, .int 0, .int 0])), ((g6 5), .inl (cS, 4, .inr (.inr (.inr (.inr (va_up (va_up (va_up (va_up (fun _ => none) 0 (some (g6 6))) 1 (some (g6 7))) 2 (some (g6 8))) 3 (some (g6 9)))))))), ((g6 6), .inr (7, [.int 0, .int 0, .int 0, .int 0])), ((g6 7), .inr (7, [.int 0, .int 0, .int 0, .int 0])), ((g6 8), .inr (7, [.int 0, .int 0, .int 0, .int 0])), ((g6 9), .inr (7, [.int 0, .int 0, .int 0, .int 0])), ((g6 10), .inr (1, [.ref (g6 11), .int 0, .int 0, .int 0, .int 0, .int 0, .int 0, .int 0, .int 0, .int 0])), ((g6 11), .inl (cS, 4, .inr (.inr (.inr (.inr (va_up (va_up (va_up (va_up (fun _ => none) 0 (some (g6 12))) 1 (some (g6 13))) 2 (some (g6 14))) 3 (some (g6 15)))))))), ((g6 12), .inr (7, [.int 0, .int 0, .int 0, .int 0])), ((g6 13), .inr (7, [.int 0, .int 0, .int 0, .int 0])), ((g6 14), .inr (7, [.int 0, .int 0, .int 0, .int 0])), ((g6 15), .inr (7, [.int 0, .int 0, .int 0, .int 0])), ((g6 16), .inr (1, [.ref (g6 17), .int 0, .int 0, .int 0, .int 0, .int 0, .int 0, .int 0, .int 0, .int 0])), ((g6 17), .inl (cS, 4, .inr (.inr (.inr (.inr (va_up (va_up (va_up (va_up (fun _ => none) 0 (some (g6 18))) 1 (some (g6 19))) 2 (some (g6 20))) 3 (some (g6 21)))))))), ((g6 18), .inr (7, [.int 0, .int 0, .int 0, .int 0])), ((g6 19), .inr (7, [.int 0, .int 0, .int 0, .int 0])), ((g6 20), .inr (7, [.int 0, .int 0, .int 0, .int 0])), ((g6 21), .inr (7, [.int 0, .int 0, .int 0, .int 0])), ((g6 22), .inr (1, [.ref (g6 23), .int 0, .int 0, .int 0, .int 0, .int 0, .int 0, .int 0, .int 0, .int 0])), ((g6 23), .inl (cS, 4, .inr (.inr (.inr (.inr (va_up (va_up (va_up (va_up (fun _ => none) 0 (some (g6 24))) 1 (some (g6 25))) 2 (some (g6 26))) 3 (some (g6 27)))))))), ((g6 24), .inr (7, [.int 0, .int 0, .int 0, .int 0])), ((g6 25), .inr (7, [.int 0, .int 0, .int 0, .int 0])), ((g6 26), .inr (7, [.int 0, .int 0, .int 0, .int 0])), ((g6 27), .inr (7, [.int 0, .int 0, .int 0, .int 0])), ((g6 28), .inr (1, [.ref (g6 29), .int 0, .int 0, .int 0, .int 0, .int 0, .int 0, .int 0, .int 0, .int 0])), ((g6 29), .inl (cS, 4, .inr (.inr (.inr (.inr (va_up (va_up (va_up (va_up (fun _ => none) 0 (some (g6 30))) 1 (some (g6 31))) 2 (some (g6 32))) 3 (some (g6 33)))))))), ((g6 30), .inr (7, [.int 0, .int 0, .int 0, .int 0])), ((g6 31), .inr (7, [.int 0, .int 0, .int 0, .int 0])), ((g6 32), .inr (7, [.int 0, .int 0, .int 0, .int 0])), ((g6 33), .inr (7, [.int 0, .int 0, .int 0, .int 0])), ((g6 34), .inr (1, [.ref (g6 35), .int 0, .int 0, .int 0, .int 0, .int 0, .int 0, .int 0, .int 0, .int 0])), ((g6 35), .inl (cS, 4, .inr (.inr (.inr (.inr (va_up (va_up (va_up (va_up (fun _ => none) 0 (some (g6 36))) 1 (some (g6 37))) 2 (some (g6 38))) 3 (some (g6 39)))))))), ((g6 36), .inr (7, [.int 0, .int 0, .int 0, .int 0])), ((g6 37), .inr (7, [.int 0, .int 0, .int 0, .int 0])), ((g6 38), .inr (7, [.int 0, .int 0, .int 0, .int 0])), ((g6 39), .inr (7, [.int 0, .int 0, .int 0, .int 0])), (q7, .inr (6, [.ref q5, .ref (g8 0), .ref (g8 1), .ref (g8 2), .int 0, .int (-1), .int (-1)])), ((g8 0), .inl (cI, 6, .inl (fun _ => 0))), ((g8 1), .inl (cI, 6, .inl (fun _ => 0))), ((g8 2), .inl (cC, 6, .inr (.inr (.inr (.inr (fun _ => none)))))), (q9, .inr (9, [.ref q5, .ref q7, .int 0, .long 0, .long 0, .long 0, .int 0, .int 0, .int 0])), (q11, .inr (2, [.ref q5, .ref q7, .ref q9, .int 0, .int 0, .long 0, .long 0])), (q13, .inr (3, [.ref q5, .int 0, .long 0, .long 0])), (q15, .inr (0, [.null, .null, .null, .null, .int 0]))] A s H _ := I
  refine lv_dup hx hb dX10_init_117 rfl ?_
  refine lv_aload_n hx hb dX10_init_118 rfl (lv_at hl 0 rfl) ?_
  refine n_get C hK I inT10 0 10 2 rfl rfl (by decide) rfl fl_X10_28 rfl dX10_init_119 ?_
  refine n_I (As := [.ref q5]) (rest := [.ref q15, .ref h0]) (wc := [(q15, .inr (0, [.null, .null, .null, .null, .int 0]))]) (wr := [(h0, .inr (10, [.ref q1, .ref q3, .ref q5, .ref q7, .ref q9, .ref q11, .ref q13, .null])), (q1, .inr (8, [.ref (g2 0), .int 0])), ((g2 0), .inl (cI, 200, .inl (fun _ => 0))), (q3, .inr (5, [.ref q1, .ref (g4 0), .int 0, .int 0, .int 0, .int 0, .int 0])), ((g4 0), .inl (cI, 80, .inl (fun _ => 0))), (q5, .inr (4, [.ref (g6 0), .ref (g6 1), .ref (g6 2), .ref (g6 3), .int 0, .int 40, .int 999, .int 480])), ((g6 0), .inl (cI, 8, .inl wX4_init_q1_8)), ((g6 1), .inl (cI, 8, .inl (fun _ => 0))), ((g6 2), .inl (cI, 36, .inl wX4_init_q3_36)), ((g6 3), .inl (cC, 6, .inr (.inr (.inr (.inr (va_up (va_up (va_up (va_up (va_up (va_up (fun _ => none) 0 (some (g6 4))) 1 (some (g6 10))) 2 (some (g6 16))) 3 (some (g6 22))) 4 (some (g6 28))) 5 (some (g6 34)))))))), ((g6 4), .inr (1, [.ref (g6 5), .int 0, .int 0, .int 0, .int 0, .int 0, .int 0, .int 0, .int 0, .int 0])), ((g6 5), .inl (cS, 4, .inr (.inr (.inr (.inr (va_up (va_up (va_up (va_up (fun _ => none) 0 (some (g6 6))) 1 (some (g6 7))) 2 (some (g6 8))) 3 (some (g6 9)))))))), ((g6 6), .inr (7, [.int 0, .int 0, .int 0, .int 0])), ((g6 7), .inr (7, [.int 0, .int 0, .int 0, .int 0])), ((g6 8), .inr (7, [.int 0, .int 0, .int 0, .int 0])), ((g6 9), .inr (7, [.int 0, .int 0, .int 0, .int 0])), ((g6 10), .inr (1, [.ref (g6 11), .int 0, .int 0, .int 0, .int 0, .int 0, .int 0, .int 0, .int 0, .int 0])), ((g6 11), .inl (cS, 4, .inr (.inr (.inr (.inr (va_up (va_up (va_up (va_up (fun _ => none) 0 (some (g6 12))) 1 (some (g6 13))) 2 (some (g6 14))) 3 (some (g6 15)))))))), ((g6 12), .inr (7, [.int 0, .int 0, .int 0, .int 0])), ((g6 13), .inr (7, [.int 0, .int 0, .int 0, .int 0])), ((g6 14), .inr (7, [.int 0, .int 0, .int 0, .int 0])), ((g6 15), .inr (7, [.int 0, .int 0, .int 0, .int 0])), ((g6 16), .inr (1, [.ref (g6 17), .int 0, .int 0, .int 0, .int 0, .int 0, .int 0, .int 0, .int 0, .int 0])), ((g6 17), .inl (cS, 4, .inr (.inr (.inr (.inr (va_up (va_up (va_up (va_up (fun _ => none) 0 (some (g6 18))) 1 (some (g6 19))) 2 (some (g6 20))) 3 (some (g6 21)))))))), ((g6 18), .inr (7, [.int 0, .int 0, .int 0, .int 0])), ((g6 19), .inr (7, [.int 0, .int 0, .int 0, .int 0])), ((g6 20), .inr (7, [.int 0, .int 0, .int 0, .int 0])), ((g6 21), .inr (7, [.int 0, .int 0, .int 0, .int 0])), ((g6 22), .inr (1, [.ref (g6 23), .int 0, .int 0, .int 0, .int 0, .int 0, .int 0, .int 0, .int 0, .int 0])), ((g6 23), .inl (cS, 4, .inr (.inr (.inr (.inr (va_up (va_up (va_up (va_up (fun _ => none) 0 (some (g6 24))) 1 (some (g6 25))) 2 (some (g6 26))) 3 (some (g6 27)))))))), ((g6 24), .inr (7, [.int 0, .int 0, .int 0, .int 0])), ((g6 25), .inr (7, [.int 0, .int 0, .int 0, .int 0])), ((g6 26), .inr (7, [.int 0, .int 0, .int 0, .int 0])), ((g6 27), .inr (7, [.int 0, .int 0, .int 0, .int 0])), ((g6 28), .inr (1, [.ref (g6 29), .int 0, .int 0, .int 0, .int 0, .int 0, .int 0, .int 0, .int 0, .int 0])), ((g6 29), .inl (cS, 4, .inr (.inr (.inr (.inr (va_up (va_up (va_up (va_up (fun _ => none) 0 (some (g6 30))) 1 (some (g6 31))) 2 (some (g6 32))) 3 (some (g6 33)))))))), ((g6 30), .inr (7, [.int 0, .int 0, .int 0, .int 0])), ((g6 31), .inr (7, [.int 0, .int 0, .int 0, .int 0])), ((g6 32), .inr (7, [.int 0, .int 0, .int 0, .int 0])), ((g6 33), .inr (7, [.int 0, .int 0, .int 0, .int 0])), ((g6 34), .inr (1, [.ref (g6 35), .int 0, .int 0, .int 0, .int 0, .int 0, .int 0, .int 0, .int 0, .int 0])), ((g6 35), .inl (cS, 4, .inr (.inr (.inr (.inr (va_up (va_up (va_up (va_up (fun _ => none) 0 (some (g6 36))) 1 (some (g6 37))) 2 (some (g6 38))) 3 (some (g6 39)))))))), ((g6 36), .inr (7, [.int 0, .int 0, .int 0, .int 0])), ((g6 37), .inr (7, [.int 0, .int 0, .int 0, .int 0])), ((g6 38), .inr (7, [.int 0, .int 0, .int 0, .int 0])), ((g6 39), .inr (7, [.int 0, .int 0, .int 0, .int 0])), (q7, .inr (6, [.ref q5, .ref (g8 0), .ref (g8 1), .ref (g8 2), .int 0, .int (-1), .int (-1)])), ((g8 0), .inl (cI, 6, .inl (fun _ => 0))), ((g8 1), .inl (cI, 6, .inl (fun _ => 0))), ((g8 2), .inl (cC, 6, .inr (.inr (.inr (.inr (fun _ => none)))))), (q9, .inr (9, [.ref q5, .ref q7, .int 0, .long 0, .long 0, .long 0, .int 0, .int 0, .int 0])), (q11, .inr (2, [.ref q5, .ref q7, .ref q9, .int 0, .int 0, .long 0, .long 0])), (q13, .inr (3, [.ref q5, .int 0, .long 0, .long 0]))]) C hK I hA [53] [0, 1, 2, 3, 4, 5, 6, 7, 8, 9, 10, 11, 12, 13, 14, 15, 16, 17, 18, 19, 20, 21, 22, 23, 24, 25, 26, 27, 28, 29, 30, 31, 32, 33, 34, 35, 36, 37, 38, 39, 40, 41, 42, 43, 44, 45, 46, 47, 48, 49, 50, 51, 52] rfl rfl rfl (by decide) (by decide) (by decide) (c_X0_init l D cI cC cS q15 q5) ⟨Nat.le_of_ble_eq_true rfl, Nat.le_of_ble_eq_true rfl⟩ ⟨Nat.le_of_ble_eq_true rfl, Nat.le_of_ble_eq_true rfl⟩ mi_X0_init lk_X10_68 rfl hl.1 rfl (Nat.le_of_ble_eq_true rfl) dX10_init_122 (fun ws9 hp9 H locs I => ?_)
  obtain ⟨g16, rfl⟩ := hp9
  have I : Iw D [(h0, .inr (10, [.ref q1, .ref q3, .ref q5, .ref q7, .ref q9, .ref q11, .ref q13, .null])), (q1, .inr (8, [.ref (g2 0), .int 0])), ((g2 0), .inl (cI, 200, .inl (fun _ => 0))), (q3, .inr (5, [.ref q1, .ref (g4 0), .int 0, .int 0, .int 0, .int 0, .int 0])), ((g4 0), .inl (cI, 80, .inl (fun _ => 0))), (q5, .inr (4, [.ref (g6 0), .ref (g6 1), .ref (g6 2), .ref (g6 3), .int 0, .int 40, .int 999, .int 480])), ((g6 0), .inl (cI, 8, .inl wX4_init_q1_8)), ((g6 1), .inl (cI, 8, .inl (fun _ => 0))), ((g6 2), .inl (cI, 36, .inl wX4_init_q3_36)), ((g6 3), .inl (cC, 6, .inr (.inr (.inr (.inr (va_up (va_up (va_up (va_up (va_up (va_up (fun _ => none) 0 (some (g6 4))) 1 (some (g6 10))) 2 (some (g6 16))) 3 (some (g6 22))) 4 (some (g6 28))) 5 (some (g6 34)))))))), ((g6 4), .inr (1, [.ref (g6 5), .int 0, .int 0, .int 0, .int 0, .int 0, .int 0, .int 0, .int 0, .int 0])), ((g6 5), .inl (cS, 4, .inr (.inr (.inr (.inr (va_up (va_up (va_up (va_up (fun _ => none) 0 (some (g6 6))) 1 (some (g6 7))) 2 (some (g6 8))) 3 (some (g6 9)))))))), ((g6 6), .inr (7, [.int 0, .int 0, .int 0, .int 0])), ((g6 7), .inr (7, [.int 0, .int 0, .int 0, .int 0])), ((g6 8), .inr (7, [.int 0, .int 0, .int 0, .int 0])), ((g6 9), .inr (7, [.int 0, .int 0, .int 0, .int 0])), ((g6 10), .inr (1, [.ref (g6 11), .int 0, .int 0, .int 0, .int 0, .int 0, .int 0, .int 0, .int 0, .int 0])), ((g6 11), .inl (cS, 4, .inr (.inr (.inr (.inr (va_up (va_up (va_up (va_up (fun _ => none) 0 (some (g6 12))) 1 (some (g6 13))) 2 (some (g6 14))) 3 (some (g6 15)))))))), ((g6 12), .inr (7, [.int 0, .int 0, .int 0, .int 0])), ((g6 13), .inr (7, [.int 0, .int 0, .int 0, .int 0])), ((g6 14), .inr (7, [.int 0, .int 0, .int 0, .int 0])), ((g6 15), .inr (7, [.int 0, .int 0, .int 0, .int 0])), ((g6 16), .inr (1, [.ref (g6 17), .int 0, .int 0, .int 0, .int 0, .int 0, .int 0, .int 0, .int 0, .int 0])), ((g6 17), .inl (cS, 4, .inr (.inr (.inr (.inr (va_up (va_up (va_up (va_up (fun _ => none) 0 (some (g6 18))) 1 (some (g6 19))) 2 (some (g6 20))) 3 (some (g6 21)))))))), ((g6 18), .inr (7, [.int 0, .int 0, .int 0, .int 0])), ((g6 19), .inr (7, [.int 0, .int 0, .int 0, .int 0])), ((g6 20), .inr (7, [.int 0, .int 0, .int 0, .int 0])), ((g6 21), .inr (7, [.int 0, .int 0, .int 0, .int 0])), ((g6 22), .inr (1, [.ref (g6 23), .int 0, .int 0, .int 0, .int 0, .int 0, .int 0, .int 0, .int 0, .int 0])), ((g6 23), .inl (cS, 4, .inr (.inr (.inr (.inr (va_up (va_up (va_up (va_up (fun _ => none) 0 (some (g6 24))) 1 (some (g6 25))) 2 (some (g6 26))) 3 (some (g6 27)))))))), ((g6 24), .inr (7, [.int 0, .int 0, .int 0, .int 0])), ((g6 25), .inr (7, [.int 0, .int 0, .int 0, .int 0])), ((g6 26), .inr (7, [.int 0, .int 0, .int 0, .int 0])), ((g6 27), .inr (7, [.int 0, .int 0, .int 0, .int 0])), ((g6 28), .inr (1, [.ref (g6 29), .int 0, .int 0, .int 0, .int 0, .int 0, .int 0, .int 0, .int 0, .int 0])), ((g6 29), .inl (cS, 4, .inr (.inr (.inr (.inr (va_up (va_up (va_up (va_up (fun _ => none) 0 (some (g6 30))) 1 (some (g6 31))) 2 (some (g6 32))) 3 (some (g6 33)))))))), ((g6 30), .inr (7, [.int 0, .int 0, .int 0, .int 0])), ((g6 31), .inr (7, [.int 0, .int 0, .int 0, .int 0])), ((g6 32), .inr (7, [.int 0, .int 0, .int 0, .int 0])), ((g6 33), .inr (7, [.int 0, .int 0, .int 0, .int 0])), ((g6 34), .inr (1, [.ref (g6 35), .int 0, .int 0, .int 0, .int 0, .int 0, .int 0, .int 0, .int 0, .int 0])), ((g6 35), .inl (cS, 4, .inr (.inr (.inr (.inr (va_up (va_up (va_up (va_up (fun _ => none) 0 (some (g6 36))) 1 (some (g6 37))) 2 (some (g6 38))) 3 (some (g6 39)))))))), ((g6 36), .inr (7, [.int 0, .int 0, .int 0, .int 0])), ((g6 37), .inr (7, [.int 0, .int 0, .int 0, .int 0])), ((g6 38), .inr (7, [.int 0, .int 0, .int 0, .int 0])), ((g6 39), .inr (7, [.int 0, .int 0, .int 0, .int 0])), (q7, .inr (6, [.ref q5, .ref (g8 0), .ref (g8 1), .ref (g8 2), .int 0, .int (-1), .int (-1)])), ((g8 0), .inl (cI, 6, .inl (fun _ => 0))), ((g8 1), .inl (cI, 6, .inl (fun _ => 0))), ((g8 2), .inl (cC, 6, .inr (.inr (.inr (.inr (fun _ => none)))))), (q9, .inr (9, [.ref q5, .ref q7, .int 0, .long 0, .long 0, .long 0, .int 0, .int 0, .int 0])), (q11, .inr (2, [.ref q5, .ref q7, .ref q9, .int 0, .int 0, .long 0, .long 0])), (q13, .inr (3, [.ref q5, .int 0, .long 0, .long 0])), (q15, .inr (0, [.ref q5, .ref (g16 0), .ref (g16 1), .ref (g16 2), .int 0])), ((g16 0), .inl (cI, 16, .inl (fun _ => 0))), ((g16 1), .inl (cI, 16, .inl (fun _ => 0))), ((g16 2), .inl (cI, 16, .inl (fun _ => 0)))] A s H _ := I
  refine n_putF C hK I inT10 tyX10 tyX10_ok nmX10 0 10 7 rfl rfl (by decide) rfl rfl hin fl_X10_69 rfl rfl rfl (Nat.le_of_ble_eq_true rfl) (ws1 := [(h0, .inr (10, [.ref q1, .ref q3, .ref q5, .ref q7, .ref q9, .ref q11, .ref q13, .ref q15])), (q1, .inr (8, [.ref (g2 0), .int 0])), ((g2 0), .inl (cI, 200, .inl (fun _ => 0))), (q3, .inr (5, [.ref q1, .ref (g4 0), .int 0, .int 0, .int 0, .int 0, .int 0])), ((g4 0), .inl (cI, 80, .inl (fun _ => 0))), (q5, .inr (4, [.ref (g6 0), .ref (g6 1), .ref (g6 2), .ref (g6 3), .int 0, .int 40, .int 999, .int 480])), ((g6 0), .inl (cI, 8, .inl wX4_init_q1_8)), ((g6 1), .inl (cI, 8, .inl (fun _ => 0))), ((g6 2), .inl (cI, 36, .inl wX4_init_q3_36)), ((g6 3), .inl (cC, 6, .inr (.inr (.inr (.inr (va_up (va_up (va_up (va_up (va_up (va_up (fun _ => none) 0 (some (g6 4))) 1 (some (g6 10))) 2 (some (g6 16))) 3 (some (g6 22))) 4 (some (g6 28))) 5 (some (g6 34)))))))), ((g6 4), .inr (1, [.ref (g6 5), .int 0, .int 0, .int 0, .int 0, .int 0, .int 0, .int 0, .int 0, .int 0])), ((g6 5), .inl (cS, 4, .inr (.inr (.inr (.inr (va_up (va_up (va_up (va_up (fun _ => none) 0 (some (g6 6))) 1 (some (g6 7))) 2 (some (g6 8))) 3 (some (g6 9)))))))), ((g6 6), .inr (7, [.int 0, .int 0, .int 0, .int 0])), ((g6 7), .inr (7, [.int 0, .int 0, .int 0, .int 0])), ((g6 8), .inr (7, [.int 0, .int 0, .int 0, .int 0])), ((g6 9), .inr (7, [.int 0, .int 0, .int 0, .int 0])), ((g6 10), .inr (1, [.ref (g6 11), .int 0, .int 0, .int 0, .int 0, .int 0, .int 0, .int 0, .int 0, .int 0])), ((g6 11), .inl (cS, 4, .inr (.inr (.inr (.inr (va_up (va_up (va_up (va_up (fun _ => none) 0 (some (g6 12))) 1 (some (g6 13))) 2 (some (g6 14))) 3 (some (g6 15)))))))), ((g6 12), .inr (7, [.int 0, .int 0, .int 0, .int 0])), ((g6 13), .inr (7, [.int 0, .int 0, .int 0, .int 0])), ((g6 14), .inr (7, [.int 0, .int 0, .int 0, .int 0])), ((g6 15), .inr (7, [.int 0, .int 0, .int 0, .int 0])), ((g6 16), .inr (1, [.ref (g6 17), .int 0, .int 0, .int 0, .int 0, .int 0, .int 0, .int 0, .int 0, .int 0])), ((g6 17), .inl (cS, 4, .inr (.inr (.inr (.inr (va_up (va_up (va_up (va_up (fun _ => none) 0 (some (g6 18))) 1 (some (g6 19))) 2 (some (g6 20))) 3 (some (g6 21)))))))), ((g6 18), .inr (7, [.int 0, .int 0, .int 0, .int 0])), ((g6 19), .inr (7, [.int 0, .int 0, .int 0, .int 0])), ((g6 20), .inr (7, [.int 0, .int 0, .int 0, .int 0])), ((g6 21), .inr (7, [.int 0, .int 0, .int 0, .int 0])), ((g6 22), .inr (1, [.ref (g6 23), .int 0, .int 0, .int 0, .int 0, .int 0, .int 0, .int 0, .int 0, .int 0])), ((g6 23), .inl (cS, 4, .inr (.inr (.inr (.inr (va_up (va_up (va_up (va_up (fun _ => none) 0 (some (g6 24))) 1 (some (g6 25))) 2 (some (g6 26))) 3 (some (g6 27)))))))), ((g6 24), .inr (7, [.int 0, .int 0, .int 0, .int 0])), ((g6 25), .inr (7, [.int 0, .int 0, .int 0, .int 0])), ((g6 26), .inr (7, [.int 0, .int 0, .int 0, .int 0])), ((g6 27), .inr (7, [.int 0, .int 0, .int 0, .int 0])), ((g6 28), .inr (1, [.ref (g6 29), .int 0, .int 0, .int 0, .int 0, .int 0, .int 0, .int 0, .int 0, .int 0])), ((g6 29), .inl (cS, 4, .inr (.inr (.inr (.inr (va_up (va_up (va_up (va_up (fun _ => none) 0 (some (g6 30))) 1 (some (g6 31))) 2 (some (g6 32))) 3 (some (g6 33)))))))), ((g6 30), .inr (7, [.int 0, .int 0, .int 0, .int 0])), ((g6 31), .inr (7, [.int 0, .int 0, .int 0, .int 0])), ((g6 32), .inr (7, [.int 0, .int 0, .int 0, .int 0])), ((g6 33), .inr (7, [.int 0, .int 0, .int 0, .int 0])), ((g6 34), .inr (1, [.ref (g6 35), .int 0, .int 0, .int 0, .int 0, .int 0, .int 0, .int 0, .int 0, .int 0])), ((g6 35), .inl (cS, 4, .inr (.inr (.inr (.inr (va_up (va_up (va_up (va_up (fun _ => none) 0 (some (g6 36))) 1 (some (g6 37))) 2 (some (g6 38))) 3 (some (g6 39)))))))), ((g6 36), .inr (7, [.int 0, .int 0, .int 0, .int 0])), ((g6 37), .inr (7, [.int 0, .int 0, .int 0, .int 0])), ((g6 38), .inr (7, [.int 0, .int 0, .int 0, .int 0])), ((g6 39), .inr (7, [.int 0, .int 0, .int 0, .int 0])), (q7, .inr (6, [.ref q5, .ref (g8 0), .ref (g8 1), .ref (g8 2), .int 0, .int (-1), .int (-1)])), ((g8 0), .inl (cI, 6, .inl (fun _ => 0))), ((g8 1), .inl (cI, 6, .inl (fun _ => 0))), ((g8 2), .inl (cC, 6, .inr (.inr (.inr (.inr (fun _ => none)))))), (q9, .inr (9, [.ref q5, .ref q7, .int 0, .long 0, .long 0, .long 0, .int 0, .int 0, .int 0])), (q11, .inr (2, [.ref q5, .ref q7, .ref q9, .int 0, .int 0, .long 0, .long 0])), (q13, .inr (3, [.ref q5, .int 0, .long 0, .long 0])), (q15, .inr (0, [.ref q5, .ref (g16 0), .ref (g16 1), .ref (g16 2), .int 0])), ((g16 0), .inl (cI, 16, .inl (fun _ => 0))), ((g16 1), .inl (cI, 16, .inl (fun _ => 0))), ((g16 2), .inl (cI, 16, .inl (fun _ => 0)))]) rfl dX10_init_125 (fun H locs I => ?_)
  have e0 : (va_up (va_up (va_up (va_up (fun _ => none) 0 (some (g6 6))) 1 (some (g6 7))) 2 (some (g6 8))) 3 (some (g6 9))) = fun j => if j < 4 then some ((adOf [h0, q1, q3, q5, q7, q9, q11, q13, q15, (g6 3), (g8 2), (g2 0), (g4 0), (g6 0), (g6 1), (g6 2), (g8 0), (g8 1), (g16 0), (g16 1), (g16 2), (g6 4), (g6 10), (g6 16), (g6 22), (g6 28), (g6 34), (g6 5), (g6 11), (g6 17), (g6 23), (g6 29), (g6 35), (g6 6), (g6 7), (g6 8), (g6 9), (g6 12), (g6 13), (g6 14), (g6 15), (g6 18), (g6 19), (g6 20), (g6 21), (g6 24), (g6 25), (g6 26), (g6 27), (g6 30), (g6 31), (g6 32), (g6 33), (g6 36), (g6 37), (g6 38), (g6 39)]) (33 + (4 * 0 + j))) else none := up4 (fun j => (adOf [h0, q1, q3, q5, q7, q9, q11, q13, q15, (g6 3), (g8 2), (g2 0), (g4 0), (g6 0), (g6 1), (g6 2), (g8 0), (g8 1), (g16 0), (g16 1), (g16 2), (g6 4), (g6 10), (g6 16), (g6 22), (g6 28), (g6 34), (g6 5), (g6 11), (g6 17), (g6 23), (g6 29), (g6 35), (g6 6), (g6 7), (g6 8), (g6 9), (g6 12), (g6 13), (g6 14), (g6 15), (g6 18), (g6 19), (g6 20), (g6 21), (g6 24), (g6 25), (g6 26), (g6 27), (g6 30), (g6 31), (g6 32), (g6 33), (g6 36), (g6 37), (g6 38), (g6 39)]) (33 + (4 * 0 + j)))
  have e1 : (va_up (va_up (va_up (va_up (fun _ => none) 0 (some (g6 12))) 1 (some (g6 13))) 2 (some (g6 14))) 3 (some (g6 15))) = fun j => if j < 4 then some ((adOf [h0, q1, q3, q5, q7, q9, q11, q13, q15, (g6 3), (g8 2), (g2 0), (g4 0), (g6 0), (g6 1), (g6 2), (g8 0), (g8 1), (g16 0), (g16 1), (g16 2), (g6 4), (g6 10), (g6 16), (g6 22), (g6 28), (g6 34), (g6 5), (g6 11), (g6 17), (g6 23), (g6 29), (g6 35), (g6 6), (g6 7), (g6 8), (g6 9), (g6 12), (g6 13), (g6 14), (g6 15), (g6 18), (g6 19), (g6 20), (g6 21), (g6 24), (g6 25), (g6 26), (g6 27), (g6 30), (g6 31), (g6 32), (g6 33), (g6 36), (g6 37), (g6 38), (g6 39)]) (33 + (4 * 1 + j))) else none := up4 (fun j => (adOf [h0, q1, q3, q5, q7, q9, q11, q13, q15, (g6 3), (g8 2), (g2 0), (g4 0), (g6 0), (g6 1), (g6 2), (g8 0), (g8 1), (g16 0), (g16 1), (g16 2), (g6 4), (g6 10), (g6 16), (g6 22), (g6 28), (g6 34), (g6 5), (g6 11), (g6 17), (g6 23), (g6 29), (g6 35), (g6 6), (g6 7), (g6 8), (g6 9), (g6 12), (g6 13), (g6 14), (g6 15), (g6 18), (g6 19), (g6 20), (g6 21), (g6 24), (g6 25), (g6 26), (g6 27), (g6 30), (g6 31), (g6 32), (g6 33), (g6 36), (g6 37), (g6 38), (g6 39)]) (33 + (4 * 1 + j)))
  have e2 : (va_up (va_up (va_up (va_up (fun _ => none) 0 (some (g6 18))) 1 (some (g6 19))) 2 (some (g6 20))) 3 (some (g6 21))) = fun j => if j < 4 then some ((adOf [h0, q1, q3, q5, q7, q9, q11, q13, q15, (g6 3), (g8 2), (g2 0), (g4 0), (g6 0), (g6 1), (g6 2), (g8 0), (g8 1), (g16 0), (g16 1), (g16 2), (g6 4), (g6 10), (g6 16), (g6 22), (g6 28), (g6 34), (g6 5), (g6 11), (g6 17), (g6 23), (g6 29), (g6 35), (g6 6), (g6 7), (g6 8), (g6 9), (g6 12), (g6 13), (g6 14), (g6 15), (g6 18), (g6 19), (g6 20), (g6 21), (g6 24), (g6 25), (g6 26), (g6 27), (g6 30), (g6 31), (g6 32), (g6 33), (g6 36), (g6 37), (g6 38), (g6 39)]) (33 + (4 * 2 + j))) else none := up4 (fun j => (adOf [h0, q1, q3, q5, q7, q9, q11, q13, q15, (g6 3), (g8 2), (g2 0), (g4 0), (g6 0), (g6 1), (g6 2), (g8 0), (g8 1), (g16 0), (g16 1), (g16 2), (g6 4), (g6 10), (g6 16), (g6 22), (g6 28), (g6 34), (g6 5), (g6 11), (g6 17), (g6 23), (g6 29), (g6 35), (g6 6), (g6 7), (g6 8), (g6 9), (g6 12), (g6 13), (g6 14), (g6 15), (g6 18), (g6 19), (g6 20), (g6 21), (g6 24), (g6 25), (g6 26), (g6 27), (g6 30), (g6 31), (g6 32), (g6 33), (g6 36), (g6 37), (g6 38), (g6 39)]) (33 + (4 * 2 + j)))
  have e3 : (va_up (va_up (va_up (va_up (fun _ => none) 0 (some (g6 24))) 1 (some (g6 25))) 2 (some (g6 26))) 3 (some (g6 27))) = fun j => if j < 4 then some ((adOf [h0, q1, q3, q5, q7, q9, q11, q13, q15, (g6 3), (g8 2), (g2 0), (g4 0), (g6 0), (g6 1), (g6 2), (g8 0), (g8 1), (g16 0), (g16 1), (g16 2), (g6 4), (g6 10), (g6 16), (g6 22), (g6 28), (g6 34), (g6 5), (g6 11), (g6 17), (g6 23), (g6 29), (g6 35), (g6 6), (g6 7), (g6 8), (g6 9), (g6 12), (g6 13), (g6 14), (g6 15), (g6 18), (g6 19), (g6 20), (g6 21), (g6 24), (g6 25), (g6 26), (g6 27), (g6 30), (g6 31), (g6 32), (g6 33), (g6 36), (g6 37), (g6 38), (g6 39)]) (33 + (4 * 3 + j))) else none := up4 (fun j => (adOf [h0, q1, q3, q5, q7, q9, q11, q13, q15, (g6 3), (g8 2), (g2 0), (g4 0), (g6 0), (g6 1), (g6 2), (g8 0), (g8 1), (g16 0), (g16 1), (g16 2), (g6 4), (g6 10), (g6 16), (g6 22), (g6 28), (g6 34), (g6 5), (g6 11), (g6 17), (g6 23), (g6 29), (g6 35), (g6 6), (g6 7), (g6 8), (g6 9), (g6 12), (g6 13), (g6 14), (g6 15), (g6 18), (g6 19), (g6 20), (g6 21), (g6 24), (g6 25), (g6 26), (g6 27), (g6 30), (g6 31), (g6 32), (g6 33), (g6 36), (g6 37), (g6 38), (g6 39)]) (33 + (4 * 3 + j)))
  have e4 : (va_up (va_up (va_up (va_up (fun _ => none) 0 (some (g6 30))) 1 (some (g6 31))) 2 (some (g6 32))) 3 (some (g6 33))) = fun j => if j < 4 then some ((adOf [h0, q1, q3, q5, q7, q9, q11, q13, q15, (g6 3), (g8 2), (g2 0), (g4 0), (g6 0), (g6 1), (g6 2), (g8 0), (g8 1), (g16 0), (g16 1), (g16 2), (g6 4), (g6 10), (g6 16), (g6 22), (g6 28), (g6 34), (g6 5), (g6 11), (g6 17), (g6 23), (g6 29), (g6 35), (g6 6), (g6 7), (g6 8), (g6 9), (g6 12), (g6 13), (g6 14), (g6 15), (g6 18), (g6 19), (g6 20), (g6 21), (g6 24), (g6 25), (g6 26), (g6 27), (g6 30), (g6 31), (g6 32), (g6 33), (g6 36), (g6 37), (g6 38), (g6 39)]) (33 + (4 * 4 + j))) else none := up4 (fun j => (adOf [h0, q1, q3, q5, q7, q9, q11, q13, q15, (g6 3), (g8 2), (g2 0), (g4 0), (g6 0), (g6 1), (g6 2), (g8 0), (g8 1), (g16 0), (g16 1), (g16 2), (g6 4), (g6 10), (g6 16), (g6 22), (g6 28), (g6 34), (g6 5), (g6 11), (g6 17), (g6 23), (g6 29), (g6 35), (g6 6), (g6 7), (g6 8), (g6 9), (g6 12), (g6 13), (g6 14), (g6 15), (g6 18), (g6 19), (g6 20), (g6 21), (g6 24), (g6 25), (g6 26), (g6 27), (g6 30), (g6 31), (g6 32), (g6 33), (g6 36), (g6 37), (g6 38), (g6 39)]) (33 + (4 * 4 + j)))
  have e5 : (va_up (va_up (va_up (va_up (fun _ => none) 0 (some (g6 36))) 1 (some (g6 37))) 2 (some (g6 38))) 3 (some (g6 39))) = fun j => if j < 4 then some ((adOf [h0, q1, q3, q5, q7, q9, q11, q13, q15, (g6 3), (g8 2), (g2 0), (g4 0), (g6 0), (g6 1), (g6 2), (g8 0), (g8 1), (g16 0), (g16 1), (g16 2), (g6 4), (g6 10), (g6 16), (g6 22), (g6 28), (g6 34), (g6 5), (g6 11), (g6 17), (g6 23), (g6 29), (g6 35), (g6 6), (g6 7), (g6 8), (g6 9), (g6 12), (g6 13), (g6 14), (g6 15), (g6 18), (g6 19), (g6 20), (g6 21), (g6 24), (g6 25), (g6 26), (g6 27), (g6 30), (g6 31), (g6 32), (g6 33), (g6 36), (g6 37), (g6 38), (g6 39)]) (33 + (4 * 5 + j))) else none := up4 (fun j => (adOf [h0, q1, q3, q5, q7, q9, q11, q13, q15, (g6 3), (g8 2), (g2 0), (g4 0), (g6 0), (g6 1), (g6 2), (g8 0), (g8 1), (g16 0), (g16 1), (g16 2), (g6 4), (g6 10), (g6 16), (g6 22), (g6 28), (g6 34), (g6 5), (g6 11), (g6 17), (g6 23), (g6 29), (g6 35), (g6 6), (g6 7), (g6 8), (g6 9), (g6 12), (g6 13), (g6 14), (g6 15), (g6 18), (g6 19), (g6 20), (g6 21), (g6 24), (g6 25), (g6 26), (g6 27), (g6 30), (g6 31), (g6 32), (g6 33), (g6 36), (g6 37), (g6 38), (g6 39)]) (33 + (4 * 5 + j)))
  have e6 : (va_up (va_up (va_up (va_up (va_up (va_up (fun _ => none) 0 (some (g6 4))) 1 (some (g6 10))) 2 (some (g6 16))) 3 (some (g6 22))) 4 (some (g6 28))) 5 (some (g6 34))) = fun j => if j < 6 then some ((adOf [h0, q1, q3, q5, q7, q9, q11, q13, q15, (g6 3), (g8 2), (g2 0), (g4 0), (g6 0), (g6 1), (g6 2), (g8 0), (g8 1), (g16 0), (g16 1), (g16 2), (g6 4), (g6 10), (g6 16), (g6 22), (g6 28), (g6 34), (g6 5), (g6 11), (g6 17), (g6 23), (g6 29), (g6 35), (g6 6), (g6 7), (g6 8), (g6 9), (g6 12), (g6 13), (g6 14), (g6 15), (g6 18), (g6 19), (g6 20), (g6 21), (g6 24), (g6 25), (g6 26), (g6 27), (g6 30), (g6 31), (g6 32), (g6 33), (g6 36), (g6 37), (g6 38), (g6 39)]) (21 + j)) else none := up6 (fun j => (adOf [h0, q1, q3, q5, q7, q9, q11, q13, q15, (g6 3), (g8 2), (g2 0), (g4 0), (g6 0), (g6 1), (g6 2), (g8 0), (g8 1), (g16 0), (g16 1), (g16 2), (g6 4), (g6 10), (g6 16), (g6 22), (g6 28), (g6 34), (g6 5), (g6 11), (g6 17), (g6 23), (g6 29), (g6 35), (g6 6), (g6 7), (g6 8), (g6 9), (g6 12), (g6 13), (g6 14), (g6 15), (g6 18), (g6 19), (g6 20), (g6 21), (g6 24), (g6 25), (g6 26), (g6 27), (g6 30), (g6 31), (g6 32), (g6 33), (g6 36), (g6 37), (g6 38), (g6 39)]) (21 + j))
  rw [e0, e1, e2, e3, e4, e5, e6] at I
  obtain ⟨hP, hD, hS⟩ := I
  exact hq _ _ _ _ _ ⟨(adOf [h0, q1, q3, q5, q7, q9, q11, q13, q15, (g6 3), (g8 2), (g2 0), (g4 0), (g6 0), (g6 1), (g6 2), (g8 0), (g8 1), (g16 0), (g16 1), (g16 2), (g6 4), (g6 10), (g6 16), (g6 22), (g6 28), (g6 34), (g6 5), (g6 11), (g6 17), (g6 23), (g6 29), (g6 35), (g6 6), (g6 7), (g6 8), (g6 9), (g6 12), (g6 13), (g6 14), (g6 15), (g6 18), (g6 19), (g6 20), (g6 21), (g6 24), (g6 25), (g6 26), (g6 27), (g6 30), (g6 31), (g6 32), (g6 33), (g6 36), (g6 37), (g6 38), (g6 39)]), rfl, rfl⟩ ⟨hP.sub (ws' := xw cI cC cS (adOf [h0, q1, q3, q5, q7, q9, q11, q13, q15, (g6 3), (g8 2), (g2 0), (g4 0), (g6 0), (g6 1), (g6 2), (g8 0), (g8 1), (g16 0), (g16 1), (g16 2), (g6 4), (g6 10), (g6 16), (g6 22), (g6 28), (g6 34), (g6 5), (g6 11), (g6 17), (g6 23), (g6 29), (g6 35), (g6 6), (g6 7), (g6 8), (g6 9), (g6 12), (g6 13), (g6 14), (g6 15), (g6 18), (g6 19), (g6 20), (g6 21), (g6 24), (g6 25), (g6 26), (g6 27), (g6 30), (g6 31), (g6 32), (g6 33), (g6 36), (g6 37), (g6 38), (g6 39)]) S0x) [0, 1, 3, 5, 46, 50, 51, 52, 53, 9, 49, 2, 4, 6, 7, 8, 47, 48, 54, 55, 56, 10, 16, 22, 28, 34, 40, 11, 17, 23, 29, 35, 41, 12, 13, 14, 15, 18, 19, 20, 21, 24, 25, 26, 27, 30, 31, 32, 33, 36, 37, 38, 39, 42, 43, 44, 45] rfl, hD.sub (ws' := xw cI cC cS (adOf [h0, q1, q3, q5, q7, q9, q11, q13, q15, (g6 3), (g8 2), (g2 0), (g4 0), (g6 0), (g6 1), (g6 2), (g8 0), (g8 1), (g16 0), (g16 1), (g16 2), (g6 4), (g6 10), (g6 16), (g6 22), (g6 28), (g6 34), (g6 5), (g6 11), (g6 17), (g6 23), (g6 29), (g6 35), (g6 6), (g6 7), (g6 8), (g6 9), (g6 12), (g6 13), (g6 14), (g6 15), (g6 18), (g6 19), (g6 20), (g6 21), (g6 24), (g6 25), (g6 26), (g6 27), (g6 30), (g6 31), (g6 32), (g6 33), (g6 36), (g6 37), (g6 38), (g6 39)]) S0x) [0, 1, 3, 5, 46, 50, 51, 52, 53, 9, 49, 2, 4, 6, 7, 8, 47, 48, 54, 55, 56, 10, 16, 22, 28, 34, 40, 11, 17, 23, 29, 35, 41, 12, 13, 14, 15, 18, 19, 20, 21, 24, 25, 26, 27, 30, 31, 32, 33, 36, 37, 38, 39, 42, 43, 44, 45] (by decide +kernel) rfl, hS⟩ dX10_init_128
theorem dX11_init_0 : decode cX11_init 0 = .ok (.aload_n 0, 1) := by decide +kernel
theorem dX11_init_1 : decode cX11_init 1 = .ok (.invokespecial 1, 3) := by decide +kernel
theorem dX11_init_4 : decode cX11_init 4 = .ok (.aload_n 0, 1) := by decide +kernel
theorem dX11_init_5 : decode cX11_init 5 = .ok (.sipush 200, 3) := by decide +kernel
theorem dX11_init_8 : decode cX11_init 8 = .ok (.newarray .int, 2) := by decide +kernel
theorem dX11_init_10 : decode cX11_init 10 = .ok (.putfield 7, 3) := by decide +kernel
theorem dX11_init_13 : decode cX11_init 13 = .ok (.aload_n 0, 1) := by decide +kernel
theorem dX11_init_14 : decode cX11_init 14 = .ok (.bipush 80, 2) := by decide +kernel
theorem dX11_init_16 : decode cX11_init 16 = .ok (.newarray .int, 2) := by decide +kernel
theorem dX11_init_18 : decode cX11_init 18 = .ok (.putfield 13, 3) := by decide +kernel
theorem dX11_init_21 : decode cX11_init 21 = .ok (.aload_n 0, 1) := by decide +kernel
theorem dX11_init_22 : decode cX11_init 22 = .ok (.bipush 8, 2) := by decide +kernel
theorem dX11_init_24 : decode cX11_init 24 = .ok (.newarray .int, 2) := by decide +kernel
theorem dX11_init_26 : decode cX11_init 26 = .ok (.dup, 1) := by decide +kernel
theorem dX11_init_27 : decode cX11_init 27 = .ok (.iconst 0, 1) := by decide +kernel
theorem dX11_init_28 : decode cX11_init 28 = .ok (.iconst 1, 1) := by decide +kernel
theorem dX11_init_29 : decode cX11_init 29 = .ok (.iastore, 1) := by decide +kernel
theorem dX11_init_30 : decode cX11_init 30 = .ok (.dup, 1) := by decide +kernel
theorem dX11_init_31 : decode cX11_init 31 = .ok (.iconst 1, 1) := by decide +kernel
theorem dX11_init_32 : decode cX11_init 32 = .ok (.iconst 1, 1) := by decide +kernel
theorem dX11_init_33 : decode cX11_init 33 = .ok (.iastore, 1) := by decide +kernel
theorem dX11_init_34 : decode cX11_init 34 = .ok (.dup, 1) := by decide +kernel
theorem dX11_init_35 : decode cX11_init 35 = .ok (.iconst 2, 1) := by decide +kernel
theorem dX11_init_36 : decode cX11_init 36 = .ok (.iconst 1, 1) := by decide +kernel
theorem dX11_init_37 : decode cX11_init 37 = .ok (.iastore, 1) := by decide +kernel
theorem dX11_init_38 : decode cX11_init 38 = .ok (.dup, 1) := by decide +kernel
theorem dX11_init_39 : decode cX11_init 39 = .ok (.iconst 3, 1) := by decide +kernel
theorem dX11_init_40 : decode cX11_init 40 = .ok (.iconst 1, 1) := by decide +kernel
theorem dX11_init_41 : decode cX11_init 41 = .ok (.iastore, 1) := by decide +kernel
theorem dX11_init_42 : decode cX11_init 42 = .ok (.dup, 1) := by decide +kernel
theorem dX11_init_43 : decode cX11_init 43 = .ok (.iconst 4, 1) := by decide +kernel
theorem dX11_init_44 : decode cX11_init 44 = .ok (.iconst 1, 1) := by decide +kernel
theorem dX11_init_45 : decode cX11_init 45 = .ok (.iastore, 1) := by decide +kernel
theorem dX11_init_46 : decode cX11_init 46 = .ok (.dup, 1) := by decide +kernel
theorem dX11_init_47 : decode cX11_init 47 = .ok (.iconst 5, 1) := by decide +kernel
theorem dX11_init_48 : decode cX11_init 48 = .ok (.iconst 1, 1) := by decide +kernel
theorem dX11_init_49 : decode cX11_init 49 = .ok (.iastore, 1) := by decide +kernel
theorem dX11_init_50 : decode cX11_init 50 = .ok (.dup, 1) := by decide +kernel
theorem dX11_init_51 : decode cX11_init 51 = .ok (.bipush 6, 2) := by decide +kernel
theorem dX11_init_53 : decode cX11_init 53 = .ok (.iconst 1, 1) := by decide +kernel
theorem dX11_init_54 : decode cX11_init 54 = .ok (.iastore, 1) := by decide +kernel
theorem dX11_init_55 : decode cX11_init 55 = .ok (.dup, 1) := by decide +kernel
theorem dX11_init_56 : decode cX11_init 56 = .ok (.bipush 7, 2) := by decide +kernel
theorem dX11_init_58 : decode cX11_init 58 = .ok (.iconst 1, 1) := by decide +kernel
theorem dX11_init_59 : decode cX11_init 59 = .ok (.iastore, 1) := by decide +kernel
theorem dX11_init_60 : decode cX11_init 60 = .ok (.putfield 16, 3) := by decide +kernel
theorem dX11_init_63 : decode cX11_init 63 = .ok (.aload_n 0, 1) := by decide +kernel
theorem dX11_init_64 : decode cX11_init 64 = .ok (.bipush 8, 2) := by decide +kernel
theorem dX11_init_66 : decode cX11_init 66 = .ok (.newarray .int, 2) := by decide +kernel
theorem dX11_init_68 : decode cX11_init 68 = .ok (.putfield 19, 3) := by decide +kernel
theorem dX11_init_71 : decode cX11_init 71 = .ok (.aload_n 0, 1) := by decide +kernel
theorem dX11_init_72 : decode cX11_init 72 = .ok (.bipush 40, 2) := by decide +kernel
theorem dX11_init_74 : decode cX11_init 74 = .ok (.putfield 22, 3) := by decide +kernel
theorem dX11_init_77 : decode cX11_init 77 = .ok (.aload_n 0, 1) := by decide +kernel
theorem dX11_init_78 : decode cX11_init 78 = .ok (.sipush 999, 3) := by decide +kernel
theorem dX11_init_81 : decode cX11_init 81 = .ok (.putfield 26, 3) := by decide +kernel
theorem dX11_init_84 : decode cX11_init 84 = .ok (.aload_n 0, 1) := by decide +kernel
theorem dX11_init_85 : decode cX11_init 85 = .ok (.sipush 480, 3) := by decide +kernel
theorem dX11_init_88 : decode cX11_init 88 = .ok (.putfield 29, 3) := by decide +kernel
theorem dX11_init_91 : decode cX11_init 91 = .ok (.aload_n 0, 1) := by decide +kernel
theorem dX11_init_92 : decode cX11_init 92 = .ok (.bipush 36, 2) := by decide +kernel
theorem dX11_init_94 : decode cX11_init 94 = .ok (.newarray .int, 2) := by decide +kernel
theorem dX11_init_96 : decode cX11_init 96 = .ok (.putfield 32, 3) := by decide +kernel
theorem dX11_init_99 : decode cX11_init 99 = .ok (.aload_n 0, 1) := by decide +kernel
theorem dX11_init_100 : decode cX11_init 100 = .ok (.bipush 36, 2) := by decide +kernel
theorem dX11_init_102 : decode cX11_init 102 = .ok (.newarray .int, 2) := by decide +kernel
theorem dX11_init_104 : decode cX11_init 104 = .ok (.putfield 35, 3) := by decide +kernel
theorem dX11_init_107 : decode cX11_init 107 = .ok (.aload_n 0, 1) := by decide +kernel
theorem dX11_init_108 : decode cX11_init 108 = .ok (.bipush 6, 2) := by decide +kernel
theorem dX11_init_110 : decode cX11_init 110 = .ok (.newarray .int, 2) := by decide +kernel
theorem dX11_init_112 : decode cX11_init 112 = .ok (.putfield 38, 3) := by decide +kernel
theorem dX11_init_115 : decode cX11_init 115 = .ok (.aload_n 0, 1) := by decide +kernel
theorem dX11_init_116 : decode cX11_init 116 = .ok (.bipush 96, 2) := by decide +kernel
theorem dX11_init_118 : decode cX11_init 118 = .ok (.newarray .int, 2) := by decide +kernel
theorem dX11_init_120 : decode cX11_init 120 = .ok (.putfield 41, 3) := by decide +kernel
theorem dX11_init_123 : decode cX11_init 123 = .ok (.aload_n 0, 1) := by decide +kernel
theorem dX11_init_124 : decode cX11_init 124 = .ok (.bipush 48, 2) := by decide +kernel
theorem dX11_init_126 : decode cX11_init 126 = .ok (.newarray .int, 2) := by decide +kernel
theorem dX11_init_128 : decode cX11_init 128 = .ok (.putfield 44, 3) := by decide +kernel
theorem dX11_init_131 : decode cX11_init 131 = .ok (.aload_n 0, 1) := by decide +kernel
theorem dX11_init_132 : decode cX11_init 132 = .ok (.bipush 6, 2) := by decide +kernel
theorem dX11_init_134 : decode cX11_init 134 = .ok (.newarray .int, 2) := by decide +kernel
theorem dX11_init_136 : decode cX11_init 136 = .ok (.putfield 47, 3) := by decide +kernel
theorem dX11_init_139 : decode cX11_init 139 = .ok (.aload_n 0, 1) := by decide +kernel
theorem dX11_init_140 : decode cX11_init 140 = .ok (.bipush 6, 2) := by decide +kernel
theorem dX11_init_142 : decode cX11_init 142 = .ok (.newarray .int, 2) := by decide +kernel
theorem dX11_init_144 : decode cX11_init 144 = .ok (.putfield 50, 3) := by decide +kernel
theorem dX11_init_147 : decode cX11_init 147 = .ok (.iconst 0, 1) := by decide +kernel
theorem dX11_init_148 : decode cX11_init 148 = .ok (.istore_n 1, 1) := by decide +kernel
theorem dX11_init_149 : decode cX11_init 149 = .ok (.iload_n 1, 1) := by decide +kernel
theorem dX11_init_150 : decode cX11_init 150 = .ok (.bipush 36, 2) := by decide +kernel
theorem dX11_init_152 : decode cX11_init 152 = .ok (.if_icmp .ge 32, 3) := by decide +kernel
theorem dX11_init_155 : decode cX11_init 155 = .ok (.aload_n 0, 1) := by decide +kernel
theorem dX11_init_156 : decode cX11_init 156 = .ok (.getfield 32, 3) := by decide +kernel
theorem dX11_init_159 : decode cX11_init 159 = .ok (.iload_n 1, 1) := by decide +kernel
theorem dX11_init_160 : decode cX11_init 160 = .ok (.iload_n 1, 1) := by decide +kernel
theorem dX11_init_161 : decode cX11_init 161 = .ok (.bipush 6, 2) := by decide +kernel
theorem dX11_init_163 : decode cX11_init 163 = .ok (.idiv, 1) := by decide +kernel
theorem dX11_init_164 : decode cX11_init 164 = .ok (.iload_n 1, 1) := by decide +kernel
theorem dX11_init_165 : decode cX11_init 165 = .ok (.bipush 6, 2) := by decide +kernel
theorem dX11_init_167 : decode cX11_init 167 = .ok (.irem, 1) := by decide +kernel
theorem dX11_init_168 : decode cX11_init 168 = .ok (.if_icmp .ne 7, 3) := by decide +kernel
theorem dX11_init_171 : decode cX11_init 171 = .ok (.iconst 0, 1) := by decide +kernel
theorem dX11_init_172 : decode cX11_init 172 = .ok (.goto 5, 3) := by decide +kernel
theorem dX11_init_175 : decode cX11_init 175 = .ok (.bipush 10, 2) := by decide +kernel
theorem dX11_init_177 : decode cX11_init 177 = .ok (.iastore, 1) := by decide +kernel
theorem dX11_init_178 : decode cX11_init 178 = .ok (.iinc 1 1, 3) := by decide +kernel
theorem dX11_init_181 : decode cX11_init 181 = .ok (.goto (-32), 3) := by decide +kernel
theorem dX11_init_184 : decode cX11_init 184 = .ok (.return_, 1) := by decide +kernel
theorem lo_X11 : Cond.methodLink RX11 1 objectInit ∈ TT := tt_of 1108 (by decide +kernel) rfl
def wX11_init_q3_1 : Nat → Int32 := upd (fun _ => 0) 0 1
def wX11_init_q3_2 : Nat → Int32 := upd wX11_init_q3_1 1 1
def wX11_init_q3_3 : Nat → Int32 := upd wX11_init_q3_2 2 1
def wX11_init_q3_4 : Nat → Int32 := upd wX11_init_q3_3 3 1
def wX11_init_q3_5 : Nat → Int32 := upd wX11_init_q3_4 4 1
def wX11_init_q3_6 : Nat → Int32 := upd wX11_init_q3_5 5 1
def wX11_init_q3_7 : Nat → Int32 := upd wX11_init_q3_6 6 1
def wX11_init_q3_8 : Nat → Int32 := upd wX11_init_q3_7 7 1
def wX11_init_q5_1 : Nat → Int32 := upd (fun _ => 0) 0 0
def wX11_init_q5_2 : Nat → Int32 := upd wX11_init_q5_1 1 10
def wX11_init_q5_3 : Nat → Int32 := upd wX11_init_q5_2 2 10
def wX11_init_q5_4 : Nat → Int32 := upd wX11_init_q5_3 3 10
def wX11_init_q5_5 : Nat → Int32 := upd wX11_init_q5_4 4 10
def wX11_init_q5_6 : Nat → Int32 := upd wX11_init_q5_5 5 10
def wX11_init_q5_7 : Nat → Int32 := upd wX11_init_q5_6 6 10
def wX11_init_q5_8 : Nat → Int32 := upd wX11_init_q5_7 7 0
def wX11_init_q5_9 : Nat → Int32 := upd wX11_init_q5_8 8 10
def wX11_init_q5_10 : Nat → Int32 := upd wX11_init_q5_9 9 10
def wX11_init_q5_11 : Nat → Int32 := upd wX11_init_q5_10 10 10
def wX11_init_q5_12 : Nat → Int32 := upd wX11_init_q5_11 11 10
def wX11_init_q5_13 : Nat → Int32 := upd wX11_init_q5_12 12 10
def wX11_init_q5_14 : Nat → Int32 := upd wX11_init_q5_13 13 10
def wX11_init_q5_15 : Nat → Int32 := upd wX11_init_q5_14 14 0
def wX11_init_q5_16 : Nat → Int32 := upd wX11_init_q5_15 15 10
def wX11_init_q5_17 : Nat → Int32 := upd wX11_init_q5_16 16 10
def wX11_init_q5_18 : Nat → Int32 := upd wX11_init_q5_17 17 10
def wX11_init_q5_19 : Nat → Int32 := upd wX11_init_q5_18 18 10
def wX11_init_q5_20 : Nat → Int32 := upd wX11_init_q5_19 19 10
def wX11_init_q5_21 : Nat → Int32 := upd wX11_init_q5_20 20 10
def wX11_init_q5_22 : Nat → Int32 := upd wX11_init_q5_21 21 0
def wX11_init_q5_23 : Nat → Int32 := upd wX11_init_q5_22 22 10
def wX11_init_q5_24 : Nat → Int32 := upd wX11_init_q5_23 23 10
def wX11_init_q5_25 : Nat → Int32 := upd wX11_init_q5_24 24 10
def wX11_init_q5_26 : Nat → Int32 := upd wX11_init_q5_25 25 10
def wX11_init_q5_27 : Nat → Int32 := upd wX11_init_q5_26 26 10
def wX11_init_q5_28 : Nat → Int32 := upd wX11_init_q5_27 27 10
def wX11_init_q5_29 : Nat → Int32 := upd wX11_init_q5_28 28 0
def wX11_init_q5_30 : Nat → Int32 := upd wX11_init_q5_29 29 10
def wX11_init_q5_31 : Nat → Int32 := upd wX11_init_q5_30 30 10
def wX11_init_q5_32 : Nat → Int32 := upd wX11_init_q5_31 31 10
def wX11_init_q5_33 : Nat → Int32 := upd wX11_init_q5_32 32 10
def wX11_init_q5_34 : Nat → Int32 := upd wX11_init_q5_33 33 10
def wX11_init_q5_35 : Nat → Int32 := upd wX11_init_q5_34 34 10
def wX11_init_q5_36 : Nat → Int32 := upd wX11_init_q5_35 35 0
/-- the state of a new reference -/
def S0m : St := (fun p => if p = 3 then wX11_init_q3_8 else if p = 5 then wX11_init_q5_36 else if p = 0 then (fun j => if j = 7 then 40 else if j = 8 then 999 else if j = 9 then 480 else 0) else fun _ => 0, fun _ _ => 0, fun _ => none)
set_option maxHeartbeats 40000000 in
set_option maxRecDepth 100000 in
theorem c_X11_init (l : Launch) (D : va_G) (cI cC cS : ClassId) (h0 : Nat) : Kn l D cI cC cS yX11_init cX11_init 2 1 12 11 530 [.ref h0] [(h0, .inr (11, [.null, .int 0, .null, .int 0, .null, .null, .int 0, .int 0, .int 0, .int 0, .null, .int 0, .null, .null, .null, .null, .int 0, .int 0, .int 0, .int 0, .null, .int 0, .int 0, .long 0, .long 0, .int 0, .int 0, .int 0, .int 0, .int 0, .null]))] (fun ws9 => ∃ ad : Nat → Nat, ad 0 = h0 ∧ ws9 = mw cI ad S0m) := by
  refine n_ent (by decide +kernel) rfl (Nat.le_of_ble_eq_true rfl) ?_
  intro p e s m args below meth c A Q C hK I hA hin hq ls hl
  have C : CallFix p m c cX11_init 2 s args TT RX11 := C
  have hx := C.1
  have hb := C.2.1
  have hl : lv_has ls 2 [(0, .ref h0)] := hl
  refine lv_aload_n hx hb dX11_init_0 rfl (lv_at hl 0 rfl) ?_
  refine n_obj C lo_X11 objI objC hl.1 dX11_init_1 (Nat.le_of_ble_eq_true rfl) (Nat.le_of_ble_eq_true rfl) ?_
  refine lv_aload_n hx hb dX11_init_4 rfl (lv_at hl 0 rfl) ?_
  refine lv_sipush (v := 200) hx hb dX11_init_5 (by decide) ?_
  refine n_int C hK I hA arrI (N := 200) (by decide) (by decide) (by decide) (Nat.le_of_ble_eq_true rfl) (Nat.le_of_ble_eq_true rfl) dX11_init_8 (fun q1 H I => ?_)
  have I : Iw D [(h0, .inr (11, [.null, .int 0, .null, .int 0, .null, .null, .int 0, .int 0, .int 0, .int 0, .null, .int 0, .null, .null, .null, .null, .int 0, .int 0, .int 0, .int 0, .null, .int 0, .int 0, .long 0, .long 0, .int 0, .int 0, .int 0, .int 0, .int 0, .null])), (q1, .inl (cI, 200, .inl (fun _ => 0)))] A s H _ := I
  refine n_putF C hK I inT11 tyX11 tyX11_ok nmX11 0 11 0 rfl rfl (by decide) rfl rfl hin fl_X11_7 rfl rfl rfl (Nat.le_of_ble_eq_true rfl) (ws1 := [(h0, .inr (11, [.ref q1, .int 0, .null, .int 0, .null, .null, .int 0, .int 0, .int 0, .int 0, .null, .int 0, .null, .null, .null, .null, .int 0, .int 0, .int 0, .int 0, .null, .int 0, .int 0, .long 0, .long 0, .int 0, .int 0, .int 0, .int 0, .int 0, .null])), (q1, .inl (cI, 200, .inl (fun _ => 0)))]) rfl dX11_init_10 (fun H locs I => ?_)
  refine lv_aload_n hx hb dX11_init_13 rfl (lv_at hl 0 rfl) ?_
  refine lv_bipush (v := 80) hx hb dX11_init_14 (by decide) ?_
  refine n_int C hK I hA arrI (N := 80) (by decide) (by decide) (by decide) (Nat.le_of_ble_eq_true rfl) (Nat.le_of_ble_eq_true rfl) dX11_init_16 (fun q2 H I => ?_)
  have I : Iw D [(h0, .inr (11, [.ref q1, .int 0, .null, .int 0, .null, .null, .int 0, .int 0, .int 0, .int 0, .null, .int 0, .null, .null, .null, .null, .int 0, .int 0, .int 0, .int 0, .null, .int 0, .int 0, .long 0, .long 0, .int 0, .int 0, .int 0, .int 0, .int 0, .null])), (q1, .inl (cI, 200, .inl (fun _ => 0))), (q2, .inl (cI, 80, .inl (fun _ => 0)))] A s H _ := I
  refine n_putF C hK I inT11 tyX11 tyX11_ok nmX11 0 11 2 rfl rfl (by decide) rfl rfl hin fl_X11_13 rfl rfl rfl (Nat.le_of_ble_eq_true rfl) (ws1 := [(h0, .inr (11, [.ref q1, .int 0, .ref q2, .int 0, .null, .null, .int 0, .int 0, .int 0, .int 0, .null, .int 0, .null, .null, .null, .null, .int 0, .int 0, .int 0, .int 0, .null, .int 0, .int 0, .long 0, .long 0, .int 0, .int 0, .int 0, .int 0, .int 0, .null])), (q1, .inl (cI, 200, .inl (fun _ => 0))), (q2, .inl (cI, 80, .inl (fun _ => 0)))]) rfl dX11_init_18 (fun H locs I => ?_)
  refine lv_aload_n hx hb dX11_init_21 rfl (lv_at hl 0 rfl) ?_
  refine lv_bipush (v := 8) hx hb dX11_init_22 (by decide) ?_
  refine n_int C hK I hA arrI (N := 8) (by decide) (by decide) (by decide) (Nat.le_of_ble_eq_true rfl) (Nat.le_of_ble_eq_true rfl) dX11_init_24 (fun q3 H I => ?_)
  have I : Iw D [(h0, .inr (11, [.ref q1, .int 0, .ref q2, .int 0, .null, .null, .int 0, .int 0, .int 0, .int 0, .null, .int 0, .null, .null, .null, .null, .int 0, .int 0, .int 0, .int 0, .null, .int 0, .int 0, .long 0, .long 0, .int 0, .int 0, .int 0, .int 0, .int 0, .null])), (q1, .inl (cI, 200, .inl (fun _ => 0))), (q2, .inl (cI, 80, .inl (fun _ => 0))), (q3, .inl (cI, 8, .inl (fun _ => 0)))] A s H _ := I
  refine lv_dup hx hb dX11_init_26 rfl ?_
  refine lv_iconst (v := 0) hx hb dX11_init_27 (by decide) ?_
  refine lv_iconst (v := 1) hx hb dX11_init_28 (by decide) ?_
  refine n_ast C hK I 3 rfl (by decide) (ws1 := [(h0, .inr (11, [.ref q1, .int 0, .ref q2, .int 0, .null, .null, .int 0, .int 0, .int 0, .int 0, .null, .int 0, .null, .null, .null, .null, .int 0, .int 0, .int 0, .int 0, .null, .int 0, .int 0, .long 0, .long 0, .int 0, .int 0, .int 0, .int 0, .int 0, .null])), (q1, .inl (cI, 200, .inl (fun _ => 0))), (q2, .inl (cI, 80, .inl (fun _ => 0))), (q3, .inl (cI, 8, .inl wX11_init_q3_1))]) rfl dX11_init_29 (fun H locs I => ?_)
  refine lv_dup hx hb dX11_init_30 rfl ?_
  refine lv_iconst (v := 1) hx hb dX11_init_31 (by decide) ?_
  refine lv_iconst (v := 1) hx hb dX11_init_32 (by decide) ?_
  refine n_ast C hK I 3 rfl (by decide) (ws1 := [(h0, .inr (11, [.ref q1, .int 0, .ref q2, .int 0, .null, .null, .int 0, .int 0, .int 0, .int 0, .null, .int 0, .null, .null, .null, .null, .int 0, .int 0, .int 0, .int 0, .null, .int 0, .int 0, .long 0, .long 0, .int 0, .int 0, .int 0, .int 0, .int 0, .null])), (q1, .inl (cI, 200, .inl (fun _ => 0))), (q2, .inl (cI, 80, .inl (fun _ => 0))), (q3, .inl (cI, 8, .inl wX11_init_q3_2))]) rfl dX11_init_33 (fun H locs I => ?_)
  refine lv_dup hx hb dX11_init_34 rfl ?_
  refine lv_iconst (v := 2) hx hb dX11_init_35 (by decide) ?_
  refine lv_iconst (v := 1) hx hb dX11_init_36 (by decide) ?_
  refine n_ast C hK I 3 rfl (by decide) (ws1 := [(h0, .inr (11, [.ref q1, .int 0, .ref q2, .int 0, .null, .null, .int 0, .int 0, .int 0, .int 0, .null, .int 0, .null, .null, .null, .null, .int 0, .int 0, .int 0, .int 0, .null, .int 0, .int 0, .long 0, .long 0, .int 0, .int 0, .int 0, .int 0, .int 0, .null])), (q1, .inl (cI, 200, .inl (fun _ => 0))), (q2, .inl (cI, 80, .inl (fun _ => 0))), (q3, .inl (cI, 8, .inl wX11_init_q3_3))]) rfl dX11_init_37 (fun H locs I => ?_)
  refine lv_dup hx hb dX11_init_38 rfl ?_
  refine lv_iconst (v := 3) hx hb dX11_init_39 (by decide) ?_
  refine lv_iconst (v := 1) hx hb dX11_init_40 (by decide) ?_
  refine n_ast C hK I 3 rfl (by decide) (ws1 := [(h0, .inr (11, [.ref q1, .int 0, .ref q2, .int 0, .null, .null, .int 0, .int 0, .int 0, .int 0, .null, .int 0, .null, .null, .null, .null, .int 0, .int 0, .int 0, .int 0, .null, .int 0, .int 0, .long 0, .long 0, .int 0, .int 0, .int 0, .int 0, .int 0, .null])), (q1, .inl (cI, 200, .inl (fun _ => 0))), (q2, .inl (cI, 80, .inl (fun _ => 0))), (q3, .inl (cI, 8, .inl wX11_init_q3_4))]) rfl dX11_init_41 (fun H locs I => ?_)
  refine lv_dup hx hb dX11_init_42 rfl ?_
  refine lv_iconst (v := 4) hx hb dX11_init_43 (by decide) ?_
  refine lv_iconst (v := 1) hx hb dX11_init_44 (by decide) ?_
  refine n_ast C hK I 3 rfl (by decide) (ws1 := [(h0, .inr (11, [.ref q1, .int 0, .ref q2, .int 0, .null, .null, .int 0, .int 0, .int 0, .int 0, .null, .int 0, .null, .null, .null, .null, .int 0, .int 0, .int 0, .int 0, .null, .int 0, .int 0, .long 0, .long 0, .int 0, .int 0, .int 0, .int 0, .int 0, .null])), (q1, .inl (cI, 200, .inl (fun _ => 0))), (q2, .inl (cI, 80, .inl (fun _ => 0))), (q3, .inl (cI, 8, .inl wX11_init_q3_5))]) rfl dX11_init_45 (fun H locs I => ?_)
  refine lv_dup hx hb dX11_init_46 rfl ?_
  refine lv_iconst (v := 5) hx hb dX11_init_47 (by decide) ?_
  refine lv_iconst (v := 1) hx hb dX11_init_48 (by decide) ?_
  refine n_ast C hK I 3 rfl (by decide) (ws1 := [(h0, .inr (11, [.ref q1, .int 0, .ref q2, .int 0, .null, .null, .int 0, .int 0, .int 0, .int 0, .null, .int 0, .null, .null, .null, .null, .int 0, .int 0, .int 0, .int 0, .null, .int 0, .int 0, .long 0, .long 0, .int 0, .int 0, .int 0, .int 0, .int 0, .null])), (q1, .inl (cI, 200, .inl (fun _ => 0))), (q2, .inl (cI, 80, .inl (fun _ => 0))), (q3, .inl (cI, 8, .inl wX11_init_q3_6))]) rfl dX11_init_49 (fun H locs I => ?_)
  refine lv_dup hx hb dX11_init_50 rfl ?_
  refine lv_bipush (v := 6) hx hb dX11_init_51 (by decide) ?_
  refine lv_iconst (v := 1) hx hb dX11_init_53 (by decide) ?_
  refine n_ast C hK I 3 rfl (by decide) (ws1 := [(h0, .inr (11, [.ref q1, .int 0, .ref q2, .int 0, .null, .null, .int 0, .int 0, .int 0, .int 0, .null, .int 0, .null, .null, .null, .null, .int 0, .int 0, .int 0, .int 0, .null, .int 0, .int 0, .long 0, .long 0, .int 0, .int 0, .int 0, .int 0, .int 0, .null])), (q1, .inl (cI, 200, .inl (fun _ => 0))), (q2, .inl (cI, 80, .inl (fun _ => 0))), (q3, .inl (cI, 8, .inl wX11_init_q3_7))]) rfl dX11_init_54 (fun H locs I => ?_)
  refine lv_dup hx hb dX11_init_55 rfl ?_
  refine lv_bipush (v := 7) hx hb dX11_init_56 (by decide) ?_
  refine lv_iconst (v := 1) hx hb dX11_init_58 (by decide) ?_
  refine n_ast C hK I 3 rfl (by decide) (ws1 := [(h0, .inr (11, [.ref q1, .int 0, .ref q2, .int 0, .null, .null, .int 0, .int 0, .int 0, .int 0, .null, .int 0, .null, .null, .null, .null, .int 0, .int 0, .int 0, .int 0, .null, .int 0, .int 0, .long 0, .long 0, .int 0, .int 0, .int 0, .int 0, .int 0, .null])), (q1, .inl (cI, 200, .inl (fun _ => 0))), (q2, .inl (cI, 80, .inl (fun _ => 0))), (q3, .inl (cI, 8, .inl wX11_init_q3_8))]) rfl dX11_init_59 (fun H locs I => ?_)
  refine n_putF C hK I inT11 tyX11 tyX11_ok nmX11 0 11 4 rfl rfl (by decide) rfl rfl hin fl_X11_16 rfl rfl rfl (Nat.le_of_ble_eq_true rfl) (ws1 := [(h0, .inr (11, [.ref q1, .int 0, .ref q2, .int 0, .ref q3, .null, .int 0, .int 0, .int 0, .int 0, .null, .int 0, .null, .null, .null, .null, .int 0, .int 0, .int 0, .int 0, .null, .int 0, .int 0, .long 0, .long 0, .int 0, .int 0, .int 0, .int 0, .int 0, .null])), (q1, .inl (cI, 200, .inl (fun _ => 0))), (q2, .inl (cI, 80, .inl (fun _ => 0))), (q3, .inl (cI, 8, .inl wX11_init_q3_8))]) rfl dX11_init_60 (fun H locs I => ?_)
  refine lv_aload_n hx hb dX11_init_63 rfl (lv_at hl 0 rfl) ?_
  refine lv_bipush (v := 8) hx hb dX11_init_64 (by decide) ?_
  refine n_int C hK I hA arrI (N := 8) (by decide) (by decide) (by decide) (Nat.le_of_ble_eq_true rfl) (Nat.le_of_ble_eq_true rfl) dX11_init_66 (fun q4 H I => ?_)
  have I : Iw D [(h0, .inr (11, [.ref q1, .int 0, .ref q2, .int 0, .ref q3, .null, .int 0, .int 0, .int 0, .int 0, .null, .int 0, .null, .null, .null, .null, .int 0, .int 0, .int 0, .int 0, .null, .int 0, .int 0, .long 0, .long 0, .int 0, .int 0, .int 0, .int 0, .int 0, .null])), (q1, .inl (cI, 200, .inl (fun _ => 0))), (q2, .inl (cI, 80, .inl (fun _ => 0))), (q3, .inl (cI, 8, .inl wX11_init_q3_8)), (q4, .inl (cI, 8, .inl (fun _ => 0)))] A s H _ := I
  refine n_putF C hK I inT11 tyX11 tyX11_ok nmX11 0 11 5 rfl rfl (by decide) rfl rfl hin fl_X11_19 rfl rfl rfl (Nat.le_of_ble_eq_true rfl) (ws1 := [(h0, .inr (11, [.ref q1, .int 0, .ref q2, .int 0, .ref q3, .ref q4, .int 0, .int 0, .int 0, .int 0, .null, .int 0, .null, .null, .null, .null, .int 0, .int 0, .int 0, .int 0, .null, .int 0, .int 0, .long 0, .long 0, .int 0, .int 0, .int 0, .int 0, .int 0, .null])), (q1, .inl (cI, 200, .inl (fun _ => 0))), (q2, .inl (cI, 80, .inl (fun _ => 0))), (q3, .inl (cI, 8, .inl wX11_init_q3_8)), (q4, .inl (cI, 8, .inl (fun _ => 0)))]) rfl dX11_init_68 (fun H locs I => ?_)
  refine lv_aload_n hx hb dX11_init_71 rfl (lv_at hl 0 rfl) ?_
  refine lv_bipush (v := 40) hx hb dX11_init_72 (by decide) ?_
  refine n_put C hK I inT11 tyX11 tyX11_ok nmX11 0 11 7 rfl rfl (by decide) rfl fl_X11_22 rfl rfl rfl (Nat.le_of_ble_eq_true rfl) (ws1 := [(h0, .inr (11, [.ref q1, .int 0, .ref q2, .int 0, .ref q3, .ref q4, .int 0, .int 40, .int 0, .int 0, .null, .int 0, .null, .null, .null, .null, .int 0, .int 0, .int 0, .int 0, .null, .int 0, .int 0, .long 0, .long 0, .int 0, .int 0, .int 0, .int 0, .int 0, .null])), (q1, .inl (cI, 200, .inl (fun _ => 0))), (q2, .inl (cI, 80, .inl (fun _ => 0))), (q3, .inl (cI, 8, .inl wX11_init_q3_8)), (q4, .inl (cI, 8, .inl (fun _ => 0)))]) rfl dX11_init_74 (fun H locs I => ?_)
  refine lv_aload_n hx hb dX11_init_77 rfl (lv_at hl 0 rfl) ?_
  refine lv_sipush (v := 999) hx hb dX11_init_78 (by decide) ?_
  refine n_put C hK I inT11 tyX11 tyX11_ok nmX11 0 11 8 rfl rfl (by decide) rfl fl_X11_26 rfl rfl rfl (Nat.le_of_ble_eq_true rfl) (ws1 := [(h0, .inr (11, [.ref q1, .int 0, .ref q2, .int 0, .ref q3, .ref q4, .int 0, .int 40, .int 999, .int 0, .null, .int 0, .null, .null, .null, .null, .int 0, .int 0, .int 0, .int 0, .null, .int 0, .int 0, .long 0, .long 0, .int 0, .int 0, .int 0, .int 0, .int 0, .null])), (q1, .inl (cI, 200, .inl (fun _ => 0))), (q2, .inl (cI, 80, .inl (fun _ => 0))), (q3, .inl (cI, 8, .inl wX11_init_q3_8)), (q4, .inl (cI, 8, .inl (fun _ => 0)))]) rfl dX11_init_81 (fun H locs I => ?_)
  refine lv_aload_n hx hb dX11_init_84 rfl (lv_at hl 0 rfl) ?_
  refine lv_sipush (v := 480) hx hb dX11_init_85 (by decide) ?_
  refine n_put C hK I inT11 tyX11 tyX11_ok nmX11 0 11 9 rfl rfl (by decide) rfl fl_X11_29 rfl rfl rfl (Nat.le_of_ble_eq_true rfl) (ws1 := [(h0, .inr (11, [.ref q1, .int 0, .ref q2, .int 0, .ref q3, .ref q4, .int 0, .int 40, .int 999, .int 480, .null, .int 0, .null, .null, .null, .null, .int 0, .int 0, .int 0, .int 0, .null, .int 0, .int 0, .long 0, .long 0, .int 0, .int 0, .int 0, .int 0, .int 0, .null])), (q1, .inl (cI, 200, .inl (fun _ => 0))), (q2, .inl (cI, 80, .inl (fun _ => 0))), (q3, .inl (cI, 8, .inl wX11_init_q3_8)), (q4, .inl (cI, 8, .inl (fun _ => 0)))]) rfl dX11_init_88 (fun H locs I => ?_)
  refine lv_aload_n hx hb dX11_init_91 rfl (lv_at hl 0 rfl) ?_
  refine lv_bipush (v := 36) hx hb dX11_init_92 (by decide) ?_
  refine n_int C hK I hA arrI (N := 36) (by decide) (by decide) (by decide) (Nat.le_of_ble_eq_true rfl) (Nat.le_of_ble_eq_true rfl) dX11_init_94 (fun q5 H I => ?_)
  have I : Iw D [(h0, .inr (11, [.ref q1, .int 0, .ref q2, .int 0, .ref q3, .ref q4, .int 0, .int 40, .int 999, .int 480, .null, .int 0, .null, .null, .null, .null, .int 0, .int 0, .int 0, .int 0, .null, .int 0, .int 0, .long 0, .long 0, .int 0, .int 0, .int 0, .int 0, .int 0, .null])), (q1, .inl (cI, 200, .inl (fun _ => 0))), (q2, .inl (cI, 80, .inl (fun _ => 0))), (q3, .inl (cI, 8, .inl wX11_init_q3_8)), (q4, .inl (cI, 8, .inl (fun _ => 0))), (q5, .inl (cI, 36, .inl (fun _ => 0)))] A s H _ := I
  refine n_putF C hK I inT11 tyX11 tyX11_ok nmX11 0 11 10 rfl rfl (by decide) rfl rfl hin fl_X11_32 rfl rfl rfl (Nat.le_of_ble_eq_true rfl) (ws1 := [(h0, .inr (11, [.ref q1, .int 0, .ref q2, .int 0, .ref q3, .ref q4, .int 0, .int 40, .int 999, .int 480, .ref q5, .int 0, .null, .null, .null, .null, .int 0, .int 0, .int 0, .int 0, .null, .int 0, .int 0, .long 0, .long 0, .int 0, .int 0, .int 0, .int 0, .int 0, .null])), (q1, .inl (cI, 200, .inl (fun _ => 0))), (q2, .inl (cI, 80, .inl (fun _ => 0))), (q3, .inl (cI, 8, .inl wX11_init_q3_8)), (q4, .inl (cI, 8, .inl (fun _ => 0))), (q5, .inl (cI, 36, .inl (fun _ => 0)))]) rfl dX11_init_96 (fun H locs I => ?_)
  refine lv_aload_n hx hb dX11_init_99 rfl (lv_at hl 0 rfl) ?_
  refine lv_bipush (v := 36) hx hb dX11_init_100 (by decide) ?_
  refine n_int C hK I hA arrI (N := 36) (by decide) (by decide) (by decide) (Nat.le_of_ble_eq_true rfl) (Nat.le_of_ble_eq_true rfl) dX11_init_102 (fun q6 H I => ?_)
  have I : Iw D [(h0, .inr (11, [.ref q1, .int 0, .ref q2, .int 0, .ref q3, .ref q4, .int 0, .int 40, .int 999, .int 480, .ref q5, .int 0, .null, .null, .null, .null, .int 0, .int 0, .int 0, .int 0, .null, .int 0, .int 0, .long 0, .long 0, .int 0, .int 0, .int 0, .int 0, .int 0, .null])), (q1, .inl (cI, 200, .inl (fun _ => 0))), (q2, .inl (cI, 80, .inl (fun _ => 0))), (q3, .inl (cI, 8, .inl wX11_init_q3_8)), (q4, .inl (cI, 8, .inl (fun _ => 0))), (q5, .inl (cI, 36, .inl (fun _ => 0))), (q6, .inl (cI, 36, .inl (fun _ => 0)))] A s H _ := I
  refine n_putF C hK I inT11 tyX11 tyX11_ok nmX11 0 11 12 rfl rfl (by decide) rfl rfl hin fl_X11_35 rfl rfl rfl (Nat.le_of_ble_eq_true rfl) (ws1 := [(h0, .inr (11, [.ref q1, .int 0, .ref q2, .int 0, .ref q3, .ref q4, .int 0, .int 40, .int 999, .int 480, .ref q5, .int 0, .ref q6, .null, .null, .null, .int 0, .int 0, .int 0, .int 0, .null, .int 0, .int 0, .long 0, .long 0, .int 0, .int 0, .int 0, .int 0, .int 0, .null])), (q1, .inl (cI, 200, .inl (fun _ => 0))), (q2, .inl (cI, 80, .inl (fun _ => 0))), (q3, .inl (cI, 8, .inl wX11_init_q3_8)), (q4, .inl (cI, 8, .inl (fun _ => 0))), (q5, .inl (cI, 36, .inl (fun _ => 0))), (q6, .inl (cI, 36, .inl (fun _ => 0)))]) rfl dX11_init_104 (fun H locs I => ?_)
  refine lv_aload_n hx hb dX11_init_107 rfl (lv_at hl 0 rfl) ?_
  refine lv_bipush (v := 6) hx hb dX11_init_108 (by decide) ?_
  refine n_int C hK I hA arrI (N := 6) (by decide) (by decide) (by decide) (Nat.le_of_ble_eq_true rfl) (Nat.le_of_ble_eq_true rfl) dX11_init_110 (fun q7 H I => ?_)
  have I : Iw D [(h0, .inr (11, [.ref q1, .int 0, .ref q2, .int 0, .ref q3, .ref q4, .int 0, .int 40, .int 999, .int 480, .ref q5, .int 0, .ref q6, .null, .null, .null, .int 0, .int 0, .int 0, .int 0, .null, .int 0, .int 0, .long 0, .long 0, .int 0, .int 0, .int 0, .int 0, .int 0, .null])), (q1, .inl (cI, 200, .inl (fun _ => 0))), (q2, .inl (cI, 80, .inl (fun _ => 0))), (q3, .inl (cI, 8, .inl wX11_init_q3_8)), (q4, .inl (cI, 8, .inl (fun _ => 0))), (q5, .inl (cI, 36, .inl (fun _ => 0))), (q6, .inl (cI, 36, .inl (fun _ => 0))), (q7, .inl (cI, 6, .inl (fun _ => 0)))] A s H _ := I
  refine n_putF C hK I inT11 tyX11 tyX11_ok nmX11 0 11 13 rfl rfl (by decide) rfl rfl hin fl_X11_38 rfl rfl rfl (Nat.le_of_ble_eq_true rfl) (ws1 := [(h0, .inr (11, [.ref q1, .int 0, .ref q2, .int 0, .ref q3, .ref q4, .int 0, .int 40, .int 999, .int 480, .ref q5, .int 0, .ref q6, .ref q7, .null, .null, .int 0, .int 0, .int 0, .int 0, .null, .int 0, .int 0, .long 0, .long 0, .int 0, .int 0, .int 0, .int 0, .int 0, .null])), (q1, .inl (cI, 200, .inl (fun _ => 0))), (q2, .inl (cI, 80, .inl (fun _ => 0))), (q3, .inl (cI, 8, .inl wX11_init_q3_8)), (q4, .inl (cI, 8, .inl (fun _ => 0))), (q5, .inl (cI, 36, .inl (fun _ => 0))), (q6, .inl (cI, 36, .inl (fun _ => 0))), (q7, .inl (cI, 6, .inl (fun _ => 0)))]) rfl dX11_init_112 (fun H locs I => ?_)
  refine lv_aload_n hx hb dX11_init_115 rfl (lv_at hl 0 rfl) ?_
  refine lv_bipush (v := 96) hx hb dX11_init_116 (by decide) ?_
  refine n_int C hK I hA arrI (N := 96) (by decide) (by decide) (by decide) (Nat.le_of_ble_eq_true rfl) (Nat.le_of_ble_eq_true rfl) dX11_init_118 (fun q8 H I => ?_)
  have I : Iw D [(h0, .inr (11, [.ref q1, .int 0, .ref q2, .int 0, .ref q3, .ref q4, .int 0, .int 40, .int 999, .int 480, .ref q5, .int 0, .ref q6, .ref q7, .null, .null, .int 0, .int 0, .int 0, .int 0, .null, .int 0, .int 0, .long 0, .long 0, .int 0, .int 0, .int 0, .int 0, .int 0, .null])), (q1, .inl (cI, 200, .inl (fun _ => 0))), (q2, .inl (cI, 80, .inl (fun _ => 0))), (q3, .inl (cI, 8, .inl wX11_init_q3_8)), (q4, .inl (cI, 8, .inl (fun _ => 0))), (q5, .inl (cI, 36, .inl (fun _ => 0))), (q6, .inl (cI, 36, .inl (fun _ => 0))), (q7, .inl (cI, 6, .inl (fun _ => 0))), (q8, .inl (cI, 96, .inl (fun _ => 0)))] A s H _ := I
  refine n_putF C hK I inT11 tyX11 tyX11_ok nmX11 0 11 14 rfl rfl (by decide) rfl rfl hin fl_X11_41 rfl rfl rfl (Nat.le_of_ble_eq_true rfl) (ws1 := [(h0, .inr (11, [.ref q1, .int 0, .ref q2, .int 0, .ref q3, .ref q4, .int 0, .int 40, .int 999, .int 480, .ref q5, .int 0, .ref q6, .ref q7, .ref q8, .null, .int 0, .int 0, .int 0, .int 0, .null, .int 0, .int 0, .long 0, .long 0, .int 0, .int 0, .int 0, .int 0, .int 0, .null])), (q1, .inl (cI, 200, .inl (fun _ => 0))), (q2, .inl (cI, 80, .inl (fun _ => 0))), (q3, .inl (cI, 8, .inl wX11_init_q3_8)), (q4, .inl (cI, 8, .inl (fun _ => 0))), (q5, .inl (cI, 36, .inl (fun _ => 0))), (q6, .inl (cI, 36, .inl (fun _ => 0))), (q7, .inl (cI, 6, .inl (fun _ => 0))), (q8, .inl (cI, 96, .inl (fun _ => 0)))]) rfl dX11_init_120 (fun H locs I => ?_)
  refine lv_aload_n hx hb dX11_init_123 rfl (lv_at hl 0 rfl) ?_
  refine lv_bipush (v := 48) hx hb dX11_init_124 (by decide) ?_
  refine n_int C hK I hA arrI (N := 48) (by decide) (by decide) (by decide) (Nat.le_of_ble_eq_true rfl) (Nat.le_of_ble_eq_true rfl) dX11_init_126 (fun q9 H I => ?_)
  have I : Iw D [(h0, .inr (11, [.ref q1, .int 0, .ref q2, .int 0, .ref q3, .ref q4, .int 0, .int 40, .int 999, .int 480, .ref q5, .int 0, .ref q6, .ref q7, .ref q8, .null, .int 0, .int 0, .int 0, .int 0, .null, .int 0, .int 0, .long 0, .long 0, .int 0, .int 0, .int 0, .int 0, .int 0, .null])), (q1, .inl (cI, 200, .inl (fun _ => 0))), (q2, .inl (cI, 80, .inl (fun _ => 0))), (q3, .inl (cI, 8, .inl wX11_init_q3_8)), (q4, .inl (cI, 8, .inl (fun _ => 0))), (q5, .inl (cI, 36, .inl (fun _ => 0))), (q6, .inl (cI, 36, .inl (fun _ => 0))), (q7, .inl (cI, 6, .inl (fun _ => 0))), (q8, .inl (cI, 96, .inl (fun _ => 0))), (q9, .inl (cI, 48, .inl (fun _ => 0)))] A s H _ := I
  refine n_putF C hK I inT11 tyX11 tyX11_ok nmX11 0 11 15 rfl rfl (by decide) rfl rfl hin fl_X11_44 rfl rfl rfl (Nat.le_of_ble_eq_true rfl) (ws1 := [(h0, .inr (11, [.ref q1, .int 0, .ref q2, .int 0, .ref q3, .ref q4, .int 0, .int 40, .int 999, .int 480, .ref q5, .int 0, .ref q6, .ref q7, .ref q8, .ref q9, .int 0, .int 0, .int 0, .int 0, .null, .int 0, .int 0, .long 0, .long 0, .int 0, .int 0, .int 0, .int 0, .int 0, .null])), (q1, .inl (cI, 200, .inl (fun _ => 0))), (q2, .inl (cI, 80, .inl (fun _ => 0))), (q3, .inl (cI, 8, .inl wX11_init_q3_8)), (q4, .inl (cI, 8, .inl (fun _ => 0))), (q5, .inl (cI, 36, .inl (fun _ => 0))), (q6, .inl (cI, 36, .inl (fun _ => 0))), (q7, .inl (cI, 6, .inl (fun _ => 0))), (q8, .inl (cI, 96, .inl (fun _ => 0))), (q9, .inl (cI, 48, .inl (fun _ => 0)))]) rfl dX11_init_128 (fun H locs I => ?_)
  refine lv_aload_n hx hb dX11_init_131 rfl (lv_at hl 0 rfl) ?_
  refine lv_bipush (v := 6) hx hb dX11_init_132 (by decide) ?_
  refine n_int C hK I hA arrI (N := 6) (by decide) (by decide) (by decide) (Nat.le_of_ble_eq_true rfl) (Nat.le_of_ble_eq_true rfl) dX11_init_134 (fun q10 H I => ?_)
  have I : Iw D [(h0, .inr (11, [.ref q1, .int 0, .ref q2, .int 0, .ref q3, .ref q4, .int 0, .int 40, .int 999, .int 480, .ref q5, .int 0, .ref q6, .ref q7, .ref q8, .ref q9, .int 0, .int 0, .int 0, .int 0, .null, .int 0, .int 0, .long 0, .long 0, .int 0, .int 0, .int 0, .int 0, .int 0, .null])), (q1, .inl (cI, 200, .inl (fun _ => 0))), (q2, .inl (cI, 80, .inl (fun _ => 0))), (q3, .inl (cI, 8, .inl wX11_init_q3_8)), (q4, .inl (cI, 8, .inl (fun _ => 0))), (q5, .inl (cI, 36, .inl (fun _ => 0))), (q6, .inl (cI, 36, .inl (fun _ => 0))), (q7, .inl (cI, 6, .inl (fun _ => 0))), (q8, .inl (cI, 96, .inl (fun _ => 0))), (q9, .inl (cI, 48, .inl (fun _ => 0))), (q10, .inl (cI, 6, .inl (fun _ => 0)))] A s H _ := I
  refine n_putF C hK I inT11 tyX11 tyX11_ok nmX11 0 11 20 rfl rfl (by decide) rfl rfl hin fl_X11_47 rfl rfl rfl (Nat.le_of_ble_eq_true rfl) (ws1 := [(h0, .inr (11, [.ref q1, .int 0, .ref q2, .int 0, .ref q3, .ref q4, .int 0, .int 40, .int 999, .int 480, .ref q5, .int 0, .ref q6, .ref q7, .ref q8, .ref q9, .int 0, .int 0, .int 0, .int 0, .ref q10, .int 0, .int 0, .long 0, .long 0, .int 0, .int 0, .int 0, .int 0, .int 0, .null])), (q1, .inl (cI, 200, .inl (fun _ => 0))), (q2, .inl (cI, 80, .inl (fun _ => 0))), (q3, .inl (cI, 8, .inl wX11_init_q3_8)), (q4, .inl (cI, 8, .inl (fun _ => 0))), (q5, .inl (cI, 36, .inl (fun _ => 0))), (q6, .inl (cI, 36, .inl (fun _ => 0))), (q7, .inl (cI, 6, .inl (fun _ => 0))), (q8, .inl (cI, 96, .inl (fun _ => 0))), (q9, .inl (cI, 48, .inl (fun _ => 0))), (q10, .inl (cI, 6, .inl (fun _ => 0)))]) rfl dX11_init_136 (fun H locs I => ?_)
  refine lv_aload_n hx hb dX11_init_139 rfl (lv_at hl 0 rfl) ?_
  refine lv_bipush (v := 6) hx hb dX11_init_140 (by decide) ?_
  refine n_int C hK I hA arrI (N := 6) (by decide) (by decide) (by decide) (Nat.le_of_ble_eq_true rfl) (Nat.le_of_ble_eq_true rfl) dX11_init_142 (fun q11 H I => ?_)
  have I : Iw D [(h0, .inr (11, [.ref q1, .int 0, .ref q2, .int 0, .ref q3, .ref q4, .int 0, .int 40, .int 999, .int 480, .ref q5, .int 0, .ref q6, .ref q7, .ref q8, .ref q9, .int 0, .int 0, .int 0, .int 0, .ref q10, .int 0, .int 0, .long 0, .long 0, .int 0, .int 0, .int 0, .int 0, .int 0, .null])), (q1, .inl (cI, 200, .inl (fun _ => 0))), (q2, .inl (cI, 80, .inl (fun _ => 0))), (q3, .inl (cI, 8, .inl wX11_init_q3_8)), (q4, .inl (cI, 8, .inl (fun _ => 0))), (q5, .inl (cI, 36, .inl (fun _ => 0))), (q6, .inl (cI, 36, .inl (fun _ => 0))), (q7, .inl (cI, 6, .inl (fun _ => 0))), (q8, .inl (cI, 96, .inl (fun _ => 0))), (q9, .inl (cI, 48, .inl (fun _ => 0))), (q10, .inl (cI, 6, .inl (fun _ => 0))), (q11, .inl (cI, 6, .inl (fun _ => 0)))] A s H _ := I
  refine n_putF C hK I inT11 tyX11 tyX11_ok nmX11 0 11 30 rfl rfl (by decide) rfl rfl hin fl_X11_50 rfl rfl rfl (Nat.le_of_ble_eq_true rfl) (ws1 := [(h0, .inr (11, [.ref q1, .int 0, .ref q2, .int 0, .ref q3, .ref q4, .int 0, .int 40, .int 999, .int 480, .ref q5, .int 0, .ref q6, .ref q7, .ref q8, .ref q9, .int 0, .int 0, .int 0, .int 0, .ref q10, .int 0, .int 0, .long 0, .long 0, .int 0, .int 0, .int 0, .int 0, .int 0, .ref q11])), (q1, .inl (cI, 200, .inl (fun _ => 0))), (q2, .inl (cI, 80, .inl (fun _ => 0))), (q3, .inl (cI, 8, .inl wX11_init_q3_8)), (q4, .inl (cI, 8, .inl (fun _ => 0))), (q5, .inl (cI, 36, .inl (fun _ => 0))), (q6, .inl (cI, 36, .inl (fun _ => 0))), (q7, .inl (cI, 6, .inl (fun _ => 0))), (q8, .inl (cI, 96, .inl (fun _ => 0))), (q9, .inl (cI, 48, .inl (fun _ => 0))), (q10, .inl (cI, 6, .inl (fun _ => 0))), (q11, .inl (cI, 6, .inl (fun _ => 0)))]) rfl dX11_init_144 (fun H locs I => ?_)
  refine lv_iconst (v := 0) hx hb dX11_init_147 (by decide) ?_
  refine lv_istore_n (lv' := [(1, .int 0), (0, .ref h0)]) hx hb dX11_init_148 rfl hl (by decide) rfl (fun ls hl => ?_)
  refine lv_iload_n hx hb dX11_init_149 rfl (lv_at hl 0 rfl) ?_
  refine lv_bipush (v := 36) hx hb dX11_init_150 (by decide) ?_
  refine lv_icmp_ge (tgt := 184) hx hb dX11_init_152 (by decide) (fun q => absurd q (by decide)) (fun _ => ?_)
  refine lv_aload_n hx hb dX11_init_155 rfl (lv_at hl 1 rfl) ?_
  refine n_get C hK I inT11 0 11 10 rfl rfl (by decide) rfl fl_X11_32 rfl dX11_init_156 ?_
  refine lv_iload_n hx hb dX11_init_159 rfl (lv_at hl 0 rfl) ?_
  refine lv_iload_n hx hb dX11_init_160 rfl (lv_at hl 0 rfl) ?_
  refine lv_bipush (v := 6) hx hb dX11_init_161 (by decide) ?_
  refine lv_idiv hx hb dX11_init_163 (by decide) ?_
  refine W.eq (g2 := F0 m 164 ls [.int 0, .int 0, .ref q5]) (by first | rfl | decide) ?_
  refine lv_iload_n hx hb dX11_init_164 rfl (lv_at hl 0 rfl) ?_
  refine lv_bipush (v := 6) hx hb dX11_init_165 (by decide) ?_
  refine lv_irem hx hb dX11_init_167 (by decide) ?_
  refine W.eq (g2 := F0 m 168 ls [.int 0, .int 0, .int 0, .ref q5]) (by first | rfl | decide) ?_
  refine lv_icmp_ne (tgt := 175) hx hb dX11_init_168 (by decide) (fun q => absurd q (by decide)) (fun _ => ?_)
  refine lv_iconst (v := 0) hx hb dX11_init_171 (by decide) ?_
  refine lv_goto (tgt := 177) hx hb dX11_init_172 (by decide) ?_
  refine n_ast C hK I 5 rfl (by decide) (ws1 := [(h0, .inr (11, [.ref q1, .int 0, .ref q2, .int 0, .ref q3, .ref q4, .int 0, .int 40, .int 999, .int 480, .ref q5, .int 0, .ref q6, .ref q7, .ref q8, .ref q9, .int 0, .int 0, .int 0, .int 0, .ref q10, .int 0, .int 0, .long 0, .long 0, .int 0, .int 0, .int 0, .int 0, .int 0, .ref q11])), (q1, .inl (cI, 200, .inl (fun _ => 0))), (q2, .inl (cI, 80, .inl (fun _ => 0))), (q3, .inl (cI, 8, .inl wX11_init_q3_8)), (q4, .inl (cI, 8, .inl (fun _ => 0))), (q5, .inl (cI, 36, .inl wX11_init_q5_1)), (q6, .inl (cI, 36, .inl (fun _ => 0))), (q7, .inl (cI, 6, .inl (fun _ => 0))), (q8, .inl (cI, 96, .inl (fun _ => 0))), (q9, .inl (cI, 48, .inl (fun _ => 0))), (q10, .inl (cI, 6, .inl (fun _ => 0))), (q11, .inl (cI, 6, .inl (fun _ => 0)))]) rfl dX11_init_177 (fun H locs I => ?_)
  refine lv_iinc (v := 1) (lv' := [(1, .int 1), (0, .ref h0)]) hx hb dX11_init_178 hl (k := 0) rfl (by decide) (by decide) rfl (fun ls hl => ?_)
  refine lv_goto (tgt := 149) hx hb dX11_init_181 (by decide) ?_
  refine lv_iload_n hx hb dX11_init_149 rfl (lv_at hl 0 rfl) ?_
  refine lv_bipush (v := 36) hx hb dX11_init_150 (by decide) ?_
  refine lv_icmp_ge (tgt := 184) hx hb dX11_init_152 (by decide) (fun q => absurd q (by decide)) (fun _ => ?_)
  refine lv_aload_n hx hb dX11_init_155 rfl (lv_at hl 1 rfl) ?_
  refine n_get C hK I inT11 0 11 10 rfl rfl (by decide) rfl fl_X11_32 rfl dX11_init_156 ?_
  refine lv_iload_n hx hb dX11_init_159 rfl (lv_at hl 0 rfl) ?_
  refine lv_iload_n hx hb dX11_init_160 rfl (lv_at hl 0 rfl) ?_
  refine lv_bipush (v := 6) hx hb dX11_init_161 (by decide) ?_
  refine lv_idiv hx hb dX11_init_163 (by decide) ?_
  refine W.eq (g2 := F0 m 164 ls [.int 0, .int 1, .ref q5]) (by first | rfl | decide) ?_
  refine lv_iload_n hx hb dX11_init_164 rfl (lv_at hl 0 rfl) ?_
  refine lv_bipush (v := 6) hx hb dX11_init_165 (by decide) ?_
  refine lv_irem hx hb dX11_init_167 (by decide) ?_
  refine W.eq (g2 := F0 m 168 ls [.int 1, .int 0, .int 1, .ref q5]) (by first | rfl | decide) ?_
  refine lv_icmp_ne (tgt := 175) hx hb dX11_init_168 (by decide) (fun _ => ?_) (fun q => absurd q (by decide))
  refine lv_bipush (v := 10) hx hb dX11_init_175 (by decide) ?_
  refine n_ast C hK I 5 rfl (by decide) (ws1 := [(h0, .inr (11, [.ref q1, .int 0, .ref q2, .int 0, .ref q3, .ref q4, .int 0, .int 40, .int 999, .int 480, .ref q5, .int 0, .ref q6, .ref q7, .ref q8, .ref q9, .int 0, .int 0, .int 0, .int 0, .ref q10, .int 0, .int 0, .long 0, .long 0, .int 0, .int 0, .int 0, .int 0, .int 0, .ref q11])), (q1, .inl (cI, 200, .inl (fun _ => 0))), (q2, .inl (cI, 80, .inl (fun _ => 0))), (q3, .inl (cI, 8, .inl wX11_init_q3_8)), (q4, .inl (cI, 8, .inl (fun _ => 0))), (q5, .inl (cI, 36, .inl wX11_init_q5_2)), (q6, .inl (cI, 36, .inl (fun _ => 0))), (q7, .inl (cI, 6, .inl (fun _ => 0))), (q8, .inl (cI, 96, .inl (fun _ => 0))), (q9, .inl (cI, 48, .inl (fun _ => 0))), (q10, .inl (cI, 6, .inl (fun _ => 0))), (q11, .inl (cI, 6, .inl (fun _ => 0)))]) rfl dX11_init_177 (fun H locs I => ?_)
  refine lv_iinc (v := 2) (lv' := [(1, .int 2), (0, .ref h0)]) hx hb dX11_init_178 hl (k := 0) rfl (by decide) (by decide) rfl (fun ls hl => ?_)
  refine lv_goto (tgt := 149) hx hb dX11_init_181 (by decide) ?_
  refine lv_iload_n hx hb dX11_init_149 rfl (lv_at hl 0 rfl) ?_
  refine lv_bipush (v := 36) hx hb dX11_init_150 (by decide) ?_
  refine lv_icmp_ge (tgt := 184) hx hb dX11_init_152 (by decide) (fun q => absurd q (by decide)) (fun _ => ?_)
  refine lv_aload_n hx hb dX11_init_155 rfl (lv_at hl 1 rfl) ?_
  refine n_get C hK I inT11 0 11 10 rfl rfl (by decide) rfl fl_X11_32 rfl dX11_init_156 ?_
  refine lv_iload_n hx hb dX11_init_159 rfl (lv_at hl 0 rfl) ?_
  refine lv_iload_n hx hb dX11_init_160 rfl (lv_at hl 0 rfl) ?_
  refine lv_bipush (v := 6) hx hb dX11_init_161 (by decide) ?_
  refine lv_idiv hx hb dX11_init_163 (by decide) ?_
  refine W.eq (g2 := F0 m 164 ls [.int 0, .int 2, .ref q5]) (by first | rfl | decide) ?_
  refine lv_iload_n hx hb dX11_init_164 rfl (lv_at hl 0 rfl) ?_
  refine lv_bipush (v := 6) hx hb dX11_init_165 (by decide) ?_
  refine lv_irem hx hb dX11_init_167 (by decide) ?_
  refine W.eq (g2 := F0 m 168 ls [.int 2, .int 0, .int 2, .ref q5]) (by first | rfl | decide) ?_
  refine lv_icmp_ne (tgt := 175) hx hb dX11_init_168 (by decide) (fun _ => ?_) (fun q => absurd q (by decide))
  refine lv_bipush (v := 10) hx hb dX11_init_175 (by decide) ?_
  refine n_ast C hK I 5 rfl (by decide) (ws1 := [(h0, .inr (11, [.ref q1, .int 0, .ref q2, .int 0, .ref q3, .ref q4, .int 0, .int 40, .int 999, .int 480, .ref q5, .int 0, .ref q6, .ref q7, .ref q8, .ref q9, .int 0, .int 0, .int 0, .int 0, .ref q10, .int 0, .int 0, .long 0, .long 0, .int 0, .int 0, .int 0, .int 0, .int 0, .ref q11])), (q1, .inl (cI, 200, .inl (fun _ => 0))), (q2, .inl (cI, 80, .inl (fun _ => 0))), (q3, .inl (cI, 8, .inl wX11_init_q3_8)), (q4, .inl (cI, 8, .inl (fun _ => 0))), (q5, .inl (cI, 36, .inl wX11_init_q5_3)), (q6, .inl (cI, 36, .inl (fun _ => 0))), (q7, .inl (cI, 6, .inl (fun _ => 0))), (q8, .inl (cI, 96, .inl (fun _ => 0))), (q9, .inl (cI, 48, .inl (fun _ => 0))), (q10, .inl (cI, 6, .inl (fun _ => 0))), (q11, .inl (cI, 6, .inl (fun _ => 0)))]) rfl dX11_init_177 (fun H locs I => ?_)
  refine lv_iinc (v := 3) (lv' := [(1, .int 3), (0, .ref h0)]) hx hb dX11_init_178 hl (k := 0) rfl (by decide) (by decide) rfl (fun ls hl => ?_)
  refine lv_goto (tgt := 149) hx hb dX11_init_181 (by decide) ?_
  refine lv_iload_n hx hb dX11_init_149 rfl (lv_at hl 0 rfl) ?_
  refine lv_bipush (v := 36) hx hb dX11_init_150 (by decide) ?_
  refine lv_icmp_ge (tgt := 184) hx hb dX11_init_152 (by decide) (fun q => absurd q (by decide)) (fun _ => ?_)
  refine lv_aload_n hx hb dX11_init_155 rfl (lv_at hl 1 rfl) ?_
  refine n_get C hK I inT11 0 11 10 rfl rfl (by decide) rfl fl_X11_32 rfl dX11_init_156 ?_
  refine lv_iload_n hx hb dX11_init_159 rfl (lv_at hl 0 rfl) ?_
  refine lv_iload_n hx hb dX11_init_160 rfl (lv_at hl 0 rfl) ?_
  refine lv_bipush (v := 6) hx hb dX11_init_161 (by decide) ?_
  refine lv_idiv hx hb dX11_init_163 (by decide) ?_
  refine W.eq (g2 := F0 m 164 ls [.int 0, .int 3, .ref q5]) (by first | rfl | decide) ?_
  refine lv_iload_n hx hb dX11_init_164 rfl (lv_at hl 0 rfl) ?_
  refine lv_bipush (v := 6) hx hb dX11_init_165 (by decide) ?_
  refine lv_irem hx hb dX11_init_167 (by decide) ?_
  refine W.eq (g2 := F0 m 168 ls [.int 3, .int 0, .int 3, .ref q5]) (by first | rfl | decide) ?_
  refine lv_icmp_ne (tgt := 175) hx hb dX11_init_168 (by decide) (fun _ => ?_) (fun q => absurd q (by decide))
  refine lv_bipush (v := 10) hx hb dX11_init_175 (by decide) ?_
  refine n_ast C hK I 5 rfl (by decide) (ws1 := [(h0, .inr (11, [.ref q1, .int 0, .ref q2, .int 0, .ref q3, .ref q4, .int 0, .int 40, .int 999, .int 480, .ref q5, .int 0, .ref q6, .ref q7, .ref q8, .ref q9, .int 0, .int 0, .int 0, .int 0, .ref q10, .int 0, .int 0, .long 0, .long 0, .int 0, .int 0, .int 0, .int 0, .int 0, .ref q11])), (q1, .inl (cI, 200, .inl (fun _ => 0))), (q2, .inl (cI, 80, .inl (fun _ => 0))), (q3, .inl (cI, 8, .inl wX11_init_q3_8)), (q4, .inl (cI, 8, .inl (fun _ => 0))), (q5, .inl (cI, 36, .inl wX11_init_q5_4)), (q6, .inl (cI, 36, .inl (fun _ => 0))), (q7, .inl (cI, 6, .inl (fun _ => 0))), (q8, .inl (cI, 96, .inl (fun _ => 0))), (q9, .inl (cI, 48, .inl (fun _ => 0))), (q10, .inl (cI, 6, .inl (fun _ => 0))), (q11, .inl (cI, 6, .inl (fun _ => 0)))]) rfl dX11_init_177 (fun H locs I => ?_)
  refine lv_iinc (v := 4) (lv' := [(1, .int 4), (0, .ref h0)]) hx hb dX11_init_178 hl (k := 0) rfl (by decide) (by decide) rfl (fun ls hl => ?_)
  refine lv_goto (tgt := 149) hx hb dX11_init_181 (by decide) ?_
  refine lv_iload_n hx hb dX11_init_149 rfl (lv_at hl 0 rfl) ?_
  refine lv_bipush (v := 36) hx hb dX11_init_150 (by decide) ?_
  refine lv_icmp_ge (tgt := 184) hx hb dX11_init_152 (by decide) (fun q => absurd q (by decide)) (fun _ => ?_)
  refine lv_aload_n hx hb dX11_init_155 rfl (lv_at hl 1 rfl) ?_
  refine n_get C hK I inT11 0 11 10 rfl rfl (by decide) rfl fl_X11_32 rfl dX11_init_156 ?_
  refine lv_iload_n hx hb dX11_init_159 rfl (lv_at hl 0 rfl) ?_
  refine lv_iload_n hx hb dX11_init_160 rfl (lv_at hl 0 rfl) ?_
  refine lv_bipush (v := 6) hx hb dX11_init_161 (by decide) ?_
  refine lv_idiv hx hb dX11_init_163 (by decide) ?_
  refine W.eq (g2 := F0 m 164 ls [.int 0, .int 4, .ref q5]) (by first | rfl | decide) ?_
  refine lv_iload_n hx hb dX11_init_164 rfl (lv_at hl 0 rfl) ?_
  refine lv_bipush (v := 6) hx hb dX11_init_165 (by decide) ?_
  refine lv_irem hx hb dX11_init_167 (by decide) ?_
  refine W.eq (g2 := F0 m 168 ls [.int 4, .int 0, .int 4, .ref q5]) (by first | rfl | decide) ?_
  refine lv_icmp_ne (tgt := 175) hx hb dX11_init_168 (by decide) (fun _ => ?_) (fun q => absurd q (by decide))
  refine lv_bipush (v := 10) hx hb dX11_init_175 (by decide) ?_
  refine n_ast C hK I 5 rfl (by decide) (ws1 := [(h0, .inr (11, [.ref q1, .int 0, .ref q2, .int 0, .ref q3, .ref q4, .int 0, .int 40, .int 999, .int 480, .ref q5, .int 0, .ref q6, .ref q7, .ref q8, .ref q9, .int 0, .int 0, .int 0, .int 0, .ref q10, .int 0, .int 0, .long 0, .long 0, .int 0, .int 0, .int 0, .int 0, .int 0, .ref q11])), (q1, .inl (cI, 200, .inl (fun _ => 0))), (q2, .inl (cI, 80, .inl (fun _ => 0))), (q3, .inl (cI, 8, .inl wX11_init_q3_8)), (q4, .inl (cI, 8, .inl (fun _ => 0))), (q5, .inl (cI, 36, .inl wX11_init_q5_5)), (q6, .inl (cI, 36, .inl (fun _ => 0))), (q7, .inl (cI, 6, .inl (fun _ => 0))), (q8, .inl (cI, 96, .inl (fun _ => 0))), (q9, .inl (cI, 48, .inl (fun _ => 0))), (q10, .inl (cI, 6, .inl (fun _ => 0))), (q11, .inl (cI, 6, .inl (fun _ => 0)))]) rfl dX11_init_177 (fun H locs I => ?_)
  refine lv_iinc (v := 5) (lv' := [(1, .int 5), (0, .ref h0)]) hx hb dX11_init_178 hl (k := 0) rfl (by decide) (by decide) rfl (fun ls hl => ?_)
  refine lv_goto (tgt := 149) hx hb dX11_init_181 (by decide) ?_
  refine lv_iload_n hx hb dX11_init_149 rfl (lv_at hl 0 rfl) ?_
  refine lv_bipush (v := 36) hx hb dX11_init_150 (by decide) ?_
  refine lv_icmp_ge (tgt := 184) hx hb dX11_init_152 (by decide) (fun q => absurd q (by decide)) (fun _ => ?_)
  refine lv_aload_n hx hb dX11_init_155 rfl (lv_at hl 1 rfl) ?_
  refine n_get C hK I inT11 0 11 10 rfl rfl (by decide) rfl fl_X11_32 rfl dX11_init_156 ?_
  refine lv_iload_n hx hb dX11_init_159 rfl (lv_at hl 0 rfl) ?_
  refine lv_iload_n hx hb dX11_init_160 rfl (lv_at hl 0 rfl) ?_
  refine lv_bipush (v := 6) hx hb dX11_init_161 (by decide) ?_
  refine lv_idiv hx hb dX11_init_163 (by decide) ?_
  refine W.eq (g2 := F0 m 164 ls [.int 0, .int 5, .ref q5]) (by first | rfl | decide) ?_
  refine lv_iload_n hx hb dX11_init_164 rfl (lv_at hl 0 rfl) ?_
  refine lv_bipush (v := 6) hx hb dX11_init_165 (by decide) ?_
  refine lv_irem hx hb dX11_init_167 (by decide) ?_
  refine W.eq (g2 := F0 m 168 ls [.int 5, .int 0, .int 5, .ref q5]) (by first | rfl | decide) ?_
  refine lv_icmp_ne (tgt := 175) hx hb dX11_init_168 (by decide) (fun _ => ?_) (fun q => absurd q (by decide))
  refine lv_bipush (v := 10) hx hb dX11_init_175 (by decide) ?_
  refine n_ast C hK I 5 rfl (by decide) (ws1 := [(h0, .inr (11, [.ref q1, .int 0, .ref q2, .int 0, .ref q3, .ref q4, .int 0, .int 40, .int 999, .int 480, .ref q5, .int 0, .ref q6, .ref q7, .ref q8, .ref q9, .int 0, .int 0, .int 0, .int 0, .ref q10, .int 0, .int 0, .long 0, .long 0, .int 0, .int 0, .int 0, .int 0, .int 0, .ref q11])), (q1, .inl (cI, 200, .inl (fun _ => 0))), (q2, .inl (cI, 80, .inl (fun _ => 0))), (q3, .inl (cI, 8, .inl wX11_init_q3_8)), (q4, .inl (cI, 8, .inl (fun _ => 0))), (q5, .inl (cI, 36, .inl wX11_init_q5_6)), (q6, .inl (cI, 36, .inl (fun _ => 0))), (q7, .inl (cI, 6, .inl (fun _ => 0))), (q8, .inl (cI, 96, .inl (fun _ => 0))), (q9, .inl (cI, 48, .inl (fun _ => 0))), (q10, .inl (cI, 6, .inl (fun _ => 0))), (q11, .inl (cI, 6, .inl (fun _ => 0)))]) rfl dX11_init_177 (fun H locs I => ?_)
  refine lv_iinc (v := 6) (lv' := [(1, .int 6), (0, .ref h0)]) hx hb dX11_init_178 hl (k := 0) rfl (by decide) (by decide) rfl (fun ls hl => ?_)
  refine lv_goto (tgt := 149) hx hb dX11_init_181 (by decide) ?_
  refine lv_iload_n hx hb dX11_init_149 rfl (lv_at hl 0 rfl) ?_
  refine lv_bipush (v := 36) hx hb dX11_init_150 (by decide) ?_
  refine lv_icmp_ge (tgt := 184) hx hb dX11_init_152 (by decide) (fun q => absurd q (by decide)) (fun _ => ?_)
  refine lv_aload_n hx hb dX11_init_155 rfl (lv_at hl 1 rfl) ?_
  refine n_get C hK I inT11 0 11 10 rfl rfl (by decide) rfl fl_X11_32 rfl dX11_init_156 ?_
  refine lv_iload_n hx hb dX11_init_159 rfl (lv_at hl 0 rfl) ?_
  refine lv_iload_n hx hb dX11_init_160 rfl (lv_at hl 0 rfl) ?_
  refine lv_bipush (v := 6) hx hb dX11_init_161 (by decide) ?_
  refine lv_idiv hx hb dX11_init_163 (by decide) ?_
  refine W.eq (g2 := F0 m 164 ls [.int 1, .int 6, .ref q5]) (by first | rfl | decide) ?_
  refine lv_iload_n hx hb dX11_init_164 rfl (lv_at hl 0 rfl) ?_
  refine lv_bipush (v := 6) hx hb dX11_init_165 (by decide) ?_
  refine lv_irem hx hb dX11_init_167 (by decide) ?_
  refine W.eq (g2 := F0 m 168 ls [.int 0, .int 1, .int 6, .ref q5]) (by first | rfl | decide) ?_
  refine lv_icmp_ne (tgt := 175) hx hb dX11_init_168 (by decide) (fun _ => ?_) (fun q => absurd q (by decide))
  refine lv_bipush (v := 10) hx hb dX11_init_175 (by decide) ?_
  refine n_ast C hK I 5 rfl (by decide) (ws1 := [(h0, .inr (11, [.ref q1, .int 0, .ref q2, .int 0, .ref q3, .ref q4, .int 0, .int 40, .int 999, .int 480, .ref q5, .int 0, .ref q6, .ref q7, .ref q8, .ref q9, .int 0, .int 0, .int 0, .int 0, .ref q10, .int 0, .int 0, .long 0, .long 0, .int 0, .int 0, .int 0, .int 0, .int 0, .ref q11])), (q1, .inl (cI, 200, .inl (fun _ => 0))), (q2, .inl (cI, 80, .inl (fun _ => 0))), (q3, .inl (cI, 8, .inl wX11_init_q3_8)), (q4, .inl (cI, 8, .inl (fun _ => 0))), (q5, .inl (cI, 36, .inl wX11_init_q5_7)), (q6, .inl (cI, 36, .inl (fun _ => 0))), (q7, .inl (cI, 6, .inl (fun _ => 0))), (q8, .inl (cI, 96, .inl (fun _ => 0))), (q9, .inl (cI, 48, .inl (fun _ => 0))), (q10, .inl (cI, 6, .inl (fun _ => 0))), (q11, .inl (cI, 6, .inl (fun _ => 0)))]) rfl dX11_init_177 (fun H locs I => ?_)
  refine lv_iinc (v := 7) (lv' := [(1, .int 7), (0, .ref h0)]) hx hb dX11_init_178 hl (k := 0) rfl (by decide) (by decide) rfl (fun ls hl => ?_)
  refine lv_goto (tgt := 149) hx hb dX11_init_181 (by decide) ?_
  refine lv_iload_n hx hb dX11_init_149 rfl (lv_at hl 0 rfl) ?_
  refine lv_bipush (v := 36) hx hb dX11_init_150 (by decide) ?_
  refine lv_icmp_ge (tgt := 184) hx hb dX11_init_152 (by decide) (fun q => absurd q (by decide)) (fun _ => ?_)
  refine lv_aload_n hx hb dX11_init_155 rfl (lv_at hl 1 rfl) ?_
  refine n_get C hK I inT11 0 11 10 rfl rfl (by decide) rfl fl_X11_32 rfl dX11_init_156 ?_
  refine lv_iload_n hx hb dX11_init_159 rfl (lv_at hl 0 rfl) ?_
  refine lv_iload_n hx hb dX11_init_160 rfl (lv_at hl 0 rfl) ?_
  refine lv_bipush (v := 6) hx hb dX11_init_161 (by decide) ?_
  refine lv_idiv hx hb dX11_init_163 (by decide) ?_
  refine W.eq (g2 := F0 m 164 ls [.int 1, .int 7, .ref q5]) (by first | rfl | decide) ?_
  refine lv_iload_n hx hb dX11_init_164 rfl (lv_at hl 0 rfl) ?_
  refine lv_bipush (v := 6) hx hb dX11_init_165 (by decide) ?_
  refine lv_irem hx hb dX11_init_167 (by decide) ?_
  refine W.eq (g2 := F0 m 168 ls [.int 1, .int 1, .int 7, .ref q5]) (by first | rfl | decide) ?_
  refine lv_icmp_ne (tgt := 175) hx hb dX11_init_168 (by decide) (fun q => absurd q (by decide)) (fun _ => ?_)
  refine lv_iconst (v := 0) hx hb dX11_init_171 (by decide) ?_
  refine lv_goto (tgt := 177) hx hb dX11_init_172 (by decide) ?_
  refine n_ast C hK I 5 rfl (by decide) (ws1 := [(h0, .inr (11, [.ref q1, .int 0, .ref q2, .int 0, .ref q3, .ref q4, .int 0, .int 40, .int 999, .int 480, .ref q5, .int 0, .ref q6, .ref q7, .ref q8, .ref q9, .int 0, .int 0, .int 0, .int 0, .ref q10, .int 0, .int 0, .long 0, .long 0, .int 0, .int 0, .int 0, .int 0, .int 0, .ref q11])), (q1, .inl (cI, 200, .inl (fun _ => 0))), (q2, .inl (cI, 80, .inl (fun _ => 0))), (q3, .inl (cI, 8, .inl wX11_init_q3_8)), (q4, .inl (cI, 8, .inl (fun _ => 0))), (q5, .inl (cI, 36, .inl wX11_init_q5_8)), (q6, .inl (cI, 36, .inl (fun _ => 0))), (q7, .inl (cI, 6, .inl (fun _ => 0))), (q8, .inl (cI, 96, .inl (fun _ => 0))), (q9, .inl (cI, 48, .inl (fun _ => 0))), (q10, .inl (cI, 6, .inl (fun _ => 0))), (q11, .inl (cI, 6, .inl (fun _ => 0)))]) rfl dX11_init_177 (fun H locs I => ?_)
  refine lv_iinc (v := 8) (lv' := [(1, .int 8), (0, .ref h0)]) hx hb dX11_init_178 hl (k := 0) rfl (by decide) (by decide) rfl (fun ls hl => ?_)
  refine lv_goto (tgt := 149) hx hb dX11_init_181 (by decide) ?_
  refine lv_iload_n hx hb dX11_init_149 rfl (lv_at hl 0 rfl) ?_
  refine lv_bipush (v := 36) hx hb dX11_init_150 (by decide) ?_
  refine lv_icmp_ge (tgt := 184) hx hb dX11_init_152 (by decide) (fun q => absurd q (by decide)) (fun _ => ?_)
  refine lv_aload_n hx hb dX11_init_155 rfl (lv_at hl 1 rfl) ?_
  refine n_get C hK I inT11 0 11 10 rfl rfl (by decide) rfl fl_X11_32 rfl dX11_init_156 ?_
  refine lv_iload_n hx hb dX11_init_159 rfl (lv_at hl 0 rfl) ?_
  refine lv_iload_n hx hb dX11_init_160 rfl (lv_at hl 0 rfl) ?_
  refine lv_bipush (v := 6) hx hb dX11_init_161 (by decide) ?_
  refine lv_idiv hx hb dX11_init_163 (by decide) ?_
  refine W.eq (g2 := F0 m 164 ls [.int 1, .int 8, .ref q5]) (by first | rfl | decide) ?_
  refine lv_iload_n hx hb dX11_init_164 rfl (lv_at hl 0 rfl) ?_
  refine lv_bipush (v := 6) hx hb dX11_init_165 (by decide) ?_
  refine lv_irem hx hb dX11_init_167 (by decide) ?_
  refine W.eq (g2 := F0 m 168 ls [.int 2, .int 1, .int 8, .ref q5]) (by first | rfl | decide) ?_
  refine lv_icmp_ne (tgt := 175) hx hb dX11_init_168 (by decide) (fun _ => ?_) (fun q => absurd q (by decide))
  refine lv_bipush (v := 10) hx hb dX11_init_175 (by decide) ?_
  refine n_ast C hK I 5 rfl (by decide) (ws1 := [(h0, .inr (11, [.ref q1, .int 0, .ref q2, .int 0, .ref q3, .ref q4, .int 0, .int 40, .int 999, .int 480, .ref q5, .int 0, .ref q6, .ref q7, .ref q8, .ref q9, .int 0, .int 0, .int 0, .int 0, .ref q10, .int 0, .int 0, .long 0, .long 0, .int 0, .int 0, .int 0, .int 0, .int 0, .ref q11])), (q1, .inl (cI, 200, .inl (fun _ => 0))), (q2, .inl (cI, 80, .inl (fun _ => 0))), (q3, .inl (cI, 8, .inl wX11_init_q3_8)), (q4, .inl (cI, 8, .inl (fun _ => 0))), (q5, .inl (cI, 36, .inl wX11_init_q5_9)), (q6, .inl (cI, 36, .inl (fun _ => 0))), (q7, .inl (cI, 6, .inl (fun _ => 0))), (q8, .inl (cI, 96, .inl (fun _ => 0))), (q9, .inl (cI, 48, .inl (fun _ => 0))), (q10, .inl (cI, 6, .inl (fun _ => 0))), (q11, .inl (cI, 6, .inl (fun _ => 0)))]) rfl dX11_init_177 (fun H locs I => ?_)
  refine lv_iinc (v := 9) (lv' := [(1, .int 9), (0, .ref h0)]) hx hb dX11_init_178 hl (k := 0) rfl (by decide) (by decide) rfl (fun ls hl => ?_)
  refine lv_goto (tgt := 149) hx hb dX11_init_181 (by decide) ?_
  refine lv_iload_n hx hb dX11_init_149 rfl (lv_at hl 0 rfl) ?_
  refine lv_bipush (v := 36) hx hb dX11_init_150 (by decide) ?_
  refine lv_icmp_ge (tgt := 184) hx hb dX11_init_152 (by decide) (fun q => absurd q (by decide)) (fun _ => ?_)
  refine lv_aload_n hx hb dX11_init_155 rfl (lv_at hl 1 rfl) ?_
  refine n_get C hK I inT11 0 11 10 rfl rfl (by decide) rfl fl_X11_32 rfl dX11_init_156 ?_
  refine lv_iload_n hx hb dX11_init_159 rfl (lv_at hl 0 rfl) ?_
  refine lv_iload_n hx hb dX11_init_160 rfl (lv_at hl 0 rfl) ?_
  refine lv_bipush (v := 6) hx hb dX11_init_161 (by decide) ?_
  refine lv_idiv hx hb dX11_init_163 (by decide) ?_
  refine W.eq (g2 := F0 m 164 ls [.int 1, .int 9, .ref q5]) (by first | rfl | decide) ?_
  refine lv_iload_n hx hb dX11_init_164 rfl (lv_at hl 0 rfl) ?_
  refine lv_bipush (v := 6) hx hb dX11_init_165 (by decide) ?_
  refine lv_irem hx hb dX11_init_167 (by decide) ?_
  refine W.eq (g2 := F0 m 168 ls [.int 3, .int 1, .int 9, .ref q5]) (by first | rfl | decide) ?_
  refine lv_icmp_ne (tgt := 175) hx hb dX11_init_168 (by decide) (fun _ => ?_) (fun q => absurd q (by decide))
  refine lv_bipush (v := 10) hx hb dX11_init_175 (by decide) ?_
  refine n_ast C hK I 5 rfl (by decide) (ws1 := [(h0, .inr (11, [.ref q1, .int 0, .ref q2, .int 0, .ref q3, .ref q4, .int 0, .int 40, .int 999, .int 480, .ref q5, .int 0, .ref q6, .ref q7, .ref q8, .ref q9, .int 0, .int 0, .int 0, .int 0, .ref q10, .int 0, .int 0, .long 0, .long 0, .int 0, .int 0, .int 0, .int 0, .int 0, .ref q11])), (q1, .inl (cI, 200, .inl (fun _ => 0))), (q2, .inl (cI, 80, .inl (fun _ => 0))), (q3, .inl (cI, 8, .inl wX11_init_q3_8)), (q4, .inl (cI, 8, .inl (fun _ => 0))), (q5, .inl (cI, 36, .inl wX11_init_q5_10)), (q6, .inl (cI, 36, .inl (fun _ => 0))), (q7, .inl (cI, 6, .inl (fun _ => 0))), (q8, .inl (cI, 96, .inl (fun _ => 0))), (q9, .inl (cI, 48, .inl (fun _ => 0))), (q10, .inl (cI, 6, .inl (fun _ => 0))), (q11, .inl (cI, 6, .inl (fun _ => 0)))]) rfl dX11_init_177 (fun H locs I => ?_)
  refine lv_iinc (v := 10) (lv' := [(1, .int 10), (0, .ref h0)]) hx hb dX11_init_178 hl (k := 0) rfl (by decide) (by decide) rfl (fun ls hl => ?_)
  refine lv_goto (tgt := 149) hx hb dX11_init_181 (by decide) ?_
  refine lv_iload_n hx hb dX11_init_149 rfl (lv_at hl 0 rfl) ?_
  refine lv_bipush (v := 36) hx hb dX11_init_150 (by decide) ?_
  refine lv_icmp_ge (tgt := 184) hx hb dX11_init_152 (by decide) (fun q => absurd q (by decide)) (fun _ => ?_)
  refine lv_aload_n hx hb dX11_init_155 rfl (lv_at hl 1 rfl) ?_
  refine n_get C hK I inT11 0 11 10 rfl rfl (by decide) rfl fl_X11_32 rfl dX11_init_156 ?_
  refine lv_iload_n hx hb dX11_init_159 rfl (lv_at hl 0 rfl) ?_
  refine lv_iload_n hx hb dX11_init_160 rfl (lv_at hl 0 rfl) ?_
  refine lv_bipush (v := 6) hx hb dX11_init_161 (by decide) ?_
  refine lv_idiv hx hb dX11_init_163 (by decide) ?_
  refine W.eq (g2 := F0 m 164 ls [.int 1, .int 10, .ref q5]) (by first | rfl | decide) ?_
  refine lv_iload_n hx hb dX11_init_164 rfl (lv_at hl 0 rfl) ?_
  refine lv_bipush (v := 6) hx hb dX11_init_165 (by decide) ?_
  refine lv_irem hx hb dX11_init_167 (by decide) ?_
  refine W.eq (g2 := F0 m 168 ls [.int 4, .int 1, .int 10, .ref q5]) (by first | rfl | decide) ?_
  refine lv_icmp_ne (tgt := 175) hx hb dX11_init_168 (by decide) (fun _ => ?_) (fun q => absurd q (by decide))
  refine lv_bipush (v := 10) hx hb dX11_init_175 (by decide) ?_
  refine n_ast C hK I 5 rfl (by decide) (ws1 := [(h0, .inr (11, [.ref q1, .int 0, .ref q2, .int 0, .ref q3, .ref q4, .int 0, .int 40, .int 999, .int 480, .ref q5, .int 0, .ref q6, .ref q7, .ref q8, .ref q9, .int 0, .int 0, .int 0, .int 0, .ref q10, .int 0, .int 0, .long 0, .long 0, .int 0, .int 0, .int 0, .int 0, .int 0, .ref q11])), (q1, .inl (cI, 200, .inl (fun _ => 0))), (q2, .inl (cI, 80, .inl (fun _ => 0))), (q3, .inl (cI, 8, .inl wX11_init_q3_8)), (q4, .inl (cI, 8, .inl (fun _ => 0))), (q5, .inl (cI, 36, .inl wX11_init_q5_11)), (q6, .inl (cI, 36, .inl (fun _ => 0))), (q7, .inl (cI, 6, .inl (fun _ => 0))), (q8, .inl (cI, 96, .inl (fun _ => 0))), (q9, .inl (cI, 48, .inl (fun _ => 0))), (q10, .inl (cI, 6, .inl (fun _ => 0))), (q11, .inl (cI, 6, .inl (fun _ => 0)))]) rfl dX11_init_177 (fun H locs I => ?_)
  refine lv_iinc (v := 11) (lv' := [(1, .int 11), (0, .ref h0)]) hx hb dX11_init_178 hl (k := 0) rfl (by decide) (by decide) rfl (fun ls hl => ?_)
  refine lv_goto (tgt := 149) hx hb dX11_init_181 (by decide) ?_
  refine lv_iload_n hx hb dX11_init_149 rfl (lv_at hl 0 rfl) ?_
  refine lv_bipush (v := 36) hx hb dX11_init_150 (by decide) ?_
  refine lv_icmp_ge (tgt := 184) hx hb dX11_init_152 (by decide) (fun q => absurd q (by decide)) (fun _ => ?_)
  refine lv_aload_n hx hb dX11_init_155 rfl (lv_at hl 1 rfl) ?_
  refine n_get C hK I inT11 0 11 10 rfl rfl (by decide) rfl fl_X11_32 rfl dX11_init_156 ?_
  refine lv_iload_n hx hb dX11_init_159 rfl (lv_at hl 0 rfl) ?_
  refine lv_iload_n hx hb dX11_init_160 rfl (lv_at hl 0 rfl) ?_
  refine lv_bipush (v := 6) hx hb dX11_init_161 (by decide) ?_
  refine lv_idiv hx hb dX11_init_163 (by decide) ?_
  refine W.eq (g2 := F0 m 164 ls [.int 1, .int 11, .ref q5]) (by first | rfl | decide) ?_
  refine lv_iload_n hx hb dX11_init_164 rfl (lv_at hl 0 rfl) ?_
  refine lv_bipush (v := 6) hx hb dX11_init_165 (by decide) ?_
  refine lv_irem hx hb dX11_init_167 (by decide) ?_
  refine W.eq (g2 := F0 m 168 ls [.int 5, .int 1, .int 11, .ref q5]) (by first | rfl | decide) ?_
  refine lv_icmp_ne (tgt := 175) hx hb dX11_init_168 (by decide) (fun _ => ?_) (fun q => absurd q (by decide))
  refine lv_bipush (v := 10) hx hb dX11_init_175 (by decide) ?_
  refine n_ast C hK I 5 rfl (by decide) (ws1 := [(h0, .inr (11, [.ref q1, .int 0, .ref q2, .int 0, .ref q3, .ref q4, .int 0, .int 40, .int 999, .int 480, .ref q5, .int 0, .ref q6, .ref q7, .ref q8, .ref q9, .int 0, .int 0, .int 0, .int 0, .ref q10, .int 0, .int 0, .long 0, .long 0, .int 0, .int 0, .int 0, .int 0, .int 0, .ref q11])), (q1, .inl (cI, 200, .inl (fun _ => 0))), (q2, .inl (cI, 80, .inl (fun _ => 0))), (q3, .inl (cI, 8, .inl wX11_init_q3_8)), (q4, .inl (cI, 8, .inl (fun _ => 0))), (q5, .inl (cI, 36, .inl wX11_init_q5_12)), (q6, .inl (cI, 36, .inl (fun _ => 0))), (q7, .inl (cI, 6, .inl (fun _ => 0))), (q8, .inl (cI, 96, .inl (fun _ => 0))), (q9, .inl (cI, 48, .inl (fun _ => 0))), (q10, .inl (cI, 6, .inl (fun _ => 0))), (q11, .inl (cI, 6, .inl (fun _ => 0)))]) rfl dX11_init_177 (fun H locs I => ?_)
  refine lv_iinc (v := 12) (lv' := [(1, .int 12), (0, .ref h0)]) hx hb dX11_init_178 hl (k := 0) rfl (by decide) (by decide) rfl (fun ls hl => ?_)
  refine lv_goto (tgt := 149) hx hb dX11_init_181 (by decide) ?_
  refine lv_iload_n hx hb dX11_init_149 rfl (lv_at hl 0 rfl) ?_
  refine lv_bipush (v := 36) hx hb dX11_init_150 (by decide) ?_
  refine lv_icmp_ge (tgt := 184) hx hb dX11_init_152 (by decide) (fun q => absurd q (by decide)) (fun _ => ?_)
  refine lv_aload_n hx hb dX11_init_155 rfl (lv_at hl 1 rfl) ?_
  refine n_get C hK I inT11 0 11 10 rfl rfl (by decide) rfl fl_X11_32 rfl dX11_init_156 ?_
  refine lv_iload_n hx hb dX11_init_159 rfl (lv_at hl 0 rfl) ?_
  refine lv_iload_n hx hb dX11_init_160 rfl (lv_at hl 0 rfl) ?_
  refine lv_bipush (v := 6) hx hb dX11_init_161 (by decide) ?_
  refine lv_idiv hx hb dX11_init_163 (by decide) ?_
  refine W.eq (g2 := F0 m 164 ls [.int 2, .int 12, .ref q5]) (by first | rfl | decide) ?_
  refine lv_iload_n hx hb dX11_init_164 rfl (lv_at hl 0 rfl) ?_
  refine lv_bipush (v := 6) hx hb dX11_init_165 (by decide) ?_
  refine lv_irem hx hb dX11_init_167 (by decide) ?_
  refine W.eq (g2 := F0 m 168 ls [.int 0, .int 2, .int 12, .ref q5]) (by first | rfl | decide) ?_
  refine lv_icmp_ne (tgt := 175) hx hb dX11_init_168 (by decide) (fun _ => ?_) (fun q => absurd q (by decide))
  refine lv_bipush (v := 10) hx hb dX11_init_175 (by decide) ?_
  refine n_ast C hK I 5 rfl (by decide) (ws1 := [(h0, .inr (11, [.ref q1, .int 0, .ref q2, .int 0, .ref q3, .ref q4, .int 0, .int 40, .int 999, .int 480, .ref q5, .int 0, .ref q6, .ref q7, .ref q8, .ref q9, .int 0, .int 0, .int 0, .int 0, .ref q10, .int 0, .int 0, .long 0, .long 0, .int 0, .int 0, .int 0, .int 0, .int 0, .ref q11])), (q1, .inl (cI, 200, .inl (fun _ => 0))), (q2, .inl (cI, 80, .inl (fun _ => 0))), (q3, .inl (cI, 8, .inl wX11_init_q3_8)), (q4, .inl (cI, 8, .inl (fun _ => 0))), (q5, .inl (cI, 36, .inl wX11_init_q5_13)), (q6, .inl (cI, 36, .inl (fun _ => 0))), (q7, .inl (cI, 6, .inl (fun _ => 0))), (q8, .inl (cI, 96, .inl (fun _ => 0))), (q9, .inl (cI, 48, .inl (fun _ => 0))), (q10, .inl (cI, 6, .inl (fun _ => 0))), (q11, .inl (cI, 6, .inl (fun _ => 0)))]) rfl dX11_init_177 (fun H locs I => ?_)
  refine lv_iinc (v := 13) (lv' := [(1, .int 13), (0, .ref h0)]) hx hb dX11_init_178 hl (k := 0) rfl (by decide) (by decide) rfl (fun ls hl => ?_)
  refine lv_goto (tgt := 149) hx hb dX11_init_181 (by decide) ?_
  refine lv_iload_n hx hb dX11_init_149 rfl (lv_at hl 0 rfl) ?_
  refine lv_bipush (v := 36) hx hb dX11_init_150 (by decide) ?_
  refine lv_icmp_ge (tgt := 184) hx hb dX11_init_152 (by decide) (fun q => absurd q (by decide)) (fun _ => ?_)
  refine lv_aload_n hx hb dX11_init_155 rfl (lv_at hl 1 rfl) ?_
  refine n_get C hK I inT11 0 11 10 rfl rfl (by decide) rfl fl_X11_32 rfl dX11_init_156 ?_
  refine lv_iload_n hx hb dX11_init_159 rfl (lv_at hl 0 rfl) ?_
  refine lv_iload_n hx hb dX11_init_160 rfl (lv_at hl 0 rfl) ?_
  refine lv_bipush (v := 6) hx hb dX11_init_161 (by decide) ?_
  refine lv_idiv hx hb dX11_init_163 (by decide) ?_
  refine W.eq (g2 := F0 m 164 ls [.int 2, .int 13, .ref q5]) (by first | rfl | decide) ?_
  refine lv_iload_n hx hb dX11_init_164 rfl (lv_at hl 0 rfl) ?_
  refine lv_bipush (v := 6) hx hb dX11_init_165 (by decide) ?_
  refine lv_irem hx hb dX11_init_167 (by decide) ?_
  refine W.eq (g2 := F0 m 168 ls [.int 1, .int 2, .int 13, .ref q5]) (by first | rfl | decide) ?_
  refine lv_icmp_ne (tgt := 175) hx hb dX11_init_168 (by decide) (fun _ => ?_) (fun q => absurd q (by decide))
  refine lv_bipush (v := 10) hx hb dX11_init_175 (by decide) ?_
  refine n_ast C hK I 5 rfl (by decide) (ws1 := [(h0, .inr (11, [.ref q1, .int 0, .ref q2, .int 0, .ref q3, .ref q4, .int 0, .int 40, .int 999, .int 480, .ref q5, .int 0, .ref q6, .ref q7, .ref q8, .ref q9, .int 0, .int 0, .int 0, .int 0, .ref q10, .int 0, .int 0, .long 0, .long 0, .int 0, .int 0, .int 0, .int 0, .int 0, .ref q11])), (q1, .inl (cI, 200, .inl (fun _ => 0))), (q2, .inl (cI, 80, .inl (fun _ => 0))), (q3, .inl (cI, 8, .inl wX11_init_q3_8)), (q4, .inl (cI, 8, .inl (fun _ => 0))), (q5, .inl (cI, 36, .inl wX11_init_q5_14)), (q6, .inl (cI, 36, .inl (fun _ => 0))), (q7, .inl (cI, 6, .inl (fun _ => 0))), (q8, .inl (cI, 96, .inl (fun _ => 0))), (q9, .inl (cI, 48, .inl (fun _ => 0))), (q10, .inl (cI, 6, .inl (fun _ => 0))), (q11, .inl (cI, 6, .inl (fun _ => 0)))]) rfl dX11_init_177 (fun H locs I => ?_)
  refine lv_iinc (v := 14) (lv' := [(1, .int 14), (0, .ref h0)]) hx hb dX11_init_178 hl (k := 0) rfl (by decide) (by decide) rfl (fun ls hl => ?_)
  refine lv_goto (tgt := 149) hx hb dX11_init_181 (by decide) ?_
  refine lv_iload_n hx hb dX11_init_149 rfl (lv_at hl 0 rfl) ?_
  refine lv_bipush (v := 36) hx hb dX11_init_150 (by decide) ?_
  refine lv_icmp_ge (tgt := 184) hx hb dX11_init_152 (by decide) (fun q => absurd q (by decide)) (fun _ => ?_)
  refine lv_aload_n hx hb dX11_init_155 rfl (lv_at hl 1 rfl) ?_
  refine n_get C hK I inT11 0 11 10 rfl rfl (by decide) rfl fl_X11_32 rfl dX11_init_156 ?_
  refine lv_iload_n hx hb dX11_init_159 rfl (lv_at hl 0 rfl) ?_
  refine lv_iload_n hx hb dX11_init_160 rfl (lv_at hl 0 rfl) ?_
  refine lv_bipush (v := 6) hx hb dX11_init_161 (by decide) ?_
  refine lv_idiv hx hb dX11_init_163 (by decide) ?_
  refine W.eq (g2 := F0 m 164 ls [.int 2, .int 14, .ref q5]) (by first | rfl | decide) ?_
  refine lv_iload_n hx hb dX11_init_164 rfl (lv_at hl 0 rfl) ?_
  refine lv_bipush (v := 6) hx hb dX11_init_165 (by decide) ?_
  refine lv_irem hx hb dX11_init_167 (by decide) ?_
  refine W.eq (g2 := F0 m 168 ls [.int 2, .int 2, .int 14, .ref q5]) (by first | rfl | decide) ?_
  refine lv_icmp_ne (tgt := 175) hx hb dX11_init_168 (by decide) (fun q => absurd q (by decide)) (fun _ => ?_)
  refine lv_iconst (v := 0) hx hb dX11_init_171 (by decide) ?_
  refine lv_goto (tgt := 177) hx hb dX11_init_172 (by decide) ?_
  refine n_ast C hK I 5 rfl (by decide) (ws1 := [(h0, .inr (11, [.ref q1, .int 0, .ref q2, .int 0, .ref q3, .ref q4, .int 0, .int 40, .int 999, .int 480, .ref q5, .int 0, .ref q6, .ref q7, .ref q8, .ref q9, .int 0, .int 0, .int 0, .int 0, .ref q10, .int 0, .int 0, .long 0, .long 0, .int 0, .int 0, .int 0, .int 0, .int 0, .ref q11])), (q1, .inl (cI, 200, .inl (fun _ => 0))), (q2, .inl (cI, 80, .inl (fun _ => 0))), (q3, .inl (cI, 8, .inl wX11_init_q3_8)), (q4, .inl (cI, 8, .inl (fun _ => 0))), (q5, .inl (cI, 36, .inl wX11_init_q5_15)), (q6, .inl (cI, 36, .inl (fun _ => 0))), (q7, .inl (cI, 6, .inl (fun _ => 0))), (q8, .inl (cI, 96, .inl (fun _ => 0))), (q9, .inl (cI, 48, .inl (fun _ => 0))), (q10, .inl (cI, 6, .inl (fun _ => 0))), (q11, .inl (cI, 6, .inl (fun _ => 0)))]) rfl dX11_init_177 (fun H locs I => ?_)
  refine lv_iinc (v := 15) (lv' := [(1, .int 15), (0, .ref h0)]) hx hb dX11_init_178 hl (k := 0) rfl (by decide) (by decide) rfl (fun ls hl => ?_)
  refine lv_goto (tgt := 149) hx hb dX11_init_181 (by decide) ?_
  refine lv_iload_n hx hb dX11_init_149 rfl (lv_at hl 0 rfl) ?_
  refine lv_bipush (v := 36) hx hb dX11_init_150 (by decide) ?_
  refine lv_icmp_ge (tgt := 184) hx hb dX11_init_152 (by decide) (fun q => absurd q (by decide)) (fun _ => ?_)
  refine lv_aload_n hx hb dX11_init_155 rfl (lv_at hl 1 rfl) ?_
  refine n_get C hK I inT11 0 11 10 rfl rfl (by decide) rfl fl_X11_32 rfl dX11_init_156 ?_
  refine lv_iload_n hx hb dX11_init_159 rfl (lv_at hl 0 rfl) ?_
  refine lv_iload_n hx hb dX11_init_160 rfl (lv_at hl 0 rfl) ?_
  refine lv_bipush (v := 6) hx hb dX11_init_161 (by decide) ?_
  refine lv_idiv hx hb dX11_init_163 (by decide) ?_
  refine W.eq (g2 := F0 m 164 ls [.int 2, .int 15, .ref q5]) (by first | rfl | decide) ?_
  refine lv_iload_n hx hb dX11_init_164 rfl (lv_at hl 0 rfl) ?_
  refine lv_bipush (v := 6) hx hb dX11_init_165 (by decide) ?_
  refine lv_irem hx hb dX11_init_167 (by decide) ?_
  refine W.eq (g2 := F0 m 168 ls [.int 3, .int 2, .int 15, .ref q5]) (by first | rfl | decide) ?_
  refine lv_icmp_ne (tgt := 175) hx hb dX11_init_168 (by decide) (fun _ => ?_) (fun q => absurd q (by decide))
  refine lv_bipush (v := 10) hx hb dX11_init_175 (by decide) ?_
  refine n_ast C hK I 5 rfl (by decide) (ws1 := [(h0, .inr (11, [.ref q1, .int 0, .ref q2, .int 0, .ref q3, .ref q4, .int 0, .int 40, .int 999, .int 480, .ref q5, .int 0, .ref q6, .ref q7, .ref q8, .ref q9, .int 0, .int 0, .int 0, .int 0, .ref q10, .int 0, .int 0, .long 0, .long 0, .int 0, .int 0, .int 0, .int 0, .int 0, .ref q11])), (q1, .inl (cI, 200, .inl (fun _ => 0))), (q2, .inl (cI, 80, .inl (fun _ => 0))), (q3, .inl (cI, 8, .inl wX11_init_q3_8)), (q4, .inl (cI, 8, .inl (fun _ => 0))), (q5, .inl (cI, 36, .inl wX11_init_q5_16)), (q6, .inl (cI, 36, .inl (fun _ => 0))), (q7, .inl (cI, 6, .inl (fun _ => 0))), (q8, .inl (cI, 96, .inl (fun _ => 0))), (q9, .inl (cI, 48, .inl (fun _ => 0))), (q10, .inl (cI, 6, .inl (fun _ => 0))), (q11, .inl (cI, 6, .inl (fun _ => 0)))]) rfl dX11_init_177 (fun H locs I => ?_)
  refine lv_iinc (v := 16) (lv' := [(1, .int 16), (0, .ref h0)]) hx hb dX11_init_178 hl (k := 0) rfl (by decide) (by decide) rfl (fun ls hl => ?_)
  refine lv_goto (tgt := 149) hx hb dX11_init_181 (by decide) ?_
  refine lv_iload_n hx hb dX11_init_149 rfl (lv_at hl 0 rfl) ?_
  refine lv_bipush (v := 36) hx hb dX11_init_150 (by decide) ?_
  refine lv_icmp_ge (tgt := 184) hx hb dX11_init_152 (by decide) (fun q => absurd q (by decide)) (fun _ => ?_)
  refine lv_aload_n hx hb dX11_init_155 rfl (lv_at hl 1 rfl) ?_
  refine n_get C hK I inT11 0 11 10 rfl rfl (by decide) rfl fl_X11_32 rfl dX11_init_156 ?_
  refine lv_iload_n hx hb dX11_init_159 rfl (lv_at hl 0 rfl) ?_
  refine lv_iload_n hx hb dX11_init_160 rfl (lv_at hl 0 rfl) ?_
  refine lv_bipush (v := 6) hx hb dX11_init_161 (by decide) ?_
  refine lv_idiv hx hb dX11_init_163 (by decide) ?_
  refine W.eq (g2 := F0 m 164 ls [.int 2, .int 16, .ref q5]) (by first | rfl | decide) ?_
  refine lv_iload_n hx hb dX11_init_164 rfl (lv_at hl 0 rfl) ?_
  refine lv_bipush (v := 6) hx hb dX11_init_165 (by decide) ?_
  refine lv_irem hx hb dX11_init_167 (by decide) ?_
  refine W.eq (g2 := F0 m 168 ls [.int 4, .int 2, .int 16, .ref q5]) (by first | rfl | decide) ?_
  refine lv_icmp_ne (tgt := 175) hx hb dX11_init_168 (by decide) (fun _ => ?_) (fun q => absurd q (by decide))
  refine lv_bipush (v := 10) hx hb dX11_init_175 (by decide) ?_
  refine n_ast C hK I 5 rfl (by decide) (ws1 := [(h0, .inr (11, [.ref q1, .int 0, .ref q2, .int 0, .ref q3, .ref q4, .int 0, .int 40, .int 999, .int 480, .ref q5, .int 0, .ref q6, .ref q7, .ref q8, .ref q9, .int 0, .int 0, .int 0, .int 0, .ref q10, .int 0, .int 0, .long 0, .long 0, .int 0, .int 0, .int 0, .int 0, .int 0, .ref q11])), (q1, .inl (cI, 200, .inl (fun _ => 0))), (q2, .inl (cI, 80, .inl (fun _ => 0))), (q3, .inl (cI, 8, .inl wX11_init_q3_8)), (q4, .inl (cI, 8, .inl (fun _ => 0))), (q5, .inl (cI, 36, .inl wX11_init_q5_17)), (q6, .inl (cI, 36, .inl (fun _ => 0))), (q7, .inl (cI, 6, .inl (fun _ => 0))), (q8, .inl (cI, 96, .inl (fun _ => 0))), (q9, .inl (cI, 48, .inl (fun _ => 0))), (q10, .inl (cI, 6, .inl (fun _ => 0))), (q11, .inl (cI, 6, .inl (fun _ => 0)))]) rfl dX11_init_177 (fun H locs I => ?_)
  refine lv_iinc (v := 17) (lv' := [(1, .int 17), (0, .ref h0)]) hx hb dX11_init_178 hl (k := 0) rfl (by decide) (by decide) rfl (fun ls hl => ?_)
  refine lv_goto (tgt := 149) hx hb dX11_init_181 (by decide) ?_
  refine lv_iload_n hx hb dX11_init_149 rfl (lv_at hl 0 rfl) ?_
  refine lv_bipush (v := 36) hx hb dX11_init_150 (by decide) ?_
  refine lv_icmp_ge (tgt := 184) hx hb dX11_init_152 (by decide) (fun q => absurd q (by decide)) (fun _ => ?_)
  refine lv_aload_n hx hb dX11_init_155 rfl (lv_at hl 1 rfl) ?_
  refine n_get C hK I inT11 0 11 10 rfl rfl (by decide) rfl fl_X11_32 rfl dX11_init_156 ?_
  refine lv_iload_n hx hb dX11_init_159 rfl (lv_at hl 0 rfl) ?_
  refine lv_iload_n hx hb dX11_init_160 rfl (lv_at hl 0 rfl) ?_
  refine lv_bipush (v := 6) hx hb dX11_init_161 (by decide) ?_
  refine lv_idiv hx hb dX11_init_163 (by decide) ?_
  refine W.eq (g2 := F0 m 164 ls [.int 2, .int 17, .ref q5]) (by first | rfl | decide) ?_
  refine lv_iload_n hx hb dX11_init_164 rfl (lv_at hl 0 rfl) ?_
  refine lv_bipush (v := 6) hx hb dX11_init_165 (by decide) ?_
  refine lv_irem hx hb dX11_init_167 (by decide) ?_
  refine W.eq (g2 := F0 m 168 ls [.int 5, .int 2, .int 17, .ref q5]) (by first | rfl | decide) ?_
  refine lv_icmp_ne (tgt := 175) hx hb dX11_init_168 (by decide) (fun _ => ?_) (fun q => absurd q (by decide))
  refine lv_bipush (v := 10) hx hb dX11_init_175 (by decide) ?_
  refine n_ast C hK I 5 rfl (by decide) (ws1 := [(h0, .inr (11, [.ref q1, .int 0, .ref q2, .int 0, .ref q3, .ref q4, .int 0, .int 40, .int 999, .int 480, .ref q5, .int 0, .ref q6, .ref q7, .ref q8, .ref q9, .int 0, .int 0, .int 0, .int 0, .ref q10, .int 0, .int 0, .long 0, .long 0, .int 0, .int 0, .int 0, .int 0, .int 0, .ref q11])), (q1, .inl (cI, 200, .inl (fun _ => 0))), (q2, .inl (cI, 80, .inl (fun _ => 0))), (q3, .inl (cI, 8, .inl wX11_init_q3_8)), (q4, .inl (cI, 8, .inl (fun _ => 0))), (q5, .inl (cI, 36, .inl wX11_init_q5_18)), (q6, .inl (cI, 36, .inl (fun _ => 0))), (q7, .inl (cI, 6, .inl (fun _ => 0))), (q8, .inl (cI, 96, .inl (fun _ => 0))), (q9, .inl (cI, 48, .inl (fun _ => 0))), (q10, .inl (cI, 6, .inl (fun _ => 0))), (q11, .inl (cI, 6, .inl (fun _ => 0)))]) rfl dX11_init_177 (fun H locs I => ?_)
  refine lv_iinc (v := 18) (lv' := [(1, .int 18), (0, .ref h0)]) hx hb dX11_init_178 hl (k := 0) rfl (by decide) (by decide) rfl (fun ls hl => ?_)
  refine lv_goto (tgt := 149) hx hb dX11_init_181 (by decide) ?_
  refine lv_iload_n hx hb dX11_init_149 rfl (lv_at hl 0 rfl) ?_
  refine lv_bipush (v := 36) hx hb dX11_init_150 (by decide) ?_
  refine lv_icmp_ge (tgt := 184) hx hb dX11_init_152 (by decide) (fun q => absurd q (by decide)) (fun _ => ?_)
  refine lv_aload_n hx hb dX11_init_155 rfl (lv_at hl 1 rfl) ?_
  refine n_get C hK I inT11 0 11 10 rfl rfl (by decide) rfl fl_X11_32 rfl dX11_init_156 ?_
  refine lv_iload_n hx hb dX11_init_159 rfl (lv_at hl 0 rfl) ?_
  refine lv_iload_n hx hb dX11_init_160 rfl (lv_at hl 0 rfl) ?_
  refine lv_bipush (v := 6) hx hb dX11_init_161 (by decide) ?_
  refine lv_idiv hx hb dX11_init_163 (by decide) ?_
  refine W.eq (g2 := F0 m 164 ls [.int 3, .int 18, .ref q5]) (by first | rfl | decide) ?_
  refine lv_iload_n hx hb dX11_init_164 rfl (lv_at hl 0 rfl) ?_
  refine lv_bipush (v := 6) hx hb dX11_init_165 (by decide) ?_
  refine lv_irem hx hb dX11_init_167 (by decide) ?_
  refine W.eq (g2 := F0 m 168 ls [.int 0, .int 3, .int 18, .ref q5]) (by first | rfl | decide) ?_
  refine lv_icmp_ne (tgt := 175) hx hb dX11_init_168 (by decide) (fun _ => ?_) (fun q => absurd q (by decide))
  refine lv_bipush (v := 10) hx hb dX11_init_175 (by decide) ?_
  refine n_ast C hK I 5 rfl (by decide) (ws1 := [(h0, .inr (11, [.ref q1, .int 0, .ref q2, .int 0, .ref q3, .ref q4, .int 0, .int 40, .int 999, .int 480, .ref q5, .int 0, .ref q6, .ref q7, .ref q8, .ref q9, .int 0, .int 0, .int 0, .int 0, .ref q10, .int 0, .int 0, .long 0, .long 0, .int 0, .int 0, .int 0, .int 0, .int 0, .ref q11])), (q1, .inl (cI, 200, .inl (fun _ => 0))), (q2, .inl (cI, 80, .inl (fun _ => 0))), (q3, .inl (cI, 8, .inl wX11_init_q3_8)), (q4, .inl (cI, 8, .inl (fun _ => 0))), (q5, .inl (cI, 36, .inl wX11_init_q5_19)), (q6, .inl (cI, 36, .inl (fun _ => 0))), (q7, .inl (cI, 6, .inl (fun _ => 0))), (q8, .inl (cI, 96, .inl (fun _ => 0))), (q9, .inl (cI, 48, .inl (fun _ => 0))), (q10, .inl (cI, 6, .inl (fun _ => 0))), (q11, .inl (cI, 6, .inl (fun _ => 0)))]) rfl dX11_init_177 (fun H locs I => ?_)
  refine lv_iinc (v := 19) (lv' := [(1, .int 19), (0, .ref h0)]) hx hb dX11_init_178 hl (k := 0) rfl (by decide) (by decide) rfl (fun ls hl => ?_)
  refine lv_goto (tgt := 149) hx hb dX11_init_181 (by decide) ?_
  refine lv_iload_n hx hb dX11_init_149 rfl (lv_at hl 0 rfl) ?_
  refine lv_bipush (v := 36) hx hb dX11_init_150 (by decide) ?_
  refine lv_icmp_ge (tgt := 184) hx hb dX11_init_152 (by decide) (fun q => absurd q (by decide)) (fun _ => ?_)
  refine lv_aload_n hx hb dX11_init_155 rfl (lv_at hl 1 rfl) ?_
  refine n_get C hK I inT11 0 11 10 rfl rfl (by decide) rfl fl_X11_32 rfl dX11_init_156 ?_
  refine lv_iload_n hx hb dX11_init_159 rfl (lv_at hl 0 rfl) ?_
  refine lv_iload_n hx hb dX11_init_160 rfl (lv_at hl 0 rfl) ?_
  refine lv_bipush (v := 6) hx hb dX11_init_161 (by decide) ?_
  refine lv_idiv hx hb dX11_init_163 (by decide) ?_
  refine W.eq (g2 := F0 m 164 ls [.int 3, .int 19, .ref q5]) (by first | rfl | decide) ?_
  refine lv_iload_n hx hb dX11_init_164 rfl (lv_at hl 0 rfl) ?_
  refine lv_bipush (v := 6) hx hb dX11_init_165 (by decide) ?_
  refine lv_irem hx hb dX11_init_167 (by decide) ?_
  refine W.eq (g2 := F0 m 168 ls [.int 1, .int 3, .int 19, .ref q5]) (by first | rfl | decide) ?_
  refine lv_icmp_ne (tgt := 175) hx hb dX11_init_168 (by decide) (fun _ => ?_) (fun q => absurd q (by decide))
  refine lv_bipush (v := 10) hx hb dX11_init_175 (by decide) ?_
  refine n_ast C hK I 5 rfl (by decide) (ws1 := [(h0, .inr (11, [.ref q1, .int 0, .ref q2, .int 0, .ref q3, .ref q4, .int 0, .int 40, .int 999, .int 480, .ref q5, .int 0, .ref q6, .ref q7, .ref q8, .ref q9, .int 0, .int 0, .int 0, .int 0, .ref q10, .int 0, .int 0, .long 0, .long 0, .int 0, .int 0, .int 0, .int 0, .int 0, .ref q11])), (q1, .inl (cI, 200, .inl (fun _ => 0))), (q2, .inl (cI, 80, .inl (fun _ => 0))), (q3, .inl (cI, 8, .inl wX11_init_q3_8)), (q4, .inl (cI, 8, .inl (fun _ => 0))), (q5, .inl (cI, 36, .inl wX11_init_q5_20)), (q6, .inl (cI, 36, .inl (fun _ => 0))), (q7, .inl (cI, 6, .inl (fun _ => 0))), (q8, .inl (cI, 96, .inl (fun _ => 0))), (q9, .inl (cI, 48, .inl (fun _ => 0))), (q10, .inl (cI, 6, .inl (fun _ => 0))), (q11, .inl (cI, 6, .inl (fun _ => 0)))]) rfl dX11_init_177 (fun H locs I => ?_)
  refine lv_iinc (v := 20) (lv' := [(1, .int 20), (0, .ref h0)]) hx hb dX11_init_178 hl (k := 0) rfl (by decide) (by decide) rfl (fun ls hl => ?_)
  refine lv_goto (tgt := 149) hx hb dX11_init_181 (by decide) ?_
  refine lv_iload_n hx hb dX11_init_149 rfl (lv_at hl 0 rfl) ?_
  refine lv_bipush (v := 36) hx hb dX11_init_150 (by decide) ?_
  refine lv_icmp_ge (tgt := 184) hx hb dX11_init_152 (by decide) (fun q => absurd q (by decide)) (fun _ => ?_)
  refine lv_aload_n hx hb dX11_init_155 rfl (lv_at hl 1 rfl) ?_
  refine n_get C hK I inT11 0 11 10 rfl rfl (by decide) rfl fl_X11_32 rfl dX11_init_156 ?_
  refine lv_iload_n hx hb dX11_init_159 rfl (lv_at hl 0 rfl) ?_
  refine lv_iload_n hx hb dX11_init_160 rfl (lv_at hl 0 rfl) ?_
  refine lv_bipush (v := 6) hx hb dX11_init_161 (by decide) ?_
  refine lv_idiv hx hb dX11_init_163 (by decide) ?_
  refine W.eq (g2 := F0 m 164 ls [.int 3, .int 20, .ref q5]) (by first | rfl | decide) ?_
  refine lv_iload_n hx hb dX11_init_164 rfl (lv_at hl 0 rfl) ?_
  refine lv_bipush (v := 6) hx hb dX11_init_165 (by decide) ?_
  refine lv_irem hx hb dX11_init_167 (by decide) ?_
  refine W.eq (g2 := F0 m 168 ls [.int 2, .int 3, .int 20, .ref q5]) (by first | rfl | decide) ?_
  refine lv_icmp_ne (tgt := 175) hx hb dX11_init_168 (by decide) (fun _ => ?_) (fun q => absurd q (by decide))
  refine lv_bipush (v := 10) hx hb dX11_init_175 (by decide) ?_
  refine n_ast C hK I 5 rfl (by decide) (ws1 := [(h0, .inr (11, [.ref q1, .int 0, .ref q2, .int 0, .ref q3, .ref q4, .int 0, .int 40, .int 999, .int 480, .ref q5, .int 0, .ref q6, .ref q7, .ref q8, .ref q9, .int 0, .int 0, .int 0, .int 0, .ref q10, .int 0, .int 0, .long 0, .long 0, .int 0, .int 0, .int 0, .int 0, .int 0, .ref q11])), (q1, .inl (cI, 200, .inl (fun _ => 0))), (q2, .inl (cI, 80, .inl (fun _ => 0))), (q3, .inl (cI, 8, .inl wX11_init_q3_8)), (q4, .inl (cI, 8, .inl (fun _ => 0))), (q5, .inl (cI, 36, .inl wX11_init_q5_21)), (q6, .inl (cI, 36, .inl (fun _ => 0))), (q7, .inl (cI, 6, .inl (fun _ => 0))), (q8, .inl (cI, 96, .inl (fun _ => 0))), (q9, .inl (cI, 48, .inl (fun _ => 0))), (q10, .inl (cI, 6, .inl (fun _ => 0))), (q11, .inl (cI, 6, .inl (fun _ => 0)))]) rfl dX11_init_177 (fun H locs I => ?_)
  refine lv_iinc (v := 21) (lv' := [(1, .int 21), (0, .ref h0)]) hx hb dX11_init_178 hl (k := 0) rfl (by decide) (by decide) rfl (fun ls hl => ?_)
  refine lv_goto (tgt := 149) hx hb dX11_init_181 (by decide) ?_
  refine lv_iload_n hx hb dX11_init_149 rfl (lv_at hl 0 rfl) ?_
  refine lv_bipush (v := 36) hx hb dX11_init_150 (by decide) ?_
  refine lv_icmp_ge (tgt := 184) hx hb dX11_init_152 (by decide) (fun q => absurd q (by decide)) (fun _ => ?_)
  refine lv_aload_n hx hb dX11_init_155 rfl (lv_at hl 1 rfl) ?_
  refine n_get C hK I inT11 0 11 10 rfl rfl (by decide) rfl fl_X11_32 rfl dX11_init_156 ?_
  refine lv_iload_n hx hb dX11_init_159 rfl (lv_at hl 0 rfl) ?_
  refine lv_iload_n hx hb dX11_init_160 rfl (lv_at hl 0 rfl) ?_
  refine lv_bipush (v := 6) hx hb dX11_init_161 (by decide) ?_
  refine lv_idiv hx hb dX11_init_163 (by decide) ?_
  refine W.eq (g2 := F0 m 164 ls [.int 3, .int 21, .ref q5]) (by first | rfl | decide) ?_
  refine lv_iload_n hx hb dX11_init_164 rfl (lv_at hl 0 rfl) ?_
  refine lv_bipush (v := 6) hx hb dX11_init_165 (by decide) ?_
  refine lv_irem hx hb dX11_init_167 (by decide) ?_
  refine W.eq (g2 := F0 m 168 ls [.int 3, .int 3, .int 21, .ref q5]) (by first | rfl | decide) ?_
  refine lv_icmp_ne (tgt := 175) hx hb dX11_init_168 (by decide) (fun q => absurd q (by decide)) (fun _ => ?_)
  refine lv_iconst (v := 0) hx hb dX11_init_171 (by decide) ?_
  refine lv_goto (tgt := 177) hx hb dX11_init_172 (by decide) ?_
  refine n_ast C hK I 5 rfl (by decide) (ws1 := [(h0, .inr (11, [.ref q1, .int 0, .ref q2, .int 0, .ref q3, .ref q4, .int 0, .int 40, .int 999, .int 480, .ref q5, .int 0, .ref q6, .ref q7, .ref q8, .ref q9, .int 0, .int 0, .int 0, .int 0, .ref q10, .int 0, .int 0, .long 0, .long 0, .int 0, .int 0, .int 0, .int 0, .int 0, .ref q11])), (q1, .inl (cI, 200, .inl (fun _ => 0))), (q2, .inl (cI, 80, .inl (fun _ => 0))), (q3, .inl (cI, 8, .inl wX11_init_q3_8)), (q4, .inl (cI, 8, .inl (fun _ => 0))), (q5, .inl (cI, 36, .inl wX11_init_q5_22)), (q6, .inl (cI, 36, .inl (fun _ => 0))), (q7, .inl (cI, 6, .inl (fun _ => 0))), (q8, .inl (cI, 96, .inl (fun _ => 0))), (q9, .inl (cI, 48, .inl (fun _ => 0))), (q10, .inl (cI, 6, .inl (fun _ => 0))), (q11, .inl (cI, 6, .inl (fun _ => 0)))]) rfl dX11_init_177 (fun H locs I => ?_)
  refine lv_iinc (v := 22) (lv' := [(1, .int 22), (0, .ref h0)]) hx hb dX11_init_178 hl (k := 0) rfl (by decide) (by decide) rfl (fun ls hl => ?_)
  refine lv_goto (tgt := 149) hx hb dX11_init_181 (by decide) ?_
  refine lv_iload_n hx hb dX11_init_149 rfl (lv_at hl 0 rfl) ?_
  refine lv_bipush (v := 36) hx hb dX11_init_150 (by decide) ?_
  refine lv_icmp_ge (tgt := 184) hx hb dX11_init_152 (by decide) (fun q => absurd q (by decide)) (fun _ => ?_)
  refine lv_aload_n hx hb dX11_init_155 rfl (lv_at hl 1 rfl) ?_
  refine n_get C hK I inT11 0 11 10 rfl rfl (by decide) rfl fl_X11_32 rfl dX11_init_156 ?_
  refine lv_iload_n hx hb dX11_init_159 rfl (lv_at hl 0 rfl) ?_
  refine lv_iload_n hx hb dX11_init_160 rfl (lv_at hl 0 rfl) ?_
  refine lv_bipush (v := 6) hx hb dX11_init_161 (by decide) ?_
  refine lv_idiv hx hb dX11_init_163 (by decide) ?_
  refine W.eq (g2 := F0 m 164 ls [.int 3, .int 22, .ref q5]) (by first | rfl | decide) ?_
  refine lv_iload_n hx hb dX11_init_164 rfl (lv_at hl 0 rfl) ?_
  refine lv_bipush (v := 6) hx hb dX11_init_165 (by decide) ?_
  refine lv_irem hx hb dX11_init_167 (by decide) ?_
  refine W.eq (g2 := F0 m 168 ls [.int 4, .int 3, .int 22, .ref q5]) (by first | rfl | decide) ?_
  refine lv_icmp_ne (tgt := 175) hx hb dX11_init_168 (by decide) (fun _ => ?_) (fun q => absurd q (by decide))
  refine lv_bipush (v := 10) hx hb dX11_init_175 (by decide) ?_
  refine n_ast C hK I 5 rfl (by decide) (ws1 := [(h0, .inr (11, [.ref q1, .int 0, .ref q2, .int 0, .ref q3, .ref q4, .int 0, .int 40, .int 999, .int 480, .ref q5, .int 0, .ref q6, .ref q7, .ref q8, .ref q9, .int 0, .int 0, .int 0, .int 0, .ref q10, .int 0, .int 0, .long 0, .long 0, .int 0, .int 0, .int 0, .int 0, .int 0, .ref q11])), (q1, .inl (cI, 200, .inl (fun _ => 0))), (q2, .inl (cI, 80, .inl (fun _ => 0))), (q3, .inl (cI, 8, .inl wX11_init_q3_8)), (q4, .inl (cI, 8, .inl (fun _ => 0))), (q5, .inl (cI, 36, .inl wX11_init_q5_23)), (q6, .inl (cI, 36, .inl (fun _ => 0))), (q7, .inl (cI, 6, .inl (fun _ => 0))), (q8, .inl (cI, 96, .inl (fun _ => 0))), (q9, .inl (cI, 48, .inl (fun _ => 0))), (q10, .inl (cI, 6, .inl (fun _ => 0))), (q11, .inl (cI, 6, .inl (fun _ => 0)))]) rfl dX11_init_177 (fun H locs I => ?_)
  refine lv_iinc (v := 23) (lv' := [(1, .int 23), (0, .ref h0)]) hx hb dX11_init_178 hl (k := 0) rfl (by decide) (by decide) rfl (fun ls hl => ?_)
  refine lv_goto (tgt := 149) hx hb dX11_init_181 (by decide) ?_
  refine lv_iload_n hx hb dX11_init_149 rfl (lv_at hl 0 rfl) ?_
  refine lv_bipush (v := 36) hx hb dX11_init_150 (by decide) ?_
  refine lv_icmp_ge (tgt := 184) hx hb dX11_init_152 (by decide) (fun q => absurd q (by decide)) (fun _ => ?_)
  refine lv_aload_n hx hb dX11_init_155 rfl (lv_at hl 1 rfl) ?_
  refine n_get C hK I inT11 0 11 10 rfl rfl (by decide) rfl fl_X11_32 rfl dX11_init_156 ?_
  refine lv_iload_n hx hb dX11_init_159 rfl (lv_at hl 0 rfl) ?_
  refine lv_iload_n hx hb dX11_init_160 rfl (lv_at hl 0 rfl) ?_
  refine lv_bipush (v := 6) hx hb dX11_init_161 (by decide) ?_
  refine lv_idiv hx hb dX11_init_163 (by decide) ?_
  refine W.eq (g2 := F0 m 164 ls [.int 3, .int 23, .ref q5]) (by first | rfl | decide) ?_
  refine lv_iload_n hx hb dX11_init_164 rfl (lv_at hl 0 rfl) ?_
  refine lv_bipush (v := 6) hx hb dX11_init_165 (by decide) ?_
  refine lv_irem hx hb dX11_init_167 (by decide) ?_
  refine W.eq (g2 := F0 m 168 ls [.int 5, .int 3, .int 23, .ref q5]) (by first | rfl | decide) ?_
  refine lv_icmp_ne (tgt := 175) hx hb dX11_init_168 (by decide) (fun _ => ?_) (fun q => absurd q (by decide))
  refine lv_bipush (v := 10) hx hb dX11_init_175 (by decide) ?_
  refine n_ast C hK I 5 rfl (by decide) (ws1 := [(h0, .inr (11, [.ref q1, .int 0, .ref q2, .int 0, .ref q3, .ref q4, .int 0, .int 40, .int 999, .int 480, .ref q5, .int 0, .ref q6, .ref q7, .ref q8, .ref q9, .int 0, .int 0, .int 0, .int 0, .ref q10, .int 0, .int 0, .long 0, .long 0, .int 0, .int 0, .int 0, .int 0, .int 0, .ref q11])), (q1, .inl (cI, 200, .inl (fun _ => 0))), (q2, .inl (cI, 80, .inl (fun _ => 0))), (q3, .inl (cI, 8, .inl wX11_init_q3_8)), (q4, .inl (cI, 8, .inl (fun _ => 0))), (q5, .inl (cI, 36, .inl wX11_init_q5_24)), (q6, .inl (cI, 36, .inl (fun _ => 0))), (q7, .inl (cI, 6, .inl (fun _ => 0))), (q8, .inl (cI, 96, .inl (fun _ => 0))), (q9, .inl (cI, 48, .inl (fun _ => 0))), (q10, .inl (cI, 6, .inl (fun _ => 0))), (q11, .inl (cI, 6, .inl (fun _ => 0)))]) rfl dX11_init_177 (fun H locs I => ?_)
  refine lv_iinc (v := 24) (lv' := [(1, .int 24), (0, .ref h0)]) hx hb dX11_init_178 hl (k := 0) rfl (by decide) (by decide) rfl (fun ls hl => ?_)
  refine lv_goto (tgt := 149) hx hb dX11_init_181 (by decide) ?_
  refine lv_iload_n hx hb dX11_init_149 rfl (lv_at hl 0 rfl) ?_
  refine lv_bipush (v := 36) hx hb dX11_init_150 (by decide) ?_
  refine lv_icmp_ge (tgt := 184) hx hb dX11_init_152 (by decide) (fun q => absurd q (by decide)) (fun _ => ?_)
  refine lv_aload_n hx hb dX11_init_155 rfl (lv_at hl 1 rfl) ?_
  refine n_get C hK I inT11 0 11 10 rfl rfl (by decide) rfl fl_X11_32 rfl dX11_init_156 ?_
  refine lv_iload_n hx hb dX11_init_159 rfl (lv_at hl 0 rfl) ?_
  refine lv_iload_n hx hb dX11_init_160 rfl (lv_at hl 0 rfl) ?_
  refine lv_bipush (v := 6) hx hb dX11_init_161 (by decide) ?_
  refine lv_idiv hx hb dX11_init_163 (by decide) ?_
  refine W.eq (g2 := F0 m 164 ls [.int 4, .int 24, .ref q5]) (by first | rfl | decide) ?_
  refine lv_iload_n hx hb dX11_init_164 rfl (lv_at hl 0 rfl) ?_
  refine lv_bipush (v := 6) hx hb dX11_init_165 (by decide) ?_
  refine lv_irem hx hb dX11_init_167 (by decide) ?_
  refine W.eq (g2 := F0 m 168 ls [.int 0, .int 4, .int 24, .ref q5]) (by first | rfl | decide) ?_
  refine lv_icmp_ne (tgt := 175) hx hb dX11_init_168 (by decide) (fun _ => ?_) (fun q => absurd q (by decide))
  refine lv_bipush (v := 10) hx hb dX11_init_175 (by decide) ?_
  refine n_ast C hK I 5 rfl (by decide) (ws1 := [(h0, .inr (11, [.ref q1, .int 0, .ref q2, .int 0, .ref q3, .ref q4, .int 0, .int 40, .int 999, .int 480, .ref q5, .int 0, .ref q6, .ref q7, .ref q8, .ref q9, .int 0, .int 0, .int 0, .int 0, .ref q10, .int 0, .int 0, .long 0, .long 0, .int 0, .int 0, .int 0, .int 0, .int 0, .ref q11])), (q1, .inl (cI, 200, .inl (fun _ => 0))), (q2, .inl (cI, 80, .inl (fun _ => 0))), (q3, .inl (cI, 8, .inl wX11_init_q3_8)), (q4, .inl (cI, 8, .inl (fun _ => 0))), (q5, .inl (cI, 36, .inl wX11_init_q5_25)), (q6, .inl (cI, 36, .inl (fun _ => 0))), (q7, .inl (cI, 6, .inl (fun _ => 0))), (q8, .inl (cI, 96, .inl (fun _ => 0))), (q9, .inl (cI, 48, .inl (fun _ => 0))), (q10, .inl (cI, 6, .inl (fun _ => 0))), (q11, .inl (cI, 6, .inl (fun _ => 0)))]) rfl dX11_init_177 (fun H locs I => ?_)
  refine lv_iinc (v := 25) (lv' := [(1, .int 25), (0, .ref h0)]) hx hb dX11_init_178 hl (k := 0) rfl (by decide) (by decide) rfl (fun ls hl => ?_)
  refine lv_goto (tgt := 149) hx hb dX11_init_181 (by decide) ?_
  refine lv_iload_n hx hb dX11_init_149 rfl (lv_at hl 0 rfl) ?_
  refine lv_bipush (v := 36) hx hb dX11_init_150 (by decide) ?_
  refine lv_icmp_ge (tgt := 184) hx hb dX11_init_152 (by decide) (fun q => absurd q (by decide)) (fun _ => ?_)
  refine lv_aload_n hx hb dX11_init_155 rfl (lv_at hl 1 rfl) ?_
  refine n_get C hK I inT11 0 11 10 rfl rfl (by decide) rfl fl_X11_32 rfl dX11_init_156 ?_
  refine lv_iload_n hx hb dX11_init_159 rfl (lv_at hl 0 rfl) ?_
  refine lv_iload_n hx hb dX11_init_160 rfl (lv_at hl 0 rfl) ?_
  refine lv_bipush (v := 6) hx hb dX11_init_161 (by decide) ?_
  refine lv_idiv hx hb dX11_init_163 (by decide) ?_
  refine W.eq (g2 := F0 m 164 ls [.int 4, .int 25, .ref q5]) (by first | rfl | decide) ?_
  refine lv_iload_n hx hb dX11_init_164 rfl (lv_at hl 0 rfl) ?_
  refine lv_bipush (v := 6) hx hb dX11_init_165 (by decide) ?_
  refine lv_irem hx hb dX11_init_167 (by decide) ?_
  refine W.eq (g2 := F0 m 168 ls [.int 1, .int 4, .int 25, .ref q5]) (by first | rfl | decide) ?_
  refine lv_icmp_ne (tgt := 175) hx hb dX11_init_168 (by decide) (fun _ => ?_) (fun q => absurd q (by decide))
  refine lv_bipush (v := 10) hx hb dX11_init_175 (by decide) ?_
  refine n_ast C hK I 5 rfl (by decide) (ws1 := [(h0, .inr (11, [.ref q1, .int 0, .ref q2, .int 0, .ref q3, .ref q4, .int 0, .int 40, .int 999, .int 480, .ref q5, .int 0, .ref q6, .ref q7, .ref q8, .ref q9, .int 0, .int 0, .int 0, .int 0, .ref q10, .int 0, .int 0, .long 0, .long 0, .int 0, .int 0, .int 0, .int 0, .int 0, .ref q11])), (q1, .inl (cI, 200, .inl (fun _ => 0))), (q2, .inl (cI, 80, .inl (fun _ => 0))), (q3, .inl (cI, 8, .inl wX11_init_q3_8)), (q4, .inl (cI, 8, .inl (fun _ => 0))), (q5, .inl (cI, 36, .inl wX11_init_q5_26)), (q6, .inl (cI, 36, .inl (fun _ => 0))), (q7, .inl (cI, 6, .inl (fun _ => 0))), (q8, .inl (cI, 96, .inl (fun _ => 0))), (q9, .inl (cI, 48, .inl (fun _ => 0))), (q10, .inl (cI, 6, .inl (fun _ => 0))), (q11, .inl (cI, 6, .inl (fun _ => 0)))]) rfl dX11_init_177 (fun H locs I => ?_)
  refine lv_iinc (v := 26) (lv' := [(1, .int 26), (0, .ref h0)]) hx hb dX11_init_178 hl (k := 0) rfl (by decide) (by decide) rfl (fun ls hl => ?_)
  refine lv_goto (tgt := 149) hx hb dX11_init_181 (by decide) ?_
  refine lv_iload_n hx hb dX11_init_149 rfl (lv_at hl 0 rfl) ?_
  refine lv_bipush (v := 36) hx hb dX11_init_150 (by decide) ?_
  refine lv_icmp_ge (tgt := 184) hx hb dX11_init_152 (by decide) (fun q => absurd q (by decide)) (fun _ => ?_)
  refine lv_aload_n hx hb dX11_init_155 rfl (lv_at hl 1 rfl) ?_
  refine n_get C hK I inT11 0 11 10 rfl rfl (by decide) rfl fl_X11_32 rfl dX11_init_156 ?_
  refine lv_iload_n hx hb dX11_init_159 rfl (lv_at hl 0 rfl) ?_
  refine lv_iload_n hx hb dX11_init_160 rfl (lv_at hl 0 rfl) ?_
  refine lv_bipush (v := 6) hx hb dX11_init_161 (by decide) ?_
  refine lv_idiv hx hb dX11_init_163 (by decide) ?_
  refine W.eq (g2 := F0 m 164 ls [.int 4, .int 26, .ref q5]) (by first | rfl | decide) ?_
  refine lv_iload_n hx hb dX11_init_164 rfl (lv_at hl 0 rfl) ?_
  refine lv_bipush (v := 6) hx hb dX11_init_165 (by decide) ?_
  refine lv_irem hx hb dX11_init_167 (by decide) ?_
  refine W.eq (g2 := F0 m 168 ls [.int 2, .int 4, .int 26, .ref q5]) (by first | rfl | decide) ?_
  refine lv_icmp_ne (tgt := 175) hx hb dX11_init_168 (by decide) (fun _ => ?_) (fun q => absurd q (by decide))
  refine lv_bipush (v := 10) hx hb dX11_init_175 (by decide) ?_
  refine n_ast C hK I 5 rfl (by decide) (ws1 := [(h0, .inr (11, [.ref q1, .int 0, .ref q2, .int 0, .ref q3, .ref q4, .int 0, .int 40, .int 999, .int 480, .ref q5, .int 0, .ref q6, .ref q7, .ref q8, .ref q9, .int 0, .int 0, .int 0, .int 0, .ref q10, .int 0, .int 0, .long 0, .long 0, .int 0, .int 0, .int 0, .int 0, .int 0, .ref q11])), (q1, .inl (cI, 200, .inl (fun _ => 0))), (q2, .inl (cI, 80, .inl (fun _ => 0))), (q3, .inl (cI, 8, .inl wX11_init_q3_8)), (q4, .inl (cI, 8, .inl (fun _ => 0))), (q5, .inl (cI, 36, .inl wX11_init_q5_27)), (q6, .inl (cI, 36, .inl (fun _ => 0))), (q7, .inl (cI, 6, .inl (fun _ => 0))), (q8, .inl (cI, 96, .inl (fun _ => 0))), (q9, .inl (cI, 48, .inl (fun _ => 0))), (q10, .inl (cI, 6, .inl (fun _ => 0))), (q11, .inl (cI, 6, .inl (fun _ => 0)))]) rfl dX11_init_177 (fun H locs I => ?_)
  refine lv_iinc (v := 27) (lv' := [(1, .int 27), (0, .ref h0)]) hx hb dX11_init_178 hl (k := 0) rfl (by decide) (by decide) rfl (fun ls hl => ?_)
  refine lv_goto (tgt := 149) hx hb dX11_init_181 (by decide) ?_
  refine lv_iload_n hx hb dX11_init_149 rfl (lv_at hl 0 rfl) ?_
  refine lv_bipush (v := 36) hx hb dX11_init_150 (by decide) ?_
  refine lv_icmp_ge (tgt := 184) hx hb dX11_init_152 (by decide) (fun q => absurd q (by decide)) (fun _ => ?_)
  refine lv_aload_n hx hb dX11_init_155 rfl (lv_at hl 1 rfl) ?_
  refine n_get C hK I inT11 0 11 10 rfl rfl (by decide) rfl fl_X11_32 rfl dX11_init_156 ?_
  refine lv_iload_n hx hb dX11_init_159 rfl (lv_at hl 0 rfl) ?_
  refine lv_iload_n hx hb dX11_init_160 rfl (lv_at hl 0 rfl) ?_
  refine lv_bipush (v := 6) hx hb dX11_init_161 (by decide) ?_
  refine lv_idiv hx hb dX11_init_163 (by decide) ?_
  refine W.eq (g2 := F0 m 164 ls [.int 4, .int 27, .ref q5]) (by first | rfl | decide) ?_
  refine lv_iload_n hx hb dX11_init_164 rfl (lv_at hl 0 rfl) ?_
  refine lv_bipush (v := 6) hx hb dX11_init_165 (by decide) ?_
  refine lv_irem hx hb dX11_init_167 (by decide) ?_
  refine W.eq (g2 := F0 m 168 ls [.int 3, .int 4, .int 27, .ref q5]) (by first | rfl | decide) ?_
  refine lv_icmp_ne (tgt := 175) hx hb dX11_init_168 (by decide) (fun _ => ?_) (fun q => absurd q (by decide))
  refine lv_bipush (v := 10) hx hb dX11_init_175 (by decide) ?_
  refine n_ast C hK I 5 rfl (by decide) (ws1 := [(h0, .inr (11, [.ref q1, .int 0, .ref q2, .int 0, .ref q3, .ref q4, .int 0, .int 40, .int 999, .int 480, .ref q5, .int 0, .ref q6, .ref q7, .ref q8, .ref q9, .int 0, .int 0, .int 0, .int 0, .ref q10, .int 0, .int 0, .long 0, .long 0, .int 0, .int 0, .int 0, .int 0, .int 0, .ref q11])), (q1, .inl (cI, 200, .inl (fun _ => 0))), (q2, .inl (cI, 80, .inl (fun _ => 0))), (q3, .inl (cI, 8, .inl wX11_init_q3_8)), (q4, .inl (cI, 8, .inl (fun _ => 0))), (q5, .inl (cI, 36, .inl wX11_init_q5_28)), (q6, .inl (cI, 36, .inl (fun _ => 0))), (q7, .inl (cI, 6, .inl (fun _ => 0))), (q8, .inl (cI, 96, .inl (fun _ => 0))), (q9, .inl (cI, 48, .inl (fun _ => 0))), (q10, .inl (cI, 6, .inl (fun _ => 0))), (q11, .inl (cI, 6, .inl (fun _ => 0)))]) rfl dX11_init_177 (fun H locs I => ?_)
  refine lv_iinc (v := 28) (lv' := [(1, .int 28), (0, .ref h0)]) hx hb dX11_init_178 hl (k := 0) rfl (by decide) (by decide) rfl (fun ls hl => ?_)
  refine lv_goto (tgt := 149) hx hb dX11_init_181 (by decide) ?_
  refine lv_iload_n hx hb dX11_init_149 rfl (lv_at hl 0 rfl) ?_
  refine lv_bipush (v := 36) hx hb dX11_init_150 (by decide) ?_
  refine lv_icmp_ge (tgt := 184) hx hb dX11_init_152 (by decide) (fun q => absurd q (by decide)) (fun _ => ?_)
  refine lv_aload_n hx hb dX11_init_155 rfl (lv_at hl 1 rfl) ?_
  refine n_get C hK I inT11 0 11 10 rfl rfl (by decide) rfl fl_X11_32 rfl dX11_init_156 ?_
  refine lv_iload_n hx hb dX11_init_159 rfl (lv_at hl 0 rfl) ?_
  refine lv_iload_n hx hb dX11_init_160 rfl (lv_at hl 0 rfl) ?_
  refine lv_bipush (v := 6) hx hb dX11_init_161 (by decide) ?_
  refine lv_idiv hx hb dX11_init_163 (by decide) ?_
  refine W.eq (g2 := F0 m 164 ls [.int 4, .int 28, .ref q5]) (by first | rfl | decide) ?_
  refine lv_iload_n hx hb dX11_init_164 rfl (lv_at hl 0 rfl) ?_
  refine lv_bipush (v := 6) hx hb dX11_init_165 (by decide) ?_
  refine lv_irem hx hb dX11_init_167 (by decide) ?_
  refine W.eq (g2 := F0 m 168 ls [.int 4, .int 4, .int 28, .ref q5]) (by first | rfl | decide) ?_
  refine lv_icmp_ne (tgt := 175) hx hb dX11_init_168 (by decide) (fun q => absurd q (by decide)) (fun _ => ?_)
  refine lv_iconst (v := 0) hx hb dX11_init_171 (by decide) ?_
  refine lv_goto (tgt := 177) hx hb dX11_init_172 (by decide) ?_
  refine n_ast C hK I 5 rfl (by decide) (ws1 := [(h0, .inr (11, [.ref q1, .int 0, .ref q2, .int 0, .ref q3, .ref q4, .int 0, .int 40, .int 999, .int 480, .ref q5, .int 0, .ref q6, .ref q7, .ref q8, .ref q9, .int 0, .int 0, .int 0, .int 0, .ref q10, .int 0, .int 0, .long 0, .long 0, .int 0, .int 0, .int 0, .int 0, .int 0, .ref q11])), (q1, .inl (cI, 200, .inl (fun _ => 0))), (q2, .inl (cI, 80, .inl (fun _ => 0))), (q3, .inl (cI, 8, .inl wX11_init_q3_8)), (q4, .inl (cI, 8, .inl (fun _ => 0))), (q5, .inl (cI, 36, .inl wX11_init_q5_29)), (q6, .inl (cI, 36, .inl (fun _ => 0))), (q7, .inl (cI, 6, .inl (fun _ => 0))), (q8, .inl (cI, 96, .inl (fun _ => 0))), (q9, .inl (cI, 48, .inl (fun _ => 0))), (q10, .inl (cI, 6, .inl (fun _ => 0))), (q11, .inl (cI, 6, .inl (fun _ => 0)))]) rfl dX11_init_177 (fun H locs I => ?_)
  refine lv_iinc (v := 29) (lv' := [(1, .int 29), (0, .ref h0)]) hx hb dX11_init_178 hl (k := 0) rfl (by decide) (by decide) rfl (fun ls hl => ?_)
  refine lv_goto (tgt := 149) hx hb dX11_init_181 (by decide) ?_
  refine lv_iload_n hx hb dX11_init_149 rfl (lv_at hl 0 rfl) ?_
  refine lv_bipush (v := 36) hx hb dX11_init_150 (by decide) ?_
  refine lv_icmp_ge (tgt := 184) hx hb dX11_init_152 (by decide) (fun q => absurd q (by decide)) (fun _ => ?_)
  refine lv_aload_n hx hb dX11_init_155 rfl (lv_at hl 1 rfl) ?_
  refine n_get C hK I inT11 0 11 10 rfl rfl (by decide) rfl fl_X11_32 rfl dX11_init_156 ?_
  refine lv_iload_n hx hb dX11_init_159 rfl (lv_at hl 0 rfl) ?_
  refine lv_iload_n hx hb dX11_init_160 rfl (lv_at hl 0 rfl) ?_
  refine lv_bipush (v := 6) hx hb dX11_init_161 (by decide) ?_
  refine lv_idiv hx hb dX11_init_163 (by decide) ?_
  refine W.eq (g2 := F0 m 164 ls [.int 4, .int 29, .ref q5]) (by first | rfl | decide) ?_
  refine lv_iload_n hx hb dX11_init_164 rfl (lv_at hl 0 rfl) ?_
  refine lv_bipush (v := 6) hx hb dX11_init_165 (by decide) ?_
  refine lv_irem hx hb dX11_init_167 (by decide) ?_
  refine W.eq (g2 := F0 m 168 ls [.int 5, .int 4, .int 29, .ref q5]) (by first | rfl | decide) ?_
  refine lv_icmp_ne (tgt := 175) hx hb dX11_init_168 (by decide) (fun _ => ?_) (fun q => absurd q (by decide))
  refine lv_bipush (v := 10) hx hb dX11_init_175 (by decide) ?_
  refine n_ast C hK I 5 rfl (by decide) (ws1 := [(h0, .inr (11, [.ref q1, .int 0, .ref q2, .int 0, .ref q3, .ref q4, .int 0, .int 40, .int 999, .int 480, .ref q5, .int 0, .ref q6, .ref q7, .ref q8, .ref q9, .int 0, .int 0, .int 0, .int 0, .ref q10, .int 0, .int 0, .long 0, .long 0, .int 0, .int 0, .int 0, .int 0, .int 0, .ref q11])), (q1, .inl (cI, 200, .inl (fun _ => 0))), (q2, .inl (cI, 80, .inl (fun _ => 0))), (q3, .inl (cI, 8, .inl wX11_init_q3_8)), (q4, .inl (cI, 8, .inl (fun _ => 0))), (q5, .inl (cI, 36, .inl wX11_init_q5_30)), (q6, .inl (cI, 36, .inl (fun _ => 0))), (q7, .inl (cI, 6, .inl (fun _ => 0))), (q8, .inl (cI, 96, .inl (fun _ => 0))), (q9, .inl (cI, 48, .inl (fun _ => 0))), (q10, .inl (cI, 6, .inl (fun _ => 0))), (q11, .inl (cI, 6, .inl (fun _ => 0)))]) rfl dX11_init_177 (fun H locs I => ?_)
  refine lv_iinc (v := 30) (lv' := [(1, .int 30), (0, .ref h0)]) hx hb dX11_init_178 hl (k := 0) rfl (by decide) (by decide) rfl (fun ls hl => ?_)
  refine lv_goto (tgt := 149) hx hb dX11_init_181 (by decide) ?_
  refine lv_iload_n hx hb dX11_init_149 rfl (lv_at hl 0 rfl) ?_
  refine lv_bipush (v := 36) hx hb dX11_init_150 (by decide) ?_
  refine lv_icmp_ge (tgt := 184) hx hb dX11_init_152 (by decide) (fun q => absurd q (by decide)) (fun _ => ?_)
  refine lv_aload_n hx hb dX11_init_155 rfl (lv_at hl 1 rfl) ?_
  refine n_get C hK I inT11 0 11 10 rfl rfl (by decide) rfl fl_X11_32 rfl dX11_init_156 ?_
  refine lv_iload_n hx hb dX11_init_159 rfl (lv_at hl 0 rfl) ?_
  refine lv_iload_n hx hb dX11_init_160 rfl (lv_at hl 0 rfl) ?_
  refine lv_bipush (v := 6) hx hb dX11_init_161 (by decide) ?_
  refine lv_idiv hx hb dX11_init_163 (by decide) ?_
  refine W.eq (g2 := F0 m 164 ls [.int 5, .int 30, .ref q5]) (by first | rfl | decide) ?_
  refine lv_iload_n hx hb dX11_init_164 rfl (lv_at hl 0 rfl) ?_
  refine lv_bipush (v := 6) hx hb dX11_init_165 (by decide) ?_
  refine lv_irem hx hb dX11_init_167 (by decide) ?_
  refine W.eq (g2 := F0 m 168 ls [.int 0, .int 5, .int 30, .ref q5]) (by first | rfl | decide) ?_
  refine lv_icmp_ne (tgt := 175) hx hb dX11_init_168 (by decide) (fun _ => ?_) (fun q => absurd q (by decide))
  refine lv_bipush (v := 10) hx hb dX11_init_175 (by decide) ?_
  refine n_ast C hK I 5 rfl (by decide) (ws1 := [(h0, .inr (11, [.ref q1, .int 0, .ref q2, .int 0, .ref q3, .ref q4, .int 0, .int 40, .int 999, .int 480, .ref q5, .int 0, .ref q6, .ref q7, .ref q8, .ref q9, .int 0, .int 0, .int 0, .int 0, .ref q10, .int 0, .int 0, .long 0, .long 0, .int 0, .int 0, .int 0, .int 0, .int 0, .ref q11])), (q1, .inl (cI, 200, .inl (fun _ => 0))), (q2, .inl (cI, 80, .inl (fun _ => 0))), (q3, .inl (cI, 8, .inl wX11_init_q3_8)), (q4, .inl (cI, 8, .inl (fun _ => 0))), (q5, .inl (cI, 36, .inl wX11_init_q5_31)), (q6, .inl (cI, 36, .inl (fun _ => 0))), (q7, .inl (cI, 6, .inl (fun _ => 0))), (q8, .inl (cI, 96, .inl (fun _ => 0))), (q9, .inl (cI, 48, .inl (fun _ => 0))), (q10, .inl (cI, 6, .inl (fun _ => 0))), (q11, .inl (cI, 6, .inl (fun _ => 0)))]) rfl dX11_init_177 (fun H locs I => ?_)
  refine lv_iinc (v := 31) (lv' := [(1, .int 31), (0, .ref h0)]) hx hb dX11_init_178 hl (k := 0) rfl (by decide) (by decide) rfl (fun ls hl => ?_)
  refine lv_goto (tgt := 149) hx hb dX11_init_181 (by decide) ?_
  refine lv_iload_n hx hb dX11_init_149 rfl (lv_at hl 0 rfl) ?_
  refine lv_bipush (v := 36) hx hb dX11_init_150 (by decide) ?_
  refine lv_icmp_ge (tgt := 184) hx hb dX11_init_152 (by decide) (fun q => absurd q (by decide)) (fun _ => ?_)
  refine lv_aload_n hx hb dX11_init_155 rfl (lv_at hl 1 rfl) ?_
  refine n_get C hK I inT11 0 11 10 rfl rfl (by decide) rfl fl_X11_32 rfl dX11_init_156 ?_
  refine lv_iload_n hx hb dX11_init_159 rfl (lv_at hl 0 rfl) ?_
  refine lv_iload_n hx hb dX11_init_160 rfl (lv_at hl 0 rfl) ?_
  refine lv_bipush (v := 6) hx hb dX11_init_161 (by decide) ?_
  refine lv_idiv hx hb dX11_init_163 (by decide) ?_
  refine W.eq (g2 := F0 m 164 ls [.int 5, .int 31, .ref q5]) (by first | rfl | decide) ?_
  refine lv_iload_n hx hb dX11_init_164 rfl (lv_at hl 0 rfl) ?_
  refine lv_bipush (v := 6) hx hb dX11_init_165 (by decide) ?_
  refine lv_irem hx hb dX11_init_167 (by decide) ?_
  refine W.eq (g2 := F0 m 168 ls [.int 1, .int 5, .int 31, .ref q5]) (by first | rfl | decide) ?_
  refine lv_icmp_ne (tgt := 175) hx hb dX11_init_168 (by decide) (fun _ => ?_) (fun q => absurd q (by decide))
  refine lv_bipush (v := 10) hx hb dX11_init_175 (by decide) ?_
  refine n_ast C hK I 5 rfl (by decide) (ws1 := [(h0, .inr (11, [.ref q1, .int 0, .ref q2, .int 0, .ref q3, .ref q4, .int 0, .int 40, .int 999, .int 480, .ref q5, .int 0, .ref q6, .ref q7, .ref q8, .ref q9, .int 0, .int 0, .int 0, .int 0, .ref q10, .int 0, .int 0, .long 0, .long 0, .int 0, .int 0, .int 0, .int 0, .int 0, .ref q11])), (q1, .inl (cI, 200, .inl (fun _ => 0))), (q2, .inl (cI, 80, .inl (fun _ => 0))), (q3, .inl (cI, 8, .inl wX11_init_q3_8)), (q4, .inl (cI, 8, .inl (fun _ => 0))), (q5, .inl (cI, 36, .inl wX11_init_q5_32)), (q6, .inl (cI, 36, .inl (fun _ => 0))), (q7, .inl (cI, 6, .inl (fun _ => 0))), (q8, .inl (cI, 96, .inl (fun _ => 0))), (q9, .inl (cI, 48, .inl (fun _ => 0))), (q10, .inl (cI, 6, .inl (fun _ => 0))), (q11, .inl (cI, 6, .inl (fun _ => 0)))]) rfl dX11_init_177 (fun H locs I => ?_)
  refine lv_iinc (v := 32) (lv' := [(1, .int 32), (0, .ref h0)]) hx hb dX11_init_178 hl (k := 0) rfl (by decide) (by decide) rfl (fun ls hl => ?_)
  refine lv_goto (tgt := 149) hx hb dX11_init_181 (by decide) ?_
  refine lv_iload_n hx hb dX11_init_149 rfl (lv_at hl 0 rfl) ?_
  refine lv_bipush (v := 36) hx hb dX11_init_150 (by decide) ?_
  refine lv_icmp_ge (tgt := 184) hx hb dX11_init_152 (by decide) (fun q => absurd q (by decide)) (fun _ => ?_)
  refine lv_aload_n hx hb dX11_init_155 rfl (lv_at hl 1 rfl) ?_
  refine n_get C hK I inT11 0 11 10 rfl rfl (by decide) rfl fl_X11_32 rfl dX11_init_156 ?_
  refine lv_iload_n hx hb dX11_init_159 rfl (lv_at hl 0 rfl) ?_
  refine lv_iload_n hx hb dX11_init_160 rfl (lv_at hl 0 rfl) ?_
  refine lv_bipush (v := 6) hx hb dX11_init_161 (by decide) ?_
  refine lv_idiv hx hb dX11_init_163 (by decide) ?_
  refine W.eq (g2 := F0 m 164 ls [.int 5, .int 32, .ref q5]) (by first | rfl | decide) ?_
  refine lv_iload_n hx hb dX11_init_164 rfl (lv_at hl 0 rfl) ?_
  refine lv_bipush (v := 6) hx hb dX11_init_165 (by decide) ?_
  refine lv_irem hx hb dX11_init_167 (by decide) ?_
  refine W.eq (g2 := F0 m 168 ls [.int 2, .int 5, .int 32, .ref q5]) (by first | rfl | decide) ?_
  refine lv_icmp_ne (tgt := 175) hx hb dX11_init_168 (by decide) (fun _ => ?_) (fun q => absurd q (by decide))
  refine lv_bipush (v := 10) hx hb dX11_init_175 (by decide) ?_
  refine n_ast C hK I 5 rfl (by decide) (ws1 := [(h0, .inr (11, [.ref q1, .int 0, .ref q2, .int 0, .ref q3, .ref q4, .int 0, .int 40, .int 999, .int 480, .ref q5, .int 0, .ref q6, .ref q7, .ref q8, .ref q9, .int 0, .int 0, .int 0, .int 0, .ref q10, .int 0, .int 0, .long 0, .long 0, .int 0, .int 0, .int 0, .int 0, .int 0, .ref q11])), (q1, .inl (cI, 200, .inl (fun _ => 0))), (q2, .inl (cI, 80, .inl (fun _ => 0))), (q3, .inl (cI, 8, .inl wX11_init_q3_8)), (q4, .inl (cI, 8, .inl (fun _ => 0))), (q5, .inl (cI, 36, .inl wX11_init_q5_33)), (q6, .inl (cI, 36, .inl (fun _ => 0))), (q7, .inl (cI, 6, .inl (fun _ => 0))), (q8, .inl (cI, 96, .inl (fun _ => 0))), (q9, .inl (cI, 48, .inl (fun _ => 0))), (q10, .inl (cI, 6, .inl (fun _ => 0))), (q11, .inl (cI, 6, .inl (fun _ => 0)))]) rfl dX11_init_177 (fun H locs I => ?_)
  refine lv_iinc (v := 33) (lv' := [(1, .int 33), (0, .ref h0)]) hx hb dX11_init_178 hl (k := 0) rfl (by decide) (by decide) rfl (fun ls hl => ?_)
  refine lv_goto (tgt := 149) hx hb dX11_init_181 (by decide) ?_
  refine lv_iload_n hx hb dX11_init_149 rfl (lv_at hl 0 rfl) ?_
  refine lv_bipush (v := 36) hx hb dX11_init_150 (by decide) ?_
  refine lv_icmp_ge (tgt := 184) hx hb dX11_init_152 (by decide) (fun q => absurd q (by decide)) (fun _ => ?_)
  refine lv_aload_n hx hb dX11_init_155 rfl (lv_at hl 1 rfl) ?_
  refine n_get C hK I inT11 0 11 10 rfl rfl (by decide) rfl fl_X11_32 rfl dX11_init_156 ?_
  refine lv_iload_n hx hb dX11_init_159 rfl (lv_at hl 0 rfl) ?_
  refine lv_iload_n hx hb dX11_init_160 rfl (lv_at hl 0 rfl) ?_
  refine lv_bipush (v := 6) hx hb dX11_init_161 (by decide) ?_
  refine lv_idiv hx hb dX11_init_163 (by decide) ?_
  refine W.eq (g2 := F0 m 164 ls [.int 5, .int 33, .ref q5]) (by first | rfl | decide) ?_
  refine lv_iload_n hx hb dX11_init_164 rfl (lv_at hl 0 rfl) ?_
  refine lv_bipush (v := 6) hx hb dX11_init_165 (by decide) ?_
  refine lv_irem hx hb dX11_init_167 (by decide) ?_
  refine W.eq (g2 := F0 m 168 ls [.int 3, .int 5, .int 33, .ref q5]) (by first | rfl | decide) ?_
  refine lv_icmp_ne (tgt := 175) hx hb dX11_init_168 (by decide) (fun _ => ?_) (fun q => absurd q (by decide))
  refine lv_bipush (v := 10) hx hb dX11_init_175 (by decide) ?_
  refine n_ast C hK I 5 rfl (by decide) (ws1 := [(h0, .inr (11, [.ref q1, .int 0, .ref q2, .int 0, .ref q3, .ref q4, .int 0, .int 40, .int 999, .int 480, .ref q5, .int 0, .ref q6, .ref q7, .ref q8, .ref q9, .int 0, .int 0, .int 0, .int 0, .ref q10, .int 0, .int 0, .long 0, .long 0, .int 0, .int 0, .int 0, .int 0, .int 0, .ref q11])), (q1, .inl (cI, 200, .inl (fun _ => 0))), (q2, .inl (cI, 80, .inl (fun _ => 0))), (q3, .inl (cI, 8, .inl wX11_init_q3_8)), (q4, .inl (cI, 8, .inl (fun _ => 0))), (q5, .inl (cI, 36, .inl wX11_init_q5_34)), (q6, .inl (cI, 36, .inl (fun _ => 0))), (q7, .inl (cI, 6, .inl (fun _ => 0))), (q8, .inl (cI, 96, .inl (fun _ => 0))), (q9, .inl (cI, 48, .inl (fun _ => 0))), (q10, .inl (cI, 6, .inl (fun _ => 0))), (q11, .inl (cI, 6, .inl (fun _ => 0)))]) rfl dX11_init_177 (fun H locs I => ?_)
  refine lv_iinc (v := 34) (lv' := [(1, .int 34), (0, .ref h0)]) hx hb dX11_init_178 hl (k := 0) rfl (by decide) (by decide) rfl (fun ls hl => ?_)
  refine lv_goto (tgt := 149) hx hb dX11_init_181 (by decide) ?_
  refine lv_iload_n hx hb dX11_init_149 rfl (lv_at hl 0 rfl) ?_
  refine lv_bipush (v := 36) hx hb dX11_init_150 (by decide) ?_
  refine lv_icmp_ge (tgt := 184) hx hb dX11_init_152 (by decide) (fun q => absurd q (by decide)) (fun _ => ?_)
  refine lv_aload_n hx hb dX11_init_155 rfl (lv_at hl 1 rfl) ?_
  refine n_get C hK I inT11 0 11 10 rfl rfl (by decide) rfl fl_X11_32 rfl dX11_init_156 ?_
  refine lv_iload_n hx hb dX11_init_159 rfl (lv_at hl 0 rfl) ?_
  refine lv_iload_n hx hb dX11_init_160 rfl (lv_at hl 0 rfl) ?_
  refine lv_bipush (v := 6) hx hb dX11_init_161 (by decide) ?_
  refine lv_idiv hx hb dX11_init_163 (by decide) ?_
  refine W.eq (g2 := F0 m 164 ls [.int 5, .int 34, .ref q5]) (by first | rfl | decide) ?_
  refine lv_iload_n hx hb dX11_init_164 rfl (lv_at hl 0 rfl) ?_
  refine lv_bipush (v := 6) hx hb dX11_init_165 (by decide) ?_
  refine lv_irem hx hb dX11_init_167 (by decide) ?_
  refine W.eq (g2 := F0 m 168 ls [.int 4, .int 5, .int 34, .ref q5]) (by first | rfl | decide) ?_
  refine lv_icmp_ne (tgt := 175) hx hb dX11_init_168 (by decide) (fun _ => ?_) (fun q => absurd q (by decide))
  refine lv_bipush (v := 10) hx hb dX11_init_175 (by decide) ?_
  refine n_ast C hK I 5 rfl (by decide) (ws1 := [(h0, .inr (11, [.ref q1, .int 0, .ref q2, .int 0, .ref q3, .ref q4, .int 0, .int 40, .int 999, .int 480, .ref q5, .int 0, .ref q6, .ref q7, .ref q8, .ref q9, .int 0, .int 0, .int 0, .int 0, .ref q10, .int 0, .int 0, .long 0, .long 0, .int 0, .int 0, .int 0, .int 0, .int 0, .ref q11])), (q1, .inl (cI, 200, .inl (fun _ => 0))), (q2, .inl (cI, 80, .inl (fun _ => 0))), (q3, .inl (cI, 8, .inl wX11_init_q3_8)), (q4, .inl (cI, 8, .inl (fun _ => 0))), (q5, .inl (cI, 36, .inl wX11_init_q5_35)), (q6, .inl (cI, 36, .inl (fun _ => 0))), (q7, .inl (cI, 6, .inl (fun _ => 0))), (q8, .inl (cI, 96, .inl (fun _ => 0))), (q9, .inl (cI, 48, .inl (fun _ => 0))), (q10, .inl (cI, 6, .inl (fun _ => 0))), (q11, .inl (cI, 6, .inl (fun _ => 0)))]) rfl dX11_init_177 (fun H locs I => ?_)
  refine lv_iinc (v := 35) (lv' := [(1, .int 35), (0, .ref h0)]) hx hb dX11_init_178 hl (k := 0) rfl (by decide) (by decide) rfl (fun ls hl => ?_)
  refine lv_goto (tgt := 149) hx hb dX11_init_181 (by decide) ?_
  refine lv_iload_n hx hb dX11_init_149 rfl (lv_at hl 0 rfl) ?_
  refine lv_bipush (v := 36) hx hb dX11_init_150 (by decide) ?_
  refine lv_icmp_ge (tgt := 184) hx hb dX11_init_152 (by decide) (fun q => absurd q (by decide)) (fun _ => ?_)
  refine lv_aload_n hx hb dX11_init_155 rfl (lv_at hl 1 rfl) ?_
  refine n_get C hK I inT11 0 11 10 rfl rfl (by decide) rfl fl_X11_32 rfl dX11_init_156 ?_
  refine lv_iload_n hx hb dX11_init_159 rfl (lv_at hl 0 rfl) ?_
  refine lv_iload_n hx hb dX11_init_160 rfl (lv_at hl 0 rfl) ?_
  refine lv_bipush (v := 6) hx hb dX11_init_161 (by decide) ?_
  refine lv_idiv hx hb dX11_init_163 (by decide) ?_
  refine W.eq (g2 := F0 m 164 ls [.int 5, .int 35, .ref q5]) (by first | rfl | decide) ?_
  refine lv_iload_n hx hb dX11_init_164 rfl (lv_at hl 0 rfl) ?_
  refine lv_bipush (v := 6) hx hb dX11_init_165 (by decide) ?_
  refine lv_irem hx hb dX11_init_167 (by decide) ?_
  refine W.eq (g2 := F0 m 168 ls [.int 5, .int 5, .int 35, .ref q5]) (by first | rfl | decide) ?_
  refine lv_icmp_ne (tgt := 175) hx hb dX11_init_168 (by decide) (fun q => absurd q (by decide)) (fun _ => ?_)
  refine lv_iconst (v := 0) hx hb dX11_init_171 (by decide) ?_
  refine lv_goto (tgt := 177) hx hb dX11_init_172 (by decide) ?_
  refine n_ast C hK I 5 rfl (by decide) (ws1 := [(h0, .inr (11, [.ref q1, .int 0, .ref q2, .int 0, .ref q3, .ref q4, .int 0, .int 40, .int 999, .int 480, .ref q5, .int 0, .ref q6, .ref q7, .ref q8, .ref q9, .int 0, .int 0, .int 0, .int 0, .ref q10, .int 0, .int 0, .long 0, .long 0, .int 0, .int 0, .int 0, .int 0, .int 0, .ref q11])), (q1, .inl (cI, 200, .inl (fun _ => 0))), (q2, .inl (cI, 80, .inl (fun _ => 0))), (q3, .inl (cI, 8, .inl wX11_init_q3_8)), (q4, .inl (cI, 8, .inl (fun _ => 0))), (q5, .inl (cI, 36, .inl wX11_init_q5_36)), (q6, .inl (cI, 36, .inl (fun _ => 0))), (q7, .inl (cI, 6, .inl (fun _ => 0))), (q8, .inl (cI, 96, .inl (fun _ => 0))), (q9, .inl (cI, 48, .inl (fun _ => 0))), (q10, .inl (cI, 6, .inl (fun _ => 0))), (q11, .inl (cI, 6, .inl (fun _ => 0)))]) rfl dX11_init_177 (fun H locs I => ?_)
  refine lv_iinc (v := 36) (lv' := [(1, .int 36), (0, .ref h0)]) hx hb dX11_init_178 hl (k := 0) rfl (by decide) (by decide) rfl (fun ls hl => ?_)
  refine lv_goto (tgt := 149) hx hb dX11_init_181 (by decide) ?_
  refine lv_iload_n hx hb dX11_init_149 rfl (lv_at hl 0 rfl) ?_
  refine lv_bipush (v := 36) hx hb dX11_init_150 (by decide) ?_
  refine lv_icmp_ge (tgt := 184) hx hb dX11_init_152 (by decide) (fun _ => ?_) (fun q => absurd q (by decide))
  obtain ⟨hP, hD, hS⟩ := I
  exact hq _ _ _ _ _ ⟨(adOf [h0, q1, q2, q3, q4, q5, q6, q7, q8, q9, q10, q11]), rfl, rfl⟩ ⟨hP.sub (ws' := mw cI (adOf [h0, q1, q2, q3, q4, q5, q6, q7, q8, q9, q10, q11]) S0m) [0, 1, 2, 3, 4, 5, 6, 7, 8, 9, 10, 11] rfl, hD.sub (ws' := mw cI (adOf [h0, q1, q2, q3, q4, q5, q6, q7, q8, q9, q10, q11]) S0m) [0, 1, 2, 3, 4, 5, 6, 7, 8, 9, 10, 11] (by decide +kernel) rfl, hS⟩ dX11_init_184
