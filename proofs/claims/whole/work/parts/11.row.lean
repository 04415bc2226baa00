theorem fl_X0_25 : Cond.fieldLink RX0 25 RX0 "visits" "I" ∈ TT := tt_of 372 (by decide +kernel) rfl
theorem dX0_visits_0 : decode cX0_visits 0 = .ok (.aload_n 0, 1) := by decide +kernel
theorem dX0_visits_1 : decode cX0_visits 1 = .ok (.getfield 25, 3) := by decide +kernel
theorem dX0_visits_4 : decode cX0_visits 4 = .ok (.ireturn, 1) := by decide +kernel
def f_X0_visits (S : St)  : Option (Int32 × St) :=
  some ((S.1 8 4), S)
set_option maxHeartbeats 4000000 in
set_option maxRecDepth 100000 in
theorem c_X0_visits {l : Launch} {D : va_G} {cI cC cS : ClassId} {ad adK adV : Nat → Nat} {S S1 : St}  {r : Int32} (h : f_X0_visits S  = some (r, S1)) : Kt l D (xw cI cC cS ad) (KX D (xtys cI cC cS) adK adV) yX0_visits cX0_visits 1 (some .int) (0) (0) [.ref (ad 8)] S (some (.int r)) S1 := by
  refine k_ent (ins := .ireturn) (st := [.int r]) (by decide +kernel) (Nat.le_of_ble_eq_true rfl) ret_i ?_
  intro p e s m args below meth c A Q C hK I hA hq ls hl
  have C : CallFix p m c cX0_visits 1 s args TT RX0 := C
  have hx := C.1
  have hb := C.2.1
  have kx := kx_ok D (xtys cI cC cS) adK adV
  have hl : lv_has ls 1 [(0, .ref (ad 8))] := hl
  unfold f_X0_visits at h
  refine lv_aload_n hx hb dX0_visits_0 rfl (lv_at hl 0 rfl) ?_
  refine gx_8_4 C hK I fl_X0_25 dX0_visits_1 ?_
  exact rt_i hq h I dX0_visits_4
theorem fl_X0_9 : Cond.fieldLink RX0 9 RX0 "alls" "[I" ∈ TT := tt_of 369 (by decide +kernel) rfl
theorem fl_X0_29 : Cond.fieldLinkNest RX0 29 RX7 "all" "I" "CarryUp" ∈ NN := nn_of 164 (by decide +kernel) rfl
theorem lk_X0_34 : Cond.methodLinkNest RX0 34 yX10_put "CarryUp" ∈ NN := nn_of 1012 (by decide +kernel) rfl
theorem fl_X0_15 : Cond.fieldLink RX0 15 RX0 "ones" "[I" ∈ TT := tt_of 370 (by decide +kernel) rfl
theorem fl_X0_38 : Cond.fieldLinkNest RX0 38 RX7 "one" "I" "CarryUp" ∈ NN := nn_of 169 (by decide +kernel) rfl
theorem fl_X0_18 : Cond.fieldLink RX0 18 RX0 "bags" "[I" ∈ TT := tt_of 371 (by decide +kernel) rfl
theorem dX0_add_0 : decode cX0_add 0 = .ok (.aload_n 0, 1) := by decide +kernel
theorem dX0_add_1 : decode cX0_add 1 = .ok (.getfield 25, 3) := by decide +kernel
theorem dX0_add_4 : decode cX0_add 4 = .ok (.bipush 16, 2) := by decide +kernel
theorem dX0_add_6 : decode cX0_add 6 = .ok (.if_icmp .lt 6, 3) := by decide +kernel
theorem dX0_add_9 : decode cX0_add 9 = .ok (.bipush (-5), 2) := by decide +kernel
theorem dX0_add_11 : decode cX0_add 11 = .ok (.ireturn, 1) := by decide +kernel
theorem dX0_add_12 : decode cX0_add 12 = .ok (.aload_n 0, 1) := by decide +kernel
theorem dX0_add_13 : decode cX0_add 13 = .ok (.getfield 9, 3) := by decide +kernel
theorem dX0_add_16 : decode cX0_add 16 = .ok (.aload_n 0, 1) := by decide +kernel
theorem dX0_add_17 : decode cX0_add 17 = .ok (.getfield 25, 3) := by decide +kernel
theorem dX0_add_20 : decode cX0_add 20 = .ok (.aload_n 1, 1) := by decide +kernel
theorem dX0_add_21 : decode cX0_add 21 = .ok (.getfield 29, 3) := by decide +kernel
theorem dX0_add_24 : decode cX0_add 24 = .ok (.invokestatic 34, 3) := by decide +kernel
theorem dX0_add_27 : decode cX0_add 27 = .ok (.aload_n 0, 1) := by decide +kernel
theorem dX0_add_28 : decode cX0_add 28 = .ok (.getfield 15, 3) := by decide +kernel
theorem dX0_add_31 : decode cX0_add 31 = .ok (.aload_n 0, 1) := by decide +kernel
theorem dX0_add_32 : decode cX0_add 32 = .ok (.getfield 25, 3) := by decide +kernel
theorem dX0_add_35 : decode cX0_add 35 = .ok (.aload_n 1, 1) := by decide +kernel
theorem dX0_add_36 : decode cX0_add 36 = .ok (.getfield 38, 3) := by decide +kernel
theorem dX0_add_39 : decode cX0_add 39 = .ok (.invokestatic 34, 3) := by decide +kernel
theorem dX0_add_42 : decode cX0_add 42 = .ok (.aload_n 0, 1) := by decide +kernel
theorem dX0_add_43 : decode cX0_add 43 = .ok (.getfield 18, 3) := by decide +kernel
theorem dX0_add_46 : decode cX0_add 46 = .ok (.aload_n 0, 1) := by decide +kernel
theorem dX0_add_47 : decode cX0_add 47 = .ok (.getfield 25, 3) := by decide +kernel
theorem dX0_add_50 : decode cX0_add 50 = .ok (.iload_n 2, 1) := by decide +kernel
theorem dX0_add_51 : decode cX0_add 51 = .ok (.invokestatic 34, 3) := by decide +kernel
theorem dX0_add_54 : decode cX0_add 54 = .ok (.aload_n 0, 1) := by decide +kernel
theorem dX0_add_55 : decode cX0_add 55 = .ok (.dup, 1) := by decide +kernel
theorem dX0_add_56 : decode cX0_add 56 = .ok (.getfield 25, 3) := by decide +kernel
theorem dX0_add_59 : decode cX0_add 59 = .ok (.iconst 1, 1) := by decide +kernel
theorem dX0_add_60 : decode cX0_add 60 = .ok (.iadd, 1) := by decide +kernel
theorem dX0_add_61 : decode cX0_add 61 = .ok (.putfield 25, 3) := by decide +kernel
theorem dX0_add_64 : decode cX0_add 64 = .ok (.aload_n 0, 1) := by decide +kernel
theorem dX0_add_65 : decode cX0_add 65 = .ok (.getfield 25, 3) := by decide +kernel
theorem dX0_add_68 : decode cX0_add 68 = .ok (.ireturn, 1) := by decide +kernel
def f_X0_add (S : St) (x1 : Fin 24) (x2 : Int32) : Option (Int32 × St) :=
  if (S.1 8 4) < 16 then (
    obd (f_X10_put S 7 (S.1 8 4) (S.1 (33 + x1.val) 2)) fun S2 =>
    obd (f_X10_put S2 8 (S2.1 8 4) (S2.1 (33 + x1.val) 3)) fun S3 =>
    obd (f_X10_put S3 9 (S3.1 8 4) x2) fun S4 =>
    bnd (setI S4 8 4 ((S4.1 8 4) + 1)) fun S5 =>
    some ((S5.1 8 4), S5)
  ) else (
    some ((-5), S)
  )
set_option maxHeartbeats 4000000 in
set_option maxRecDepth 100000 in
theorem c_X0_add {l : Launch} {D : va_G} {cI cC cS : ClassId} {ad adK adV : Nat → Nat} {S S1 : St} {x1 : Fin 24} {x2 : Int32} {r : Int32} (h : f_X0_add S x1 x2 = some (r, S1)) : Kt l D (xw cI cC cS ad) (KX D (xtys cI cC cS) adK adV) yX0_add cX0_add 3 (some .int) (1) (22) [.ref (ad 8), .ref (ad (33 + x1.val)), .int x2] S (some (.int r)) S1 := by
  refine k_ent (ins := .ireturn) (st := [.int r]) (by decide +kernel) (Nat.le_of_ble_eq_true rfl) ret_i ?_
  intro p e s m args below meth c A Q C hK I hA hq ls hl
  have C : CallFix p m c cX0_add 3 s args TT RX0 := C
  have hx := C.1
  have hb := C.2.1
  have kx := kx_ok D (xtys cI cC cS) adK adV
  have hl : lv_has ls 3 [(0, .ref (ad 8)), (1, .ref (ad (33 + x1.val))), (2, .int x2)] := hl
  unfold f_X0_add at h
  refine lv_aload_n hx hb dX0_add_0 rfl (lv_at hl 0 rfl) ?_
  refine gx_8_4 C hK I fl_X0_25 dX0_add_1 ?_
  refine lv_bipush (v := 16) hx hb dX0_add_4 (by decide) ?_
  refine lv_icmp_lt (tgt := 12) hx hb dX0_add_6 (by decide) (fun c1 => ?_) (fun c1 => ?_)
  · have h := ite_t c1 h
    refine lv_aload_n hx hb dX0_add_12 rfl (lv_at hl 0 rfl) ?_
    refine gx_8_1 C hK I fl_X0_9 dX0_add_13 ?_
    refine lv_aload_n hx hb dX0_add_16 rfl (lv_at hl 0 rfl) ?_
    refine gx_8_4 C hK I fl_X0_25 dX0_add_17 ?_
    refine lv_aload_n hx hb dX0_add_20 rfl (lv_at hl 1 rfl) ?_
    refine gxN_S_2 C hK I fl_X0_29 dX0_add_21 ?_
    obtain ⟨S2, e2, h⟩ := obd_ex h
    refine k_SN (As := [.ref (ad 18), .int (S.1 8 4), .int (S.1 (33 + x1.val) 2)]) (rest := []) (st1 := []) C kx hK I hA (c_X10_put e2) ⟨Nat.le_of_ble_eq_true rfl, Nat.le_of_ble_eq_true rfl⟩ ms_X10_put lk_X0_34 rfl hl.1 rfl (Nat.le_of_ble_eq_true rfl) dX0_add_24 rfl (fun H locs I => ?_)
    refine lv_aload_n hx hb dX0_add_27 rfl (lv_at hl 0 rfl) ?_
    refine gx_8_2 C hK I fl_X0_15 dX0_add_28 ?_
    refine lv_aload_n hx hb dX0_add_31 rfl (lv_at hl 0 rfl) ?_
    refine gx_8_4 C hK I fl_X0_25 dX0_add_32 ?_
    refine lv_aload_n hx hb dX0_add_35 rfl (lv_at hl 1 rfl) ?_
    refine gxN_S_3 C hK I fl_X0_38 dX0_add_36 ?_
    obtain ⟨S3, e3, h⟩ := obd_ex h
    refine k_SN (As := [.ref (ad 19), .int (S2.1 8 4), .int (S2.1 (33 + x1.val) 3)]) (rest := []) (st1 := []) C kx hK I hA (c_X10_put e3) ⟨Nat.le_of_ble_eq_true rfl, Nat.le_of_ble_eq_true rfl⟩ ms_X10_put lk_X0_34 rfl hl.1 rfl (Nat.le_of_ble_eq_true rfl) dX0_add_39 rfl (fun H locs I => ?_)
    refine lv_aload_n hx hb dX0_add_42 rfl (lv_at hl 0 rfl) ?_
    refine gx_8_3 C hK I fl_X0_18 dX0_add_43 ?_
    refine lv_aload_n hx hb dX0_add_46 rfl (lv_at hl 0 rfl) ?_
    refine gx_8_4 C hK I fl_X0_25 dX0_add_47 ?_
    refine lv_iload_n hx hb dX0_add_50 rfl (lv_at hl 2 rfl) ?_
    obtain ⟨S4, e4, h⟩ := obd_ex h
    refine k_SN (As := [.ref (ad 20), .int (S3.1 8 4), .int x2]) (rest := []) (st1 := []) C kx hK I hA (c_X10_put e4) ⟨Nat.le_of_ble_eq_true rfl, Nat.le_of_ble_eq_true rfl⟩ ms_X10_put lk_X0_34 rfl hl.1 rfl (Nat.le_of_ble_eq_true rfl) dX0_add_51 rfl (fun H locs I => ?_)
    refine lv_aload_n hx hb dX0_add_54 rfl (lv_at hl 0 rfl) ?_
    refine lv_dup hx hb dX0_add_55 rfl ?_
    refine gx_8_4 C hK I fl_X0_25 dX0_add_56 ?_
    refine lv_iconst (v := 1) hx hb dX0_add_59 (by decide) ?_
    refine lv_iadd hx hb dX0_add_60 ?_
    refine px_8_4 C hK I fl_X0_25 dX0_add_61 (fun S5 eS5 H locs I => ?_)
    have h := bnd_at eS5 h
    clear eS5
    refine lv_aload_n hx hb dX0_add_64 rfl (lv_at hl 0 rfl) ?_
    refine gx_8_4 C hK I fl_X0_25 dX0_add_65 ?_
    exact rt_i hq h I dX0_add_68
  · have h := ite_n c1 h
    refine lv_bipush (v := (-5)) hx hb dX0_add_9 (by decide) ?_
    exact rt_i hq h I dX0_add_11
theorem lk_X0_41 : Cond.methodLinkNest RX0 41 yX10_at "CarryUp" ∈ NN := nn_of 1021 (by decide +kernel) rfl
theorem lk_X0_45 : Cond.methodLink RX0 45 yX7_isDone ∈ TT := tt_of 1026 (by decide +kernel) rfl
theorem dX0_isDone_0 : decode cX0_isDone 0 = .ok (.iload_n 2, 1) := by decide +kernel
theorem dX0_isDone_1 : decode cX0_isDone 1 = .ok (.aload_n 0, 1) := by decide +kernel
theorem dX0_isDone_2 : decode cX0_isDone 2 = .ok (.getfield 9, 3) := by decide +kernel
theorem dX0_isDone_5 : decode cX0_isDone 5 = .ok (.iload_n 1, 1) := by decide +kernel
theorem dX0_isDone_6 : decode cX0_isDone 6 = .ok (.invokestatic 41, 3) := by decide +kernel
theorem dX0_isDone_9 : decode cX0_isDone 9 = .ok (.aload_n 0, 1) := by decide +kernel
theorem dX0_isDone_10 : decode cX0_isDone 10 = .ok (.getfield 15, 3) := by decide +kernel
theorem dX0_isDone_13 : decode cX0_isDone 13 = .ok (.iload_n 1, 1) := by decide +kernel
theorem dX0_isDone_14 : decode cX0_isDone 14 = .ok (.invokestatic 41, 3) := by decide +kernel
theorem dX0_isDone_17 : decode cX0_isDone 17 = .ok (.invokestatic 45, 3) := by decide +kernel
theorem dX0_isDone_20 : decode cX0_isDone 20 = .ok (.ireturn, 1) := by decide +kernel
def f_X0_isDone (S : St) (x1 : Int32) (x2 : Int32) : Option (Int32 × St) :=
  obd2 (f_X10_at S 7 x1) fun r1 S1 =>
  obd2 (f_X10_at S1 8 x1) fun r2 S2 =>
  obd2 (f_X7_isDone S2 x2 r1 r2) fun r3 S3 =>
  chk (zb r3) <|
  some (r3, S3)
set_option maxHeartbeats 4000000 in
set_option maxRecDepth 100000 in
theorem c_X0_isDone {l : Launch} {D : va_G} {cI cC cS : ClassId} {ad adK adV : Nat → Nat} {S S1 : St} {x1 : Int32} {x2 : Int32} {r : Int32} (h : f_X0_isDone S x1 x2 = some (r, S1)) : Kt l D (xw cI cC cS ad) (KX D (xtys cI cC cS) adK adV) yX0_isDone cX0_isDone 3 (some .boolean) (1) (22) [.ref (ad 8), .int x1, .int x2] S (some (.int r)) S1 := by
  refine k_entz (by decide +kernel) (Nat.le_of_ble_eq_true rfl) ?_
  intro p e s m args below meth c A Q C hK I hA hq ls hl
  have C : CallFix p m c cX0_isDone 3 s args TT RX0 := C
  have hx := C.1
  have hb := C.2.1
  have kx := kx_ok D (xtys cI cC cS) adK adV
  have hl : lv_has ls 3 [(0, .ref (ad 8)), (1, .int x1), (2, .int x2)] := hl
  unfold f_X0_isDone at h
  refine lv_iload_n hx hb dX0_isDone_0 rfl (lv_at hl 2 rfl) ?_
  refine lv_aload_n hx hb dX0_isDone_1 rfl (lv_at hl 0 rfl) ?_
  refine gx_8_1 C hK I fl_X0_9 dX0_isDone_2 ?_
  refine lv_iload_n hx hb dX0_isDone_5 rfl (lv_at hl 1 rfl) ?_
  obtain ⟨r1, S1, e1, h⟩ := obd2_ex h
  refine k_SN (As := [.ref (ad 18), .int x1]) (rest := [.int x2]) (st1 := [.int r1, .int x2]) C kx hK I hA (c_X10_at e1) ⟨Nat.le_of_ble_eq_true rfl, Nat.le_of_ble_eq_true rfl⟩ ms_X10_at lk_X0_41 rfl hl.1 rfl (Nat.le_of_ble_eq_true rfl) dX0_isDone_6 rfl (fun H locs I => ?_)
  refine lv_aload_n hx hb dX0_isDone_9 rfl (lv_at hl 0 rfl) ?_
  refine gx_8_2 C hK I fl_X0_15 dX0_isDone_10 ?_
  refine lv_iload_n hx hb dX0_isDone_13 rfl (lv_at hl 1 rfl) ?_
  obtain ⟨r2, S2, e2, h⟩ := obd2_ex h
  refine k_SN (As := [.ref (ad 19), .int x1]) (rest := [.int r1, .int x2]) (st1 := [.int r2, .int r1, .int x2]) C kx hK I hA (c_X10_at e2) ⟨Nat.le_of_ble_eq_true rfl, Nat.le_of_ble_eq_true rfl⟩ ms_X10_at lk_X0_41 rfl hl.1 rfl (Nat.le_of_ble_eq_true rfl) dX0_isDone_14 rfl (fun H locs I => ?_)
  obtain ⟨r3, S3, e3, h⟩ := obd2_ex h
  refine k_S (As := [.int x2, .int r1, .int r2]) (rest := []) (st1 := [.int r3]) C kx hK I hA (c_X7_isDone e3) ⟨Nat.le_of_ble_eq_true rfl, Nat.le_of_ble_eq_true rfl⟩ ms_X7_isDone lk_X0_45 rfl hl.1 rfl (Nat.le_of_ble_eq_true rfl) dX0_isDone_17 rfl (fun H locs I => ?_)
  obtain ⟨hz, h⟩ := chk_ex h
  exact rt_z hz hq h I dX0_isDone_20
theorem lk_X0_49 : Cond.methodLink RX0 49 yX0_isDone ∈ TT := tt_of 1022 (by decide +kernel) rfl
theorem mv_X0_isDone : MV yX0_isDone cX0_isDone 3 (some .boolean) 2 := ⟨tt_of 1025 (by decide +kernel) rfl, tt_of 1024 (by decide +kernel) rfl, tt_of 21 (by decide +kernel) rfl, tt_of 75 (by decide +kernel) rfl, ⟨by decide +kernel, by decide +kernel, by decide +kernel⟩⟩
theorem dX0_savedBy_0 : decode cX0_savedBy 0 = .ok (.iconst 0, 1) := by decide +kernel
theorem dX0_savedBy_1 : decode cX0_savedBy 1 = .ok (.istore_n 2, 1) := by decide +kernel
theorem dX0_savedBy_2 : decode cX0_savedBy 2 = .ok (.iconst 0, 1) := by decide +kernel
theorem dX0_savedBy_3 : decode cX0_savedBy 3 = .ok (.istore_n 3, 1) := by decide +kernel
theorem dX0_savedBy_4 : decode cX0_savedBy 4 = .ok (.iload_n 3, 1) := by decide +kernel
theorem dX0_savedBy_5 : decode cX0_savedBy 5 = .ok (.aload_n 0, 1) := by decide +kernel
theorem dX0_savedBy_6 : decode cX0_savedBy 6 = .ok (.getfield 25, 3) := by decide +kernel
theorem dX0_savedBy_9 : decode cX0_savedBy 9 = .ok (.if_icmp .ge 44, 3) := by decide +kernel
theorem dX0_savedBy_12 : decode cX0_savedBy 12 = .ok (.aload_n 0, 1) := by decide +kernel
theorem dX0_savedBy_13 : decode cX0_savedBy 13 = .ok (.getfield 18, 3) := by decide +kernel
theorem dX0_savedBy_16 : decode cX0_savedBy 16 = .ok (.iload_n 3, 1) := by decide +kernel
theorem dX0_savedBy_17 : decode cX0_savedBy 17 = .ok (.invokestatic 41, 3) := by decide +kernel
theorem dX0_savedBy_20 : decode cX0_savedBy 20 = .ok (.istore 4, 2) := by decide +kernel
theorem dX0_savedBy_22 : decode cX0_savedBy 22 = .ok (.aload_n 0, 1) := by decide +kernel
theorem dX0_savedBy_23 : decode cX0_savedBy 23 = .ok (.iload_n 3, 1) := by decide +kernel
theorem dX0_savedBy_24 : decode cX0_savedBy 24 = .ok (.iload 4, 2) := by decide +kernel
theorem dX0_savedBy_26 : decode cX0_savedBy 26 = .ok (.invokevirtual 49, 3) := by decide +kernel
theorem dX0_savedBy_29 : decode cX0_savedBy 29 = .ok (.ifCond .ne 18, 3) := by decide +kernel
theorem dX0_savedBy_32 : decode cX0_savedBy 32 = .ok (.aload_n 0, 1) := by decide +kernel
theorem dX0_savedBy_33 : decode cX0_savedBy 33 = .ok (.iload_n 3, 1) := by decide +kernel
theorem dX0_savedBy_34 : decode cX0_savedBy 34 = .ok (.iload 4, 2) := by decide +kernel
theorem dX0_savedBy_36 : decode cX0_savedBy 36 = .ok (.iload_n 1, 1) := by decide +kernel
theorem dX0_savedBy_37 : decode cX0_savedBy 37 = .ok (.ior, 1) := by decide +kernel
theorem dX0_savedBy_38 : decode cX0_savedBy 38 = .ok (.invokevirtual 49, 3) := by decide +kernel
theorem dX0_savedBy_41 : decode cX0_savedBy 41 = .ok (.ifCond .eq 6, 3) := by decide +kernel
theorem dX0_savedBy_44 : decode cX0_savedBy 44 = .ok (.iinc 2 1, 3) := by decide +kernel
theorem dX0_savedBy_47 : decode cX0_savedBy 47 = .ok (.iinc 3 1, 3) := by decide +kernel
theorem dX0_savedBy_50 : decode cX0_savedBy 50 = .ok (.goto (-46), 3) := by decide +kernel
theorem dX0_savedBy_53 : decode cX0_savedBy 53 = .ok (.iload_n 2, 1) := by decide +kernel
theorem dX0_savedBy_54 : decode cX0_savedBy 54 = .ok (.ireturn, 1) := by decide +kernel
def f_X0_savedBy_47 (k_4 : St → Int32 → Int32 → Int32 → Option (Int32 × St)) (S : St) (x1 : Int32) (x2 : Int32) (x3 : Int32) : Option (Int32 × St) :=
  bnd (x3 + 1 : Int32) fun v1 =>
  k_4 S x1 x2 v1
def f_X0_savedBy_4 (k_4 : St → Int32 → Int32 → Int32 → Option (Int32 × St)) (S : St) (x1 : Int32) (x2 : Int32) (x3 : Int32) : Option (Int32 × St) :=
  if (S.1 8 4) ≤ x3 then (
    some (x2, S)
  ) else (
    obd2 (f_X10_at S 9 x3) fun r3 S3 =>
    obd2 (f_X0_isDone S3 x3 r3) fun r4 S4 =>
    if r4 = 0 then (
      obd2 (f_X0_isDone S4 x3 (r3 ||| x1)) fun r6 S6 =>
      if r6 = 0 then (
        f_X0_savedBy_47 k_4 S6 x1 x2 x3
      ) else (
        bnd (x2 + 1 : Int32) fun v8 =>
        f_X0_savedBy_47 k_4 S6 x1 v8 x3
      )
    ) else (
      f_X0_savedBy_47 k_4 S4 x1 x2 x3
    )
  )
def l_X0_savedBy_4 : Nat → St → Int32 → Int32 → Int32 → Option (Int32 × St)
  | 0, _, _, _, _ => none
  | fu + 1, S, x1, x2, x3 => f_X0_savedBy_4 (l_X0_savedBy_4 fu) S x1 x2 x3
def f_X0_savedBy (S : St) (x1 : Int32) : Option (Int32 × St) :=
  l_X0_savedBy_4 FU S x1 0 0
set_option maxHeartbeats 4000000 in
set_option maxRecDepth 100000 in
theorem c_X0_savedBy {l : Launch} {D : va_G} {cI cC cS : ClassId} {ad adK adV : Nat → Nat} {S S1 : St} {x1 : Int32} {r : Int32} (h : f_X0_savedBy S x1 = some (r, S1)) : Kt l D (xw cI cC cS ad) (KX D (xtys cI cC cS) adK adV) yX0_savedBy cX0_savedBy 5 (some .int) (2) (44) [.ref (ad 8), .int x1] S (some (.int r)) S1 := by
  refine k_ent (ins := .ireturn) (st := [.int r]) (by decide +kernel) (Nat.le_of_ble_eq_true rfl) ret_i ?_
  intro p e s m args below meth c A Q C hK I hA hq ls hl
  have C : CallFix p m c cX0_savedBy 5 s args TT RX0 := C
  have hx := C.1
  have hb := C.2.1
  have kx := kx_ok D (xtys cI cC cS) adK adV
  have hl : lv_has ls 5 [(0, .ref (ad 8)), (1, .int x1)] := hl
  have J_47 : ∀ (k_4 : St → Int32 → Int32 → Int32 → Option (Int32 × St)) (hk_4 : ∀ (S : St) (x1 : Int32) (x2 : Int32) (x3 : Int32), k_4 S x1 x2 x3 = some (r, S1) → ∀ (H : Heap) (locs : List Loc) (ls : Array Slot), Iv D (xw cI cC cS ad) S A s H locs → lv_has ls 5 [(0, .ref (ad 8)), (1, .int x1), (2, .int x2), (3, .int x3)] → W p l e ({ frames := 2, cells := 0, slots := 0, locals := 44 } : Room) s m args below meth c H locs 0 0 Q (F0 m 4 ls [])) (S : St) (x1 : Int32) (x2 : Int32) (x3 : Int32), f_X0_savedBy_47 k_4 S x1 x2 x3 = some (r, S1) → ∀ (H : Heap) (locs : List Loc) (ls : Array Slot), Iv D (xw cI cC cS ad) S A s H locs → lv_has ls 5 [(0, .ref (ad 8)), (1, .int x1), (2, .int x2), (3, .int x3)] → W p l e ({ frames := 2, cells := 0, slots := 0, locals := 44 } : Room) s m args below meth c H locs 0 0 Q (F0 m 47 ls []) := by
    intro k_4 hk_4 S x1 x2 x3 h H locs ls I hl
    unfold f_X0_savedBy_47 at h
    obtain ⟨v1, ev1⟩ : ∃ y : Int32, y = x3 + 1 := ⟨_, rfl⟩
    have h := bnd_at ev1 h
    refine lv_iinc (v := v1) (lv' := [(3, .int v1), (0, .ref (ad 8)), (1, .int x1), (2, .int x2)]) hx hb dX0_savedBy_47 hl (k := 3) rfl (by rw [ev1]; rfl) (by decide) rfl (fun ls hl => ?_)
    clear ev1
    refine lv_goto (tgt := 4) hx hb dX0_savedBy_50 (by decide) ?_
    exact hk_4 _ _ _ _ h _ _ _ I (lv_sub hl [1, 2, 3, 0] rfl)
  have B_4 : ∀ (k_4 : St → Int32 → Int32 → Int32 → Option (Int32 × St)) (hk_4 : ∀ (S : St) (x1 : Int32) (x2 : Int32) (x3 : Int32), k_4 S x1 x2 x3 = some (r, S1) → ∀ (H : Heap) (locs : List Loc) (ls : Array Slot), Iv D (xw cI cC cS ad) S A s H locs → lv_has ls 5 [(0, .ref (ad 8)), (1, .int x1), (2, .int x2), (3, .int x3)] → W p l e ({ frames := 2, cells := 0, slots := 0, locals := 44 } : Room) s m args below meth c H locs 0 0 Q (F0 m 4 ls [])) (S : St) (x1 : Int32) (x2 : Int32) (x3 : Int32), f_X0_savedBy_4 k_4 S x1 x2 x3 = some (r, S1) → ∀ (H : Heap) (locs : List Loc) (ls : Array Slot), Iv D (xw cI cC cS ad) S A s H locs → lv_has ls 5 [(0, .ref (ad 8)), (1, .int x1), (2, .int x2), (3, .int x3)] → W p l e ({ frames := 2, cells := 0, slots := 0, locals := 44 } : Room) s m args below meth c H locs 0 0 Q (F0 m 4 ls []) := by
    intro k_4 hk_4 S x1 x2 x3 h H locs ls I hl
    unfold f_X0_savedBy_4 at h
    refine lv_iload_n hx hb dX0_savedBy_4 rfl (lv_at hl 3 rfl) ?_
    refine lv_aload_n hx hb dX0_savedBy_5 rfl (lv_at hl 0 rfl) ?_
    refine gx_8_4 C hK I fl_X0_25 dX0_savedBy_6 ?_
    refine lv_icmp_ge (tgt := 53) hx hb dX0_savedBy_9 (by decide) (fun c2 => ?_) (fun c2 => ?_)
    · have h := ite_t c2 h
      refine lv_iload_n hx hb dX0_savedBy_53 rfl (lv_at hl 2 rfl) ?_
      exact rt_i hq h I dX0_savedBy_54
    · have h := ite_n c2 h
      refine lv_aload_n hx hb dX0_savedBy_12 rfl (lv_at hl 0 rfl) ?_
      refine gx_8_3 C hK I fl_X0_18 dX0_savedBy_13 ?_
      refine lv_iload_n hx hb dX0_savedBy_16 rfl (lv_at hl 3 rfl) ?_
      obtain ⟨r3, S3, e3, h⟩ := obd2_ex h
      refine k_SN (As := [.ref (ad 20), .int x3]) (rest := []) (st1 := [.int r3]) C kx hK I hA (c_X10_at e3) ⟨Nat.le_of_ble_eq_true rfl, Nat.le_of_ble_eq_true rfl⟩ ms_X10_at lk_X0_41 rfl hl.1 rfl (Nat.le_of_ble_eq_true rfl) dX0_savedBy_17 rfl (fun H locs I => ?_)
      refine lv_istore (lv' := [(4, .int r3), (0, .ref (ad 8)), (1, .int x1), (2, .int x2), (3, .int x3)]) hx hb dX0_savedBy_20 hl (by decide) rfl (fun ls hl => ?_)
      refine lv_aload_n hx hb dX0_savedBy_22 rfl (lv_at hl 1 rfl) ?_
      refine lv_iload_n hx hb dX0_savedBy_23 rfl (lv_at hl 4 rfl) ?_
      refine lv_iload hx hb dX0_savedBy_24 (lv_at hl 0 rfl) ?_
      obtain ⟨r4, S4, e4, h⟩ := obd2_ex h
      refine k_V (As := [.int x3, .int r3]) (rest := []) (st1 := [.int r4]) C kx hK I hA (c_X0_isDone e4) ⟨Nat.le_of_ble_eq_true rfl, Nat.le_of_ble_eq_true rfl⟩ mv_X0_isDone lk_X0_49 8 0 (xw_8 (cI := cI) (ad := ad) (cC := cC) (cS := cS)) rfl rfl hl.1 rfl (Nat.le_of_ble_eq_true rfl) dX0_savedBy_26 rfl (fun H locs I => ?_)
      refine lv_if_ne (tgt := 47) hx hb dX0_savedBy_29 (by decide) (fun c5 => ?_) (fun c5 => ?_)
      · have h := ite_n c5 h
        exact J_47 k_4 hk_4 _ _ _ _ h _ _ _ I (lv_sub hl [1, 2, 3, 4] rfl)
      · have h := ite_t c5 h
        refine lv_aload_n hx hb dX0_savedBy_32 rfl (lv_at hl 1 rfl) ?_
        refine lv_iload_n hx hb dX0_savedBy_33 rfl (lv_at hl 4 rfl) ?_
        refine lv_iload hx hb dX0_savedBy_34 (lv_at hl 0 rfl) ?_
        refine lv_iload_n hx hb dX0_savedBy_36 rfl (lv_at hl 2 rfl) ?_
        refine lv_ior hx hb dX0_savedBy_37 ?_
        obtain ⟨r6, S6, e6, h⟩ := obd2_ex h
        refine k_V (As := [.int x3, .int (r3 ||| x1)]) (rest := []) (st1 := [.int r6]) C kx hK I hA (c_X0_isDone e6) ⟨Nat.le_of_ble_eq_true rfl, Nat.le_of_ble_eq_true rfl⟩ mv_X0_isDone lk_X0_49 8 0 (xw_8 (cI := cI) (ad := ad) (cC := cC) (cS := cS)) rfl rfl hl.1 rfl (Nat.le_of_ble_eq_true rfl) dX0_savedBy_38 rfl (fun H locs I => ?_)
        refine lv_if_eq (tgt := 47) hx hb dX0_savedBy_41 (by decide) (fun c7 => ?_) (fun c7 => ?_)
        · have h := ite_t c7 h
          exact J_47 k_4 hk_4 _ _ _ _ h _ _ _ I (lv_sub hl [1, 2, 3, 4] rfl)
        · have h := ite_n c7 h
          obtain ⟨v8, ev8⟩ : ∃ y : Int32, y = x2 + 1 := ⟨_, rfl⟩
          have h := bnd_at ev8 h
          refine lv_iinc (v := v8) (lv' := [(2, .int v8), (4, .int r3), (0, .ref (ad 8)), (1, .int x1), (3, .int x3)]) hx hb dX0_savedBy_44 hl (k := 3) rfl (by rw [ev8]; rfl) (by decide) rfl (fun ls hl => ?_)
          clear ev8
          exact J_47 k_4 hk_4 _ _ _ _ h _ _ _ I (lv_sub hl [2, 3, 0, 4] rfl)
  have J_4 : ∀ (fu : Nat) (S : St) (x1 : Int32) (x2 : Int32) (x3 : Int32), l_X0_savedBy_4  fu S x1 x2 x3 = some (r, S1) → ∀ (H : Heap) (locs : List Loc) (ls : Array Slot), Iv D (xw cI cC cS ad) S A s H locs → lv_has ls 5 [(0, .ref (ad 8)), (1, .int x1), (2, .int x2), (3, .int x3)] → W p l e ({ frames := 2, cells := 0, slots := 0, locals := 44 } : Room) s m args below meth c H locs 0 0 Q (F0 m 4 ls []) := by
    intro fu
    induction fu with
    | zero => intro S x1 x2 x3 h; cases h
    | succ fu ih => intro S x1 x2 x3 h; exact B_4 (l_X0_savedBy_4 fu) ih S x1 x2 x3 h
  unfold f_X0_savedBy at h
  refine lv_iconst (v := 0) hx hb dX0_savedBy_0 (by decide) ?_
  refine lv_istore_n (lv' := [(2, .int 0), (0, .ref (ad 8)), (1, .int x1)]) hx hb dX0_savedBy_1 rfl hl (by decide) rfl (fun ls hl => ?_)
  refine lv_iconst (v := 0) hx hb dX0_savedBy_2 (by decide) ?_
  refine lv_istore_n (lv' := [(3, .int 0), (2, .int 0), (0, .ref (ad 8)), (1, .int x1)]) hx hb dX0_savedBy_3 rfl hl (by decide) rfl (fun ls hl => ?_)
  exact J_4 _ _ _ _ _ h _ _ _ I (lv_sub hl [2, 3, 1, 0] rfl)
theorem lk_X0_52 : Cond.methodLink RX0 52 yJ6_bitCount_0f7a4 ∈ TT := tt_of 1035 (by decide +kernel) rfl
theorem ms_J6_bitCount_0f7a4 : MS yJ6_bitCount_0f7a4 cJ6_bitCount_0f7a4 1 (some .int) 1 := ⟨tt_of 940 (by decide +kernel) rfl, tt_of 939 (by decide +kernel) rfl, tt_of 82 (by decide +kernel) rfl, ⟨by decide +kernel, by decide +kernel, by decide +kernel⟩⟩
theorem lk_X0_58 : Cond.methodLink RX0 58 yX0_savedBy ∈ TT := tt_of 1036 (by decide +kernel) rfl
theorem mv_X0_savedBy : MV yX0_savedBy cX0_savedBy 5 (some .int) 1 := ⟨tt_of 1020 (by decide +kernel) rfl, tt_of 1018 (by decide +kernel) rfl, tt_of 1019 (by decide +kernel) rfl, tt_of 75 (by decide +kernel) rfl, ⟨by decide +kernel, by decide +kernel, by decide +kernel⟩⟩
theorem dX0_mostSaving_0 : decode cX0_mostSaving 0 = .ok (.iconst (-1), 1) := by decide +kernel
theorem dX0_mostSaving_1 : decode cX0_mostSaving 1 = .ok (.istore_n 2, 1) := by decide +kernel
theorem dX0_mostSaving_2 : decode cX0_mostSaving 2 = .ok (.iconst 0, 1) := by decide +kernel
theorem dX0_mostSaving_3 : decode cX0_mostSaving 3 = .ok (.istore_n 3, 1) := by decide +kernel
theorem dX0_mostSaving_4 : decode cX0_mostSaving 4 = .ok (.iconst 0, 1) := by decide +kernel
theorem dX0_mostSaving_5 : decode cX0_mostSaving 5 = .ok (.istore 4, 2) := by decide +kernel
theorem dX0_mostSaving_7 : decode cX0_mostSaving 7 = .ok (.iload 4, 2) := by decide +kernel
theorem dX0_mostSaving_9 : decode cX0_mostSaving 9 = .ok (.sipush 256, 3) := by decide +kernel
theorem dX0_mostSaving_12 : decode cX0_mostSaving 12 = .ok (.if_icmp .ge 41, 3) := by decide +kernel
theorem dX0_mostSaving_15 : decode cX0_mostSaving 15 = .ok (.iload 4, 2) := by decide +kernel
theorem dX0_mostSaving_17 : decode cX0_mostSaving 17 = .ok (.invokestatic 52, 3) := by decide +kernel
theorem dX0_mostSaving_20 : decode cX0_mostSaving 20 = .ok (.iload_n 1, 1) := by decide +kernel
theorem dX0_mostSaving_21 : decode cX0_mostSaving 21 = .ok (.if_icmp .eq 6, 3) := by decide +kernel
theorem dX0_mostSaving_24 : decode cX0_mostSaving 24 = .ok (.goto 23, 3) := by decide +kernel
theorem dX0_mostSaving_27 : decode cX0_mostSaving 27 = .ok (.aload_n 0, 1) := by decide +kernel
theorem dX0_mostSaving_28 : decode cX0_mostSaving 28 = .ok (.iload 4, 2) := by decide +kernel
theorem dX0_mostSaving_30 : decode cX0_mostSaving 30 = .ok (.invokevirtual 58, 3) := by decide +kernel
theorem dX0_mostSaving_33 : decode cX0_mostSaving 33 = .ok (.istore 5, 2) := by decide +kernel
theorem dX0_mostSaving_35 : decode cX0_mostSaving 35 = .ok (.iload 5, 2) := by decide +kernel
theorem dX0_mostSaving_37 : decode cX0_mostSaving 37 = .ok (.iload_n 2, 1) := by decide +kernel
theorem dX0_mostSaving_38 : decode cX0_mostSaving 38 = .ok (.if_icmp .le 9, 3) := by decide +kernel
theorem dX0_mostSaving_41 : decode cX0_mostSaving 41 = .ok (.iload 5, 2) := by decide +kernel
theorem dX0_mostSaving_43 : decode cX0_mostSaving 43 = .ok (.istore_n 2, 1) := by decide +kernel
theorem dX0_mostSaving_44 : decode cX0_mostSaving 44 = .ok (.iload 4, 2) := by decide +kernel
theorem dX0_mostSaving_46 : decode cX0_mostSaving 46 = .ok (.istore_n 3, 1) := by decide +kernel
theorem dX0_mostSaving_47 : decode cX0_mostSaving 47 = .ok (.iinc 4 1, 3) := by decide +kernel
theorem dX0_mostSaving_50 : decode cX0_mostSaving 50 = .ok (.goto (-43), 3) := by decide +kernel
theorem dX0_mostSaving_53 : decode cX0_mostSaving 53 = .ok (.iload_n 3, 1) := by decide +kernel
theorem dX0_mostSaving_54 : decode cX0_mostSaving 54 = .ok (.ireturn, 1) := by decide +kernel
def f_X0_mostSaving_47 (k_7 : St → Int32 → Int32 → Int32 → Int32 → Option (Int32 × St)) (S : St) (x1 : Int32) (x2 : Int32) (x3 : Int32) (x4 : Int32) : Option (Int32 × St) :=
  bnd (x4 + 1 : Int32) fun v1 =>
  k_7 S x1 x2 x3 v1
def f_X0_mostSaving_7 (k_7 : St → Int32 → Int32 → Int32 → Int32 → Option (Int32 × St)) (S : St) (x1 : Int32) (x2 : Int32) (x3 : Int32) (x4 : Int32) : Option (Int32 × St) :=
  if 256 ≤ x4 then (
    some (x3, S)
  ) else (
    obd2 (f_J6_bitCount_0f7a4 S x4) fun r3 S3 =>
    if r3 = x1 then (
      obd2 (f_X0_savedBy S3 x4) fun r5 S5 =>
      if r5 ≤ x2 then (
        f_X0_mostSaving_47 k_7 S5 x1 x2 x3 x4
      ) else (
        f_X0_mostSaving_47 k_7 S5 x1 r5 x4 x4
      )
    ) else (
      f_X0_mostSaving_47 k_7 S3 x1 x2 x3 x4
    )
  )
def l_X0_mostSaving_7 : Nat → St → Int32 → Int32 → Int32 → Int32 → Option (Int32 × St)
  | 0, _, _, _, _, _ => none
  | fu + 1, S, x1, x2, x3, x4 => f_X0_mostSaving_7 (l_X0_mostSaving_7 fu) S x1 x2 x3 x4
def f_X0_mostSaving (S : St) (x1 : Int32) : Option (Int32 × St) :=
  l_X0_mostSaving_7 FU S x1 (-1) 0 0
set_option maxHeartbeats 4000000 in
set_option maxRecDepth 100000 in
theorem c_X0_mostSaving {l : Launch} {D : va_G} {cI cC cS : ClassId} {ad adK adV : Nat → Nat} {S S1 : St} {x1 : Int32} {r : Int32} (h : f_X0_mostSaving S x1 = some (r, S1)) : Kt l D (xw cI cC cS ad) (KX D (xtys cI cC cS) adK adV) yX0_mostSaving cX0_mostSaving 6 (some .int) (3) (68) [.ref (ad 8), .int x1] S (some (.int r)) S1 := by
  refine k_ent (ins := .ireturn) (st := [.int r]) (by decide +kernel) (Nat.le_of_ble_eq_true rfl) ret_i ?_
  intro p e s m args below meth c A Q C hK I hA hq ls hl
  have C : CallFix p m c cX0_mostSaving 6 s args TT RX0 := C
  have hx := C.1
  have hb := C.2.1
  have kx := kx_ok D (xtys cI cC cS) adK adV
  have hl : lv_has ls 6 [(0, .ref (ad 8)), (1, .int x1)] := hl
  have J_47 : ∀ (k_7 : St → Int32 → Int32 → Int32 → Int32 → Option (Int32 × St)) (hk_7 : ∀ (S : St) (x1 : Int32) (x2 : Int32) (x3 : Int32) (x4 : Int32), k_7 S x1 x2 x3 x4 = some (r, S1) → ∀ (H : Heap) (locs : List Loc) (ls : Array Slot), Iv D (xw cI cC cS ad) S A s H locs → lv_has ls 6 [(0, .ref (ad 8)), (1, .int x1), (2, .int x2), (3, .int x3), (4, .int x4)] → W p l e ({ frames := 3, cells := 0, slots := 0, locals := 68 } : Room) s m args below meth c H locs 0 0 Q (F0 m 7 ls [])) (S : St) (x1 : Int32) (x2 : Int32) (x3 : Int32) (x4 : Int32), f_X0_mostSaving_47 k_7 S x1 x2 x3 x4 = some (r, S1) → ∀ (H : Heap) (locs : List Loc) (ls : Array Slot), Iv D (xw cI cC cS ad) S A s H locs → lv_has ls 6 [(0, .ref (ad 8)), (1, .int x1), (2, .int x2), (3, .int x3), (4, .int x4)] → W p l e ({ frames := 3, cells := 0, slots := 0, locals := 68 } : Room) s m args below meth c H locs 0 0 Q (F0 m 47 ls []) := by
    intro k_7 hk_7 S x1 x2 x3 x4 h H locs ls I hl
    unfold f_X0_mostSaving_47 at h
    obtain ⟨v1, ev1⟩ : ∃ y : Int32, y = x4 + 1 := ⟨_, rfl⟩
    have h := bnd_at ev1 h
    refine lv_iinc (v := v1) (lv' := [(4, .int v1), (0, .ref (ad 8)), (1, .int x1), (2, .int x2), (3, .int x3)]) hx hb dX0_mostSaving_47 hl (k := 4) rfl (by rw [ev1]; rfl) (by decide) rfl (fun ls hl => ?_)
    clear ev1
    refine lv_goto (tgt := 7) hx hb dX0_mostSaving_50 (by decide) ?_
    exact hk_7 _ _ _ _ _ h _ _ _ I (lv_sub hl [1, 2, 3, 4, 0] rfl)
  have B_7 : ∀ (k_7 : St → Int32 → Int32 → Int32 → Int32 → Option (Int32 × St)) (hk_7 : ∀ (S : St) (x1 : Int32) (x2 : Int32) (x3 : Int32) (x4 : Int32), k_7 S x1 x2 x3 x4 = some (r, S1) → ∀ (H : Heap) (locs : List Loc) (ls : Array Slot), Iv D (xw cI cC cS ad) S A s H locs → lv_has ls 6 [(0, .ref (ad 8)), (1, .int x1), (2, .int x2), (3, .int x3), (4, .int x4)] → W p l e ({ frames := 3, cells := 0, slots := 0, locals := 68 } : Room) s m args below meth c H locs 0 0 Q (F0 m 7 ls [])) (S : St) (x1 : Int32) (x2 : Int32) (x3 : Int32) (x4 : Int32), f_X0_mostSaving_7 k_7 S x1 x2 x3 x4 = some (r, S1) → ∀ (H : Heap) (locs : List Loc) (ls : Array Slot), Iv D (xw cI cC cS ad) S A s H locs → lv_has ls 6 [(0, .ref (ad 8)), (1, .int x1), (2, .int x2), (3, .int x3), (4, .int x4)] → W p l e ({ frames := 3, cells := 0, slots := 0, locals := 68 } : Room) s m args below meth c H locs 0 0 Q (F0 m 7 ls []) := by
    intro k_7 hk_7 S x1 x2 x3 x4 h H locs ls I hl
    unfold f_X0_mostSaving_7 at h
    refine lv_iload hx hb dX0_mostSaving_7 (lv_at hl 4 rfl) ?_
    refine lv_sipush (v := 256) hx hb dX0_mostSaving_9 (by decide) ?_
    refine lv_icmp_ge (tgt := 53) hx hb dX0_mostSaving_12 (by decide) (fun c2 => ?_) (fun c2 => ?_)
    · have h := ite_t c2 h
      refine lv_iload_n hx hb dX0_mostSaving_53 rfl (lv_at hl 3 rfl) ?_
      exact rt_i hq h I dX0_mostSaving_54
    · have h := ite_n c2 h
      refine lv_iload hx hb dX0_mostSaving_15 (lv_at hl 4 rfl) ?_
      obtain ⟨r3, S3, e3, h⟩ := obd2_ex h
      refine k_S (As := [.int x4]) (rest := []) (st1 := [.int r3]) C kx hK I hA (c_J6_bitCount_0f7a4 e3) ⟨Nat.le_of_ble_eq_true rfl, Nat.le_of_ble_eq_true rfl⟩ ms_J6_bitCount_0f7a4 lk_X0_52 rfl hl.1 rfl (Nat.le_of_ble_eq_true rfl) dX0_mostSaving_17 rfl (fun H locs I => ?_)
      refine lv_iload_n hx hb dX0_mostSaving_20 rfl (lv_at hl 1 rfl) ?_
      refine lv_icmp_eq (tgt := 27) hx hb dX0_mostSaving_21 (by decide) (fun c4 => ?_) (fun c4 => ?_)
      · have h := ite_t c4 h
        refine lv_aload_n hx hb dX0_mostSaving_27 rfl (lv_at hl 0 rfl) ?_
        refine lv_iload hx hb dX0_mostSaving_28 (lv_at hl 4 rfl) ?_
        obtain ⟨r5, S5, e5, h⟩ := obd2_ex h
        refine k_V (As := [.int x4]) (rest := []) (st1 := [.int r5]) C kx hK I hA (c_X0_savedBy e5) ⟨Nat.le_of_ble_eq_true rfl, Nat.le_of_ble_eq_true rfl⟩ mv_X0_savedBy lk_X0_58 8 0 (xw_8 (cI := cI) (ad := ad) (cC := cC) (cS := cS)) rfl rfl hl.1 rfl (Nat.le_of_ble_eq_true rfl) dX0_mostSaving_30 rfl (fun H locs I => ?_)
        refine lv_istore (lv' := [(5, .int r5), (0, .ref (ad 8)), (1, .int x1), (2, .int x2), (3, .int x3), (4, .int x4)]) hx hb dX0_mostSaving_33 hl (by decide) rfl (fun ls hl => ?_)
        refine lv_iload hx hb dX0_mostSaving_35 (lv_at hl 0 rfl) ?_
        refine lv_iload_n hx hb dX0_mostSaving_37 rfl (lv_at hl 3 rfl) ?_
        refine lv_icmp_le (tgt := 47) hx hb dX0_mostSaving_38 (by decide) (fun c6 => ?_) (fun c6 => ?_)
        · have h := ite_t c6 h
          exact J_47 k_7 hk_7 _ _ _ _ _ h _ _ _ I (lv_sub hl [1, 2, 3, 4, 5] rfl)
        · have h := ite_n c6 h
          refine lv_iload hx hb dX0_mostSaving_41 (lv_at hl 0 rfl) ?_
          refine lv_istore_n (lv' := [(2, .int r5), (5, .int r5), (0, .ref (ad 8)), (1, .int x1), (3, .int x3), (4, .int x4)]) hx hb dX0_mostSaving_43 rfl hl (by decide) rfl (fun ls hl => ?_)
          refine lv_iload hx hb dX0_mostSaving_44 (lv_at hl 5 rfl) ?_
          refine lv_istore_n (lv' := [(3, .int x4), (2, .int r5), (5, .int r5), (0, .ref (ad 8)), (1, .int x1), (4, .int x4)]) hx hb dX0_mostSaving_46 rfl hl (by decide) rfl (fun ls hl => ?_)
          exact J_47 k_7 hk_7 _ _ _ _ _ h _ _ _ I (lv_sub hl [3, 4, 1, 0, 5] rfl)
      · have h := ite_n c4 h
        refine lv_goto (tgt := 47) hx hb dX0_mostSaving_24 (by decide) ?_
        exact J_47 k_7 hk_7 _ _ _ _ _ h _ _ _ I (lv_sub hl [0, 1, 2, 3, 4] rfl)
  have J_7 : ∀ (fu : Nat) (S : St) (x1 : Int32) (x2 : Int32) (x3 : Int32) (x4 : Int32), l_X0_mostSaving_7  fu S x1 x2 x3 x4 = some (r, S1) → ∀ (H : Heap) (locs : List Loc) (ls : Array Slot), Iv D (xw cI cC cS ad) S A s H locs → lv_has ls 6 [(0, .ref (ad 8)), (1, .int x1), (2, .int x2), (3, .int x3), (4, .int x4)] → W p l e ({ frames := 3, cells := 0, slots := 0, locals := 68 } : Room) s m args below meth c H locs 0 0 Q (F0 m 7 ls []) := by
    intro fu
    induction fu with
    | zero => intro S x1 x2 x3 x4 h; cases h
    | succ fu ih => intro S x1 x2 x3 x4 h; exact B_7 (l_X0_mostSaving_7 fu) ih S x1 x2 x3 x4 h
  unfold f_X0_mostSaving at h
  refine lv_iconst (v := (-1)) hx hb dX0_mostSaving_0 (by decide) ?_
  refine lv_istore_n (lv' := [(2, .int (-1)), (0, .ref (ad 8)), (1, .int x1)]) hx hb dX0_mostSaving_1 rfl hl (by decide) rfl (fun ls hl => ?_)
  refine lv_iconst (v := 0) hx hb dX0_mostSaving_2 (by decide) ?_
  refine lv_istore_n (lv' := [(3, .int 0), (2, .int (-1)), (0, .ref (ad 8)), (1, .int x1)]) hx hb dX0_mostSaving_3 rfl hl (by decide) rfl (fun ls hl => ?_)
  refine lv_iconst (v := 0) hx hb dX0_mostSaving_4 (by decide) ?_
  refine lv_istore (lv' := [(4, .int 0), (3, .int 0), (2, .int (-1)), (0, .ref (ad 8)), (1, .int x1)]) hx hb dX0_mostSaving_5 hl (by decide) rfl (fun ls hl => ?_)
  exact J_7 _ _ _ _ _ _ h _ _ _ I (lv_sub hl [3, 4, 2, 1, 0] rfl)
theorem dX0_doneBy_0 : decode cX0_doneBy 0 = .ok (.iconst 0, 1) := by decide +kernel
theorem dX0_doneBy_1 : decode cX0_doneBy 1 = .ok (.istore_n 2, 1) := by decide +kernel
theorem dX0_doneBy_2 : decode cX0_doneBy 2 = .ok (.iconst 0, 1) := by decide +kernel
theorem dX0_doneBy_3 : decode cX0_doneBy 3 = .ok (.istore_n 3, 1) := by decide +kernel
theorem dX0_doneBy_4 : decode cX0_doneBy 4 = .ok (.iload_n 3, 1) := by decide +kernel
theorem dX0_doneBy_5 : decode cX0_doneBy 5 = .ok (.aload_n 0, 1) := by decide +kernel
theorem dX0_doneBy_6 : decode cX0_doneBy 6 = .ok (.getfield 25, 3) := by decide +kernel
theorem dX0_doneBy_9 : decode cX0_doneBy 9 = .ok (.if_icmp .ge 21, 3) := by decide +kernel
theorem dX0_doneBy_12 : decode cX0_doneBy 12 = .ok (.aload_n 0, 1) := by decide +kernel
theorem dX0_doneBy_13 : decode cX0_doneBy 13 = .ok (.iload_n 3, 1) := by decide +kernel
theorem dX0_doneBy_14 : decode cX0_doneBy 14 = .ok (.iload_n 1, 1) := by decide +kernel
theorem dX0_doneBy_15 : decode cX0_doneBy 15 = .ok (.invokevirtual 49, 3) := by decide +kernel
theorem dX0_doneBy_18 : decode cX0_doneBy 18 = .ok (.ifCond .eq 6, 3) := by decide +kernel
theorem dX0_doneBy_21 : decode cX0_doneBy 21 = .ok (.iinc 2 1, 3) := by decide +kernel
theorem dX0_doneBy_24 : decode cX0_doneBy 24 = .ok (.iinc 3 1, 3) := by decide +kernel
theorem dX0_doneBy_27 : decode cX0_doneBy 27 = .ok (.goto (-23), 3) := by decide +kernel
theorem dX0_doneBy_30 : decode cX0_doneBy 30 = .ok (.iload_n 2, 1) := by decide +kernel
theorem dX0_doneBy_31 : decode cX0_doneBy 31 = .ok (.ireturn, 1) := by decide +kernel
def f_X0_doneBy_24 (k_4 : St → Int32 → Int32 → Int32 → Option (Int32 × St)) (S : St) (x1 : Int32) (x2 : Int32) (x3 : Int32) : Option (Int32 × St) :=
  bnd (x3 + 1 : Int32) fun v1 =>
  k_4 S x1 x2 v1
def f_X0_doneBy_4 (k_4 : St → Int32 → Int32 → Int32 → Option (Int32 × St)) (S : St) (x1 : Int32) (x2 : Int32) (x3 : Int32) : Option (Int32 × St) :=
  if (S.1 8 4) ≤ x3 then (
    some (x2, S)
  ) else (
    obd2 (f_X0_isDone S x3 x1) fun r3 S3 =>
    if r3 = 0 then (
      f_X0_doneBy_24 k_4 S3 x1 x2 x3
    ) else (
      bnd (x2 + 1 : Int32) fun v5 =>
      f_X0_doneBy_24 k_4 S3 x1 v5 x3
    )
  )
def l_X0_doneBy_4 : Nat → St → Int32 → Int32 → Int32 → Option (Int32 × St)
  | 0, _, _, _, _ => none
  | fu + 1, S, x1, x2, x3 => f_X0_doneBy_4 (l_X0_doneBy_4 fu) S x1 x2 x3
def f_X0_doneBy (S : St) (x1 : Int32) : Option (Int32 × St) :=
  l_X0_doneBy_4 FU S x1 0 0
set_option maxHeartbeats 4000000 in
set_option maxRecDepth 100000 in
theorem c_X0_doneBy {l : Launch} {D : va_G} {cI cC cS : ClassId} {ad adK adV : Nat → Nat} {S S1 : St} {x1 : Int32} {r : Int32} (h : f_X0_doneBy S x1 = some (r, S1)) : Kt l D (xw cI cC cS ad) (KX D (xtys cI cC cS) adK adV) yX0_doneBy cX0_doneBy 4 (some .int) (2) (44) [.ref (ad 8), .int x1] S (some (.int r)) S1 := by
  refine k_ent (ins := .ireturn) (st := [.int r]) (by decide +kernel) (Nat.le_of_ble_eq_true rfl) ret_i ?_
  intro p e s m args below meth c A Q C hK I hA hq ls hl
  have C : CallFix p m c cX0_doneBy 4 s args TT RX0 := C
  have hx := C.1
  have hb := C.2.1
  have kx := kx_ok D (xtys cI cC cS) adK adV
  have hl : lv_has ls 4 [(0, .ref (ad 8)), (1, .int x1)] := hl
  have J_24 : ∀ (k_4 : St → Int32 → Int32 → Int32 → Option (Int32 × St)) (hk_4 : ∀ (S : St) (x1 : Int32) (x2 : Int32) (x3 : Int32), k_4 S x1 x2 x3 = some (r, S1) → ∀ (H : Heap) (locs : List Loc) (ls : Array Slot), Iv D (xw cI cC cS ad) S A s H locs → lv_has ls 4 [(0, .ref (ad 8)), (1, .int x1), (2, .int x2), (3, .int x3)] → W p l e ({ frames := 2, cells := 0, slots := 0, locals := 44 } : Room) s m args below meth c H locs 0 0 Q (F0 m 4 ls [])) (S : St) (x1 : Int32) (x2 : Int32) (x3 : Int32), f_X0_doneBy_24 k_4 S x1 x2 x3 = some (r, S1) → ∀ (H : Heap) (locs : List Loc) (ls : Array Slot), Iv D (xw cI cC cS ad) S A s H locs → lv_has ls 4 [(0, .ref (ad 8)), (1, .int x1), (2, .int x2), (3, .int x3)] → W p l e ({ frames := 2, cells := 0, slots := 0, locals := 44 } : Room) s m args below meth c H locs 0 0 Q (F0 m 24 ls []) := by
    intro k_4 hk_4 S x1 x2 x3 h H locs ls I hl
    unfold f_X0_doneBy_24 at h
    obtain ⟨v1, ev1⟩ : ∃ y : Int32, y = x3 + 1 := ⟨_, rfl⟩
    have h := bnd_at ev1 h
    refine lv_iinc (v := v1) (lv' := [(3, .int v1), (0, .ref (ad 8)), (1, .int x1), (2, .int x2)]) hx hb dX0_doneBy_24 hl (k := 3) rfl (by rw [ev1]; rfl) (by decide) rfl (fun ls hl => ?_)
    clear ev1
    refine lv_goto (tgt := 4) hx hb dX0_doneBy_27 (by decide) ?_
    exact hk_4 _ _ _ _ h _ _ _ I (lv_sub hl [1, 2, 3, 0] rfl)
  have B_4 : ∀ (k_4 : St → Int32 → Int32 → Int32 → Option (Int32 × St)) (hk_4 : ∀ (S : St) (x1 : Int32) (x2 : Int32) (x3 : Int32), k_4 S x1 x2 x3 = some (r, S1) → ∀ (H : Heap) (locs : List Loc) (ls : Array Slot), Iv D (xw cI cC cS ad) S A s H locs → lv_has ls 4 [(0, .ref (ad 8)), (1, .int x1), (2, .int x2), (3, .int x3)] → W p l e ({ frames := 2, cells := 0, slots := 0, locals := 44 } : Room) s m args below meth c H locs 0 0 Q (F0 m 4 ls [])) (S : St) (x1 : Int32) (x2 : Int32) (x3 : Int32), f_X0_doneBy_4 k_4 S x1 x2 x3 = some (r, S1) → ∀ (H : Heap) (locs : List Loc) (ls : Array Slot), Iv D (xw cI cC cS ad) S A s H locs → lv_has ls 4 [(0, .ref (ad 8)), (1, .int x1), (2, .int x2), (3, .int x3)] → W p l e ({ frames := 2, cells := 0, slots := 0, locals := 44 } : Room) s m args below meth c H locs 0 0 Q (F0 m 4 ls []) := by
    intro k_4 hk_4 S x1 x2 x3 h H locs ls I hl
    unfold f_X0_doneBy_4 at h
    refine lv_iload_n hx hb dX0_doneBy_4 rfl (lv_at hl 3 rfl) ?_
    refine lv_aload_n hx hb dX0_doneBy_5 rfl (lv_at hl 0 rfl) ?_
    refine gx_8_4 C hK I fl_X0_25 dX0_doneBy_6 ?_
    refine lv_icmp_ge (tgt := 30) hx hb dX0_doneBy_9 (by decide) (fun c2 => ?_) (fun c2 => ?_)
    · have h := ite_t c2 h
      refine lv_iload_n hx hb dX0_doneBy_30 rfl (lv_at hl 2 rfl) ?_
      exact rt_i hq h I dX0_doneBy_31
    · have h := ite_n c2 h
      refine lv_aload_n hx hb dX0_doneBy_12 rfl (lv_at hl 0 rfl) ?_
      refine lv_iload_n hx hb dX0_doneBy_13 rfl (lv_at hl 3 rfl) ?_
      refine lv_iload_n hx hb dX0_doneBy_14 rfl (lv_at hl 1 rfl) ?_
      obtain ⟨r3, S3, e3, h⟩ := obd2_ex h
      refine k_V (As := [.int x3, .int x1]) (rest := []) (st1 := [.int r3]) C kx hK I hA (c_X0_isDone e3) ⟨Nat.le_of_ble_eq_true rfl, Nat.le_of_ble_eq_true rfl⟩ mv_X0_isDone lk_X0_49 8 0 (xw_8 (cI := cI) (ad := ad) (cC := cC) (cS := cS)) rfl rfl hl.1 rfl (Nat.le_of_ble_eq_true rfl) dX0_doneBy_15 rfl (fun H locs I => ?_)
      refine lv_if_eq (tgt := 24) hx hb dX0_doneBy_18 (by decide) (fun c4 => ?_) (fun c4 => ?_)
      · have h := ite_t c4 h
        exact J_24 k_4 hk_4 _ _ _ _ h _ _ _ I (lv_sub hl [0, 1, 2, 3] rfl)
      · have h := ite_n c4 h
        obtain ⟨v5, ev5⟩ : ∃ y : Int32, y = x2 + 1 := ⟨_, rfl⟩
        have h := bnd_at ev5 h
        refine lv_iinc (v := v5) (lv' := [(2, .int v5), (0, .ref (ad 8)), (1, .int x1), (3, .int x3)]) hx hb dX0_doneBy_21 hl (k := 2) rfl (by rw [ev5]; rfl) (by decide) rfl (fun ls hl => ?_)
        clear ev5
        exact J_24 k_4 hk_4 _ _ _ _ h _ _ _ I (lv_sub hl [1, 2, 0, 3] rfl)
  have J_4 : ∀ (fu : Nat) (S : St) (x1 : Int32) (x2 : Int32) (x3 : Int32), l_X0_doneBy_4  fu S x1 x2 x3 = some (r, S1) → ∀ (H : Heap) (locs : List Loc) (ls : Array Slot), Iv D (xw cI cC cS ad) S A s H locs → lv_has ls 4 [(0, .ref (ad 8)), (1, .int x1), (2, .int x2), (3, .int x3)] → W p l e ({ frames := 2, cells := 0, slots := 0, locals := 44 } : Room) s m args below meth c H locs 0 0 Q (F0 m 4 ls []) := by
    intro fu
    induction fu with
    | zero => intro S x1 x2 x3 h; cases h
    | succ fu ih => intro S x1 x2 x3 h; exact B_4 (l_X0_doneBy_4 fu) ih S x1 x2 x3 h
  unfold f_X0_doneBy at h
  refine lv_iconst (v := 0) hx hb dX0_doneBy_0 (by decide) ?_
  refine lv_istore_n (lv' := [(2, .int 0), (0, .ref (ad 8)), (1, .int x1)]) hx hb dX0_doneBy_1 rfl hl (by decide) rfl (fun ls hl => ?_)
  refine lv_iconst (v := 0) hx hb dX0_doneBy_2 (by decide) ?_
  refine lv_istore_n (lv' := [(3, .int 0), (2, .int 0), (0, .ref (ad 8)), (1, .int x1)]) hx hb dX0_doneBy_3 rfl hl (by decide) rfl (fun ls hl => ?_)
  exact J_4 _ _ _ _ _ h _ _ _ I (lv_sub hl [2, 3, 1, 0] rfl)
theorem fl_X0_21 : Cond.fieldLink RX0 21 RX0 "plan" "LCarryUp$Plan;" ∈ TT := tt_of 368 (by decide +kernel) rfl
theorem lk_X0_64 : Cond.methodLink RX0 64 yX4_mayBe ∈ TT := tt_of 1049 (by decide +kernel) rfl
theorem mv_X4_mayBe : MV yX4_mayBe cX4_mayBe 4 (some .boolean) 1 := ⟨tt_of 696 (by decide +kernel) rfl, tt_of 694 (by decide +kernel) rfl, tt_of 695 (by decide +kernel) rfl, tt_of 68 (by decide +kernel) rfl, ⟨by decide +kernel, by decide +kernel, by decide +kernel⟩⟩
theorem lk_X0_61 : Cond.methodLink RX0 61 yX0_doneBy ∈ TT := tt_of 1045 (by decide +kernel) rfl
theorem mv_X0_doneBy : MV yX0_doneBy cX0_doneBy 4 (some .int) 1 := ⟨tt_of 1048 (by decide +kernel) rfl, tt_of 1046 (by decide +kernel) rfl, tt_of 1047 (by decide +kernel) rfl, tt_of 75 (by decide +kernel) rfl, ⟨by decide +kernel, by decide +kernel, by decide +kernel⟩⟩
theorem lk_X0_70 : Cond.methodLink RX0 70 yX4_weightOf ∈ TT := tt_of 1050 (by decide +kernel) rfl
theorem dX0_bestBox_0 : decode cX0_bestBox 0 = .ok (.iconst 0, 1) := by decide +kernel
theorem dX0_bestBox_1 : decode cX0_bestBox 1 = .ok (.istore_n 1, 1) := by decide +kernel
theorem dX0_bestBox_2 : decode cX0_bestBox 2 = .ok (.aload_n 0, 1) := by decide +kernel
theorem dX0_bestBox_3 : decode cX0_bestBox 3 = .ok (.iload_n 1, 1) := by decide +kernel
theorem dX0_bestBox_4 : decode cX0_bestBox 4 = .ok (.invokevirtual 61, 3) := by decide +kernel
theorem dX0_bestBox_7 : decode cX0_bestBox 7 = .ok (.istore_n 2, 1) := by decide +kernel
theorem dX0_bestBox_8 : decode cX0_bestBox 8 = .ok (.iconst 1, 1) := by decide +kernel
theorem dX0_bestBox_9 : decode cX0_bestBox 9 = .ok (.istore_n 3, 1) := by decide +kernel
theorem dX0_bestBox_10 : decode cX0_bestBox 10 = .ok (.iload_n 3, 1) := by decide +kernel
theorem dX0_bestBox_11 : decode cX0_bestBox 11 = .ok (.sipush 256, 3) := by decide +kernel
theorem dX0_bestBox_14 : decode cX0_bestBox 14 = .ok (.if_icmp .ge 66, 3) := by decide +kernel
theorem dX0_bestBox_17 : decode cX0_bestBox 17 = .ok (.aload_n 0, 1) := by decide +kernel
theorem dX0_bestBox_18 : decode cX0_bestBox 18 = .ok (.getfield 21, 3) := by decide +kernel
theorem dX0_bestBox_21 : decode cX0_bestBox 21 = .ok (.iload_n 3, 1) := by decide +kernel
theorem dX0_bestBox_22 : decode cX0_bestBox 22 = .ok (.invokevirtual 64, 3) := by decide +kernel
theorem dX0_bestBox_25 : decode cX0_bestBox 25 = .ok (.ifCond .ne 6, 3) := by decide +kernel
theorem dX0_bestBox_28 : decode cX0_bestBox 28 = .ok (.goto 46, 3) := by decide +kernel
theorem dX0_bestBox_31 : decode cX0_bestBox 31 = .ok (.aload_n 0, 1) := by decide +kernel
theorem dX0_bestBox_32 : decode cX0_bestBox 32 = .ok (.iload_n 3, 1) := by decide +kernel
theorem dX0_bestBox_33 : decode cX0_bestBox 33 = .ok (.invokevirtual 61, 3) := by decide +kernel
theorem dX0_bestBox_36 : decode cX0_bestBox 36 = .ok (.istore 4, 2) := by decide +kernel
theorem dX0_bestBox_38 : decode cX0_bestBox 38 = .ok (.iload 4, 2) := by decide +kernel
theorem dX0_bestBox_40 : decode cX0_bestBox 40 = .ok (.iload_n 2, 1) := by decide +kernel
theorem dX0_bestBox_41 : decode cX0_bestBox 41 = .ok (.if_icmp .gt 28, 3) := by decide +kernel
theorem dX0_bestBox_44 : decode cX0_bestBox 44 = .ok (.iload 4, 2) := by decide +kernel
theorem dX0_bestBox_46 : decode cX0_bestBox 46 = .ok (.iload_n 2, 1) := by decide +kernel
theorem dX0_bestBox_47 : decode cX0_bestBox 47 = .ok (.if_icmp .ne 27, 3) := by decide +kernel
theorem dX0_bestBox_50 : decode cX0_bestBox 50 = .ok (.aload_n 0, 1) := by decide +kernel
theorem dX0_bestBox_51 : decode cX0_bestBox 51 = .ok (.getfield 21, 3) := by decide +kernel
theorem dX0_bestBox_54 : decode cX0_bestBox 54 = .ok (.iload_n 3, 1) := by decide +kernel
theorem dX0_bestBox_55 : decode cX0_bestBox 55 = .ok (.invokevirtual 70, 3) := by decide +kernel
theorem dX0_bestBox_58 : decode cX0_bestBox 58 = .ok (.aload_n 0, 1) := by decide +kernel
theorem dX0_bestBox_59 : decode cX0_bestBox 59 = .ok (.getfield 21, 3) := by decide +kernel
theorem dX0_bestBox_62 : decode cX0_bestBox 62 = .ok (.iload_n 1, 1) := by decide +kernel
theorem dX0_bestBox_63 : decode cX0_bestBox 63 = .ok (.invokevirtual 70, 3) := by decide +kernel
theorem dX0_bestBox_66 : decode cX0_bestBox 66 = .ok (.if_icmp .ge 8, 3) := by decide +kernel
theorem dX0_bestBox_69 : decode cX0_bestBox 69 = .ok (.iload_n 3, 1) := by decide +kernel
theorem dX0_bestBox_70 : decode cX0_bestBox 70 = .ok (.istore_n 1, 1) := by decide +kernel
theorem dX0_bestBox_71 : decode cX0_bestBox 71 = .ok (.iload 4, 2) := by decide +kernel
theorem dX0_bestBox_73 : decode cX0_bestBox 73 = .ok (.istore_n 2, 1) := by decide +kernel
theorem dX0_bestBox_74 : decode cX0_bestBox 74 = .ok (.iinc 3 1, 3) := by decide +kernel
theorem dX0_bestBox_77 : decode cX0_bestBox 77 = .ok (.goto (-67), 3) := by decide +kernel
theorem dX0_bestBox_80 : decode cX0_bestBox 80 = .ok (.iload_n 1, 1) := by decide +kernel
theorem dX0_bestBox_81 : decode cX0_bestBox 81 = .ok (.ireturn, 1) := by decide +kernel
def f_X0_bestBox_74 (k_10 : St → Int32 → Int32 → Int32 → Option (Int32 × St)) (S : St) (x1 : Int32) (x2 : Int32) (x3 : Int32) : Option (Int32 × St) :=
  bnd (x3 + 1 : Int32) fun v1 =>
  k_10 S x1 x2 v1
def f_X0_bestBox_69 (k_10 : St → Int32 → Int32 → Int32 → Option (Int32 × St)) (S : St) (x3 : Int32) (x4 : Int32) : Option (Int32 × St) :=
  f_X0_bestBox_74 k_10 S x3 x4 x3
def f_X0_bestBox_10 (k_10 : St → Int32 → Int32 → Int32 → Option (Int32 × St)) (S : St) (x1 : Int32) (x2 : Int32) (x3 : Int32) : Option (Int32 × St) :=
  if 256 ≤ x3 then (
    some (x1, S)
  ) else (
    obd2 (f_X4_mayBe S x3) fun r3 S3 =>
    if r3 = 0 then (
      f_X0_bestBox_74 k_10 S3 x1 x2 x3
    ) else (
      obd2 (f_X0_doneBy S3 x3) fun r5 S5 =>
      if x2 < r5 then (
        f_X0_bestBox_69 k_10 S5 x3 r5
      ) else (
        if r5 = x2 then (
          obd2 (f_X4_weightOf S5 x3) fun r8 S8 =>
          obd2 (f_X4_weightOf S8 x1) fun r9 S9 =>
          if r9 ≤ r8 then (
            f_X0_bestBox_74 k_10 S9 x1 x2 x3
          ) else (
            f_X0_bestBox_69 k_10 S9 x3 r5
          )
        ) else (
          f_X0_bestBox_74 k_10 S5 x1 x2 x3
        )
      )
    )
  )
def l_X0_bestBox_10 : Nat → St → Int32 → Int32 → Int32 → Option (Int32 × St)
  | 0, _, _, _, _ => none
  | fu + 1, S, x1, x2, x3 => f_X0_bestBox_10 (l_X0_bestBox_10 fu) S x1 x2 x3
def f_X0_bestBox (S : St)  : Option (Int32 × St) :=
  obd2 (f_X0_doneBy S 0) fun r11 S11 =>
  l_X0_bestBox_10 FU S11 0 r11 1
set_option maxHeartbeats 4000000 in
set_option maxRecDepth 100000 in
theorem c_X0_bestBox {l : Launch} {D : va_G} {cI cC cS : ClassId} {ad adK adV : Nat → Nat} {S S1 : St}  {r : Int32} (h : f_X0_bestBox S  = some (r, S1)) : Kt l D (xw cI cC cS ad) (KX D (xtys cI cC cS) adK adV) yX0_bestBox cX0_bestBox 5 (some .int) (3) (67) [.ref (ad 8)] S (some (.int r)) S1 := by
  refine k_ent (ins := .ireturn) (st := [.int r]) (by decide +kernel) (Nat.le_of_ble_eq_true rfl) ret_i ?_
  intro p e s m args below meth c A Q C hK I hA hq ls hl
  have C : CallFix p m c cX0_bestBox 5 s args TT RX0 := C
  have hx := C.1
  have hb := C.2.1
  have kx := kx_ok D (xtys cI cC cS) adK adV
  have hl : lv_has ls 5 [(0, .ref (ad 8))] := hl
  have J_74 : ∀ (k_10 : St → Int32 → Int32 → Int32 → Option (Int32 × St)) (hk_10 : ∀ (S : St) (x1 : Int32) (x2 : Int32) (x3 : Int32), k_10 S x1 x2 x3 = some (r, S1) → ∀ (H : Heap) (locs : List Loc) (ls : Array Slot), Iv D (xw cI cC cS ad) S A s H locs → lv_has ls 5 [(0, .ref (ad 8)), (1, .int x1), (2, .int x2), (3, .int x3)] → W p l e ({ frames := 3, cells := 0, slots := 0, locals := 67 } : Room) s m args below meth c H locs 0 0 Q (F0 m 10 ls [])) (S : St) (x1 : Int32) (x2 : Int32) (x3 : Int32), f_X0_bestBox_74 k_10 S x1 x2 x3 = some (r, S1) → ∀ (H : Heap) (locs : List Loc) (ls : Array Slot), Iv D (xw cI cC cS ad) S A s H locs → lv_has ls 5 [(0, .ref (ad 8)), (1, .int x1), (2, .int x2), (3, .int x3)] → W p l e ({ frames := 3, cells := 0, slots := 0, locals := 67 } : Room) s m args below meth c H locs 0 0 Q (F0 m 74 ls []) := by
    intro k_10 hk_10 S x1 x2 x3 h H locs ls I hl
    unfold f_X0_bestBox_74 at h
    obtain ⟨v1, ev1⟩ : ∃ y : Int32, y = x3 + 1 := ⟨_, rfl⟩
    have h := bnd_at ev1 h
    refine lv_iinc (v := v1) (lv' := [(3, .int v1), (0, .ref (ad 8)), (1, .int x1), (2, .int x2)]) hx hb dX0_bestBox_74 hl (k := 3) rfl (by rw [ev1]; rfl) (by decide) rfl (fun ls hl => ?_)
    clear ev1
    refine lv_goto (tgt := 10) hx hb dX0_bestBox_77 (by decide) ?_
    exact hk_10 _ _ _ _ h _ _ _ I (lv_sub hl [1, 2, 3, 0] rfl)
  have J_69 : ∀ (k_10 : St → Int32 → Int32 → Int32 → Option (Int32 × St)) (hk_10 : ∀ (S : St) (x1 : Int32) (x2 : Int32) (x3 : Int32), k_10 S x1 x2 x3 = some (r, S1) → ∀ (H : Heap) (locs : List Loc) (ls : Array Slot), Iv D (xw cI cC cS ad) S A s H locs → lv_has ls 5 [(0, .ref (ad 8)), (1, .int x1), (2, .int x2), (3, .int x3)] → W p l e ({ frames := 3, cells := 0, slots := 0, locals := 67 } : Room) s m args below meth c H locs 0 0 Q (F0 m 10 ls [])) (S : St) (x3 : Int32) (x4 : Int32), f_X0_bestBox_69 k_10 S x3 x4 = some (r, S1) → ∀ (H : Heap) (locs : List Loc) (ls : Array Slot), Iv D (xw cI cC cS ad) S A s H locs → lv_has ls 5 [(0, .ref (ad 8)), (3, .int x3), (4, .int x4)] → W p l e ({ frames := 3, cells := 0, slots := 0, locals := 67 } : Room) s m args below meth c H locs 0 0 Q (F0 m 69 ls []) := by
    intro k_10 hk_10 S x3 x4 h H locs ls I hl
    unfold f_X0_bestBox_69 at h
    refine lv_iload_n hx hb dX0_bestBox_69 rfl (lv_at hl 1 rfl) ?_
    refine lv_istore_n (lv' := [(1, .int x3), (0, .ref (ad 8)), (3, .int x3), (4, .int x4)]) hx hb dX0_bestBox_70 rfl hl (by decide) rfl (fun ls hl => ?_)
    refine lv_iload hx hb dX0_bestBox_71 (lv_at hl 3 rfl) ?_
    refine lv_istore_n (lv' := [(2, .int x4), (1, .int x3), (0, .ref (ad 8)), (3, .int x3), (4, .int x4)]) hx hb dX0_bestBox_73 rfl hl (by decide) rfl (fun ls hl => ?_)
    exact J_74 k_10 hk_10 _ _ _ _ h _ _ _ I (lv_sub hl [2, 1, 0, 3] rfl)
  have B_10 : ∀ (k_10 : St → Int32 → Int32 → Int32 → Option (Int32 × St)) (hk_10 : ∀ (S : St) (x1 : Int32) (x2 : Int32) (x3 : Int32), k_10 S x1 x2 x3 = some (r, S1) → ∀ (H : Heap) (locs : List Loc) (ls : Array Slot), Iv D (xw cI cC cS ad) S A s H locs → lv_has ls 5 [(0, .ref (ad 8)), (1, .int x1), (2, .int x2), (3, .int x3)] → W p l e ({ frames := 3, cells := 0, slots := 0, locals := 67 } : Room) s m args below meth c H locs 0 0 Q (F0 m 10 ls [])) (S : St) (x1 : Int32) (x2 : Int32) (x3 : Int32), f_X0_bestBox_10 k_10 S x1 x2 x3 = some (r, S1) → ∀ (H : Heap) (locs : List Loc) (ls : Array Slot), Iv D (xw cI cC cS ad) S A s H locs → lv_has ls 5 [(0, .ref (ad 8)), (1, .int x1), (2, .int x2), (3, .int x3)] → W p l e ({ frames := 3, cells := 0, slots := 0, locals := 67 } : Room) s m args below meth c H locs 0 0 Q (F0 m 10 ls []) := by
    intro k_10 hk_10 S x1 x2 x3 h H locs ls I hl
    unfold f_X0_bestBox_10 at h
    refine lv_iload_n hx hb dX0_bestBox_10 rfl (lv_at hl 3 rfl) ?_
    refine lv_sipush (v := 256) hx hb dX0_bestBox_11 (by decide) ?_
    refine lv_icmp_ge (tgt := 80) hx hb dX0_bestBox_14 (by decide) (fun c2 => ?_) (fun c2 => ?_)
    · have h := ite_t c2 h
      refine lv_iload_n hx hb dX0_bestBox_80 rfl (lv_at hl 1 rfl) ?_
      exact rt_i hq h I dX0_bestBox_81
    · have h := ite_n c2 h
      refine lv_aload_n hx hb dX0_bestBox_17 rfl (lv_at hl 0 rfl) ?_
      refine gx_8_0 C hK I fl_X0_21 dX0_bestBox_18 ?_
      refine lv_iload_n hx hb dX0_bestBox_21 rfl (lv_at hl 3 rfl) ?_
      obtain ⟨r3, S3, e3, h⟩ := obd2_ex h
      refine k_V (As := [.int x3]) (rest := []) (st1 := [.int r3]) C kx hK I hA (c_X4_mayBe e3) ⟨Nat.le_of_ble_eq_true rfl, Nat.le_of_ble_eq_true rfl⟩ mv_X4_mayBe lk_X0_64 3 4 (xw_3 (cI := cI) (ad := ad) (cC := cC) (cS := cS)) rfl rfl hl.1 rfl (Nat.le_of_ble_eq_true rfl) dX0_bestBox_22 rfl (fun H locs I => ?_)
      refine lv_if_ne (tgt := 31) hx hb dX0_bestBox_25 (by decide) (fun c4 => ?_) (fun c4 => ?_)
      · have h := ite_n c4 h
        refine lv_aload_n hx hb dX0_bestBox_31 rfl (lv_at hl 0 rfl) ?_
        refine lv_iload_n hx hb dX0_bestBox_32 rfl (lv_at hl 3 rfl) ?_
        obtain ⟨r5, S5, e5, h⟩ := obd2_ex h
        refine k_V (As := [.int x3]) (rest := []) (st1 := [.int r5]) C kx hK I hA (c_X0_doneBy e5) ⟨Nat.le_of_ble_eq_true rfl, Nat.le_of_ble_eq_true rfl⟩ mv_X0_doneBy lk_X0_61 8 0 (xw_8 (cI := cI) (ad := ad) (cC := cC) (cS := cS)) rfl rfl hl.1 rfl (Nat.le_of_ble_eq_true rfl) dX0_bestBox_33 rfl (fun H locs I => ?_)
        refine lv_istore (lv' := [(4, .int r5), (0, .ref (ad 8)), (1, .int x1), (2, .int x2), (3, .int x3)]) hx hb dX0_bestBox_36 hl (by decide) rfl (fun ls hl => ?_)
        refine lv_iload hx hb dX0_bestBox_38 (lv_at hl 0 rfl) ?_
        refine lv_iload_n hx hb dX0_bestBox_40 rfl (lv_at hl 3 rfl) ?_
        refine lv_icmp_gt (tgt := 69) hx hb dX0_bestBox_41 (by decide) (fun c6 => ?_) (fun c6 => ?_)
        · have h := ite_t c6 h
          exact J_69 k_10 hk_10 _ _ _ h _ _ _ I (lv_sub hl [1, 4, 0] rfl)
        · have h := ite_n c6 h
          refine lv_iload hx hb dX0_bestBox_44 (lv_at hl 0 rfl) ?_
          refine lv_iload_n hx hb dX0_bestBox_46 rfl (lv_at hl 3 rfl) ?_
          refine lv_icmp_ne (tgt := 74) hx hb dX0_bestBox_47 (by decide) (fun c7 => ?_) (fun c7 => ?_)
          · have h := ite_n c7 h
            exact J_74 k_10 hk_10 _ _ _ _ h _ _ _ I (lv_sub hl [1, 2, 3, 4] rfl)
          · have h := ite_t c7 h
            refine lv_aload_n hx hb dX0_bestBox_50 rfl (lv_at hl 1 rfl) ?_
            refine gx_8_0 C hK I fl_X0_21 dX0_bestBox_51 ?_
            refine lv_iload_n hx hb dX0_bestBox_54 rfl (lv_at hl 4 rfl) ?_
            obtain ⟨r8, S8, e8, h⟩ := obd2_ex h
            refine k_V (As := [.int x3]) (rest := []) (st1 := [.int r8]) C kx hK I hA (c_X4_weightOf e8) ⟨Nat.le_of_ble_eq_true rfl, Nat.le_of_ble_eq_true rfl⟩ mv_X4_weightOf lk_X0_70 3 4 (xw_3 (cI := cI) (ad := ad) (cC := cC) (cS := cS)) rfl rfl hl.1 rfl (Nat.le_of_ble_eq_true rfl) dX0_bestBox_55 rfl (fun H locs I => ?_)
            refine lv_aload_n hx hb dX0_bestBox_58 rfl (lv_at hl 1 rfl) ?_
            refine gx_8_0 C hK I fl_X0_21 dX0_bestBox_59 ?_
            refine lv_iload_n hx hb dX0_bestBox_62 rfl (lv_at hl 2 rfl) ?_
            obtain ⟨r9, S9, e9, h⟩ := obd2_ex h
            refine k_V (As := [.int x1]) (rest := [.int r8]) (st1 := [.int r9, .int r8]) C kx hK I hA (c_X4_weightOf e9) ⟨Nat.le_of_ble_eq_true rfl, Nat.le_of_ble_eq_true rfl⟩ mv_X4_weightOf lk_X0_70 3 4 (xw_3 (cI := cI) (ad := ad) (cC := cC) (cS := cS)) rfl rfl hl.1 rfl (Nat.le_of_ble_eq_true rfl) dX0_bestBox_63 rfl (fun H locs I => ?_)
            refine lv_icmp_ge (tgt := 74) hx hb dX0_bestBox_66 (by decide) (fun c10 => ?_) (fun c10 => ?_)
            · have h := ite_t c10 h
              exact J_74 k_10 hk_10 _ _ _ _ h _ _ _ I (lv_sub hl [1, 2, 3, 4] rfl)
            · have h := ite_n c10 h
              exact J_69 k_10 hk_10 _ _ _ h _ _ _ I (lv_sub hl [1, 4, 0] rfl)
      · have h := ite_t c4 h
        refine lv_goto (tgt := 74) hx hb dX0_bestBox_28 (by decide) ?_
        exact J_74 k_10 hk_10 _ _ _ _ h _ _ _ I (lv_sub hl [0, 1, 2, 3] rfl)
  have J_10 : ∀ (fu : Nat) (S : St) (x1 : Int32) (x2 : Int32) (x3 : Int32), l_X0_bestBox_10  fu S x1 x2 x3 = some (r, S1) → ∀ (H : Heap) (locs : List Loc) (ls : Array Slot), Iv D (xw cI cC cS ad) S A s H locs → lv_has ls 5 [(0, .ref (ad 8)), (1, .int x1), (2, .int x2), (3, .int x3)] → W p l e ({ frames := 3, cells := 0, slots := 0, locals := 67 } : Room) s m args below meth c H locs 0 0 Q (F0 m 10 ls []) := by
    intro fu
    induction fu with
    | zero => intro S x1 x2 x3 h; cases h
    | succ fu ih => intro S x1 x2 x3 h; exact B_10 (l_X0_bestBox_10 fu) ih S x1 x2 x3 h
  unfold f_X0_bestBox at h
  refine lv_iconst (v := 0) hx hb dX0_bestBox_0 (by decide) ?_
  refine lv_istore_n (lv' := [(1, .int 0), (0, .ref (ad 8))]) hx hb dX0_bestBox_1 rfl hl (by decide) rfl (fun ls hl => ?_)
  refine lv_aload_n hx hb dX0_bestBox_2 rfl (lv_at hl 1 rfl) ?_
  refine lv_iload_n hx hb dX0_bestBox_3 rfl (lv_at hl 0 rfl) ?_
  obtain ⟨r11, S11, e11, h⟩ := obd2_ex h
  refine k_V (As := [.int 0]) (rest := []) (st1 := [.int r11]) C kx hK I hA (c_X0_doneBy e11) ⟨Nat.le_of_ble_eq_true rfl, Nat.le_of_ble_eq_true rfl⟩ mv_X0_doneBy lk_X0_61 8 0 (xw_8 (cI := cI) (ad := ad) (cC := cC) (cS := cS)) rfl rfl hl.1 rfl (Nat.le_of_ble_eq_true rfl) dX0_bestBox_4 rfl (fun H locs I => ?_)
  refine lv_istore_n (lv' := [(2, .int r11), (1, .int 0), (0, .ref (ad 8))]) hx hb dX0_bestBox_7 rfl hl (by decide) rfl (fun ls hl => ?_)
  refine lv_iconst (v := 1) hx hb dX0_bestBox_8 (by decide) ?_
  refine lv_istore_n (lv' := [(3, .int 1), (2, .int r11), (1, .int 0), (0, .ref (ad 8))]) hx hb dX0_bestBox_9 rfl hl (by decide) rfl (fun ls hl => ?_)
  exact J_10 _ _ _ _ _ h _ _ _ I (lv_sub hl [3, 2, 1, 0] rfl)
theorem fl_X6_20 : Cond.fieldLink RX6 20 RX6 "calls" "[LCarryUp$Call;" ∈ TT := tt_of 262 (by decide +kernel) rfl
theorem dX6_callAt_0 : decode cX6_callAt 0 = .ok (.iload_n 1, 1) := by decide +kernel
theorem dX6_callAt_1 : decode cX6_callAt 1 = .ok (.ifCond .lt 21, 3) := by decide +kernel
theorem dX6_callAt_4 : decode cX6_callAt 4 = .ok (.iload_n 1, 1) := by decide +kernel
theorem dX6_callAt_5 : decode cX6_callAt 5 = .ok (.aload_n 0, 1) := by decide +kernel
theorem dX6_callAt_6 : decode cX6_callAt 6 = .ok (.getfield 20, 3) := by decide +kernel
theorem dX6_callAt_9 : decode cX6_callAt 9 = .ok (.arraylength, 1) := by decide +kernel
theorem dX6_callAt_10 : decode cX6_callAt 10 = .ok (.if_icmp .ge 12, 3) := by decide +kernel
theorem dX6_callAt_13 : decode cX6_callAt 13 = .ok (.aload_n 0, 1) := by decide +kernel
theorem dX6_callAt_14 : decode cX6_callAt 14 = .ok (.getfield 20, 3) := by decide +kernel
theorem dX6_callAt_17 : decode cX6_callAt 17 = .ok (.iload_n 1, 1) := by decide +kernel
theorem dX6_callAt_18 : decode cX6_callAt 18 = .ok (.aaload, 1) := by decide +kernel
theorem dX6_callAt_19 : decode cX6_callAt 19 = .ok (.goto 4, 3) := by decide +kernel
theorem dX6_callAt_22 : decode cX6_callAt 22 = .ok (.aconst_null, 1) := by decide +kernel
theorem dX6_callAt_23 : decode cX6_callAt 23 = .ok (.areturn, 1) := by decide +kernel
def f_X6_callAt_22 (S : St)  : Option (Option (Fin 6) × St) :=
  some (none, S)
def f_X6_callAt (S : St) (x1 : Int32) : Option (Option (Fin 6) × St) :=
  if x1 < 0 then (
    f_X6_callAt_22 S 
  ) else (
    if 6 ≤ x1 then (
      f_X6_callAt_22 S 
    ) else (
      chk (ixo x1 6) <|
      bnd (S.2.2 (x1).toNatClampNeg) fun v4 =>
      some (v4, S)
    )
  )
set_option maxHeartbeats 4000000 in
set_option maxRecDepth 100000 in
theorem c_X6_callAt {l : Launch} {D : va_G} {cI cC cS : ClassId} {ad adK adV : Nat → Nat} {S S1 : St} {x1 : Int32} {r : Option (Fin 6)} (h : f_X6_callAt S x1 = some (r, S1)) : Kt l D (xw cI cC cS ad) (KX D (xtys cI cC cS) adK adV) yX6_callAt cX6_callAt 2 (some (.object "CarryUp$Call")) (0) (0) [.ref (ad 4), .int x1] S (some (rC ad r)) S1 := by
  refine k_ent (ins := .areturn) (st := [rC ad r]) (by decide +kernel) (Nat.le_of_ble_eq_true rfl) (ret_a (r := r.map fun c => ad (21 + c.val))) ?_
  intro p e s m args below meth c A Q C hK I hA hq ls hl
  have C : CallFix p m c cX6_callAt 2 s args TT RX6 := C
  have hx := C.1
  have hb := C.2.1
  have kx := kx_ok D (xtys cI cC cS) adK adV
  have hl : lv_has ls 2 [(0, .ref (ad 4)), (1, .int x1)] := hl
  have J_22 : ∀ (S : St) , f_X6_callAt_22  S  = some (r, S1) → ∀ (H : Heap) (locs : List Loc) (ls : Array Slot), Iv D (xw cI cC cS ad) S A s H locs → lv_has ls 2 [] → W p l e ({ frames := 0, cells := 0, slots := 0, locals := 0 } : Room) s m args below meth c H locs 0 0 Q (F0 m 22 ls []) := by
    intro  S  h H locs ls I hl
    unfold f_X6_callAt_22 at h
    refine lv_null hx hb dX6_callAt_22 ?_
    exact rt_a (f := rC ad) (v := none) hq h I dX6_callAt_23
  unfold f_X6_callAt at h
  refine lv_iload_n hx hb dX6_callAt_0 rfl (lv_at hl 1 rfl) ?_
  refine lv_if_lt (tgt := 22) hx hb dX6_callAt_1 (by decide) (fun c1 => ?_) (fun c1 => ?_)
  · have h := ite_t c1 h
    exact J_22 _  h _ _ _ I (lv_sub hl [] rfl)
  · have h := ite_n c1 h
    refine lv_iload_n hx hb dX6_callAt_4 rfl (lv_at hl 1 rfl) ?_
    refine lv_aload_n hx hb dX6_callAt_5 rfl (lv_at hl 0 rfl) ?_
    refine gx_4_3 C hK I fl_X6_20 dX6_callAt_6 ?_
    refine lx_10 C hK I dX6_callAt_9 ?_
    refine lv_icmp_ge (tgt := 22) hx hb dX6_callAt_10 (by decide) (fun c2 => ?_) (fun c2 => ?_)
    · have h := ite_t c2 h
      exact J_22 _  h _ _ _ I (lv_sub hl [] rfl)
    · have h := ite_n c2 h
      refine lv_aload_n hx hb dX6_callAt_13 rfl (lv_at hl 0 rfl) ?_
      refine gx_4_3 C hK I fl_X6_20 dX6_callAt_14 ?_
      refine lv_iload_n hx hb dX6_callAt_17 rfl (lv_at hl 1 rfl) ?_
      obtain ⟨hv3, h⟩ := chk_ex h
      refine ax_10 C hK I hv3 dX6_callAt_18 ?_
      refine k_top (f := rC ad) (fun v4 ev4 => ?_)
      have h := bnd_at ev4 h
      clear ev4
      refine lv_goto (tgt := 23) hx hb dX6_callAt_19 (by decide) ?_
      exact rt_a (f := rC ad) (v := v4) hq h I dX6_callAt_23
theorem fl_X6_35 : Cond.fieldLink RX6 35 RX6 "length" "I" ∈ TT := tt_of 263 (by decide +kernel) rfl
theorem lk_X6_66 : Cond.methodLink RX6 66 yX6_callAt ∈ TT := tt_of 781 (by decide +kernel) rfl
theorem mv_X6_callAt : MV yX6_callAt cX6_callAt 2 (some (.object "CarryUp$Call")) 1 := ⟨tt_of 784 (by decide +kernel) rfl, tt_of 782 (by decide +kernel) rfl, tt_of 783 (by decide +kernel) rfl, tt_of 71 (by decide +kernel) rfl, ⟨by decide +kernel, by decide +kernel, by decide +kernel⟩⟩
theorem lk_X6_81 : Cond.methodLink RX6 81 yX1_wanted ∈ TT := tt_of 859 (by decide +kernel) rfl
theorem dX6_wanted_0 : decode cX6_wanted 0 = .ok (.iconst 0, 1) := by decide +kernel
theorem dX6_wanted_1 : decode cX6_wanted 1 = .ok (.istore_n 1, 1) := by decide +kernel
theorem dX6_wanted_2 : decode cX6_wanted 2 = .ok (.iconst 0, 1) := by decide +kernel
theorem dX6_wanted_3 : decode cX6_wanted 3 = .ok (.istore_n 2, 1) := by decide +kernel
theorem dX6_wanted_4 : decode cX6_wanted 4 = .ok (.iload_n 2, 1) := by decide +kernel
theorem dX6_wanted_5 : decode cX6_wanted 5 = .ok (.aload_n 0, 1) := by decide +kernel
theorem dX6_wanted_6 : decode cX6_wanted 6 = .ok (.getfield 35, 3) := by decide +kernel
theorem dX6_wanted_9 : decode cX6_wanted 9 = .ok (.if_icmp .ge 26, 3) := by decide +kernel
theorem dX6_wanted_12 : decode cX6_wanted 12 = .ok (.aload_n 0, 1) := by decide +kernel
theorem dX6_wanted_13 : decode cX6_wanted 13 = .ok (.iload_n 2, 1) := by decide +kernel
theorem dX6_wanted_14 : decode cX6_wanted 14 = .ok (.invokevirtual 66, 3) := by decide +kernel
theorem dX6_wanted_17 : decode cX6_wanted 17 = .ok (.astore_n 3, 1) := by decide +kernel
theorem dX6_wanted_18 : decode cX6_wanted 18 = .ok (.aload_n 3, 1) := by decide +kernel
theorem dX6_wanted_19 : decode cX6_wanted 19 = .ok (.ifnull 10, 3) := by decide +kernel
theorem dX6_wanted_22 : decode cX6_wanted 22 = .ok (.iload_n 1, 1) := by decide +kernel
theorem dX6_wanted_23 : decode cX6_wanted 23 = .ok (.aload_n 3, 1) := by decide +kernel
theorem dX6_wanted_24 : decode cX6_wanted 24 = .ok (.invokevirtual 81, 3) := by decide +kernel
theorem dX6_wanted_27 : decode cX6_wanted 27 = .ok (.ior, 1) := by decide +kernel
theorem dX6_wanted_28 : decode cX6_wanted 28 = .ok (.istore_n 1, 1) := by decide +kernel
theorem dX6_wanted_29 : decode cX6_wanted 29 = .ok (.iinc 2 1, 3) := by decide +kernel
theorem dX6_wanted_32 : decode cX6_wanted 32 = .ok (.goto (-28), 3) := by decide +kernel
theorem dX6_wanted_35 : decode cX6_wanted 35 = .ok (.iload_n 1, 1) := by decide +kernel
theorem dX6_wanted_36 : decode cX6_wanted 36 = .ok (.ireturn, 1) := by decide +kernel
def f_X6_wanted_29 (k_4 : St → Int32 → Int32 → Option (Int32 × St)) (S : St) (x1 : Int32) (x2 : Int32) : Option (Int32 × St) :=
  bnd (x2 + 1 : Int32) fun v1 =>
  k_4 S x1 v1
def f_X6_wanted_4 (k_4 : St → Int32 → Int32 → Option (Int32 × St)) (S : St) (x1 : Int32) (x2 : Int32) : Option (Int32 × St) :=
  if (S.1 4 4) ≤ x2 then (
    some (x1, S)
  ) else (
    obd2 (f_X6_callAt S x2) fun r3 S3 =>
    oel r3 (
      f_X6_wanted_29 k_4 S3 x1 x2
    ) fun v4 =>
      obd2 (f_X1_wanted S3 v4) fun r5 S5 =>
      bnd ((x1 ||| r5) : Int32) fun v6 =>
      f_X6_wanted_29 k_4 S5 v6 x2
  )
def l_X6_wanted_4 : Nat → St → Int32 → Int32 → Option (Int32 × St)
  | 0, _, _, _ => none
  | fu + 1, S, x1, x2 => f_X6_wanted_4 (l_X6_wanted_4 fu) S x1 x2
def f_X6_wanted (S : St)  : Option (Int32 × St) :=
  l_X6_wanted_4 FU S 0 0
set_option maxHeartbeats 4000000 in
set_option maxRecDepth 100000 in
theorem c_X6_wanted {l : Launch} {D : va_G} {cI cC cS : ClassId} {ad adK adV : Nat → Nat} {S S1 : St}  {r : Int32} (h : f_X6_wanted S  = some (r, S1)) : Kt l D (xw cI cC cS ad) (KX D (xtys cI cC cS) adK adV) yX6_wanted cX6_wanted 4 (some .int) (2) (44) [.ref (ad 4)] S (some (.int r)) S1 := by
  refine k_ent (ins := .ireturn) (st := [.int r]) (by decide +kernel) (Nat.le_of_ble_eq_true rfl) ret_i ?_
  intro p e s m args below meth c A Q C hK I hA hq ls hl
  have C : CallFix p m c cX6_wanted 4 s args TT RX6 := C
  have hx := C.1
  have hb := C.2.1
  have kx := kx_ok D (xtys cI cC cS) adK adV
  have hl : lv_has ls 4 [(0, .ref (ad 4))] := hl
  have J_29 : ∀ (k_4 : St → Int32 → Int32 → Option (Int32 × St)) (hk_4 : ∀ (S : St) (x1 : Int32) (x2 : Int32), k_4 S x1 x2 = some (r, S1) → ∀ (H : Heap) (locs : List Loc) (ls : Array Slot), Iv D (xw cI cC cS ad) S A s H locs → lv_has ls 4 [(0, .ref (ad 4)), (1, .int x1), (2, .int x2)] → W p l e ({ frames := 2, cells := 0, slots := 0, locals := 44 } : Room) s m args below meth c H locs 0 0 Q (F0 m 4 ls [])) (S : St) (x1 : Int32) (x2 : Int32), f_X6_wanted_29 k_4 S x1 x2 = some (r, S1) → ∀ (H : Heap) (locs : List Loc) (ls : Array Slot), Iv D (xw cI cC cS ad) S A s H locs → lv_has ls 4 [(0, .ref (ad 4)), (1, .int x1), (2, .int x2)] → W p l e ({ frames := 2, cells := 0, slots := 0, locals := 44 } : Room) s m args below meth c H locs 0 0 Q (F0 m 29 ls []) := by
    intro k_4 hk_4 S x1 x2 h H locs ls I hl
    unfold f_X6_wanted_29 at h
    obtain ⟨v1, ev1⟩ : ∃ y : Int32, y = x2 + 1 := ⟨_, rfl⟩
    have h := bnd_at ev1 h
    refine lv_iinc (v := v1) (lv' := [(2, .int v1), (0, .ref (ad 4)), (1, .int x1)]) hx hb dX6_wanted_29 hl (k := 2) rfl (by rw [ev1]; rfl) (by decide) rfl (fun ls hl => ?_)
    clear ev1
    refine lv_goto (tgt := 4) hx hb dX6_wanted_32 (by decide) ?_
    exact hk_4 _ _ _ h _ _ _ I (lv_sub hl [1, 2, 0] rfl)
  have B_4 : ∀ (k_4 : St → Int32 → Int32 → Option (Int32 × St)) (hk_4 : ∀ (S : St) (x1 : Int32) (x2 : Int32), k_4 S x1 x2 = some (r, S1) → ∀ (H : Heap) (locs : List Loc) (ls : Array Slot), Iv D (xw cI cC cS ad) S A s H locs → lv_has ls 4 [(0, .ref (ad 4)), (1, .int x1), (2, .int x2)] → W p l e ({ frames := 2, cells := 0, slots := 0, locals := 44 } : Room) s m args below meth c H locs 0 0 Q (F0 m 4 ls [])) (S : St) (x1 : Int32) (x2 : Int32), f_X6_wanted_4 k_4 S x1 x2 = some (r, S1) → ∀ (H : Heap) (locs : List Loc) (ls : Array Slot), Iv D (xw cI cC cS ad) S A s H locs → lv_has ls 4 [(0, .ref (ad 4)), (1, .int x1), (2, .int x2)] → W p l e ({ frames := 2, cells := 0, slots := 0, locals := 44 } : Room) s m args below meth c H locs 0 0 Q (F0 m 4 ls []) := by
    intro k_4 hk_4 S x1 x2 h H locs ls I hl
    unfold f_X6_wanted_4 at h
    refine lv_iload_n hx hb dX6_wanted_4 rfl (lv_at hl 2 rfl) ?_
    refine lv_aload_n hx hb dX6_wanted_5 rfl (lv_at hl 0 rfl) ?_
    refine gx_4_4 C hK I fl_X6_35 dX6_wanted_6 ?_
    refine lv_icmp_ge (tgt := 35) hx hb dX6_wanted_9 (by decide) (fun c2 => ?_) (fun c2 => ?_)
    · have h := ite_t c2 h
      refine lv_iload_n hx hb dX6_wanted_35 rfl (lv_at hl 1 rfl) ?_
      exact rt_i hq h I dX6_wanted_36
    · have h := ite_n c2 h
      refine lv_aload_n hx hb dX6_wanted_12 rfl (lv_at hl 0 rfl) ?_
      refine lv_iload_n hx hb dX6_wanted_13 rfl (lv_at hl 2 rfl) ?_
      obtain ⟨r3, S3, e3, h⟩ := obd2_ex h
      refine k_V (As := [.int x2]) (rest := []) (st1 := [rC ad r3]) C kx hK I hA (c_X6_callAt e3) ⟨Nat.le_of_ble_eq_true rfl, Nat.le_of_ble_eq_true rfl⟩ mv_X6_callAt lk_X6_66 4 6 (xw_4 (cI := cI) (ad := ad) (cC := cC) (cS := cS)) rfl rfl hl.1 rfl (Nat.le_of_ble_eq_true rfl) dX6_wanted_14 rfl (fun H locs I => ?_)
      refine k_astore_n _ (lv' := [(3, rC ad r3), (0, .ref (ad 4)), (1, .int x1), (2, .int x2)]) hx hb dX6_wanted_17 rfl rfl hl (by decide) rfl (fun ls hl => ?_)
      refine k_aload_n _ hx hb dX6_wanted_18 rfl rfl (lv_at hl 0 rfl) ?_
      refine k_ifn hx hb dX6_wanted_19 (tgt := 29) (by decide) (fun ho => ?_) (fun v4 ho => ?_)
      · subst ho
        have h := oel_n h
        have hl : lv_has ls 4 [(3, .null), (0, .ref (ad 4)), (1, .int x1), (2, .int x2)] := hl
        exact J_29 k_4 hk_4 _ _ _ h _ _ _ I (lv_sub hl [1, 2, 3] rfl)
      · subst ho
        have h := oel_s h
        have hl : lv_has ls 4 [(3, .ref (ad (21 + v4.val))), (0, .ref (ad 4)), (1, .int x1), (2, .int x2)] := hl
        refine lv_iload_n hx hb dX6_wanted_22 rfl (lv_at hl 2 rfl) ?_
        refine lv_aload_n hx hb dX6_wanted_23 rfl (lv_at hl 0 rfl) ?_
        obtain ⟨r5, S5, e5, h⟩ := obd2_ex h
        refine k_V (As := []) (rest := [.int x1]) (st1 := [.int r5, .int x1]) C kx hK I hA (c_X1_wanted e5) ⟨Nat.le_of_ble_eq_true rfl, Nat.le_of_ble_eq_true rfl⟩ mv_X1_wanted lk_X6_81 (21 + v4.val) 1 (xw_C (cI := cI) (cC := cC) (cS := cS) (ad := ad) v4) rfl rfl hl.1 rfl (Nat.le_of_ble_eq_true rfl) dX6_wanted_24 rfl (fun H locs I => ?_)
        refine lv_ior hx hb dX6_wanted_27 ?_
        refine lv_topi (fun v6 ev6 => ?_)
        have h := bnd_at ev6 h
        clear ev6
        refine lv_istore_n (lv' := [(1, .int v6), (3, .ref (ad (21 + v4.val))), (0, .ref (ad 4)), (2, .int x2)]) hx hb dX6_wanted_28 rfl hl (by decide) rfl (fun ls hl => ?_)
        exact J_29 k_4 hk_4 _ _ _ h _ _ _ I (lv_sub hl [2, 0, 3] rfl)
  have J_4 : ∀ (fu : Nat) (S : St) (x1 : Int32) (x2 : Int32), l_X6_wanted_4  fu S x1 x2 = some (r, S1) → ∀ (H : Heap) (locs : List Loc) (ls : Array Slot), Iv D (xw cI cC cS ad) S A s H locs → lv_has ls 4 [(0, .ref (ad 4)), (1, .int x1), (2, .int x2)] → W p l e ({ frames := 2, cells := 0, slots := 0, locals := 44 } : Room) s m args below meth c H locs 0 0 Q (F0 m 4 ls []) := by
    intro fu
    induction fu with
    | zero => intro S x1 x2 h; cases h
    | succ fu ih => intro S x1 x2 h; exact B_4 (l_X6_wanted_4 fu) ih S x1 x2 h
  unfold f_X6_wanted at h
  refine lv_iconst (v := 0) hx hb dX6_wanted_0 (by decide) ?_
  refine lv_istore_n (lv' := [(1, .int 0), (0, .ref (ad 4))]) hx hb dX6_wanted_1 rfl hl (by decide) rfl (fun ls hl => ?_)
  refine lv_iconst (v := 0) hx hb dX6_wanted_2 (by decide) ?_
  refine lv_istore_n (lv' := [(2, .int 0), (1, .int 0), (0, .ref (ad 4))]) hx hb dX6_wanted_3 rfl hl (by decide) rfl (fun ls hl => ?_)
  exact J_4 _ _ _ _ h _ _ _ I (lv_sub hl [2, 1, 0] rfl)
theorem dX6_length_0 : decode cX6_length 0 = .ok (.aload_n 0, 1) := by decide +kernel
theorem dX6_length_1 : decode cX6_length 1 = .ok (.getfield 35, 3) := by decide +kernel
theorem dX6_length_4 : decode cX6_length 4 = .ok (.ireturn, 1) := by decide +kernel
def f_X6_length (S : St)  : Option (Int32 × St) :=
  some ((S.1 4 4), S)
set_option maxHeartbeats 4000000 in
set_option maxRecDepth 100000 in
theorem c_X6_length {l : Launch} {D : va_G} {cI cC cS : ClassId} {ad adK adV : Nat → Nat} {S S1 : St}  {r : Int32} (h : f_X6_length S  = some (r, S1)) : Kt l D (xw cI cC cS ad) (KX D (xtys cI cC cS) adK adV) yX6_length cX6_length 1 (some .int) (0) (0) [.ref (ad 4)] S (some (.int r)) S1 := by
  refine k_ent (ins := .ireturn) (st := [.int r]) (by decide +kernel) (Nat.le_of_ble_eq_true rfl) ret_i ?_
  intro p e s m args below meth c A Q C hK I hA hq ls hl
  have C : CallFix p m c cX6_length 1 s args TT RX6 := C
  have hx := C.1
  have hb := C.2.1
  have kx := kx_ok D (xtys cI cC cS) adK adV
  have hl : lv_has ls 1 [(0, .ref (ad 4))] := hl
  unfold f_X6_length at h
  refine lv_aload_n hx hb dX6_length_0 rfl (lv_at hl 0 rfl) ?_
  refine gx_4_4 C hK I fl_X6_35 dX6_length_1 ?_
  exact rt_i hq h I dX6_length_4
theorem fl_X6_9 : Cond.fieldLink RX6 9 RX6 "stops" "[I" ∈ TT := tt_of 260 (by decide +kernel) rfl
theorem lk_X6_58 : Cond.methodLinkNest RX6 58 yX10_at "CarryUp" ∈ NN := nn_of 767 (by decide +kernel) rfl
theorem fl_X6_24 : Cond.fieldLink RX6 24 RX6 "knownCall" "I" ∈ TT := tt_of 264 (by decide +kernel) rfl
theorem lk_X6_78 : Cond.methodLink RX6 78 yX1_likely ∈ TT := tt_of 785 (by decide +kernel) rfl
theorem mv_X1_likely : MV yX1_likely cX1_likely 1 (some .int) 0 := ⟨tt_of 733 (by decide +kernel) rfl, tt_of 731 (by decide +kernel) rfl, tt_of 732 (by decide +kernel) rfl, tt_of 69 (by decide +kernel) rfl, ⟨by decide +kernel, by decide +kernel, by decide +kernel⟩⟩
theorem dX6_likelyAt_0 : decode cX6_likelyAt 0 = .ok (.aload_n 0, 1) := by decide +kernel
theorem dX6_likelyAt_1 : decode cX6_likelyAt 1 = .ok (.iload_n 1, 1) := by decide +kernel
theorem dX6_likelyAt_2 : decode cX6_likelyAt 2 = .ok (.invokevirtual 66, 3) := by decide +kernel
theorem dX6_likelyAt_5 : decode cX6_likelyAt 5 = .ok (.astore_n 2, 1) := by decide +kernel
theorem dX6_likelyAt_6 : decode cX6_likelyAt 6 = .ok (.aload_n 2, 1) := by decide +kernel
theorem dX6_likelyAt_7 : decode cX6_likelyAt 7 = .ok (.ifnull 18, 3) := by decide +kernel
theorem dX6_likelyAt_10 : decode cX6_likelyAt 10 = .ok (.aload_n 0, 1) := by decide +kernel
theorem dX6_likelyAt_11 : decode cX6_likelyAt 11 = .ok (.getfield 9, 3) := by decide +kernel
theorem dX6_likelyAt_14 : decode cX6_likelyAt 14 = .ok (.iload_n 1, 1) := by decide +kernel
theorem dX6_likelyAt_15 : decode cX6_likelyAt 15 = .ok (.invokestatic 58, 3) := by decide +kernel
theorem dX6_likelyAt_18 : decode cX6_likelyAt 18 = .ok (.aload_n 0, 1) := by decide +kernel
theorem dX6_likelyAt_19 : decode cX6_likelyAt 19 = .ok (.getfield 24, 3) := by decide +kernel
theorem dX6_likelyAt_22 : decode cX6_likelyAt 22 = .ok (.if_icmp .ne 7, 3) := by decide +kernel
theorem dX6_likelyAt_25 : decode cX6_likelyAt 25 = .ok (.iconst 1, 1) := by decide +kernel
theorem dX6_likelyAt_26 : decode cX6_likelyAt 26 = .ok (.goto 7, 3) := by decide +kernel
theorem dX6_likelyAt_29 : decode cX6_likelyAt 29 = .ok (.aload_n 2, 1) := by decide +kernel
theorem dX6_likelyAt_30 : decode cX6_likelyAt 30 = .ok (.invokevirtual 78, 3) := by decide +kernel
theorem dX6_likelyAt_33 : decode cX6_likelyAt 33 = .ok (.ireturn, 1) := by decide +kernel
def f_X6_likelyAt_25 (S : St)  : Option (Int32 × St) :=
  some (1, S)
def f_X6_likelyAt (S : St) (x1 : Int32) : Option (Int32 × St) :=
  obd2 (f_X6_callAt S x1) fun r1 S1 =>
  oel r1 (
    f_X6_likelyAt_25 S1 
  ) fun v2 =>
    obd2 (f_X10_at S1 5 x1) fun r3 S3 =>
    if r3 = (S3.1 4 5) then (
      f_X6_likelyAt_25 S3 
    ) else (
      obd2 (f_X1_likely S3 v2) fun r5 S5 =>
      some (r5, S5)
    )
set_option maxHeartbeats 4000000 in
set_option maxRecDepth 100000 in
theorem c_X6_likelyAt {l : Launch} {D : va_G} {cI cC cS : ClassId} {ad adK adV : Nat → Nat} {S S1 : St} {x1 : Int32} {r : Int32} (h : f_X6_likelyAt S x1 = some (r, S1)) : Kt l D (xw cI cC cS ad) (KX D (xtys cI cC cS) adK adV) yX6_likelyAt cX6_likelyAt 3 (some .int) (1) (21) [.ref (ad 4), .int x1] S (some (.int r)) S1 := by
  refine k_ent (ins := .ireturn) (st := [.int r]) (by decide +kernel) (Nat.le_of_ble_eq_true rfl) ret_i ?_
  intro p e s m args below meth c A Q C hK I hA hq ls hl
  have C : CallFix p m c cX6_likelyAt 3 s args TT RX6 := C
  have hx := C.1
  have hb := C.2.1
  have kx := kx_ok D (xtys cI cC cS) adK adV
  have hl : lv_has ls 3 [(0, .ref (ad 4)), (1, .int x1)] := hl
  have J_25 : ∀ (S : St) , f_X6_likelyAt_25  S  = some (r, S1) → ∀ (H : Heap) (locs : List Loc) (ls : Array Slot), Iv D (xw cI cC cS ad) S A s H locs → lv_has ls 3 [] → W p l e ({ frames := 1, cells := 0, slots := 0, locals := 21 } : Room) s m args below meth c H locs 0 0 Q (F0 m 25 ls []) := by
    intro  S  h H locs ls I hl
    unfold f_X6_likelyAt_25 at h
    refine lv_iconst (v := 1) hx hb dX6_likelyAt_25 (by decide) ?_
    refine lv_goto (tgt := 33) hx hb dX6_likelyAt_26 (by decide) ?_
    exact rt_i hq h I dX6_likelyAt_33
  unfold f_X6_likelyAt at h
  refine lv_aload_n hx hb dX6_likelyAt_0 rfl (lv_at hl 0 rfl) ?_
  refine lv_iload_n hx hb dX6_likelyAt_1 rfl (lv_at hl 1 rfl) ?_
  obtain ⟨r1, S1, e1, h⟩ := obd2_ex h
  refine k_V (As := [.int x1]) (rest := []) (st1 := [rC ad r1]) C kx hK I hA (c_X6_callAt e1) ⟨Nat.le_of_ble_eq_true rfl, Nat.le_of_ble_eq_true rfl⟩ mv_X6_callAt lk_X6_66 4 6 (xw_4 (cI := cI) (ad := ad) (cC := cC) (cS := cS)) rfl rfl hl.1 rfl (Nat.le_of_ble_eq_true rfl) dX6_likelyAt_2 rfl (fun H locs I => ?_)
  refine k_astore_n _ (lv' := [(2, rC ad r1), (0, .ref (ad 4)), (1, .int x1)]) hx hb dX6_likelyAt_5 rfl rfl hl (by decide) rfl (fun ls hl => ?_)
  refine k_aload_n _ hx hb dX6_likelyAt_6 rfl rfl (lv_at hl 0 rfl) ?_
  refine k_ifn hx hb dX6_likelyAt_7 (tgt := 25) (by decide) (fun ho => ?_) (fun v2 ho => ?_)
  · subst ho
    have h := oel_n h
    have hl : lv_has ls 3 [(2, .null), (0, .ref (ad 4)), (1, .int x1)] := hl
    exact J_25 _  h _ _ _ I (lv_sub hl [] rfl)
  · subst ho
    have h := oel_s h
    have hl : lv_has ls 3 [(2, .ref (ad (21 + v2.val))), (0, .ref (ad 4)), (1, .int x1)] := hl
    refine lv_aload_n hx hb dX6_likelyAt_10 rfl (lv_at hl 1 rfl) ?_
    refine gx_4_1 C hK I fl_X6_9 dX6_likelyAt_11 ?_
    refine lv_iload_n hx hb dX6_likelyAt_14 rfl (lv_at hl 2 rfl) ?_
    obtain ⟨r3, S3, e3, h⟩ := obd2_ex h
    refine k_SN (As := [.ref (ad 16), .int x1]) (rest := []) (st1 := [.int r3]) C kx hK I hA (c_X10_at e3) ⟨Nat.le_of_ble_eq_true rfl, Nat.le_of_ble_eq_true rfl⟩ ms_X10_at lk_X6_58 rfl hl.1 rfl (Nat.le_of_ble_eq_true rfl) dX6_likelyAt_15 rfl (fun H locs I => ?_)
    refine lv_aload_n hx hb dX6_likelyAt_18 rfl (lv_at hl 1 rfl) ?_
    refine gx_4_5 C hK I fl_X6_24 dX6_likelyAt_19 ?_
    refine lv_icmp_ne (tgt := 29) hx hb dX6_likelyAt_22 (by decide) (fun c4 => ?_) (fun c4 => ?_)
    · have h := ite_n c4 h
      refine lv_aload_n hx hb dX6_likelyAt_29 rfl (lv_at hl 0 rfl) ?_
      obtain ⟨r5, S5, e5, h⟩ := obd2_ex h
      refine k_V (As := []) (rest := []) (st1 := [.int r5]) C kx hK I hA (c_X1_likely e5) ⟨Nat.le_of_ble_eq_true rfl, Nat.le_of_ble_eq_true rfl⟩ mv_X1_likely lk_X6_78 (21 + v2.val) 1 (xw_C (cI := cI) (cC := cC) (cS := cS) (ad := ad) v2) rfl rfl hl.1 rfl (Nat.le_of_ble_eq_true rfl) dX6_likelyAt_30 rfl (fun H locs I => ?_)
      exact rt_i hq h I dX6_likelyAt_33
    · have h := ite_t c4 h
      exact J_25 _  h _ _ _ I (lv_sub hl [] rfl)
theorem fl_X6_15 : Cond.fieldLink RX6 15 RX6 "ways" "[I" ∈ TT := tt_of 261 (by decide +kernel) rfl
theorem dX6_wayTo_0 : decode cX6_wayTo 0 = .ok (.aload_n 0, 1) := by decide +kernel
theorem dX6_wayTo_1 : decode cX6_wayTo 1 = .ok (.getfield 15, 3) := by decide +kernel
theorem dX6_wayTo_4 : decode cX6_wayTo 4 = .ok (.iload_n 1, 1) := by decide +kernel
theorem dX6_wayTo_5 : decode cX6_wayTo 5 = .ok (.invokestatic 58, 3) := by decide +kernel
theorem dX6_wayTo_8 : decode cX6_wayTo 8 = .ok (.ireturn, 1) := by decide +kernel
def f_X6_wayTo (S : St) (x1 : Int32) : Option (Int32 × St) :=
  obd2 (f_X10_at S 6 x1) fun r1 S1 =>
  some (r1, S1)
set_option maxHeartbeats 4000000 in
set_option maxRecDepth 100000 in
theorem c_X6_wayTo {l : Launch} {D : va_G} {cI cC cS : ClassId} {ad adK adV : Nat → Nat} {S S1 : St} {x1 : Int32} {r : Int32} (h : f_X6_wayTo S x1 = some (r, S1)) : Kt l D (xw cI cC cS ad) (KX D (xtys cI cC cS) adK adV) yX6_wayTo cX6_wayTo 2 (some .int) (1) (21) [.ref (ad 4), .int x1] S (some (.int r)) S1 := by
  refine k_ent (ins := .ireturn) (st := [.int r]) (by decide +kernel) (Nat.le_of_ble_eq_true rfl) ret_i ?_
  intro p e s m args below meth c A Q C hK I hA hq ls hl
  have C : CallFix p m c cX6_wayTo 2 s args TT RX6 := C
  have hx := C.1
  have hb := C.2.1
  have kx := kx_ok D (xtys cI cC cS) adK adV
  have hl : lv_has ls 2 [(0, .ref (ad 4)), (1, .int x1)] := hl
  unfold f_X6_wayTo at h
  refine lv_aload_n hx hb dX6_wayTo_0 rfl (lv_at hl 0 rfl) ?_
  refine gx_4_2 C hK I fl_X6_15 dX6_wayTo_1 ?_
  refine lv_iload_n hx hb dX6_wayTo_4 rfl (lv_at hl 1 rfl) ?_
  obtain ⟨r1, S1, e1, h⟩ := obd2_ex h
  refine k_SN (As := [.ref (ad 17), .int x1]) (rest := []) (st1 := [.int r1]) C kx hK I hA (c_X10_at e1) ⟨Nat.le_of_ble_eq_true rfl, Nat.le_of_ble_eq_true rfl⟩ ms_X10_at lk_X6_58 rfl hl.1 rfl (Nat.le_of_ble_eq_true rfl) dX6_wayTo_5 rfl (fun H locs I => ?_)
  exact rt_i hq h I dX6_wayTo_8
theorem fl_X6_73 : Cond.fieldLinkNest RX6 73 RX7 "likely" "I" "CarryUp" ∈ NN := nn_of 158 (by decide +kernel) rfl
theorem lk_X6_69 : Cond.methodLink RX6 69 yX1_sortTold ∈ TT := tt_of 820 (by decide +kernel) rfl
theorem fl_X6_28 : Cond.fieldLink RX6 28 RX6 "knownSort" "I" ∈ TT := tt_of 265 (by decide +kernel) rfl
theorem dX6_likelyOf_0 : decode cX6_likelyOf 0 = .ok (.aload_n 0, 1) := by decide +kernel
theorem dX6_likelyOf_1 : decode cX6_likelyOf 1 = .ok (.getfield 9, 3) := by decide +kernel
theorem dX6_likelyOf_4 : decode cX6_likelyOf 4 = .ok (.iload_n 1, 1) := by decide +kernel
theorem dX6_likelyOf_5 : decode cX6_likelyOf 5 = .ok (.invokestatic 58, 3) := by decide +kernel
theorem dX6_likelyOf_8 : decode cX6_likelyOf 8 = .ok (.aload_n 0, 1) := by decide +kernel
theorem dX6_likelyOf_9 : decode cX6_likelyOf 9 = .ok (.getfield 24, 3) := by decide +kernel
theorem dX6_likelyOf_12 : decode cX6_likelyOf 12 = .ok (.if_icmp .ne 17, 3) := by decide +kernel
theorem dX6_likelyOf_15 : decode cX6_likelyOf 15 = .ok (.iload_n 2, 1) := by decide +kernel
theorem dX6_likelyOf_16 : decode cX6_likelyOf 16 = .ok (.aload_n 0, 1) := by decide +kernel
theorem dX6_likelyOf_17 : decode cX6_likelyOf 17 = .ok (.getfield 28, 3) := by decide +kernel
theorem dX6_likelyOf_20 : decode cX6_likelyOf 20 = .ok (.if_icmp .ne 7, 3) := by decide +kernel
theorem dX6_likelyOf_23 : decode cX6_likelyOf 23 = .ok (.iconst 1, 1) := by decide +kernel
theorem dX6_likelyOf_24 : decode cX6_likelyOf 24 = .ok (.goto 4, 3) := by decide +kernel
theorem dX6_likelyOf_27 : decode cX6_likelyOf 27 = .ok (.iconst 0, 1) := by decide +kernel
theorem dX6_likelyOf_28 : decode cX6_likelyOf 28 = .ok (.ireturn, 1) := by decide +kernel
theorem dX6_likelyOf_29 : decode cX6_likelyOf 29 = .ok (.aload_n 0, 1) := by decide +kernel
theorem dX6_likelyOf_30 : decode cX6_likelyOf 30 = .ok (.iload_n 1, 1) := by decide +kernel
theorem dX6_likelyOf_31 : decode cX6_likelyOf 31 = .ok (.invokevirtual 66, 3) := by decide +kernel
theorem dX6_likelyOf_34 : decode cX6_likelyOf 34 = .ok (.astore_n 3, 1) := by decide +kernel
theorem dX6_likelyOf_35 : decode cX6_likelyOf 35 = .ok (.aload_n 3, 1) := by decide +kernel
theorem dX6_likelyOf_36 : decode cX6_likelyOf 36 = .ok (.ifnonnull 7, 3) := by decide +kernel
theorem dX6_likelyOf_39 : decode cX6_likelyOf 39 = .ok (.aconst_null, 1) := by decide +kernel
theorem dX6_likelyOf_40 : decode cX6_likelyOf 40 = .ok (.goto 8, 3) := by decide +kernel
theorem dX6_likelyOf_43 : decode cX6_likelyOf 43 = .ok (.aload_n 3, 1) := by decide +kernel
theorem dX6_likelyOf_44 : decode cX6_likelyOf 44 = .ok (.iload_n 2, 1) := by decide +kernel
theorem dX6_likelyOf_45 : decode cX6_likelyOf 45 = .ok (.invokevirtual 69, 3) := by decide +kernel
theorem dX6_likelyOf_48 : decode cX6_likelyOf 48 = .ok (.astore 4, 2) := by decide +kernel
theorem dX6_likelyOf_50 : decode cX6_likelyOf 50 = .ok (.aload 4, 2) := by decide +kernel
theorem dX6_likelyOf_52 : decode cX6_likelyOf 52 = .ok (.ifnonnull 7, 3) := by decide +kernel
theorem dX6_likelyOf_55 : decode cX6_likelyOf 55 = .ok (.iconst 0, 1) := by decide +kernel
theorem dX6_likelyOf_56 : decode cX6_likelyOf 56 = .ok (.goto 8, 3) := by decide +kernel
theorem dX6_likelyOf_59 : decode cX6_likelyOf 59 = .ok (.aload 4, 2) := by decide +kernel
theorem dX6_likelyOf_61 : decode cX6_likelyOf 61 = .ok (.getfield 73, 3) := by decide +kernel
theorem dX6_likelyOf_64 : decode cX6_likelyOf 64 = .ok (.ireturn, 1) := by decide +kernel
def f_X6_likelyOf_48 (S : St) (t0 : Option (Fin 24)) : Option (Int32 × St) :=
  oel t0 (
    some (0, S)
  ) fun v1 =>
    some ((S.1 (33 + v1.val) 0), S)
def f_X6_likelyOf (S : St) (x1 : Int32) (x2 : Int32) : Option (Int32 × St) :=
  obd2 (f_X10_at S 5 x1) fun r2 S2 =>
  if r2 = (S2.1 4 5) then (
    if x2 = (S2.1 4 6) then (
      some (1, S2)
    ) else (
      some (0, S2)
    )
  ) else (
    obd2 (f_X6_callAt S2 x1) fun r4 S4 =>
    oel r4 (
      f_X6_likelyOf_48 S4 none
    ) fun v5 =>
      obd2 (f_X1_sortTold S4 v5 x2) fun r6 S6 =>
      f_X6_likelyOf_48 S6 r6
  )
set_option maxHeartbeats 4000000 in
set_option maxRecDepth 100000 in
theorem c_X6_likelyOf {l : Launch} {D : va_G} {cI cC cS : ClassId} {ad adK adV : Nat → Nat} {S S1 : St} {x1 : Int32} {x2 : Int32} {r : Int32} (h : f_X6_likelyOf S x1 x2 = some (r, S1)) : Kt l D (xw cI cC cS ad) (KX D (xtys cI cC cS) adK adV) yX6_likelyOf cX6_likelyOf 5 (some .int) (1) (21) [.ref (ad 4), .int x1, .int x2] S (some (.int r)) S1 := by
  refine k_ent (ins := .ireturn) (st := [.int r]) (by decide +kernel) (Nat.le_of_ble_eq_true rfl) ret_i ?_
  intro p e s m args below meth c A Q C hK I hA hq ls hl
  have C : CallFix p m c cX6_likelyOf 5 s args TT RX6 := C
  have hx := C.1
  have hb := C.2.1
  have kx := kx_ok D (xtys cI cC cS) adK adV
  have hl : lv_has ls 5 [(0, .ref (ad 4)), (1, .int x1), (2, .int x2)] := hl
  have J_48 : ∀ (S : St) (t0 : Option (Fin 24)), f_X6_likelyOf_48  S t0 = some (r, S1) → ∀ (H : Heap) (locs : List Loc) (ls : Array Slot), Iv D (xw cI cC cS ad) S A s H locs → lv_has ls 5 [] → W p l e ({ frames := 1, cells := 0, slots := 0, locals := 21 } : Room) s m args below meth c H locs 0 0 Q (F0 m 48 ls [rS ad t0]) := by
    intro  S t0 h H locs ls I hl
    unfold f_X6_likelyOf_48 at h
    refine k_astore _ (lv' := [(4, rS ad t0)]) hx hb dX6_likelyOf_48 rfl hl (by decide) rfl (fun ls hl => ?_)
    refine k_aload _ hx hb dX6_likelyOf_50 rfl (lv_at hl 0 rfl) ?_
    refine k_ifnn hx hb dX6_likelyOf_52 (tgt := 59) (by decide) (fun v1 ho => ?_) (fun ho => ?_)
    · subst ho
      have h := oel_s h
      have hl : lv_has ls 5 [(4, .ref (ad (33 + v1.val)))] := hl
      refine lv_aload hx hb dX6_likelyOf_59 (lv_at hl 0 rfl) ?_
      refine gxN_S_0 C hK I fl_X6_73 dX6_likelyOf_61 ?_
      exact rt_i hq h I dX6_likelyOf_64
    · subst ho
      have h := oel_n h
      have hl : lv_has ls 5 [(4, .null)] := hl
      refine lv_iconst (v := 0) hx hb dX6_likelyOf_55 (by decide) ?_
      refine lv_goto (tgt := 64) hx hb dX6_likelyOf_56 (by decide) ?_
      exact rt_i hq h I dX6_likelyOf_64
  unfold f_X6_likelyOf at h
  refine lv_aload_n hx hb dX6_likelyOf_0 rfl (lv_at hl 0 rfl) ?_
  refine gx_4_1 C hK I fl_X6_9 dX6_likelyOf_1 ?_
  refine lv_iload_n hx hb dX6_likelyOf_4 rfl (lv_at hl 1 rfl) ?_
  obtain ⟨r2, S2, e2, h⟩ := obd2_ex h
  refine k_SN (As := [.ref (ad 16), .int x1]) (rest := []) (st1 := [.int r2]) C kx hK I hA (c_X10_at e2) ⟨Nat.le_of_ble_eq_true rfl, Nat.le_of_ble_eq_true rfl⟩ ms_X10_at lk_X6_58 rfl hl.1 rfl (Nat.le_of_ble_eq_true rfl) dX6_likelyOf_5 rfl (fun H locs I => ?_)
  refine lv_aload_n hx hb dX6_likelyOf_8 rfl (lv_at hl 0 rfl) ?_
  refine gx_4_5 C hK I fl_X6_24 dX6_likelyOf_9 ?_
  refine lv_icmp_ne (tgt := 29) hx hb dX6_likelyOf_12 (by decide) (fun c3 => ?_) (fun c3 => ?_)
  · have h := ite_n c3 h
    refine lv_aload_n hx hb dX6_likelyOf_29 rfl (lv_at hl 0 rfl) ?_
    refine lv_iload_n hx hb dX6_likelyOf_30 rfl (lv_at hl 1 rfl) ?_
    obtain ⟨r4, S4, e4, h⟩ := obd2_ex h
    refine k_V (As := [.int x1]) (rest := []) (st1 := [rC ad r4]) C kx hK I hA (c_X6_callAt e4) ⟨Nat.le_of_ble_eq_true rfl, Nat.le_of_ble_eq_true rfl⟩ mv_X6_callAt lk_X6_66 4 6 (xw_4 (cI := cI) (ad := ad) (cC := cC) (cS := cS)) rfl rfl hl.1 rfl (Nat.le_of_ble_eq_true rfl) dX6_likelyOf_31 rfl (fun H locs I => ?_)
    refine k_astore_n _ (lv' := [(3, rC ad r4), (0, .ref (ad 4)), (1, .int x1), (2, .int x2)]) hx hb dX6_likelyOf_34 rfl rfl hl (by decide) rfl (fun ls hl => ?_)
    refine k_aload_n _ hx hb dX6_likelyOf_35 rfl rfl (lv_at hl 0 rfl) ?_
    refine k_ifnn hx hb dX6_likelyOf_36 (tgt := 43) (by decide) (fun v5 ho => ?_) (fun ho => ?_)
    · subst ho
      have h := oel_s h
      have hl : lv_has ls 5 [(3, .ref (ad (21 + v5.val))), (0, .ref (ad 4)), (1, .int x1), (2, .int x2)] := hl
      refine lv_aload_n hx hb dX6_likelyOf_43 rfl (lv_at hl 0 rfl) ?_
      refine lv_iload_n hx hb dX6_likelyOf_44 rfl (lv_at hl 3 rfl) ?_
      obtain ⟨r6, S6, e6, h⟩ := obd2_ex h
      refine k_V (As := [.int x2]) (rest := []) (st1 := [rS ad r6]) C kx hK I hA (c_X1_sortTold e6) ⟨Nat.le_of_ble_eq_true rfl, Nat.le_of_ble_eq_true rfl⟩ mv_X1_sortTold lk_X6_69 (21 + v5.val) 1 (xw_C (cI := cI) (cC := cC) (cS := cS) (ad := ad) v5) rfl rfl hl.1 rfl (Nat.le_of_ble_eq_true rfl) dX6_likelyOf_45 rfl (fun H locs I => ?_)
      exact J_48 _ _ h _ _ _ I (lv_sub hl [] rfl)
    · subst ho
      have h := oel_n h
      have hl : lv_has ls 5 [(3, .null), (0, .ref (ad 4)), (1, .int x1), (2, .int x2)] := hl
      refine lv_null hx hb dX6_likelyOf_39 ?_
      refine lv_goto (tgt := 48) hx hb dX6_likelyOf_40 (by decide) ?_
      exact J_48 _ _ h _ _ _ I (lv_sub hl [] rfl)
  · have h := ite_t c3 h
    refine lv_iload_n hx hb dX6_likelyOf_15 rfl (lv_at hl 2 rfl) ?_
    refine lv_aload_n hx hb dX6_likelyOf_16 rfl (lv_at hl 0 rfl) ?_
    refine gx_4_6 C hK I fl_X6_28 dX6_likelyOf_17 ?_
    refine lv_icmp_ne (tgt := 27) hx hb dX6_likelyOf_20 (by decide) (fun c7 => ?_) (fun c7 => ?_)
    · have h := ite_n c7 h
      refine lv_iconst (v := 0) hx hb dX6_likelyOf_27 (by decide) ?_
      exact rt_i hq h I dX6_likelyOf_28
    · have h := ite_t c7 h
      refine lv_iconst (v := 1) hx hb dX6_likelyOf_23 (by decide) ?_
      refine lv_goto (tgt := 28) hx hb dX6_likelyOf_24 (by decide) ?_
      exact rt_i hq h I dX6_likelyOf_28
theorem dX6_assume_0 : decode cX6_assume 0 = .ok (.aload_n 0, 1) := by decide +kernel
theorem dX6_assume_1 : decode cX6_assume 1 = .ok (.iload_n 1, 1) := by decide +kernel
theorem dX6_assume_2 : decode cX6_assume 2 = .ok (.putfield 24, 3) := by decide +kernel
theorem dX6_assume_5 : decode cX6_assume 5 = .ok (.aload_n 0, 1) := by decide +kernel
theorem dX6_assume_6 : decode cX6_assume 6 = .ok (.iload_n 2, 1) := by decide +kernel
theorem dX6_assume_7 : decode cX6_assume 7 = .ok (.putfield 28, 3) := by decide +kernel
theorem dX6_assume_10 : decode cX6_assume 10 = .ok (.return_, 1) := by decide +kernel
def f_X6_assume (S : St) (x1 : Int32) (x2 : Int32) : Option St :=
  bnd (setI S 4 5 x1) fun S1 =>
  bnd (setI S1 4 6 x2) fun S2 =>
  some S2
set_option maxHeartbeats 4000000 in
set_option maxRecDepth 100000 in
theorem c_X6_assume {l : Launch} {D : va_G} {cI cC cS : ClassId} {ad adK adV : Nat → Nat} {S S1 : St} {x1 : Int32} {x2 : Int32} (h : f_X6_assume S x1 x2 = some S1) : Kt l D (xw cI cC cS ad) (KX D (xtys cI cC cS) adK adV) yX6_assume cX6_assume 3 none (0) (0) [.ref (ad 4), .int x1, .int x2] S (none) S1 := by
  refine k_ent (ins := .return_) (st := []) (by decide +kernel) (Nat.le_of_ble_eq_true rfl) ret_v ?_
  intro p e s m args below meth c A Q C hK I hA hq ls hl
  have C : CallFix p m c cX6_assume 3 s args TT RX6 := C
  have hx := C.1
  have hb := C.2.1
  have kx := kx_ok D (xtys cI cC cS) adK adV
  have hl : lv_has ls 3 [(0, .ref (ad 4)), (1, .int x1), (2, .int x2)] := hl
  unfold f_X6_assume at h
  refine lv_aload_n hx hb dX6_assume_0 rfl (lv_at hl 0 rfl) ?_
  refine lv_iload_n hx hb dX6_assume_1 rfl (lv_at hl 1 rfl) ?_
  refine px_4_5 C hK I fl_X6_24 dX6_assume_2 (fun S1 eS1 H locs I => ?_)
  have h := bnd_at eS1 h
  clear eS1
  refine lv_aload_n hx hb dX6_assume_5 rfl (lv_at hl 0 rfl) ?_
  refine lv_iload_n hx hb dX6_assume_6 rfl (lv_at hl 2 rfl) ?_
  refine px_4_6 C hK I fl_X6_28 dX6_assume_7 (fun S2 eS2 H locs I => ?_)
  have h := bnd_at eS2 h
  clear eS2
  exact rt_v hq h I dX6_assume_10
theorem lk_X6_62 : Cond.methodLink RX6 62 yX6_assume ∈ TT := tt_of 756 (by decide +kernel) rfl
theorem mv_X6_assume : MV yX6_assume cX6_assume 3 none 2 := ⟨tt_of 759 (by decide +kernel) rfl, tt_of 757 (by decide +kernel) rfl, tt_of 758 (by decide +kernel) rfl, tt_of 71 (by decide +kernel) rfl, ⟨by decide +kernel, by decide +kernel, by decide +kernel⟩⟩
theorem dX6_forget_0 : decode cX6_forget 0 = .ok (.aload_n 0, 1) := by decide +kernel
theorem dX6_forget_1 : decode cX6_forget 1 = .ok (.iconst (-1), 1) := by decide +kernel
theorem dX6_forget_2 : decode cX6_forget 2 = .ok (.iconst (-1), 1) := by decide +kernel
theorem dX6_forget_3 : decode cX6_forget 3 = .ok (.invokevirtual 62, 3) := by decide +kernel
theorem dX6_forget_6 : decode cX6_forget 6 = .ok (.return_, 1) := by decide +kernel
def f_X6_forget (S : St)  : Option St :=
  obd (f_X6_assume S (-1) (-1)) fun S1 =>
  some S1
set_option maxHeartbeats 4000000 in
set_option maxRecDepth 100000 in
theorem c_X6_forget {l : Launch} {D : va_G} {cI cC cS : ClassId} {ad adK adV : Nat → Nat} {S S1 : St}  (h : f_X6_forget S  = some S1) : Kt l D (xw cI cC cS ad) (KX D (xtys cI cC cS) adK adV) yX6_forget cX6_forget 1 none (1) (22) [.ref (ad 4)] S (none) S1 := by
  refine k_ent (ins := .return_) (st := []) (by decide +kernel) (Nat.le_of_ble_eq_true rfl) ret_v ?_
  intro p e s m args below meth c A Q C hK I hA hq ls hl
  have C : CallFix p m c cX6_forget 1 s args TT RX6 := C
  have hx := C.1
  have hb := C.2.1
  have kx := kx_ok D (xtys cI cC cS) adK adV
  have hl : lv_has ls 1 [(0, .ref (ad 4))] := hl
  unfold f_X6_forget at h
  refine lv_aload_n hx hb dX6_forget_0 rfl (lv_at hl 0 rfl) ?_
  refine lv_iconst (v := (-1)) hx hb dX6_forget_1 (by decide) ?_
  refine lv_iconst (v := (-1)) hx hb dX6_forget_2 (by decide) ?_
  obtain ⟨S1, e1, h⟩ := obd_ex h
  refine k_V (As := [.int (-1), .int (-1)]) (rest := []) (st1 := []) C kx hK I hA (c_X6_assume e1) ⟨Nat.le_of_ble_eq_true rfl, Nat.le_of_ble_eq_true rfl⟩ mv_X6_assume lk_X6_62 4 6 (xw_4 (cI := cI) (ad := ad) (cC := cC) (cS := cS)) rfl rfl hl.1 rfl (Nat.le_of_ble_eq_true rfl) dX6_forget_3 rfl (fun H locs I => ?_)
  exact rt_v hq h I dX6_forget_6
theorem lk_X6_50 : Cond.methodLinkNest RX6 50 yX10_put "CarryUp" ∈ NN := nn_of 761 (by decide +kernel) rfl
theorem fl_X6_31 : Cond.fieldLink RX6 31 RX6 "plan" "LCarryUp$Plan;" ∈ TT := tt_of 259 (by decide +kernel) rfl
theorem lk_X6_54 : Cond.methodLink RX6 54 yX4_wayBetween ∈ TT := tt_of 762 (by decide +kernel) rfl
theorem mv_X4_wayBetween : MV yX4_wayBetween cX4_wayBetween 3 (some .int) 2 := ⟨tt_of 685 (by decide +kernel) rfl, tt_of 683 (by decide +kernel) rfl, tt_of 684 (by decide +kernel) rfl, tt_of 68 (by decide +kernel) rfl, ⟨by decide +kernel, by decide +kernel, by decide +kernel⟩⟩
theorem fl_X6_47 : Cond.fieldLinkNest RX6 47 RX1 "place" "I" "CarryUp" ∈ NN := nn_of 187 (by decide +kernel) rfl
theorem lk_X6_41 : Cond.methodLink RX6 41 yX4_callWithSorts ∈ TT := tt_of 760 (by decide +kernel) rfl
theorem mv_X4_callWithSorts : MV yX4_callWithSorts cX4_callWithSorts 3 (some (.object "CarryUp$Call")) 1 := ⟨tt_of 719 (by decide +kernel) rfl, tt_of 717 (by decide +kernel) rfl, tt_of 718 (by decide +kernel) rfl, tt_of 68 (by decide +kernel) rfl, ⟨by decide +kernel, by decide +kernel, by decide +kernel⟩⟩
theorem lk_X6_38 : Cond.methodLink RX6 38 yX6_forget ∈ TT := tt_of 752 (by decide +kernel) rfl
theorem mv_X6_forget : MV yX6_forget cX6_forget 1 none 0 := ⟨tt_of 755 (by decide +kernel) rfl, tt_of 753 (by decide +kernel) rfl, tt_of 754 (by decide +kernel) rfl, tt_of 71 (by decide +kernel) rfl, ⟨by decide +kernel, by decide +kernel, by decide +kernel⟩⟩
theorem dX6_tell_0 : decode cX6_tell 0 = .ok (.aload_n 0, 1) := by decide +kernel
theorem dX6_tell_1 : decode cX6_tell 1 = .ok (.iconst 0, 1) := by decide +kernel
theorem dX6_tell_2 : decode cX6_tell 2 = .ok (.putfield 35, 3) := by decide +kernel
theorem dX6_tell_5 : decode cX6_tell 5 = .ok (.aload_n 0, 1) := by decide +kernel
theorem dX6_tell_6 : decode cX6_tell 6 = .ok (.invokevirtual 38, 3) := by decide +kernel
theorem dX6_tell_9 : decode cX6_tell 9 = .ok (.iload_n 2, 1) := by decide +kernel
theorem dX6_tell_10 : decode cX6_tell 10 = .ok (.iconst 1, 1) := by decide +kernel
theorem dX6_tell_11 : decode cX6_tell 11 = .ok (.if_icmp .lt 12, 3) := by decide +kernel
theorem dX6_tell_14 : decode cX6_tell 14 = .ok (.iload_n 2, 1) := by decide +kernel
theorem dX6_tell_15 : decode cX6_tell 15 = .ok (.aload_n 0, 1) := by decide +kernel
theorem dX6_tell_16 : decode cX6_tell 16 = .ok (.getfield 20, 3) := by decide +kernel
theorem dX6_tell_19 : decode cX6_tell 19 = .ok (.arraylength, 1) := by decide +kernel
theorem dX6_tell_20 : decode cX6_tell 20 = .ok (.if_icmp .le 6, 3) := by decide +kernel
theorem dX6_tell_23 : decode cX6_tell 23 = .ok (.bipush (-3), 2) := by decide +kernel
theorem dX6_tell_25 : decode cX6_tell 25 = .ok (.ireturn, 1) := by decide +kernel
theorem dX6_tell_26 : decode cX6_tell 26 = .ok (.iconst 0, 1) := by decide +kernel
theorem dX6_tell_27 : decode cX6_tell 27 = .ok (.istore_n 3, 1) := by decide +kernel
theorem dX6_tell_28 : decode cX6_tell 28 = .ok (.iconst 0, 1) := by decide +kernel
theorem dX6_tell_29 : decode cX6_tell 29 = .ok (.istore 4, 2) := by decide +kernel
theorem dX6_tell_31 : decode cX6_tell 31 = .ok (.iload 4, 2) := by decide +kernel
theorem dX6_tell_33 : decode cX6_tell 33 = .ok (.iload_n 2, 1) := by decide +kernel
theorem dX6_tell_34 : decode cX6_tell 34 = .ok (.if_icmp .ge 104, 3) := by decide +kernel
theorem dX6_tell_37 : decode cX6_tell 37 = .ok (.iload_n 1, 1) := by decide +kernel
theorem dX6_tell_38 : decode cX6_tell 38 = .ok (.iconst 4, 1) := by decide +kernel
theorem dX6_tell_39 : decode cX6_tell 39 = .ok (.iload 4, 2) := by decide +kernel
theorem dX6_tell_41 : decode cX6_tell 41 = .ok (.imul, 1) := by decide +kernel
theorem dX6_tell_42 : decode cX6_tell 42 = .ok (.ishr, 1) := by decide +kernel
theorem dX6_tell_43 : decode cX6_tell 43 = .ok (.bipush 15, 2) := by decide +kernel
theorem dX6_tell_45 : decode cX6_tell 45 = .ok (.iand, 1) := by decide +kernel
theorem dX6_tell_46 : decode cX6_tell 46 = .ok (.istore 5, 2) := by decide +kernel
theorem dX6_tell_48 : decode cX6_tell 48 = .ok (.aload_n 0, 1) := by decide +kernel
theorem dX6_tell_49 : decode cX6_tell 49 = .ok (.getfield 31, 3) := by decide +kernel
theorem dX6_tell_52 : decode cX6_tell 52 = .ok (.iload 5, 2) := by decide +kernel
theorem dX6_tell_54 : decode cX6_tell 54 = .ok (.invokevirtual 41, 3) := by decide +kernel
theorem dX6_tell_57 : decode cX6_tell 57 = .ok (.astore 6, 2) := by decide +kernel
theorem dX6_tell_59 : decode cX6_tell 59 = .ok (.aload 6, 2) := by decide +kernel
theorem dX6_tell_61 : decode cX6_tell 61 = .ok (.ifnonnull 13, 3) := by decide +kernel
theorem dX6_tell_64 : decode cX6_tell 64 = .ok (.iload 5, 2) := by decide +kernel
theorem dX6_tell_66 : decode cX6_tell 66 = .ok (.bipush 6, 2) := by decide +kernel
theorem dX6_tell_68 : decode cX6_tell 68 = .ok (.if_icmp .eq 6, 3) := by decide +kernel
theorem dX6_tell_71 : decode cX6_tell 71 = .ok (.bipush (-2), 2) := by decide +kernel
theorem dX6_tell_73 : decode cX6_tell 73 = .ok (.ireturn, 1) := by decide +kernel
theorem dX6_tell_74 : decode cX6_tell 74 = .ok (.aload 6, 2) := by decide +kernel
theorem dX6_tell_76 : decode cX6_tell 76 = .ok (.ifnonnull 7, 3) := by decide +kernel
theorem dX6_tell_79 : decode cX6_tell 79 = .ok (.iconst 0, 1) := by decide +kernel
theorem dX6_tell_80 : decode cX6_tell 80 = .ok (.goto 8, 3) := by decide +kernel
theorem dX6_tell_83 : decode cX6_tell 83 = .ok (.aload 6, 2) := by decide +kernel
theorem dX6_tell_85 : decode cX6_tell 85 = .ok (.getfield 47, 3) := by decide +kernel
theorem dX6_tell_88 : decode cX6_tell 88 = .ok (.istore 7, 2) := by decide +kernel
theorem dX6_tell_90 : decode cX6_tell 90 = .ok (.aload_n 0, 1) := by decide +kernel
theorem dX6_tell_91 : decode cX6_tell 91 = .ok (.getfield 20, 3) := by decide +kernel
theorem dX6_tell_94 : decode cX6_tell 94 = .ok (.iload 4, 2) := by decide +kernel
theorem dX6_tell_96 : decode cX6_tell 96 = .ok (.aload 6, 2) := by decide +kernel
theorem dX6_tell_98 : decode cX6_tell 98 = .ok (.aastore, 1) := by decide +kernel
theorem dX6_tell_99 : decode cX6_tell 99 = .ok (.aload_n 0, 1) := by decide +kernel
theorem dX6_tell_100 : decode cX6_tell 100 = .ok (.getfield 9, 3) := by decide +kernel
theorem dX6_tell_103 : decode cX6_tell 103 = .ok (.iload 4, 2) := by decide +kernel
theorem dX6_tell_105 : decode cX6_tell 105 = .ok (.iload 5, 2) := by decide +kernel
theorem dX6_tell_107 : decode cX6_tell 107 = .ok (.invokestatic 50, 3) := by decide +kernel
theorem dX6_tell_110 : decode cX6_tell 110 = .ok (.aload_n 0, 1) := by decide +kernel
theorem dX6_tell_111 : decode cX6_tell 111 = .ok (.getfield 15, 3) := by decide +kernel
theorem dX6_tell_114 : decode cX6_tell 114 = .ok (.iload 4, 2) := by decide +kernel
theorem dX6_tell_116 : decode cX6_tell 116 = .ok (.aload_n 0, 1) := by decide +kernel
theorem dX6_tell_117 : decode cX6_tell 117 = .ok (.getfield 31, 3) := by decide +kernel
theorem dX6_tell_120 : decode cX6_tell 120 = .ok (.iload_n 3, 1) := by decide +kernel
theorem dX6_tell_121 : decode cX6_tell 121 = .ok (.iload 7, 2) := by decide +kernel
theorem dX6_tell_123 : decode cX6_tell 123 = .ok (.invokevirtual 54, 3) := by decide +kernel
theorem dX6_tell_126 : decode cX6_tell 126 = .ok (.invokestatic 50, 3) := by decide +kernel
theorem dX6_tell_129 : decode cX6_tell 129 = .ok (.iload 7, 2) := by decide +kernel
theorem dX6_tell_131 : decode cX6_tell 131 = .ok (.istore_n 3, 1) := by decide +kernel
theorem dX6_tell_132 : decode cX6_tell 132 = .ok (.iinc 4 1, 3) := by decide +kernel
theorem dX6_tell_135 : decode cX6_tell 135 = .ok (.goto (-104), 3) := by decide +kernel
theorem dX6_tell_138 : decode cX6_tell 138 = .ok (.aload_n 0, 1) := by decide +kernel
theorem dX6_tell_139 : decode cX6_tell 139 = .ok (.iload_n 2, 1) := by decide +kernel
theorem dX6_tell_140 : decode cX6_tell 140 = .ok (.putfield 35, 3) := by decide +kernel
theorem dX6_tell_143 : decode cX6_tell 143 = .ok (.iconst 0, 1) := by decide +kernel
theorem dX6_tell_144 : decode cX6_tell 144 = .ok (.ireturn, 1) := by decide +kernel
def f_X6_tell_88 (k_31 : St → Int32 → Int32 → Int32 → Int32 → Option (Int32 × St)) (S : St) (x1 : Int32) (x2 : Int32) (x3 : Int32) (x4 : Int32) (x5 : Int32) (x6 : Option (Fin 6)) (t0 : Int32) : Option (Int32 × St) :=
  chk (ixo x4 6) <|
  bnd (setR S (x4).toNatClampNeg x6) fun S2 =>
  obd (f_X10_put S2 5 x4 x5) fun S3 =>
  obd2 (f_X4_wayBetween S3 x3 t0) fun r4 S4 =>
  obd (f_X10_put S4 6 x4 r4) fun S5 =>
  bnd (x4 + 1 : Int32) fun v6 =>
  k_31 S5 x1 x2 t0 v6
def f_X6_tell_74 (k_31 : St → Int32 → Int32 → Int32 → Int32 → Option (Int32 × St)) (S : St) (x1 : Int32) (x2 : Int32) (x3 : Int32) (x4 : Int32) (x5 : Int32) (x6 : Option (Fin 6)) : Option (Int32 × St) :=
  oel x6 (
    f_X6_tell_88 k_31 S x1 x2 x3 x4 x5 none 0
  ) fun v7 =>
    f_X6_tell_88 k_31 S x1 x2 x3 x4 x5 (some v7) (S.1 (21 + v7.val) 4)
def f_X6_tell_31 (k_31 : St → Int32 → Int32 → Int32 → Int32 → Option (Int32 × St)) (S : St) (x1 : Int32) (x2 : Int32) (x3 : Int32) (x4 : Int32) : Option (Int32 × St) :=
  if x2 ≤ x4 then (
    bnd (setI S 4 4 x2) fun S9 =>
    some (0, S9)
  ) else (
    bnd (((x1 >>> ((4 * x4) &&& 31)) &&& 15) : Int32) fun v10 =>
    obd2 (f_X4_callWithSorts S v10) fun r11 S11 =>
    oel r11 (
      if v10 = 6 then (
        f_X6_tell_74 k_31 S11 x1 x2 x3 x4 v10 none
      ) else (
        some ((-2), S11)
      )
    ) fun v12 =>
      f_X6_tell_74 k_31 S11 x1 x2 x3 x4 v10 (some v12)
  )
def l_X6_tell_31 : Nat → St → Int32 → Int32 → Int32 → Int32 → Option (Int32 × St)
  | 0, _, _, _, _, _ => none
  | fu + 1, S, x1, x2, x3, x4 => f_X6_tell_31 (l_X6_tell_31 fu) S x1 x2 x3 x4
def f_X6_tell (S : St) (x1 : Int32) (x2 : Int32) : Option (Int32 × St) :=
  bnd (setI S 4 4 0) fun S14 =>
  obd (f_X6_forget S14 ) fun S15 =>
  if x2 < 1 then (
    some ((-3), S15)
  ) else (
    if x2 ≤ 6 then (
      l_X6_tell_31 FU S15 x1 x2 0 0
    ) else (
      some ((-3), S15)
    )
  )
set_option maxHeartbeats 4000000 in
set_option maxRecDepth 100000 in
theorem c_X6_tell {l : Launch} {D : va_G} {cI cC cS : ClassId} {ad adK adV : Nat → Nat} {S S1 : St} {x1 : Int32} {x2 : Int32} {r : Int32} (h : f_X6_tell S x1 x2 = some (r, S1)) : Kt l D (xw cI cC cS ad) (KX D (xtys cI cC cS) adK adV) yX6_tell cX6_tell 8 (some .int) (3) (65) [.ref (ad 4), .int x1, .int x2] S (some (.int r)) S1 := by
  refine k_ent (ins := .ireturn) (st := [.int r]) (by decide +kernel) (Nat.le_of_ble_eq_true rfl) ret_i ?_
  intro p e s m args below meth c A Q C hK I hA hq ls hl
  have C : CallFix p m c cX6_tell 8 s args TT RX6 := C
  have hx := C.1
  have hb := C.2.1
  have kx := kx_ok D (xtys cI cC cS) adK adV
  have hl : lv_has ls 8 [(0, .ref (ad 4)), (1, .int x1), (2, .int x2)] := hl
  have J_88 : ∀ (k_31 : St → Int32 → Int32 → Int32 → Int32 → Option (Int32 × St)) (hk_31 : ∀ (S : St) (x1 : Int32) (x2 : Int32) (x3 : Int32) (x4 : Int32), k_31 S x1 x2 x3 x4 = some (r, S1) → ∀ (H : Heap) (locs : List Loc) (ls : Array Slot), Iv D (xw cI cC cS ad) S A s H locs → lv_has ls 8 [(0, .ref (ad 4)), (1, .int x1), (2, .int x2), (3, .int x3), (4, .int x4)] → W p l e ({ frames := 3, cells := 0, slots := 0, locals := 65 } : Room) s m args below meth c H locs 0 0 Q (F0 m 31 ls [])) (S : St) (x1 : Int32) (x2 : Int32) (x3 : Int32) (x4 : Int32) (x5 : Int32) (x6 : Option (Fin 6)) (t0 : Int32), f_X6_tell_88 k_31 S x1 x2 x3 x4 x5 x6 t0 = some (r, S1) → ∀ (H : Heap) (locs : List Loc) (ls : Array Slot), Iv D (xw cI cC cS ad) S A s H locs → lv_has ls 8 [(0, .ref (ad 4)), (1, .int x1), (2, .int x2), (3, .int x3), (4, .int x4), (5, .int x5), (6, rC ad x6)] → W p l e ({ frames := 3, cells := 0, slots := 0, locals := 65 } : Room) s m args below meth c H locs 0 0 Q (F0 m 88 ls [.int t0]) := by
    intro k_31 hk_31 S x1 x2 x3 x4 x5 x6 t0 h H locs ls I hl
    unfold f_X6_tell_88 at h
    refine lv_istore (lv' := [(7, .int t0), (0, .ref (ad 4)), (1, .int x1), (2, .int x2), (3, .int x3), (4, .int x4), (5, .int x5), (6, rC ad x6)]) hx hb dX6_tell_88 hl (by decide) (by first | rfl | (simp [cat_rC, cat_rS]; done) | (simp [cat_rC, cat_rS]; rfl)) (fun ls hl => ?_)
    refine lv_aload_n hx hb dX6_tell_90 rfl (lv_at hl 1 rfl) ?_
    refine gx_4_3 C hK I fl_X6_20 dX6_tell_91 ?_
    refine lv_iload hx hb dX6_tell_94 (lv_at hl 5 rfl) ?_
    refine k_aload _ hx hb dX6_tell_96 rfl (lv_at hl 7 rfl) ?_
    obtain ⟨hv1, h⟩ := chk_ex h
    refine bx_10 (v := x6) C hK I hv1 dX6_tell_98 (fun S2 eS2 H locs I => ?_)
    have h := bnd_at eS2 h
    clear eS2
    refine lv_aload_n hx hb dX6_tell_99 rfl (lv_at hl 1 rfl) ?_
    refine gx_4_1 C hK I fl_X6_9 dX6_tell_100 ?_
    refine lv_iload hx hb dX6_tell_103 (lv_at hl 5 rfl) ?_
    refine lv_iload hx hb dX6_tell_105 (lv_at hl 6 rfl) ?_
    obtain ⟨S3, e3, h⟩ := obd_ex h
    refine k_SN (As := [.ref (ad 16), .int x4, .int x5]) (rest := []) (st1 := []) C kx hK I hA (c_X10_put e3) ⟨Nat.le_of_ble_eq_true rfl, Nat.le_of_ble_eq_true rfl⟩ ms_X10_put lk_X6_50 rfl hl.1 rfl (Nat.le_of_ble_eq_true rfl) dX6_tell_107 rfl (fun H locs I => ?_)
    refine lv_aload_n hx hb dX6_tell_110 rfl (lv_at hl 1 rfl) ?_
    refine gx_4_2 C hK I fl_X6_15 dX6_tell_111 ?_
    refine lv_iload hx hb dX6_tell_114 (lv_at hl 5 rfl) ?_
    refine lv_aload_n hx hb dX6_tell_116 rfl (lv_at hl 1 rfl) ?_
    refine gx_4_0 C hK I fl_X6_31 dX6_tell_117 ?_
    refine lv_iload_n hx hb dX6_tell_120 rfl (lv_at hl 4 rfl) ?_
    refine lv_iload hx hb dX6_tell_121 (lv_at hl 0 rfl) ?_
    obtain ⟨r4, S4, e4, h⟩ := obd2_ex h
    refine k_V (As := [.int x3, .int t0]) (rest := [.int x4, .ref (ad 17)]) (st1 := [.int r4, .int x4, .ref (ad 17)]) C kx hK I hA (c_X4_wayBetween e4) ⟨Nat.le_of_ble_eq_true rfl, Nat.le_of_ble_eq_true rfl⟩ mv_X4_wayBetween lk_X6_54 3 4 (xw_3 (cI := cI) (ad := ad) (cC := cC) (cS := cS)) rfl rfl hl.1 rfl (Nat.le_of_ble_eq_true rfl) dX6_tell_123 rfl (fun H locs I => ?_)
    obtain ⟨S5, e5, h⟩ := obd_ex h
    refine k_SN (As := [.ref (ad 17), .int x4, .int r4]) (rest := []) (st1 := []) C kx hK I hA (c_X10_put e5) ⟨Nat.le_of_ble_eq_true rfl, Nat.le_of_ble_eq_true rfl⟩ ms_X10_put lk_X6_50 rfl hl.1 rfl (Nat.le_of_ble_eq_true rfl) dX6_tell_126 rfl (fun H locs I => ?_)
    refine lv_iload hx hb dX6_tell_129 (lv_at hl 0 rfl) ?_
    refine lv_istore_n (lv' := [(3, .int t0), (7, .int t0), (0, .ref (ad 4)), (1, .int x1), (2, .int x2), (4, .int x4), (5, .int x5), (6, rC ad x6)]) hx hb dX6_tell_131 rfl hl (by decide) rfl (fun ls hl => ?_)
    obtain ⟨v6, ev6⟩ : ∃ y : Int32, y = x4 + 1 := ⟨_, rfl⟩
    have h := bnd_at ev6 h
    refine lv_iinc (v := v6) (lv' := [(4, .int v6), (3, .int t0), (7, .int t0), (0, .ref (ad 4)), (1, .int x1), (2, .int x2), (5, .int x5), (6, rC ad x6)]) hx hb dX6_tell_132 hl (k := 5) rfl (by rw [ev6]; rfl) (by decide) rfl (fun ls hl => ?_)
    clear ev6
    refine lv_goto (tgt := 31) hx hb dX6_tell_135 (by decide) ?_
    exact hk_31 _ _ _ _ _ h _ _ _ I (lv_sub hl [3, 4, 5, 1, 0] rfl)
  have J_74 : ∀ (k_31 : St → Int32 → Int32 → Int32 → Int32 → Option (Int32 × St)) (hk_31 : ∀ (S : St) (x1 : Int32) (x2 : Int32) (x3 : Int32) (x4 : Int32), k_31 S x1 x2 x3 x4 = some (r, S1) → ∀ (H : Heap) (locs : List Loc) (ls : Array Slot), Iv D (xw cI cC cS ad) S A s H locs → lv_has ls 8 [(0, .ref (ad 4)), (1, .int x1), (2, .int x2), (3, .int x3), (4, .int x4)] → W p l e ({ frames := 3, cells := 0, slots := 0, locals := 65 } : Room) s m args below meth c H locs 0 0 Q (F0 m 31 ls [])) (S : St) (x1 : Int32) (x2 : Int32) (x3 : Int32) (x4 : Int32) (x5 : Int32) (x6 : Option (Fin 6)), f_X6_tell_74 k_31 S x1 x2 x3 x4 x5 x6 = some (r, S1) → ∀ (H : Heap) (locs : List Loc) (ls : Array Slot), Iv D (xw cI cC cS ad) S A s H locs → lv_has ls 8 [(0, .ref (ad 4)), (1, .int x1), (2, .int x2), (3, .int x3), (4, .int x4), (5, .int x5), (6, rC ad x6)] → W p l e ({ frames := 3, cells := 0, slots := 0, locals := 65 } : Room) s m args below meth c H locs 0 0 Q (F0 m 74 ls []) := by
    intro k_31 hk_31 S x1 x2 x3 x4 x5 x6 h H locs ls I hl
    unfold f_X6_tell_74 at h
    refine k_aload _ hx hb dX6_tell_74 rfl (lv_at hl 6 rfl) ?_
    refine k_ifnn hx hb dX6_tell_76 (tgt := 83) (by decide) (fun v7 ho => ?_) (fun ho => ?_)
    · subst ho
      have h := oel_s h
      have hl : lv_has ls 8 [(0, .ref (ad 4)), (1, .int x1), (2, .int x2), (3, .int x3), (4, .int x4), (5, .int x5), (6, .ref (ad (21 + v7.val)))] := hl
      refine lv_aload hx hb dX6_tell_83 (lv_at hl 6 rfl) ?_
      refine gxN_C_4 C hK I fl_X6_47 dX6_tell_85 ?_
      exact J_88 k_31 hk_31 _ _ _ _ _ _ _ _ h _ _ _ I (lv_sub hl [0, 1, 2, 3, 4, 5, 6] rfl)
    · subst ho
      have h := oel_n h
      have hl : lv_has ls 8 [(0, .ref (ad 4)), (1, .int x1), (2, .int x2), (3, .int x3), (4, .int x4), (5, .int x5), (6, .null)] := hl
      refine lv_iconst (v := 0) hx hb dX6_tell_79 (by decide) ?_
      refine lv_goto (tgt := 88) hx hb dX6_tell_80 (by decide) ?_
      exact J_88 k_31 hk_31 _ _ _ _ _ _ _ _ h _ _ _ I (lv_sub hl [0, 1, 2, 3, 4, 5, 6] rfl)
  have B_31 : ∀ (k_31 : St → Int32 → Int32 → Int32 → Int32 → Option (Int32 × St)) (hk_31 : ∀ (S : St) (x1 : Int32) (x2 : Int32) (x3 : Int32) (x4 : Int32), k_31 S x1 x2 x3 x4 = some (r, S1) → ∀ (H : Heap) (locs : List Loc) (ls : Array Slot), Iv D (xw cI cC cS ad) S A s H locs → lv_has ls 8 [(0, .ref (ad 4)), (1, .int x1), (2, .int x2), (3, .int x3), (4, .int x4)] → W p l e ({ frames := 3, cells := 0, slots := 0, locals := 65 } : Room) s m args below meth c H locs 0 0 Q (F0 m 31 ls [])) (S : St) (x1 : Int32) (x2 : Int32) (x3 : Int32) (x4 : Int32), f_X6_tell_31 k_31 S x1 x2 x3 x4 = some (r, S1) → ∀ (H : Heap) (locs : List Loc) (ls : Array Slot), Iv D (xw cI cC cS ad) S A s H locs → lv_has ls 8 [(0, .ref (ad 4)), (1, .int x1), (2, .int x2), (3, .int x3), (4, .int x4)] → W p l e ({ frames := 3, cells := 0, slots := 0, locals := 65 } : Room) s m args below meth c H locs 0 0 Q (F0 m 31 ls []) := by
    intro k_31 hk_31 S x1 x2 x3 x4 h H locs ls I hl
    unfold f_X6_tell_31 at h
    refine lv_iload hx hb dX6_tell_31 (lv_at hl 4 rfl) ?_
    refine lv_iload_n hx hb dX6_tell_33 rfl (lv_at hl 2 rfl) ?_
    refine lv_icmp_ge (tgt := 138) hx hb dX6_tell_34 (by decide) (fun c8 => ?_) (fun c8 => ?_)
    · have h := ite_t c8 h
      refine lv_aload_n hx hb dX6_tell_138 rfl (lv_at hl 0 rfl) ?_
      refine lv_iload_n hx hb dX6_tell_139 rfl (lv_at hl 2 rfl) ?_
      refine px_4_4 C hK I fl_X6_35 dX6_tell_140 (fun S9 eS9 H locs I => ?_)
      have h := bnd_at eS9 h
      clear eS9
      refine lv_iconst (v := 0) hx hb dX6_tell_143 (by decide) ?_
      exact rt_i hq h I dX6_tell_144
    · have h := ite_n c8 h
      refine lv_iload_n hx hb dX6_tell_37 rfl (lv_at hl 1 rfl) ?_
      refine lv_iconst (v := 4) hx hb dX6_tell_38 (by decide) ?_
      refine lv_iload hx hb dX6_tell_39 (lv_at hl 4 rfl) ?_
      refine lv_imul hx hb dX6_tell_41 ?_
      refine lv_ishr hx hb dX6_tell_42 ?_
      refine lv_bipush (v := 15) hx hb dX6_tell_43 (by decide) ?_
      refine lv_iand hx hb dX6_tell_45 ?_
      refine lv_topi (fun v10 ev10 => ?_)
      have h := bnd_at ev10 h
      clear ev10
      refine lv_istore (lv' := [(5, .int v10), (0, .ref (ad 4)), (1, .int x1), (2, .int x2), (3, .int x3), (4, .int x4)]) hx hb dX6_tell_46 hl (by decide) rfl (fun ls hl => ?_)
      refine lv_aload_n hx hb dX6_tell_48 rfl (lv_at hl 1 rfl) ?_
      refine gx_4_0 C hK I fl_X6_31 dX6_tell_49 ?_
      refine lv_iload hx hb dX6_tell_52 (lv_at hl 0 rfl) ?_
      obtain ⟨r11, S11, e11, h⟩ := obd2_ex h
      refine k_V (As := [.int v10]) (rest := []) (st1 := [rC ad r11]) C kx hK I hA (c_X4_callWithSorts e11) ⟨Nat.le_of_ble_eq_true rfl, Nat.le_of_ble_eq_true rfl⟩ mv_X4_callWithSorts lk_X6_41 3 4 (xw_3 (cI := cI) (ad := ad) (cC := cC) (cS := cS)) rfl rfl hl.1 rfl (Nat.le_of_ble_eq_true rfl) dX6_tell_54 rfl (fun H locs I => ?_)
      refine k_astore _ (lv' := [(6, rC ad r11), (5, .int v10), (0, .ref (ad 4)), (1, .int x1), (2, .int x2), (3, .int x3), (4, .int x4)]) hx hb dX6_tell_57 rfl hl (by decide) rfl (fun ls hl => ?_)
      refine k_aload _ hx hb dX6_tell_59 rfl (lv_at hl 0 rfl) ?_
      refine k_ifnn hx hb dX6_tell_61 (tgt := 74) (by decide) (fun v12 ho => ?_) (fun ho => ?_)
      · subst ho
        have h := oel_s h
        have hl : lv_has ls 8 [(6, .ref (ad (21 + v12.val))), (5, .int v10), (0, .ref (ad 4)), (1, .int x1), (2, .int x2), (3, .int x3), (4, .int x4)] := hl
        exact J_74 k_31 hk_31 _ _ _ _ _ _ _ h _ _ _ I (lv_sub hl [2, 3, 4, 5, 6, 1, 0] rfl)
      · subst ho
        have h := oel_n h
        have hl : lv_has ls 8 [(6, .null), (5, .int v10), (0, .ref (ad 4)), (1, .int x1), (2, .int x2), (3, .int x3), (4, .int x4)] := hl
        refine lv_iload hx hb dX6_tell_64 (lv_at hl 1 rfl) ?_
        refine lv_bipush (v := 6) hx hb dX6_tell_66 (by decide) ?_
        refine lv_icmp_eq (tgt := 74) hx hb dX6_tell_68 (by decide) (fun c13 => ?_) (fun c13 => ?_)
        · have h := ite_t c13 h
          exact J_74 k_31 hk_31 _ _ _ _ _ _ _ h _ _ _ I (lv_sub hl [2, 3, 4, 5, 6, 1, 0] rfl)
        · have h := ite_n c13 h
          refine lv_bipush (v := (-2)) hx hb dX6_tell_71 (by decide) ?_
          exact rt_i hq h I dX6_tell_73
  have J_31 : ∀ (fu : Nat) (S : St) (x1 : Int32) (x2 : Int32) (x3 : Int32) (x4 : Int32), l_X6_tell_31  fu S x1 x2 x3 x4 = some (r, S1) → ∀ (H : Heap) (locs : List Loc) (ls : Array Slot), Iv D (xw cI cC cS ad) S A s H locs → lv_has ls 8 [(0, .ref (ad 4)), (1, .int x1), (2, .int x2), (3, .int x3), (4, .int x4)] → W p l e ({ frames := 3, cells := 0, slots := 0, locals := 65 } : Room) s m args below meth c H locs 0 0 Q (F0 m 31 ls []) := by
    intro fu
    induction fu with
    | zero => intro S x1 x2 x3 x4 h; cases h
    | succ fu ih => intro S x1 x2 x3 x4 h; exact B_31 (l_X6_tell_31 fu) ih S x1 x2 x3 x4 h
  unfold f_X6_tell at h
  refine lv_aload_n hx hb dX6_tell_0 rfl (lv_at hl 0 rfl) ?_
  refine lv_iconst (v := 0) hx hb dX6_tell_1 (by decide) ?_
  refine px_4_4 C hK I fl_X6_35 dX6_tell_2 (fun S14 eS14 H locs I => ?_)
  have h := bnd_at eS14 h
  clear eS14
  refine lv_aload_n hx hb dX6_tell_5 rfl (lv_at hl 0 rfl) ?_
  obtain ⟨S15, e15, h⟩ := obd_ex h
  refine k_V (As := []) (rest := []) (st1 := []) C kx hK I hA (c_X6_forget e15) ⟨Nat.le_of_ble_eq_true rfl, Nat.le_of_ble_eq_true rfl⟩ mv_X6_forget lk_X6_38 4 6 (xw_4 (cI := cI) (ad := ad) (cC := cC) (cS := cS)) rfl rfl hl.1 rfl (Nat.le_of_ble_eq_true rfl) dX6_tell_6 rfl (fun H locs I => ?_)
  refine lv_iload_n hx hb dX6_tell_9 rfl (lv_at hl 2 rfl) ?_
  refine lv_iconst (v := 1) hx hb dX6_tell_10 (by decide) ?_
  refine lv_icmp_lt (tgt := 23) hx hb dX6_tell_11 (by decide) (fun c16 => ?_) (fun c16 => ?_)
  · have h := ite_t c16 h
    refine lv_bipush (v := (-3)) hx hb dX6_tell_23 (by decide) ?_
    exact rt_i hq h I dX6_tell_25
  · have h := ite_n c16 h
    refine lv_iload_n hx hb dX6_tell_14 rfl (lv_at hl 2 rfl) ?_
    refine lv_aload_n hx hb dX6_tell_15 rfl (lv_at hl 0 rfl) ?_
    refine gx_4_3 C hK I fl_X6_20 dX6_tell_16 ?_
    refine lx_10 C hK I dX6_tell_19 ?_
    refine lv_icmp_le (tgt := 26) hx hb dX6_tell_20 (by decide) (fun c17 => ?_) (fun c17 => ?_)
    · have h := ite_t c17 h
      refine lv_iconst (v := 0) hx hb dX6_tell_26 (by decide) ?_
      refine lv_istore_n (lv' := [(3, .int 0), (0, .ref (ad 4)), (1, .int x1), (2, .int x2)]) hx hb dX6_tell_27 rfl hl (by decide) rfl (fun ls hl => ?_)
      refine lv_iconst (v := 0) hx hb dX6_tell_28 (by decide) ?_
      refine lv_istore (lv' := [(4, .int 0), (3, .int 0), (0, .ref (ad 4)), (1, .int x1), (2, .int x2)]) hx hb dX6_tell_29 hl (by decide) rfl (fun ls hl => ?_)
      exact J_31 _ _ _ _ _ _ h _ _ _ I (lv_sub hl [2, 3, 4, 1, 0] rfl)
    · have h := ite_n c17 h
      refine lv_bipush (v := (-3)) hx hb dX6_tell_23 (by decide) ?_
      exact rt_i hq h I dX6_tell_25
theorem dX6_hasTwice_0 : decode cX6_hasTwice 0 = .ok (.iconst 0, 1) := by decide +kernel
theorem dX6_hasTwice_1 : decode cX6_hasTwice 1 = .ok (.istore_n 1, 1) := by decide +kernel
theorem dX6_hasTwice_2 : decode cX6_hasTwice 2 = .ok (.iconst 0, 1) := by decide +kernel
theorem dX6_hasTwice_3 : decode cX6_hasTwice 3 = .ok (.istore_n 2, 1) := by decide +kernel
theorem dX6_hasTwice_4 : decode cX6_hasTwice 4 = .ok (.iload_n 2, 1) := by decide +kernel
theorem dX6_hasTwice_5 : decode cX6_hasTwice 5 = .ok (.aload_n 0, 1) := by decide +kernel
theorem dX6_hasTwice_6 : decode cX6_hasTwice 6 = .ok (.getfield 35, 3) := by decide +kernel
theorem dX6_hasTwice_9 : decode cX6_hasTwice 9 = .ok (.if_icmp .ge 41, 3) := by decide +kernel
theorem dX6_hasTwice_12 : decode cX6_hasTwice 12 = .ok (.aload_n 0, 1) := by decide +kernel
theorem dX6_hasTwice_13 : decode cX6_hasTwice 13 = .ok (.getfield 9, 3) := by decide +kernel
theorem dX6_hasTwice_16 : decode cX6_hasTwice 16 = .ok (.iload_n 2, 1) := by decide +kernel
theorem dX6_hasTwice_17 : decode cX6_hasTwice 17 = .ok (.invokestatic 58, 3) := by decide +kernel
theorem dX6_hasTwice_20 : decode cX6_hasTwice 20 = .ok (.istore_n 3, 1) := by decide +kernel
theorem dX6_hasTwice_21 : decode cX6_hasTwice 21 = .ok (.iload_n 3, 1) := by decide +kernel
theorem dX6_hasTwice_22 : decode cX6_hasTwice 22 = .ok (.bipush 6, 2) := by decide +kernel
theorem dX6_hasTwice_24 : decode cX6_hasTwice 24 = .ok (.if_icmp .eq 14, 3) := by decide +kernel
theorem dX6_hasTwice_27 : decode cX6_hasTwice 27 = .ok (.iload_n 1, 1) := by decide +kernel
theorem dX6_hasTwice_28 : decode cX6_hasTwice 28 = .ok (.iload_n 3, 1) := by decide +kernel
theorem dX6_hasTwice_29 : decode cX6_hasTwice 29 = .ok (.ishr, 1) := by decide +kernel
theorem dX6_hasTwice_30 : decode cX6_hasTwice 30 = .ok (.iconst 1, 1) := by decide +kernel
theorem dX6_hasTwice_31 : decode cX6_hasTwice 31 = .ok (.iand, 1) := by decide +kernel
theorem dX6_hasTwice_32 : decode cX6_hasTwice 32 = .ok (.iconst 1, 1) := by decide +kernel
theorem dX6_hasTwice_33 : decode cX6_hasTwice 33 = .ok (.if_icmp .ne 5, 3) := by decide +kernel
theorem dX6_hasTwice_36 : decode cX6_hasTwice 36 = .ok (.iconst 1, 1) := by decide +kernel
theorem dX6_hasTwice_37 : decode cX6_hasTwice 37 = .ok (.ireturn, 1) := by decide +kernel
theorem dX6_hasTwice_38 : decode cX6_hasTwice 38 = .ok (.iload_n 1, 1) := by decide +kernel
theorem dX6_hasTwice_39 : decode cX6_hasTwice 39 = .ok (.iconst 1, 1) := by decide +kernel
theorem dX6_hasTwice_40 : decode cX6_hasTwice 40 = .ok (.iload_n 3, 1) := by decide +kernel
theorem dX6_hasTwice_41 : decode cX6_hasTwice 41 = .ok (.ishl, 1) := by decide +kernel
theorem dX6_hasTwice_42 : decode cX6_hasTwice 42 = .ok (.ior, 1) := by decide +kernel
theorem dX6_hasTwice_43 : decode cX6_hasTwice 43 = .ok (.istore_n 1, 1) := by decide +kernel
theorem dX6_hasTwice_44 : decode cX6_hasTwice 44 = .ok (.iinc 2 1, 3) := by decide +kernel
theorem dX6_hasTwice_47 : decode cX6_hasTwice 47 = .ok (.goto (-43), 3) := by decide +kernel
theorem dX6_hasTwice_50 : decode cX6_hasTwice 50 = .ok (.iconst 0, 1) := by decide +kernel
theorem dX6_hasTwice_51 : decode cX6_hasTwice 51 = .ok (.ireturn, 1) := by decide +kernel
def f_X6_hasTwice_38 (k_4 : St → Int32 → Int32 → Option (Int32 × St)) (S : St) (x1 : Int32) (x2 : Int32) (x3 : Int32) : Option (Int32 × St) :=
  bnd ((x1 ||| ((1 : Int32) <<< (x3 &&& 31))) : Int32) fun v1 =>
  bnd (x2 + 1 : Int32) fun v2 =>
  k_4 S v1 v2
def f_X6_hasTwice_4 (k_4 : St → Int32 → Int32 → Option (Int32 × St)) (S : St) (x1 : Int32) (x2 : Int32) : Option (Int32 × St) :=
  if (S.1 4 4) ≤ x2 then (
    some (0, S)
  ) else (
    obd2 (f_X10_at S 5 x2) fun r4 S4 =>
    if r4 = 6 then (
      f_X6_hasTwice_38 k_4 S4 x1 x2 r4
    ) else (
      if ((x1 >>> (r4 &&& 31)) &&& 1) = 1 then (
        some (1, S4)
      ) else (
        f_X6_hasTwice_38 k_4 S4 x1 x2 r4
      )
    )
  )
def l_X6_hasTwice_4 : Nat → St → Int32 → Int32 → Option (Int32 × St)
  | 0, _, _, _ => none
  | fu + 1, S, x1, x2 => f_X6_hasTwice_4 (l_X6_hasTwice_4 fu) S x1 x2
def f_X6_hasTwice (S : St)  : Option (Int32 × St) :=
  l_X6_hasTwice_4 FU S 0 0
set_option maxHeartbeats 4000000 in
set_option maxRecDepth 100000 in
theorem c_X6_hasTwice {l : Launch} {D : va_G} {cI cC cS : ClassId} {ad adK adV : Nat → Nat} {S S1 : St}  {r : Int32} (h : f_X6_hasTwice S  = some (r, S1)) : Kt l D (xw cI cC cS ad) (KX D (xtys cI cC cS) adK adV) yX6_hasTwice cX6_hasTwice 4 (some .boolean) (1) (21) [.ref (ad 4)] S (some (.int r)) S1 := by
  refine k_entz (by decide +kernel) (Nat.le_of_ble_eq_true rfl) ?_
  intro p e s m args below meth c A Q C hK I hA hq ls hl
  have C : CallFix p m c cX6_hasTwice 4 s args TT RX6 := C
  have hx := C.1
  have hb := C.2.1
  have kx := kx_ok D (xtys cI cC cS) adK adV
  have hl : lv_has ls 4 [(0, .ref (ad 4))] := hl
  have J_38 : ∀ (k_4 : St → Int32 → Int32 → Option (Int32 × St)) (hk_4 : ∀ (S : St) (x1 : Int32) (x2 : Int32), k_4 S x1 x2 = some (r, S1) → ∀ (H : Heap) (locs : List Loc) (ls : Array Slot), Iv D (xw cI cC cS ad) S A s H locs → lv_has ls 4 [(0, .ref (ad 4)), (1, .int x1), (2, .int x2)] → W p l e ({ frames := 1, cells := 0, slots := 0, locals := 21 } : Room) s m args below meth c H locs 0 0 Q (F0 m 4 ls [])) (S : St) (x1 : Int32) (x2 : Int32) (x3 : Int32), f_X6_hasTwice_38 k_4 S x1 x2 x3 = some (r, S1) → ∀ (H : Heap) (locs : List Loc) (ls : Array Slot), Iv D (xw cI cC cS ad) S A s H locs → lv_has ls 4 [(0, .ref (ad 4)), (1, .int x1), (2, .int x2), (3, .int x3)] → W p l e ({ frames := 1, cells := 0, slots := 0, locals := 21 } : Room) s m args below meth c H locs 0 0 Q (F0 m 38 ls []) := by
    intro k_4 hk_4 S x1 x2 x3 h H locs ls I hl
    unfold f_X6_hasTwice_38 at h
    refine lv_iload_n hx hb dX6_hasTwice_38 rfl (lv_at hl 1 rfl) ?_
    refine lv_iconst (v := 1) hx hb dX6_hasTwice_39 (by decide) ?_
    refine lv_iload_n hx hb dX6_hasTwice_40 rfl (lv_at hl 3 rfl) ?_
    refine lv_ishl hx hb dX6_hasTwice_41 ?_
    refine lv_ior hx hb dX6_hasTwice_42 ?_
    refine lv_topi (fun v1 ev1 => ?_)
    have h := bnd_at ev1 h
    clear ev1
    refine lv_istore_n (lv' := [(1, .int v1), (0, .ref (ad 4)), (2, .int x2), (3, .int x3)]) hx hb dX6_hasTwice_43 rfl hl (by decide) rfl (fun ls hl => ?_)
    obtain ⟨v2, ev2⟩ : ∃ y : Int32, y = x2 + 1 := ⟨_, rfl⟩
    have h := bnd_at ev2 h
    refine lv_iinc (v := v2) (lv' := [(2, .int v2), (1, .int v1), (0, .ref (ad 4)), (3, .int x3)]) hx hb dX6_hasTwice_44 hl (k := 2) rfl (by rw [ev2]; rfl) (by decide) rfl (fun ls hl => ?_)
    clear ev2
    refine lv_goto (tgt := 4) hx hb dX6_hasTwice_47 (by decide) ?_
    exact hk_4 _ _ _ h _ _ _ I (lv_sub hl [2, 1, 0] rfl)
  have B_4 : ∀ (k_4 : St → Int32 → Int32 → Option (Int32 × St)) (hk_4 : ∀ (S : St) (x1 : Int32) (x2 : Int32), k_4 S x1 x2 = some (r, S1) → ∀ (H : Heap) (locs : List Loc) (ls : Array Slot), Iv D (xw cI cC cS ad) S A s H locs → lv_has ls 4 [(0, .ref (ad 4)), (1, .int x1), (2, .int x2)] → W p l e ({ frames := 1, cells := 0, slots := 0, locals := 21 } : Room) s m args below meth c H locs 0 0 Q (F0 m 4 ls [])) (S : St) (x1 : Int32) (x2 : Int32), f_X6_hasTwice_4 k_4 S x1 x2 = some (r, S1) → ∀ (H : Heap) (locs : List Loc) (ls : Array Slot), Iv D (xw cI cC cS ad) S A s H locs → lv_has ls 4 [(0, .ref (ad 4)), (1, .int x1), (2, .int x2)] → W p l e ({ frames := 1, cells := 0, slots := 0, locals := 21 } : Room) s m args below meth c H locs 0 0 Q (F0 m 4 ls []) := by
    intro k_4 hk_4 S x1 x2 h H locs ls I hl
    unfold f_X6_hasTwice_4 at h
    refine lv_iload_n hx hb dX6_hasTwice_4 rfl (lv_at hl 2 rfl) ?_
    refine lv_aload_n hx hb dX6_hasTwice_5 rfl (lv_at hl 0 rfl) ?_
    refine gx_4_4 C hK I fl_X6_35 dX6_hasTwice_6 ?_
    refine lv_icmp_ge (tgt := 50) hx hb dX6_hasTwice_9 (by decide) (fun c3 => ?_) (fun c3 => ?_)
    · have h := ite_t c3 h
      refine lv_iconst (v := 0) hx hb dX6_hasTwice_50 (by decide) ?_
      exact rt_z (Or.inl rfl) hq h I dX6_hasTwice_51
    · have h := ite_n c3 h
      refine lv_aload_n hx hb dX6_hasTwice_12 rfl (lv_at hl 0 rfl) ?_
      refine gx_4_1 C hK I fl_X6_9 dX6_hasTwice_13 ?_
      refine lv_iload_n hx hb dX6_hasTwice_16 rfl (lv_at hl 2 rfl) ?_
      obtain ⟨r4, S4, e4, h⟩ := obd2_ex h
      refine k_SN (As := [.ref (ad 16), .int x2]) (rest := []) (st1 := [.int r4]) C kx hK I hA (c_X10_at e4) ⟨Nat.le_of_ble_eq_true rfl, Nat.le_of_ble_eq_true rfl⟩ ms_X10_at lk_X6_58 rfl hl.1 rfl (Nat.le_of_ble_eq_true rfl) dX6_hasTwice_17 rfl (fun H locs I => ?_)
      refine lv_istore_n (lv' := [(3, .int r4), (0, .ref (ad 4)), (1, .int x1), (2, .int x2)]) hx hb dX6_hasTwice_20 rfl hl (by decide) rfl (fun ls hl => ?_)
      refine lv_iload_n hx hb dX6_hasTwice_21 rfl (lv_at hl 0 rfl) ?_
      refine lv_bipush (v := 6) hx hb dX6_hasTwice_22 (by decide) ?_
      refine lv_icmp_eq (tgt := 38) hx hb dX6_hasTwice_24 (by decide) (fun c5 => ?_) (fun c5 => ?_)
      · have h := ite_t c5 h
        exact J_38 k_4 hk_4 _ _ _ _ h _ _ _ I (lv_sub hl [1, 2, 3, 0] rfl)
      · have h := ite_n c5 h
        refine lv_iload_n hx hb dX6_hasTwice_27 rfl (lv_at hl 2 rfl) ?_
        refine lv_iload_n hx hb dX6_hasTwice_28 rfl (lv_at hl 0 rfl) ?_
        refine lv_ishr hx hb dX6_hasTwice_29 ?_
        refine lv_iconst (v := 1) hx hb dX6_hasTwice_30 (by decide) ?_
        refine lv_iand hx hb dX6_hasTwice_31 ?_
        refine lv_iconst (v := 1) hx hb dX6_hasTwice_32 (by decide) ?_
        refine lv_icmp_ne (tgt := 38) hx hb dX6_hasTwice_33 (by decide) (fun c6 => ?_) (fun c6 => ?_)
        · have h := ite_n c6 h
          exact J_38 k_4 hk_4 _ _ _ _ h _ _ _ I (lv_sub hl [1, 2, 3, 0] rfl)
        · have h := ite_t c6 h
          refine lv_iconst (v := 1) hx hb dX6_hasTwice_36 (by decide) ?_
          exact rt_z (Or.inr rfl) hq h I dX6_hasTwice_37
  have J_4 : ∀ (fu : Nat) (S : St) (x1 : Int32) (x2 : Int32), l_X6_hasTwice_4  fu S x1 x2 = some (r, S1) → ∀ (H : Heap) (locs : List Loc) (ls : Array Slot), Iv D (xw cI cC cS ad) S A s H locs → lv_has ls 4 [(0, .ref (ad 4)), (1, .int x1), (2, .int x2)] → W p l e ({ frames := 1, cells := 0, slots := 0, locals := 21 } : Room) s m args below meth c H locs 0 0 Q (F0 m 4 ls []) := by
    intro fu
    induction fu with
    | zero => intro S x1 x2 h; cases h
    | succ fu ih => intro S x1 x2 h; exact B_4 (l_X6_hasTwice_4 fu) ih S x1 x2 h
  unfold f_X6_hasTwice at h
  refine lv_iconst (v := 0) hx hb dX6_hasTwice_0 (by decide) ?_
  refine lv_istore_n (lv' := [(1, .int 0), (0, .ref (ad 4))]) hx hb dX6_hasTwice_1 rfl hl (by decide) rfl (fun ls hl => ?_)
  refine lv_iconst (v := 0) hx hb dX6_hasTwice_2 (by decide) ?_
  refine lv_istore_n (lv' := [(2, .int 0), (1, .int 0), (0, .ref (ad 4))]) hx hb dX6_hasTwice_3 rfl hl (by decide) rfl (fun ls hl => ?_)
  exact J_4 _ _ _ _ h _ _ _ I (lv_sub hl [2, 1, 0] rfl)
theorem dX6_has_0 : decode cX6_has 0 = .ok (.iconst 0, 1) := by decide +kernel
theorem dX6_has_1 : decode cX6_has 1 = .ok (.istore_n 2, 1) := by decide +kernel
theorem dX6_has_2 : decode cX6_has 2 = .ok (.iload_n 2, 1) := by decide +kernel
theorem dX6_has_3 : decode cX6_has 3 = .ok (.aload_n 0, 1) := by decide +kernel
theorem dX6_has_4 : decode cX6_has 4 = .ok (.getfield 35, 3) := by decide +kernel
theorem dX6_has_7 : decode cX6_has 7 = .ok (.if_icmp .ge 23, 3) := by decide +kernel
theorem dX6_has_10 : decode cX6_has 10 = .ok (.aload_n 0, 1) := by decide +kernel
theorem dX6_has_11 : decode cX6_has 11 = .ok (.getfield 9, 3) := by decide +kernel
theorem dX6_has_14 : decode cX6_has 14 = .ok (.iload_n 2, 1) := by decide +kernel
theorem dX6_has_15 : decode cX6_has 15 = .ok (.invokestatic 58, 3) := by decide +kernel
theorem dX6_has_18 : decode cX6_has 18 = .ok (.iload_n 1, 1) := by decide +kernel
theorem dX6_has_19 : decode cX6_has 19 = .ok (.if_icmp .ne 5, 3) := by decide +kernel
theorem dX6_has_22 : decode cX6_has 22 = .ok (.iconst 1, 1) := by decide +kernel
theorem dX6_has_23 : decode cX6_has 23 = .ok (.ireturn, 1) := by decide +kernel
theorem dX6_has_24 : decode cX6_has 24 = .ok (.iinc 2 1, 3) := by decide +kernel
theorem dX6_has_27 : decode cX6_has 27 = .ok (.goto (-25), 3) := by decide +kernel
theorem dX6_has_30 : decode cX6_has 30 = .ok (.iconst 0, 1) := by decide +kernel
theorem dX6_has_31 : decode cX6_has 31 = .ok (.ireturn, 1) := by decide +kernel
def f_X6_has_2 (k_2 : St → Int32 → Int32 → Option (Int32 × St)) (S : St) (x1 : Int32) (x2 : Int32) : Option (Int32 × St) :=
  if (S.1 4 4) ≤ x2 then (
    some (0, S)
  ) else (
    obd2 (f_X10_at S 5 x2) fun r2 S2 =>
    if r2 = x1 then (
      some (1, S2)
    ) else (
      bnd (x2 + 1 : Int32) fun v4 =>
      k_2 S2 x1 v4
    )
  )
def l_X6_has_2 : Nat → St → Int32 → Int32 → Option (Int32 × St)
  | 0, _, _, _ => none
  | fu + 1, S, x1, x2 => f_X6_has_2 (l_X6_has_2 fu) S x1 x2
def f_X6_has (S : St) (x1 : Int32) : Option (Int32 × St) :=
  l_X6_has_2 FU S x1 0
set_option maxHeartbeats 4000000 in
set_option maxRecDepth 100000 in
theorem c_X6_has {l : Launch} {D : va_G} {cI cC cS : ClassId} {ad adK adV : Nat → Nat} {S S1 : St} {x1 : Int32} {r : Int32} (h : f_X6_has S x1 = some (r, S1)) : Kt l D (xw cI cC cS ad) (KX D (xtys cI cC cS) adK adV) yX6_has cX6_has 3 (some .boolean) (1) (21) [.ref (ad 4), .int x1] S (some (.int r)) S1 := by
  refine k_entz (by decide +kernel) (Nat.le_of_ble_eq_true rfl) ?_
  intro p e s m args below meth c A Q C hK I hA hq ls hl
  have C : CallFix p m c cX6_has 3 s args TT RX6 := C
  have hx := C.1
  have hb := C.2.1
  have kx := kx_ok D (xtys cI cC cS) adK adV
  have hl : lv_has ls 3 [(0, .ref (ad 4)), (1, .int x1)] := hl
  have B_2 : ∀ (k_2 : St → Int32 → Int32 → Option (Int32 × St)) (hk_2 : ∀ (S : St) (x1 : Int32) (x2 : Int32), k_2 S x1 x2 = some (r, S1) → ∀ (H : Heap) (locs : List Loc) (ls : Array Slot), Iv D (xw cI cC cS ad) S A s H locs → lv_has ls 3 [(0, .ref (ad 4)), (1, .int x1), (2, .int x2)] → W p l e ({ frames := 1, cells := 0, slots := 0, locals := 21 } : Room) s m args below meth c H locs 0 0 Q (F0 m 2 ls [])) (S : St) (x1 : Int32) (x2 : Int32), f_X6_has_2 k_2 S x1 x2 = some (r, S1) → ∀ (H : Heap) (locs : List Loc) (ls : Array Slot), Iv D (xw cI cC cS ad) S A s H locs → lv_has ls 3 [(0, .ref (ad 4)), (1, .int x1), (2, .int x2)] → W p l e ({ frames := 1, cells := 0, slots := 0, locals := 21 } : Room) s m args below meth c H locs 0 0 Q (F0 m 2 ls []) := by
    intro k_2 hk_2 S x1 x2 h H locs ls I hl
    unfold f_X6_has_2 at h
    refine lv_iload_n hx hb dX6_has_2 rfl (lv_at hl 2 rfl) ?_
    refine lv_aload_n hx hb dX6_has_3 rfl (lv_at hl 0 rfl) ?_
    refine gx_4_4 C hK I fl_X6_35 dX6_has_4 ?_
    refine lv_icmp_ge (tgt := 30) hx hb dX6_has_7 (by decide) (fun c1 => ?_) (fun c1 => ?_)
    · have h := ite_t c1 h
      refine lv_iconst (v := 0) hx hb dX6_has_30 (by decide) ?_
      exact rt_z (Or.inl rfl) hq h I dX6_has_31
    · have h := ite_n c1 h
      refine lv_aload_n hx hb dX6_has_10 rfl (lv_at hl 0 rfl) ?_
      refine gx_4_1 C hK I fl_X6_9 dX6_has_11 ?_
      refine lv_iload_n hx hb dX6_has_14 rfl (lv_at hl 2 rfl) ?_
      obtain ⟨r2, S2, e2, h⟩ := obd2_ex h
      refine k_SN (As := [.ref (ad 16), .int x2]) (rest := []) (st1 := [.int r2]) C kx hK I hA (c_X10_at e2) ⟨Nat.le_of_ble_eq_true rfl, Nat.le_of_ble_eq_true rfl⟩ ms_X10_at lk_X6_58 rfl hl.1 rfl (Nat.le_of_ble_eq_true rfl) dX6_has_15 rfl (fun H locs I => ?_)
      refine lv_iload_n hx hb dX6_has_18 rfl (lv_at hl 1 rfl) ?_
      refine lv_icmp_ne (tgt := 24) hx hb dX6_has_19 (by decide) (fun c3 => ?_) (fun c3 => ?_)
      · have h := ite_n c3 h
        obtain ⟨v4, ev4⟩ : ∃ y : Int32, y = x2 + 1 := ⟨_, rfl⟩
        have h := bnd_at ev4 h
        refine lv_iinc (v := v4) (lv' := [(2, .int v4), (0, .ref (ad 4)), (1, .int x1)]) hx hb dX6_has_24 hl (k := 2) rfl (by rw [ev4]; rfl) (by decide) rfl (fun ls hl => ?_)
        clear ev4
        refine lv_goto (tgt := 2) hx hb dX6_has_27 (by decide) ?_
        exact hk_2 _ _ _ h _ _ _ I (lv_sub hl [1, 2, 0] rfl)
      · have h := ite_t c3 h
        refine lv_iconst (v := 1) hx hb dX6_has_22 (by decide) ?_
        exact rt_z (Or.inr rfl) hq h I dX6_has_23
  have J_2 : ∀ (fu : Nat) (S : St) (x1 : Int32) (x2 : Int32), l_X6_has_2  fu S x1 x2 = some (r, S1) → ∀ (H : Heap) (locs : List Loc) (ls : Array Slot), Iv D (xw cI cC cS ad) S A s H locs → lv_has ls 3 [(0, .ref (ad 4)), (1, .int x1), (2, .int x2)] → W p l e ({ frames := 1, cells := 0, slots := 0, locals := 21 } : Room) s m args below meth c H locs 0 0 Q (F0 m 2 ls []) := by
    intro fu
    induction fu with
    | zero => intro S x1 x2 h; cases h
    | succ fu ih => intro S x1 x2 h; exact B_2 (l_X6_has_2 fu) ih S x1 x2 h
  unfold f_X6_has at h
  refine lv_iconst (v := 0) hx hb dX6_has_0 (by decide) ?_
  refine lv_istore_n (lv' := [(2, .int 0), (0, .ref (ad 4)), (1, .int x1)]) hx hb dX6_has_1 rfl hl (by decide) rfl (fun ls hl => ?_)
  exact J_2 _ _ _ _ h _ _ _ I (lv_sub hl [1, 2, 0] rfl)
theorem dX6_stopAt_0 : decode cX6_stopAt 0 = .ok (.aload_n 0, 1) := by decide +kernel
theorem dX6_stopAt_1 : decode cX6_stopAt 1 = .ok (.getfield 9, 3) := by decide +kernel
theorem dX6_stopAt_4 : decode cX6_stopAt 4 = .ok (.iload_n 1, 1) := by decide +kernel
theorem dX6_stopAt_5 : decode cX6_stopAt 5 = .ok (.invokestatic 58, 3) := by decide +kernel
theorem dX6_stopAt_8 : decode cX6_stopAt 8 = .ok (.ireturn, 1) := by decide +kernel
def f_X6_stopAt (S : St) (x1 : Int32) : Option (Int32 × St) :=
  obd2 (f_X10_at S 5 x1) fun r1 S1 =>
  some (r1, S1)
set_option maxHeartbeats 4000000 in
set_option maxRecDepth 100000 in
theorem c_X6_stopAt {l : Launch} {D : va_G} {cI cC cS : ClassId} {ad adK adV : Nat → Nat} {S S1 : St} {x1 : Int32} {r : Int32} (h : f_X6_stopAt S x1 = some (r, S1)) : Kt l D (xw cI cC cS ad) (KX D (xtys cI cC cS) adK adV) yX6_stopAt cX6_stopAt 2 (some .int) (1) (21) [.ref (ad 4), .int x1] S (some (.int r)) S1 := by
  refine k_ent (ins := .ireturn) (st := [.int r]) (by decide +kernel) (Nat.le_of_ble_eq_true rfl) ret_i ?_
  intro p e s m args below meth c A Q C hK I hA hq ls hl
  have C : CallFix p m c cX6_stopAt 2 s args TT RX6 := C
  have hx := C.1
  have hb := C.2.1
  have kx := kx_ok D (xtys cI cC cS) adK adV
  have hl : lv_has ls 2 [(0, .ref (ad 4)), (1, .int x1)] := hl
  unfold f_X6_stopAt at h
  refine lv_aload_n hx hb dX6_stopAt_0 rfl (lv_at hl 0 rfl) ?_
  refine gx_4_1 C hK I fl_X6_9 dX6_stopAt_1 ?_
  refine lv_iload_n hx hb dX6_stopAt_4 rfl (lv_at hl 1 rfl) ?_
  obtain ⟨r1, S1, e1, h⟩ := obd2_ex h
  refine k_SN (As := [.ref (ad 16), .int x1]) (rest := []) (st1 := [.int r1]) C kx hK I hA (c_X10_at e1) ⟨Nat.le_of_ble_eq_true rfl, Nat.le_of_ble_eq_true rfl⟩ ms_X10_at lk_X6_58 rfl hl.1 rfl (Nat.le_of_ble_eq_true rfl) dX6_stopAt_5 rfl (fun H locs I => ?_)
  exact rt_i hq h I dX6_stopAt_8
