theorem fl_X10_10 : Cond.fieldLink RX10 10 RX10 "text" "LCarryUp$Text;" ∈ TT := tt_of 384 (by decide +kernel) rfl
theorem lk_X10_73 : Cond.methodLink RX10 73 yX8_add ∈ TT := tt_of 413 (by decide +kernel) rfl
theorem mv_X8_add : MV yX8_add cX8_add 5 (some .int) 2 := ⟨tt_of 416 (by decide +kernel) rfl, tt_of 414 (by decide +kernel) rfl, tt_of 415 (by decide +kernel) rfl, tt_of 66 (by decide +kernel) rfl, ⟨by decide +kernel, by decide +kernel, by decide +kernel⟩⟩
theorem dX10_write_0 : decode cX10_write 0 = .ok (.aload_n 0, 1) := by decide +kernel
theorem dX10_write_1 : decode cX10_write 1 = .ok (.getfield 10, 3) := by decide +kernel
theorem dX10_write_4 : decode cX10_write 4 = .ok (.lload_n 1, 1) := by decide +kernel
theorem dX10_write_5 : decode cX10_write 5 = .ok (.iload_n 3, 1) := by decide +kernel
theorem dX10_write_6 : decode cX10_write 6 = .ok (.invokevirtual 73, 3) := by decide +kernel
theorem dX10_write_9 : decode cX10_write 9 = .ok (.ireturn, 1) := by decide +kernel
def f_X10_write (S : St) (x1 : Int64) (x3 : Int32) : Option (Int32 × St) :=
  obd2 (f_X8_add S x1 x3) fun r1 S1 =>
  some (r1, S1)
set_option maxHeartbeats 4000000 in
set_option maxRecDepth 100000 in
theorem c_X10_write {l : Launch} {D : va_G} {cI cC cS : ClassId} {ad adK adV : Nat → Nat} {S S1 : St} {x1 : Int64} {x3 : Int32} {r : Int32} (h : f_X10_write S x1 x3 = some (r, S1)) : Kt l D (xw cI cC cS ad) (KX D (xtys cI cC cS) adK adV) yX10_write cX10_write 4 (some .int) (2) (46) [.ref (ad 0), .long x1, .int x3] S (some (.int r)) S1 := by
  refine k_ent (ins := .ireturn) (st := [.int r]) (by decide +kernel) (Nat.le_of_ble_eq_true rfl) ret_i ?_
  intro p e s m args below meth c A Q C hK I hA hq ls hl
  have C : CallFix p m c cX10_write 4 s args TT RX10 := C
  have hx := C.1
  have hb := C.2.1
  have kx := kx_ok D (xtys cI cC cS) adK adV
  have hl : lv_has ls 4 [(0, .ref (ad 0)), (1, .long x1), (3, .int x3)] := hl
  unfold f_X10_write at h
  refine lv_aload_n hx hb dX10_write_0 rfl (lv_at hl 0 rfl) ?_
  refine gx_0_0 C hK I fl_X10_10 dX10_write_1 ?_
  refine lv_lload_n hx hb dX10_write_4 rfl (lv_at hl 1 rfl) ?_
  refine lv_iload_n hx hb dX10_write_5 rfl (lv_at hl 2 rfl) ?_
  obtain ⟨r1, S1, e1, h⟩ := obd2_ex h
  refine k_V (As := [.long x1, .int x3]) (rest := []) (st1 := [.int r1]) C kx hK I hA (c_X8_add e1) ⟨Nat.le_of_ble_eq_true rfl, Nat.le_of_ble_eq_true rfl⟩ mv_X8_add lk_X10_73 1 8 (xw_1 (cI := cI) (ad := ad) (cC := cC) (cS := cS)) rfl rfl hl.1 rfl (Nat.le_of_ble_eq_true rfl) dX10_write_6 rfl (fun H locs I => ?_)
  exact rt_i hq h I dX10_write_9
theorem lk_X10_77 : Cond.methodLink RX10 77 yX8_length ∈ TT := tt_of 428 (by decide +kernel) rfl
theorem mv_X8_length : MV yX8_length cX8_length 1 (some .int) 0 := ⟨tt_of 431 (by decide +kernel) rfl, tt_of 429 (by decide +kernel) rfl, tt_of 430 (by decide +kernel) rfl, tt_of 66 (by decide +kernel) rfl, ⟨by decide +kernel, by decide +kernel, by decide +kernel⟩⟩
theorem lk_X10_81 : Cond.methodLink RX10 81 yX8_clear ∈ TT := tt_of 432 (by decide +kernel) rfl
theorem mv_X8_clear : MV yX8_clear cX8_clear 1 none 0 := ⟨tt_of 435 (by decide +kernel) rfl, tt_of 433 (by decide +kernel) rfl, tt_of 434 (by decide +kernel) rfl, tt_of 66 (by decide +kernel) rfl, ⟨by decide +kernel, by decide +kernel, by decide +kernel⟩⟩
theorem dX10_erase_0 : decode cX10_erase 0 = .ok (.aload_n 0, 1) := by decide +kernel
theorem dX10_erase_1 : decode cX10_erase 1 = .ok (.getfield 10, 3) := by decide +kernel
theorem dX10_erase_4 : decode cX10_erase 4 = .ok (.invokevirtual 77, 3) := by decide +kernel
theorem dX10_erase_7 : decode cX10_erase 7 = .ok (.istore_n 1, 1) := by decide +kernel
theorem dX10_erase_8 : decode cX10_erase 8 = .ok (.aload_n 0, 1) := by decide +kernel
theorem dX10_erase_9 : decode cX10_erase 9 = .ok (.getfield 10, 3) := by decide +kernel
theorem dX10_erase_12 : decode cX10_erase 12 = .ok (.invokevirtual 81, 3) := by decide +kernel
theorem dX10_erase_15 : decode cX10_erase 15 = .ok (.iload_n 1, 1) := by decide +kernel
theorem dX10_erase_16 : decode cX10_erase 16 = .ok (.ireturn, 1) := by decide +kernel
def f_X10_erase (S : St)  : Option (Int32 × St) :=
  obd2 (f_X8_length S ) fun r1 S1 =>
  obd (f_X8_clear S1 ) fun S2 =>
  some (r1, S2)
set_option maxHeartbeats 4000000 in
set_option maxRecDepth 100000 in
theorem c_X10_erase {l : Launch} {D : va_G} {cI cC cS : ClassId} {ad adK adV : Nat → Nat} {S S1 : St}  {r : Int32} (h : f_X10_erase S  = some (r, S1)) : Kt l D (xw cI cC cS ad) (KX D (xtys cI cC cS) adK adV) yX10_erase cX10_erase 2 (some .int) (1) (20) [.ref (ad 0)] S (some (.int r)) S1 := by
  refine k_ent (ins := .ireturn) (st := [.int r]) (by decide +kernel) (Nat.le_of_ble_eq_true rfl) ret_i ?_
  intro p e s m args below meth c A Q C hK I hA hq ls hl
  have C : CallFix p m c cX10_erase 2 s args TT RX10 := C
  have hx := C.1
  have hb := C.2.1
  have kx := kx_ok D (xtys cI cC cS) adK adV
  have hl : lv_has ls 2 [(0, .ref (ad 0))] := hl
  unfold f_X10_erase at h
  refine lv_aload_n hx hb dX10_erase_0 rfl (lv_at hl 0 rfl) ?_
  refine gx_0_0 C hK I fl_X10_10 dX10_erase_1 ?_
  obtain ⟨r1, S1, e1, h⟩ := obd2_ex h
  refine k_V (As := []) (rest := []) (st1 := [.int r1]) C kx hK I hA (c_X8_length e1) ⟨Nat.le_of_ble_eq_true rfl, Nat.le_of_ble_eq_true rfl⟩ mv_X8_length lk_X10_77 1 8 (xw_1 (cI := cI) (ad := ad) (cC := cC) (cS := cS)) rfl rfl hl.1 rfl (Nat.le_of_ble_eq_true rfl) dX10_erase_4 rfl (fun H locs I => ?_)
  refine lv_istore_n (lv' := [(1, .int r1), (0, .ref (ad 0))]) hx hb dX10_erase_7 rfl hl (by decide) rfl (fun ls hl => ?_)
  refine lv_aload_n hx hb dX10_erase_8 rfl (lv_at hl 1 rfl) ?_
  refine gx_0_0 C hK I fl_X10_10 dX10_erase_9 ?_
  obtain ⟨S2, e2, h⟩ := obd_ex h
  refine k_V (As := []) (rest := []) (st1 := []) C kx hK I hA (c_X8_clear e2) ⟨Nat.le_of_ble_eq_true rfl, Nat.le_of_ble_eq_true rfl⟩ mv_X8_clear lk_X10_81 1 8 (xw_1 (cI := cI) (ad := ad) (cC := cC) (cS := cS)) rfl rfl hl.1 rfl (Nat.le_of_ble_eq_true rfl) dX10_erase_12 rfl (fun H locs I => ?_)
  refine lv_iload_n hx hb dX10_erase_15 rfl (lv_at hl 0 rfl) ?_
  exact rt_i hq h I dX10_erase_16
theorem fl_X10_28 : Cond.fieldLink RX10 28 RX10 "plan" "LCarryUp$Plan;" ∈ TT := tt_of 386 (by decide +kernel) rfl
theorem lk_X10_98 : Cond.methodLink RX10 98 yX4_weight ∈ TT := tt_of 636 (by decide +kernel) rfl
theorem mv_X4_weight : MV yX4_weight cX4_weight 2 (some .int) 1 := ⟨tt_of 639 (by decide +kernel) rfl, tt_of 637 (by decide +kernel) rfl, tt_of 638 (by decide +kernel) rfl, tt_of 68 (by decide +kernel) rfl, ⟨by decide +kernel, by decide +kernel, by decide +kernel⟩⟩
theorem lk_X10_102 : Cond.methodLink RX10 102 yX4_price ∈ TT := tt_of 641 (by decide +kernel) rfl
theorem mv_X4_price : MV yX4_price cX4_price 2 (some .int) 1 := ⟨tt_of 644 (by decide +kernel) rfl, tt_of 642 (by decide +kernel) rfl, tt_of 643 (by decide +kernel) rfl, tt_of 68 (by decide +kernel) rfl, ⟨by decide +kernel, by decide +kernel, by decide +kernel⟩⟩
theorem lk_X10_105 : Cond.methodLink RX10 105 yX4_tools ∈ TT := tt_of 645 (by decide +kernel) rfl
theorem dX10_thing_0 : decode cX10_thing 0 = .ok (.iload_n 1, 1) := by decide +kernel
theorem dX10_thing_1 : decode cX10_thing 1 = .ok (.iconst 0, 1) := by decide +kernel
theorem dX10_thing_2 : decode cX10_thing 2 = .ok (.bipush 7, 2) := by decide +kernel
theorem dX10_thing_4 : decode cX10_thing 4 = .ok (.invokestatic 94, 3) := by decide +kernel
theorem dX10_thing_7 : decode cX10_thing 7 = .ok (.ifCond .ne 6, 3) := by decide +kernel
theorem dX10_thing_10 : decode cX10_thing 10 = .ok (.bipush (-2), 2) := by decide +kernel
theorem dX10_thing_12 : decode cX10_thing 12 = .ok (.ireturn, 1) := by decide +kernel
theorem dX10_thing_13 : decode cX10_thing 13 = .ok (.iload_n 2, 1) := by decide +kernel
theorem dX10_thing_14 : decode cX10_thing 14 = .ok (.tableswitch 56 0 2 #[26, 35, 44], 26) := by decide +kernel
theorem dX10_thing_40 : decode cX10_thing 40 = .ok (.aload_n 0, 1) := by decide +kernel
theorem dX10_thing_41 : decode cX10_thing 41 = .ok (.getfield 28, 3) := by decide +kernel
theorem dX10_thing_44 : decode cX10_thing 44 = .ok (.iload_n 1, 1) := by decide +kernel
theorem dX10_thing_45 : decode cX10_thing 45 = .ok (.invokevirtual 98, 3) := by decide +kernel
theorem dX10_thing_48 : decode cX10_thing 48 = .ok (.ireturn, 1) := by decide +kernel
theorem dX10_thing_49 : decode cX10_thing 49 = .ok (.aload_n 0, 1) := by decide +kernel
theorem dX10_thing_50 : decode cX10_thing 50 = .ok (.getfield 28, 3) := by decide +kernel
theorem dX10_thing_53 : decode cX10_thing 53 = .ok (.iload_n 1, 1) := by decide +kernel
theorem dX10_thing_54 : decode cX10_thing 54 = .ok (.invokevirtual 102, 3) := by decide +kernel
theorem dX10_thing_57 : decode cX10_thing 57 = .ok (.ireturn, 1) := by decide +kernel
theorem dX10_thing_58 : decode cX10_thing 58 = .ok (.aload_n 0, 1) := by decide +kernel
theorem dX10_thing_59 : decode cX10_thing 59 = .ok (.getfield 28, 3) := by decide +kernel
theorem dX10_thing_62 : decode cX10_thing 62 = .ok (.invokevirtual 105, 3) := by decide +kernel
theorem dX10_thing_65 : decode cX10_thing 65 = .ok (.iload_n 1, 1) := by decide +kernel
theorem dX10_thing_66 : decode cX10_thing 66 = .ok (.ishr, 1) := by decide +kernel
theorem dX10_thing_67 : decode cX10_thing 67 = .ok (.iconst 1, 1) := by decide +kernel
theorem dX10_thing_68 : decode cX10_thing 68 = .ok (.iand, 1) := by decide +kernel
theorem dX10_thing_69 : decode cX10_thing 69 = .ok (.ireturn, 1) := by decide +kernel
theorem dX10_thing_70 : decode cX10_thing 70 = .ok (.bipush (-3), 2) := by decide +kernel
theorem dX10_thing_72 : decode cX10_thing 72 = .ok (.ireturn, 1) := by decide +kernel
def f_X10_thing (S : St) (x1 : Int32) (x2 : Int32) : Option (Int32 × St) :=
  obd2 (f_X10_within S x1 0 7) fun r1 S1 =>
  if r1 = 0 then (
    some ((-2), S1)
  ) else (
    if x2 = 0 then (
      obd2 (f_X4_weight S1 x1) fun r4 S4 =>
      some (r4, S4)
    ) else (
      if x2 = 1 then (
        obd2 (f_X4_price S1 x1) fun r6 S6 =>
        some (r6, S6)
      ) else (
        if x2 = 2 then (
          obd2 (f_X4_tools S1 ) fun r8 S8 =>
          some (((r8 >>> (x1 &&& 31)) &&& 1), S8)
        ) else (
          some ((-3), S1)
    )))
  )
set_option maxHeartbeats 4000000 in
set_option maxRecDepth 100000 in
theorem c_X10_thing {l : Launch} {D : va_G} {cI cC cS : ClassId} {ad adK adV : Nat → Nat} {S S1 : St} {x1 : Int32} {x2 : Int32} {r : Int32} (h : f_X10_thing S x1 x2 = some (r, S1)) : Kt l D (xw cI cC cS ad) (KX D (xtys cI cC cS) adK adV) yX10_thing cX10_thing 3 (some .int) (2) (42) [.ref (ad 0), .int x1, .int x2] S (some (.int r)) S1 := by
  refine k_ent (ins := .ireturn) (st := [.int r]) (by decide +kernel) (Nat.le_of_ble_eq_true rfl) ret_i ?_
  intro p e s m args below meth c A Q C hK I hA hq ls hl
  have C : CallFix p m c cX10_thing 3 s args TT RX10 := C
  have hx := C.1
  have hb := C.2.1
  have kx := kx_ok D (xtys cI cC cS) adK adV
  have hl : lv_has ls 3 [(0, .ref (ad 0)), (1, .int x1), (2, .int x2)] := hl
  unfold f_X10_thing at h
  refine lv_iload_n hx hb dX10_thing_0 rfl (lv_at hl 1 rfl) ?_
  refine lv_iconst (v := 0) hx hb dX10_thing_1 (by decide) ?_
  refine lv_bipush (v := 7) hx hb dX10_thing_2 (by decide) ?_
  obtain ⟨r1, S1, e1, h⟩ := obd2_ex h
  refine k_S (As := [.int x1, .int 0, .int 7]) (rest := []) (st1 := [.int r1]) C kx hK I hA (c_X10_within e1) ⟨Nat.le_of_ble_eq_true rfl, Nat.le_of_ble_eq_true rfl⟩ ms_X10_within lk_X10_94 rfl hl.1 rfl (Nat.le_of_ble_eq_true rfl) dX10_thing_4 rfl (fun H locs I => ?_)
  refine lv_if_ne (tgt := 13) hx hb dX10_thing_7 (by decide) (fun c2 => ?_) (fun c2 => ?_)
  · have h := ite_n c2 h
    refine lv_iload_n hx hb dX10_thing_13 rfl (lv_at hl 2 rfl) ?_
    rcases Decidable.em (x2 = 0) with c3 | c3
    · have h := ite_t c3 h
      rw [c3]
      refine lv_tableIn (x := 0) (off := 26) (tgt := 40) hx hb dX10_thing_14 (by decide) (by decide) (by decide) (by decide) ?_
      refine lv_aload_n hx hb dX10_thing_40 rfl (lv_at hl 0 rfl) ?_
      refine gx_0_2 C hK I fl_X10_28 dX10_thing_41 ?_
      refine lv_iload_n hx hb dX10_thing_44 rfl (lv_at hl 1 rfl) ?_
      obtain ⟨r4, S4, e4, h⟩ := obd2_ex h
      refine k_V (As := [.int x1]) (rest := []) (st1 := [.int r4]) C kx hK I hA (c_X4_weight e4) ⟨Nat.le_of_ble_eq_true rfl, Nat.le_of_ble_eq_true rfl⟩ mv_X4_weight lk_X10_98 3 4 (xw_3 (cI := cI) (ad := ad) (cC := cC) (cS := cS)) rfl rfl hl.1 rfl (Nat.le_of_ble_eq_true rfl) dX10_thing_45 rfl (fun H locs I => ?_)
      exact rt_i hq h I dX10_thing_48
    · have h := ite_n c3 h
      rcases Decidable.em (x2 = 1) with c5 | c5
      · have h := ite_t c5 h
        rw [c5]
        refine lv_tableIn (x := 1) (off := 35) (tgt := 49) hx hb dX10_thing_14 (by decide) (by decide) (by decide) (by decide) ?_
        refine lv_aload_n hx hb dX10_thing_49 rfl (lv_at hl 0 rfl) ?_
        refine gx_0_2 C hK I fl_X10_28 dX10_thing_50 ?_
        refine lv_iload_n hx hb dX10_thing_53 rfl (lv_at hl 1 rfl) ?_
        obtain ⟨r6, S6, e6, h⟩ := obd2_ex h
        refine k_V (As := [.int x1]) (rest := []) (st1 := [.int r6]) C kx hK I hA (c_X4_price e6) ⟨Nat.le_of_ble_eq_true rfl, Nat.le_of_ble_eq_true rfl⟩ mv_X4_price lk_X10_102 3 4 (xw_3 (cI := cI) (ad := ad) (cC := cC) (cS := cS)) rfl rfl hl.1 rfl (Nat.le_of_ble_eq_true rfl) dX10_thing_54 rfl (fun H locs I => ?_)
        exact rt_i hq h I dX10_thing_57
      · have h := ite_n c5 h
        rcases Decidable.em (x2 = 2) with c7 | c7
        · have h := ite_t c7 h
          rw [c7]
          refine lv_tableIn (x := 2) (off := 44) (tgt := 58) hx hb dX10_thing_14 (by decide) (by decide) (by decide) (by decide) ?_
          refine lv_aload_n hx hb dX10_thing_58 rfl (lv_at hl 0 rfl) ?_
          refine gx_0_2 C hK I fl_X10_28 dX10_thing_59 ?_
          obtain ⟨r8, S8, e8, h⟩ := obd2_ex h
          refine k_V (As := []) (rest := []) (st1 := [.int r8]) C kx hK I hA (c_X4_tools e8) ⟨Nat.le_of_ble_eq_true rfl, Nat.le_of_ble_eq_true rfl⟩ mv_X4_tools lk_X10_105 3 4 (xw_3 (cI := cI) (ad := ad) (cC := cC) (cS := cS)) rfl rfl hl.1 rfl (Nat.le_of_ble_eq_true rfl) dX10_thing_62 rfl (fun H locs I => ?_)
          refine lv_iload_n hx hb dX10_thing_65 rfl (lv_at hl 1 rfl) ?_
          refine lv_ishr hx hb dX10_thing_66 ?_
          refine lv_iconst (v := 1) hx hb dX10_thing_67 (by decide) ?_
          refine lv_iand hx hb dX10_thing_68 ?_
          exact rt_i hq h I dX10_thing_69
        · have h := ite_n c7 h
          refine lv_tableOut (tgt := 70) hx hb dX10_thing_14 (by have := lv_neT (k := 0) (a := 0) c3 (by decide); have := lv_neT (k := 1) (a := 1) c5 (by decide); have := lv_neT (k := 2) (a := 2) c7 (by decide); omega) (by decide) ?_
          refine lv_bipush (v := (-3)) hx hb dX10_thing_70 (by decide) ?_
          exact rt_i hq h I dX10_thing_72
  · have h := ite_t c2 h
    refine lv_bipush (v := (-2)) hx hb dX10_thing_10 (by decide) ?_
    exact rt_i hq h I dX10_thing_12
theorem lk_X10_108 : Cond.methodLink RX10 108 yX4_callTold ∈ TT := tt_of 653 (by decide +kernel) rfl
theorem fl_X10_112 : Cond.fieldLinkNest RX10 112 RX1 "place" "I" "CarryUp" ∈ NN := nn_of 188 (by decide +kernel) rfl
theorem fl_X10_118 : Cond.fieldLinkNest RX10 118 RX1 "opens" "I" "CarryUp" ∈ NN := nn_of 191 (by decide +kernel) rfl
theorem fl_X10_121 : Cond.fieldLinkNest RX10 121 RX1 "shuts" "I" "CarryUp" ∈ NN := nn_of 193 (by decide +kernel) rfl
theorem fl_X10_124 : Cond.fieldLinkNest RX10 124 RX1 "worth" "I" "CarryUp" ∈ NN := nn_of 195 (by decide +kernel) rfl
theorem fl_X10_127 : Cond.fieldLinkNest RX10 127 RX1 "again" "I" "CarryUp" ∈ NN := nn_of 199 (by decide +kernel) rfl
theorem fl_X10_130 : Cond.fieldLinkNest RX10 130 RX1 "look" "I" "CarryUp" ∈ NN := nn_of 203 (by decide +kernel) rfl
theorem lk_X10_133 : Cond.methodLink RX10 133 yX1_sorts ∈ TT := tt_of 661 (by decide +kernel) rfl
theorem dX10_call_0 : decode cX10_call 0 = .ok (.aload_n 0, 1) := by decide +kernel
theorem dX10_call_1 : decode cX10_call 1 = .ok (.getfield 28, 3) := by decide +kernel
theorem dX10_call_4 : decode cX10_call 4 = .ok (.iload_n 1, 1) := by decide +kernel
theorem dX10_call_5 : decode cX10_call 5 = .ok (.invokevirtual 108, 3) := by decide +kernel
theorem dX10_call_8 : decode cX10_call 8 = .ok (.astore_n 3, 1) := by decide +kernel
theorem dX10_call_9 : decode cX10_call 9 = .ok (.aload_n 3, 1) := by decide +kernel
theorem dX10_call_10 : decode cX10_call 10 = .ok (.ifnonnull 6, 3) := by decide +kernel
theorem dX10_call_13 : decode cX10_call 13 = .ok (.bipush (-2), 2) := by decide +kernel
theorem dX10_call_15 : decode cX10_call 15 = .ok (.ireturn, 1) := by decide +kernel
theorem dX10_call_16 : decode cX10_call 16 = .ok (.iload_n 2, 1) := by decide +kernel
theorem dX10_call_17 : decode cX10_call 17 = .ok (.tableswitch 78 0 6 #[43, 48, 53, 58, 63, 68, 73], 43) := by decide +kernel
theorem dX10_call_60 : decode cX10_call 60 = .ok (.aload_n 3, 1) := by decide +kernel
theorem dX10_call_61 : decode cX10_call 61 = .ok (.getfield 112, 3) := by decide +kernel
theorem dX10_call_64 : decode cX10_call 64 = .ok (.ireturn, 1) := by decide +kernel
theorem dX10_call_65 : decode cX10_call 65 = .ok (.aload_n 3, 1) := by decide +kernel
theorem dX10_call_66 : decode cX10_call 66 = .ok (.getfield 118, 3) := by decide +kernel
theorem dX10_call_69 : decode cX10_call 69 = .ok (.ireturn, 1) := by decide +kernel
theorem dX10_call_70 : decode cX10_call 70 = .ok (.aload_n 3, 1) := by decide +kernel
theorem dX10_call_71 : decode cX10_call 71 = .ok (.getfield 121, 3) := by decide +kernel
theorem dX10_call_74 : decode cX10_call 74 = .ok (.ireturn, 1) := by decide +kernel
theorem dX10_call_75 : decode cX10_call 75 = .ok (.aload_n 3, 1) := by decide +kernel
theorem dX10_call_76 : decode cX10_call 76 = .ok (.getfield 124, 3) := by decide +kernel
theorem dX10_call_79 : decode cX10_call 79 = .ok (.ireturn, 1) := by decide +kernel
theorem dX10_call_80 : decode cX10_call 80 = .ok (.aload_n 3, 1) := by decide +kernel
theorem dX10_call_81 : decode cX10_call 81 = .ok (.getfield 127, 3) := by decide +kernel
theorem dX10_call_84 : decode cX10_call 84 = .ok (.ireturn, 1) := by decide +kernel
theorem dX10_call_85 : decode cX10_call 85 = .ok (.aload_n 3, 1) := by decide +kernel
theorem dX10_call_86 : decode cX10_call 86 = .ok (.getfield 130, 3) := by decide +kernel
theorem dX10_call_89 : decode cX10_call 89 = .ok (.ireturn, 1) := by decide +kernel
theorem dX10_call_90 : decode cX10_call 90 = .ok (.aload_n 3, 1) := by decide +kernel
theorem dX10_call_91 : decode cX10_call 91 = .ok (.invokevirtual 133, 3) := by decide +kernel
theorem dX10_call_94 : decode cX10_call 94 = .ok (.ireturn, 1) := by decide +kernel
theorem dX10_call_95 : decode cX10_call 95 = .ok (.bipush (-3), 2) := by decide +kernel
theorem dX10_call_97 : decode cX10_call 97 = .ok (.ireturn, 1) := by decide +kernel
def f_X10_call (S : St) (x1 : Int32) (x2 : Int32) : Option (Int32 × St) :=
  obd2 (f_X4_callTold S x1) fun r1 S1 =>
  oel r1 (
    some ((-2), S1)
  ) fun v2 =>
    if x2 = 0 then (
      some ((S1.1 (21 + v2.val) 4), S1)
    ) else (
      if x2 = 1 then (
        some ((S1.1 (21 + v2.val) 5), S1)
      ) else (
        if x2 = 2 then (
          some ((S1.1 (21 + v2.val) 6), S1)
        ) else (
          if x2 = 3 then (
            some ((S1.1 (21 + v2.val) 7), S1)
          ) else (
            if x2 = 4 then (
              some ((S1.1 (21 + v2.val) 8), S1)
            ) else (
              if x2 = 5 then (
                some ((S1.1 (21 + v2.val) 9), S1)
              ) else (
                if x2 = 6 then (
                  obd2 (f_X1_sorts S1 v2) fun r10 S10 =>
                  some (r10, S10)
                ) else (
                  some ((-3), S1)
    )))))))
set_option maxHeartbeats 4000000 in
set_option maxRecDepth 100000 in
theorem c_X10_call {l : Launch} {D : va_G} {cI cC cS : ClassId} {ad adK adV : Nat → Nat} {S S1 : St} {x1 : Int32} {x2 : Int32} {r : Int32} (h : f_X10_call S x1 x2 = some (r, S1)) : Kt l D (xw cI cC cS ad) (KX D (xtys cI cC cS) adK adV) yX10_call cX10_call 4 (some .int) (2) (43) [.ref (ad 0), .int x1, .int x2] S (some (.int r)) S1 := by
  refine k_ent (ins := .ireturn) (st := [.int r]) (by decide +kernel) (Nat.le_of_ble_eq_true rfl) ret_i ?_
  intro p e s m args below meth c A Q C hK I hA hq ls hl
  have C : CallFix p m c cX10_call 4 s args TT RX10 := C
  have hx := C.1
  have hb := C.2.1
  have kx := kx_ok D (xtys cI cC cS) adK adV
  have hl : lv_has ls 4 [(0, .ref (ad 0)), (1, .int x1), (2, .int x2)] := hl
  unfold f_X10_call at h
  refine lv_aload_n hx hb dX10_call_0 rfl (lv_at hl 0 rfl) ?_
  refine gx_0_2 C hK I fl_X10_28 dX10_call_1 ?_
  refine lv_iload_n hx hb dX10_call_4 rfl (lv_at hl 1 rfl) ?_
  obtain ⟨r1, S1, e1, h⟩ := obd2_ex h
  refine k_V (As := [.int x1]) (rest := []) (st1 := [rC ad r1]) C kx hK I hA (c_X4_callTold e1) ⟨Nat.le_of_ble_eq_true rfl, Nat.le_of_ble_eq_true rfl⟩ mv_X4_callTold lk_X10_108 3 4 (xw_3 (cI := cI) (ad := ad) (cC := cC) (cS := cS)) rfl rfl hl.1 rfl (Nat.le_of_ble_eq_true rfl) dX10_call_5 rfl (fun H locs I => ?_)
  refine k_astore_n _ (lv' := [(3, rC ad r1), (0, .ref (ad 0)), (1, .int x1), (2, .int x2)]) hx hb dX10_call_8 rfl rfl hl (by decide) rfl (fun ls hl => ?_)
  refine k_aload_n _ hx hb dX10_call_9 rfl rfl (lv_at hl 0 rfl) ?_
  refine k_ifnn hx hb dX10_call_10 (tgt := 16) (by decide) (fun v2 ho => ?_) (fun ho => ?_)
  · subst ho
    have h := oel_s h
    have hl : lv_has ls 4 [(3, .ref (ad (21 + v2.val))), (0, .ref (ad 0)), (1, .int x1), (2, .int x2)] := hl
    refine lv_iload_n hx hb dX10_call_16 rfl (lv_at hl 3 rfl) ?_
    rcases Decidable.em (x2 = 0) with c3 | c3
    · have h := ite_t c3 h
      rw [c3]
      refine lv_tableIn (x := 0) (off := 43) (tgt := 60) hx hb dX10_call_17 (by decide) (by decide) (by decide) (by decide) ?_
      refine lv_aload_n hx hb dX10_call_60 rfl (lv_at hl 0 rfl) ?_
      refine gxN_C_4 C hK I fl_X10_112 dX10_call_61 ?_
      exact rt_i hq h I dX10_call_64
    · have h := ite_n c3 h
      rcases Decidable.em (x2 = 1) with c4 | c4
      · have h := ite_t c4 h
        rw [c4]
        refine lv_tableIn (x := 1) (off := 48) (tgt := 65) hx hb dX10_call_17 (by decide) (by decide) (by decide) (by decide) ?_
        refine lv_aload_n hx hb dX10_call_65 rfl (lv_at hl 0 rfl) ?_
        refine gxN_C_5 C hK I fl_X10_118 dX10_call_66 ?_
        exact rt_i hq h I dX10_call_69
      · have h := ite_n c4 h
        rcases Decidable.em (x2 = 2) with c5 | c5
        · have h := ite_t c5 h
          rw [c5]
          refine lv_tableIn (x := 2) (off := 53) (tgt := 70) hx hb dX10_call_17 (by decide) (by decide) (by decide) (by decide) ?_
          refine lv_aload_n hx hb dX10_call_70 rfl (lv_at hl 0 rfl) ?_
          refine gxN_C_6 C hK I fl_X10_121 dX10_call_71 ?_
          exact rt_i hq h I dX10_call_74
        · have h := ite_n c5 h
          rcases Decidable.em (x2 = 3) with c6 | c6
          · have h := ite_t c6 h
            rw [c6]
            refine lv_tableIn (x := 3) (off := 58) (tgt := 75) hx hb dX10_call_17 (by decide) (by decide) (by decide) (by decide) ?_
            refine lv_aload_n hx hb dX10_call_75 rfl (lv_at hl 0 rfl) ?_
            refine gxN_C_7 C hK I fl_X10_124 dX10_call_76 ?_
            exact rt_i hq h I dX10_call_79
          · have h := ite_n c6 h
            rcases Decidable.em (x2 = 4) with c7 | c7
            · have h := ite_t c7 h
              rw [c7]
              refine lv_tableIn (x := 4) (off := 63) (tgt := 80) hx hb dX10_call_17 (by decide) (by decide) (by decide) (by decide) ?_
              refine lv_aload_n hx hb dX10_call_80 rfl (lv_at hl 0 rfl) ?_
              refine gxN_C_8 C hK I fl_X10_127 dX10_call_81 ?_
              exact rt_i hq h I dX10_call_84
            · have h := ite_n c7 h
              rcases Decidable.em (x2 = 5) with c8 | c8
              · have h := ite_t c8 h
                rw [c8]
                refine lv_tableIn (x := 5) (off := 68) (tgt := 85) hx hb dX10_call_17 (by decide) (by decide) (by decide) (by decide) ?_
                refine lv_aload_n hx hb dX10_call_85 rfl (lv_at hl 0 rfl) ?_
                refine gxN_C_9 C hK I fl_X10_130 dX10_call_86 ?_
                exact rt_i hq h I dX10_call_89
              · have h := ite_n c8 h
                rcases Decidable.em (x2 = 6) with c9 | c9
                · have h := ite_t c9 h
                  rw [c9]
                  refine lv_tableIn (x := 6) (off := 73) (tgt := 90) hx hb dX10_call_17 (by decide) (by decide) (by decide) (by decide) ?_
                  refine lv_aload_n hx hb dX10_call_90 rfl (lv_at hl 0 rfl) ?_
                  obtain ⟨r10, S10, e10, h⟩ := obd2_ex h
                  refine k_V (As := []) (rest := []) (st1 := [.int r10]) C kx hK I hA (c_X1_sorts e10) ⟨Nat.le_of_ble_eq_true rfl, Nat.le_of_ble_eq_true rfl⟩ mv_X1_sorts lk_X10_133 (21 + v2.val) 1 (xw_C (cI := cI) (cC := cC) (cS := cS) (ad := ad) v2) rfl rfl hl.1 rfl (Nat.le_of_ble_eq_true rfl) dX10_call_91 rfl (fun H locs I => ?_)
                  exact rt_i hq h I dX10_call_94
                · have h := ite_n c9 h
                  refine lv_tableOut (tgt := 95) hx hb dX10_call_17 (by have := lv_neT (k := 0) (a := 0) c3 (by decide); have := lv_neT (k := 1) (a := 1) c4 (by decide); have := lv_neT (k := 2) (a := 2) c5 (by decide); have := lv_neT (k := 3) (a := 3) c6 (by decide); have := lv_neT (k := 4) (a := 4) c7 (by decide); have := lv_neT (k := 5) (a := 5) c8 (by decide); have := lv_neT (k := 6) (a := 6) c9 (by decide); omega) (by decide) ?_
                  refine lv_bipush (v := (-3)) hx hb dX10_call_95 (by decide) ?_
                  exact rt_i hq h I dX10_call_97
  · subst ho
    have h := oel_n h
    have hl : lv_has ls 4 [(3, .null), (0, .ref (ad 0)), (1, .int x1), (2, .int x2)] := hl
    refine lv_bipush (v := (-2)) hx hb dX10_call_13 (by decide) ?_
    exact rt_i hq h I dX10_call_15
theorem lk_X10_136 : Cond.methodLink RX10 136 yX4_sortTold ∈ TT := tt_of 669 (by decide +kernel) rfl
theorem fl_X10_140 : Cond.fieldLinkNest RX10 140 RX7 "likely" "I" "CarryUp" ∈ NN := nn_of 155 (by decide +kernel) rfl
theorem fl_X10_145 : Cond.fieldLinkNest RX10 145 RX7 "minutes" "I" "CarryUp" ∈ NN := nn_of 160 (by decide +kernel) rfl
theorem fl_X10_148 : Cond.fieldLinkNest RX10 148 RX7 "all" "I" "CarryUp" ∈ NN := nn_of 166 (by decide +kernel) rfl
theorem fl_X10_151 : Cond.fieldLinkNest RX10 151 RX7 "one" "I" "CarryUp" ∈ NN := nn_of 171 (by decide +kernel) rfl
theorem dX10_sort_0 : decode cX10_sort 0 = .ok (.aload_n 0, 1) := by decide +kernel
theorem dX10_sort_1 : decode cX10_sort 1 = .ok (.getfield 28, 3) := by decide +kernel
theorem dX10_sort_4 : decode cX10_sort 4 = .ok (.iload_n 1, 1) := by decide +kernel
theorem dX10_sort_5 : decode cX10_sort 5 = .ok (.iload_n 2, 1) := by decide +kernel
theorem dX10_sort_6 : decode cX10_sort 6 = .ok (.invokevirtual 136, 3) := by decide +kernel
theorem dX10_sort_9 : decode cX10_sort 9 = .ok (.astore 4, 2) := by decide +kernel
theorem dX10_sort_11 : decode cX10_sort 11 = .ok (.aload 4, 2) := by decide +kernel
theorem dX10_sort_13 : decode cX10_sort 13 = .ok (.ifnonnull 6, 3) := by decide +kernel
theorem dX10_sort_16 : decode cX10_sort 16 = .ok (.bipush (-2), 2) := by decide +kernel
theorem dX10_sort_18 : decode cX10_sort 18 = .ok (.ireturn, 1) := by decide +kernel
theorem dX10_sort_19 : decode cX10_sort 19 = .ok (.iload_n 3, 1) := by decide +kernel
theorem dX10_sort_20 : decode cX10_sort 20 = .ok (.tableswitch 56 0 3 #[32, 38, 44, 50], 32) := by decide +kernel
theorem dX10_sort_52 : decode cX10_sort 52 = .ok (.aload 4, 2) := by decide +kernel
theorem dX10_sort_54 : decode cX10_sort 54 = .ok (.getfield 140, 3) := by decide +kernel
theorem dX10_sort_57 : decode cX10_sort 57 = .ok (.ireturn, 1) := by decide +kernel
theorem dX10_sort_58 : decode cX10_sort 58 = .ok (.aload 4, 2) := by decide +kernel
theorem dX10_sort_60 : decode cX10_sort 60 = .ok (.getfield 145, 3) := by decide +kernel
theorem dX10_sort_63 : decode cX10_sort 63 = .ok (.ireturn, 1) := by decide +kernel
theorem dX10_sort_64 : decode cX10_sort 64 = .ok (.aload 4, 2) := by decide +kernel
theorem dX10_sort_66 : decode cX10_sort 66 = .ok (.getfield 148, 3) := by decide +kernel
theorem dX10_sort_69 : decode cX10_sort 69 = .ok (.ireturn, 1) := by decide +kernel
theorem dX10_sort_70 : decode cX10_sort 70 = .ok (.aload 4, 2) := by decide +kernel
theorem dX10_sort_72 : decode cX10_sort 72 = .ok (.getfield 151, 3) := by decide +kernel
theorem dX10_sort_75 : decode cX10_sort 75 = .ok (.ireturn, 1) := by decide +kernel
theorem dX10_sort_76 : decode cX10_sort 76 = .ok (.bipush (-3), 2) := by decide +kernel
theorem dX10_sort_78 : decode cX10_sort 78 = .ok (.ireturn, 1) := by decide +kernel
def f_X10_sort (S : St) (x1 : Int32) (x2 : Int32) (x3 : Int32) : Option (Int32 × St) :=
  obd2 (f_X4_sortTold S x1 x2) fun r1 S1 =>
  oel r1 (
    some ((-2), S1)
  ) fun v2 =>
    if x3 = 0 then (
      some ((S1.1 (33 + v2.val) 0), S1)
    ) else (
      if x3 = 1 then (
        some ((S1.1 (33 + v2.val) 1), S1)
      ) else (
        if x3 = 2 then (
          some ((S1.1 (33 + v2.val) 2), S1)
        ) else (
          if x3 = 3 then (
            some ((S1.1 (33 + v2.val) 3), S1)
          ) else (
            some ((-3), S1)
    ))))
set_option maxHeartbeats 4000000 in
set_option maxRecDepth 100000 in
theorem c_X10_sort {l : Launch} {D : va_G} {cI cC cS : ClassId} {ad adK adV : Nat → Nat} {S S1 : St} {x1 : Int32} {x2 : Int32} {x3 : Int32} {r : Int32} (h : f_X10_sort S x1 x2 x3 = some (r, S1)) : Kt l D (xw cI cC cS ad) (KX D (xtys cI cC cS) adK adV) yX10_sort cX10_sort 5 (some .int) (3) (66) [.ref (ad 0), .int x1, .int x2, .int x3] S (some (.int r)) S1 := by
  refine k_ent (ins := .ireturn) (st := [.int r]) (by decide +kernel) (Nat.le_of_ble_eq_true rfl) ret_i ?_
  intro p e s m args below meth c A Q C hK I hA hq ls hl
  have C : CallFix p m c cX10_sort 5 s args TT RX10 := C
  have hx := C.1
  have hb := C.2.1
  have kx := kx_ok D (xtys cI cC cS) adK adV
  have hl : lv_has ls 5 [(0, .ref (ad 0)), (1, .int x1), (2, .int x2), (3, .int x3)] := hl
  unfold f_X10_sort at h
  refine lv_aload_n hx hb dX10_sort_0 rfl (lv_at hl 0 rfl) ?_
  refine gx_0_2 C hK I fl_X10_28 dX10_sort_1 ?_
  refine lv_iload_n hx hb dX10_sort_4 rfl (lv_at hl 1 rfl) ?_
  refine lv_iload_n hx hb dX10_sort_5 rfl (lv_at hl 2 rfl) ?_
  obtain ⟨r1, S1, e1, h⟩ := obd2_ex h
  refine k_V (As := [.int x1, .int x2]) (rest := []) (st1 := [rS ad r1]) C kx hK I hA (c_X4_sortTold e1) ⟨Nat.le_of_ble_eq_true rfl, Nat.le_of_ble_eq_true rfl⟩ mv_X4_sortTold lk_X10_136 3 4 (xw_3 (cI := cI) (ad := ad) (cC := cC) (cS := cS)) rfl rfl hl.1 rfl (Nat.le_of_ble_eq_true rfl) dX10_sort_6 rfl (fun H locs I => ?_)
  refine k_astore _ (lv' := [(4, rS ad r1), (0, .ref (ad 0)), (1, .int x1), (2, .int x2), (3, .int x3)]) hx hb dX10_sort_9 rfl hl (by decide) rfl (fun ls hl => ?_)
  refine k_aload _ hx hb dX10_sort_11 rfl (lv_at hl 0 rfl) ?_
  refine k_ifnn hx hb dX10_sort_13 (tgt := 19) (by decide) (fun v2 ho => ?_) (fun ho => ?_)
  · subst ho
    have h := oel_s h
    have hl : lv_has ls 5 [(4, .ref (ad (33 + v2.val))), (0, .ref (ad 0)), (1, .int x1), (2, .int x2), (3, .int x3)] := hl
    refine lv_iload_n hx hb dX10_sort_19 rfl (lv_at hl 4 rfl) ?_
    rcases Decidable.em (x3 = 0) with c3 | c3
    · have h := ite_t c3 h
      rw [c3]
      refine lv_tableIn (x := 0) (off := 32) (tgt := 52) hx hb dX10_sort_20 (by decide) (by decide) (by decide) (by decide) ?_
      refine lv_aload hx hb dX10_sort_52 (lv_at hl 0 rfl) ?_
      refine gxN_S_0 C hK I fl_X10_140 dX10_sort_54 ?_
      exact rt_i hq h I dX10_sort_57
    · have h := ite_n c3 h
      rcases Decidable.em (x3 = 1) with c4 | c4
      · have h := ite_t c4 h
        rw [c4]
        refine lv_tableIn (x := 1) (off := 38) (tgt := 58) hx hb dX10_sort_20 (by decide) (by decide) (by decide) (by decide) ?_
        refine lv_aload hx hb dX10_sort_58 (lv_at hl 0 rfl) ?_
        refine gxN_S_1 C hK I fl_X10_145 dX10_sort_60 ?_
        exact rt_i hq h I dX10_sort_63
      · have h := ite_n c4 h
        rcases Decidable.em (x3 = 2) with c5 | c5
        · have h := ite_t c5 h
          rw [c5]
          refine lv_tableIn (x := 2) (off := 44) (tgt := 64) hx hb dX10_sort_20 (by decide) (by decide) (by decide) (by decide) ?_
          refine lv_aload hx hb dX10_sort_64 (lv_at hl 0 rfl) ?_
          refine gxN_S_2 C hK I fl_X10_148 dX10_sort_66 ?_
          exact rt_i hq h I dX10_sort_69
        · have h := ite_n c5 h
          rcases Decidable.em (x3 = 3) with c6 | c6
          · have h := ite_t c6 h
            rw [c6]
            refine lv_tableIn (x := 3) (off := 50) (tgt := 70) hx hb dX10_sort_20 (by decide) (by decide) (by decide) (by decide) ?_
            refine lv_aload hx hb dX10_sort_70 (lv_at hl 0 rfl) ?_
            refine gxN_S_3 C hK I fl_X10_151 dX10_sort_72 ?_
            exact rt_i hq h I dX10_sort_75
          · have h := ite_n c6 h
            refine lv_tableOut (tgt := 76) hx hb dX10_sort_20 (by have := lv_neT (k := 0) (a := 0) c3 (by decide); have := lv_neT (k := 1) (a := 1) c4 (by decide); have := lv_neT (k := 2) (a := 2) c5 (by decide); have := lv_neT (k := 3) (a := 3) c6 (by decide); omega) (by decide) ?_
            refine lv_bipush (v := (-3)) hx hb dX10_sort_76 (by decide) ?_
            exact rt_i hq h I dX10_sort_78
  · subst ho
    have h := oel_n h
    have hl : lv_has ls 5 [(4, .null), (0, .ref (ad 0)), (1, .int x1), (2, .int x2), (3, .int x3)] := hl
    refine lv_bipush (v := (-2)) hx hb dX10_sort_16 (by decide) ?_
    exact rt_i hq h I dX10_sort_18
theorem lk_X10_154 : Cond.methodLink RX10 154 yX4_wayBetween ∈ TT := tt_of 682 (by decide +kernel) rfl
theorem dX10_way_0 : decode cX10_way 0 = .ok (.iload_n 1, 1) := by decide +kernel
theorem dX10_way_1 : decode cX10_way 1 = .ok (.iconst 0, 1) := by decide +kernel
theorem dX10_way_2 : decode cX10_way 2 = .ok (.iconst 5, 1) := by decide +kernel
theorem dX10_way_3 : decode cX10_way 3 = .ok (.invokestatic 94, 3) := by decide +kernel
theorem dX10_way_6 : decode cX10_way 6 = .ok (.ifCond .eq 12, 3) := by decide +kernel
theorem dX10_way_9 : decode cX10_way 9 = .ok (.iload_n 2, 1) := by decide +kernel
theorem dX10_way_10 : decode cX10_way 10 = .ok (.iconst 0, 1) := by decide +kernel
theorem dX10_way_11 : decode cX10_way 11 = .ok (.iconst 5, 1) := by decide +kernel
theorem dX10_way_12 : decode cX10_way 12 = .ok (.invokestatic 94, 3) := by decide +kernel
theorem dX10_way_15 : decode cX10_way 15 = .ok (.ifCond .ne 6, 3) := by decide +kernel
theorem dX10_way_18 : decode cX10_way 18 = .ok (.bipush (-2), 2) := by decide +kernel
theorem dX10_way_20 : decode cX10_way 20 = .ok (.ireturn, 1) := by decide +kernel
theorem dX10_way_21 : decode cX10_way 21 = .ok (.aload_n 0, 1) := by decide +kernel
theorem dX10_way_22 : decode cX10_way 22 = .ok (.getfield 28, 3) := by decide +kernel
theorem dX10_way_25 : decode cX10_way 25 = .ok (.iload_n 1, 1) := by decide +kernel
theorem dX10_way_26 : decode cX10_way 26 = .ok (.iload_n 2, 1) := by decide +kernel
theorem dX10_way_27 : decode cX10_way 27 = .ok (.invokevirtual 154, 3) := by decide +kernel
theorem dX10_way_30 : decode cX10_way 30 = .ok (.ireturn, 1) := by decide +kernel
def f_X10_way (S : St) (x1 : Int32) (x2 : Int32) : Option (Int32 × St) :=
  obd2 (f_X10_within S x1 0 5) fun r1 S1 =>
  if r1 = 0 then (
    some ((-2), S1)
  ) else (
    obd2 (f_X10_within S1 x2 0 5) fun r3 S3 =>
    if r3 = 0 then (
      some ((-2), S3)
    ) else (
      obd2 (f_X4_wayBetween S3 x1 x2) fun r5 S5 =>
      some (r5, S5)
    )
  )
set_option maxHeartbeats 4000000 in
set_option maxRecDepth 100000 in
theorem c_X10_way {l : Launch} {D : va_G} {cI cC cS : ClassId} {ad adK adV : Nat → Nat} {S S1 : St} {x1 : Int32} {x2 : Int32} {r : Int32} (h : f_X10_way S x1 x2 = some (r, S1)) : Kt l D (xw cI cC cS ad) (KX D (xtys cI cC cS) adK adV) yX10_way cX10_way 3 (some .int) (2) (43) [.ref (ad 0), .int x1, .int x2] S (some (.int r)) S1 := by
  refine k_ent (ins := .ireturn) (st := [.int r]) (by decide +kernel) (Nat.le_of_ble_eq_true rfl) ret_i ?_
  intro p e s m args below meth c A Q C hK I hA hq ls hl
  have C : CallFix p m c cX10_way 3 s args TT RX10 := C
  have hx := C.1
  have hb := C.2.1
  have kx := kx_ok D (xtys cI cC cS) adK adV
  have hl : lv_has ls 3 [(0, .ref (ad 0)), (1, .int x1), (2, .int x2)] := hl
  unfold f_X10_way at h
  refine lv_iload_n hx hb dX10_way_0 rfl (lv_at hl 1 rfl) ?_
  refine lv_iconst (v := 0) hx hb dX10_way_1 (by decide) ?_
  refine lv_iconst (v := 5) hx hb dX10_way_2 (by decide) ?_
  obtain ⟨r1, S1, e1, h⟩ := obd2_ex h
  refine k_S (As := [.int x1, .int 0, .int 5]) (rest := []) (st1 := [.int r1]) C kx hK I hA (c_X10_within e1) ⟨Nat.le_of_ble_eq_true rfl, Nat.le_of_ble_eq_true rfl⟩ ms_X10_within lk_X10_94 rfl hl.1 rfl (Nat.le_of_ble_eq_true rfl) dX10_way_3 rfl (fun H locs I => ?_)
  refine lv_if_eq (tgt := 18) hx hb dX10_way_6 (by decide) (fun c2 => ?_) (fun c2 => ?_)
  · have h := ite_t c2 h
    refine lv_bipush (v := (-2)) hx hb dX10_way_18 (by decide) ?_
    exact rt_i hq h I dX10_way_20
  · have h := ite_n c2 h
    refine lv_iload_n hx hb dX10_way_9 rfl (lv_at hl 2 rfl) ?_
    refine lv_iconst (v := 0) hx hb dX10_way_10 (by decide) ?_
    refine lv_iconst (v := 5) hx hb dX10_way_11 (by decide) ?_
    obtain ⟨r3, S3, e3, h⟩ := obd2_ex h
    refine k_S (As := [.int x2, .int 0, .int 5]) (rest := []) (st1 := [.int r3]) C kx hK I hA (c_X10_within e3) ⟨Nat.le_of_ble_eq_true rfl, Nat.le_of_ble_eq_true rfl⟩ ms_X10_within lk_X10_94 rfl hl.1 rfl (Nat.le_of_ble_eq_true rfl) dX10_way_12 rfl (fun H locs I => ?_)
    refine lv_if_ne (tgt := 21) hx hb dX10_way_15 (by decide) (fun c4 => ?_) (fun c4 => ?_)
    · have h := ite_n c4 h
      refine lv_aload_n hx hb dX10_way_21 rfl (lv_at hl 0 rfl) ?_
      refine gx_0_2 C hK I fl_X10_28 dX10_way_22 ?_
      refine lv_iload_n hx hb dX10_way_25 rfl (lv_at hl 1 rfl) ?_
      refine lv_iload_n hx hb dX10_way_26 rfl (lv_at hl 2 rfl) ?_
      obtain ⟨r5, S5, e5, h⟩ := obd2_ex h
      refine k_V (As := [.int x1, .int x2]) (rest := []) (st1 := [.int r5]) C kx hK I hA (c_X4_wayBetween e5) ⟨Nat.le_of_ble_eq_true rfl, Nat.le_of_ble_eq_true rfl⟩ mv_X4_wayBetween lk_X10_154 3 4 (xw_3 (cI := cI) (ad := ad) (cC := cC) (cS := cS)) rfl rfl hl.1 rfl (Nat.le_of_ble_eq_true rfl) dX10_way_27 rfl (fun H locs I => ?_)
      exact rt_i hq h I dX10_way_30
    · have h := ite_t c4 h
      refine lv_bipush (v := (-2)) hx hb dX10_way_18 (by decide) ?_
      exact rt_i hq h I dX10_way_20
theorem lk_X10_158 : Cond.methodLink RX10 158 yX10_isBag ∈ TT := tt_of 690 (by decide +kernel) rfl
theorem ms_X10_isBag : MS yX10_isBag cX10_isBag 1 (some .boolean) 1 := ⟨tt_of 692 (by decide +kernel) rfl, tt_of 691 (by decide +kernel) rfl, tt_of 65 (by decide +kernel) rfl, ⟨by decide +kernel, by decide +kernel, by decide +kernel⟩⟩
theorem lk_X10_162 : Cond.methodLink RX10 162 yX4_mayBe ∈ TT := tt_of 693 (by decide +kernel) rfl
theorem dX10_may_0 : decode cX10_may 0 = .ok (.iload_n 1, 1) := by decide +kernel
theorem dX10_may_1 : decode cX10_may 1 = .ok (.invokestatic 158, 3) := by decide +kernel
theorem dX10_may_4 : decode cX10_may 4 = .ok (.ifCond .ne 6, 3) := by decide +kernel
theorem dX10_may_7 : decode cX10_may 7 = .ok (.bipush (-3), 2) := by decide +kernel
theorem dX10_may_9 : decode cX10_may 9 = .ok (.ireturn, 1) := by decide +kernel
theorem dX10_may_10 : decode cX10_may 10 = .ok (.aload_n 0, 1) := by decide +kernel
theorem dX10_may_11 : decode cX10_may 11 = .ok (.getfield 28, 3) := by decide +kernel
theorem dX10_may_14 : decode cX10_may 14 = .ok (.iload_n 1, 1) := by decide +kernel
theorem dX10_may_15 : decode cX10_may 15 = .ok (.invokevirtual 162, 3) := by decide +kernel
theorem dX10_may_18 : decode cX10_may 18 = .ok (.ifCond .eq 7, 3) := by decide +kernel
theorem dX10_may_21 : decode cX10_may 21 = .ok (.iconst 1, 1) := by decide +kernel
theorem dX10_may_22 : decode cX10_may 22 = .ok (.goto 4, 3) := by decide +kernel
theorem dX10_may_25 : decode cX10_may 25 = .ok (.iconst 0, 1) := by decide +kernel
theorem dX10_may_26 : decode cX10_may 26 = .ok (.ireturn, 1) := by decide +kernel
def f_X10_may (S : St) (x1 : Int32) : Option (Int32 × St) :=
  obd2 (f_X10_isBag S x1) fun r1 S1 =>
  if r1 = 0 then (
    some ((-3), S1)
  ) else (
    obd2 (f_X4_mayBe S1 x1) fun r3 S3 =>
    if r3 = 0 then (
      some (0, S3)
    ) else (
      some (1, S3)
    )
  )
set_option maxHeartbeats 4000000 in
set_option maxRecDepth 100000 in
theorem c_X10_may {l : Launch} {D : va_G} {cI cC cS : ClassId} {ad adK adV : Nat → Nat} {S S1 : St} {x1 : Int32} {r : Int32} (h : f_X10_may S x1 = some (r, S1)) : Kt l D (xw cI cC cS ad) (KX D (xtys cI cC cS) adK adV) yX10_may cX10_may 2 (some .int) (3) (67) [.ref (ad 0), .int x1] S (some (.int r)) S1 := by
  refine k_ent (ins := .ireturn) (st := [.int r]) (by decide +kernel) (Nat.le_of_ble_eq_true rfl) ret_i ?_
  intro p e s m args below meth c A Q C hK I hA hq ls hl
  have C : CallFix p m c cX10_may 2 s args TT RX10 := C
  have hx := C.1
  have hb := C.2.1
  have kx := kx_ok D (xtys cI cC cS) adK adV
  have hl : lv_has ls 2 [(0, .ref (ad 0)), (1, .int x1)] := hl
  unfold f_X10_may at h
  refine lv_iload_n hx hb dX10_may_0 rfl (lv_at hl 1 rfl) ?_
  obtain ⟨r1, S1, e1, h⟩ := obd2_ex h
  refine k_S (As := [.int x1]) (rest := []) (st1 := [.int r1]) C kx hK I hA (c_X10_isBag e1) ⟨Nat.le_of_ble_eq_true rfl, Nat.le_of_ble_eq_true rfl⟩ ms_X10_isBag lk_X10_158 rfl hl.1 rfl (Nat.le_of_ble_eq_true rfl) dX10_may_1 rfl (fun H locs I => ?_)
  refine lv_if_ne (tgt := 10) hx hb dX10_may_4 (by decide) (fun c2 => ?_) (fun c2 => ?_)
  · have h := ite_n c2 h
    refine lv_aload_n hx hb dX10_may_10 rfl (lv_at hl 0 rfl) ?_
    refine gx_0_2 C hK I fl_X10_28 dX10_may_11 ?_
    refine lv_iload_n hx hb dX10_may_14 rfl (lv_at hl 1 rfl) ?_
    obtain ⟨r3, S3, e3, h⟩ := obd2_ex h
    refine k_V (As := [.int x1]) (rest := []) (st1 := [.int r3]) C kx hK I hA (c_X4_mayBe e3) ⟨Nat.le_of_ble_eq_true rfl, Nat.le_of_ble_eq_true rfl⟩ mv_X4_mayBe lk_X10_162 3 4 (xw_3 (cI := cI) (ad := ad) (cC := cC) (cS := cS)) rfl rfl hl.1 rfl (Nat.le_of_ble_eq_true rfl) dX10_may_15 rfl (fun H locs I => ?_)
    refine lv_if_eq (tgt := 25) hx hb dX10_may_18 (by decide) (fun c4 => ?_) (fun c4 => ?_)
    · have h := ite_t c4 h
      refine lv_iconst (v := 0) hx hb dX10_may_25 (by decide) ?_
      exact rt_i hq h I dX10_may_26
    · have h := ite_n c4 h
      refine lv_iconst (v := 1) hx hb dX10_may_21 (by decide) ?_
      refine lv_goto (tgt := 26) hx hb dX10_may_22 (by decide) ?_
      exact rt_i hq h I dX10_may_26
  · have h := ite_t c2 h
    refine lv_bipush (v := (-3)) hx hb dX10_may_7 (by decide) ?_
    exact rt_i hq h I dX10_may_9
theorem lk_X10_165 : Cond.methodLink RX10 165 yX7_left ∈ TT := tt_of 705 (by decide +kernel) rfl
theorem dX10_does_0 : decode cX10_does 0 = .ok (.aload_n 0, 1) := by decide +kernel
theorem dX10_does_1 : decode cX10_does 1 = .ok (.getfield 28, 3) := by decide +kernel
theorem dX10_does_4 : decode cX10_does 4 = .ok (.iload_n 2, 1) := by decide +kernel
theorem dX10_does_5 : decode cX10_does 5 = .ok (.iload_n 3, 1) := by decide +kernel
theorem dX10_does_6 : decode cX10_does 6 = .ok (.invokevirtual 136, 3) := by decide +kernel
theorem dX10_does_9 : decode cX10_does 9 = .ok (.astore 4, 2) := by decide +kernel
theorem dX10_does_11 : decode cX10_does 11 = .ok (.aload 4, 2) := by decide +kernel
theorem dX10_does_13 : decode cX10_does 13 = .ok (.ifnonnull 6, 3) := by decide +kernel
theorem dX10_does_16 : decode cX10_does 16 = .ok (.bipush (-2), 2) := by decide +kernel
theorem dX10_does_18 : decode cX10_does 18 = .ok (.ireturn, 1) := by decide +kernel
theorem dX10_does_19 : decode cX10_does 19 = .ok (.iload_n 1, 1) := by decide +kernel
theorem dX10_does_20 : decode cX10_does 20 = .ok (.invokestatic 158, 3) := by decide +kernel
theorem dX10_does_23 : decode cX10_does 23 = .ok (.ifCond .ne 6, 3) := by decide +kernel
theorem dX10_does_26 : decode cX10_does 26 = .ok (.bipush (-3), 2) := by decide +kernel
theorem dX10_does_28 : decode cX10_does 28 = .ok (.ireturn, 1) := by decide +kernel
theorem dX10_does_29 : decode cX10_does 29 = .ok (.aload 4, 2) := by decide +kernel
theorem dX10_does_31 : decode cX10_does 31 = .ok (.iload_n 1, 1) := by decide +kernel
theorem dX10_does_32 : decode cX10_does 32 = .ok (.aload_n 0, 1) := by decide +kernel
theorem dX10_does_33 : decode cX10_does 33 = .ok (.getfield 28, 3) := by decide +kernel
theorem dX10_does_36 : decode cX10_does 36 = .ok (.invokevirtual 105, 3) := by decide +kernel
theorem dX10_does_39 : decode cX10_does 39 = .ok (.invokevirtual 165, 3) := by decide +kernel
theorem dX10_does_42 : decode cX10_does 42 = .ok (.ireturn, 1) := by decide +kernel
def f_X10_does (S : St) (x1 : Int32) (x2 : Int32) (x3 : Int32) : Option (Int32 × St) :=
  obd2 (f_X4_sortTold S x2 x3) fun r1 S1 =>
  oel r1 (
    some ((-2), S1)
  ) fun v2 =>
    obd2 (f_X10_isBag S1 x1) fun r3 S3 =>
    if r3 = 0 then (
      some ((-3), S3)
    ) else (
      obd2 (f_X4_tools S3 ) fun r5 S5 =>
      obd2 (f_X7_left S5 v2 x1 r5) fun r6 S6 =>
      some (r6, S6)
    )
set_option maxHeartbeats 4000000 in
set_option maxRecDepth 100000 in
theorem c_X10_does {l : Launch} {D : va_G} {cI cC cS : ClassId} {ad adK adV : Nat → Nat} {S S1 : St} {x1 : Int32} {x2 : Int32} {x3 : Int32} {r : Int32} (h : f_X10_does S x1 x2 x3 = some (r, S1)) : Kt l D (xw cI cC cS ad) (KX D (xtys cI cC cS) adK adV) yX10_does cX10_does 5 (some .int) (3) (66) [.ref (ad 0), .int x1, .int x2, .int x3] S (some (.int r)) S1 := by
  refine k_ent (ins := .ireturn) (st := [.int r]) (by decide +kernel) (Nat.le_of_ble_eq_true rfl) ret_i ?_
  intro p e s m args below meth c A Q C hK I hA hq ls hl
  have C : CallFix p m c cX10_does 5 s args TT RX10 := C
  have hx := C.1
  have hb := C.2.1
  have kx := kx_ok D (xtys cI cC cS) adK adV
  have hl : lv_has ls 5 [(0, .ref (ad 0)), (1, .int x1), (2, .int x2), (3, .int x3)] := hl
  unfold f_X10_does at h
  refine lv_aload_n hx hb dX10_does_0 rfl (lv_at hl 0 rfl) ?_
  refine gx_0_2 C hK I fl_X10_28 dX10_does_1 ?_
  refine lv_iload_n hx hb dX10_does_4 rfl (lv_at hl 2 rfl) ?_
  refine lv_iload_n hx hb dX10_does_5 rfl (lv_at hl 3 rfl) ?_
  obtain ⟨r1, S1, e1, h⟩ := obd2_ex h
  refine k_V (As := [.int x2, .int x3]) (rest := []) (st1 := [rS ad r1]) C kx hK I hA (c_X4_sortTold e1) ⟨Nat.le_of_ble_eq_true rfl, Nat.le_of_ble_eq_true rfl⟩ mv_X4_sortTold lk_X10_136 3 4 (xw_3 (cI := cI) (ad := ad) (cC := cC) (cS := cS)) rfl rfl hl.1 rfl (Nat.le_of_ble_eq_true rfl) dX10_does_6 rfl (fun H locs I => ?_)
  refine k_astore _ (lv' := [(4, rS ad r1), (0, .ref (ad 0)), (1, .int x1), (2, .int x2), (3, .int x3)]) hx hb dX10_does_9 rfl hl (by decide) rfl (fun ls hl => ?_)
  refine k_aload _ hx hb dX10_does_11 rfl (lv_at hl 0 rfl) ?_
  refine k_ifnn hx hb dX10_does_13 (tgt := 19) (by decide) (fun v2 ho => ?_) (fun ho => ?_)
  · subst ho
    have h := oel_s h
    have hl : lv_has ls 5 [(4, .ref (ad (33 + v2.val))), (0, .ref (ad 0)), (1, .int x1), (2, .int x2), (3, .int x3)] := hl
    refine lv_iload_n hx hb dX10_does_19 rfl (lv_at hl 2 rfl) ?_
    obtain ⟨r3, S3, e3, h⟩ := obd2_ex h
    refine k_S (As := [.int x1]) (rest := []) (st1 := [.int r3]) C kx hK I hA (c_X10_isBag e3) ⟨Nat.le_of_ble_eq_true rfl, Nat.le_of_ble_eq_true rfl⟩ ms_X10_isBag lk_X10_158 rfl hl.1 rfl (Nat.le_of_ble_eq_true rfl) dX10_does_20 rfl (fun H locs I => ?_)
    refine lv_if_ne (tgt := 29) hx hb dX10_does_23 (by decide) (fun c4 => ?_) (fun c4 => ?_)
    · have h := ite_n c4 h
      refine lv_aload hx hb dX10_does_29 (lv_at hl 0 rfl) ?_
      refine lv_iload_n hx hb dX10_does_31 rfl (lv_at hl 2 rfl) ?_
      refine lv_aload_n hx hb dX10_does_32 rfl (lv_at hl 1 rfl) ?_
      refine gx_0_2 C hK I fl_X10_28 dX10_does_33 ?_
      obtain ⟨r5, S5, e5, h⟩ := obd2_ex h
      refine k_V (As := []) (rest := [.int x1, .ref (ad (33 + v2.val))]) (st1 := [.int r5, .int x1, .ref (ad (33 + v2.val))]) C kx hK I hA (c_X4_tools e5) ⟨Nat.le_of_ble_eq_true rfl, Nat.le_of_ble_eq_true rfl⟩ mv_X4_tools lk_X10_105 3 4 (xw_3 (cI := cI) (ad := ad) (cC := cC) (cS := cS)) rfl rfl hl.1 rfl (Nat.le_of_ble_eq_true rfl) dX10_does_36 rfl (fun H locs I => ?_)
      obtain ⟨r6, S6, e6, h⟩ := obd2_ex h
      refine k_V (As := [.int x1, .int r5]) (rest := []) (st1 := [.int r6]) C kx hK I hA (c_X7_left e6) ⟨Nat.le_of_ble_eq_true rfl, Nat.le_of_ble_eq_true rfl⟩ mv_X7_left lk_X10_165 (33 + v2.val) 7 (xw_S (cI := cI) (cC := cC) (cS := cS) (ad := ad) v2) rfl rfl hl.1 rfl (Nat.le_of_ble_eq_true rfl) dX10_does_39 rfl (fun H locs I => ?_)
      exact rt_i hq h I dX10_does_42
    · have h := ite_t c4 h
      refine lv_bipush (v := (-3)) hx hb dX10_does_26 (by decide) ?_
      exact rt_i hq h I dX10_does_28
  · subst ho
    have h := oel_n h
    have hl : lv_has ls 5 [(4, .null), (0, .ref (ad 0)), (1, .int x1), (2, .int x2), (3, .int x3)] := hl
    refine lv_bipush (v := (-2)) hx hb dX10_does_16 (by decide) ?_
    exact rt_i hq h I dX10_does_18
theorem lk_X10_168 : Cond.methodLink RX10 168 yX4_callWithSorts ∈ TT := tt_of 716 (by decide +kernel) rfl
theorem lk_X10_171 : Cond.methodLink RX10 171 yX10_isPart ∈ TT := tt_of 721 (by decide +kernel) rfl
theorem ms_X10_isPart : MS yX10_isPart cX10_isPart 1 (some .boolean) 1 := ⟨tt_of 723 (by decide +kernel) rfl, tt_of 722 (by decide +kernel) rfl, tt_of 65 (by decide +kernel) rfl, ⟨by decide +kernel, by decide +kernel, by decide +kernel⟩⟩
theorem lk_X10_174 : Cond.methodLink RX10 174 yX1_likelyDone ∈ TT := tt_of 724 (by decide +kernel) rfl
theorem mv_X1_likelyDone : MV yX1_likelyDone cX1_likelyDone 5 (some .int) 1 := ⟨tt_of 727 (by decide +kernel) rfl, tt_of 725 (by decide +kernel) rfl, tt_of 726 (by decide +kernel) rfl, tt_of 69 (by decide +kernel) rfl, ⟨by decide +kernel, by decide +kernel, by decide +kernel⟩⟩
theorem lk_X10_177 : Cond.methodLink RX10 177 yX1_likely ∈ TT := tt_of 730 (by decide +kernel) rfl
theorem lk_X10_179 : Cond.methodLink RX10 179 yX10_lowest ∈ TT := tt_of 734 (by decide +kernel) rfl
theorem ms_X10_lowest : MS yX10_lowest cX10_lowest 12 (some .long) 3 := ⟨tt_of 736 (by decide +kernel) rfl, tt_of 735 (by decide +kernel) rfl, tt_of 65 (by decide +kernel) rfl, ⟨by decide +kernel, by decide +kernel, by decide +kernel⟩⟩
theorem dX10_chance_0 : decode cX10_chance 0 = .ok (.aload_n 0, 1) := by decide +kernel
theorem dX10_chance_1 : decode cX10_chance 1 = .ok (.getfield 28, 3) := by decide +kernel
theorem dX10_chance_4 : decode cX10_chance 4 = .ok (.iload_n 2, 1) := by decide +kernel
theorem dX10_chance_5 : decode cX10_chance 5 = .ok (.invokevirtual 168, 3) := by decide +kernel
theorem dX10_chance_8 : decode cX10_chance 8 = .ok (.astore 4, 2) := by decide +kernel
theorem dX10_chance_10 : decode cX10_chance 10 = .ok (.aload 4, 2) := by decide +kernel
theorem dX10_chance_12 : decode cX10_chance 12 = .ok (.ifnonnull 6, 3) := by decide +kernel
theorem dX10_chance_15 : decode cX10_chance 15 = .ok (.bipush (-2), 2) := by decide +kernel
theorem dX10_chance_17 : decode cX10_chance 17 = .ok (.ireturn, 1) := by decide +kernel
theorem dX10_chance_18 : decode cX10_chance 18 = .ok (.iload_n 1, 1) := by decide +kernel
theorem dX10_chance_19 : decode cX10_chance 19 = .ok (.invokestatic 158, 3) := by decide +kernel
theorem dX10_chance_22 : decode cX10_chance 22 = .ok (.ifCond .eq 10, 3) := by decide +kernel
theorem dX10_chance_25 : decode cX10_chance 25 = .ok (.iload_n 3, 1) := by decide +kernel
theorem dX10_chance_26 : decode cX10_chance 26 = .ok (.invokestatic 171, 3) := by decide +kernel
theorem dX10_chance_29 : decode cX10_chance 29 = .ok (.ifCond .ne 6, 3) := by decide +kernel
theorem dX10_chance_32 : decode cX10_chance 32 = .ok (.bipush (-3), 2) := by decide +kernel
theorem dX10_chance_34 : decode cX10_chance 34 = .ok (.ireturn, 1) := by decide +kernel
theorem dX10_chance_35 : decode cX10_chance 35 = .ok (.aload 4, 2) := by decide +kernel
theorem dX10_chance_37 : decode cX10_chance 37 = .ok (.iload_n 1, 1) := by decide +kernel
theorem dX10_chance_38 : decode cX10_chance 38 = .ok (.invokevirtual 174, 3) := by decide +kernel
theorem dX10_chance_41 : decode cX10_chance 41 = .ok (.i2l, 1) := by decide +kernel
theorem dX10_chance_42 : decode cX10_chance 42 = .ok (.aload 4, 2) := by decide +kernel
theorem dX10_chance_44 : decode cX10_chance 44 = .ok (.invokevirtual 177, 3) := by decide +kernel
theorem dX10_chance_47 : decode cX10_chance 47 = .ok (.i2l, 1) := by decide +kernel
theorem dX10_chance_48 : decode cX10_chance 48 = .ok (.iload_n 3, 1) := by decide +kernel
theorem dX10_chance_49 : decode cX10_chance 49 = .ok (.invokestatic 179, 3) := by decide +kernel
theorem dX10_chance_52 : decode cX10_chance 52 = .ok (.l2i, 1) := by decide +kernel
theorem dX10_chance_53 : decode cX10_chance 53 = .ok (.ireturn, 1) := by decide +kernel
def f_X10_chance (S : St) (x1 : Int32) (x2 : Int32) (x3 : Int32) : Option (Int32 × St) :=
  obd2 (f_X4_callWithSorts S x2) fun r1 S1 =>
  oel r1 (
    some ((-2), S1)
  ) fun v2 =>
    obd2 (f_X10_isBag S1 x1) fun r3 S3 =>
    if r3 = 0 then (
      some ((-3), S3)
    ) else (
      obd2 (f_X10_isPart S3 x3) fun r5 S5 =>
      if r5 = 0 then (
        some ((-3), S5)
      ) else (
        obd2 (f_X1_likelyDone S5 v2 x1) fun r7 S7 =>
        obd2 (f_X1_likely S7 v2) fun r8 S8 =>
        obd2 (f_X10_lowest S8 (r7.toInt64) (r8.toInt64) x3) fun r9 S9 =>
        some ((r9.toInt32), S9)
      )
    )
set_option maxHeartbeats 4000000 in
set_option maxRecDepth 100000 in
theorem c_X10_chance {l : Launch} {D : va_G} {cI cC cS : ClassId} {ad adK adV : Nat → Nat} {S S1 : St} {x1 : Int32} {x2 : Int32} {x3 : Int32} {r : Int32} (h : f_X10_chance S x1 x2 x3 = some (r, S1)) : Kt l D (xw cI cC cS ad) (KX D (xtys cI cC cS) adK adV) yX10_chance cX10_chance 5 (some .int) (3) (65) [.ref (ad 0), .int x1, .int x2, .int x3] S (some (.int r)) S1 := by
  refine k_ent (ins := .ireturn) (st := [.int r]) (by decide +kernel) (Nat.le_of_ble_eq_true rfl) ret_i ?_
  intro p e s m args below meth c A Q C hK I hA hq ls hl
  have C : CallFix p m c cX10_chance 5 s args TT RX10 := C
  have hx := C.1
  have hb := C.2.1
  have kx := kx_ok D (xtys cI cC cS) adK adV
  have hl : lv_has ls 5 [(0, .ref (ad 0)), (1, .int x1), (2, .int x2), (3, .int x3)] := hl
  unfold f_X10_chance at h
  refine lv_aload_n hx hb dX10_chance_0 rfl (lv_at hl 0 rfl) ?_
  refine gx_0_2 C hK I fl_X10_28 dX10_chance_1 ?_
  refine lv_iload_n hx hb dX10_chance_4 rfl (lv_at hl 2 rfl) ?_
  obtain ⟨r1, S1, e1, h⟩ := obd2_ex h
  refine k_V (As := [.int x2]) (rest := []) (st1 := [rC ad r1]) C kx hK I hA (c_X4_callWithSorts e1) ⟨Nat.le_of_ble_eq_true rfl, Nat.le_of_ble_eq_true rfl⟩ mv_X4_callWithSorts lk_X10_168 3 4 (xw_3 (cI := cI) (ad := ad) (cC := cC) (cS := cS)) rfl rfl hl.1 rfl (Nat.le_of_ble_eq_true rfl) dX10_chance_5 rfl (fun H locs I => ?_)
  refine k_astore _ (lv' := [(4, rC ad r1), (0, .ref (ad 0)), (1, .int x1), (2, .int x2), (3, .int x3)]) hx hb dX10_chance_8 rfl hl (by decide) rfl (fun ls hl => ?_)
  refine k_aload _ hx hb dX10_chance_10 rfl (lv_at hl 0 rfl) ?_
  refine k_ifnn hx hb dX10_chance_12 (tgt := 18) (by decide) (fun v2 ho => ?_) (fun ho => ?_)
  · subst ho
    have h := oel_s h
    have hl : lv_has ls 5 [(4, .ref (ad (21 + v2.val))), (0, .ref (ad 0)), (1, .int x1), (2, .int x2), (3, .int x3)] := hl
    refine lv_iload_n hx hb dX10_chance_18 rfl (lv_at hl 2 rfl) ?_
    obtain ⟨r3, S3, e3, h⟩ := obd2_ex h
    refine k_S (As := [.int x1]) (rest := []) (st1 := [.int r3]) C kx hK I hA (c_X10_isBag e3) ⟨Nat.le_of_ble_eq_true rfl, Nat.le_of_ble_eq_true rfl⟩ ms_X10_isBag lk_X10_158 rfl hl.1 rfl (Nat.le_of_ble_eq_true rfl) dX10_chance_19 rfl (fun H locs I => ?_)
    refine lv_if_eq (tgt := 32) hx hb dX10_chance_22 (by decide) (fun c4 => ?_) (fun c4 => ?_)
    · have h := ite_t c4 h
      refine lv_bipush (v := (-3)) hx hb dX10_chance_32 (by decide) ?_
      exact rt_i hq h I dX10_chance_34
    · have h := ite_n c4 h
      refine lv_iload_n hx hb dX10_chance_25 rfl (lv_at hl 4 rfl) ?_
      obtain ⟨r5, S5, e5, h⟩ := obd2_ex h
      refine k_S (As := [.int x3]) (rest := []) (st1 := [.int r5]) C kx hK I hA (c_X10_isPart e5) ⟨Nat.le_of_ble_eq_true rfl, Nat.le_of_ble_eq_true rfl⟩ ms_X10_isPart lk_X10_171 rfl hl.1 rfl (Nat.le_of_ble_eq_true rfl) dX10_chance_26 rfl (fun H locs I => ?_)
      refine lv_if_ne (tgt := 35) hx hb dX10_chance_29 (by decide) (fun c6 => ?_) (fun c6 => ?_)
      · have h := ite_n c6 h
        refine lv_aload hx hb dX10_chance_35 (lv_at hl 0 rfl) ?_
        refine lv_iload_n hx hb dX10_chance_37 rfl (lv_at hl 2 rfl) ?_
        obtain ⟨r7, S7, e7, h⟩ := obd2_ex h
        refine k_V (As := [.int x1]) (rest := []) (st1 := [.int r7]) C kx hK I hA (c_X1_likelyDone e7) ⟨Nat.le_of_ble_eq_true rfl, Nat.le_of_ble_eq_true rfl⟩ mv_X1_likelyDone lk_X10_174 (21 + v2.val) 1 (xw_C (cI := cI) (cC := cC) (cS := cS) (ad := ad) v2) rfl rfl hl.1 rfl (Nat.le_of_ble_eq_true rfl) dX10_chance_38 rfl (fun H locs I => ?_)
        refine lv_i2l hx hb dX10_chance_41 rfl ?_
        refine lv_aload hx hb dX10_chance_42 (lv_at hl 0 rfl) ?_
        obtain ⟨r8, S8, e8, h⟩ := obd2_ex h
        refine k_V (As := []) (rest := [.long (r7.toInt64)]) (st1 := [.int r8, .long (r7.toInt64)]) C kx hK I hA (c_X1_likely e8) ⟨Nat.le_of_ble_eq_true rfl, Nat.le_of_ble_eq_true rfl⟩ mv_X1_likely lk_X10_177 (21 + v2.val) 1 (xw_C (cI := cI) (cC := cC) (cS := cS) (ad := ad) v2) rfl rfl hl.1 rfl (Nat.le_of_ble_eq_true rfl) dX10_chance_44 rfl (fun H locs I => ?_)
        refine lv_i2l hx hb dX10_chance_47 rfl ?_
        refine lv_iload_n hx hb dX10_chance_48 rfl (lv_at hl 4 rfl) ?_
        obtain ⟨r9, S9, e9, h⟩ := obd2_ex h
        refine k_S (As := [.long (r7.toInt64), .long (r8.toInt64), .int x3]) (rest := []) (st1 := [.long r9]) C kx hK I hA (c_X10_lowest e9) ⟨Nat.le_of_ble_eq_true rfl, Nat.le_of_ble_eq_true rfl⟩ ms_X10_lowest lk_X10_179 rfl hl.1 rfl (Nat.le_of_ble_eq_true rfl) dX10_chance_49 rfl (fun H locs I => ?_)
        refine lv_l2i hx hb dX10_chance_52 rfl ?_
        exact rt_i hq h I dX10_chance_53
      · have h := ite_t c6 h
        refine lv_bipush (v := (-3)) hx hb dX10_chance_32 (by decide) ?_
        exact rt_i hq h I dX10_chance_34
  · subst ho
    have h := oel_n h
    have hl : lv_has ls 5 [(4, .null), (0, .ref (ad 0)), (1, .int x1), (2, .int x2), (3, .int x3)] := hl
    refine lv_bipush (v := (-2)) hx hb dX10_chance_15 (by decide) ?_
    exact rt_i hq h I dX10_chance_17
theorem fl_X10_37 : Cond.fieldLink RX10 37 RX10 "rows" "LCarryUp$Row;" ∈ TT := tt_of 387 (by decide +kernel) rfl
theorem lk_X10_215 : Cond.methodLink RX10 215 yX6_tell ∈ TT := tt_of 748 (by decide +kernel) rfl
theorem lk_X10_222 : Cond.methodLink RX10 222 yX6_hasTwice ∈ TT := tt_of 763 (by decide +kernel) rfl
theorem dX10_refusal_0 : decode cX10_refusal 0 = .ok (.aload_n 0, 1) := by decide +kernel
theorem dX10_refusal_1 : decode cX10_refusal 1 = .ok (.getfield 37, 3) := by decide +kernel
theorem dX10_refusal_4 : decode cX10_refusal 4 = .ok (.iload_n 1, 1) := by decide +kernel
theorem dX10_refusal_5 : decode cX10_refusal 5 = .ok (.iload_n 2, 1) := by decide +kernel
theorem dX10_refusal_6 : decode cX10_refusal 6 = .ok (.invokevirtual 215, 3) := by decide +kernel
theorem dX10_refusal_9 : decode cX10_refusal 9 = .ok (.istore 4, 2) := by decide +kernel
theorem dX10_refusal_11 : decode cX10_refusal 11 = .ok (.iload 4, 2) := by decide +kernel
theorem dX10_refusal_13 : decode cX10_refusal 13 = .ok (.ifCond .eq 6, 3) := by decide +kernel
theorem dX10_refusal_16 : decode cX10_refusal 16 = .ok (.iload 4, 2) := by decide +kernel
theorem dX10_refusal_18 : decode cX10_refusal 18 = .ok (.ireturn, 1) := by decide +kernel
theorem dX10_refusal_19 : decode cX10_refusal 19 = .ok (.aload_n 0, 1) := by decide +kernel
theorem dX10_refusal_20 : decode cX10_refusal 20 = .ok (.getfield 37, 3) := by decide +kernel
theorem dX10_refusal_23 : decode cX10_refusal 23 = .ok (.invokevirtual 222, 3) := by decide +kernel
theorem dX10_refusal_26 : decode cX10_refusal 26 = .ok (.ifCond .ne 7, 3) := by decide +kernel
theorem dX10_refusal_29 : decode cX10_refusal 29 = .ok (.iload_n 3, 1) := by decide +kernel
theorem dX10_refusal_30 : decode cX10_refusal 30 = .ok (.ifCond .ne 8, 3) := by decide +kernel
theorem dX10_refusal_33 : decode cX10_refusal 33 = .ok (.bipush (-3), 2) := by decide +kernel
theorem dX10_refusal_35 : decode cX10_refusal 35 = .ok (.goto 4, 3) := by decide +kernel
theorem dX10_refusal_38 : decode cX10_refusal 38 = .ok (.iconst 0, 1) := by decide +kernel
theorem dX10_refusal_39 : decode cX10_refusal 39 = .ok (.ireturn, 1) := by decide +kernel
def f_X10_refusal_33 (S : St)  : Option (Int32 × St) :=
  some ((-3), S)
def f_X10_refusal (S : St) (x1 : Int32) (x2 : Int32) (x3 : Int32) : Option (Int32 × St) :=
  obd2 (f_X6_tell S x1 x2) fun r1 S1 =>
  if r1 = 0 then (
    obd2 (f_X6_hasTwice S1 ) fun r3 S3 =>
    if r3 = 0 then (
      if x3 = 0 then (
        f_X10_refusal_33 S3 
      ) else (
        some (0, S3)
      )
    ) else (
      f_X10_refusal_33 S3 
    )
  ) else (
    some (r1, S1)
  )
set_option maxHeartbeats 4000000 in
set_option maxRecDepth 100000 in
theorem c_X10_refusal {l : Launch} {D : va_G} {cI cC cS : ClassId} {ad adK adV : Nat → Nat} {S S1 : St} {x1 : Int32} {x2 : Int32} {x3 : Int32} {r : Int32} (h : f_X10_refusal S x1 x2 x3 = some (r, S1)) : Kt l D (xw cI cC cS ad) (KX D (xtys cI cC cS) adK adV) yX10_refusal cX10_refusal 5 (some .int) (4) (92) [.ref (ad 0), .int x1, .int x2, .int x3] S (some (.int r)) S1 := by
  refine k_ent (ins := .ireturn) (st := [.int r]) (by decide +kernel) (Nat.le_of_ble_eq_true rfl) ret_i ?_
  intro p e s m args below meth c A Q C hK I hA hq ls hl
  have C : CallFix p m c cX10_refusal 5 s args TT RX10 := C
  have hx := C.1
  have hb := C.2.1
  have kx := kx_ok D (xtys cI cC cS) adK adV
  have hl : lv_has ls 5 [(0, .ref (ad 0)), (1, .int x1), (2, .int x2), (3, .int x3)] := hl
  have J_33 : ∀ (S : St) , f_X10_refusal_33  S  = some (r, S1) → ∀ (H : Heap) (locs : List Loc) (ls : Array Slot), Iv D (xw cI cC cS ad) S A s H locs → lv_has ls 5 [] → W p l e ({ frames := 4, cells := 0, slots := 0, locals := 92 } : Room) s m args below meth c H locs 0 0 Q (F0 m 33 ls []) := by
    intro  S  h H locs ls I hl
    unfold f_X10_refusal_33 at h
    refine lv_bipush (v := (-3)) hx hb dX10_refusal_33 (by decide) ?_
    refine lv_goto (tgt := 39) hx hb dX10_refusal_35 (by decide) ?_
    exact rt_i hq h I dX10_refusal_39
  unfold f_X10_refusal at h
  refine lv_aload_n hx hb dX10_refusal_0 rfl (lv_at hl 0 rfl) ?_
  refine gx_0_3 C hK I fl_X10_37 dX10_refusal_1 ?_
  refine lv_iload_n hx hb dX10_refusal_4 rfl (lv_at hl 1 rfl) ?_
  refine lv_iload_n hx hb dX10_refusal_5 rfl (lv_at hl 2 rfl) ?_
  obtain ⟨r1, S1, e1, h⟩ := obd2_ex h
  refine k_V (As := [.int x1, .int x2]) (rest := []) (st1 := [.int r1]) C kx hK I hA (c_X6_tell e1) ⟨Nat.le_of_ble_eq_true rfl, Nat.le_of_ble_eq_true rfl⟩ mv_X6_tell lk_X10_215 4 6 (xw_4 (cI := cI) (ad := ad) (cC := cC) (cS := cS)) rfl rfl hl.1 rfl (Nat.le_of_ble_eq_true rfl) dX10_refusal_6 rfl (fun H locs I => ?_)
  refine lv_istore (lv' := [(4, .int r1), (0, .ref (ad 0)), (1, .int x1), (2, .int x2), (3, .int x3)]) hx hb dX10_refusal_9 hl (by decide) rfl (fun ls hl => ?_)
  refine lv_iload hx hb dX10_refusal_11 (lv_at hl 0 rfl) ?_
  refine lv_if_eq (tgt := 19) hx hb dX10_refusal_13 (by decide) (fun c2 => ?_) (fun c2 => ?_)
  · have h := ite_t c2 h
    refine lv_aload_n hx hb dX10_refusal_19 rfl (lv_at hl 1 rfl) ?_
    refine gx_0_3 C hK I fl_X10_37 dX10_refusal_20 ?_
    obtain ⟨r3, S3, e3, h⟩ := obd2_ex h
    refine k_V (As := []) (rest := []) (st1 := [.int r3]) C kx hK I hA (c_X6_hasTwice e3) ⟨Nat.le_of_ble_eq_true rfl, Nat.le_of_ble_eq_true rfl⟩ mv_X6_hasTwice lk_X10_222 4 6 (xw_4 (cI := cI) (ad := ad) (cC := cC) (cS := cS)) rfl rfl hl.1 rfl (Nat.le_of_ble_eq_true rfl) dX10_refusal_23 rfl (fun H locs I => ?_)
    refine lv_if_ne (tgt := 33) hx hb dX10_refusal_26 (by decide) (fun c4 => ?_) (fun c4 => ?_)
    · have h := ite_n c4 h
      exact J_33 _  h _ _ _ I (lv_sub hl [] rfl)
    · have h := ite_t c4 h
      refine lv_iload_n hx hb dX10_refusal_29 rfl (lv_at hl 4 rfl) ?_
      refine lv_if_ne (tgt := 38) hx hb dX10_refusal_30 (by decide) (fun c5 => ?_) (fun c5 => ?_)
      · have h := ite_n c5 h
        refine lv_iconst (v := 0) hx hb dX10_refusal_38 (by decide) ?_
        exact rt_i hq h I dX10_refusal_39
      · have h := ite_t c5 h
        exact J_33 _  h _ _ _ I (lv_sub hl [] rfl)
  · have h := ite_n c2 h
    refine lv_iload hx hb dX10_refusal_16 (lv_at hl 0 rfl) ?_
    exact rt_i hq h I dX10_refusal_18
theorem lk_X10_183 : Cond.methodLink RX10 183 yX10_refusal ∈ TT := tt_of 744 (by decide +kernel) rfl
theorem mv_X10_refusal : MV yX10_refusal cX10_refusal 5 (some .int) 3 := ⟨tt_of 747 (by decide +kernel) rfl, tt_of 746 (by decide +kernel) rfl, tt_of 17 (by decide +kernel) rfl, tt_of 65 (by decide +kernel) rfl, ⟨by decide +kernel, by decide +kernel, by decide +kernel⟩⟩
theorem fl_X10_46 : Cond.fieldLink RX10 46 RX10 "walk" "LCarryUp$Walk;" ∈ TT := tt_of 388 (by decide +kernel) rfl
theorem lk_X10_189 : Cond.methodLink RX10 189 yX9_take ∈ TT := tt_of 769 (by decide +kernel) rfl
theorem lk_X10_193 : Cond.methodLink RX10 193 yX9_sum ∈ TT := tt_of 823 (by decide +kernel) rfl
theorem lk_X10_197 : Cond.methodLink RX10 197 yX9_scale ∈ TT := tt_of 827 (by decide +kernel) rfl
theorem cn_X10_187 : Cond.constantLong RX10 187 ((-9000000000000000000)) ∈ TT := tt_of 768 (by decide +kernel) rfl
theorem dX10_mean_0 : decode cX10_mean 0 = .ok (.aload_n 0, 1) := by decide +kernel
theorem dX10_mean_1 : decode cX10_mean 1 = .ok (.iload_n 2, 1) := by decide +kernel
theorem dX10_mean_2 : decode cX10_mean 2 = .ok (.iload_n 3, 1) := by decide +kernel
theorem dX10_mean_3 : decode cX10_mean 3 = .ok (.iload_n 1, 1) := by decide +kernel
theorem dX10_mean_4 : decode cX10_mean 4 = .ok (.invokestatic 158, 3) := by decide +kernel
theorem dX10_mean_7 : decode cX10_mean 7 = .ok (.ifCond .eq 15, 3) := by decide +kernel
theorem dX10_mean_10 : decode cX10_mean 10 = .ok (.iload 4, 2) := by decide +kernel
theorem dX10_mean_12 : decode cX10_mean 12 = .ok (.invokestatic 171, 3) := by decide +kernel
theorem dX10_mean_15 : decode cX10_mean 15 = .ok (.ifCond .eq 7, 3) := by decide +kernel
theorem dX10_mean_18 : decode cX10_mean 18 = .ok (.iconst 1, 1) := by decide +kernel
theorem dX10_mean_19 : decode cX10_mean 19 = .ok (.goto 4, 3) := by decide +kernel
theorem dX10_mean_22 : decode cX10_mean 22 = .ok (.iconst 0, 1) := by decide +kernel
theorem dX10_mean_23 : decode cX10_mean 23 = .ok (.invokevirtual 183, 3) := by decide +kernel
theorem dX10_mean_26 : decode cX10_mean 26 = .ok (.istore 5, 2) := by decide +kernel
theorem dX10_mean_28 : decode cX10_mean 28 = .ok (.iload 5, 2) := by decide +kernel
theorem dX10_mean_30 : decode cX10_mean 30 = .ok (.ifCond .eq 11, 3) := by decide +kernel
theorem dX10_mean_33 : decode cX10_mean 33 = .ok (.ldc2_w 187, 3) := by decide +kernel
theorem dX10_mean_36 : decode cX10_mean 36 = .ok (.iload 5, 2) := by decide +kernel
theorem dX10_mean_38 : decode cX10_mean 38 = .ok (.i2l, 1) := by decide +kernel
theorem dX10_mean_39 : decode cX10_mean 39 = .ok (.lsub, 1) := by decide +kernel
theorem dX10_mean_40 : decode cX10_mean 40 = .ok (.lreturn, 1) := by decide +kernel
theorem dX10_mean_41 : decode cX10_mean 41 = .ok (.aload_n 0, 1) := by decide +kernel
theorem dX10_mean_42 : decode cX10_mean 42 = .ok (.getfield 46, 3) := by decide +kernel
theorem dX10_mean_45 : decode cX10_mean 45 = .ok (.iload_n 1, 1) := by decide +kernel
theorem dX10_mean_46 : decode cX10_mean 46 = .ok (.invokevirtual 189, 3) := by decide +kernel
theorem dX10_mean_49 : decode cX10_mean 49 = .ok (.aload_n 0, 1) := by decide +kernel
theorem dX10_mean_50 : decode cX10_mean 50 = .ok (.getfield 46, 3) := by decide +kernel
theorem dX10_mean_53 : decode cX10_mean 53 = .ok (.invokevirtual 193, 3) := by decide +kernel
theorem dX10_mean_56 : decode cX10_mean 56 = .ok (.aload_n 0, 1) := by decide +kernel
theorem dX10_mean_57 : decode cX10_mean 57 = .ok (.getfield 46, 3) := by decide +kernel
theorem dX10_mean_60 : decode cX10_mean 60 = .ok (.invokevirtual 197, 3) := by decide +kernel
theorem dX10_mean_63 : decode cX10_mean 63 = .ok (.iload 4, 2) := by decide +kernel
theorem dX10_mean_65 : decode cX10_mean 65 = .ok (.invokestatic 179, 3) := by decide +kernel
theorem dX10_mean_68 : decode cX10_mean 68 = .ok (.lreturn, 1) := by decide +kernel
def f_X10_mean_23 (S : St) (x1 : Int32) (x4 : Int32) (t1 : Int32) (t2 : Int32) (t3 : Int32) : Option (Int64 × St) :=
  obd2 (f_X10_refusal S t1 t2 t3) fun r1 S1 =>
  if r1 = 0 then (
    obd (f_X9_take S1 x1) fun S3 =>
    obd2 (f_X9_sum S3 ) fun r4 S4 =>
    obd2 (f_X9_scale S4 ) fun r5 S5 =>
    obd2 (f_X10_lowest S5 r4 r5 x4) fun r6 S6 =>
    some (r6, S6)
  ) else (
    some (((-9000000000000000000) - (r1.toInt64)), S1)
  )
def f_X10_mean_22 (S : St) (x1 : Int32) (x4 : Int32) (t1 : Int32) (t2 : Int32) : Option (Int64 × St) :=
  f_X10_mean_23 S x1 x4 t1 t2 0
def f_X10_mean (S : St) (x1 : Int32) (x2 : Int32) (x3 : Int32) (x4 : Int32) : Option (Int64 × St) :=
  obd2 (f_X10_isBag S x1) fun r7 S7 =>
  if r7 = 0 then (
    f_X10_mean_22 S7 x1 x4 x2 x3
  ) else (
    obd2 (f_X10_isPart S7 x4) fun r9 S9 =>
    if r9 = 0 then (
      f_X10_mean_22 S9 x1 x4 x2 x3
    ) else (
      f_X10_mean_23 S9 x1 x4 x2 x3 1
    )
  )
set_option maxHeartbeats 4000000 in
set_option maxRecDepth 100000 in
theorem c_X10_mean {l : Launch} {D : va_G} {cI cC cS : ClassId} {ad adK adV : Nat → Nat} {S S1 : St} {x1 : Int32} {x2 : Int32} {x3 : Int32} {x4 : Int32} {r : Int64} (h : f_X10_mean S x1 x2 x3 x4 = some (r, S1)) : Kt l D (xw cI cC cS ad) (KX D (xtys cI cC cS) adK adV) yX10_mean cX10_mean 6 (some .long) (18) (441) [.ref (ad 0), .int x1, .int x2, .int x3, .int x4] S (some (.long r)) S1 := by
  refine k_ent (ins := .lreturn) (st := [.long r]) (by decide +kernel) (Nat.le_of_ble_eq_true rfl) ret_l ?_
  intro p e s m args below meth c A Q C hK I hA hq ls hl
  have C : CallFix p m c cX10_mean 6 s args TT RX10 := C
  have hx := C.1
  have hb := C.2.1
  have kx := kx_ok D (xtys cI cC cS) adK adV
  have hl : lv_has ls 6 [(0, .ref (ad 0)), (1, .int x1), (2, .int x2), (3, .int x3), (4, .int x4)] := hl
  have J_23 : ∀ (S : St) (x1 : Int32) (x4 : Int32) (t1 : Int32) (t2 : Int32) (t3 : Int32), f_X10_mean_23  S x1 x4 t1 t2 t3 = some (r, S1) → ∀ (H : Heap) (locs : List Loc) (ls : Array Slot), Iv D (xw cI cC cS ad) S A s H locs → lv_has ls 6 [(0, .ref (ad 0)), (1, .int x1), (4, .int x4)] → W p l e ({ frames := 18, cells := 0, slots := 0, locals := 441 } : Room) s m args below meth c H locs 0 0 Q (F0 m 23 ls [.int t3, .int t2, .int t1, .ref (ad 0)]) := by
    intro  S x1 x4 t1 t2 t3 h H locs ls I hl
    unfold f_X10_mean_23 at h
    obtain ⟨r1, S1, e1, h⟩ := obd2_ex h
    refine k_V (As := [.int t1, .int t2, .int t3]) (rest := []) (st1 := [.int r1]) C kx hK I hA (c_X10_refusal e1) ⟨Nat.le_of_ble_eq_true rfl, Nat.le_of_ble_eq_true rfl⟩ mv_X10_refusal lk_X10_183 0 10 (xw_0 (cI := cI) (ad := ad) (cC := cC) (cS := cS)) rfl rfl hl.1 rfl (Nat.le_of_ble_eq_true rfl) dX10_mean_23 rfl (fun H locs I => ?_)
    refine lv_istore (lv' := [(5, .int r1), (0, .ref (ad 0)), (1, .int x1), (4, .int x4)]) hx hb dX10_mean_26 hl (by decide) rfl (fun ls hl => ?_)
    refine lv_iload hx hb dX10_mean_28 (lv_at hl 0 rfl) ?_
    refine lv_if_eq (tgt := 41) hx hb dX10_mean_30 (by decide) (fun c2 => ?_) (fun c2 => ?_)
    · have h := ite_t c2 h
      refine lv_aload_n hx hb dX10_mean_41 rfl (lv_at hl 1 rfl) ?_
      refine gx_0_4 C hK I fl_X10_46 dX10_mean_42 ?_
      refine lv_iload_n hx hb dX10_mean_45 rfl (lv_at hl 2 rfl) ?_
      obtain ⟨S3, e3, h⟩ := obd_ex h
      refine k_V (As := [.int x1]) (rest := []) (st1 := []) C kx hK I hA (c_X9_take e3) ⟨Nat.le_of_ble_eq_true rfl, Nat.le_of_ble_eq_true rfl⟩ mv_X9_take lk_X10_189 5 9 (xw_5 (cI := cI) (ad := ad) (cC := cC) (cS := cS)) rfl rfl hl.1 rfl (Nat.le_of_ble_eq_true rfl) dX10_mean_46 rfl (fun H locs I => ?_)
      refine lv_aload_n hx hb dX10_mean_49 rfl (lv_at hl 1 rfl) ?_
      refine gx_0_4 C hK I fl_X10_46 dX10_mean_50 ?_
      obtain ⟨r4, S4, e4, h⟩ := obd2_ex h
      refine k_V (As := []) (rest := []) (st1 := [.long r4]) C kx hK I hA (c_X9_sum e4) ⟨Nat.le_of_ble_eq_true rfl, Nat.le_of_ble_eq_true rfl⟩ mv_X9_sum lk_X10_193 5 9 (xw_5 (cI := cI) (ad := ad) (cC := cC) (cS := cS)) rfl rfl hl.1 rfl (Nat.le_of_ble_eq_true rfl) dX10_mean_53 rfl (fun H locs I => ?_)
      refine lv_aload_n hx hb dX10_mean_56 rfl (lv_at hl 1 rfl) ?_
      refine gx_0_4 C hK I fl_X10_46 dX10_mean_57 ?_
      obtain ⟨r5, S5, e5, h⟩ := obd2_ex h
      refine k_V (As := []) (rest := [.long r4]) (st1 := [.long r5, .long r4]) C kx hK I hA (c_X9_scale e5) ⟨Nat.le_of_ble_eq_true rfl, Nat.le_of_ble_eq_true rfl⟩ mv_X9_scale lk_X10_197 5 9 (xw_5 (cI := cI) (ad := ad) (cC := cC) (cS := cS)) rfl rfl hl.1 rfl (Nat.le_of_ble_eq_true rfl) dX10_mean_60 rfl (fun H locs I => ?_)
      refine lv_iload hx hb dX10_mean_63 (lv_at hl 3 rfl) ?_
      obtain ⟨r6, S6, e6, h⟩ := obd2_ex h
      refine k_S (As := [.long r4, .long r5, .int x4]) (rest := []) (st1 := [.long r6]) C kx hK I hA (c_X10_lowest e6) ⟨Nat.le_of_ble_eq_true rfl, Nat.le_of_ble_eq_true rfl⟩ ms_X10_lowest lk_X10_179 rfl hl.1 rfl (Nat.le_of_ble_eq_true rfl) dX10_mean_65 rfl (fun H locs I => ?_)
      exact rt_l hq h I dX10_mean_68
    · have h := ite_n c2 h
      refine lv_ldc2 (v := (-9000000000000000000)) hx hb C.2.2.2.1 (C.2.2.2.2 _ cn_X10_187) dX10_mean_33 ?_
      refine lv_iload hx hb dX10_mean_36 (lv_at hl 0 rfl) ?_
      refine lv_i2l hx hb dX10_mean_38 rfl ?_
      refine lv_lsub hx hb dX10_mean_39 ?_
      exact rt_l hq h I dX10_mean_40
  have J_22 : ∀ (S : St) (x1 : Int32) (x4 : Int32) (t1 : Int32) (t2 : Int32), f_X10_mean_22  S x1 x4 t1 t2 = some (r, S1) → ∀ (H : Heap) (locs : List Loc) (ls : Array Slot), Iv D (xw cI cC cS ad) S A s H locs → lv_has ls 6 [(0, .ref (ad 0)), (1, .int x1), (4, .int x4)] → W p l e ({ frames := 18, cells := 0, slots := 0, locals := 441 } : Room) s m args below meth c H locs 0 0 Q (F0 m 22 ls [.int t2, .int t1, .ref (ad 0)]) := by
    intro  S x1 x4 t1 t2 h H locs ls I hl
    unfold f_X10_mean_22 at h
    refine lv_iconst (v := 0) hx hb dX10_mean_22 (by decide) ?_
    exact J_23 _ _ _ _ _ _ h _ _ _ I (lv_sub hl [0, 1, 2] rfl)
  unfold f_X10_mean at h
  refine lv_aload_n hx hb dX10_mean_0 rfl (lv_at hl 0 rfl) ?_
  refine lv_iload_n hx hb dX10_mean_1 rfl (lv_at hl 2 rfl) ?_
  refine lv_iload_n hx hb dX10_mean_2 rfl (lv_at hl 3 rfl) ?_
  refine lv_iload_n hx hb dX10_mean_3 rfl (lv_at hl 1 rfl) ?_
  obtain ⟨r7, S7, e7, h⟩ := obd2_ex h
  refine k_S (As := [.int x1]) (rest := [.int x3, .int x2, .ref (ad 0)]) (st1 := [.int r7, .int x3, .int x2, .ref (ad 0)]) C kx hK I hA (c_X10_isBag e7) ⟨Nat.le_of_ble_eq_true rfl, Nat.le_of_ble_eq_true rfl⟩ ms_X10_isBag lk_X10_158 rfl hl.1 rfl (Nat.le_of_ble_eq_true rfl) dX10_mean_4 rfl (fun H locs I => ?_)
  refine lv_if_eq (tgt := 22) hx hb dX10_mean_7 (by decide) (fun c8 => ?_) (fun c8 => ?_)
  · have h := ite_t c8 h
    exact J_22 _ _ _ _ _ h _ _ _ I (lv_sub hl [0, 1, 4] rfl)
  · have h := ite_n c8 h
    refine lv_iload hx hb dX10_mean_10 (lv_at hl 4 rfl) ?_
    obtain ⟨r9, S9, e9, h⟩ := obd2_ex h
    refine k_S (As := [.int x4]) (rest := [.int x3, .int x2, .ref (ad 0)]) (st1 := [.int r9, .int x3, .int x2, .ref (ad 0)]) C kx hK I hA (c_X10_isPart e9) ⟨Nat.le_of_ble_eq_true rfl, Nat.le_of_ble_eq_true rfl⟩ ms_X10_isPart lk_X10_171 rfl hl.1 rfl (Nat.le_of_ble_eq_true rfl) dX10_mean_12 rfl (fun H locs I => ?_)
    refine lv_if_eq (tgt := 22) hx hb dX10_mean_15 (by decide) (fun c10 => ?_) (fun c10 => ?_)
    · have h := ite_t c10 h
      exact J_22 _ _ _ _ _ h _ _ _ I (lv_sub hl [0, 1, 4] rfl)
    · have h := ite_n c10 h
      refine lv_iconst (v := 1) hx hb dX10_mean_18 (by decide) ?_
      refine lv_goto (tgt := 23) hx hb dX10_mean_19 (by decide) ?_
      exact J_23 _ _ _ _ _ _ h _ _ _ I (lv_sub hl [0, 1, 4] rfl)
theorem lk_X10_200 : Cond.methodLink RX10 200 yX9_allDone ∈ TT := tt_of 835 (by decide +kernel) rfl
theorem dX10_all_0 : decode cX10_all 0 = .ok (.aload_n 0, 1) := by decide +kernel
theorem dX10_all_1 : decode cX10_all 1 = .ok (.iload_n 2, 1) := by decide +kernel
theorem dX10_all_2 : decode cX10_all 2 = .ok (.iload_n 3, 1) := by decide +kernel
theorem dX10_all_3 : decode cX10_all 3 = .ok (.iload_n 1, 1) := by decide +kernel
theorem dX10_all_4 : decode cX10_all 4 = .ok (.invokestatic 158, 3) := by decide +kernel
theorem dX10_all_7 : decode cX10_all 7 = .ok (.ifCond .eq 15, 3) := by decide +kernel
theorem dX10_all_10 : decode cX10_all 10 = .ok (.iload 4, 2) := by decide +kernel
theorem dX10_all_12 : decode cX10_all 12 = .ok (.invokestatic 171, 3) := by decide +kernel
theorem dX10_all_15 : decode cX10_all 15 = .ok (.ifCond .eq 7, 3) := by decide +kernel
theorem dX10_all_18 : decode cX10_all 18 = .ok (.iconst 1, 1) := by decide +kernel
theorem dX10_all_19 : decode cX10_all 19 = .ok (.goto 4, 3) := by decide +kernel
theorem dX10_all_22 : decode cX10_all 22 = .ok (.iconst 0, 1) := by decide +kernel
theorem dX10_all_23 : decode cX10_all 23 = .ok (.invokevirtual 183, 3) := by decide +kernel
theorem dX10_all_26 : decode cX10_all 26 = .ok (.istore 5, 2) := by decide +kernel
theorem dX10_all_28 : decode cX10_all 28 = .ok (.iload 5, 2) := by decide +kernel
theorem dX10_all_30 : decode cX10_all 30 = .ok (.ifCond .eq 7, 3) := by decide +kernel
theorem dX10_all_33 : decode cX10_all 33 = .ok (.iload 5, 2) := by decide +kernel
theorem dX10_all_35 : decode cX10_all 35 = .ok (.i2l, 1) := by decide +kernel
theorem dX10_all_36 : decode cX10_all 36 = .ok (.lreturn, 1) := by decide +kernel
theorem dX10_all_37 : decode cX10_all 37 = .ok (.aload_n 0, 1) := by decide +kernel
theorem dX10_all_38 : decode cX10_all 38 = .ok (.getfield 46, 3) := by decide +kernel
theorem dX10_all_41 : decode cX10_all 41 = .ok (.iload_n 1, 1) := by decide +kernel
theorem dX10_all_42 : decode cX10_all 42 = .ok (.invokevirtual 189, 3) := by decide +kernel
theorem dX10_all_45 : decode cX10_all 45 = .ok (.aload_n 0, 1) := by decide +kernel
theorem dX10_all_46 : decode cX10_all 46 = .ok (.getfield 46, 3) := by decide +kernel
theorem dX10_all_49 : decode cX10_all 49 = .ok (.invokevirtual 200, 3) := by decide +kernel
theorem dX10_all_52 : decode cX10_all 52 = .ok (.aload_n 0, 1) := by decide +kernel
theorem dX10_all_53 : decode cX10_all 53 = .ok (.getfield 46, 3) := by decide +kernel
theorem dX10_all_56 : decode cX10_all 56 = .ok (.invokevirtual 197, 3) := by decide +kernel
theorem dX10_all_59 : decode cX10_all 59 = .ok (.iload 4, 2) := by decide +kernel
theorem dX10_all_61 : decode cX10_all 61 = .ok (.invokestatic 179, 3) := by decide +kernel
theorem dX10_all_64 : decode cX10_all 64 = .ok (.lreturn, 1) := by decide +kernel
def f_X10_all_23 (S : St) (x1 : Int32) (x4 : Int32) (t1 : Int32) (t2 : Int32) (t3 : Int32) : Option (Int64 × St) :=
  obd2 (f_X10_refusal S t1 t2 t3) fun r1 S1 =>
  if r1 = 0 then (
    obd (f_X9_take S1 x1) fun S3 =>
    obd2 (f_X9_allDone S3 ) fun r4 S4 =>
    obd2 (f_X9_scale S4 ) fun r5 S5 =>
    obd2 (f_X10_lowest S5 r4 r5 x4) fun r6 S6 =>
    some (r6, S6)
  ) else (
    some ((r1.toInt64), S1)
  )
def f_X10_all_22 (S : St) (x1 : Int32) (x4 : Int32) (t1 : Int32) (t2 : Int32) : Option (Int64 × St) :=
  f_X10_all_23 S x1 x4 t1 t2 0
def f_X10_all (S : St) (x1 : Int32) (x2 : Int32) (x3 : Int32) (x4 : Int32) : Option (Int64 × St) :=
  obd2 (f_X10_isBag S x1) fun r7 S7 =>
  if r7 = 0 then (
    f_X10_all_22 S7 x1 x4 x2 x3
  ) else (
    obd2 (f_X10_isPart S7 x4) fun r9 S9 =>
    if r9 = 0 then (
      f_X10_all_22 S9 x1 x4 x2 x3
    ) else (
      f_X10_all_23 S9 x1 x4 x2 x3 1
    )
  )
set_option maxHeartbeats 4000000 in
set_option maxRecDepth 100000 in
theorem c_X10_all {l : Launch} {D : va_G} {cI cC cS : ClassId} {ad adK adV : Nat → Nat} {S S1 : St} {x1 : Int32} {x2 : Int32} {x3 : Int32} {x4 : Int32} {r : Int64} (h : f_X10_all S x1 x2 x3 x4 = some (r, S1)) : Kt l D (xw cI cC cS ad) (KX D (xtys cI cC cS) adK adV) yX10_all cX10_all 6 (some .long) (18) (441) [.ref (ad 0), .int x1, .int x2, .int x3, .int x4] S (some (.long r)) S1 := by
  refine k_ent (ins := .lreturn) (st := [.long r]) (by decide +kernel) (Nat.le_of_ble_eq_true rfl) ret_l ?_
  intro p e s m args below meth c A Q C hK I hA hq ls hl
  have C : CallFix p m c cX10_all 6 s args TT RX10 := C
  have hx := C.1
  have hb := C.2.1
  have kx := kx_ok D (xtys cI cC cS) adK adV
  have hl : lv_has ls 6 [(0, .ref (ad 0)), (1, .int x1), (2, .int x2), (3, .int x3), (4, .int x4)] := hl
  have J_23 : ∀ (S : St) (x1 : Int32) (x4 : Int32) (t1 : Int32) (t2 : Int32) (t3 : Int32), f_X10_all_23  S x1 x4 t1 t2 t3 = some (r, S1) → ∀ (H : Heap) (locs : List Loc) (ls : Array Slot), Iv D (xw cI cC cS ad) S A s H locs → lv_has ls 6 [(0, .ref (ad 0)), (1, .int x1), (4, .int x4)] → W p l e ({ frames := 18, cells := 0, slots := 0, locals := 441 } : Room) s m args below meth c H locs 0 0 Q (F0 m 23 ls [.int t3, .int t2, .int t1, .ref (ad 0)]) := by
    intro  S x1 x4 t1 t2 t3 h H locs ls I hl
    unfold f_X10_all_23 at h
    obtain ⟨r1, S1, e1, h⟩ := obd2_ex h
    refine k_V (As := [.int t1, .int t2, .int t3]) (rest := []) (st1 := [.int r1]) C kx hK I hA (c_X10_refusal e1) ⟨Nat.le_of_ble_eq_true rfl, Nat.le_of_ble_eq_true rfl⟩ mv_X10_refusal lk_X10_183 0 10 (xw_0 (cI := cI) (ad := ad) (cC := cC) (cS := cS)) rfl rfl hl.1 rfl (Nat.le_of_ble_eq_true rfl) dX10_all_23 rfl (fun H locs I => ?_)
    refine lv_istore (lv' := [(5, .int r1), (0, .ref (ad 0)), (1, .int x1), (4, .int x4)]) hx hb dX10_all_26 hl (by decide) rfl (fun ls hl => ?_)
    refine lv_iload hx hb dX10_all_28 (lv_at hl 0 rfl) ?_
    refine lv_if_eq (tgt := 37) hx hb dX10_all_30 (by decide) (fun c2 => ?_) (fun c2 => ?_)
    · have h := ite_t c2 h
      refine lv_aload_n hx hb dX10_all_37 rfl (lv_at hl 1 rfl) ?_
      refine gx_0_4 C hK I fl_X10_46 dX10_all_38 ?_
      refine lv_iload_n hx hb dX10_all_41 rfl (lv_at hl 2 rfl) ?_
      obtain ⟨S3, e3, h⟩ := obd_ex h
      refine k_V (As := [.int x1]) (rest := []) (st1 := []) C kx hK I hA (c_X9_take e3) ⟨Nat.le_of_ble_eq_true rfl, Nat.le_of_ble_eq_true rfl⟩ mv_X9_take lk_X10_189 5 9 (xw_5 (cI := cI) (ad := ad) (cC := cC) (cS := cS)) rfl rfl hl.1 rfl (Nat.le_of_ble_eq_true rfl) dX10_all_42 rfl (fun H locs I => ?_)
      refine lv_aload_n hx hb dX10_all_45 rfl (lv_at hl 1 rfl) ?_
      refine gx_0_4 C hK I fl_X10_46 dX10_all_46 ?_
      obtain ⟨r4, S4, e4, h⟩ := obd2_ex h
      refine k_V (As := []) (rest := []) (st1 := [.long r4]) C kx hK I hA (c_X9_allDone e4) ⟨Nat.le_of_ble_eq_true rfl, Nat.le_of_ble_eq_true rfl⟩ mv_X9_allDone lk_X10_200 5 9 (xw_5 (cI := cI) (ad := ad) (cC := cC) (cS := cS)) rfl rfl hl.1 rfl (Nat.le_of_ble_eq_true rfl) dX10_all_49 rfl (fun H locs I => ?_)
      refine lv_aload_n hx hb dX10_all_52 rfl (lv_at hl 1 rfl) ?_
      refine gx_0_4 C hK I fl_X10_46 dX10_all_53 ?_
      obtain ⟨r5, S5, e5, h⟩ := obd2_ex h
      refine k_V (As := []) (rest := [.long r4]) (st1 := [.long r5, .long r4]) C kx hK I hA (c_X9_scale e5) ⟨Nat.le_of_ble_eq_true rfl, Nat.le_of_ble_eq_true rfl⟩ mv_X9_scale lk_X10_197 5 9 (xw_5 (cI := cI) (ad := ad) (cC := cC) (cS := cS)) rfl rfl hl.1 rfl (Nat.le_of_ble_eq_true rfl) dX10_all_56 rfl (fun H locs I => ?_)
      refine lv_iload hx hb dX10_all_59 (lv_at hl 3 rfl) ?_
      obtain ⟨r6, S6, e6, h⟩ := obd2_ex h
      refine k_S (As := [.long r4, .long r5, .int x4]) (rest := []) (st1 := [.long r6]) C kx hK I hA (c_X10_lowest e6) ⟨Nat.le_of_ble_eq_true rfl, Nat.le_of_ble_eq_true rfl⟩ ms_X10_lowest lk_X10_179 rfl hl.1 rfl (Nat.le_of_ble_eq_true rfl) dX10_all_61 rfl (fun H locs I => ?_)
      exact rt_l hq h I dX10_all_64
    · have h := ite_n c2 h
      refine lv_iload hx hb dX10_all_33 (lv_at hl 0 rfl) ?_
      refine lv_i2l hx hb dX10_all_35 rfl ?_
      exact rt_l hq h I dX10_all_36
  have J_22 : ∀ (S : St) (x1 : Int32) (x4 : Int32) (t1 : Int32) (t2 : Int32), f_X10_all_22  S x1 x4 t1 t2 = some (r, S1) → ∀ (H : Heap) (locs : List Loc) (ls : Array Slot), Iv D (xw cI cC cS ad) S A s H locs → lv_has ls 6 [(0, .ref (ad 0)), (1, .int x1), (4, .int x4)] → W p l e ({ frames := 18, cells := 0, slots := 0, locals := 441 } : Room) s m args below meth c H locs 0 0 Q (F0 m 22 ls [.int t2, .int t1, .ref (ad 0)]) := by
    intro  S x1 x4 t1 t2 h H locs ls I hl
    unfold f_X10_all_22 at h
    refine lv_iconst (v := 0) hx hb dX10_all_22 (by decide) ?_
    exact J_23 _ _ _ _ _ _ h _ _ _ I (lv_sub hl [0, 1, 2] rfl)
  unfold f_X10_all at h
  refine lv_aload_n hx hb dX10_all_0 rfl (lv_at hl 0 rfl) ?_
  refine lv_iload_n hx hb dX10_all_1 rfl (lv_at hl 2 rfl) ?_
  refine lv_iload_n hx hb dX10_all_2 rfl (lv_at hl 3 rfl) ?_
  refine lv_iload_n hx hb dX10_all_3 rfl (lv_at hl 1 rfl) ?_
  obtain ⟨r7, S7, e7, h⟩ := obd2_ex h
  refine k_S (As := [.int x1]) (rest := [.int x3, .int x2, .ref (ad 0)]) (st1 := [.int r7, .int x3, .int x2, .ref (ad 0)]) C kx hK I hA (c_X10_isBag e7) ⟨Nat.le_of_ble_eq_true rfl, Nat.le_of_ble_eq_true rfl⟩ ms_X10_isBag lk_X10_158 rfl hl.1 rfl (Nat.le_of_ble_eq_true rfl) dX10_all_4 rfl (fun H locs I => ?_)
  refine lv_if_eq (tgt := 22) hx hb dX10_all_7 (by decide) (fun c8 => ?_) (fun c8 => ?_)
  · have h := ite_t c8 h
    exact J_22 _ _ _ _ _ h _ _ _ I (lv_sub hl [0, 1, 4] rfl)
  · have h := ite_n c8 h
    refine lv_iload hx hb dX10_all_10 (lv_at hl 4 rfl) ?_
    obtain ⟨r9, S9, e9, h⟩ := obd2_ex h
    refine k_S (As := [.int x4]) (rest := [.int x3, .int x2, .ref (ad 0)]) (st1 := [.int r9, .int x3, .int x2, .ref (ad 0)]) C kx hK I hA (c_X10_isPart e9) ⟨Nat.le_of_ble_eq_true rfl, Nat.le_of_ble_eq_true rfl⟩ ms_X10_isPart lk_X10_171 rfl hl.1 rfl (Nat.le_of_ble_eq_true rfl) dX10_all_12 rfl (fun H locs I => ?_)
    refine lv_if_eq (tgt := 22) hx hb dX10_all_15 (by decide) (fun c10 => ?_) (fun c10 => ?_)
    · have h := ite_t c10 h
      exact J_22 _ _ _ _ _ h _ _ _ I (lv_sub hl [0, 1, 4] rfl)
    · have h := ite_n c10 h
      refine lv_iconst (v := 1) hx hb dX10_all_18 (by decide) ?_
      refine lv_goto (tgt := 23) hx hb dX10_all_19 (by decide) ?_
      exact J_23 _ _ _ _ _ _ h _ _ _ I (lv_sub hl [0, 1, 4] rfl)
theorem lk_X10_203 : Cond.methodLink RX10 203 yX9_latest ∈ TT := tt_of 843 (by decide +kernel) rfl
theorem mv_X9_latest : MV yX9_latest cX9_latest 1 (some .int) 0 := ⟨tt_of 846 (by decide +kernel) rfl, tt_of 844 (by decide +kernel) rfl, tt_of 845 (by decide +kernel) rfl, tt_of 72 (by decide +kernel) rfl, ⟨by decide +kernel, by decide +kernel, by decide +kernel⟩⟩
theorem dX10_end_0 : decode cX10_end 0 = .ok (.aload_n 0, 1) := by decide +kernel
theorem dX10_end_1 : decode cX10_end 1 = .ok (.iload_n 2, 1) := by decide +kernel
theorem dX10_end_2 : decode cX10_end 2 = .ok (.iload_n 3, 1) := by decide +kernel
theorem dX10_end_3 : decode cX10_end 3 = .ok (.iload_n 1, 1) := by decide +kernel
theorem dX10_end_4 : decode cX10_end 4 = .ok (.invokestatic 158, 3) := by decide +kernel
theorem dX10_end_7 : decode cX10_end 7 = .ok (.invokevirtual 183, 3) := by decide +kernel
theorem dX10_end_10 : decode cX10_end 10 = .ok (.istore 4, 2) := by decide +kernel
theorem dX10_end_12 : decode cX10_end 12 = .ok (.iload 4, 2) := by decide +kernel
theorem dX10_end_14 : decode cX10_end 14 = .ok (.ifCond .eq 6, 3) := by decide +kernel
theorem dX10_end_17 : decode cX10_end 17 = .ok (.iload 4, 2) := by decide +kernel
theorem dX10_end_19 : decode cX10_end 19 = .ok (.ireturn, 1) := by decide +kernel
theorem dX10_end_20 : decode cX10_end 20 = .ok (.aload_n 0, 1) := by decide +kernel
theorem dX10_end_21 : decode cX10_end 21 = .ok (.getfield 46, 3) := by decide +kernel
theorem dX10_end_24 : decode cX10_end 24 = .ok (.iload_n 1, 1) := by decide +kernel
theorem dX10_end_25 : decode cX10_end 25 = .ok (.invokevirtual 189, 3) := by decide +kernel
theorem dX10_end_28 : decode cX10_end 28 = .ok (.aload_n 0, 1) := by decide +kernel
theorem dX10_end_29 : decode cX10_end 29 = .ok (.getfield 46, 3) := by decide +kernel
theorem dX10_end_32 : decode cX10_end 32 = .ok (.invokevirtual 203, 3) := by decide +kernel
theorem dX10_end_35 : decode cX10_end 35 = .ok (.ireturn, 1) := by decide +kernel
def f_X10_end (S : St) (x1 : Int32) (x2 : Int32) (x3 : Int32) : Option (Int32 × St) :=
  obd2 (f_X10_isBag S x1) fun r1 S1 =>
  obd2 (f_X10_refusal S1 x2 x3 r1) fun r2 S2 =>
  if r2 = 0 then (
    obd (f_X9_take S2 x1) fun S4 =>
    obd2 (f_X9_latest S4 ) fun r5 S5 =>
    some (r5, S5)
  ) else (
    some (r2, S2)
  )
set_option maxHeartbeats 4000000 in
set_option maxRecDepth 100000 in
theorem c_X10_end {l : Launch} {D : va_G} {cI cC cS : ClassId} {ad adK adV : Nat → Nat} {S S1 : St} {x1 : Int32} {x2 : Int32} {x3 : Int32} {r : Int32} (h : f_X10_end S x1 x2 x3 = some (r, S1)) : Kt l D (xw cI cC cS ad) (KX D (xtys cI cC cS) adK adV) yX10_end cX10_end 5 (some .int) (18) (441) [.ref (ad 0), .int x1, .int x2, .int x3] S (some (.int r)) S1 := by
  refine k_ent (ins := .ireturn) (st := [.int r]) (by decide +kernel) (Nat.le_of_ble_eq_true rfl) ret_i ?_
  intro p e s m args below meth c A Q C hK I hA hq ls hl
  have C : CallFix p m c cX10_end 5 s args TT RX10 := C
  have hx := C.1
  have hb := C.2.1
  have kx := kx_ok D (xtys cI cC cS) adK adV
  have hl : lv_has ls 5 [(0, .ref (ad 0)), (1, .int x1), (2, .int x2), (3, .int x3)] := hl
  unfold f_X10_end at h
  refine lv_aload_n hx hb dX10_end_0 rfl (lv_at hl 0 rfl) ?_
  refine lv_iload_n hx hb dX10_end_1 rfl (lv_at hl 2 rfl) ?_
  refine lv_iload_n hx hb dX10_end_2 rfl (lv_at hl 3 rfl) ?_
  refine lv_iload_n hx hb dX10_end_3 rfl (lv_at hl 1 rfl) ?_
  obtain ⟨r1, S1, e1, h⟩ := obd2_ex h
  refine k_S (As := [.int x1]) (rest := [.int x3, .int x2, .ref (ad 0)]) (st1 := [.int r1, .int x3, .int x2, .ref (ad 0)]) C kx hK I hA (c_X10_isBag e1) ⟨Nat.le_of_ble_eq_true rfl, Nat.le_of_ble_eq_true rfl⟩ ms_X10_isBag lk_X10_158 rfl hl.1 rfl (Nat.le_of_ble_eq_true rfl) dX10_end_4 rfl (fun H locs I => ?_)
  obtain ⟨r2, S2, e2, h⟩ := obd2_ex h
  refine k_V (As := [.int x2, .int x3, .int r1]) (rest := []) (st1 := [.int r2]) C kx hK I hA (c_X10_refusal e2) ⟨Nat.le_of_ble_eq_true rfl, Nat.le_of_ble_eq_true rfl⟩ mv_X10_refusal lk_X10_183 0 10 (xw_0 (cI := cI) (ad := ad) (cC := cC) (cS := cS)) rfl rfl hl.1 rfl (Nat.le_of_ble_eq_true rfl) dX10_end_7 rfl (fun H locs I => ?_)
  refine lv_istore (lv' := [(4, .int r2), (0, .ref (ad 0)), (1, .int x1), (2, .int x2), (3, .int x3)]) hx hb dX10_end_10 hl (by decide) rfl (fun ls hl => ?_)
  refine lv_iload hx hb dX10_end_12 (lv_at hl 0 rfl) ?_
  refine lv_if_eq (tgt := 20) hx hb dX10_end_14 (by decide) (fun c3 => ?_) (fun c3 => ?_)
  · have h := ite_t c3 h
    refine lv_aload_n hx hb dX10_end_20 rfl (lv_at hl 1 rfl) ?_
    refine gx_0_4 C hK I fl_X10_46 dX10_end_21 ?_
    refine lv_iload_n hx hb dX10_end_24 rfl (lv_at hl 2 rfl) ?_
    obtain ⟨S4, e4, h⟩ := obd_ex h
    refine k_V (As := [.int x1]) (rest := []) (st1 := []) C kx hK I hA (c_X9_take e4) ⟨Nat.le_of_ble_eq_true rfl, Nat.le_of_ble_eq_true rfl⟩ mv_X9_take lk_X10_189 5 9 (xw_5 (cI := cI) (ad := ad) (cC := cC) (cS := cS)) rfl rfl hl.1 rfl (Nat.le_of_ble_eq_true rfl) dX10_end_25 rfl (fun H locs I => ?_)
    refine lv_aload_n hx hb dX10_end_28 rfl (lv_at hl 1 rfl) ?_
    refine gx_0_4 C hK I fl_X10_46 dX10_end_29 ?_
    obtain ⟨r5, S5, e5, h⟩ := obd2_ex h
    refine k_V (As := []) (rest := []) (st1 := [.int r5]) C kx hK I hA (c_X9_latest e5) ⟨Nat.le_of_ble_eq_true rfl, Nat.le_of_ble_eq_true rfl⟩ mv_X9_latest lk_X10_203 5 9 (xw_5 (cI := cI) (ad := ad) (cC := cC) (cS := cS)) rfl rfl hl.1 rfl (Nat.le_of_ble_eq_true rfl) dX10_end_32 rfl (fun H locs I => ?_)
    exact rt_i hq h I dX10_end_35
  · have h := ite_n c3 h
    refine lv_iload hx hb dX10_end_17 (lv_at hl 0 rfl) ?_
    exact rt_i hq h I dX10_end_19
theorem fl_X10_55 : Cond.fieldLink RX10 55 RX10 "choice" "LCarryUp$Choice;" ∈ TT := tt_of 389 (by decide +kernel) rfl
theorem lk_X10_206 : Cond.methodLink RX10 206 yX2_findBest ∈ TT := tt_of 851 (by decide +kernel) rfl
theorem lk_X10_209 : Cond.methodLink RX10 209 yX2_bag ∈ TT := tt_of 875 (by decide +kernel) rfl
theorem mv_X2_bag : MV yX2_bag cX2_bag 1 (some .int) 0 := ⟨tt_of 878 (by decide +kernel) rfl, tt_of 876 (by decide +kernel) rfl, tt_of 877 (by decide +kernel) rfl, tt_of 73 (by decide +kernel) rfl, ⟨by decide +kernel, by decide +kernel, by decide +kernel⟩⟩
theorem dX10_best_0 : decode cX10_best 0 = .ok (.aload_n 0, 1) := by decide +kernel
theorem dX10_best_1 : decode cX10_best 1 = .ok (.iload_n 1, 1) := by decide +kernel
theorem dX10_best_2 : decode cX10_best 2 = .ok (.iload_n 2, 1) := by decide +kernel
theorem dX10_best_3 : decode cX10_best 3 = .ok (.iconst 1, 1) := by decide +kernel
theorem dX10_best_4 : decode cX10_best 4 = .ok (.invokevirtual 183, 3) := by decide +kernel
theorem dX10_best_7 : decode cX10_best 7 = .ok (.istore_n 3, 1) := by decide +kernel
theorem dX10_best_8 : decode cX10_best 8 = .ok (.iload_n 3, 1) := by decide +kernel
theorem dX10_best_9 : decode cX10_best 9 = .ok (.ifCond .eq 5, 3) := by decide +kernel
theorem dX10_best_12 : decode cX10_best 12 = .ok (.iload_n 3, 1) := by decide +kernel
theorem dX10_best_13 : decode cX10_best 13 = .ok (.ireturn, 1) := by decide +kernel
theorem dX10_best_14 : decode cX10_best 14 = .ok (.aload_n 0, 1) := by decide +kernel
theorem dX10_best_15 : decode cX10_best 15 = .ok (.getfield 55, 3) := by decide +kernel
theorem dX10_best_18 : decode cX10_best 18 = .ok (.invokevirtual 206, 3) := by decide +kernel
theorem dX10_best_21 : decode cX10_best 21 = .ok (.aload_n 0, 1) := by decide +kernel
theorem dX10_best_22 : decode cX10_best 22 = .ok (.getfield 55, 3) := by decide +kernel
theorem dX10_best_25 : decode cX10_best 25 = .ok (.invokevirtual 209, 3) := by decide +kernel
theorem dX10_best_28 : decode cX10_best 28 = .ok (.ireturn, 1) := by decide +kernel
def f_X10_best (S : St) (x1 : Int32) (x2 : Int32) : Option (Int32 × St) :=
  obd2 (f_X10_refusal S x1 x2 1) fun r1 S1 =>
  if r1 = 0 then (
    obd (f_X2_findBest S1 ) fun S3 =>
    obd2 (f_X2_bag S3 ) fun r4 S4 =>
    some (r4, S4)
  ) else (
    some (r1, S1)
  )
set_option maxHeartbeats 4000000 in
set_option maxRecDepth 100000 in
theorem c_X10_best {l : Launch} {D : va_G} {cI cC cS : ClassId} {ad adK adV : Nat → Nat} {S S1 : St} {x1 : Int32} {x2 : Int32} {r : Int32} (h : f_X10_best S x1 x2 = some (r, S1)) : Kt l D (xw cI cC cS ad) (KX D (xtys cI cC cS) adK adV) yX10_best cX10_best 4 (some .int) (19) (463) [.ref (ad 0), .int x1, .int x2] S (some (.int r)) S1 := by
  refine k_ent (ins := .ireturn) (st := [.int r]) (by decide +kernel) (Nat.le_of_ble_eq_true rfl) ret_i ?_
  intro p e s m args below meth c A Q C hK I hA hq ls hl
  have C : CallFix p m c cX10_best 4 s args TT RX10 := C
  have hx := C.1
  have hb := C.2.1
  have kx := kx_ok D (xtys cI cC cS) adK adV
  have hl : lv_has ls 4 [(0, .ref (ad 0)), (1, .int x1), (2, .int x2)] := hl
  unfold f_X10_best at h
  refine lv_aload_n hx hb dX10_best_0 rfl (lv_at hl 0 rfl) ?_
  refine lv_iload_n hx hb dX10_best_1 rfl (lv_at hl 1 rfl) ?_
  refine lv_iload_n hx hb dX10_best_2 rfl (lv_at hl 2 rfl) ?_
  refine lv_iconst (v := 1) hx hb dX10_best_3 (by decide) ?_
  obtain ⟨r1, S1, e1, h⟩ := obd2_ex h
  refine k_V (As := [.int x1, .int x2, .int 1]) (rest := []) (st1 := [.int r1]) C kx hK I hA (c_X10_refusal e1) ⟨Nat.le_of_ble_eq_true rfl, Nat.le_of_ble_eq_true rfl⟩ mv_X10_refusal lk_X10_183 0 10 (xw_0 (cI := cI) (ad := ad) (cC := cC) (cS := cS)) rfl rfl hl.1 rfl (Nat.le_of_ble_eq_true rfl) dX10_best_4 rfl (fun H locs I => ?_)
  refine lv_istore_n (lv' := [(3, .int r1), (0, .ref (ad 0)), (1, .int x1), (2, .int x2)]) hx hb dX10_best_7 rfl hl (by decide) rfl (fun ls hl => ?_)
  refine lv_iload_n hx hb dX10_best_8 rfl (lv_at hl 0 rfl) ?_
  refine lv_if_eq (tgt := 14) hx hb dX10_best_9 (by decide) (fun c2 => ?_) (fun c2 => ?_)
  · have h := ite_t c2 h
    refine lv_aload_n hx hb dX10_best_14 rfl (lv_at hl 1 rfl) ?_
    refine gx_0_5 C hK I fl_X10_55 dX10_best_15 ?_
    obtain ⟨S3, e3, h⟩ := obd_ex h
    refine k_V (As := []) (rest := []) (st1 := []) C kx hK I hA (c_X2_findBest e3) ⟨Nat.le_of_ble_eq_true rfl, Nat.le_of_ble_eq_true rfl⟩ mv_X2_findBest lk_X10_206 6 2 (xw_6 (cI := cI) (ad := ad) (cC := cC) (cS := cS)) rfl rfl hl.1 rfl (Nat.le_of_ble_eq_true rfl) dX10_best_18 rfl (fun H locs I => ?_)
    refine lv_aload_n hx hb dX10_best_21 rfl (lv_at hl 1 rfl) ?_
    refine gx_0_5 C hK I fl_X10_55 dX10_best_22 ?_
    obtain ⟨r4, S4, e4, h⟩ := obd2_ex h
    refine k_V (As := []) (rest := []) (st1 := [.int r4]) C kx hK I hA (c_X2_bag e4) ⟨Nat.le_of_ble_eq_true rfl, Nat.le_of_ble_eq_true rfl⟩ mv_X2_bag lk_X10_209 6 2 (xw_6 (cI := cI) (ad := ad) (cC := cC) (cS := cS)) rfl rfl hl.1 rfl (Nat.le_of_ble_eq_true rfl) dX10_best_25 rfl (fun H locs I => ?_)
    exact rt_i hq h I dX10_best_28
  · have h := ite_n c2 h
    refine lv_iload_n hx hb dX10_best_12 rfl (lv_at hl 0 rfl) ?_
    exact rt_i hq h I dX10_best_13
theorem lk_X10_212 : Cond.methodLink RX10 212 yX2_findSure ∈ TT := tt_of 883 (by decide +kernel) rfl
theorem mv_X2_findSure : MV yX2_findSure cX2_findSure 6 (some .int) 2 := ⟨tt_of 886 (by decide +kernel) rfl, tt_of 884 (by decide +kernel) rfl, tt_of 885 (by decide +kernel) rfl, tt_of 73 (by decide +kernel) rfl, ⟨by decide +kernel, by decide +kernel, by decide +kernel⟩⟩
theorem dX10_sure_0 : decode cX10_sure 0 = .ok (.aload_n 0, 1) := by decide +kernel
theorem dX10_sure_1 : decode cX10_sure 1 = .ok (.iload_n 1, 1) := by decide +kernel
theorem dX10_sure_2 : decode cX10_sure 2 = .ok (.iload_n 2, 1) := by decide +kernel
theorem dX10_sure_3 : decode cX10_sure 3 = .ok (.iload 4, 2) := by decide +kernel
theorem dX10_sure_5 : decode cX10_sure 5 = .ok (.iconst 1, 1) := by decide +kernel
theorem dX10_sure_6 : decode cX10_sure 6 = .ok (.bipush 99, 2) := by decide +kernel
theorem dX10_sure_8 : decode cX10_sure 8 = .ok (.invokestatic 94, 3) := by decide +kernel
theorem dX10_sure_11 : decode cX10_sure 11 = .ok (.ifCond .eq 17, 3) := by decide +kernel
theorem dX10_sure_14 : decode cX10_sure 14 = .ok (.iload_n 3, 1) := by decide +kernel
theorem dX10_sure_15 : decode cX10_sure 15 = .ok (.iconst 0, 1) := by decide +kernel
theorem dX10_sure_16 : decode cX10_sure 16 = .ok (.iload 4, 2) := by decide +kernel
theorem dX10_sure_18 : decode cX10_sure 18 = .ok (.invokestatic 94, 3) := by decide +kernel
theorem dX10_sure_21 : decode cX10_sure 21 = .ok (.ifCond .eq 7, 3) := by decide +kernel
theorem dX10_sure_24 : decode cX10_sure 24 = .ok (.iconst 1, 1) := by decide +kernel
theorem dX10_sure_25 : decode cX10_sure 25 = .ok (.goto 4, 3) := by decide +kernel
theorem dX10_sure_28 : decode cX10_sure 28 = .ok (.iconst 0, 1) := by decide +kernel
theorem dX10_sure_29 : decode cX10_sure 29 = .ok (.invokevirtual 183, 3) := by decide +kernel
theorem dX10_sure_32 : decode cX10_sure 32 = .ok (.istore 5, 2) := by decide +kernel
theorem dX10_sure_34 : decode cX10_sure 34 = .ok (.iload 5, 2) := by decide +kernel
theorem dX10_sure_36 : decode cX10_sure 36 = .ok (.ifCond .eq 6, 3) := by decide +kernel
theorem dX10_sure_39 : decode cX10_sure 39 = .ok (.iload 5, 2) := by decide +kernel
theorem dX10_sure_41 : decode cX10_sure 41 = .ok (.ireturn, 1) := by decide +kernel
theorem dX10_sure_42 : decode cX10_sure 42 = .ok (.aload_n 0, 1) := by decide +kernel
theorem dX10_sure_43 : decode cX10_sure 43 = .ok (.getfield 55, 3) := by decide +kernel
theorem dX10_sure_46 : decode cX10_sure 46 = .ok (.iload_n 3, 1) := by decide +kernel
theorem dX10_sure_47 : decode cX10_sure 47 = .ok (.iload 4, 2) := by decide +kernel
theorem dX10_sure_49 : decode cX10_sure 49 = .ok (.invokevirtual 212, 3) := by decide +kernel
theorem dX10_sure_52 : decode cX10_sure 52 = .ok (.ireturn, 1) := by decide +kernel
def f_X10_sure_29 (S : St) (x3 : Int32) (x4 : Int32) (t1 : Int32) (t2 : Int32) (t3 : Int32) : Option (Int32 × St) :=
  obd2 (f_X10_refusal S t1 t2 t3) fun r1 S1 =>
  if r1 = 0 then (
    obd2 (f_X2_findSure S1 x3 x4) fun r3 S3 =>
    some (r3, S3)
  ) else (
    some (r1, S1)
  )
def f_X10_sure_28 (S : St) (x3 : Int32) (x4 : Int32) (t1 : Int32) (t2 : Int32) : Option (Int32 × St) :=
  f_X10_sure_29 S x3 x4 t1 t2 0
def f_X10_sure (S : St) (x1 : Int32) (x2 : Int32) (x3 : Int32) (x4 : Int32) : Option (Int32 × St) :=
  obd2 (f_X10_within S x4 1 99) fun r4 S4 =>
  if r4 = 0 then (
    f_X10_sure_28 S4 x3 x4 x1 x2
  ) else (
    obd2 (f_X10_within S4 x3 0 x4) fun r6 S6 =>
    if r6 = 0 then (
      f_X10_sure_28 S6 x3 x4 x1 x2
    ) else (
      f_X10_sure_29 S6 x3 x4 x1 x2 1
    )
  )
set_option maxHeartbeats 4000000 in
set_option maxRecDepth 100000 in
theorem c_X10_sure {l : Launch} {D : va_G} {cI cC cS : ClassId} {ad adK adV : Nat → Nat} {S S1 : St} {x1 : Int32} {x2 : Int32} {x3 : Int32} {x4 : Int32} {r : Int32} (h : f_X10_sure S x1 x2 x3 x4 = some (r, S1)) : Kt l D (xw cI cC cS ad) (KX D (xtys cI cC cS) adK adV) yX10_sure cX10_sure 6 (some .int) (19) (466) [.ref (ad 0), .int x1, .int x2, .int x3, .int x4] S (some (.int r)) S1 := by
  refine k_ent (ins := .ireturn) (st := [.int r]) (by decide +kernel) (Nat.le_of_ble_eq_true rfl) ret_i ?_
  intro p e s m args below meth c A Q C hK I hA hq ls hl
  have C : CallFix p m c cX10_sure 6 s args TT RX10 := C
  have hx := C.1
  have hb := C.2.1
  have kx := kx_ok D (xtys cI cC cS) adK adV
  have hl : lv_has ls 6 [(0, .ref (ad 0)), (1, .int x1), (2, .int x2), (3, .int x3), (4, .int x4)] := hl
  have J_29 : ∀ (S : St) (x3 : Int32) (x4 : Int32) (t1 : Int32) (t2 : Int32) (t3 : Int32), f_X10_sure_29  S x3 x4 t1 t2 t3 = some (r, S1) → ∀ (H : Heap) (locs : List Loc) (ls : Array Slot), Iv D (xw cI cC cS ad) S A s H locs → lv_has ls 6 [(0, .ref (ad 0)), (3, .int x3), (4, .int x4)] → W p l e ({ frames := 19, cells := 0, slots := 0, locals := 466 } : Room) s m args below meth c H locs 0 0 Q (F0 m 29 ls [.int t3, .int t2, .int t1, .ref (ad 0)]) := by
    intro  S x3 x4 t1 t2 t3 h H locs ls I hl
    unfold f_X10_sure_29 at h
    obtain ⟨r1, S1, e1, h⟩ := obd2_ex h
    refine k_V (As := [.int t1, .int t2, .int t3]) (rest := []) (st1 := [.int r1]) C kx hK I hA (c_X10_refusal e1) ⟨Nat.le_of_ble_eq_true rfl, Nat.le_of_ble_eq_true rfl⟩ mv_X10_refusal lk_X10_183 0 10 (xw_0 (cI := cI) (ad := ad) (cC := cC) (cS := cS)) rfl rfl hl.1 rfl (Nat.le_of_ble_eq_true rfl) dX10_sure_29 rfl (fun H locs I => ?_)
    refine lv_istore (lv' := [(5, .int r1), (0, .ref (ad 0)), (3, .int x3), (4, .int x4)]) hx hb dX10_sure_32 hl (by decide) rfl (fun ls hl => ?_)
    refine lv_iload hx hb dX10_sure_34 (lv_at hl 0 rfl) ?_
    refine lv_if_eq (tgt := 42) hx hb dX10_sure_36 (by decide) (fun c2 => ?_) (fun c2 => ?_)
    · have h := ite_t c2 h
      refine lv_aload_n hx hb dX10_sure_42 rfl (lv_at hl 1 rfl) ?_
      refine gx_0_5 C hK I fl_X10_55 dX10_sure_43 ?_
      refine lv_iload_n hx hb dX10_sure_46 rfl (lv_at hl 2 rfl) ?_
      refine lv_iload hx hb dX10_sure_47 (lv_at hl 3 rfl) ?_
      obtain ⟨r3, S3, e3, h⟩ := obd2_ex h
      refine k_V (As := [.int x3, .int x4]) (rest := []) (st1 := [.int r3]) C kx hK I hA (c_X2_findSure e3) ⟨Nat.le_of_ble_eq_true rfl, Nat.le_of_ble_eq_true rfl⟩ mv_X2_findSure lk_X10_212 6 2 (xw_6 (cI := cI) (ad := ad) (cC := cC) (cS := cS)) rfl rfl hl.1 rfl (Nat.le_of_ble_eq_true rfl) dX10_sure_49 rfl (fun H locs I => ?_)
      exact rt_i hq h I dX10_sure_52
    · have h := ite_n c2 h
      refine lv_iload hx hb dX10_sure_39 (lv_at hl 0 rfl) ?_
      exact rt_i hq h I dX10_sure_41
  have J_28 : ∀ (S : St) (x3 : Int32) (x4 : Int32) (t1 : Int32) (t2 : Int32), f_X10_sure_28  S x3 x4 t1 t2 = some (r, S1) → ∀ (H : Heap) (locs : List Loc) (ls : Array Slot), Iv D (xw cI cC cS ad) S A s H locs → lv_has ls 6 [(0, .ref (ad 0)), (3, .int x3), (4, .int x4)] → W p l e ({ frames := 19, cells := 0, slots := 0, locals := 466 } : Room) s m args below meth c H locs 0 0 Q (F0 m 28 ls [.int t2, .int t1, .ref (ad 0)]) := by
    intro  S x3 x4 t1 t2 h H locs ls I hl
    unfold f_X10_sure_28 at h
    refine lv_iconst (v := 0) hx hb dX10_sure_28 (by decide) ?_
    exact J_29 _ _ _ _ _ _ h _ _ _ I (lv_sub hl [0, 1, 2] rfl)
  unfold f_X10_sure at h
  refine lv_aload_n hx hb dX10_sure_0 rfl (lv_at hl 0 rfl) ?_
  refine lv_iload_n hx hb dX10_sure_1 rfl (lv_at hl 1 rfl) ?_
  refine lv_iload_n hx hb dX10_sure_2 rfl (lv_at hl 2 rfl) ?_
  refine lv_iload hx hb dX10_sure_3 (lv_at hl 4 rfl) ?_
  refine lv_iconst (v := 1) hx hb dX10_sure_5 (by decide) ?_
  refine lv_bipush (v := 99) hx hb dX10_sure_6 (by decide) ?_
  obtain ⟨r4, S4, e4, h⟩ := obd2_ex h
  refine k_S (As := [.int x4, .int 1, .int 99]) (rest := [.int x2, .int x1, .ref (ad 0)]) (st1 := [.int r4, .int x2, .int x1, .ref (ad 0)]) C kx hK I hA (c_X10_within e4) ⟨Nat.le_of_ble_eq_true rfl, Nat.le_of_ble_eq_true rfl⟩ ms_X10_within lk_X10_94 rfl hl.1 rfl (Nat.le_of_ble_eq_true rfl) dX10_sure_8 rfl (fun H locs I => ?_)
  refine lv_if_eq (tgt := 28) hx hb dX10_sure_11 (by decide) (fun c5 => ?_) (fun c5 => ?_)
  · have h := ite_t c5 h
    exact J_28 _ _ _ _ _ h _ _ _ I (lv_sub hl [0, 3, 4] rfl)
  · have h := ite_n c5 h
    refine lv_iload_n hx hb dX10_sure_14 rfl (lv_at hl 3 rfl) ?_
    refine lv_iconst (v := 0) hx hb dX10_sure_15 (by decide) ?_
    refine lv_iload hx hb dX10_sure_16 (lv_at hl 4 rfl) ?_
    obtain ⟨r6, S6, e6, h⟩ := obd2_ex h
    refine k_S (As := [.int x3, .int 0, .int x4]) (rest := [.int x2, .int x1, .ref (ad 0)]) (st1 := [.int r6, .int x2, .int x1, .ref (ad 0)]) C kx hK I hA (c_X10_within e6) ⟨Nat.le_of_ble_eq_true rfl, Nat.le_of_ble_eq_true rfl⟩ ms_X10_within lk_X10_94 rfl hl.1 rfl (Nat.le_of_ble_eq_true rfl) dX10_sure_18 rfl (fun H locs I => ?_)
    refine lv_if_eq (tgt := 28) hx hb dX10_sure_21 (by decide) (fun c7 => ?_) (fun c7 => ?_)
    · have h := ite_t c7 h
      exact J_28 _ _ _ _ _ h _ _ _ I (lv_sub hl [0, 3, 4] rfl)
    · have h := ite_n c7 h
      refine lv_iconst (v := 1) hx hb dX10_sure_24 (by decide) ?_
      refine lv_goto (tgt := 29) hx hb dX10_sure_25 (by decide) ?_
      exact J_29 _ _ _ _ _ _ h _ _ _ I (lv_sub hl [0, 3, 4] rfl)
theorem cn_X10_220 : Cond.constantLong RX10 220 ((-8999999999999999998)) ∈ TT := tt_of 897 (by decide +kernel) rfl
theorem cn_X10_226 : Cond.constantLong RX10 226 ((-8999999999999999997)) ∈ TT := tt_of 898 (by decide +kernel) rfl
theorem lk_X10_217 : Cond.methodLink RX10 217 yX6_has ∈ TT := tt_of 893 (by decide +kernel) rfl
theorem mv_X6_has : MV yX6_has cX6_has 3 (some .boolean) 1 := ⟨tt_of 896 (by decide +kernel) rfl, tt_of 894 (by decide +kernel) rfl, tt_of 895 (by decide +kernel) rfl, tt_of 71 (by decide +kernel) rfl, ⟨by decide +kernel, by decide +kernel, by decide +kernel⟩⟩
theorem lk_X10_228 : Cond.methodLink RX10 228 yX2_gainByKnowing ∈ TT := tt_of 899 (by decide +kernel) rfl
theorem mv_X2_gainByKnowing : MV yX2_gainByKnowing cX2_gainByKnowing 8 (some .long) 1 := ⟨tt_of 902 (by decide +kernel) rfl, tt_of 900 (by decide +kernel) rfl, tt_of 901 (by decide +kernel) rfl, tt_of 73 (by decide +kernel) rfl, ⟨by decide +kernel, by decide +kernel, by decide +kernel⟩⟩
theorem lk_X10_232 : Cond.methodLink RX10 232 yX2_scale ∈ TT := tt_of 909 (by decide +kernel) rfl
theorem mv_X2_scale : MV yX2_scale cX2_scale 1 (some .long) 0 := ⟨tt_of 912 (by decide +kernel) rfl, tt_of 910 (by decide +kernel) rfl, tt_of 911 (by decide +kernel) rfl, tt_of 73 (by decide +kernel) rfl, ⟨by decide +kernel, by decide +kernel, by decide +kernel⟩⟩
theorem dX10_know_0 : decode cX10_know 0 = .ok (.aload_n 0, 1) := by decide +kernel
theorem dX10_know_1 : decode cX10_know 1 = .ok (.getfield 37, 3) := by decide +kernel
theorem dX10_know_4 : decode cX10_know 4 = .ok (.iload_n 1, 1) := by decide +kernel
theorem dX10_know_5 : decode cX10_know 5 = .ok (.iload_n 2, 1) := by decide +kernel
theorem dX10_know_6 : decode cX10_know 6 = .ok (.invokevirtual 215, 3) := by decide +kernel
theorem dX10_know_9 : decode cX10_know 9 = .ok (.istore 5, 2) := by decide +kernel
theorem dX10_know_11 : decode cX10_know 11 = .ok (.iload 5, 2) := by decide +kernel
theorem dX10_know_13 : decode cX10_know 13 = .ok (.ifCond .eq 11, 3) := by decide +kernel
theorem dX10_know_16 : decode cX10_know 16 = .ok (.ldc2_w 187, 3) := by decide +kernel
theorem dX10_know_19 : decode cX10_know 19 = .ok (.iload 5, 2) := by decide +kernel
theorem dX10_know_21 : decode cX10_know 21 = .ok (.i2l, 1) := by decide +kernel
theorem dX10_know_22 : decode cX10_know 22 = .ok (.lsub, 1) := by decide +kernel
theorem dX10_know_23 : decode cX10_know 23 = .ok (.lreturn, 1) := by decide +kernel
theorem dX10_know_24 : decode cX10_know 24 = .ok (.iload_n 3, 1) := by decide +kernel
theorem dX10_know_25 : decode cX10_know 25 = .ok (.iconst 0, 1) := by decide +kernel
theorem dX10_know_26 : decode cX10_know 26 = .ok (.iconst 5, 1) := by decide +kernel
theorem dX10_know_27 : decode cX10_know 27 = .ok (.invokestatic 94, 3) := by decide +kernel
theorem dX10_know_30 : decode cX10_know 30 = .ok (.ifCond .eq 14, 3) := by decide +kernel
theorem dX10_know_33 : decode cX10_know 33 = .ok (.aload_n 0, 1) := by decide +kernel
theorem dX10_know_34 : decode cX10_know 34 = .ok (.getfield 37, 3) := by decide +kernel
theorem dX10_know_37 : decode cX10_know 37 = .ok (.iload_n 3, 1) := by decide +kernel
theorem dX10_know_38 : decode cX10_know 38 = .ok (.invokevirtual 217, 3) := by decide +kernel
theorem dX10_know_41 : decode cX10_know 41 = .ok (.ifCond .ne 7, 3) := by decide +kernel
theorem dX10_know_44 : decode cX10_know 44 = .ok (.ldc2_w 220, 3) := by decide +kernel
theorem dX10_know_47 : decode cX10_know 47 = .ok (.lreturn, 1) := by decide +kernel
theorem dX10_know_48 : decode cX10_know 48 = .ok (.aload_n 0, 1) := by decide +kernel
theorem dX10_know_49 : decode cX10_know 49 = .ok (.getfield 37, 3) := by decide +kernel
theorem dX10_know_52 : decode cX10_know 52 = .ok (.invokevirtual 222, 3) := by decide +kernel
theorem dX10_know_55 : decode cX10_know 55 = .ok (.ifCond .ne 11, 3) := by decide +kernel
theorem dX10_know_58 : decode cX10_know 58 = .ok (.iload 4, 2) := by decide +kernel
theorem dX10_know_60 : decode cX10_know 60 = .ok (.invokestatic 171, 3) := by decide +kernel
theorem dX10_know_63 : decode cX10_know 63 = .ok (.ifCond .ne 7, 3) := by decide +kernel
theorem dX10_know_66 : decode cX10_know 66 = .ok (.ldc2_w 226, 3) := by decide +kernel
theorem dX10_know_69 : decode cX10_know 69 = .ok (.lreturn, 1) := by decide +kernel
theorem dX10_know_70 : decode cX10_know 70 = .ok (.aload_n 0, 1) := by decide +kernel
theorem dX10_know_71 : decode cX10_know 71 = .ok (.getfield 55, 3) := by decide +kernel
theorem dX10_know_74 : decode cX10_know 74 = .ok (.iload_n 3, 1) := by decide +kernel
theorem dX10_know_75 : decode cX10_know 75 = .ok (.invokevirtual 228, 3) := by decide +kernel
theorem dX10_know_78 : decode cX10_know 78 = .ok (.lstore 6, 2) := by decide +kernel
theorem dX10_know_80 : decode cX10_know 80 = .ok (.lload 6, 2) := by decide +kernel
theorem dX10_know_82 : decode cX10_know 82 = .ok (.aload_n 0, 1) := by decide +kernel
theorem dX10_know_83 : decode cX10_know 83 = .ok (.getfield 55, 3) := by decide +kernel
theorem dX10_know_86 : decode cX10_know 86 = .ok (.invokevirtual 232, 3) := by decide +kernel
theorem dX10_know_89 : decode cX10_know 89 = .ok (.iload 4, 2) := by decide +kernel
theorem dX10_know_91 : decode cX10_know 91 = .ok (.invokestatic 179, 3) := by decide +kernel
theorem dX10_know_94 : decode cX10_know 94 = .ok (.lreturn, 1) := by decide +kernel
def f_X10_know_44 (S : St)  : Option (Int64 × St) :=
  some ((-8999999999999999998), S)
def f_X10_know_66 (S : St)  : Option (Int64 × St) :=
  some ((-8999999999999999997), S)
def f_X10_know (S : St) (x1 : Int32) (x2 : Int32) (x3 : Int32) (x4 : Int32) : Option (Int64 × St) :=
  obd2 (f_X6_tell S x1 x2) fun r1 S1 =>
  if r1 = 0 then (
    obd2 (f_X10_within S1 x3 0 5) fun r3 S3 =>
    if r3 = 0 then (
      f_X10_know_44 S3 
    ) else (
      obd2 (f_X6_has S3 x3) fun r5 S5 =>
      if r5 = 0 then (
        f_X10_know_44 S5 
      ) else (
        obd2 (f_X6_hasTwice S5 ) fun r7 S7 =>
        if r7 = 0 then (
          obd2 (f_X10_isPart S7 x4) fun r9 S9 =>
          if r9 = 0 then (
            f_X10_know_66 S9 
          ) else (
            obd2 (f_X2_gainByKnowing S9 x3) fun r11 S11 =>
            obd2 (f_X2_scale S11 ) fun r12 S12 =>
            obd2 (f_X10_lowest S12 r11 r12 x4) fun r13 S13 =>
            some (r13, S13)
          )
        ) else (
          f_X10_know_66 S7 
        )
      )
    )
  ) else (
    some (((-9000000000000000000) - (r1.toInt64)), S1)
  )
set_option maxHeartbeats 4000000 in
set_option maxRecDepth 100000 in
theorem c_X10_know {l : Launch} {D : va_G} {cI cC cS : ClassId} {ad adK adV : Nat → Nat} {S S1 : St} {x1 : Int32} {x2 : Int32} {x3 : Int32} {x4 : Int32} {r : Int64} (h : f_X10_know S x1 x2 x3 x4 = some (r, S1)) : Kt l D (xw cI cC cS ad) (KX D (xtys cI cC cS) adK adV) yX10_know cX10_know 8 (some .long) (20) (490) [.ref (ad 0), .int x1, .int x2, .int x3, .int x4] S (some (.long r)) S1 := by
  refine k_ent (ins := .lreturn) (st := [.long r]) (by decide +kernel) (Nat.le_of_ble_eq_true rfl) ret_l ?_
  intro p e s m args below meth c A Q C hK I hA hq ls hl
  have C : CallFix p m c cX10_know 8 s args TT RX10 := C
  have hx := C.1
  have hb := C.2.1
  have kx := kx_ok D (xtys cI cC cS) adK adV
  have hl : lv_has ls 8 [(0, .ref (ad 0)), (1, .int x1), (2, .int x2), (3, .int x3), (4, .int x4)] := hl
  have J_44 : ∀ (S : St) , f_X10_know_44  S  = some (r, S1) → ∀ (H : Heap) (locs : List Loc) (ls : Array Slot), Iv D (xw cI cC cS ad) S A s H locs → lv_has ls 8 [] → W p l e ({ frames := 20, cells := 0, slots := 0, locals := 490 } : Room) s m args below meth c H locs 0 0 Q (F0 m 44 ls []) := by
    intro  S  h H locs ls I hl
    unfold f_X10_know_44 at h
    refine lv_ldc2 (v := (-8999999999999999998)) hx hb C.2.2.2.1 (C.2.2.2.2 _ cn_X10_220) dX10_know_44 ?_
    exact rt_l hq h I dX10_know_47
  have J_66 : ∀ (S : St) , f_X10_know_66  S  = some (r, S1) → ∀ (H : Heap) (locs : List Loc) (ls : Array Slot), Iv D (xw cI cC cS ad) S A s H locs → lv_has ls 8 [] → W p l e ({ frames := 20, cells := 0, slots := 0, locals := 490 } : Room) s m args below meth c H locs 0 0 Q (F0 m 66 ls []) := by
    intro  S  h H locs ls I hl
    unfold f_X10_know_66 at h
    refine lv_ldc2 (v := (-8999999999999999997)) hx hb C.2.2.2.1 (C.2.2.2.2 _ cn_X10_226) dX10_know_66 ?_
    exact rt_l hq h I dX10_know_69
  unfold f_X10_know at h
  refine lv_aload_n hx hb dX10_know_0 rfl (lv_at hl 0 rfl) ?_
  refine gx_0_3 C hK I fl_X10_37 dX10_know_1 ?_
  refine lv_iload_n hx hb dX10_know_4 rfl (lv_at hl 1 rfl) ?_
  refine lv_iload_n hx hb dX10_know_5 rfl (lv_at hl 2 rfl) ?_
  obtain ⟨r1, S1, e1, h⟩ := obd2_ex h
  refine k_V (As := [.int x1, .int x2]) (rest := []) (st1 := [.int r1]) C kx hK I hA (c_X6_tell e1) ⟨Nat.le_of_ble_eq_true rfl, Nat.le_of_ble_eq_true rfl⟩ mv_X6_tell lk_X10_215 4 6 (xw_4 (cI := cI) (ad := ad) (cC := cC) (cS := cS)) rfl rfl hl.1 rfl (Nat.le_of_ble_eq_true rfl) dX10_know_6 rfl (fun H locs I => ?_)
  refine lv_istore (lv' := [(5, .int r1), (0, .ref (ad 0)), (1, .int x1), (2, .int x2), (3, .int x3), (4, .int x4)]) hx hb dX10_know_9 hl (by decide) rfl (fun ls hl => ?_)
  refine lv_iload hx hb dX10_know_11 (lv_at hl 0 rfl) ?_
  refine lv_if_eq (tgt := 24) hx hb dX10_know_13 (by decide) (fun c2 => ?_) (fun c2 => ?_)
  · have h := ite_t c2 h
    refine lv_iload_n hx hb dX10_know_24 rfl (lv_at hl 4 rfl) ?_
    refine lv_iconst (v := 0) hx hb dX10_know_25 (by decide) ?_
    refine lv_iconst (v := 5) hx hb dX10_know_26 (by decide) ?_
    obtain ⟨r3, S3, e3, h⟩ := obd2_ex h
    refine k_S (As := [.int x3, .int 0, .int 5]) (rest := []) (st1 := [.int r3]) C kx hK I hA (c_X10_within e3) ⟨Nat.le_of_ble_eq_true rfl, Nat.le_of_ble_eq_true rfl⟩ ms_X10_within lk_X10_94 rfl hl.1 rfl (Nat.le_of_ble_eq_true rfl) dX10_know_27 rfl (fun H locs I => ?_)
    refine lv_if_eq (tgt := 44) hx hb dX10_know_30 (by decide) (fun c4 => ?_) (fun c4 => ?_)
    · have h := ite_t c4 h
      exact J_44 _  h _ _ _ I (lv_sub hl [] rfl)
    · have h := ite_n c4 h
      refine lv_aload_n hx hb dX10_know_33 rfl (lv_at hl 1 rfl) ?_
      refine gx_0_3 C hK I fl_X10_37 dX10_know_34 ?_
      refine lv_iload_n hx hb dX10_know_37 rfl (lv_at hl 4 rfl) ?_
      obtain ⟨r5, S5, e5, h⟩ := obd2_ex h
      refine k_V (As := [.int x3]) (rest := []) (st1 := [.int r5]) C kx hK I hA (c_X6_has e5) ⟨Nat.le_of_ble_eq_true rfl, Nat.le_of_ble_eq_true rfl⟩ mv_X6_has lk_X10_217 4 6 (xw_4 (cI := cI) (ad := ad) (cC := cC) (cS := cS)) rfl rfl hl.1 rfl (Nat.le_of_ble_eq_true rfl) dX10_know_38 rfl (fun H locs I => ?_)
      refine lv_if_ne (tgt := 48) hx hb dX10_know_41 (by decide) (fun c6 => ?_) (fun c6 => ?_)
      · have h := ite_n c6 h
        refine lv_aload_n hx hb dX10_know_48 rfl (lv_at hl 1 rfl) ?_
        refine gx_0_3 C hK I fl_X10_37 dX10_know_49 ?_
        obtain ⟨r7, S7, e7, h⟩ := obd2_ex h
        refine k_V (As := []) (rest := []) (st1 := [.int r7]) C kx hK I hA (c_X6_hasTwice e7) ⟨Nat.le_of_ble_eq_true rfl, Nat.le_of_ble_eq_true rfl⟩ mv_X6_hasTwice lk_X10_222 4 6 (xw_4 (cI := cI) (ad := ad) (cC := cC) (cS := cS)) rfl rfl hl.1 rfl (Nat.le_of_ble_eq_true rfl) dX10_know_52 rfl (fun H locs I => ?_)
        refine lv_if_ne (tgt := 66) hx hb dX10_know_55 (by decide) (fun c8 => ?_) (fun c8 => ?_)
        · have h := ite_n c8 h
          exact J_66 _  h _ _ _ I (lv_sub hl [] rfl)
        · have h := ite_t c8 h
          refine lv_iload hx hb dX10_know_58 (lv_at hl 5 rfl) ?_
          obtain ⟨r9, S9, e9, h⟩ := obd2_ex h
          refine k_S (As := [.int x4]) (rest := []) (st1 := [.int r9]) C kx hK I hA (c_X10_isPart e9) ⟨Nat.le_of_ble_eq_true rfl, Nat.le_of_ble_eq_true rfl⟩ ms_X10_isPart lk_X10_171 rfl hl.1 rfl (Nat.le_of_ble_eq_true rfl) dX10_know_60 rfl (fun H locs I => ?_)
          refine lv_if_ne (tgt := 70) hx hb dX10_know_63 (by decide) (fun c10 => ?_) (fun c10 => ?_)
          · have h := ite_n c10 h
            refine lv_aload_n hx hb dX10_know_70 rfl (lv_at hl 1 rfl) ?_
            refine gx_0_5 C hK I fl_X10_55 dX10_know_71 ?_
            refine lv_iload_n hx hb dX10_know_74 rfl (lv_at hl 4 rfl) ?_
            obtain ⟨r11, S11, e11, h⟩ := obd2_ex h
            refine k_V (As := [.int x3]) (rest := []) (st1 := [.long r11]) C kx hK I hA (c_X2_gainByKnowing e11) ⟨Nat.le_of_ble_eq_true rfl, Nat.le_of_ble_eq_true rfl⟩ mv_X2_gainByKnowing lk_X10_228 6 2 (xw_6 (cI := cI) (ad := ad) (cC := cC) (cS := cS)) rfl rfl hl.1 rfl (Nat.le_of_ble_eq_true rfl) dX10_know_75 rfl (fun H locs I => ?_)
            refine lv_lstore (lv' := [(6, .long r11), (5, .int r1), (0, .ref (ad 0)), (1, .int x1), (2, .int x2), (3, .int x3), (4, .int x4)]) hx hb dX10_know_78 hl (by decide) rfl (fun ls hl => ?_)
            refine lv_lload hx hb dX10_know_80 (lv_at hl 0 rfl) ?_
            refine lv_aload_n hx hb dX10_know_82 rfl (lv_at hl 2 rfl) ?_
            refine gx_0_5 C hK I fl_X10_55 dX10_know_83 ?_
            obtain ⟨r12, S12, e12, h⟩ := obd2_ex h
            refine k_V (As := []) (rest := [.long r11]) (st1 := [.long r12, .long r11]) C kx hK I hA (c_X2_scale e12) ⟨Nat.le_of_ble_eq_true rfl, Nat.le_of_ble_eq_true rfl⟩ mv_X2_scale lk_X10_232 6 2 (xw_6 (cI := cI) (ad := ad) (cC := cC) (cS := cS)) rfl rfl hl.1 rfl (Nat.le_of_ble_eq_true rfl) dX10_know_86 rfl (fun H locs I => ?_)
            refine lv_iload hx hb dX10_know_89 (lv_at hl 6 rfl) ?_
            obtain ⟨r13, S13, e13, h⟩ := obd2_ex h
            refine k_S (As := [.long r11, .long r12, .int x4]) (rest := []) (st1 := [.long r13]) C kx hK I hA (c_X10_lowest e13) ⟨Nat.le_of_ble_eq_true rfl, Nat.le_of_ble_eq_true rfl⟩ ms_X10_lowest lk_X10_179 rfl hl.1 rfl (Nat.le_of_ble_eq_true rfl) dX10_know_91 rfl (fun H locs I => ?_)
            exact rt_l hq h I dX10_know_94
          · have h := ite_t c10 h
            exact J_66 _  h _ _ _ I (lv_sub hl [] rfl)
      · have h := ite_t c6 h
        exact J_44 _  h _ _ _ I (lv_sub hl [] rfl)
  · have h := ite_n c2 h
    refine lv_ldc2 (v := (-9000000000000000000)) hx hb C.2.2.2.1 (C.2.2.2.2 _ cn_X10_187) dX10_know_16 ?_
    refine lv_iload hx hb dX10_know_19 (lv_at hl 0 rfl) ?_
    refine lv_i2l hx hb dX10_know_21 rfl ?_
    refine lv_lsub hx hb dX10_know_22 ?_
    exact rt_l hq h I dX10_know_23
theorem lk_X10_233 : Cond.methodLink RX10 233 yX2_findBoth ∈ TT := tt_of 917 (by decide +kernel) rfl
theorem mv_X2_findBoth : MV yX2_findBoth cX2_findBoth 12 (some .boolean) 1 := ⟨tt_of 920 (by decide +kernel) rfl, tt_of 918 (by decide +kernel) rfl, tt_of 919 (by decide +kernel) rfl, tt_of 73 (by decide +kernel) rfl, ⟨by decide +kernel, by decide +kernel, by decide +kernel⟩⟩
theorem lk_X10_236 : Cond.methodLink RX10 236 yX2_row ∈ TT := tt_of 926 (by decide +kernel) rfl
theorem mv_X2_row : MV yX2_row cX2_row 1 (some .int) 0 := ⟨tt_of 929 (by decide +kernel) rfl, tt_of 927 (by decide +kernel) rfl, tt_of 928 (by decide +kernel) rfl, tt_of 73 (by decide +kernel) rfl, ⟨by decide +kernel, by decide +kernel, by decide +kernel⟩⟩
theorem dX10_both_0 : decode cX10_both 0 = .ok (.iload_n 1, 1) := by decide +kernel
theorem dX10_both_1 : decode cX10_both 1 = .ok (.iconst 1, 1) := by decide +kernel
theorem dX10_both_2 : decode cX10_both 2 = .ok (.iconst 3, 1) := by decide +kernel
theorem dX10_both_3 : decode cX10_both 3 = .ok (.invokestatic 94, 3) := by decide +kernel
theorem dX10_both_6 : decode cX10_both 6 = .ok (.ifCond .eq 12, 3) := by decide +kernel
theorem dX10_both_9 : decode cX10_both 9 = .ok (.iload_n 2, 1) := by decide +kernel
theorem dX10_both_10 : decode cX10_both 10 = .ok (.iconst 0, 1) := by decide +kernel
theorem dX10_both_11 : decode cX10_both 11 = .ok (.iconst 1, 1) := by decide +kernel
theorem dX10_both_12 : decode cX10_both 12 = .ok (.invokestatic 94, 3) := by decide +kernel
theorem dX10_both_15 : decode cX10_both 15 = .ok (.ifCond .ne 6, 3) := by decide +kernel
theorem dX10_both_18 : decode cX10_both 18 = .ok (.bipush (-3), 2) := by decide +kernel
theorem dX10_both_20 : decode cX10_both 20 = .ok (.ireturn, 1) := by decide +kernel
theorem dX10_both_21 : decode cX10_both 21 = .ok (.aload_n 0, 1) := by decide +kernel
theorem dX10_both_22 : decode cX10_both 22 = .ok (.getfield 55, 3) := by decide +kernel
theorem dX10_both_25 : decode cX10_both 25 = .ok (.iload_n 1, 1) := by decide +kernel
theorem dX10_both_26 : decode cX10_both 26 = .ok (.invokevirtual 233, 3) := by decide +kernel
theorem dX10_both_29 : decode cX10_both 29 = .ok (.ifCond .ne 5, 3) := by decide +kernel
theorem dX10_both_32 : decode cX10_both 32 = .ok (.iconst (-1), 1) := by decide +kernel
theorem dX10_both_33 : decode cX10_both 33 = .ok (.ireturn, 1) := by decide +kernel
theorem dX10_both_34 : decode cX10_both 34 = .ok (.iload_n 2, 1) := by decide +kernel
theorem dX10_both_35 : decode cX10_both 35 = .ok (.ifCond .ne 13, 3) := by decide +kernel
theorem dX10_both_38 : decode cX10_both 38 = .ok (.aload_n 0, 1) := by decide +kernel
theorem dX10_both_39 : decode cX10_both 39 = .ok (.getfield 55, 3) := by decide +kernel
theorem dX10_both_42 : decode cX10_both 42 = .ok (.invokevirtual 236, 3) := by decide +kernel
theorem dX10_both_45 : decode cX10_both 45 = .ok (.goto 10, 3) := by decide +kernel
theorem dX10_both_48 : decode cX10_both 48 = .ok (.aload_n 0, 1) := by decide +kernel
theorem dX10_both_49 : decode cX10_both 49 = .ok (.getfield 55, 3) := by decide +kernel
theorem dX10_both_52 : decode cX10_both 52 = .ok (.invokevirtual 209, 3) := by decide +kernel
theorem dX10_both_55 : decode cX10_both 55 = .ok (.ireturn, 1) := by decide +kernel
def f_X10_both (S : St) (x1 : Int32) (x2 : Int32) : Option (Int32 × St) :=
  obd2 (f_X10_within S x1 1 3) fun r1 S1 =>
  if r1 = 0 then (
    some ((-3), S1)
  ) else (
    obd2 (f_X10_within S1 x2 0 1) fun r3 S3 =>
    if r3 = 0 then (
      some ((-3), S3)
    ) else (
      obd2 (f_X2_findBoth S3 x1) fun r5 S5 =>
      if r5 = 0 then (
        some ((-1), S5)
      ) else (
        if x2 = 0 then (
          obd2 (f_X2_row S5 ) fun r9 S9 =>
          some (r9, S9)
        ) else (
          obd2 (f_X2_bag S5 ) fun r8 S8 =>
          some (r8, S8)
        )
      )
    )
  )
set_option maxHeartbeats 4000000 in
set_option maxRecDepth 100000 in
theorem c_X10_both {l : Launch} {D : va_G} {cI cC cS : ClassId} {ad adK adV : Nat → Nat} {S S1 : St} {x1 : Int32} {x2 : Int32} {r : Int32} (h : f_X10_both S x1 x2 = some (r, S1)) : Kt l D (xw cI cC cS ad) (KX D (xtys cI cC cS) adK adV) yX10_both cX10_both 3 (some .int) (20) (494) [.ref (ad 0), .int x1, .int x2] S (some (.int r)) S1 := by
  refine k_ent (ins := .ireturn) (st := [.int r]) (by decide +kernel) (Nat.le_of_ble_eq_true rfl) ret_i ?_
  intro p e s m args below meth c A Q C hK I hA hq ls hl
  have C : CallFix p m c cX10_both 3 s args TT RX10 := C
  have hx := C.1
  have hb := C.2.1
  have kx := kx_ok D (xtys cI cC cS) adK adV
  have hl : lv_has ls 3 [(0, .ref (ad 0)), (1, .int x1), (2, .int x2)] := hl
  unfold f_X10_both at h
  refine lv_iload_n hx hb dX10_both_0 rfl (lv_at hl 1 rfl) ?_
  refine lv_iconst (v := 1) hx hb dX10_both_1 (by decide) ?_
  refine lv_iconst (v := 3) hx hb dX10_both_2 (by decide) ?_
  obtain ⟨r1, S1, e1, h⟩ := obd2_ex h
  refine k_S (As := [.int x1, .int 1, .int 3]) (rest := []) (st1 := [.int r1]) C kx hK I hA (c_X10_within e1) ⟨Nat.le_of_ble_eq_true rfl, Nat.le_of_ble_eq_true rfl⟩ ms_X10_within lk_X10_94 rfl hl.1 rfl (Nat.le_of_ble_eq_true rfl) dX10_both_3 rfl (fun H locs I => ?_)
  refine lv_if_eq (tgt := 18) hx hb dX10_both_6 (by decide) (fun c2 => ?_) (fun c2 => ?_)
  · have h := ite_t c2 h
    refine lv_bipush (v := (-3)) hx hb dX10_both_18 (by decide) ?_
    exact rt_i hq h I dX10_both_20
  · have h := ite_n c2 h
    refine lv_iload_n hx hb dX10_both_9 rfl (lv_at hl 2 rfl) ?_
    refine lv_iconst (v := 0) hx hb dX10_both_10 (by decide) ?_
    refine lv_iconst (v := 1) hx hb dX10_both_11 (by decide) ?_
    obtain ⟨r3, S3, e3, h⟩ := obd2_ex h
    refine k_S (As := [.int x2, .int 0, .int 1]) (rest := []) (st1 := [.int r3]) C kx hK I hA (c_X10_within e3) ⟨Nat.le_of_ble_eq_true rfl, Nat.le_of_ble_eq_true rfl⟩ ms_X10_within lk_X10_94 rfl hl.1 rfl (Nat.le_of_ble_eq_true rfl) dX10_both_12 rfl (fun H locs I => ?_)
    refine lv_if_ne (tgt := 21) hx hb dX10_both_15 (by decide) (fun c4 => ?_) (fun c4 => ?_)
    · have h := ite_n c4 h
      refine lv_aload_n hx hb dX10_both_21 rfl (lv_at hl 0 rfl) ?_
      refine gx_0_5 C hK I fl_X10_55 dX10_both_22 ?_
      refine lv_iload_n hx hb dX10_both_25 rfl (lv_at hl 1 rfl) ?_
      obtain ⟨r5, S5, e5, h⟩ := obd2_ex h
      refine k_V (As := [.int x1]) (rest := []) (st1 := [.int r5]) C kx hK I hA (c_X2_findBoth e5) ⟨Nat.le_of_ble_eq_true rfl, Nat.le_of_ble_eq_true rfl⟩ mv_X2_findBoth lk_X10_233 6 2 (xw_6 (cI := cI) (ad := ad) (cC := cC) (cS := cS)) rfl rfl hl.1 rfl (Nat.le_of_ble_eq_true rfl) dX10_both_26 rfl (fun H locs I => ?_)
      refine lv_if_ne (tgt := 34) hx hb dX10_both_29 (by decide) (fun c6 => ?_) (fun c6 => ?_)
      · have h := ite_n c6 h
        refine lv_iload_n hx hb dX10_both_34 rfl (lv_at hl 2 rfl) ?_
        refine lv_if_ne (tgt := 48) hx hb dX10_both_35 (by decide) (fun c7 => ?_) (fun c7 => ?_)
        · have h := ite_n c7 h
          refine lv_aload_n hx hb dX10_both_48 rfl (lv_at hl 0 rfl) ?_
          refine gx_0_5 C hK I fl_X10_55 dX10_both_49 ?_
          obtain ⟨r8, S8, e8, h⟩ := obd2_ex h
          refine k_V (As := []) (rest := []) (st1 := [.int r8]) C kx hK I hA (c_X2_bag e8) ⟨Nat.le_of_ble_eq_true rfl, Nat.le_of_ble_eq_true rfl⟩ mv_X2_bag lk_X10_209 6 2 (xw_6 (cI := cI) (ad := ad) (cC := cC) (cS := cS)) rfl rfl hl.1 rfl (Nat.le_of_ble_eq_true rfl) dX10_both_52 rfl (fun H locs I => ?_)
          exact rt_i hq h I dX10_both_55
        · have h := ite_t c7 h
          refine lv_aload_n hx hb dX10_both_38 rfl (lv_at hl 0 rfl) ?_
          refine gx_0_5 C hK I fl_X10_55 dX10_both_39 ?_
          obtain ⟨r9, S9, e9, h⟩ := obd2_ex h
          refine k_V (As := []) (rest := []) (st1 := [.int r9]) C kx hK I hA (c_X2_row e9) ⟨Nat.le_of_ble_eq_true rfl, Nat.le_of_ble_eq_true rfl⟩ mv_X2_row lk_X10_236 6 2 (xw_6 (cI := cI) (ad := ad) (cC := cC) (cS := cS)) rfl rfl hl.1 rfl (Nat.le_of_ble_eq_true rfl) dX10_both_42 rfl (fun H locs I => ?_)
          refine lv_goto (tgt := 55) hx hb dX10_both_45 (by decide) ?_
          exact rt_i hq h I dX10_both_55
      · have h := ite_t c6 h
        refine lv_iconst (v := (-1)) hx hb dX10_both_32 (by decide) ?_
        exact rt_i hq h I dX10_both_33
    · have h := ite_t c4 h
      refine lv_bipush (v := (-3)) hx hb dX10_both_18 (by decide) ?_
      exact rt_i hq h I dX10_both_20
theorem lk_X10_300 : Cond.methodLink RX10 300 yJ6_bitCount_0f7a4 ∈ TT := tt_of 938 (by decide +kernel) rfl
theorem dX10_refusalNow_0 : decode cX10_refusalNow 0 = .ok (.iload_n 1, 1) := by decide +kernel
theorem dX10_refusalNow_1 : decode cX10_refusalNow 1 = .ok (.iconst 0, 1) := by decide +kernel
theorem dX10_refusalNow_2 : decode cX10_refusalNow 2 = .ok (.iconst 5, 1) := by decide +kernel
theorem dX10_refusalNow_3 : decode cX10_refusalNow 3 = .ok (.invokestatic 94, 3) := by decide +kernel
theorem dX10_refusalNow_6 : decode cX10_refusalNow 6 = .ok (.ifCond .ne 6, 3) := by decide +kernel
theorem dX10_refusalNow_9 : decode cX10_refusalNow 9 = .ok (.bipush (-2), 2) := by decide +kernel
theorem dX10_refusalNow_11 : decode cX10_refusalNow 11 = .ok (.ireturn, 1) := by decide +kernel
theorem dX10_refusalNow_12 : decode cX10_refusalNow 12 = .ok (.iload_n 2, 1) := by decide +kernel
theorem dX10_refusalNow_13 : decode cX10_refusalNow 13 = .ok (.iconst 0, 1) := by decide +kernel
theorem dX10_refusalNow_14 : decode cX10_refusalNow 14 = .ok (.bipush 63, 2) := by decide +kernel
theorem dX10_refusalNow_16 : decode cX10_refusalNow 16 = .ok (.invokestatic 94, 3) := by decide +kernel
theorem dX10_refusalNow_19 : decode cX10_refusalNow 19 = .ok (.ifCond .ne 6, 3) := by decide +kernel
theorem dX10_refusalNow_22 : decode cX10_refusalNow 22 = .ok (.bipush (-3), 2) := by decide +kernel
theorem dX10_refusalNow_24 : decode cX10_refusalNow 24 = .ok (.ireturn, 1) := by decide +kernel
theorem dX10_refusalNow_25 : decode cX10_refusalNow 25 = .ok (.iconst 0, 1) := by decide +kernel
theorem dX10_refusalNow_26 : decode cX10_refusalNow 26 = .ok (.istore 4, 2) := by decide +kernel
theorem dX10_refusalNow_28 : decode cX10_refusalNow 28 = .ok (.iload 4, 2) := by decide +kernel
theorem dX10_refusalNow_30 : decode cX10_refusalNow 30 = .ok (.bipush 6, 2) := by decide +kernel
theorem dX10_refusalNow_32 : decode cX10_refusalNow 32 = .ok (.if_icmp .ge 34, 3) := by decide +kernel
theorem dX10_refusalNow_35 : decode cX10_refusalNow 35 = .ok (.iload_n 2, 1) := by decide +kernel
theorem dX10_refusalNow_36 : decode cX10_refusalNow 36 = .ok (.iload 4, 2) := by decide +kernel
theorem dX10_refusalNow_38 : decode cX10_refusalNow 38 = .ok (.ishr, 1) := by decide +kernel
theorem dX10_refusalNow_39 : decode cX10_refusalNow 39 = .ok (.iconst 1, 1) := by decide +kernel
theorem dX10_refusalNow_40 : decode cX10_refusalNow 40 = .ok (.iand, 1) := by decide +kernel
theorem dX10_refusalNow_41 : decode cX10_refusalNow 41 = .ok (.iconst 1, 1) := by decide +kernel
theorem dX10_refusalNow_42 : decode cX10_refusalNow 42 = .ok (.if_icmp .ne 18, 3) := by decide +kernel
theorem dX10_refusalNow_45 : decode cX10_refusalNow 45 = .ok (.aload_n 0, 1) := by decide +kernel
theorem dX10_refusalNow_46 : decode cX10_refusalNow 46 = .ok (.getfield 28, 3) := by decide +kernel
theorem dX10_refusalNow_49 : decode cX10_refusalNow 49 = .ok (.iload 4, 2) := by decide +kernel
theorem dX10_refusalNow_51 : decode cX10_refusalNow 51 = .ok (.invokevirtual 168, 3) := by decide +kernel
theorem dX10_refusalNow_54 : decode cX10_refusalNow 54 = .ok (.ifnonnull 6, 3) := by decide +kernel
theorem dX10_refusalNow_57 : decode cX10_refusalNow 57 = .ok (.bipush (-2), 2) := by decide +kernel
theorem dX10_refusalNow_59 : decode cX10_refusalNow 59 = .ok (.ireturn, 1) := by decide +kernel
theorem dX10_refusalNow_60 : decode cX10_refusalNow 60 = .ok (.iinc 4 1, 3) := by decide +kernel
theorem dX10_refusalNow_63 : decode cX10_refusalNow 63 = .ok (.goto (-35), 3) := by decide +kernel
theorem dX10_refusalNow_66 : decode cX10_refusalNow 66 = .ok (.iload_n 2, 1) := by decide +kernel
theorem dX10_refusalNow_67 : decode cX10_refusalNow 67 = .ok (.invokestatic 300, 3) := by decide +kernel
theorem dX10_refusalNow_70 : decode cX10_refusalNow 70 = .ok (.iconst 4, 1) := by decide +kernel
theorem dX10_refusalNow_71 : decode cX10_refusalNow 71 = .ok (.if_icmp .gt 7, 3) := by decide +kernel
theorem dX10_refusalNow_74 : decode cX10_refusalNow 74 = .ok (.iload_n 3, 1) := by decide +kernel
theorem dX10_refusalNow_75 : decode cX10_refusalNow 75 = .ok (.ifCond .ne 8, 3) := by decide +kernel
theorem dX10_refusalNow_78 : decode cX10_refusalNow 78 = .ok (.bipush (-3), 2) := by decide +kernel
theorem dX10_refusalNow_80 : decode cX10_refusalNow 80 = .ok (.goto 4, 3) := by decide +kernel
theorem dX10_refusalNow_83 : decode cX10_refusalNow 83 = .ok (.iconst 0, 1) := by decide +kernel
theorem dX10_refusalNow_84 : decode cX10_refusalNow 84 = .ok (.ireturn, 1) := by decide +kernel
def f_X10_refusalNow_78 (S : St)  : Option (Int32 × St) :=
  some ((-3), S)
def f_X10_refusalNow_60 (k_28 : St → Int32 → Int32 → Int32 → Option (Int32 × St)) (S : St) (x2 : Int32) (x3 : Int32) (x4 : Int32) : Option (Int32 × St) :=
  bnd (x4 + 1 : Int32) fun v1 =>
  k_28 S x2 x3 v1
def f_X10_refusalNow_28 (k_28 : St → Int32 → Int32 → Int32 → Option (Int32 × St)) (S : St) (x2 : Int32) (x3 : Int32) (x4 : Int32) : Option (Int32 × St) :=
  if 6 ≤ x4 then (
    obd2 (f_J6_bitCount_0f7a4 S x2) fun r3 S3 =>
    if 4 < r3 then (
      f_X10_refusalNow_78 S3 
    ) else (
      if x3 = 0 then (
        f_X10_refusalNow_78 S3 
      ) else (
        some (0, S3)
      )
    )
  ) else (
    if ((x2 >>> (x4 &&& 31)) &&& 1) = 1 then (
      obd2 (f_X4_callWithSorts S x4) fun r7 S7 =>
      oel r7 (
        some ((-2), S7)
      ) fun v8 =>
        f_X10_refusalNow_60 k_28 S7 x2 x3 x4
    ) else (
      f_X10_refusalNow_60 k_28 S x2 x3 x4
    )
  )
def l_X10_refusalNow_28 : Nat → St → Int32 → Int32 → Int32 → Option (Int32 × St)
  | 0, _, _, _, _ => none
  | fu + 1, S, x2, x3, x4 => f_X10_refusalNow_28 (l_X10_refusalNow_28 fu) S x2 x3 x4
def f_X10_refusalNow (S : St) (x1 : Int32) (x2 : Int32) (x3 : Int32) : Option (Int32 × St) :=
  obd2 (f_X10_within S x1 0 5) fun r9 S9 =>
  if r9 = 0 then (
    some ((-2), S9)
  ) else (
    obd2 (f_X10_within S9 x2 0 63) fun r11 S11 =>
    if r11 = 0 then (
      some ((-3), S11)
    ) else (
      l_X10_refusalNow_28 FU S11 x2 x3 0
    )
  )
set_option maxHeartbeats 4000000 in
set_option maxRecDepth 100000 in
theorem c_X10_refusalNow {l : Launch} {D : va_G} {cI cC cS : ClassId} {ad adK adV : Nat → Nat} {S S1 : St} {x1 : Int32} {x2 : Int32} {x3 : Int32} {r : Int32} (h : f_X10_refusalNow S x1 x2 x3 = some (r, S1)) : Kt l D (xw cI cC cS ad) (KX D (xtys cI cC cS) adK adV) yX10_refusalNow cX10_refusalNow 5 (some .int) (3) (65) [.ref (ad 0), .int x1, .int x2, .int x3] S (some (.int r)) S1 := by
  refine k_ent (ins := .ireturn) (st := [.int r]) (by decide +kernel) (Nat.le_of_ble_eq_true rfl) ret_i ?_
  intro p e s m args below meth c A Q C hK I hA hq ls hl
  have C : CallFix p m c cX10_refusalNow 5 s args TT RX10 := C
  have hx := C.1
  have hb := C.2.1
  have kx := kx_ok D (xtys cI cC cS) adK adV
  have hl : lv_has ls 5 [(0, .ref (ad 0)), (1, .int x1), (2, .int x2), (3, .int x3)] := hl
  have J_78 : ∀ (S : St) , f_X10_refusalNow_78  S  = some (r, S1) → ∀ (H : Heap) (locs : List Loc) (ls : Array Slot), Iv D (xw cI cC cS ad) S A s H locs → lv_has ls 5 [] → W p l e ({ frames := 3, cells := 0, slots := 0, locals := 65 } : Room) s m args below meth c H locs 0 0 Q (F0 m 78 ls []) := by
    intro  S  h H locs ls I hl
    unfold f_X10_refusalNow_78 at h
    refine lv_bipush (v := (-3)) hx hb dX10_refusalNow_78 (by decide) ?_
    refine lv_goto (tgt := 84) hx hb dX10_refusalNow_80 (by decide) ?_
    exact rt_i hq h I dX10_refusalNow_84
  have J_60 : ∀ (k_28 : St → Int32 → Int32 → Int32 → Option (Int32 × St)) (hk_28 : ∀ (S : St) (x2 : Int32) (x3 : Int32) (x4 : Int32), k_28 S x2 x3 x4 = some (r, S1) → ∀ (H : Heap) (locs : List Loc) (ls : Array Slot), Iv D (xw cI cC cS ad) S A s H locs → lv_has ls 5 [(0, .ref (ad 0)), (2, .int x2), (3, .int x3), (4, .int x4)] → W p l e ({ frames := 3, cells := 0, slots := 0, locals := 65 } : Room) s m args below meth c H locs 0 0 Q (F0 m 28 ls [])) (S : St) (x2 : Int32) (x3 : Int32) (x4 : Int32), f_X10_refusalNow_60 k_28 S x2 x3 x4 = some (r, S1) → ∀ (H : Heap) (locs : List Loc) (ls : Array Slot), Iv D (xw cI cC cS ad) S A s H locs → lv_has ls 5 [(0, .ref (ad 0)), (2, .int x2), (3, .int x3), (4, .int x4)] → W p l e ({ frames := 3, cells := 0, slots := 0, locals := 65 } : Room) s m args below meth c H locs 0 0 Q (F0 m 60 ls []) := by
    intro k_28 hk_28 S x2 x3 x4 h H locs ls I hl
    unfold f_X10_refusalNow_60 at h
    obtain ⟨v1, ev1⟩ : ∃ y : Int32, y = x4 + 1 := ⟨_, rfl⟩
    have h := bnd_at ev1 h
    refine lv_iinc (v := v1) (lv' := [(4, .int v1), (0, .ref (ad 0)), (2, .int x2), (3, .int x3)]) hx hb dX10_refusalNow_60 hl (k := 3) rfl (by rw [ev1]; rfl) (by decide) rfl (fun ls hl => ?_)
    clear ev1
    refine lv_goto (tgt := 28) hx hb dX10_refusalNow_63 (by decide) ?_
    exact hk_28 _ _ _ _ h _ _ _ I (lv_sub hl [1, 2, 3, 0] rfl)
  have B_28 : ∀ (k_28 : St → Int32 → Int32 → Int32 → Option (Int32 × St)) (hk_28 : ∀ (S : St) (x2 : Int32) (x3 : Int32) (x4 : Int32), k_28 S x2 x3 x4 = some (r, S1) → ∀ (H : Heap) (locs : List Loc) (ls : Array Slot), Iv D (xw cI cC cS ad) S A s H locs → lv_has ls 5 [(0, .ref (ad 0)), (2, .int x2), (3, .int x3), (4, .int x4)] → W p l e ({ frames := 3, cells := 0, slots := 0, locals := 65 } : Room) s m args below meth c H locs 0 0 Q (F0 m 28 ls [])) (S : St) (x2 : Int32) (x3 : Int32) (x4 : Int32), f_X10_refusalNow_28 k_28 S x2 x3 x4 = some (r, S1) → ∀ (H : Heap) (locs : List Loc) (ls : Array Slot), Iv D (xw cI cC cS ad) S A s H locs → lv_has ls 5 [(0, .ref (ad 0)), (2, .int x2), (3, .int x3), (4, .int x4)] → W p l e ({ frames := 3, cells := 0, slots := 0, locals := 65 } : Room) s m args below meth c H locs 0 0 Q (F0 m 28 ls []) := by
    intro k_28 hk_28 S x2 x3 x4 h H locs ls I hl
    unfold f_X10_refusalNow_28 at h
    refine lv_iload hx hb dX10_refusalNow_28 (lv_at hl 3 rfl) ?_
    refine lv_bipush (v := 6) hx hb dX10_refusalNow_30 (by decide) ?_
    refine lv_icmp_ge (tgt := 66) hx hb dX10_refusalNow_32 (by decide) (fun c2 => ?_) (fun c2 => ?_)
    · have h := ite_t c2 h
      refine lv_iload_n hx hb dX10_refusalNow_66 rfl (lv_at hl 1 rfl) ?_
      obtain ⟨r3, S3, e3, h⟩ := obd2_ex h
      refine k_S (As := [.int x2]) (rest := []) (st1 := [.int r3]) C kx hK I hA (c_J6_bitCount_0f7a4 e3) ⟨Nat.le_of_ble_eq_true rfl, Nat.le_of_ble_eq_true rfl⟩ ms_J6_bitCount_0f7a4 lk_X10_300 rfl hl.1 rfl (Nat.le_of_ble_eq_true rfl) dX10_refusalNow_67 rfl (fun H locs I => ?_)
      refine lv_iconst (v := 4) hx hb dX10_refusalNow_70 (by decide) ?_
      refine lv_icmp_gt (tgt := 78) hx hb dX10_refusalNow_71 (by decide) (fun c4 => ?_) (fun c4 => ?_)
      · have h := ite_t c4 h
        exact J_78 _  h _ _ _ I (lv_sub hl [] rfl)
      · have h := ite_n c4 h
        refine lv_iload_n hx hb dX10_refusalNow_74 rfl (lv_at hl 2 rfl) ?_
        refine lv_if_ne (tgt := 83) hx hb dX10_refusalNow_75 (by decide) (fun c5 => ?_) (fun c5 => ?_)
        · have h := ite_n c5 h
          refine lv_iconst (v := 0) hx hb dX10_refusalNow_83 (by decide) ?_
          exact rt_i hq h I dX10_refusalNow_84
        · have h := ite_t c5 h
          exact J_78 _  h _ _ _ I (lv_sub hl [] rfl)
    · have h := ite_n c2 h
      refine lv_iload_n hx hb dX10_refusalNow_35 rfl (lv_at hl 1 rfl) ?_
      refine lv_iload hx hb dX10_refusalNow_36 (lv_at hl 3 rfl) ?_
      refine lv_ishr hx hb dX10_refusalNow_38 ?_
      refine lv_iconst (v := 1) hx hb dX10_refusalNow_39 (by decide) ?_
      refine lv_iand hx hb dX10_refusalNow_40 ?_
      refine lv_iconst (v := 1) hx hb dX10_refusalNow_41 (by decide) ?_
      refine lv_icmp_ne (tgt := 60) hx hb dX10_refusalNow_42 (by decide) (fun c6 => ?_) (fun c6 => ?_)
      · have h := ite_n c6 h
        exact J_60 k_28 hk_28 _ _ _ _ h _ _ _ I (lv_sub hl [0, 1, 2, 3] rfl)
      · have h := ite_t c6 h
        refine lv_aload_n hx hb dX10_refusalNow_45 rfl (lv_at hl 0 rfl) ?_
        refine gx_0_2 C hK I fl_X10_28 dX10_refusalNow_46 ?_
        refine lv_iload hx hb dX10_refusalNow_49 (lv_at hl 3 rfl) ?_
        obtain ⟨r7, S7, e7, h⟩ := obd2_ex h
        refine k_V (As := [.int x4]) (rest := []) (st1 := [rC ad r7]) C kx hK I hA (c_X4_callWithSorts e7) ⟨Nat.le_of_ble_eq_true rfl, Nat.le_of_ble_eq_true rfl⟩ mv_X4_callWithSorts lk_X10_168 3 4 (xw_3 (cI := cI) (ad := ad) (cC := cC) (cS := cS)) rfl rfl hl.1 rfl (Nat.le_of_ble_eq_true rfl) dX10_refusalNow_51 rfl (fun H locs I => ?_)
        refine k_ifnn hx hb dX10_refusalNow_54 (tgt := 60) (by decide) (fun v8 ho => ?_) (fun ho => ?_)
        · subst ho
          have h := oel_s h
          have hl : lv_has ls 5 [(0, .ref (ad 0)), (2, .int x2), (3, .int x3), (4, .int x4)] := hl
          exact J_60 k_28 hk_28 _ _ _ _ h _ _ _ I (lv_sub hl [0, 1, 2, 3] rfl)
        · subst ho
          have h := oel_n h
          have hl : lv_has ls 5 [(0, .ref (ad 0)), (2, .int x2), (3, .int x3), (4, .int x4)] := hl
          refine lv_bipush (v := (-2)) hx hb dX10_refusalNow_57 (by decide) ?_
          exact rt_i hq h I dX10_refusalNow_59
  have J_28 : ∀ (fu : Nat) (S : St) (x2 : Int32) (x3 : Int32) (x4 : Int32), l_X10_refusalNow_28  fu S x2 x3 x4 = some (r, S1) → ∀ (H : Heap) (locs : List Loc) (ls : Array Slot), Iv D (xw cI cC cS ad) S A s H locs → lv_has ls 5 [(0, .ref (ad 0)), (2, .int x2), (3, .int x3), (4, .int x4)] → W p l e ({ frames := 3, cells := 0, slots := 0, locals := 65 } : Room) s m args below meth c H locs 0 0 Q (F0 m 28 ls []) := by
    intro fu
    induction fu with
    | zero => intro S x2 x3 x4 h; cases h
    | succ fu ih => intro S x2 x3 x4 h; exact B_28 (l_X10_refusalNow_28 fu) ih S x2 x3 x4 h
  unfold f_X10_refusalNow at h
  refine lv_iload_n hx hb dX10_refusalNow_0 rfl (lv_at hl 1 rfl) ?_
  refine lv_iconst (v := 0) hx hb dX10_refusalNow_1 (by decide) ?_
  refine lv_iconst (v := 5) hx hb dX10_refusalNow_2 (by decide) ?_
  obtain ⟨r9, S9, e9, h⟩ := obd2_ex h
  refine k_S (As := [.int x1, .int 0, .int 5]) (rest := []) (st1 := [.int r9]) C kx hK I hA (c_X10_within e9) ⟨Nat.le_of_ble_eq_true rfl, Nat.le_of_ble_eq_true rfl⟩ ms_X10_within lk_X10_94 rfl hl.1 rfl (Nat.le_of_ble_eq_true rfl) dX10_refusalNow_3 rfl (fun H locs I => ?_)
  refine lv_if_ne (tgt := 12) hx hb dX10_refusalNow_6 (by decide) (fun c10 => ?_) (fun c10 => ?_)
  · have h := ite_n c10 h
    refine lv_iload_n hx hb dX10_refusalNow_12 rfl (lv_at hl 2 rfl) ?_
    refine lv_iconst (v := 0) hx hb dX10_refusalNow_13 (by decide) ?_
    refine lv_bipush (v := 63) hx hb dX10_refusalNow_14 (by decide) ?_
    obtain ⟨r11, S11, e11, h⟩ := obd2_ex h
    refine k_S (As := [.int x2, .int 0, .int 63]) (rest := []) (st1 := [.int r11]) C kx hK I hA (c_X10_within e11) ⟨Nat.le_of_ble_eq_true rfl, Nat.le_of_ble_eq_true rfl⟩ ms_X10_within lk_X10_94 rfl hl.1 rfl (Nat.le_of_ble_eq_true rfl) dX10_refusalNow_16 rfl (fun H locs I => ?_)
    refine lv_if_ne (tgt := 25) hx hb dX10_refusalNow_19 (by decide) (fun c12 => ?_) (fun c12 => ?_)
    · have h := ite_n c12 h
      refine lv_iconst (v := 0) hx hb dX10_refusalNow_25 (by decide) ?_
      refine lv_istore (lv' := [(4, .int 0), (0, .ref (ad 0)), (1, .int x1), (2, .int x2), (3, .int x3)]) hx hb dX10_refusalNow_26 hl (by decide) rfl (fun ls hl => ?_)
      exact J_28 _ _ _ _ _ h _ _ _ I (lv_sub hl [1, 3, 4, 0] rfl)
    · have h := ite_t c12 h
      refine lv_bipush (v := (-3)) hx hb dX10_refusalNow_22 (by decide) ?_
      exact rt_i hq h I dX10_refusalNow_24
  · have h := ite_t c10 h
    refine lv_bipush (v := (-2)) hx hb dX10_refusalNow_9 (by decide) ?_
    exact rt_i hq h I dX10_refusalNow_11
theorem lk_X10_239 : Cond.methodLink RX10 239 yX10_refusalNow ∈ TT := tt_of 934 (by decide +kernel) rfl
theorem mv_X10_refusalNow : MV yX10_refusalNow cX10_refusalNow 5 (some .int) 3 := ⟨tt_of 937 (by decide +kernel) rfl, tt_of 936 (by decide +kernel) rfl, tt_of 20 (by decide +kernel) rfl, tt_of 65 (by decide +kernel) rfl, ⟨by decide +kernel, by decide +kernel, by decide +kernel⟩⟩
theorem fl_X10_62 : Cond.fieldLink RX10 62 RX10 "now" "LCarryUp$Now;" ∈ TT := tt_of 390 (by decide +kernel) rfl
theorem lk_X10_242 : Cond.methodLink RX10 242 yX3_find ∈ TT := tt_of 944 (by decide +kernel) rfl
theorem mv_X3_find : MV yX3_find cX3_find 8 none 4 := ⟨tt_of 947 (by decide +kernel) rfl, tt_of 945 (by decide +kernel) rfl, tt_of 946 (by decide +kernel) rfl, tt_of 74 (by decide +kernel) rfl, ⟨by decide +kernel, by decide +kernel, by decide +kernel⟩⟩
theorem lk_X10_246 : Cond.methodLink RX10 246 yX3_worth ∈ TT := tt_of 970 (by decide +kernel) rfl
theorem mv_X3_worth : MV yX3_worth cX3_worth 1 (some .long) 0 := ⟨tt_of 973 (by decide +kernel) rfl, tt_of 971 (by decide +kernel) rfl, tt_of 972 (by decide +kernel) rfl, tt_of 74 (by decide +kernel) rfl, ⟨by decide +kernel, by decide +kernel, by decide +kernel⟩⟩
theorem lk_X10_248 : Cond.methodLink RX10 248 yX3_scale ∈ TT := tt_of 974 (by decide +kernel) rfl
theorem mv_X3_scale : MV yX3_scale cX3_scale 1 (some .long) 0 := ⟨tt_of 977 (by decide +kernel) rfl, tt_of 975 (by decide +kernel) rfl, tt_of 976 (by decide +kernel) rfl, tt_of 74 (by decide +kernel) rfl, ⟨by decide +kernel, by decide +kernel, by decide +kernel⟩⟩
theorem dX10_value_0 : decode cX10_value 0 = .ok (.aload_n 0, 1) := by decide +kernel
theorem dX10_value_1 : decode cX10_value 1 = .ok (.iload_n 1, 1) := by decide +kernel
theorem dX10_value_2 : decode cX10_value 2 = .ok (.iload 4, 2) := by decide +kernel
theorem dX10_value_4 : decode cX10_value 4 = .ok (.iload_n 2, 1) := by decide +kernel
theorem dX10_value_5 : decode cX10_value 5 = .ok (.iconst 0, 1) := by decide +kernel
theorem dX10_value_6 : decode cX10_value 6 = .ok (.sipush 1439, 3) := by decide +kernel
theorem dX10_value_9 : decode cX10_value 9 = .ok (.invokestatic 94, 3) := by decide +kernel
theorem dX10_value_12 : decode cX10_value 12 = .ok (.ifCond .eq 22, 3) := by decide +kernel
theorem dX10_value_15 : decode cX10_value 15 = .ok (.iload_n 3, 1) := by decide +kernel
theorem dX10_value_16 : decode cX10_value 16 = .ok (.invokestatic 158, 3) := by decide +kernel
theorem dX10_value_19 : decode cX10_value 19 = .ok (.ifCond .eq 15, 3) := by decide +kernel
theorem dX10_value_22 : decode cX10_value 22 = .ok (.iload 5, 2) := by decide +kernel
theorem dX10_value_24 : decode cX10_value 24 = .ok (.invokestatic 171, 3) := by decide +kernel
theorem dX10_value_27 : decode cX10_value 27 = .ok (.ifCond .eq 7, 3) := by decide +kernel
theorem dX10_value_30 : decode cX10_value 30 = .ok (.iconst 1, 1) := by decide +kernel
theorem dX10_value_31 : decode cX10_value 31 = .ok (.goto 4, 3) := by decide +kernel
theorem dX10_value_34 : decode cX10_value 34 = .ok (.iconst 0, 1) := by decide +kernel
theorem dX10_value_35 : decode cX10_value 35 = .ok (.invokevirtual 239, 3) := by decide +kernel
theorem dX10_value_38 : decode cX10_value 38 = .ok (.istore 6, 2) := by decide +kernel
theorem dX10_value_40 : decode cX10_value 40 = .ok (.iload 6, 2) := by decide +kernel
theorem dX10_value_42 : decode cX10_value 42 = .ok (.ifCond .eq 11, 3) := by decide +kernel
theorem dX10_value_45 : decode cX10_value 45 = .ok (.ldc2_w 187, 3) := by decide +kernel
theorem dX10_value_48 : decode cX10_value 48 = .ok (.iload 6, 2) := by decide +kernel
theorem dX10_value_50 : decode cX10_value 50 = .ok (.i2l, 1) := by decide +kernel
theorem dX10_value_51 : decode cX10_value 51 = .ok (.lsub, 1) := by decide +kernel
theorem dX10_value_52 : decode cX10_value 52 = .ok (.lreturn, 1) := by decide +kernel
theorem dX10_value_53 : decode cX10_value 53 = .ok (.aload_n 0, 1) := by decide +kernel
theorem dX10_value_54 : decode cX10_value 54 = .ok (.getfield 62, 3) := by decide +kernel
theorem dX10_value_57 : decode cX10_value 57 = .ok (.iload_n 1, 1) := by decide +kernel
theorem dX10_value_58 : decode cX10_value 58 = .ok (.iload_n 2, 1) := by decide +kernel
theorem dX10_value_59 : decode cX10_value 59 = .ok (.iload_n 3, 1) := by decide +kernel
theorem dX10_value_60 : decode cX10_value 60 = .ok (.iload 4, 2) := by decide +kernel
theorem dX10_value_62 : decode cX10_value 62 = .ok (.invokevirtual 242, 3) := by decide +kernel
theorem dX10_value_65 : decode cX10_value 65 = .ok (.aload_n 0, 1) := by decide +kernel
theorem dX10_value_66 : decode cX10_value 66 = .ok (.getfield 62, 3) := by decide +kernel
theorem dX10_value_69 : decode cX10_value 69 = .ok (.invokevirtual 246, 3) := by decide +kernel
theorem dX10_value_72 : decode cX10_value 72 = .ok (.aload_n 0, 1) := by decide +kernel
theorem dX10_value_73 : decode cX10_value 73 = .ok (.getfield 62, 3) := by decide +kernel
theorem dX10_value_76 : decode cX10_value 76 = .ok (.invokevirtual 248, 3) := by decide +kernel
theorem dX10_value_79 : decode cX10_value 79 = .ok (.iload 5, 2) := by decide +kernel
theorem dX10_value_81 : decode cX10_value 81 = .ok (.invokestatic 179, 3) := by decide +kernel
theorem dX10_value_84 : decode cX10_value 84 = .ok (.lreturn, 1) := by decide +kernel
def f_X10_value_35 (S : St) (x1 : Int32) (x2 : Int32) (x3 : Int32) (x4 : Int32) (x5 : Int32) (t1 : Int32) (t2 : Int32) (t3 : Int32) : Option (Int64 × St) :=
  obd2 (f_X10_refusalNow S t1 t2 t3) fun r1 S1 =>
  if r1 = 0 then (
    obd (f_X3_find S1 x1 x2 x3 x4) fun S3 =>
    obd2 (f_X3_worth S3 ) fun r4 S4 =>
    obd2 (f_X3_scale S4 ) fun r5 S5 =>
    obd2 (f_X10_lowest S5 r4 r5 x5) fun r6 S6 =>
    some (r6, S6)
  ) else (
    some (((-9000000000000000000) - (r1.toInt64)), S1)
  )
def f_X10_value_34 (S : St) (x1 : Int32) (x2 : Int32) (x3 : Int32) (x4 : Int32) (x5 : Int32) (t1 : Int32) (t2 : Int32) : Option (Int64 × St) :=
  f_X10_value_35 S x1 x2 x3 x4 x5 t1 t2 0
def f_X10_value (S : St) (x1 : Int32) (x2 : Int32) (x3 : Int32) (x4 : Int32) (x5 : Int32) : Option (Int64 × St) :=
  obd2 (f_X10_within S x2 0 1439) fun r7 S7 =>
  if r7 = 0 then (
    f_X10_value_34 S7 x1 x2 x3 x4 x5 x1 x4
  ) else (
    obd2 (f_X10_isBag S7 x3) fun r9 S9 =>
    if r9 = 0 then (
      f_X10_value_34 S9 x1 x2 x3 x4 x5 x1 x4
    ) else (
      obd2 (f_X10_isPart S9 x5) fun r11 S11 =>
      if r11 = 0 then (
        f_X10_value_34 S11 x1 x2 x3 x4 x5 x1 x4
      ) else (
        f_X10_value_35 S11 x1 x2 x3 x4 x5 x1 x4 1
      )
    )
  )
set_option maxHeartbeats 4000000 in
set_option maxRecDepth 100000 in
theorem c_X10_value {l : Launch} {D : va_G} {cI cC cS : ClassId} {ad adK adV : Nat → Nat} {S S1 : St} {x1 : Int32} {x2 : Int32} {x3 : Int32} {x4 : Int32} {x5 : Int32} {r : Int64} (h : f_X10_value S x1 x2 x3 x4 x5 = some (r, S1)) : Kt l D (xw cI cC cS ad) (KX D (xtys cI cC cS) adK adV) yX10_value cX10_value 7 (some .long) (26) (604) [.ref (ad 0), .int x1, .int x2, .int x3, .int x4, .int x5] S (some (.long r)) S1 := by
  refine k_ent (ins := .lreturn) (st := [.long r]) (by decide +kernel) (Nat.le_of_ble_eq_true rfl) ret_l ?_
  intro p e s m args below meth c A Q C hK I hA hq ls hl
  have C : CallFix p m c cX10_value 7 s args TT RX10 := C
  have hx := C.1
  have hb := C.2.1
  have kx := kx_ok D (xtys cI cC cS) adK adV
  have hl : lv_has ls 7 [(0, .ref (ad 0)), (1, .int x1), (2, .int x2), (3, .int x3), (4, .int x4), (5, .int x5)] := hl
  have J_35 : ∀ (S : St) (x1 : Int32) (x2 : Int32) (x3 : Int32) (x4 : Int32) (x5 : Int32) (t1 : Int32) (t2 : Int32) (t3 : Int32), f_X10_value_35  S x1 x2 x3 x4 x5 t1 t2 t3 = some (r, S1) → ∀ (H : Heap) (locs : List Loc) (ls : Array Slot), Iv D (xw cI cC cS ad) S A s H locs → lv_has ls 7 [(0, .ref (ad 0)), (1, .int x1), (2, .int x2), (3, .int x3), (4, .int x4), (5, .int x5)] → W p l e ({ frames := 26, cells := 0, slots := 0, locals := 604 } : Room) s m args below meth c H locs 0 0 Q (F0 m 35 ls [.int t3, .int t2, .int t1, .ref (ad 0)]) := by
    intro  S x1 x2 x3 x4 x5 t1 t2 t3 h H locs ls I hl
    unfold f_X10_value_35 at h
    obtain ⟨r1, S1, e1, h⟩ := obd2_ex h
    refine k_V (As := [.int t1, .int t2, .int t3]) (rest := []) (st1 := [.int r1]) C kx hK I hA (c_X10_refusalNow e1) ⟨Nat.le_of_ble_eq_true rfl, Nat.le_of_ble_eq_true rfl⟩ mv_X10_refusalNow lk_X10_239 0 10 (xw_0 (cI := cI) (ad := ad) (cC := cC) (cS := cS)) rfl rfl hl.1 rfl (Nat.le_of_ble_eq_true rfl) dX10_value_35 rfl (fun H locs I => ?_)
    refine lv_istore (lv' := [(6, .int r1), (0, .ref (ad 0)), (1, .int x1), (2, .int x2), (3, .int x3), (4, .int x4), (5, .int x5)]) hx hb dX10_value_38 hl (by decide) rfl (fun ls hl => ?_)
    refine lv_iload hx hb dX10_value_40 (lv_at hl 0 rfl) ?_
    refine lv_if_eq (tgt := 53) hx hb dX10_value_42 (by decide) (fun c2 => ?_) (fun c2 => ?_)
    · have h := ite_t c2 h
      refine lv_aload_n hx hb dX10_value_53 rfl (lv_at hl 1 rfl) ?_
      refine gx_0_6 C hK I fl_X10_62 dX10_value_54 ?_
      refine lv_iload_n hx hb dX10_value_57 rfl (lv_at hl 2 rfl) ?_
      refine lv_iload_n hx hb dX10_value_58 rfl (lv_at hl 3 rfl) ?_
      refine lv_iload_n hx hb dX10_value_59 rfl (lv_at hl 4 rfl) ?_
      refine lv_iload hx hb dX10_value_60 (lv_at hl 5 rfl) ?_
      obtain ⟨S3, e3, h⟩ := obd_ex h
      refine k_V (As := [.int x1, .int x2, .int x3, .int x4]) (rest := []) (st1 := []) C kx hK I hA (c_X3_find e3) ⟨Nat.le_of_ble_eq_true rfl, Nat.le_of_ble_eq_true rfl⟩ mv_X3_find lk_X10_242 7 3 (xw_7 (cI := cI) (ad := ad) (cC := cC) (cS := cS)) rfl rfl hl.1 rfl (Nat.le_of_ble_eq_true rfl) dX10_value_62 rfl (fun H locs I => ?_)
      refine lv_aload_n hx hb dX10_value_65 rfl (lv_at hl 1 rfl) ?_
      refine gx_0_6 C hK I fl_X10_62 dX10_value_66 ?_
      obtain ⟨r4, S4, e4, h⟩ := obd2_ex h
      refine k_V (As := []) (rest := []) (st1 := [.long r4]) C kx hK I hA (c_X3_worth e4) ⟨Nat.le_of_ble_eq_true rfl, Nat.le_of_ble_eq_true rfl⟩ mv_X3_worth lk_X10_246 7 3 (xw_7 (cI := cI) (ad := ad) (cC := cC) (cS := cS)) rfl rfl hl.1 rfl (Nat.le_of_ble_eq_true rfl) dX10_value_69 rfl (fun H locs I => ?_)
      refine lv_aload_n hx hb dX10_value_72 rfl (lv_at hl 1 rfl) ?_
      refine gx_0_6 C hK I fl_X10_62 dX10_value_73 ?_
      obtain ⟨r5, S5, e5, h⟩ := obd2_ex h
      refine k_V (As := []) (rest := [.long r4]) (st1 := [.long r5, .long r4]) C kx hK I hA (c_X3_scale e5) ⟨Nat.le_of_ble_eq_true rfl, Nat.le_of_ble_eq_true rfl⟩ mv_X3_scale lk_X10_248 7 3 (xw_7 (cI := cI) (ad := ad) (cC := cC) (cS := cS)) rfl rfl hl.1 rfl (Nat.le_of_ble_eq_true rfl) dX10_value_76 rfl (fun H locs I => ?_)
      refine lv_iload hx hb dX10_value_79 (lv_at hl 6 rfl) ?_
      obtain ⟨r6, S6, e6, h⟩ := obd2_ex h
      refine k_S (As := [.long r4, .long r5, .int x5]) (rest := []) (st1 := [.long r6]) C kx hK I hA (c_X10_lowest e6) ⟨Nat.le_of_ble_eq_true rfl, Nat.le_of_ble_eq_true rfl⟩ ms_X10_lowest lk_X10_179 rfl hl.1 rfl (Nat.le_of_ble_eq_true rfl) dX10_value_81 rfl (fun H locs I => ?_)
      exact rt_l hq h I dX10_value_84
    · have h := ite_n c2 h
      refine lv_ldc2 (v := (-9000000000000000000)) hx hb C.2.2.2.1 (C.2.2.2.2 _ cn_X10_187) dX10_value_45 ?_
      refine lv_iload hx hb dX10_value_48 (lv_at hl 0 rfl) ?_
      refine lv_i2l hx hb dX10_value_50 rfl ?_
      refine lv_lsub hx hb dX10_value_51 ?_
      exact rt_l hq h I dX10_value_52
  have J_34 : ∀ (S : St) (x1 : Int32) (x2 : Int32) (x3 : Int32) (x4 : Int32) (x5 : Int32) (t1 : Int32) (t2 : Int32), f_X10_value_34  S x1 x2 x3 x4 x5 t1 t2 = some (r, S1) → ∀ (H : Heap) (locs : List Loc) (ls : Array Slot), Iv D (xw cI cC cS ad) S A s H locs → lv_has ls 7 [(0, .ref (ad 0)), (1, .int x1), (2, .int x2), (3, .int x3), (4, .int x4), (5, .int x5)] → W p l e ({ frames := 26, cells := 0, slots := 0, locals := 604 } : Room) s m args below meth c H locs 0 0 Q (F0 m 34 ls [.int t2, .int t1, .ref (ad 0)]) := by
    intro  S x1 x2 x3 x4 x5 t1 t2 h H locs ls I hl
    unfold f_X10_value_34 at h
    refine lv_iconst (v := 0) hx hb dX10_value_34 (by decide) ?_
    exact J_35 _ _ _ _ _ _ _ _ _ h _ _ _ I (lv_sub hl [0, 1, 2, 3, 4, 5] rfl)
  unfold f_X10_value at h
  refine lv_aload_n hx hb dX10_value_0 rfl (lv_at hl 0 rfl) ?_
  refine lv_iload_n hx hb dX10_value_1 rfl (lv_at hl 1 rfl) ?_
  refine lv_iload hx hb dX10_value_2 (lv_at hl 4 rfl) ?_
  refine lv_iload_n hx hb dX10_value_4 rfl (lv_at hl 2 rfl) ?_
  refine lv_iconst (v := 0) hx hb dX10_value_5 (by decide) ?_
  refine lv_sipush (v := 1439) hx hb dX10_value_6 (by decide) ?_
  obtain ⟨r7, S7, e7, h⟩ := obd2_ex h
  refine k_S (As := [.int x2, .int 0, .int 1439]) (rest := [.int x4, .int x1, .ref (ad 0)]) (st1 := [.int r7, .int x4, .int x1, .ref (ad 0)]) C kx hK I hA (c_X10_within e7) ⟨Nat.le_of_ble_eq_true rfl, Nat.le_of_ble_eq_true rfl⟩ ms_X10_within lk_X10_94 rfl hl.1 rfl (Nat.le_of_ble_eq_true rfl) dX10_value_9 rfl (fun H locs I => ?_)
  refine lv_if_eq (tgt := 34) hx hb dX10_value_12 (by decide) (fun c8 => ?_) (fun c8 => ?_)
  · have h := ite_t c8 h
    exact J_34 _ _ _ _ _ _ _ _ h _ _ _ I (lv_sub hl [0, 1, 2, 3, 4, 5] rfl)
  · have h := ite_n c8 h
    refine lv_iload_n hx hb dX10_value_15 rfl (lv_at hl 3 rfl) ?_
    obtain ⟨r9, S9, e9, h⟩ := obd2_ex h
    refine k_S (As := [.int x3]) (rest := [.int x4, .int x1, .ref (ad 0)]) (st1 := [.int r9, .int x4, .int x1, .ref (ad 0)]) C kx hK I hA (c_X10_isBag e9) ⟨Nat.le_of_ble_eq_true rfl, Nat.le_of_ble_eq_true rfl⟩ ms_X10_isBag lk_X10_158 rfl hl.1 rfl (Nat.le_of_ble_eq_true rfl) dX10_value_16 rfl (fun H locs I => ?_)
    refine lv_if_eq (tgt := 34) hx hb dX10_value_19 (by decide) (fun c10 => ?_) (fun c10 => ?_)
    · have h := ite_t c10 h
      exact J_34 _ _ _ _ _ _ _ _ h _ _ _ I (lv_sub hl [0, 1, 2, 3, 4, 5] rfl)
    · have h := ite_n c10 h
      refine lv_iload hx hb dX10_value_22 (lv_at hl 5 rfl) ?_
      obtain ⟨r11, S11, e11, h⟩ := obd2_ex h
      refine k_S (As := [.int x5]) (rest := [.int x4, .int x1, .ref (ad 0)]) (st1 := [.int r11, .int x4, .int x1, .ref (ad 0)]) C kx hK I hA (c_X10_isPart e11) ⟨Nat.le_of_ble_eq_true rfl, Nat.le_of_ble_eq_true rfl⟩ ms_X10_isPart lk_X10_171 rfl hl.1 rfl (Nat.le_of_ble_eq_true rfl) dX10_value_24 rfl (fun H locs I => ?_)
      refine lv_if_eq (tgt := 34) hx hb dX10_value_27 (by decide) (fun c12 => ?_) (fun c12 => ?_)
      · have h := ite_t c12 h
        exact J_34 _ _ _ _ _ _ _ _ h _ _ _ I (lv_sub hl [0, 1, 2, 3, 4, 5] rfl)
      · have h := ite_n c12 h
        refine lv_iconst (v := 1) hx hb dX10_value_30 (by decide) ?_
        refine lv_goto (tgt := 35) hx hb dX10_value_31 (by decide) ?_
        exact J_35 _ _ _ _ _ _ _ _ _ h _ _ _ I (lv_sub hl [0, 1, 2, 3, 4, 5] rfl)
theorem lk_X10_249 : Cond.methodLink RX10 249 yX3_first ∈ TT := tt_of 982 (by decide +kernel) rfl
theorem mv_X3_first : MV yX3_first cX3_first 1 (some .int) 0 := ⟨tt_of 985 (by decide +kernel) rfl, tt_of 983 (by decide +kernel) rfl, tt_of 984 (by decide +kernel) rfl, tt_of 74 (by decide +kernel) rfl, ⟨by decide +kernel, by decide +kernel, by decide +kernel⟩⟩
theorem dX10_next_0 : decode cX10_next 0 = .ok (.aload_n 0, 1) := by decide +kernel
theorem dX10_next_1 : decode cX10_next 1 = .ok (.iload_n 1, 1) := by decide +kernel
theorem dX10_next_2 : decode cX10_next 2 = .ok (.iload 4, 2) := by decide +kernel
theorem dX10_next_4 : decode cX10_next 4 = .ok (.iload_n 2, 1) := by decide +kernel
theorem dX10_next_5 : decode cX10_next 5 = .ok (.iconst 0, 1) := by decide +kernel
theorem dX10_next_6 : decode cX10_next 6 = .ok (.sipush 1439, 3) := by decide +kernel
theorem dX10_next_9 : decode cX10_next 9 = .ok (.invokestatic 94, 3) := by decide +kernel
theorem dX10_next_12 : decode cX10_next 12 = .ok (.ifCond .eq 14, 3) := by decide +kernel
theorem dX10_next_15 : decode cX10_next 15 = .ok (.iload_n 3, 1) := by decide +kernel
theorem dX10_next_16 : decode cX10_next 16 = .ok (.invokestatic 158, 3) := by decide +kernel
theorem dX10_next_19 : decode cX10_next 19 = .ok (.ifCond .eq 7, 3) := by decide +kernel
theorem dX10_next_22 : decode cX10_next 22 = .ok (.iconst 1, 1) := by decide +kernel
theorem dX10_next_23 : decode cX10_next 23 = .ok (.goto 4, 3) := by decide +kernel
theorem dX10_next_26 : decode cX10_next 26 = .ok (.iconst 0, 1) := by decide +kernel
theorem dX10_next_27 : decode cX10_next 27 = .ok (.invokevirtual 239, 3) := by decide +kernel
theorem dX10_next_30 : decode cX10_next 30 = .ok (.istore 5, 2) := by decide +kernel
theorem dX10_next_32 : decode cX10_next 32 = .ok (.iload 5, 2) := by decide +kernel
theorem dX10_next_34 : decode cX10_next 34 = .ok (.ifCond .eq 6, 3) := by decide +kernel
theorem dX10_next_37 : decode cX10_next 37 = .ok (.iload 5, 2) := by decide +kernel
theorem dX10_next_39 : decode cX10_next 39 = .ok (.ireturn, 1) := by decide +kernel
theorem dX10_next_40 : decode cX10_next 40 = .ok (.aload_n 0, 1) := by decide +kernel
theorem dX10_next_41 : decode cX10_next 41 = .ok (.getfield 62, 3) := by decide +kernel
theorem dX10_next_44 : decode cX10_next 44 = .ok (.iload_n 1, 1) := by decide +kernel
theorem dX10_next_45 : decode cX10_next 45 = .ok (.iload_n 2, 1) := by decide +kernel
theorem dX10_next_46 : decode cX10_next 46 = .ok (.iload_n 3, 1) := by decide +kernel
theorem dX10_next_47 : decode cX10_next 47 = .ok (.iload 4, 2) := by decide +kernel
theorem dX10_next_49 : decode cX10_next 49 = .ok (.invokevirtual 242, 3) := by decide +kernel
theorem dX10_next_52 : decode cX10_next 52 = .ok (.aload_n 0, 1) := by decide +kernel
theorem dX10_next_53 : decode cX10_next 53 = .ok (.getfield 62, 3) := by decide +kernel
theorem dX10_next_56 : decode cX10_next 56 = .ok (.invokevirtual 249, 3) := by decide +kernel
theorem dX10_next_59 : decode cX10_next 59 = .ok (.ireturn, 1) := by decide +kernel
def f_X10_next_27 (S : St) (x1 : Int32) (x2 : Int32) (x3 : Int32) (x4 : Int32) (t1 : Int32) (t2 : Int32) (t3 : Int32) : Option (Int32 × St) :=
  obd2 (f_X10_refusalNow S t1 t2 t3) fun r1 S1 =>
  if r1 = 0 then (
    obd (f_X3_find S1 x1 x2 x3 x4) fun S3 =>
    obd2 (f_X3_first S3 ) fun r4 S4 =>
    some (r4, S4)
  ) else (
    some (r1, S1)
  )
def f_X10_next_26 (S : St) (x1 : Int32) (x2 : Int32) (x3 : Int32) (x4 : Int32) (t1 : Int32) (t2 : Int32) : Option (Int32 × St) :=
  f_X10_next_27 S x1 x2 x3 x4 t1 t2 0
def f_X10_next (S : St) (x1 : Int32) (x2 : Int32) (x3 : Int32) (x4 : Int32) : Option (Int32 × St) :=
  obd2 (f_X10_within S x2 0 1439) fun r5 S5 =>
  if r5 = 0 then (
    f_X10_next_26 S5 x1 x2 x3 x4 x1 x4
  ) else (
    obd2 (f_X10_isBag S5 x3) fun r7 S7 =>
    if r7 = 0 then (
      f_X10_next_26 S7 x1 x2 x3 x4 x1 x4
    ) else (
      f_X10_next_27 S7 x1 x2 x3 x4 x1 x4 1
    )
  )
set_option maxHeartbeats 4000000 in
set_option maxRecDepth 100000 in
theorem c_X10_next {l : Launch} {D : va_G} {cI cC cS : ClassId} {ad adK adV : Nat → Nat} {S S1 : St} {x1 : Int32} {x2 : Int32} {x3 : Int32} {x4 : Int32} {r : Int32} (h : f_X10_next S x1 x2 x3 x4 = some (r, S1)) : Kt l D (xw cI cC cS ad) (KX D (xtys cI cC cS) adK adV) yX10_next cX10_next 6 (some .int) (26) (604) [.ref (ad 0), .int x1, .int x2, .int x3, .int x4] S (some (.int r)) S1 := by
  refine k_ent (ins := .ireturn) (st := [.int r]) (by decide +kernel) (Nat.le_of_ble_eq_true rfl) ret_i ?_
  intro p e s m args below meth c A Q C hK I hA hq ls hl
  have C : CallFix p m c cX10_next 6 s args TT RX10 := C
  have hx := C.1
  have hb := C.2.1
  have kx := kx_ok D (xtys cI cC cS) adK adV
  have hl : lv_has ls 6 [(0, .ref (ad 0)), (1, .int x1), (2, .int x2), (3, .int x3), (4, .int x4)] := hl
  have J_27 : ∀ (S : St) (x1 : Int32) (x2 : Int32) (x3 : Int32) (x4 : Int32) (t1 : Int32) (t2 : Int32) (t3 : Int32), f_X10_next_27  S x1 x2 x3 x4 t1 t2 t3 = some (r, S1) → ∀ (H : Heap) (locs : List Loc) (ls : Array Slot), Iv D (xw cI cC cS ad) S A s H locs → lv_has ls 6 [(0, .ref (ad 0)), (1, .int x1), (2, .int x2), (3, .int x3), (4, .int x4)] → W p l e ({ frames := 26, cells := 0, slots := 0, locals := 604 } : Room) s m args below meth c H locs 0 0 Q (F0 m 27 ls [.int t3, .int t2, .int t1, .ref (ad 0)]) := by
    intro  S x1 x2 x3 x4 t1 t2 t3 h H locs ls I hl
    unfold f_X10_next_27 at h
    obtain ⟨r1, S1, e1, h⟩ := obd2_ex h
    refine k_V (As := [.int t1, .int t2, .int t3]) (rest := []) (st1 := [.int r1]) C kx hK I hA (c_X10_refusalNow e1) ⟨Nat.le_of_ble_eq_true rfl, Nat.le_of_ble_eq_true rfl⟩ mv_X10_refusalNow lk_X10_239 0 10 (xw_0 (cI := cI) (ad := ad) (cC := cC) (cS := cS)) rfl rfl hl.1 rfl (Nat.le_of_ble_eq_true rfl) dX10_next_27 rfl (fun H locs I => ?_)
    refine lv_istore (lv' := [(5, .int r1), (0, .ref (ad 0)), (1, .int x1), (2, .int x2), (3, .int x3), (4, .int x4)]) hx hb dX10_next_30 hl (by decide) rfl (fun ls hl => ?_)
    refine lv_iload hx hb dX10_next_32 (lv_at hl 0 rfl) ?_
    refine lv_if_eq (tgt := 40) hx hb dX10_next_34 (by decide) (fun c2 => ?_) (fun c2 => ?_)
    · have h := ite_t c2 h
      refine lv_aload_n hx hb dX10_next_40 rfl (lv_at hl 1 rfl) ?_
      refine gx_0_6 C hK I fl_X10_62 dX10_next_41 ?_
      refine lv_iload_n hx hb dX10_next_44 rfl (lv_at hl 2 rfl) ?_
      refine lv_iload_n hx hb dX10_next_45 rfl (lv_at hl 3 rfl) ?_
      refine lv_iload_n hx hb dX10_next_46 rfl (lv_at hl 4 rfl) ?_
      refine lv_iload hx hb dX10_next_47 (lv_at hl 5 rfl) ?_
      obtain ⟨S3, e3, h⟩ := obd_ex h
      refine k_V (As := [.int x1, .int x2, .int x3, .int x4]) (rest := []) (st1 := []) C kx hK I hA (c_X3_find e3) ⟨Nat.le_of_ble_eq_true rfl, Nat.le_of_ble_eq_true rfl⟩ mv_X3_find lk_X10_242 7 3 (xw_7 (cI := cI) (ad := ad) (cC := cC) (cS := cS)) rfl rfl hl.1 rfl (Nat.le_of_ble_eq_true rfl) dX10_next_49 rfl (fun H locs I => ?_)
      refine lv_aload_n hx hb dX10_next_52 rfl (lv_at hl 1 rfl) ?_
      refine gx_0_6 C hK I fl_X10_62 dX10_next_53 ?_
      obtain ⟨r4, S4, e4, h⟩ := obd2_ex h
      refine k_V (As := []) (rest := []) (st1 := [.int r4]) C kx hK I hA (c_X3_first e4) ⟨Nat.le_of_ble_eq_true rfl, Nat.le_of_ble_eq_true rfl⟩ mv_X3_first lk_X10_249 7 3 (xw_7 (cI := cI) (ad := ad) (cC := cC) (cS := cS)) rfl rfl hl.1 rfl (Nat.le_of_ble_eq_true rfl) dX10_next_56 rfl (fun H locs I => ?_)
      exact rt_i hq h I dX10_next_59
    · have h := ite_n c2 h
      refine lv_iload hx hb dX10_next_37 (lv_at hl 0 rfl) ?_
      exact rt_i hq h I dX10_next_39
  have J_26 : ∀ (S : St) (x1 : Int32) (x2 : Int32) (x3 : Int32) (x4 : Int32) (t1 : Int32) (t2 : Int32), f_X10_next_26  S x1 x2 x3 x4 t1 t2 = some (r, S1) → ∀ (H : Heap) (locs : List Loc) (ls : Array Slot), Iv D (xw cI cC cS ad) S A s H locs → lv_has ls 6 [(0, .ref (ad 0)), (1, .int x1), (2, .int x2), (3, .int x3), (4, .int x4)] → W p l e ({ frames := 26, cells := 0, slots := 0, locals := 604 } : Room) s m args below meth c H locs 0 0 Q (F0 m 26 ls [.int t2, .int t1, .ref (ad 0)]) := by
    intro  S x1 x2 x3 x4 t1 t2 h H locs ls I hl
    unfold f_X10_next_26 at h
    refine lv_iconst (v := 0) hx hb dX10_next_26 (by decide) ?_
    exact J_27 _ _ _ _ _ _ _ _ h _ _ _ I (lv_sub hl [0, 1, 2, 3, 4] rfl)
  unfold f_X10_next at h
  refine lv_aload_n hx hb dX10_next_0 rfl (lv_at hl 0 rfl) ?_
  refine lv_iload_n hx hb dX10_next_1 rfl (lv_at hl 1 rfl) ?_
  refine lv_iload hx hb dX10_next_2 (lv_at hl 4 rfl) ?_
  refine lv_iload_n hx hb dX10_next_4 rfl (lv_at hl 2 rfl) ?_
  refine lv_iconst (v := 0) hx hb dX10_next_5 (by decide) ?_
  refine lv_sipush (v := 1439) hx hb dX10_next_6 (by decide) ?_
  obtain ⟨r5, S5, e5, h⟩ := obd2_ex h
  refine k_S (As := [.int x2, .int 0, .int 1439]) (rest := [.int x4, .int x1, .ref (ad 0)]) (st1 := [.int r5, .int x4, .int x1, .ref (ad 0)]) C kx hK I hA (c_X10_within e5) ⟨Nat.le_of_ble_eq_true rfl, Nat.le_of_ble_eq_true rfl⟩ ms_X10_within lk_X10_94 rfl hl.1 rfl (Nat.le_of_ble_eq_true rfl) dX10_next_9 rfl (fun H locs I => ?_)
  refine lv_if_eq (tgt := 26) hx hb dX10_next_12 (by decide) (fun c6 => ?_) (fun c6 => ?_)
  · have h := ite_t c6 h
    exact J_26 _ _ _ _ _ _ _ h _ _ _ I (lv_sub hl [0, 1, 2, 3, 4] rfl)
  · have h := ite_n c6 h
    refine lv_iload_n hx hb dX10_next_15 rfl (lv_at hl 3 rfl) ?_
    obtain ⟨r7, S7, e7, h⟩ := obd2_ex h
    refine k_S (As := [.int x3]) (rest := [.int x4, .int x1, .ref (ad 0)]) (st1 := [.int r7, .int x4, .int x1, .ref (ad 0)]) C kx hK I hA (c_X10_isBag e7) ⟨Nat.le_of_ble_eq_true rfl, Nat.le_of_ble_eq_true rfl⟩ ms_X10_isBag lk_X10_158 rfl hl.1 rfl (Nat.le_of_ble_eq_true rfl) dX10_next_16 rfl (fun H locs I => ?_)
    refine lv_if_eq (tgt := 26) hx hb dX10_next_19 (by decide) (fun c8 => ?_) (fun c8 => ?_)
    · have h := ite_t c8 h
      exact J_26 _ _ _ _ _ _ _ h _ _ _ I (lv_sub hl [0, 1, 2, 3, 4] rfl)
    · have h := ite_n c8 h
      refine lv_iconst (v := 1) hx hb dX10_next_22 (by decide) ?_
      refine lv_goto (tgt := 27) hx hb dX10_next_23 (by decide) ?_
      exact J_27 _ _ _ _ _ _ _ _ h _ _ _ I (lv_sub hl [0, 1, 2, 3, 4] rfl)
theorem lk_X10_252 : Cond.methodLink RX10 252 yX4_standsIn ∈ TT := tt_of 990 (by decide +kernel) rfl
theorem mv_X4_standsIn : MV yX4_standsIn cX4_standsIn 5 (some .boolean) 2 := ⟨tt_of 993 (by decide +kernel) rfl, tt_of 991 (by decide +kernel) rfl, tt_of 992 (by decide +kernel) rfl, tt_of 68 (by decide +kernel) rfl, ⟨by decide +kernel, by decide +kernel, by decide +kernel⟩⟩
theorem dX10_stands_0 : decode cX10_stands 0 = .ok (.iload_n 1, 1) := by decide +kernel
theorem dX10_stands_1 : decode cX10_stands 1 = .ok (.iconst 0, 1) := by decide +kernel
theorem dX10_stands_2 : decode cX10_stands 2 = .ok (.bipush 7, 2) := by decide +kernel
theorem dX10_stands_4 : decode cX10_stands 4 = .ok (.invokestatic 94, 3) := by decide +kernel
theorem dX10_stands_7 : decode cX10_stands 7 = .ok (.ifCond .eq 18, 3) := by decide +kernel
theorem dX10_stands_10 : decode cX10_stands 10 = .ok (.iload_n 2, 1) := by decide +kernel
theorem dX10_stands_11 : decode cX10_stands 11 = .ok (.iconst 0, 1) := by decide +kernel
theorem dX10_stands_12 : decode cX10_stands 12 = .ok (.bipush 7, 2) := by decide +kernel
theorem dX10_stands_14 : decode cX10_stands 14 = .ok (.invokestatic 94, 3) := by decide +kernel
theorem dX10_stands_17 : decode cX10_stands 17 = .ok (.ifCond .eq 8, 3) := by decide +kernel
theorem dX10_stands_20 : decode cX10_stands 20 = .ok (.iload_n 1, 1) := by decide +kernel
theorem dX10_stands_21 : decode cX10_stands 21 = .ok (.iload_n 2, 1) := by decide +kernel
theorem dX10_stands_22 : decode cX10_stands 22 = .ok (.if_icmp .ne 6, 3) := by decide +kernel
theorem dX10_stands_25 : decode cX10_stands 25 = .ok (.bipush (-2), 2) := by decide +kernel
theorem dX10_stands_27 : decode cX10_stands 27 = .ok (.ireturn, 1) := by decide +kernel
theorem dX10_stands_28 : decode cX10_stands 28 = .ok (.aload_n 0, 1) := by decide +kernel
theorem dX10_stands_29 : decode cX10_stands 29 = .ok (.getfield 28, 3) := by decide +kernel
theorem dX10_stands_32 : decode cX10_stands 32 = .ok (.iload_n 1, 1) := by decide +kernel
theorem dX10_stands_33 : decode cX10_stands 33 = .ok (.iload_n 2, 1) := by decide +kernel
theorem dX10_stands_34 : decode cX10_stands 34 = .ok (.invokevirtual 252, 3) := by decide +kernel
theorem dX10_stands_37 : decode cX10_stands 37 = .ok (.ifCond .eq 7, 3) := by decide +kernel
theorem dX10_stands_40 : decode cX10_stands 40 = .ok (.iconst 1, 1) := by decide +kernel
theorem dX10_stands_41 : decode cX10_stands 41 = .ok (.goto 4, 3) := by decide +kernel
theorem dX10_stands_44 : decode cX10_stands 44 = .ok (.iconst 0, 1) := by decide +kernel
theorem dX10_stands_45 : decode cX10_stands 45 = .ok (.ireturn, 1) := by decide +kernel
def f_X10_stands (S : St) (x1 : Int32) (x2 : Int32) : Option (Int32 × St) :=
  obd2 (f_X10_within S x1 0 7) fun r1 S1 =>
  if r1 = 0 then (
    some ((-2), S1)
  ) else (
    obd2 (f_X10_within S1 x2 0 7) fun r3 S3 =>
    if r3 = 0 then (
      some ((-2), S3)
    ) else (
      if x1 = x2 then (
        some ((-2), S3)
      ) else (
        obd2 (f_X4_standsIn S3 x1 x2) fun r6 S6 =>
        if r6 = 0 then (
          some (0, S6)
        ) else (
          some (1, S6)
        )
      )
    )
  )
set_option maxHeartbeats 4000000 in
set_option maxRecDepth 100000 in
theorem c_X10_stands {l : Launch} {D : va_G} {cI cC cS : ClassId} {ad adK adV : Nat → Nat} {S S1 : St} {x1 : Int32} {x2 : Int32} {r : Int32} (h : f_X10_stands S x1 x2 = some (r, S1)) : Kt l D (xw cI cC cS ad) (KX D (xtys cI cC cS) adK adV) yX10_stands cX10_stands 3 (some .int) (4) (90) [.ref (ad 0), .int x1, .int x2] S (some (.int r)) S1 := by
  refine k_ent (ins := .ireturn) (st := [.int r]) (by decide +kernel) (Nat.le_of_ble_eq_true rfl) ret_i ?_
  intro p e s m args below meth c A Q C hK I hA hq ls hl
  have C : CallFix p m c cX10_stands 3 s args TT RX10 := C
  have hx := C.1
  have hb := C.2.1
  have kx := kx_ok D (xtys cI cC cS) adK adV
  have hl : lv_has ls 3 [(0, .ref (ad 0)), (1, .int x1), (2, .int x2)] := hl
  unfold f_X10_stands at h
  refine lv_iload_n hx hb dX10_stands_0 rfl (lv_at hl 1 rfl) ?_
  refine lv_iconst (v := 0) hx hb dX10_stands_1 (by decide) ?_
  refine lv_bipush (v := 7) hx hb dX10_stands_2 (by decide) ?_
  obtain ⟨r1, S1, e1, h⟩ := obd2_ex h
  refine k_S (As := [.int x1, .int 0, .int 7]) (rest := []) (st1 := [.int r1]) C kx hK I hA (c_X10_within e1) ⟨Nat.le_of_ble_eq_true rfl, Nat.le_of_ble_eq_true rfl⟩ ms_X10_within lk_X10_94 rfl hl.1 rfl (Nat.le_of_ble_eq_true rfl) dX10_stands_4 rfl (fun H locs I => ?_)
  refine lv_if_eq (tgt := 25) hx hb dX10_stands_7 (by decide) (fun c2 => ?_) (fun c2 => ?_)
  · have h := ite_t c2 h
    refine lv_bipush (v := (-2)) hx hb dX10_stands_25 (by decide) ?_
    exact rt_i hq h I dX10_stands_27
  · have h := ite_n c2 h
    refine lv_iload_n hx hb dX10_stands_10 rfl (lv_at hl 2 rfl) ?_
    refine lv_iconst (v := 0) hx hb dX10_stands_11 (by decide) ?_
    refine lv_bipush (v := 7) hx hb dX10_stands_12 (by decide) ?_
    obtain ⟨r3, S3, e3, h⟩ := obd2_ex h
    refine k_S (As := [.int x2, .int 0, .int 7]) (rest := []) (st1 := [.int r3]) C kx hK I hA (c_X10_within e3) ⟨Nat.le_of_ble_eq_true rfl, Nat.le_of_ble_eq_true rfl⟩ ms_X10_within lk_X10_94 rfl hl.1 rfl (Nat.le_of_ble_eq_true rfl) dX10_stands_14 rfl (fun H locs I => ?_)
    refine lv_if_eq (tgt := 25) hx hb dX10_stands_17 (by decide) (fun c4 => ?_) (fun c4 => ?_)
    · have h := ite_t c4 h
      refine lv_bipush (v := (-2)) hx hb dX10_stands_25 (by decide) ?_
      exact rt_i hq h I dX10_stands_27
    · have h := ite_n c4 h
      refine lv_iload_n hx hb dX10_stands_20 rfl (lv_at hl 1 rfl) ?_
      refine lv_iload_n hx hb dX10_stands_21 rfl (lv_at hl 2 rfl) ?_
      refine lv_icmp_ne (tgt := 28) hx hb dX10_stands_22 (by decide) (fun c5 => ?_) (fun c5 => ?_)
      · have h := ite_n c5 h
        refine lv_aload_n hx hb dX10_stands_28 rfl (lv_at hl 0 rfl) ?_
        refine gx_0_2 C hK I fl_X10_28 dX10_stands_29 ?_
        refine lv_iload_n hx hb dX10_stands_32 rfl (lv_at hl 1 rfl) ?_
        refine lv_iload_n hx hb dX10_stands_33 rfl (lv_at hl 2 rfl) ?_
        obtain ⟨r6, S6, e6, h⟩ := obd2_ex h
        refine k_V (As := [.int x1, .int x2]) (rest := []) (st1 := [.int r6]) C kx hK I hA (c_X4_standsIn e6) ⟨Nat.le_of_ble_eq_true rfl, Nat.le_of_ble_eq_true rfl⟩ mv_X4_standsIn lk_X10_252 3 4 (xw_3 (cI := cI) (ad := ad) (cC := cC) (cS := cS)) rfl rfl hl.1 rfl (Nat.le_of_ble_eq_true rfl) dX10_stands_34 rfl (fun H locs I => ?_)
        refine lv_if_eq (tgt := 44) hx hb dX10_stands_37 (by decide) (fun c7 => ?_) (fun c7 => ?_)
        · have h := ite_t c7 h
          refine lv_iconst (v := 0) hx hb dX10_stands_44 (by decide) ?_
          exact rt_i hq h I dX10_stands_45
        · have h := ite_n c7 h
          refine lv_iconst (v := 1) hx hb dX10_stands_40 (by decide) ?_
          refine lv_goto (tgt := 45) hx hb dX10_stands_41 (by decide) ?_
          exact rt_i hq h I dX10_stands_45
      · have h := ite_t c5 h
        refine lv_bipush (v := (-2)) hx hb dX10_stands_25 (by decide) ?_
        exact rt_i hq h I dX10_stands_27
theorem lk_X10_256 : Cond.methodLink RX10 256 yX4_wanted ∈ TT := tt_of 999 (by decide +kernel) rfl
theorem mv_X4_wanted : MV yX4_wanted cX4_wanted 4 (some .int) 0 := ⟨tt_of 1002 (by decide +kernel) rfl, tt_of 1000 (by decide +kernel) rfl, tt_of 1001 (by decide +kernel) rfl, tt_of 68 (by decide +kernel) rfl, ⟨by decide +kernel, by decide +kernel, by decide +kernel⟩⟩
theorem dX10_idle_0 : decode cX10_idle 0 = .ok (.sipush 255, 3) := by decide +kernel
theorem dX10_idle_3 : decode cX10_idle 3 = .ok (.aload_n 0, 1) := by decide +kernel
theorem dX10_idle_4 : decode cX10_idle 4 = .ok (.getfield 28, 3) := by decide +kernel
theorem dX10_idle_7 : decode cX10_idle 7 = .ok (.invokevirtual 256, 3) := by decide +kernel
theorem dX10_idle_10 : decode cX10_idle 10 = .ok (.iconst (-1), 1) := by decide +kernel
theorem dX10_idle_11 : decode cX10_idle 11 = .ok (.ixor, 1) := by decide +kernel
theorem dX10_idle_12 : decode cX10_idle 12 = .ok (.iand, 1) := by decide +kernel
theorem dX10_idle_13 : decode cX10_idle 13 = .ok (.ireturn, 1) := by decide +kernel
def f_X10_idle (S : St)  : Option (Int32 × St) :=
  obd2 (f_X4_wanted S ) fun r1 S1 =>
  some ((255 &&& (r1 ^^^ (-1))), S1)
set_option maxHeartbeats 4000000 in
set_option maxRecDepth 100000 in
theorem c_X10_idle {l : Launch} {D : va_G} {cI cC cS : ClassId} {ad adK adV : Nat → Nat} {S S1 : St}  {r : Int32} (h : f_X10_idle S  = some (r, S1)) : Kt l D (xw cI cC cS ad) (KX D (xtys cI cC cS) adK adV) yX10_idle cX10_idle 1 (some .int) (3) (67) [.ref (ad 0)] S (some (.int r)) S1 := by
  refine k_ent (ins := .ireturn) (st := [.int r]) (by decide +kernel) (Nat.le_of_ble_eq_true rfl) ret_i ?_
  intro p e s m args below meth c A Q C hK I hA hq ls hl
  have C : CallFix p m c cX10_idle 1 s args TT RX10 := C
  have hx := C.1
  have hb := C.2.1
  have kx := kx_ok D (xtys cI cC cS) adK adV
  have hl : lv_has ls 1 [(0, .ref (ad 0))] := hl
  unfold f_X10_idle at h
  refine lv_sipush (v := 255) hx hb dX10_idle_0 (by decide) ?_
  refine lv_aload_n hx hb dX10_idle_3 rfl (lv_at hl 0 rfl) ?_
  refine gx_0_2 C hK I fl_X10_28 dX10_idle_4 ?_
  obtain ⟨r1, S1, e1, h⟩ := obd2_ex h
  refine k_V (As := []) (rest := [.int 255]) (st1 := [.int r1, .int 255]) C kx hK I hA (c_X4_wanted e1) ⟨Nat.le_of_ble_eq_true rfl, Nat.le_of_ble_eq_true rfl⟩ mv_X4_wanted lk_X10_256 3 4 (xw_3 (cI := cI) (ad := ad) (cC := cC) (cS := cS)) rfl rfl hl.1 rfl (Nat.le_of_ble_eq_true rfl) dX10_idle_7 rfl (fun H locs I => ?_)
  refine lv_iconst (v := (-1)) hx hb dX10_idle_10 (by decide) ?_
  refine lv_ixor hx hb dX10_idle_11 ?_
  refine lv_iand hx hb dX10_idle_12 ?_
  exact rt_i hq h I dX10_idle_13
theorem fl_X10_69 : Cond.fieldLink RX10 69 RX10 "book" "LCarryUp$Book;" ∈ TT := tt_of 391 (by decide +kernel) rfl
theorem lk_X10_259 : Cond.methodLink RX10 259 yX0_add ∈ TT := tt_of 1008 (by decide +kernel) rfl
theorem mv_X0_add : MV yX0_add cX0_add 3 (some .int) 2 := ⟨tt_of 1011 (by decide +kernel) rfl, tt_of 1009 (by decide +kernel) rfl, tt_of 1010 (by decide +kernel) rfl, tt_of 75 (by decide +kernel) rfl, ⟨by decide +kernel, by decide +kernel, by decide +kernel⟩⟩
theorem dX10_visit_0 : decode cX10_visit 0 = .ok (.aload_n 0, 1) := by decide +kernel
theorem dX10_visit_1 : decode cX10_visit 1 = .ok (.getfield 28, 3) := by decide +kernel
theorem dX10_visit_4 : decode cX10_visit 4 = .ok (.iload_n 1, 1) := by decide +kernel
theorem dX10_visit_5 : decode cX10_visit 5 = .ok (.iload_n 2, 1) := by decide +kernel
theorem dX10_visit_6 : decode cX10_visit 6 = .ok (.invokevirtual 136, 3) := by decide +kernel
theorem dX10_visit_9 : decode cX10_visit 9 = .ok (.astore 4, 2) := by decide +kernel
theorem dX10_visit_11 : decode cX10_visit 11 = .ok (.aload 4, 2) := by decide +kernel
theorem dX10_visit_13 : decode cX10_visit 13 = .ok (.ifnonnull 6, 3) := by decide +kernel
theorem dX10_visit_16 : decode cX10_visit 16 = .ok (.bipush (-2), 2) := by decide +kernel
theorem dX10_visit_18 : decode cX10_visit 18 = .ok (.ireturn, 1) := by decide +kernel
theorem dX10_visit_19 : decode cX10_visit 19 = .ok (.iload_n 3, 1) := by decide +kernel
theorem dX10_visit_20 : decode cX10_visit 20 = .ok (.invokestatic 158, 3) := by decide +kernel
theorem dX10_visit_23 : decode cX10_visit 23 = .ok (.ifCond .ne 6, 3) := by decide +kernel
theorem dX10_visit_26 : decode cX10_visit 26 = .ok (.bipush (-3), 2) := by decide +kernel
theorem dX10_visit_28 : decode cX10_visit 28 = .ok (.ireturn, 1) := by decide +kernel
theorem dX10_visit_29 : decode cX10_visit 29 = .ok (.aload_n 0, 1) := by decide +kernel
theorem dX10_visit_30 : decode cX10_visit 30 = .ok (.getfield 69, 3) := by decide +kernel
theorem dX10_visit_33 : decode cX10_visit 33 = .ok (.aload 4, 2) := by decide +kernel
theorem dX10_visit_35 : decode cX10_visit 35 = .ok (.iload_n 3, 1) := by decide +kernel
theorem dX10_visit_36 : decode cX10_visit 36 = .ok (.invokevirtual 259, 3) := by decide +kernel
theorem dX10_visit_39 : decode cX10_visit 39 = .ok (.ireturn, 1) := by decide +kernel
def f_X10_visit (S : St) (x1 : Int32) (x2 : Int32) (x3 : Int32) : Option (Int32 × St) :=
  obd2 (f_X4_sortTold S x1 x2) fun r1 S1 =>
  oel r1 (
    some ((-2), S1)
  ) fun v2 =>
    obd2 (f_X10_isBag S1 x3) fun r3 S3 =>
    if r3 = 0 then (
      some ((-3), S3)
    ) else (
      obd2 (f_X0_add S3 v2 x3) fun r5 S5 =>
      some (r5, S5)
    )
set_option maxHeartbeats 4000000 in
set_option maxRecDepth 100000 in
theorem c_X10_visit {l : Launch} {D : va_G} {cI cC cS : ClassId} {ad adK adV : Nat → Nat} {S S1 : St} {x1 : Int32} {x2 : Int32} {x3 : Int32} {r : Int32} (h : f_X10_visit S x1 x2 x3 = some (r, S1)) : Kt l D (xw cI cC cS ad) (KX D (xtys cI cC cS) adK adV) yX10_visit cX10_visit 5 (some .int) (3) (66) [.ref (ad 0), .int x1, .int x2, .int x3] S (some (.int r)) S1 := by
  refine k_ent (ins := .ireturn) (st := [.int r]) (by decide +kernel) (Nat.le_of_ble_eq_true rfl) ret_i ?_
  intro p e s m args below meth c A Q C hK I hA hq ls hl
  have C : CallFix p m c cX10_visit 5 s args TT RX10 := C
  have hx := C.1
  have hb := C.2.1
  have kx := kx_ok D (xtys cI cC cS) adK adV
  have hl : lv_has ls 5 [(0, .ref (ad 0)), (1, .int x1), (2, .int x2), (3, .int x3)] := hl
  unfold f_X10_visit at h
  refine lv_aload_n hx hb dX10_visit_0 rfl (lv_at hl 0 rfl) ?_
  refine gx_0_2 C hK I fl_X10_28 dX10_visit_1 ?_
  refine lv_iload_n hx hb dX10_visit_4 rfl (lv_at hl 1 rfl) ?_
  refine lv_iload_n hx hb dX10_visit_5 rfl (lv_at hl 2 rfl) ?_
  obtain ⟨r1, S1, e1, h⟩ := obd2_ex h
  refine k_V (As := [.int x1, .int x2]) (rest := []) (st1 := [rS ad r1]) C kx hK I hA (c_X4_sortTold e1) ⟨Nat.le_of_ble_eq_true rfl, Nat.le_of_ble_eq_true rfl⟩ mv_X4_sortTold lk_X10_136 3 4 (xw_3 (cI := cI) (ad := ad) (cC := cC) (cS := cS)) rfl rfl hl.1 rfl (Nat.le_of_ble_eq_true rfl) dX10_visit_6 rfl (fun H locs I => ?_)
  refine k_astore _ (lv' := [(4, rS ad r1), (0, .ref (ad 0)), (1, .int x1), (2, .int x2), (3, .int x3)]) hx hb dX10_visit_9 rfl hl (by decide) rfl (fun ls hl => ?_)
  refine k_aload _ hx hb dX10_visit_11 rfl (lv_at hl 0 rfl) ?_
  refine k_ifnn hx hb dX10_visit_13 (tgt := 19) (by decide) (fun v2 ho => ?_) (fun ho => ?_)
  · subst ho
    have h := oel_s h
    have hl : lv_has ls 5 [(4, .ref (ad (33 + v2.val))), (0, .ref (ad 0)), (1, .int x1), (2, .int x2), (3, .int x3)] := hl
    refine lv_iload_n hx hb dX10_visit_19 rfl (lv_at hl 4 rfl) ?_
    obtain ⟨r3, S3, e3, h⟩ := obd2_ex h
    refine k_S (As := [.int x3]) (rest := []) (st1 := [.int r3]) C kx hK I hA (c_X10_isBag e3) ⟨Nat.le_of_ble_eq_true rfl, Nat.le_of_ble_eq_true rfl⟩ ms_X10_isBag lk_X10_158 rfl hl.1 rfl (Nat.le_of_ble_eq_true rfl) dX10_visit_20 rfl (fun H locs I => ?_)
    refine lv_if_ne (tgt := 29) hx hb dX10_visit_23 (by decide) (fun c4 => ?_) (fun c4 => ?_)
    · have h := ite_n c4 h
      refine lv_aload_n hx hb dX10_visit_29 rfl (lv_at hl 1 rfl) ?_
      refine gx_0_7 C hK I fl_X10_69 dX10_visit_30 ?_
      refine lv_aload hx hb dX10_visit_33 (lv_at hl 0 rfl) ?_
      refine lv_iload_n hx hb dX10_visit_35 rfl (lv_at hl 4 rfl) ?_
      obtain ⟨r5, S5, e5, h⟩ := obd2_ex h
      refine k_V (As := [.ref (ad (33 + v2.val)), .int x3]) (rest := []) (st1 := [.int r5]) C kx hK I hA (c_X0_add e5) ⟨Nat.le_of_ble_eq_true rfl, Nat.le_of_ble_eq_true rfl⟩ mv_X0_add lk_X10_259 8 0 (xw_8 (cI := cI) (ad := ad) (cC := cC) (cS := cS)) rfl rfl hl.1 rfl (Nat.le_of_ble_eq_true rfl) dX10_visit_36 rfl (fun H locs I => ?_)
      exact rt_i hq h I dX10_visit_39
    · have h := ite_t c4 h
      refine lv_bipush (v := (-3)) hx hb dX10_visit_26 (by decide) ?_
      exact rt_i hq h I dX10_visit_28
  · subst ho
    have h := oel_n h
    have hl : lv_has ls 5 [(4, .null), (0, .ref (ad 0)), (1, .int x1), (2, .int x2), (3, .int x3)] := hl
    refine lv_bipush (v := (-2)) hx hb dX10_visit_16 (by decide) ?_
    exact rt_i hq h I dX10_visit_18
theorem lk_X10_262 : Cond.methodLink RX10 262 yX0_savedBy ∈ TT := tt_of 1017 (by decide +kernel) rfl
theorem dX10_saved_0 : decode cX10_saved 0 = .ok (.iload_n 1, 1) := by decide +kernel
theorem dX10_saved_1 : decode cX10_saved 1 = .ok (.invokestatic 158, 3) := by decide +kernel
theorem dX10_saved_4 : decode cX10_saved 4 = .ok (.ifCond .eq 14, 3) := by decide +kernel
theorem dX10_saved_7 : decode cX10_saved 7 = .ok (.aload_n 0, 1) := by decide +kernel
theorem dX10_saved_8 : decode cX10_saved 8 = .ok (.getfield 69, 3) := by decide +kernel
theorem dX10_saved_11 : decode cX10_saved 11 = .ok (.iload_n 1, 1) := by decide +kernel
theorem dX10_saved_12 : decode cX10_saved 12 = .ok (.invokevirtual 262, 3) := by decide +kernel
theorem dX10_saved_15 : decode cX10_saved 15 = .ok (.goto 5, 3) := by decide +kernel
theorem dX10_saved_18 : decode cX10_saved 18 = .ok (.bipush (-3), 2) := by decide +kernel
theorem dX10_saved_20 : decode cX10_saved 20 = .ok (.ireturn, 1) := by decide +kernel
def f_X10_saved (S : St) (x1 : Int32) : Option (Int32 × St) :=
  obd2 (f_X10_isBag S x1) fun r1 S1 =>
  if r1 = 0 then (
    some ((-3), S1)
  ) else (
    obd2 (f_X0_savedBy S1 x1) fun r3 S3 =>
    some (r3, S3)
  )
set_option maxHeartbeats 4000000 in
set_option maxRecDepth 100000 in
theorem c_X10_saved {l : Launch} {D : va_G} {cI cC cS : ClassId} {ad adK adV : Nat → Nat} {S S1 : St} {x1 : Int32} {r : Int32} (h : f_X10_saved S x1 = some (r, S1)) : Kt l D (xw cI cC cS ad) (KX D (xtys cI cC cS) adK adV) yX10_saved cX10_saved 2 (some .int) (3) (68) [.ref (ad 0), .int x1] S (some (.int r)) S1 := by
  refine k_ent (ins := .ireturn) (st := [.int r]) (by decide +kernel) (Nat.le_of_ble_eq_true rfl) ret_i ?_
  intro p e s m args below meth c A Q C hK I hA hq ls hl
  have C : CallFix p m c cX10_saved 2 s args TT RX10 := C
  have hx := C.1
  have hb := C.2.1
  have kx := kx_ok D (xtys cI cC cS) adK adV
  have hl : lv_has ls 2 [(0, .ref (ad 0)), (1, .int x1)] := hl
  unfold f_X10_saved at h
  refine lv_iload_n hx hb dX10_saved_0 rfl (lv_at hl 1 rfl) ?_
  obtain ⟨r1, S1, e1, h⟩ := obd2_ex h
  refine k_S (As := [.int x1]) (rest := []) (st1 := [.int r1]) C kx hK I hA (c_X10_isBag e1) ⟨Nat.le_of_ble_eq_true rfl, Nat.le_of_ble_eq_true rfl⟩ ms_X10_isBag lk_X10_158 rfl hl.1 rfl (Nat.le_of_ble_eq_true rfl) dX10_saved_1 rfl (fun H locs I => ?_)
  refine lv_if_eq (tgt := 18) hx hb dX10_saved_4 (by decide) (fun c2 => ?_) (fun c2 => ?_)
  · have h := ite_t c2 h
    refine lv_bipush (v := (-3)) hx hb dX10_saved_18 (by decide) ?_
    exact rt_i hq h I dX10_saved_20
  · have h := ite_n c2 h
    refine lv_aload_n hx hb dX10_saved_7 rfl (lv_at hl 0 rfl) ?_
    refine gx_0_7 C hK I fl_X10_69 dX10_saved_8 ?_
    refine lv_iload_n hx hb dX10_saved_11 rfl (lv_at hl 1 rfl) ?_
    obtain ⟨r3, S3, e3, h⟩ := obd2_ex h
    refine k_V (As := [.int x1]) (rest := []) (st1 := [.int r3]) C kx hK I hA (c_X0_savedBy e3) ⟨Nat.le_of_ble_eq_true rfl, Nat.le_of_ble_eq_true rfl⟩ mv_X0_savedBy lk_X10_262 8 0 (xw_8 (cI := cI) (ad := ad) (cC := cC) (cS := cS)) rfl rfl hl.1 rfl (Nat.le_of_ble_eq_true rfl) dX10_saved_12 rfl (fun H locs I => ?_)
    refine lv_goto (tgt := 20) hx hb dX10_saved_15 (by decide) ?_
    exact rt_i hq h I dX10_saved_20
theorem lk_X10_265 : Cond.methodLink RX10 265 yX0_mostSaving ∈ TT := tt_of 1031 (by decide +kernel) rfl
theorem mv_X0_mostSaving : MV yX0_mostSaving cX0_mostSaving 6 (some .int) 1 := ⟨tt_of 1034 (by decide +kernel) rfl, tt_of 1032 (by decide +kernel) rfl, tt_of 1033 (by decide +kernel) rfl, tt_of 75 (by decide +kernel) rfl, ⟨by decide +kernel, by decide +kernel, by decide +kernel⟩⟩
theorem dX10_most_0 : decode cX10_most 0 = .ok (.iload_n 1, 1) := by decide +kernel
theorem dX10_most_1 : decode cX10_most 1 = .ok (.iconst 1, 1) := by decide +kernel
theorem dX10_most_2 : decode cX10_most 2 = .ok (.iconst 3, 1) := by decide +kernel
theorem dX10_most_3 : decode cX10_most 3 = .ok (.invokestatic 94, 3) := by decide +kernel
theorem dX10_most_6 : decode cX10_most 6 = .ok (.ifCond .eq 14, 3) := by decide +kernel
theorem dX10_most_9 : decode cX10_most 9 = .ok (.aload_n 0, 1) := by decide +kernel
theorem dX10_most_10 : decode cX10_most 10 = .ok (.getfield 69, 3) := by decide +kernel
theorem dX10_most_13 : decode cX10_most 13 = .ok (.iload_n 1, 1) := by decide +kernel
theorem dX10_most_14 : decode cX10_most 14 = .ok (.invokevirtual 265, 3) := by decide +kernel
theorem dX10_most_17 : decode cX10_most 17 = .ok (.goto 5, 3) := by decide +kernel
theorem dX10_most_20 : decode cX10_most 20 = .ok (.bipush (-3), 2) := by decide +kernel
theorem dX10_most_22 : decode cX10_most 22 = .ok (.ireturn, 1) := by decide +kernel
def f_X10_most (S : St) (x1 : Int32) : Option (Int32 × St) :=
  obd2 (f_X10_within S x1 1 3) fun r1 S1 =>
  if r1 = 0 then (
    some ((-3), S1)
  ) else (
    obd2 (f_X0_mostSaving S1 x1) fun r3 S3 =>
    some (r3, S3)
  )
set_option maxHeartbeats 4000000 in
set_option maxRecDepth 100000 in
theorem c_X10_most {l : Launch} {D : va_G} {cI cC cS : ClassId} {ad adK adV : Nat → Nat} {S S1 : St} {x1 : Int32} {r : Int32} (h : f_X10_most S x1 = some (r, S1)) : Kt l D (xw cI cC cS ad) (KX D (xtys cI cC cS) adK adV) yX10_most cX10_most 2 (some .int) (4) (93) [.ref (ad 0), .int x1] S (some (.int r)) S1 := by
  refine k_ent (ins := .ireturn) (st := [.int r]) (by decide +kernel) (Nat.le_of_ble_eq_true rfl) ret_i ?_
  intro p e s m args below meth c A Q C hK I hA hq ls hl
  have C : CallFix p m c cX10_most 2 s args TT RX10 := C
  have hx := C.1
  have hb := C.2.1
  have kx := kx_ok D (xtys cI cC cS) adK adV
  have hl : lv_has ls 2 [(0, .ref (ad 0)), (1, .int x1)] := hl
  unfold f_X10_most at h
  refine lv_iload_n hx hb dX10_most_0 rfl (lv_at hl 1 rfl) ?_
  refine lv_iconst (v := 1) hx hb dX10_most_1 (by decide) ?_
  refine lv_iconst (v := 3) hx hb dX10_most_2 (by decide) ?_
  obtain ⟨r1, S1, e1, h⟩ := obd2_ex h
  refine k_S (As := [.int x1, .int 1, .int 3]) (rest := []) (st1 := [.int r1]) C kx hK I hA (c_X10_within e1) ⟨Nat.le_of_ble_eq_true rfl, Nat.le_of_ble_eq_true rfl⟩ ms_X10_within lk_X10_94 rfl hl.1 rfl (Nat.le_of_ble_eq_true rfl) dX10_most_3 rfl (fun H locs I => ?_)
  refine lv_if_eq (tgt := 20) hx hb dX10_most_6 (by decide) (fun c2 => ?_) (fun c2 => ?_)
  · have h := ite_t c2 h
    refine lv_bipush (v := (-3)) hx hb dX10_most_20 (by decide) ?_
    exact rt_i hq h I dX10_most_22
  · have h := ite_n c2 h
    refine lv_aload_n hx hb dX10_most_9 rfl (lv_at hl 0 rfl) ?_
    refine gx_0_7 C hK I fl_X10_69 dX10_most_10 ?_
    refine lv_iload_n hx hb dX10_most_13 rfl (lv_at hl 1 rfl) ?_
    obtain ⟨r3, S3, e3, h⟩ := obd2_ex h
    refine k_V (As := [.int x1]) (rest := []) (st1 := [.int r3]) C kx hK I hA (c_X0_mostSaving e3) ⟨Nat.le_of_ble_eq_true rfl, Nat.le_of_ble_eq_true rfl⟩ mv_X0_mostSaving lk_X10_265 8 0 (xw_8 (cI := cI) (ad := ad) (cC := cC) (cS := cS)) rfl rfl hl.1 rfl (Nat.le_of_ble_eq_true rfl) dX10_most_14 rfl (fun H locs I => ?_)
    refine lv_goto (tgt := 22) hx hb dX10_most_17 (by decide) ?_
    exact rt_i hq h I dX10_most_22
theorem lk_X10_268 : Cond.methodLink RX10 268 yX0_bestBox ∈ TT := tt_of 1041 (by decide +kernel) rfl
theorem mv_X0_bestBox : MV yX0_bestBox cX0_bestBox 5 (some .int) 0 := ⟨tt_of 1044 (by decide +kernel) rfl, tt_of 1042 (by decide +kernel) rfl, tt_of 1043 (by decide +kernel) rfl, tt_of 75 (by decide +kernel) rfl, ⟨by decide +kernel, by decide +kernel, by decide +kernel⟩⟩
theorem lk_X10_271 : Cond.methodLink RX10 271 yX0_doneBy ∈ TT := tt_of 1051 (by decide +kernel) rfl
theorem dX10_box_0 : decode cX10_box 0 = .ok (.iload_n 1, 1) := by decide +kernel
theorem dX10_box_1 : decode cX10_box 1 = .ok (.iconst 0, 1) := by decide +kernel
theorem dX10_box_2 : decode cX10_box 2 = .ok (.iconst 1, 1) := by decide +kernel
theorem dX10_box_3 : decode cX10_box 3 = .ok (.invokestatic 94, 3) := by decide +kernel
theorem dX10_box_6 : decode cX10_box 6 = .ok (.ifCond .ne 6, 3) := by decide +kernel
theorem dX10_box_9 : decode cX10_box 9 = .ok (.bipush (-3), 2) := by decide +kernel
theorem dX10_box_11 : decode cX10_box 11 = .ok (.ireturn, 1) := by decide +kernel
theorem dX10_box_12 : decode cX10_box 12 = .ok (.aload_n 0, 1) := by decide +kernel
theorem dX10_box_13 : decode cX10_box 13 = .ok (.getfield 69, 3) := by decide +kernel
theorem dX10_box_16 : decode cX10_box 16 = .ok (.invokevirtual 268, 3) := by decide +kernel
theorem dX10_box_19 : decode cX10_box 19 = .ok (.istore_n 2, 1) := by decide +kernel
theorem dX10_box_20 : decode cX10_box 20 = .ok (.iload_n 1, 1) := by decide +kernel
theorem dX10_box_21 : decode cX10_box 21 = .ok (.ifCond .ne 7, 3) := by decide +kernel
theorem dX10_box_24 : decode cX10_box 24 = .ok (.iload_n 2, 1) := by decide +kernel
theorem dX10_box_25 : decode cX10_box 25 = .ok (.goto 11, 3) := by decide +kernel
theorem dX10_box_28 : decode cX10_box 28 = .ok (.aload_n 0, 1) := by decide +kernel
theorem dX10_box_29 : decode cX10_box 29 = .ok (.getfield 69, 3) := by decide +kernel
theorem dX10_box_32 : decode cX10_box 32 = .ok (.iload_n 2, 1) := by decide +kernel
theorem dX10_box_33 : decode cX10_box 33 = .ok (.invokevirtual 271, 3) := by decide +kernel
theorem dX10_box_36 : decode cX10_box 36 = .ok (.ireturn, 1) := by decide +kernel
def f_X10_box (S : St) (x1 : Int32) : Option (Int32 × St) :=
  obd2 (f_X10_within S x1 0 1) fun r1 S1 =>
  if r1 = 0 then (
    some ((-3), S1)
  ) else (
    obd2 (f_X0_bestBox S1 ) fun r3 S3 =>
    if x1 = 0 then (
      some (r3, S3)
    ) else (
      obd2 (f_X0_doneBy S3 r3) fun r5 S5 =>
      some (r5, S5)
    )
  )
set_option maxHeartbeats 4000000 in
set_option maxRecDepth 100000 in
theorem c_X10_box {l : Launch} {D : va_G} {cI cC cS : ClassId} {ad adK adV : Nat → Nat} {S S1 : St} {x1 : Int32} {r : Int32} (h : f_X10_box S x1 = some (r, S1)) : Kt l D (xw cI cC cS ad) (KX D (xtys cI cC cS) adK adV) yX10_box cX10_box 3 (some .int) (4) (91) [.ref (ad 0), .int x1] S (some (.int r)) S1 := by
  refine k_ent (ins := .ireturn) (st := [.int r]) (by decide +kernel) (Nat.le_of_ble_eq_true rfl) ret_i ?_
  intro p e s m args below meth c A Q C hK I hA hq ls hl
  have C : CallFix p m c cX10_box 3 s args TT RX10 := C
  have hx := C.1
  have hb := C.2.1
  have kx := kx_ok D (xtys cI cC cS) adK adV
  have hl : lv_has ls 3 [(0, .ref (ad 0)), (1, .int x1)] := hl
  unfold f_X10_box at h
  refine lv_iload_n hx hb dX10_box_0 rfl (lv_at hl 1 rfl) ?_
  refine lv_iconst (v := 0) hx hb dX10_box_1 (by decide) ?_
  refine lv_iconst (v := 1) hx hb dX10_box_2 (by decide) ?_
  obtain ⟨r1, S1, e1, h⟩ := obd2_ex h
  refine k_S (As := [.int x1, .int 0, .int 1]) (rest := []) (st1 := [.int r1]) C kx hK I hA (c_X10_within e1) ⟨Nat.le_of_ble_eq_true rfl, Nat.le_of_ble_eq_true rfl⟩ ms_X10_within lk_X10_94 rfl hl.1 rfl (Nat.le_of_ble_eq_true rfl) dX10_box_3 rfl (fun H locs I => ?_)
  refine lv_if_ne (tgt := 12) hx hb dX10_box_6 (by decide) (fun c2 => ?_) (fun c2 => ?_)
  · have h := ite_n c2 h
    refine lv_aload_n hx hb dX10_box_12 rfl (lv_at hl 0 rfl) ?_
    refine gx_0_7 C hK I fl_X10_69 dX10_box_13 ?_
    obtain ⟨r3, S3, e3, h⟩ := obd2_ex h
    refine k_V (As := []) (rest := []) (st1 := [.int r3]) C kx hK I hA (c_X0_bestBox e3) ⟨Nat.le_of_ble_eq_true rfl, Nat.le_of_ble_eq_true rfl⟩ mv_X0_bestBox lk_X10_268 8 0 (xw_8 (cI := cI) (ad := ad) (cC := cC) (cS := cS)) rfl rfl hl.1 rfl (Nat.le_of_ble_eq_true rfl) dX10_box_16 rfl (fun H locs I => ?_)
    refine lv_istore_n (lv' := [(2, .int r3), (0, .ref (ad 0)), (1, .int x1)]) hx hb dX10_box_19 rfl hl (by decide) rfl (fun ls hl => ?_)
    refine lv_iload_n hx hb dX10_box_20 rfl (lv_at hl 2 rfl) ?_
    refine lv_if_ne (tgt := 28) hx hb dX10_box_21 (by decide) (fun c4 => ?_) (fun c4 => ?_)
    · have h := ite_n c4 h
      refine lv_aload_n hx hb dX10_box_28 rfl (lv_at hl 1 rfl) ?_
      refine gx_0_7 C hK I fl_X10_69 dX10_box_29 ?_
      refine lv_iload_n hx hb dX10_box_32 rfl (lv_at hl 0 rfl) ?_
      obtain ⟨r5, S5, e5, h⟩ := obd2_ex h
      refine k_V (As := [.int r3]) (rest := []) (st1 := [.int r5]) C kx hK I hA (c_X0_doneBy e5) ⟨Nat.le_of_ble_eq_true rfl, Nat.le_of_ble_eq_true rfl⟩ mv_X0_doneBy lk_X10_271 8 0 (xw_8 (cI := cI) (ad := ad) (cC := cC) (cS := cS)) rfl rfl hl.1 rfl (Nat.le_of_ble_eq_true rfl) dX10_box_33 rfl (fun H locs I => ?_)
      exact rt_i hq h I dX10_box_36
    · have h := ite_t c4 h
      refine lv_iload_n hx hb dX10_box_24 rfl (lv_at hl 0 rfl) ?_
      refine lv_goto (tgt := 36) hx hb dX10_box_25 (by decide) ?_
      exact rt_i hq h I dX10_box_36
  · have h := ite_t c2 h
    refine lv_bipush (v := (-3)) hx hb dX10_box_9 (by decide) ?_
    exact rt_i hq h I dX10_box_11
theorem lk_X10_275 : Cond.methodLink RX10 275 yX9_draw ∈ TT := tt_of 1057 (by decide +kernel) rfl
theorem mv_X9_draw : MV yX9_draw cX9_draw 6 none 2 := ⟨tt_of 1060 (by decide +kernel) rfl, tt_of 1058 (by decide +kernel) rfl, tt_of 1059 (by decide +kernel) rfl, tt_of 72 (by decide +kernel) rfl, ⟨by decide +kernel, by decide +kernel, by decide +kernel⟩⟩
theorem lk_X10_279 : Cond.methodLink RX10 279 yX9_doneBits ∈ TT := tt_of 1074 (by decide +kernel) rfl
theorem mv_X9_doneBits : MV yX9_doneBits cX9_doneBits 1 (some .int) 0 := ⟨tt_of 1077 (by decide +kernel) rfl, tt_of 1075 (by decide +kernel) rfl, tt_of 1076 (by decide +kernel) rfl, tt_of 72 (by decide +kernel) rfl, ⟨by decide +kernel, by decide +kernel, by decide +kernel⟩⟩
theorem lk_X10_282 : Cond.methodLink RX10 282 yX9_bagLeft ∈ TT := tt_of 1078 (by decide +kernel) rfl
theorem mv_X9_bagLeft : MV yX9_bagLeft cX9_bagLeft 1 (some .int) 0 := ⟨tt_of 1081 (by decide +kernel) rfl, tt_of 1079 (by decide +kernel) rfl, tt_of 1080 (by decide +kernel) rfl, tt_of 72 (by decide +kernel) rfl, ⟨by decide +kernel, by decide +kernel, by decide +kernel⟩⟩
theorem cn_X10_274 : Cond.constant RX10 274 (65535) ∈ TT := tt_of 1056 (by decide +kernel) rfl
theorem dX10_run_0 : decode cX10_run 0 = .ok (.aload_n 0, 1) := by decide +kernel
theorem dX10_run_1 : decode cX10_run 1 = .ok (.iload_n 3, 1) := by decide +kernel
theorem dX10_run_2 : decode cX10_run 2 = .ok (.iload 4, 2) := by decide +kernel
theorem dX10_run_4 : decode cX10_run 4 = .ok (.iload_n 2, 1) := by decide +kernel
theorem dX10_run_5 : decode cX10_run 5 = .ok (.invokestatic 158, 3) := by decide +kernel
theorem dX10_run_8 : decode cX10_run 8 = .ok (.ifCond .eq 28, 3) := by decide +kernel
theorem dX10_run_11 : decode cX10_run 11 = .ok (.iload_n 1, 1) := by decide +kernel
theorem dX10_run_12 : decode cX10_run 12 = .ok (.iconst 0, 1) := by decide +kernel
theorem dX10_run_13 : decode cX10_run 13 = .ok (.ldc_w 274, 3) := by decide +kernel
theorem dX10_run_16 : decode cX10_run 16 = .ok (.invokestatic 94, 3) := by decide +kernel
theorem dX10_run_19 : decode cX10_run 19 = .ok (.ifCond .eq 17, 3) := by decide +kernel
theorem dX10_run_22 : decode cX10_run 22 = .ok (.iload 5, 2) := by decide +kernel
theorem dX10_run_24 : decode cX10_run 24 = .ok (.iconst 0, 1) := by decide +kernel
theorem dX10_run_25 : decode cX10_run 25 = .ok (.iconst 3, 1) := by decide +kernel
theorem dX10_run_26 : decode cX10_run 26 = .ok (.invokestatic 94, 3) := by decide +kernel
theorem dX10_run_29 : decode cX10_run 29 = .ok (.ifCond .eq 7, 3) := by decide +kernel
theorem dX10_run_32 : decode cX10_run 32 = .ok (.iconst 1, 1) := by decide +kernel
theorem dX10_run_33 : decode cX10_run 33 = .ok (.goto 4, 3) := by decide +kernel
theorem dX10_run_36 : decode cX10_run 36 = .ok (.iconst 0, 1) := by decide +kernel
theorem dX10_run_37 : decode cX10_run 37 = .ok (.invokevirtual 183, 3) := by decide +kernel
theorem dX10_run_40 : decode cX10_run 40 = .ok (.istore 6, 2) := by decide +kernel
theorem dX10_run_42 : decode cX10_run 42 = .ok (.iload 6, 2) := by decide +kernel
theorem dX10_run_44 : decode cX10_run 44 = .ok (.ifCond .eq 6, 3) := by decide +kernel
theorem dX10_run_47 : decode cX10_run 47 = .ok (.iload 6, 2) := by decide +kernel
theorem dX10_run_49 : decode cX10_run 49 = .ok (.ireturn, 1) := by decide +kernel
theorem dX10_run_50 : decode cX10_run 50 = .ok (.aload_n 0, 1) := by decide +kernel
theorem dX10_run_51 : decode cX10_run 51 = .ok (.getfield 46, 3) := by decide +kernel
theorem dX10_run_54 : decode cX10_run 54 = .ok (.iload_n 1, 1) := by decide +kernel
theorem dX10_run_55 : decode cX10_run 55 = .ok (.iload_n 2, 1) := by decide +kernel
theorem dX10_run_56 : decode cX10_run 56 = .ok (.invokevirtual 275, 3) := by decide +kernel
theorem dX10_run_59 : decode cX10_run 59 = .ok (.iload 5, 2) := by decide +kernel
theorem dX10_run_61 : decode cX10_run 61 = .ok (.tableswitch 56 0 2 #[27, 40, 48], 27) := by decide +kernel
theorem dX10_run_88 : decode cX10_run 88 = .ok (.aload_n 0, 1) := by decide +kernel
theorem dX10_run_89 : decode cX10_run 89 = .ok (.getfield 46, 3) := by decide +kernel
theorem dX10_run_92 : decode cX10_run 92 = .ok (.invokevirtual 193, 3) := by decide +kernel
theorem dX10_run_95 : decode cX10_run 95 = .ok (.l2i, 1) := by decide +kernel
theorem dX10_run_96 : decode cX10_run 96 = .ok (.sipush 1000, 3) := by decide +kernel
theorem dX10_run_99 : decode cX10_run 99 = .ok (.iadd, 1) := by decide +kernel
theorem dX10_run_100 : decode cX10_run 100 = .ok (.ireturn, 1) := by decide +kernel
theorem dX10_run_101 : decode cX10_run 101 = .ok (.aload_n 0, 1) := by decide +kernel
theorem dX10_run_102 : decode cX10_run 102 = .ok (.getfield 46, 3) := by decide +kernel
theorem dX10_run_105 : decode cX10_run 105 = .ok (.invokevirtual 203, 3) := by decide +kernel
theorem dX10_run_108 : decode cX10_run 108 = .ok (.ireturn, 1) := by decide +kernel
theorem dX10_run_109 : decode cX10_run 109 = .ok (.aload_n 0, 1) := by decide +kernel
theorem dX10_run_110 : decode cX10_run 110 = .ok (.getfield 46, 3) := by decide +kernel
theorem dX10_run_113 : decode cX10_run 113 = .ok (.invokevirtual 279, 3) := by decide +kernel
theorem dX10_run_116 : decode cX10_run 116 = .ok (.ireturn, 1) := by decide +kernel
theorem dX10_run_117 : decode cX10_run 117 = .ok (.aload_n 0, 1) := by decide +kernel
theorem dX10_run_118 : decode cX10_run 118 = .ok (.getfield 46, 3) := by decide +kernel
theorem dX10_run_121 : decode cX10_run 121 = .ok (.invokevirtual 282, 3) := by decide +kernel
theorem dX10_run_124 : decode cX10_run 124 = .ok (.ireturn, 1) := by decide +kernel
def f_X10_run_37 (S : St) (x1 : Int32) (x2 : Int32) (x5 : Int32) (t1 : Int32) (t2 : Int32) (t3 : Int32) : Option (Int32 × St) :=
  obd2 (f_X10_refusal S t1 t2 t3) fun r1 S1 =>
  if r1 = 0 then (
    obd (f_X9_draw S1 x1 x2) fun S3 =>
    if x5 = 0 then (
      obd2 (f_X9_sum S3 ) fun r5 S5 =>
      some (((r5.toInt32) + 1000), S5)
    ) else (
      if x5 = 1 then (
        obd2 (f_X9_latest S3 ) fun r7 S7 =>
        some (r7, S7)
      ) else (
        if x5 = 2 then (
          obd2 (f_X9_doneBits S3 ) fun r9 S9 =>
          some (r9, S9)
        ) else (
          obd2 (f_X9_bagLeft S3 ) fun r10 S10 =>
          some (r10, S10)
    )))
  ) else (
    some (r1, S1)
  )
def f_X10_run_36 (S : St) (x1 : Int32) (x2 : Int32) (x5 : Int32) (t1 : Int32) (t2 : Int32) : Option (Int32 × St) :=
  f_X10_run_37 S x1 x2 x5 t1 t2 0
def f_X10_run (S : St) (x1 : Int32) (x2 : Int32) (x3 : Int32) (x4 : Int32) (x5 : Int32) : Option (Int32 × St) :=
  obd2 (f_X10_isBag S x2) fun r11 S11 =>
  if r11 = 0 then (
    f_X10_run_36 S11 x1 x2 x5 x3 x4
  ) else (
    obd2 (f_X10_within S11 x1 0 65535) fun r13 S13 =>
    if r13 = 0 then (
      f_X10_run_36 S13 x1 x2 x5 x3 x4
    ) else (
      obd2 (f_X10_within S13 x5 0 3) fun r15 S15 =>
      if r15 = 0 then (
        f_X10_run_36 S15 x1 x2 x5 x3 x4
      ) else (
        f_X10_run_37 S15 x1 x2 x5 x3 x4 1
      )
    )
  )
set_option maxHeartbeats 4000000 in
set_option maxRecDepth 100000 in
theorem c_X10_run {l : Launch} {D : va_G} {cI cC cS : ClassId} {ad adK adV : Nat → Nat} {S S1 : St} {x1 : Int32} {x2 : Int32} {x3 : Int32} {x4 : Int32} {x5 : Int32} {r : Int32} (h : f_X10_run S x1 x2 x3 x4 x5 = some (r, S1)) : Kt l D (xw cI cC cS ad) (KX D (xtys cI cC cS) adK adV) yX10_run cX10_run 7 (some .int) (5) (116) [.ref (ad 0), .int x1, .int x2, .int x3, .int x4, .int x5] S (some (.int r)) S1 := by
  refine k_ent (ins := .ireturn) (st := [.int r]) (by decide +kernel) (Nat.le_of_ble_eq_true rfl) ret_i ?_
  intro p e s m args below meth c A Q C hK I hA hq ls hl
  have C : CallFix p m c cX10_run 7 s args TT RX10 := C
  have hx := C.1
  have hb := C.2.1
  have kx := kx_ok D (xtys cI cC cS) adK adV
  have hl : lv_has ls 7 [(0, .ref (ad 0)), (1, .int x1), (2, .int x2), (3, .int x3), (4, .int x4), (5, .int x5)] := hl
  have J_37 : ∀ (S : St) (x1 : Int32) (x2 : Int32) (x5 : Int32) (t1 : Int32) (t2 : Int32) (t3 : Int32), f_X10_run_37  S x1 x2 x5 t1 t2 t3 = some (r, S1) → ∀ (H : Heap) (locs : List Loc) (ls : Array Slot), Iv D (xw cI cC cS ad) S A s H locs → lv_has ls 7 [(0, .ref (ad 0)), (1, .int x1), (2, .int x2), (5, .int x5)] → W p l e ({ frames := 5, cells := 0, slots := 0, locals := 116 } : Room) s m args below meth c H locs 0 0 Q (F0 m 37 ls [.int t3, .int t2, .int t1, .ref (ad 0)]) := by
    intro  S x1 x2 x5 t1 t2 t3 h H locs ls I hl
    unfold f_X10_run_37 at h
    obtain ⟨r1, S1, e1, h⟩ := obd2_ex h
    refine k_V (As := [.int t1, .int t2, .int t3]) (rest := []) (st1 := [.int r1]) C kx hK I hA (c_X10_refusal e1) ⟨Nat.le_of_ble_eq_true rfl, Nat.le_of_ble_eq_true rfl⟩ mv_X10_refusal lk_X10_183 0 10 (xw_0 (cI := cI) (ad := ad) (cC := cC) (cS := cS)) rfl rfl hl.1 rfl (Nat.le_of_ble_eq_true rfl) dX10_run_37 rfl (fun H locs I => ?_)
    refine lv_istore (lv' := [(6, .int r1), (0, .ref (ad 0)), (1, .int x1), (2, .int x2), (5, .int x5)]) hx hb dX10_run_40 hl (by decide) rfl (fun ls hl => ?_)
    refine lv_iload hx hb dX10_run_42 (lv_at hl 0 rfl) ?_
    refine lv_if_eq (tgt := 50) hx hb dX10_run_44 (by decide) (fun c2 => ?_) (fun c2 => ?_)
    · have h := ite_t c2 h
      refine lv_aload_n hx hb dX10_run_50 rfl (lv_at hl 1 rfl) ?_
      refine gx_0_4 C hK I fl_X10_46 dX10_run_51 ?_
      refine lv_iload_n hx hb dX10_run_54 rfl (lv_at hl 2 rfl) ?_
      refine lv_iload_n hx hb dX10_run_55 rfl (lv_at hl 3 rfl) ?_
      obtain ⟨S3, e3, h⟩ := obd_ex h
      refine k_V (As := [.int x1, .int x2]) (rest := []) (st1 := []) C kx hK I hA (c_X9_draw e3) ⟨Nat.le_of_ble_eq_true rfl, Nat.le_of_ble_eq_true rfl⟩ mv_X9_draw lk_X10_275 5 9 (xw_5 (cI := cI) (ad := ad) (cC := cC) (cS := cS)) rfl rfl hl.1 rfl (Nat.le_of_ble_eq_true rfl) dX10_run_56 rfl (fun H locs I => ?_)
      refine lv_iload hx hb dX10_run_59 (lv_at hl 4 rfl) ?_
      rcases Decidable.em (x5 = 0) with c4 | c4
      · have h := ite_t c4 h
        rw [c4]
        refine lv_tableIn (x := 0) (off := 27) (tgt := 88) hx hb dX10_run_61 (by decide) (by decide) (by decide) (by decide) ?_
        refine lv_aload_n hx hb dX10_run_88 rfl (lv_at hl 1 rfl) ?_
        refine gx_0_4 C hK I fl_X10_46 dX10_run_89 ?_
        obtain ⟨r5, S5, e5, h⟩ := obd2_ex h
        refine k_V (As := []) (rest := []) (st1 := [.long r5]) C kx hK I hA (c_X9_sum e5) ⟨Nat.le_of_ble_eq_true rfl, Nat.le_of_ble_eq_true rfl⟩ mv_X9_sum lk_X10_193 5 9 (xw_5 (cI := cI) (ad := ad) (cC := cC) (cS := cS)) rfl rfl hl.1 rfl (Nat.le_of_ble_eq_true rfl) dX10_run_92 rfl (fun H locs I => ?_)
        refine lv_l2i hx hb dX10_run_95 rfl ?_
        refine lv_sipush (v := 1000) hx hb dX10_run_96 (by decide) ?_
        refine lv_iadd hx hb dX10_run_99 ?_
        exact rt_i hq h I dX10_run_100
      · have h := ite_n c4 h
        rcases Decidable.em (x5 = 1) with c6 | c6
        · have h := ite_t c6 h
          rw [c6]
          refine lv_tableIn (x := 1) (off := 40) (tgt := 101) hx hb dX10_run_61 (by decide) (by decide) (by decide) (by decide) ?_
          refine lv_aload_n hx hb dX10_run_101 rfl (lv_at hl 1 rfl) ?_
          refine gx_0_4 C hK I fl_X10_46 dX10_run_102 ?_
          obtain ⟨r7, S7, e7, h⟩ := obd2_ex h
          refine k_V (As := []) (rest := []) (st1 := [.int r7]) C kx hK I hA (c_X9_latest e7) ⟨Nat.le_of_ble_eq_true rfl, Nat.le_of_ble_eq_true rfl⟩ mv_X9_latest lk_X10_203 5 9 (xw_5 (cI := cI) (ad := ad) (cC := cC) (cS := cS)) rfl rfl hl.1 rfl (Nat.le_of_ble_eq_true rfl) dX10_run_105 rfl (fun H locs I => ?_)
          exact rt_i hq h I dX10_run_108
        · have h := ite_n c6 h
          rcases Decidable.em (x5 = 2) with c8 | c8
          · have h := ite_t c8 h
            rw [c8]
            refine lv_tableIn (x := 2) (off := 48) (tgt := 109) hx hb dX10_run_61 (by decide) (by decide) (by decide) (by decide) ?_
            refine lv_aload_n hx hb dX10_run_109 rfl (lv_at hl 1 rfl) ?_
            refine gx_0_4 C hK I fl_X10_46 dX10_run_110 ?_
            obtain ⟨r9, S9, e9, h⟩ := obd2_ex h
            refine k_V (As := []) (rest := []) (st1 := [.int r9]) C kx hK I hA (c_X9_doneBits e9) ⟨Nat.le_of_ble_eq_true rfl, Nat.le_of_ble_eq_true rfl⟩ mv_X9_doneBits lk_X10_279 5 9 (xw_5 (cI := cI) (ad := ad) (cC := cC) (cS := cS)) rfl rfl hl.1 rfl (Nat.le_of_ble_eq_true rfl) dX10_run_113 rfl (fun H locs I => ?_)
            exact rt_i hq h I dX10_run_116
          · have h := ite_n c8 h
            refine lv_tableOut (tgt := 117) hx hb dX10_run_61 (by have := lv_neT (k := 0) (a := 0) c4 (by decide); have := lv_neT (k := 1) (a := 1) c6 (by decide); have := lv_neT (k := 2) (a := 2) c8 (by decide); omega) (by decide) ?_
            refine lv_aload_n hx hb dX10_run_117 rfl (lv_at hl 1 rfl) ?_
            refine gx_0_4 C hK I fl_X10_46 dX10_run_118 ?_
            obtain ⟨r10, S10, e10, h⟩ := obd2_ex h
            refine k_V (As := []) (rest := []) (st1 := [.int r10]) C kx hK I hA (c_X9_bagLeft e10) ⟨Nat.le_of_ble_eq_true rfl, Nat.le_of_ble_eq_true rfl⟩ mv_X9_bagLeft lk_X10_282 5 9 (xw_5 (cI := cI) (ad := ad) (cC := cC) (cS := cS)) rfl rfl hl.1 rfl (Nat.le_of_ble_eq_true rfl) dX10_run_121 rfl (fun H locs I => ?_)
            exact rt_i hq h I dX10_run_124
    · have h := ite_n c2 h
      refine lv_iload hx hb dX10_run_47 (lv_at hl 0 rfl) ?_
      exact rt_i hq h I dX10_run_49
  have J_36 : ∀ (S : St) (x1 : Int32) (x2 : Int32) (x5 : Int32) (t1 : Int32) (t2 : Int32), f_X10_run_36  S x1 x2 x5 t1 t2 = some (r, S1) → ∀ (H : Heap) (locs : List Loc) (ls : Array Slot), Iv D (xw cI cC cS ad) S A s H locs → lv_has ls 7 [(0, .ref (ad 0)), (1, .int x1), (2, .int x2), (5, .int x5)] → W p l e ({ frames := 5, cells := 0, slots := 0, locals := 116 } : Room) s m args below meth c H locs 0 0 Q (F0 m 36 ls [.int t2, .int t1, .ref (ad 0)]) := by
    intro  S x1 x2 x5 t1 t2 h H locs ls I hl
    unfold f_X10_run_36 at h
    refine lv_iconst (v := 0) hx hb dX10_run_36 (by decide) ?_
    exact J_37 _ _ _ _ _ _ _ h _ _ _ I (lv_sub hl [0, 1, 2, 3] rfl)
  unfold f_X10_run at h
  refine lv_aload_n hx hb dX10_run_0 rfl (lv_at hl 0 rfl) ?_
  refine lv_iload_n hx hb dX10_run_1 rfl (lv_at hl 3 rfl) ?_
  refine lv_iload hx hb dX10_run_2 (lv_at hl 4 rfl) ?_
  refine lv_iload_n hx hb dX10_run_4 rfl (lv_at hl 2 rfl) ?_
  obtain ⟨r11, S11, e11, h⟩ := obd2_ex h
  refine k_S (As := [.int x2]) (rest := [.int x4, .int x3, .ref (ad 0)]) (st1 := [.int r11, .int x4, .int x3, .ref (ad 0)]) C kx hK I hA (c_X10_isBag e11) ⟨Nat.le_of_ble_eq_true rfl, Nat.le_of_ble_eq_true rfl⟩ ms_X10_isBag lk_X10_158 rfl hl.1 rfl (Nat.le_of_ble_eq_true rfl) dX10_run_5 rfl (fun H locs I => ?_)
  refine lv_if_eq (tgt := 36) hx hb dX10_run_8 (by decide) (fun c12 => ?_) (fun c12 => ?_)
  · have h := ite_t c12 h
    exact J_36 _ _ _ _ _ _ h _ _ _ I (lv_sub hl [0, 1, 2, 5] rfl)
  · have h := ite_n c12 h
    refine lv_iload_n hx hb dX10_run_11 rfl (lv_at hl 1 rfl) ?_
    refine lv_iconst (v := 0) hx hb dX10_run_12 (by decide) ?_
    refine lv_ldcw (v := 65535) hx hb C.2.2.2.1 (C.2.2.2.2 _ cn_X10_274) dX10_run_13 ?_
    obtain ⟨r13, S13, e13, h⟩ := obd2_ex h
    refine k_S (As := [.int x1, .int 0, .int 65535]) (rest := [.int x4, .int x3, .ref (ad 0)]) (st1 := [.int r13, .int x4, .int x3, .ref (ad 0)]) C kx hK I hA (c_X10_within e13) ⟨Nat.le_of_ble_eq_true rfl, Nat.le_of_ble_eq_true rfl⟩ ms_X10_within lk_X10_94 rfl hl.1 rfl (Nat.le_of_ble_eq_true rfl) dX10_run_16 rfl (fun H locs I => ?_)
    refine lv_if_eq (tgt := 36) hx hb dX10_run_19 (by decide) (fun c14 => ?_) (fun c14 => ?_)
    · have h := ite_t c14 h
      exact J_36 _ _ _ _ _ _ h _ _ _ I (lv_sub hl [0, 1, 2, 5] rfl)
    · have h := ite_n c14 h
      refine lv_iload hx hb dX10_run_22 (lv_at hl 5 rfl) ?_
      refine lv_iconst (v := 0) hx hb dX10_run_24 (by decide) ?_
      refine lv_iconst (v := 3) hx hb dX10_run_25 (by decide) ?_
      obtain ⟨r15, S15, e15, h⟩ := obd2_ex h
      refine k_S (As := [.int x5, .int 0, .int 3]) (rest := [.int x4, .int x3, .ref (ad 0)]) (st1 := [.int r15, .int x4, .int x3, .ref (ad 0)]) C kx hK I hA (c_X10_within e15) ⟨Nat.le_of_ble_eq_true rfl, Nat.le_of_ble_eq_true rfl⟩ ms_X10_within lk_X10_94 rfl hl.1 rfl (Nat.le_of_ble_eq_true rfl) dX10_run_26 rfl (fun H locs I => ?_)
      refine lv_if_eq (tgt := 36) hx hb dX10_run_29 (by decide) (fun c16 => ?_) (fun c16 => ?_)
      · have h := ite_t c16 h
        exact J_36 _ _ _ _ _ _ h _ _ _ I (lv_sub hl [0, 1, 2, 5] rfl)
      · have h := ite_n c16 h
        refine lv_iconst (v := 1) hx hb dX10_run_32 (by decide) ?_
        refine lv_goto (tgt := 37) hx hb dX10_run_33 (by decide) ?_
        exact J_37 _ _ _ _ _ _ _ h _ _ _ I (lv_sub hl [0, 1, 2, 5] rfl)
theorem lk_X10_285 : Cond.methodLink RX10 285 yX4_callsTold ∈ TT := tt_of 1086 (by decide +kernel) rfl
theorem mv_X4_callsTold : MV yX4_callsTold cX4_callsTold 3 (some .int) 0 := ⟨tt_of 1089 (by decide +kernel) rfl, tt_of 1087 (by decide +kernel) rfl, tt_of 1088 (by decide +kernel) rfl, tt_of 68 (by decide +kernel) rfl, ⟨by decide +kernel, by decide +kernel, by decide +kernel⟩⟩
theorem lk_X10_288 : Cond.methodLink RX10 288 yX0_visits ∈ TT := tt_of 1090 (by decide +kernel) rfl
theorem mv_X0_visits : MV yX0_visits cX0_visits 1 (some .int) 0 := ⟨tt_of 1093 (by decide +kernel) rfl, tt_of 1091 (by decide +kernel) rfl, tt_of 1092 (by decide +kernel) rfl, tt_of 75 (by decide +kernel) rfl, ⟨by decide +kernel, by decide +kernel, by decide +kernel⟩⟩
theorem lk_X10_291 : Cond.methodLink RX10 291 yX4_load ∈ TT := tt_of 1094 (by decide +kernel) rfl
theorem mv_X4_load : MV yX4_load cX4_load 1 (some .int) 0 := ⟨tt_of 1097 (by decide +kernel) rfl, tt_of 1095 (by decide +kernel) rfl, tt_of 1096 (by decide +kernel) rfl, tt_of 68 (by decide +kernel) rfl, ⟨by decide +kernel, by decide +kernel, by decide +kernel⟩⟩
theorem lk_X10_294 : Cond.methodLink RX10 294 yX4_purse ∈ TT := tt_of 1098 (by decide +kernel) rfl
theorem mv_X4_purse : MV yX4_purse cX4_purse 1 (some .int) 0 := ⟨tt_of 1101 (by decide +kernel) rfl, tt_of 1099 (by decide +kernel) rfl, tt_of 1100 (by decide +kernel) rfl, tt_of 68 (by decide +kernel) rfl, ⟨by decide +kernel, by decide +kernel, by decide +kernel⟩⟩
theorem lk_X10_297 : Cond.methodLink RX10 297 yX4_begin ∈ TT := tt_of 1102 (by decide +kernel) rfl
theorem dX10_count_0 : decode cX10_count 0 = .ok (.iload_n 1, 1) := by decide +kernel
theorem dX10_count_1 : decode cX10_count 1 = .ok (.tableswitch 87 0 5 #[39, 47, 55, 63, 71, 79], 39) := by decide +kernel
theorem dX10_count_40 : decode cX10_count 40 = .ok (.aload_n 0, 1) := by decide +kernel
theorem dX10_count_41 : decode cX10_count 41 = .ok (.getfield 28, 3) := by decide +kernel
theorem dX10_count_44 : decode cX10_count 44 = .ok (.invokevirtual 285, 3) := by decide +kernel
theorem dX10_count_47 : decode cX10_count 47 = .ok (.ireturn, 1) := by decide +kernel
theorem dX10_count_48 : decode cX10_count 48 = .ok (.aload_n 0, 1) := by decide +kernel
theorem dX10_count_49 : decode cX10_count 49 = .ok (.getfield 10, 3) := by decide +kernel
theorem dX10_count_52 : decode cX10_count 52 = .ok (.invokevirtual 77, 3) := by decide +kernel
theorem dX10_count_55 : decode cX10_count 55 = .ok (.ireturn, 1) := by decide +kernel
theorem dX10_count_56 : decode cX10_count 56 = .ok (.aload_n 0, 1) := by decide +kernel
theorem dX10_count_57 : decode cX10_count 57 = .ok (.getfield 69, 3) := by decide +kernel
theorem dX10_count_60 : decode cX10_count 60 = .ok (.invokevirtual 288, 3) := by decide +kernel
theorem dX10_count_63 : decode cX10_count 63 = .ok (.ireturn, 1) := by decide +kernel
theorem dX10_count_64 : decode cX10_count 64 = .ok (.aload_n 0, 1) := by decide +kernel
theorem dX10_count_65 : decode cX10_count 65 = .ok (.getfield 28, 3) := by decide +kernel
theorem dX10_count_68 : decode cX10_count 68 = .ok (.invokevirtual 291, 3) := by decide +kernel
theorem dX10_count_71 : decode cX10_count 71 = .ok (.ireturn, 1) := by decide +kernel
theorem dX10_count_72 : decode cX10_count 72 = .ok (.aload_n 0, 1) := by decide +kernel
theorem dX10_count_73 : decode cX10_count 73 = .ok (.getfield 28, 3) := by decide +kernel
theorem dX10_count_76 : decode cX10_count 76 = .ok (.invokevirtual 294, 3) := by decide +kernel
theorem dX10_count_79 : decode cX10_count 79 = .ok (.ireturn, 1) := by decide +kernel
theorem dX10_count_80 : decode cX10_count 80 = .ok (.aload_n 0, 1) := by decide +kernel
theorem dX10_count_81 : decode cX10_count 81 = .ok (.getfield 28, 3) := by decide +kernel
theorem dX10_count_84 : decode cX10_count 84 = .ok (.invokevirtual 297, 3) := by decide +kernel
theorem dX10_count_87 : decode cX10_count 87 = .ok (.ireturn, 1) := by decide +kernel
theorem dX10_count_88 : decode cX10_count 88 = .ok (.bipush (-3), 2) := by decide +kernel
theorem dX10_count_90 : decode cX10_count 90 = .ok (.ireturn, 1) := by decide +kernel
def f_X10_count (S : St) (x1 : Int32) : Option (Int32 × St) :=
  if x1 = 0 then (
    obd2 (f_X4_callsTold S ) fun r2 S2 =>
    some (r2, S2)
  ) else (
    if x1 = 1 then (
      obd2 (f_X8_length S ) fun r4 S4 =>
      some (r4, S4)
    ) else (
      if x1 = 2 then (
        obd2 (f_X0_visits S ) fun r6 S6 =>
        some (r6, S6)
      ) else (
        if x1 = 3 then (
          obd2 (f_X4_load S ) fun r8 S8 =>
          some (r8, S8)
        ) else (
          if x1 = 4 then (
            obd2 (f_X4_purse S ) fun r10 S10 =>
            some (r10, S10)
          ) else (
            if x1 = 5 then (
              obd2 (f_X4_begin S ) fun r12 S12 =>
              some (r12, S12)
            ) else (
              some ((-3), S)
  ))))))
set_option maxHeartbeats 4000000 in
set_option maxRecDepth 100000 in
theorem c_X10_count {l : Launch} {D : va_G} {cI cC cS : ClassId} {ad adK adV : Nat → Nat} {S S1 : St} {x1 : Int32} {r : Int32} (h : f_X10_count S x1 = some (r, S1)) : Kt l D (xw cI cC cS ad) (KX D (xtys cI cC cS) adK adV) yX10_count cX10_count 2 (some .int) (3) (65) [.ref (ad 0), .int x1] S (some (.int r)) S1 := by
  refine k_ent (ins := .ireturn) (st := [.int r]) (by decide +kernel) (Nat.le_of_ble_eq_true rfl) ret_i ?_
  intro p e s m args below meth c A Q C hK I hA hq ls hl
  have C : CallFix p m c cX10_count 2 s args TT RX10 := C
  have hx := C.1
  have hb := C.2.1
  have kx := kx_ok D (xtys cI cC cS) adK adV
  have hl : lv_has ls 2 [(0, .ref (ad 0)), (1, .int x1)] := hl
  unfold f_X10_count at h
  refine lv_iload_n hx hb dX10_count_0 rfl (lv_at hl 1 rfl) ?_
  rcases Decidable.em (x1 = 0) with c1 | c1
  · have h := ite_t c1 h
    rw [c1]
    refine lv_tableIn (x := 0) (off := 39) (tgt := 40) hx hb dX10_count_1 (by decide) (by decide) (by decide) (by decide) ?_
    refine lv_aload_n hx hb dX10_count_40 rfl (lv_at hl 0 rfl) ?_
    refine gx_0_2 C hK I fl_X10_28 dX10_count_41 ?_
    obtain ⟨r2, S2, e2, h⟩ := obd2_ex h
    refine k_V (As := []) (rest := []) (st1 := [.int r2]) C kx hK I hA (c_X4_callsTold e2) ⟨Nat.le_of_ble_eq_true rfl, Nat.le_of_ble_eq_true rfl⟩ mv_X4_callsTold lk_X10_285 3 4 (xw_3 (cI := cI) (ad := ad) (cC := cC) (cS := cS)) rfl rfl hl.1 rfl (Nat.le_of_ble_eq_true rfl) dX10_count_44 rfl (fun H locs I => ?_)
    exact rt_i hq h I dX10_count_47
  · have h := ite_n c1 h
    rcases Decidable.em (x1 = 1) with c3 | c3
    · have h := ite_t c3 h
      rw [c3]
      refine lv_tableIn (x := 1) (off := 47) (tgt := 48) hx hb dX10_count_1 (by decide) (by decide) (by decide) (by decide) ?_
      refine lv_aload_n hx hb dX10_count_48 rfl (lv_at hl 0 rfl) ?_
      refine gx_0_0 C hK I fl_X10_10 dX10_count_49 ?_
      obtain ⟨r4, S4, e4, h⟩ := obd2_ex h
      refine k_V (As := []) (rest := []) (st1 := [.int r4]) C kx hK I hA (c_X8_length e4) ⟨Nat.le_of_ble_eq_true rfl, Nat.le_of_ble_eq_true rfl⟩ mv_X8_length lk_X10_77 1 8 (xw_1 (cI := cI) (ad := ad) (cC := cC) (cS := cS)) rfl rfl hl.1 rfl (Nat.le_of_ble_eq_true rfl) dX10_count_52 rfl (fun H locs I => ?_)
      exact rt_i hq h I dX10_count_55
    · have h := ite_n c3 h
      rcases Decidable.em (x1 = 2) with c5 | c5
      · have h := ite_t c5 h
        rw [c5]
        refine lv_tableIn (x := 2) (off := 55) (tgt := 56) hx hb dX10_count_1 (by decide) (by decide) (by decide) (by decide) ?_
        refine lv_aload_n hx hb dX10_count_56 rfl (lv_at hl 0 rfl) ?_
        refine gx_0_7 C hK I fl_X10_69 dX10_count_57 ?_
        obtain ⟨r6, S6, e6, h⟩ := obd2_ex h
        refine k_V (As := []) (rest := []) (st1 := [.int r6]) C kx hK I hA (c_X0_visits e6) ⟨Nat.le_of_ble_eq_true rfl, Nat.le_of_ble_eq_true rfl⟩ mv_X0_visits lk_X10_288 8 0 (xw_8 (cI := cI) (ad := ad) (cC := cC) (cS := cS)) rfl rfl hl.1 rfl (Nat.le_of_ble_eq_true rfl) dX10_count_60 rfl (fun H locs I => ?_)
        exact rt_i hq h I dX10_count_63
      · have h := ite_n c5 h
        rcases Decidable.em (x1 = 3) with c7 | c7
        · have h := ite_t c7 h
          rw [c7]
          refine lv_tableIn (x := 3) (off := 63) (tgt := 64) hx hb dX10_count_1 (by decide) (by decide) (by decide) (by decide) ?_
          refine lv_aload_n hx hb dX10_count_64 rfl (lv_at hl 0 rfl) ?_
          refine gx_0_2 C hK I fl_X10_28 dX10_count_65 ?_
          obtain ⟨r8, S8, e8, h⟩ := obd2_ex h
          refine k_V (As := []) (rest := []) (st1 := [.int r8]) C kx hK I hA (c_X4_load e8) ⟨Nat.le_of_ble_eq_true rfl, Nat.le_of_ble_eq_true rfl⟩ mv_X4_load lk_X10_291 3 4 (xw_3 (cI := cI) (ad := ad) (cC := cC) (cS := cS)) rfl rfl hl.1 rfl (Nat.le_of_ble_eq_true rfl) dX10_count_68 rfl (fun H locs I => ?_)
          exact rt_i hq h I dX10_count_71
        · have h := ite_n c7 h
          rcases Decidable.em (x1 = 4) with c9 | c9
          · have h := ite_t c9 h
            rw [c9]
            refine lv_tableIn (x := 4) (off := 71) (tgt := 72) hx hb dX10_count_1 (by decide) (by decide) (by decide) (by decide) ?_
            refine lv_aload_n hx hb dX10_count_72 rfl (lv_at hl 0 rfl) ?_
            refine gx_0_2 C hK I fl_X10_28 dX10_count_73 ?_
            obtain ⟨r10, S10, e10, h⟩ := obd2_ex h
            refine k_V (As := []) (rest := []) (st1 := [.int r10]) C kx hK I hA (c_X4_purse e10) ⟨Nat.le_of_ble_eq_true rfl, Nat.le_of_ble_eq_true rfl⟩ mv_X4_purse lk_X10_294 3 4 (xw_3 (cI := cI) (ad := ad) (cC := cC) (cS := cS)) rfl rfl hl.1 rfl (Nat.le_of_ble_eq_true rfl) dX10_count_76 rfl (fun H locs I => ?_)
            exact rt_i hq h I dX10_count_79
          · have h := ite_n c9 h
            rcases Decidable.em (x1 = 5) with c11 | c11
            · have h := ite_t c11 h
              rw [c11]
              refine lv_tableIn (x := 5) (off := 79) (tgt := 80) hx hb dX10_count_1 (by decide) (by decide) (by decide) (by decide) ?_
              refine lv_aload_n hx hb dX10_count_80 rfl (lv_at hl 0 rfl) ?_
              refine gx_0_2 C hK I fl_X10_28 dX10_count_81 ?_
              obtain ⟨r12, S12, e12, h⟩ := obd2_ex h
              refine k_V (As := []) (rest := []) (st1 := [.int r12]) C kx hK I hA (c_X4_begin e12) ⟨Nat.le_of_ble_eq_true rfl, Nat.le_of_ble_eq_true rfl⟩ mv_X4_begin lk_X10_297 3 4 (xw_3 (cI := cI) (ad := ad) (cC := cC) (cS := cS)) rfl rfl hl.1 rfl (Nat.le_of_ble_eq_true rfl) dX10_count_84 rfl (fun H locs I => ?_)
              exact rt_i hq h I dX10_count_87
            · have h := ite_n c11 h
              refine lv_tableOut (tgt := 88) hx hb dX10_count_1 (by have := lv_neT (k := 0) (a := 0) c1 (by decide); have := lv_neT (k := 1) (a := 1) c3 (by decide); have := lv_neT (k := 2) (a := 2) c5 (by decide); have := lv_neT (k := 3) (a := 3) c7 (by decide); have := lv_neT (k := 4) (a := 4) c9 (by decide); have := lv_neT (k := 5) (a := 5) c11 (by decide); omega) (by decide) ?_
              refine lv_bipush (v := (-3)) hx hb dX10_count_88 (by decide) ?_
              exact rt_i hq h I dX10_count_90
