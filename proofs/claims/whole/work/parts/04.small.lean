theorem dX10_put_0 : decode cX10_put 0 = .ok (.aload_n 0, 1) := by decide +kernel
theorem dX10_put_1 : decode cX10_put 1 = .ok (.ifnull 17, 3) := by decide +kernel
theorem dX10_put_4 : decode cX10_put 4 = .ok (.iload_n 1, 1) := by decide +kernel
theorem dX10_put_5 : decode cX10_put 5 = .ok (.ifCond .lt 13, 3) := by decide +kernel
theorem dX10_put_8 : decode cX10_put 8 = .ok (.iload_n 1, 1) := by decide +kernel
theorem dX10_put_9 : decode cX10_put 9 = .ok (.aload_n 0, 1) := by decide +kernel
theorem dX10_put_10 : decode cX10_put 10 = .ok (.arraylength, 1) := by decide +kernel
theorem dX10_put_11 : decode cX10_put 11 = .ok (.if_icmp .ge 7, 3) := by decide +kernel
theorem dX10_put_14 : decode cX10_put 14 = .ok (.aload_n 0, 1) := by decide +kernel
theorem dX10_put_15 : decode cX10_put 15 = .ok (.iload_n 1, 1) := by decide +kernel
theorem dX10_put_16 : decode cX10_put 16 = .ok (.iload_n 2, 1) := by decide +kernel
theorem dX10_put_17 : decode cX10_put 17 = .ok (.iastore, 1) := by decide +kernel
theorem dX10_put_18 : decode cX10_put 18 = .ok (.return_, 1) := by decide +kernel
def f_X10_put (S : St) (x0 : Fin 10) (x1 : Int32) (x2 : Int32) : Option St :=
  if x1 < 0 then (
    some S
  ) else (
    if (nI (alen x0.val)) ≤ x1 then (
      some S
    ) else (
      chk (ixo x1 (alen x0.val)) <|
      bnd (setI S (11 + x0.val) (x1).toNatClampNeg x2) fun S4 =>
      some S4
    )
  )
set_option maxHeartbeats 4000000 in
set_option maxRecDepth 100000 in
theorem c_X10_put {l : Launch} {D : va_G} {cI cC cS : ClassId} {ad adK adV : Nat → Nat} {S S1 : St} {x0 : Fin 10} {x1 : Int32} {x2 : Int32} (h : f_X10_put S x0 x1 x2 = some S1) : Kt l D (xw cI cC cS ad) (KX D (xtys cI cC cS) adK adV) yX10_put cX10_put 3 none (0) (0) [.ref (ad (11 + x0.val)), .int x1, .int x2] S (none) S1 := by
  refine k_ent (ins := .return_) (st := []) (by decide +kernel) (Nat.le_of_ble_eq_true rfl) ret_v ?_
  intro p e s m args below meth c A Q C hK I hA hq ls hl
  have C : CallFix p m c cX10_put 3 s args TT RX10 := C
  have hx := C.1
  have hb := C.2.1
  have kx := kx_ok D (xtys cI cC cS) adK adV
  have hl : lv_has ls 3 [(0, .ref (ad (11 + x0.val))), (1, .int x1), (2, .int x2)] := hl
  unfold f_X10_put at h
  refine lv_aload_n hx hb dX10_put_0 rfl (lv_at hl 0 rfl) ?_
  refine lv_ifnull hx hb dX10_put_1 ?_
  refine lv_iload_n hx hb dX10_put_4 rfl (lv_at hl 1 rfl) ?_
  refine lv_if_lt (tgt := 18) hx hb dX10_put_5 (by decide) (fun c1 => ?_) (fun c1 => ?_)
  · have h := ite_t c1 h
    exact rt_v hq h I dX10_put_18
  · have h := ite_n c1 h
    refine lv_iload_n hx hb dX10_put_8 rfl (lv_at hl 1 rfl) ?_
    refine lv_aload_n hx hb dX10_put_9 rfl (lv_at hl 0 rfl) ?_
    refine lx_A C hK I dX10_put_10 ?_
    refine lv_icmp_ge (tgt := 18) hx hb dX10_put_11 (by decide) (fun c2 => ?_) (fun c2 => ?_)
    · have h := ite_t c2 h
      exact rt_v hq h I dX10_put_18
    · have h := ite_n c2 h
      refine lv_aload_n hx hb dX10_put_14 rfl (lv_at hl 0 rfl) ?_
      refine lv_iload_n hx hb dX10_put_15 rfl (lv_at hl 1 rfl) ?_
      refine lv_iload_n hx hb dX10_put_16 rfl (lv_at hl 2 rfl) ?_
      obtain ⟨hv3, h⟩ := chk_ex h
      refine bx_A (q := x0) C hK I hv3 dX10_put_17 (fun S4 eS4 H locs I => ?_)
      have h := bnd_at eS4 h
      clear eS4
      exact rt_v hq h I dX10_put_18
theorem dX10_at_0 : decode cX10_at 0 = .ok (.aload_n 0, 1) := by decide +kernel
theorem dX10_at_1 : decode cX10_at 1 = .ok (.ifnull 19, 3) := by decide +kernel
theorem dX10_at_4 : decode cX10_at 4 = .ok (.iload_n 1, 1) := by decide +kernel
theorem dX10_at_5 : decode cX10_at 5 = .ok (.ifCond .lt 15, 3) := by decide +kernel
theorem dX10_at_8 : decode cX10_at 8 = .ok (.iload_n 1, 1) := by decide +kernel
theorem dX10_at_9 : decode cX10_at 9 = .ok (.aload_n 0, 1) := by decide +kernel
theorem dX10_at_10 : decode cX10_at 10 = .ok (.arraylength, 1) := by decide +kernel
theorem dX10_at_11 : decode cX10_at 11 = .ok (.if_icmp .ge 9, 3) := by decide +kernel
theorem dX10_at_14 : decode cX10_at 14 = .ok (.aload_n 0, 1) := by decide +kernel
theorem dX10_at_15 : decode cX10_at 15 = .ok (.iload_n 1, 1) := by decide +kernel
theorem dX10_at_16 : decode cX10_at 16 = .ok (.iaload, 1) := by decide +kernel
theorem dX10_at_17 : decode cX10_at 17 = .ok (.goto 4, 3) := by decide +kernel
theorem dX10_at_20 : decode cX10_at 20 = .ok (.iconst 0, 1) := by decide +kernel
theorem dX10_at_21 : decode cX10_at 21 = .ok (.ireturn, 1) := by decide +kernel
def f_X10_at (S : St) (x0 : Fin 10) (x1 : Int32) : Option (Int32 × St) :=
  if x1 < 0 then (
    some (0, S)
  ) else (
    if (nI (alen x0.val)) ≤ x1 then (
      some (0, S)
    ) else (
      chk (ixo x1 (alen x0.val)) <|
      some ((S.1 (11 + x0.val) (x1).toNatClampNeg), S)
    )
  )
set_option maxHeartbeats 4000000 in
set_option maxRecDepth 100000 in
theorem c_X10_at {l : Launch} {D : va_G} {cI cC cS : ClassId} {ad adK adV : Nat → Nat} {S S1 : St} {x0 : Fin 10} {x1 : Int32} {r : Int32} (h : f_X10_at S x0 x1 = some (r, S1)) : Kt l D (xw cI cC cS ad) (KX D (xtys cI cC cS) adK adV) yX10_at cX10_at 2 (some .int) (0) (0) [.ref (ad (11 + x0.val)), .int x1] S (some (.int r)) S1 := by
  refine k_ent (ins := .ireturn) (st := [.int r]) (by decide +kernel) (Nat.le_of_ble_eq_true rfl) ret_i ?_
  intro p e s m args below meth c A Q C hK I hA hq ls hl
  have C : CallFix p m c cX10_at 2 s args TT RX10 := C
  have hx := C.1
  have hb := C.2.1
  have kx := kx_ok D (xtys cI cC cS) adK adV
  have hl : lv_has ls 2 [(0, .ref (ad (11 + x0.val))), (1, .int x1)] := hl
  unfold f_X10_at at h
  refine lv_aload_n hx hb dX10_at_0 rfl (lv_at hl 0 rfl) ?_
  refine lv_ifnull hx hb dX10_at_1 ?_
  refine lv_iload_n hx hb dX10_at_4 rfl (lv_at hl 1 rfl) ?_
  refine lv_if_lt (tgt := 20) hx hb dX10_at_5 (by decide) (fun c1 => ?_) (fun c1 => ?_)
  · have h := ite_t c1 h
    refine lv_iconst (v := 0) hx hb dX10_at_20 (by decide) ?_
    exact rt_i hq h I dX10_at_21
  · have h := ite_n c1 h
    refine lv_iload_n hx hb dX10_at_8 rfl (lv_at hl 1 rfl) ?_
    refine lv_aload_n hx hb dX10_at_9 rfl (lv_at hl 0 rfl) ?_
    refine lx_A C hK I dX10_at_10 ?_
    refine lv_icmp_ge (tgt := 20) hx hb dX10_at_11 (by decide) (fun c2 => ?_) (fun c2 => ?_)
    · have h := ite_t c2 h
      refine lv_iconst (v := 0) hx hb dX10_at_20 (by decide) ?_
      exact rt_i hq h I dX10_at_21
    · have h := ite_n c2 h
      refine lv_aload_n hx hb dX10_at_14 rfl (lv_at hl 0 rfl) ?_
      refine lv_iload_n hx hb dX10_at_15 rfl (lv_at hl 1 rfl) ?_
      obtain ⟨hv3, h⟩ := chk_ex h
      refine ax_A (q := x0) C hK I hv3 dX10_at_16 ?_
      refine lv_goto (tgt := 21) hx hb dX10_at_17 (by decide) ?_
      exact rt_i hq h I dX10_at_21
theorem dX7_isDone_0 : decode cX7_isDone 0 = .ok (.iload_n 1, 1) := by decide +kernel
theorem dX7_isDone_1 : decode cX7_isDone 1 = .ok (.iload_n 0, 1) := by decide +kernel
theorem dX7_isDone_2 : decode cX7_isDone 2 = .ok (.iconst (-1), 1) := by decide +kernel
theorem dX7_isDone_3 : decode cX7_isDone 3 = .ok (.ixor, 1) := by decide +kernel
theorem dX7_isDone_4 : decode cX7_isDone 4 = .ok (.iand, 1) := by decide +kernel
theorem dX7_isDone_5 : decode cX7_isDone 5 = .ok (.ifCond .ne 17, 3) := by decide +kernel
theorem dX7_isDone_8 : decode cX7_isDone 8 = .ok (.iload_n 2, 1) := by decide +kernel
theorem dX7_isDone_9 : decode cX7_isDone 9 = .ok (.ifCond .eq 9, 3) := by decide +kernel
theorem dX7_isDone_12 : decode cX7_isDone 12 = .ok (.iload_n 2, 1) := by decide +kernel
theorem dX7_isDone_13 : decode cX7_isDone 13 = .ok (.iload_n 0, 1) := by decide +kernel
theorem dX7_isDone_14 : decode cX7_isDone 14 = .ok (.iand, 1) := by decide +kernel
theorem dX7_isDone_15 : decode cX7_isDone 15 = .ok (.ifCond .eq 7, 3) := by decide +kernel
theorem dX7_isDone_18 : decode cX7_isDone 18 = .ok (.iconst 1, 1) := by decide +kernel
theorem dX7_isDone_19 : decode cX7_isDone 19 = .ok (.goto 4, 3) := by decide +kernel
theorem dX7_isDone_22 : decode cX7_isDone 22 = .ok (.iconst 0, 1) := by decide +kernel
theorem dX7_isDone_23 : decode cX7_isDone 23 = .ok (.ireturn, 1) := by decide +kernel
def f_X7_isDone_18 (S : St)  : Option (Int32 × St) :=
  some (1, S)
def f_X7_isDone (S : St) (x0 : Int32) (x1 : Int32) (x2 : Int32) : Option (Int32 × St) :=
  if (x1 &&& (x0 ^^^ (-1))) = 0 then (
    if x2 = 0 then (
      f_X7_isDone_18 S 
    ) else (
      if (x2 &&& x0) = 0 then (
        some (0, S)
      ) else (
        f_X7_isDone_18 S 
      )
    )
  ) else (
    some (0, S)
  )
set_option maxHeartbeats 4000000 in
set_option maxRecDepth 100000 in
theorem c_X7_isDone {l : Launch} {D : va_G} {cI cC cS : ClassId} {ad adK adV : Nat → Nat} {S S1 : St} {x0 : Int32} {x1 : Int32} {x2 : Int32} {r : Int32} (h : f_X7_isDone S x0 x1 x2 = some (r, S1)) : Kt l D (xw cI cC cS ad) (KX D (xtys cI cC cS) adK adV) yX7_isDone cX7_isDone 3 (some .boolean) (0) (0) [.int x0, .int x1, .int x2] S (some (.int r)) S1 := by
  refine k_entz (by decide +kernel) (Nat.le_of_ble_eq_true rfl) ?_
  intro p e s m args below meth c A Q C hK I hA hq ls hl
  have C : CallFix p m c cX7_isDone 3 s args TT RX7 := C
  have hx := C.1
  have hb := C.2.1
  have kx := kx_ok D (xtys cI cC cS) adK adV
  have hl : lv_has ls 3 [(0, .int x0), (1, .int x1), (2, .int x2)] := hl
  have J_18 : ∀ (S : St) , f_X7_isDone_18  S  = some (r, S1) → ∀ (H : Heap) (locs : List Loc) (ls : Array Slot), Iv D (xw cI cC cS ad) S A s H locs → lv_has ls 3 [] → W p l e ({ frames := 0, cells := 0, slots := 0, locals := 0 } : Room) s m args below meth c H locs 0 0 Q (F0 m 18 ls []) := by
    intro  S  h H locs ls I hl
    unfold f_X7_isDone_18 at h
    refine lv_iconst (v := 1) hx hb dX7_isDone_18 (by decide) ?_
    refine lv_goto (tgt := 23) hx hb dX7_isDone_19 (by decide) ?_
    exact rt_z (Or.inr rfl) hq h I dX7_isDone_23
  unfold f_X7_isDone at h
  refine lv_iload_n hx hb dX7_isDone_0 rfl (lv_at hl 1 rfl) ?_
  refine lv_iload_n hx hb dX7_isDone_1 rfl (lv_at hl 0 rfl) ?_
  refine lv_iconst (v := (-1)) hx hb dX7_isDone_2 (by decide) ?_
  refine lv_ixor hx hb dX7_isDone_3 ?_
  refine lv_iand hx hb dX7_isDone_4 ?_
  refine lv_if_ne (tgt := 22) hx hb dX7_isDone_5 (by decide) (fun c1 => ?_) (fun c1 => ?_)
  · have h := ite_n c1 h
    refine lv_iconst (v := 0) hx hb dX7_isDone_22 (by decide) ?_
    exact rt_z (Or.inl rfl) hq h I dX7_isDone_23
  · have h := ite_t c1 h
    refine lv_iload_n hx hb dX7_isDone_8 rfl (lv_at hl 2 rfl) ?_
    refine lv_if_eq (tgt := 18) hx hb dX7_isDone_9 (by decide) (fun c2 => ?_) (fun c2 => ?_)
    · have h := ite_t c2 h
      exact J_18 _  h _ _ _ I (lv_sub hl [] rfl)
    · have h := ite_n c2 h
      refine lv_iload_n hx hb dX7_isDone_12 rfl (lv_at hl 2 rfl) ?_
      refine lv_iload_n hx hb dX7_isDone_13 rfl (lv_at hl 0 rfl) ?_
      refine lv_iand hx hb dX7_isDone_14 ?_
      refine lv_if_eq (tgt := 22) hx hb dX7_isDone_15 (by decide) (fun c3 => ?_) (fun c3 => ?_)
      · have h := ite_t c3 h
        refine lv_iconst (v := 0) hx hb dX7_isDone_22 (by decide) ?_
        exact rt_z (Or.inl rfl) hq h I dX7_isDone_23
      · have h := ite_n c3 h
        exact J_18 _  h _ _ _ I (lv_sub hl [] rfl)
theorem cn_J6_265 : Cond.constant RJ6 265 (1431655765) ∈ TT := tt_of 941 (by decide +kernel) rfl
theorem cn_J6_266 : Cond.constant RJ6 266 (858993459) ∈ TT := tt_of 942 (by decide +kernel) rfl
theorem cn_J6_267 : Cond.constant RJ6 267 (252645135) ∈ TT := tt_of 943 (by decide +kernel) rfl
theorem dJ6_bitCount_0f7a4_0 : decode cJ6_bitCount_0f7a4 0 = .ok (.iload_n 0, 1) := by decide +kernel
theorem dJ6_bitCount_0f7a4_1 : decode cJ6_bitCount_0f7a4 1 = .ok (.iload_n 0, 1) := by decide +kernel
theorem dJ6_bitCount_0f7a4_2 : decode cJ6_bitCount_0f7a4 2 = .ok (.iconst 1, 1) := by decide +kernel
theorem dJ6_bitCount_0f7a4_3 : decode cJ6_bitCount_0f7a4 3 = .ok (.iushr, 1) := by decide +kernel
theorem dJ6_bitCount_0f7a4_4 : decode cJ6_bitCount_0f7a4 4 = .ok (.ldc_w 265, 3) := by decide +kernel
theorem dJ6_bitCount_0f7a4_7 : decode cJ6_bitCount_0f7a4 7 = .ok (.iand, 1) := by decide +kernel
theorem dJ6_bitCount_0f7a4_8 : decode cJ6_bitCount_0f7a4 8 = .ok (.isub, 1) := by decide +kernel
theorem dJ6_bitCount_0f7a4_9 : decode cJ6_bitCount_0f7a4 9 = .ok (.istore_n 0, 1) := by decide +kernel
theorem dJ6_bitCount_0f7a4_10 : decode cJ6_bitCount_0f7a4 10 = .ok (.iload_n 0, 1) := by decide +kernel
theorem dJ6_bitCount_0f7a4_11 : decode cJ6_bitCount_0f7a4 11 = .ok (.ldc_w 266, 3) := by decide +kernel
theorem dJ6_bitCount_0f7a4_14 : decode cJ6_bitCount_0f7a4 14 = .ok (.iand, 1) := by decide +kernel
theorem dJ6_bitCount_0f7a4_15 : decode cJ6_bitCount_0f7a4 15 = .ok (.iload_n 0, 1) := by decide +kernel
theorem dJ6_bitCount_0f7a4_16 : decode cJ6_bitCount_0f7a4 16 = .ok (.iconst 2, 1) := by decide +kernel
theorem dJ6_bitCount_0f7a4_17 : decode cJ6_bitCount_0f7a4 17 = .ok (.iushr, 1) := by decide +kernel
theorem dJ6_bitCount_0f7a4_18 : decode cJ6_bitCount_0f7a4 18 = .ok (.ldc_w 266, 3) := by decide +kernel
theorem dJ6_bitCount_0f7a4_21 : decode cJ6_bitCount_0f7a4 21 = .ok (.iand, 1) := by decide +kernel
theorem dJ6_bitCount_0f7a4_22 : decode cJ6_bitCount_0f7a4 22 = .ok (.iadd, 1) := by decide +kernel
theorem dJ6_bitCount_0f7a4_23 : decode cJ6_bitCount_0f7a4 23 = .ok (.istore_n 0, 1) := by decide +kernel
theorem dJ6_bitCount_0f7a4_24 : decode cJ6_bitCount_0f7a4 24 = .ok (.iload_n 0, 1) := by decide +kernel
theorem dJ6_bitCount_0f7a4_25 : decode cJ6_bitCount_0f7a4 25 = .ok (.iload_n 0, 1) := by decide +kernel
theorem dJ6_bitCount_0f7a4_26 : decode cJ6_bitCount_0f7a4 26 = .ok (.iconst 4, 1) := by decide +kernel
theorem dJ6_bitCount_0f7a4_27 : decode cJ6_bitCount_0f7a4 27 = .ok (.iushr, 1) := by decide +kernel
theorem dJ6_bitCount_0f7a4_28 : decode cJ6_bitCount_0f7a4 28 = .ok (.iadd, 1) := by decide +kernel
theorem dJ6_bitCount_0f7a4_29 : decode cJ6_bitCount_0f7a4 29 = .ok (.ldc_w 267, 3) := by decide +kernel
theorem dJ6_bitCount_0f7a4_32 : decode cJ6_bitCount_0f7a4 32 = .ok (.iand, 1) := by decide +kernel
theorem dJ6_bitCount_0f7a4_33 : decode cJ6_bitCount_0f7a4 33 = .ok (.istore_n 0, 1) := by decide +kernel
theorem dJ6_bitCount_0f7a4_34 : decode cJ6_bitCount_0f7a4 34 = .ok (.iload_n 0, 1) := by decide +kernel
theorem dJ6_bitCount_0f7a4_35 : decode cJ6_bitCount_0f7a4 35 = .ok (.iload_n 0, 1) := by decide +kernel
theorem dJ6_bitCount_0f7a4_36 : decode cJ6_bitCount_0f7a4 36 = .ok (.bipush 8, 2) := by decide +kernel
theorem dJ6_bitCount_0f7a4_38 : decode cJ6_bitCount_0f7a4 38 = .ok (.iushr, 1) := by decide +kernel
theorem dJ6_bitCount_0f7a4_39 : decode cJ6_bitCount_0f7a4 39 = .ok (.iadd, 1) := by decide +kernel
theorem dJ6_bitCount_0f7a4_40 : decode cJ6_bitCount_0f7a4 40 = .ok (.istore_n 0, 1) := by decide +kernel
theorem dJ6_bitCount_0f7a4_41 : decode cJ6_bitCount_0f7a4 41 = .ok (.iload_n 0, 1) := by decide +kernel
theorem dJ6_bitCount_0f7a4_42 : decode cJ6_bitCount_0f7a4 42 = .ok (.iload_n 0, 1) := by decide +kernel
theorem dJ6_bitCount_0f7a4_43 : decode cJ6_bitCount_0f7a4 43 = .ok (.bipush 16, 2) := by decide +kernel
theorem dJ6_bitCount_0f7a4_45 : decode cJ6_bitCount_0f7a4 45 = .ok (.iushr, 1) := by decide +kernel
theorem dJ6_bitCount_0f7a4_46 : decode cJ6_bitCount_0f7a4 46 = .ok (.iadd, 1) := by decide +kernel
theorem dJ6_bitCount_0f7a4_47 : decode cJ6_bitCount_0f7a4 47 = .ok (.istore_n 0, 1) := by decide +kernel
theorem dJ6_bitCount_0f7a4_48 : decode cJ6_bitCount_0f7a4 48 = .ok (.iload_n 0, 1) := by decide +kernel
theorem dJ6_bitCount_0f7a4_49 : decode cJ6_bitCount_0f7a4 49 = .ok (.bipush 63, 2) := by decide +kernel
theorem dJ6_bitCount_0f7a4_51 : decode cJ6_bitCount_0f7a4 51 = .ok (.iand, 1) := by decide +kernel
theorem dJ6_bitCount_0f7a4_52 : decode cJ6_bitCount_0f7a4 52 = .ok (.ireturn, 1) := by decide +kernel
def f_J6_bitCount_0f7a4 (S : St) (x0 : Int32) : Option (Int32 × St) :=
  bnd ((x0 - ((((x0).toUInt32 >>> ((1 : Int32).toUInt32 &&& Int32.toUInt32 31)).toInt32) &&& 1431655765)) : Int32) fun v1 =>
  bnd (((v1 &&& 858993459) + ((((v1).toUInt32 >>> ((2 : Int32).toUInt32 &&& Int32.toUInt32 31)).toInt32) &&& 858993459)) : Int32) fun v2 =>
  bnd (((v2 + (((v2).toUInt32 >>> ((4 : Int32).toUInt32 &&& Int32.toUInt32 31)).toInt32)) &&& 252645135) : Int32) fun v3 =>
  bnd ((v3 + (((v3).toUInt32 >>> ((8 : Int32).toUInt32 &&& Int32.toUInt32 31)).toInt32)) : Int32) fun v4 =>
  bnd ((v4 + (((v4).toUInt32 >>> ((16 : Int32).toUInt32 &&& Int32.toUInt32 31)).toInt32)) : Int32) fun v5 =>
  some ((v5 &&& 63), S)
set_option maxHeartbeats 4000000 in
set_option maxRecDepth 100000 in
theorem c_J6_bitCount_0f7a4 {l : Launch} {D : va_G} {cI cC cS : ClassId} {ad adK adV : Nat → Nat} {S S1 : St} {x0 : Int32} {r : Int32} (h : f_J6_bitCount_0f7a4 S x0 = some (r, S1)) : Kt l D (xw cI cC cS ad) (KX D (xtys cI cC cS) adK adV) yJ6_bitCount_0f7a4 cJ6_bitCount_0f7a4 1 (some .int) (0) (0) [.int x0] S (some (.int r)) S1 := by
  refine k_ent (ins := .ireturn) (st := [.int r]) (by decide +kernel) (Nat.le_of_ble_eq_true rfl) ret_i ?_
  intro p e s m args below meth c A Q C hK I hA hq ls hl
  have C : CallFix p m c cJ6_bitCount_0f7a4 1 s args TT RJ6 := C
  have hx := C.1
  have hb := C.2.1
  have kx := kx_ok D (xtys cI cC cS) adK adV
  have hl : lv_has ls 1 [(0, .int x0)] := hl
  unfold f_J6_bitCount_0f7a4 at h
  refine lv_iload_n hx hb dJ6_bitCount_0f7a4_0 rfl (lv_at hl 0 rfl) ?_
  refine lv_iload_n hx hb dJ6_bitCount_0f7a4_1 rfl (lv_at hl 0 rfl) ?_
  refine lv_iconst (v := 1) hx hb dJ6_bitCount_0f7a4_2 (by decide) ?_
  refine lv_iushr hx hb dJ6_bitCount_0f7a4_3 rfl ?_
  refine lv_ldcw (v := 1431655765) hx hb C.2.2.2.1 (C.2.2.2.2 _ cn_J6_265) dJ6_bitCount_0f7a4_4 ?_
  refine lv_iand hx hb dJ6_bitCount_0f7a4_7 ?_
  refine lv_isub hx hb dJ6_bitCount_0f7a4_8 ?_
  refine lv_topi (fun v1 ev1 => ?_)
  have h := bnd_at ev1 h
  clear ev1
  refine lv_istore_n (lv' := [(0, .int v1)]) hx hb dJ6_bitCount_0f7a4_9 rfl hl (by decide) rfl (fun ls hl => ?_)
  refine lv_iload_n hx hb dJ6_bitCount_0f7a4_10 rfl (lv_at hl 0 rfl) ?_
  refine lv_ldcw (v := 858993459) hx hb C.2.2.2.1 (C.2.2.2.2 _ cn_J6_266) dJ6_bitCount_0f7a4_11 ?_
  refine lv_iand hx hb dJ6_bitCount_0f7a4_14 ?_
  refine lv_iload_n hx hb dJ6_bitCount_0f7a4_15 rfl (lv_at hl 0 rfl) ?_
  refine lv_iconst (v := 2) hx hb dJ6_bitCount_0f7a4_16 (by decide) ?_
  refine lv_iushr hx hb dJ6_bitCount_0f7a4_17 rfl ?_
  refine lv_ldcw (v := 858993459) hx hb C.2.2.2.1 (C.2.2.2.2 _ cn_J6_266) dJ6_bitCount_0f7a4_18 ?_
  refine lv_iand hx hb dJ6_bitCount_0f7a4_21 ?_
  refine lv_iadd hx hb dJ6_bitCount_0f7a4_22 ?_
  refine lv_topi (fun v2 ev2 => ?_)
  have h := bnd_at ev2 h
  clear ev2
  refine lv_istore_n (lv' := [(0, .int v2)]) hx hb dJ6_bitCount_0f7a4_23 rfl hl (by decide) rfl (fun ls hl => ?_)
  refine lv_iload_n hx hb dJ6_bitCount_0f7a4_24 rfl (lv_at hl 0 rfl) ?_
  refine lv_iload_n hx hb dJ6_bitCount_0f7a4_25 rfl (lv_at hl 0 rfl) ?_
  refine lv_iconst (v := 4) hx hb dJ6_bitCount_0f7a4_26 (by decide) ?_
  refine lv_iushr hx hb dJ6_bitCount_0f7a4_27 rfl ?_
  refine lv_iadd hx hb dJ6_bitCount_0f7a4_28 ?_
  refine lv_ldcw (v := 252645135) hx hb C.2.2.2.1 (C.2.2.2.2 _ cn_J6_267) dJ6_bitCount_0f7a4_29 ?_
  refine lv_iand hx hb dJ6_bitCount_0f7a4_32 ?_
  refine lv_topi (fun v3 ev3 => ?_)
  have h := bnd_at ev3 h
  clear ev3
  refine lv_istore_n (lv' := [(0, .int v3)]) hx hb dJ6_bitCount_0f7a4_33 rfl hl (by decide) rfl (fun ls hl => ?_)
  refine lv_iload_n hx hb dJ6_bitCount_0f7a4_34 rfl (lv_at hl 0 rfl) ?_
  refine lv_iload_n hx hb dJ6_bitCount_0f7a4_35 rfl (lv_at hl 0 rfl) ?_
  refine lv_bipush (v := 8) hx hb dJ6_bitCount_0f7a4_36 (by decide) ?_
  refine lv_iushr hx hb dJ6_bitCount_0f7a4_38 rfl ?_
  refine lv_iadd hx hb dJ6_bitCount_0f7a4_39 ?_
  refine lv_topi (fun v4 ev4 => ?_)
  have h := bnd_at ev4 h
  clear ev4
  refine lv_istore_n (lv' := [(0, .int v4)]) hx hb dJ6_bitCount_0f7a4_40 rfl hl (by decide) rfl (fun ls hl => ?_)
  refine lv_iload_n hx hb dJ6_bitCount_0f7a4_41 rfl (lv_at hl 0 rfl) ?_
  refine lv_iload_n hx hb dJ6_bitCount_0f7a4_42 rfl (lv_at hl 0 rfl) ?_
  refine lv_bipush (v := 16) hx hb dJ6_bitCount_0f7a4_43 (by decide) ?_
  refine lv_iushr hx hb dJ6_bitCount_0f7a4_45 rfl ?_
  refine lv_iadd hx hb dJ6_bitCount_0f7a4_46 ?_
  refine lv_topi (fun v5 ev5 => ?_)
  have h := bnd_at ev5 h
  clear ev5
  refine lv_istore_n (lv' := [(0, .int v5)]) hx hb dJ6_bitCount_0f7a4_47 rfl hl (by decide) rfl (fun ls hl => ?_)
  refine lv_iload_n hx hb dJ6_bitCount_0f7a4_48 rfl (lv_at hl 0 rfl) ?_
  refine lv_bipush (v := 63) hx hb dJ6_bitCount_0f7a4_49 (by decide) ?_
  refine lv_iand hx hb dJ6_bitCount_0f7a4_51 ?_
  exact rt_i hq h I dJ6_bitCount_0f7a4_52
theorem dX10_within_0 : decode cX10_within 0 = .ok (.iload_n 0, 1) := by decide +kernel
theorem dX10_within_1 : decode cX10_within 1 = .ok (.iload_n 1, 1) := by decide +kernel
theorem dX10_within_2 : decode cX10_within 2 = .ok (.if_icmp .lt 12, 3) := by decide +kernel
theorem dX10_within_5 : decode cX10_within 5 = .ok (.iload_n 0, 1) := by decide +kernel
theorem dX10_within_6 : decode cX10_within 6 = .ok (.iload_n 2, 1) := by decide +kernel
theorem dX10_within_7 : decode cX10_within 7 = .ok (.if_icmp .gt 7, 3) := by decide +kernel
theorem dX10_within_10 : decode cX10_within 10 = .ok (.iconst 1, 1) := by decide +kernel
theorem dX10_within_11 : decode cX10_within 11 = .ok (.goto 4, 3) := by decide +kernel
theorem dX10_within_14 : decode cX10_within 14 = .ok (.iconst 0, 1) := by decide +kernel
theorem dX10_within_15 : decode cX10_within 15 = .ok (.ireturn, 1) := by decide +kernel
def f_X10_within (S : St) (x0 : Int32) (x1 : Int32) (x2 : Int32) : Option (Int32 × St) :=
  if x0 < x1 then (
    some (0, S)
  ) else (
    if x2 < x0 then (
      some (0, S)
    ) else (
      some (1, S)
    )
  )
set_option maxHeartbeats 4000000 in
set_option maxRecDepth 100000 in
theorem c_X10_within {l : Launch} {D : va_G} {cI cC cS : ClassId} {ad adK adV : Nat → Nat} {S S1 : St} {x0 : Int32} {x1 : Int32} {x2 : Int32} {r : Int32} (h : f_X10_within S x0 x1 x2 = some (r, S1)) : Kt l D (xw cI cC cS ad) (KX D (xtys cI cC cS) adK adV) yX10_within cX10_within 3 (some .boolean) (0) (0) [.int x0, .int x1, .int x2] S (some (.int r)) S1 := by
  refine k_entz (by decide +kernel) (Nat.le_of_ble_eq_true rfl) ?_
  intro p e s m args below meth c A Q C hK I hA hq ls hl
  have C : CallFix p m c cX10_within 3 s args TT RX10 := C
  have hx := C.1
  have hb := C.2.1
  have kx := kx_ok D (xtys cI cC cS) adK adV
  have hl : lv_has ls 3 [(0, .int x0), (1, .int x1), (2, .int x2)] := hl
  unfold f_X10_within at h
  refine lv_iload_n hx hb dX10_within_0 rfl (lv_at hl 0 rfl) ?_
  refine lv_iload_n hx hb dX10_within_1 rfl (lv_at hl 1 rfl) ?_
  refine lv_icmp_lt (tgt := 14) hx hb dX10_within_2 (by decide) (fun c1 => ?_) (fun c1 => ?_)
  · have h := ite_t c1 h
    refine lv_iconst (v := 0) hx hb dX10_within_14 (by decide) ?_
    exact rt_z (Or.inl rfl) hq h I dX10_within_15
  · have h := ite_n c1 h
    refine lv_iload_n hx hb dX10_within_5 rfl (lv_at hl 0 rfl) ?_
    refine lv_iload_n hx hb dX10_within_6 rfl (lv_at hl 2 rfl) ?_
    refine lv_icmp_gt (tgt := 14) hx hb dX10_within_7 (by decide) (fun c2 => ?_) (fun c2 => ?_)
    · have h := ite_t c2 h
      refine lv_iconst (v := 0) hx hb dX10_within_14 (by decide) ?_
      exact rt_z (Or.inl rfl) hq h I dX10_within_15
    · have h := ite_n c2 h
      refine lv_iconst (v := 1) hx hb dX10_within_10 (by decide) ?_
      refine lv_goto (tgt := 15) hx hb dX10_within_11 (by decide) ?_
      exact rt_z (Or.inr rfl) hq h I dX10_within_15
theorem fl_X7_9 : Cond.fieldLink RX7 9 RX7 "likely" "I" ∈ TT := tt_of 153 (by decide +kernel) rfl
theorem fl_X7_15 : Cond.fieldLink RX7 15 RX7 "minutes" "I" ∈ TT := tt_of 159 (by decide +kernel) rfl
theorem fl_X7_18 : Cond.fieldLink RX7 18 RX7 "all" "I" ∈ TT := tt_of 163 (by decide +kernel) rfl
theorem fl_X7_21 : Cond.fieldLink RX7 21 RX7 "one" "I" ∈ TT := tt_of 168 (by decide +kernel) rfl
theorem dX7_tell_0 : decode cX7_tell 0 = .ok (.aload_n 0, 1) := by decide +kernel
theorem dX7_tell_1 : decode cX7_tell 1 = .ok (.iload_n 1, 1) := by decide +kernel
theorem dX7_tell_2 : decode cX7_tell 2 = .ok (.putfield 9, 3) := by decide +kernel
theorem dX7_tell_5 : decode cX7_tell 5 = .ok (.aload_n 0, 1) := by decide +kernel
theorem dX7_tell_6 : decode cX7_tell 6 = .ok (.iload_n 2, 1) := by decide +kernel
theorem dX7_tell_7 : decode cX7_tell 7 = .ok (.putfield 15, 3) := by decide +kernel
theorem dX7_tell_10 : decode cX7_tell 10 = .ok (.aload_n 0, 1) := by decide +kernel
theorem dX7_tell_11 : decode cX7_tell 11 = .ok (.iload_n 3, 1) := by decide +kernel
theorem dX7_tell_12 : decode cX7_tell 12 = .ok (.putfield 18, 3) := by decide +kernel
theorem dX7_tell_15 : decode cX7_tell 15 = .ok (.aload_n 0, 1) := by decide +kernel
theorem dX7_tell_16 : decode cX7_tell 16 = .ok (.iload 4, 2) := by decide +kernel
theorem dX7_tell_18 : decode cX7_tell 18 = .ok (.putfield 21, 3) := by decide +kernel
theorem dX7_tell_21 : decode cX7_tell 21 = .ok (.return_, 1) := by decide +kernel
def f_X7_tell (S : St) (x0 : Fin 24) (x1 : Int32) (x2 : Int32) (x3 : Int32) (x4 : Int32) : Option St :=
  bnd (setI S (33 + x0.val) 0 x1) fun S1 =>
  bnd (setI S1 (33 + x0.val) 1 x2) fun S2 =>
  bnd (setI S2 (33 + x0.val) 2 x3) fun S3 =>
  bnd (setI S3 (33 + x0.val) 3 x4) fun S4 =>
  some S4
set_option maxHeartbeats 4000000 in
set_option maxRecDepth 100000 in
theorem c_X7_tell {l : Launch} {D : va_G} {cI cC cS : ClassId} {ad adK adV : Nat → Nat} {S S1 : St} {x0 : Fin 24} {x1 : Int32} {x2 : Int32} {x3 : Int32} {x4 : Int32} (h : f_X7_tell S x0 x1 x2 x3 x4 = some S1) : Kt l D (xw cI cC cS ad) (KX D (xtys cI cC cS) adK adV) yX7_tell cX7_tell 5 none (0) (0) [.ref (ad (33 + x0.val)), .int x1, .int x2, .int x3, .int x4] S (none) S1 := by
  refine k_ent (ins := .return_) (st := []) (by decide +kernel) (Nat.le_of_ble_eq_true rfl) ret_v ?_
  intro p e s m args below meth c A Q C hK I hA hq ls hl
  have C : CallFix p m c cX7_tell 5 s args TT RX7 := C
  have hx := C.1
  have hb := C.2.1
  have kx := kx_ok D (xtys cI cC cS) adK adV
  have hl : lv_has ls 5 [(0, .ref (ad (33 + x0.val))), (1, .int x1), (2, .int x2), (3, .int x3), (4, .int x4)] := hl
  unfold f_X7_tell at h
  refine lv_aload_n hx hb dX7_tell_0 rfl (lv_at hl 0 rfl) ?_
  refine lv_iload_n hx hb dX7_tell_1 rfl (lv_at hl 1 rfl) ?_
  refine px_S_0 C hK I fl_X7_9 dX7_tell_2 (fun S1 eS1 H locs I => ?_)
  have h := bnd_at eS1 h
  clear eS1
  refine lv_aload_n hx hb dX7_tell_5 rfl (lv_at hl 0 rfl) ?_
  refine lv_iload_n hx hb dX7_tell_6 rfl (lv_at hl 2 rfl) ?_
  refine px_S_1 C hK I fl_X7_15 dX7_tell_7 (fun S2 eS2 H locs I => ?_)
  have h := bnd_at eS2 h
  clear eS2
  refine lv_aload_n hx hb dX7_tell_10 rfl (lv_at hl 0 rfl) ?_
  refine lv_iload_n hx hb dX7_tell_11 rfl (lv_at hl 3 rfl) ?_
  refine px_S_2 C hK I fl_X7_18 dX7_tell_12 (fun S3 eS3 H locs I => ?_)
  have h := bnd_at eS3 h
  clear eS3
  refine lv_aload_n hx hb dX7_tell_15 rfl (lv_at hl 0 rfl) ?_
  refine lv_iload hx hb dX7_tell_16 (lv_at hl 4 rfl) ?_
  refine px_S_3 C hK I fl_X7_21 dX7_tell_18 (fun S4 eS4 H locs I => ?_)
  have h := bnd_at eS4 h
  clear eS4
  exact rt_v hq h I dX7_tell_21
theorem dX7_wanted_0 : decode cX7_wanted 0 = .ok (.aload_n 0, 1) := by decide +kernel
theorem dX7_wanted_1 : decode cX7_wanted 1 = .ok (.getfield 18, 3) := by decide +kernel
theorem dX7_wanted_4 : decode cX7_wanted 4 = .ok (.aload_n 0, 1) := by decide +kernel
theorem dX7_wanted_5 : decode cX7_wanted 5 = .ok (.getfield 21, 3) := by decide +kernel
theorem dX7_wanted_8 : decode cX7_wanted 8 = .ok (.ior, 1) := by decide +kernel
theorem dX7_wanted_9 : decode cX7_wanted 9 = .ok (.ireturn, 1) := by decide +kernel
def f_X7_wanted (S : St) (x0 : Fin 24) : Option (Int32 × St) :=
  some (((S.1 (33 + x0.val) 2) ||| (S.1 (33 + x0.val) 3)), S)
set_option maxHeartbeats 4000000 in
set_option maxRecDepth 100000 in
theorem c_X7_wanted {l : Launch} {D : va_G} {cI cC cS : ClassId} {ad adK adV : Nat → Nat} {S S1 : St} {x0 : Fin 24} {r : Int32} (h : f_X7_wanted S x0 = some (r, S1)) : Kt l D (xw cI cC cS ad) (KX D (xtys cI cC cS) adK adV) yX7_wanted cX7_wanted 1 (some .int) (0) (0) [.ref (ad (33 + x0.val))] S (some (.int r)) S1 := by
  refine k_ent (ins := .ireturn) (st := [.int r]) (by decide +kernel) (Nat.le_of_ble_eq_true rfl) ret_i ?_
  intro p e s m args below meth c A Q C hK I hA hq ls hl
  have C : CallFix p m c cX7_wanted 1 s args TT RX7 := C
  have hx := C.1
  have hb := C.2.1
  have kx := kx_ok D (xtys cI cC cS) adK adV
  have hl : lv_has ls 1 [(0, .ref (ad (33 + x0.val)))] := hl
  unfold f_X7_wanted at h
  refine lv_aload_n hx hb dX7_wanted_0 rfl (lv_at hl 0 rfl) ?_
  refine gx_S_2 C hK I fl_X7_18 dX7_wanted_1 ?_
  refine lv_aload_n hx hb dX7_wanted_4 rfl (lv_at hl 0 rfl) ?_
  refine gx_S_3 C hK I fl_X7_21 dX7_wanted_5 ?_
  refine lv_ior hx hb dX7_wanted_8 ?_
  exact rt_i hq h I dX7_wanted_9
theorem lk_X7_24 : Cond.methodLink RX7 24 yX7_isDone ∈ TT := tt_of 709 (by decide +kernel) rfl
theorem ms_X7_isDone : MS yX7_isDone cX7_isDone 3 (some .boolean) 3 := ⟨tt_of 711 (by decide +kernel) rfl, tt_of 710 (by decide +kernel) rfl, tt_of 70 (by decide +kernel) rfl, ⟨by decide +kernel, by decide +kernel, by decide +kernel⟩⟩
theorem dX7_left_0 : decode cX7_left 0 = .ok (.iload_n 1, 1) := by decide +kernel
theorem dX7_left_1 : decode cX7_left 1 = .ok (.aload_n 0, 1) := by decide +kernel
theorem dX7_left_2 : decode cX7_left 2 = .ok (.getfield 18, 3) := by decide +kernel
theorem dX7_left_5 : decode cX7_left 5 = .ok (.aload_n 0, 1) := by decide +kernel
theorem dX7_left_6 : decode cX7_left 6 = .ok (.getfield 21, 3) := by decide +kernel
theorem dX7_left_9 : decode cX7_left 9 = .ok (.invokestatic 24, 3) := by decide +kernel
theorem dX7_left_12 : decode cX7_left 12 = .ok (.ifCond .ne 5, 3) := by decide +kernel
theorem dX7_left_15 : decode cX7_left 15 = .ok (.iconst (-1), 1) := by decide +kernel
theorem dX7_left_16 : decode cX7_left 16 = .ok (.ireturn, 1) := by decide +kernel
theorem dX7_left_17 : decode cX7_left 17 = .ok (.aload_n 0, 1) := by decide +kernel
theorem dX7_left_18 : decode cX7_left 18 = .ok (.getfield 21, 3) := by decide +kernel
theorem dX7_left_21 : decode cX7_left 21 = .ok (.iload_n 1, 1) := by decide +kernel
theorem dX7_left_22 : decode cX7_left 22 = .ok (.iand, 1) := by decide +kernel
theorem dX7_left_23 : decode cX7_left 23 = .ok (.aload_n 0, 1) := by decide +kernel
theorem dX7_left_24 : decode cX7_left 24 = .ok (.getfield 21, 3) := by decide +kernel
theorem dX7_left_27 : decode cX7_left 27 = .ok (.iload_n 1, 1) := by decide +kernel
theorem dX7_left_28 : decode cX7_left 28 = .ok (.iand, 1) := by decide +kernel
theorem dX7_left_29 : decode cX7_left 29 = .ok (.ineg, 1) := by decide +kernel
theorem dX7_left_30 : decode cX7_left 30 = .ok (.iand, 1) := by decide +kernel
theorem dX7_left_31 : decode cX7_left 31 = .ok (.istore_n 3, 1) := by decide +kernel
theorem dX7_left_32 : decode cX7_left 32 = .ok (.iload_n 1, 1) := by decide +kernel
theorem dX7_left_33 : decode cX7_left 33 = .ok (.aload_n 0, 1) := by decide +kernel
theorem dX7_left_34 : decode cX7_left 34 = .ok (.getfield 18, 3) := by decide +kernel
theorem dX7_left_37 : decode cX7_left 37 = .ok (.iload_n 3, 1) := by decide +kernel
theorem dX7_left_38 : decode cX7_left 38 = .ok (.ior, 1) := by decide +kernel
theorem dX7_left_39 : decode cX7_left 39 = .ok (.iload_n 2, 1) := by decide +kernel
theorem dX7_left_40 : decode cX7_left 40 = .ok (.iconst (-1), 1) := by decide +kernel
theorem dX7_left_41 : decode cX7_left 41 = .ok (.ixor, 1) := by decide +kernel
theorem dX7_left_42 : decode cX7_left 42 = .ok (.iand, 1) := by decide +kernel
theorem dX7_left_43 : decode cX7_left 43 = .ok (.iconst (-1), 1) := by decide +kernel
theorem dX7_left_44 : decode cX7_left 44 = .ok (.ixor, 1) := by decide +kernel
theorem dX7_left_45 : decode cX7_left 45 = .ok (.iand, 1) := by decide +kernel
theorem dX7_left_46 : decode cX7_left 46 = .ok (.ireturn, 1) := by decide +kernel
def f_X7_left (S : St) (x0 : Fin 24) (x1 : Int32) (x2 : Int32) : Option (Int32 × St) :=
  obd2 (f_X7_isDone S x1 (S.1 (33 + x0.val) 2) (S.1 (33 + x0.val) 3)) fun r1 S1 =>
  if r1 = 0 then (
    some ((-1), S1)
  ) else (
    bnd ((((S1.1 (33 + x0.val) 3) &&& x1) &&& (-((S1.1 (33 + x0.val) 3) &&& x1))) : Int32) fun v3 =>
    some ((x1 &&& ((((S1.1 (33 + x0.val) 2) ||| v3) &&& (x2 ^^^ (-1))) ^^^ (-1))), S1)
  )
set_option maxHeartbeats 4000000 in
set_option maxRecDepth 100000 in
theorem c_X7_left {l : Launch} {D : va_G} {cI cC cS : ClassId} {ad adK adV : Nat → Nat} {S S1 : St} {x0 : Fin 24} {x1 : Int32} {x2 : Int32} {r : Int32} (h : f_X7_left S x0 x1 x2 = some (r, S1)) : Kt l D (xw cI cC cS ad) (KX D (xtys cI cC cS) adK adV) yX7_left cX7_left 4 (some .int) (1) (22) [.ref (ad (33 + x0.val)), .int x1, .int x2] S (some (.int r)) S1 := by
  refine k_ent (ins := .ireturn) (st := [.int r]) (by decide +kernel) (Nat.le_of_ble_eq_true rfl) ret_i ?_
  intro p e s m args below meth c A Q C hK I hA hq ls hl
  have C : CallFix p m c cX7_left 4 s args TT RX7 := C
  have hx := C.1
  have hb := C.2.1
  have kx := kx_ok D (xtys cI cC cS) adK adV
  have hl : lv_has ls 4 [(0, .ref (ad (33 + x0.val))), (1, .int x1), (2, .int x2)] := hl
  unfold f_X7_left at h
  refine lv_iload_n hx hb dX7_left_0 rfl (lv_at hl 1 rfl) ?_
  refine lv_aload_n hx hb dX7_left_1 rfl (lv_at hl 0 rfl) ?_
  refine gx_S_2 C hK I fl_X7_18 dX7_left_2 ?_
  refine lv_aload_n hx hb dX7_left_5 rfl (lv_at hl 0 rfl) ?_
  refine gx_S_3 C hK I fl_X7_21 dX7_left_6 ?_
  obtain ⟨r1, S1, e1, h⟩ := obd2_ex h
  refine k_S (As := [.int x1, .int (S.1 (33 + x0.val) 2), .int (S.1 (33 + x0.val) 3)]) (rest := []) (st1 := [.int r1]) C kx hK I hA (c_X7_isDone e1) ⟨Nat.le_of_ble_eq_true rfl, Nat.le_of_ble_eq_true rfl⟩ ms_X7_isDone lk_X7_24 rfl hl.1 rfl (Nat.le_of_ble_eq_true rfl) dX7_left_9 rfl (fun H locs I => ?_)
  refine lv_if_ne (tgt := 17) hx hb dX7_left_12 (by decide) (fun c2 => ?_) (fun c2 => ?_)
  · have h := ite_n c2 h
    refine lv_aload_n hx hb dX7_left_17 rfl (lv_at hl 0 rfl) ?_
    refine gx_S_3 C hK I fl_X7_21 dX7_left_18 ?_
    refine lv_iload_n hx hb dX7_left_21 rfl (lv_at hl 1 rfl) ?_
    refine lv_iand hx hb dX7_left_22 ?_
    refine lv_aload_n hx hb dX7_left_23 rfl (lv_at hl 0 rfl) ?_
    refine gx_S_3 C hK I fl_X7_21 dX7_left_24 ?_
    refine lv_iload_n hx hb dX7_left_27 rfl (lv_at hl 1 rfl) ?_
    refine lv_iand hx hb dX7_left_28 ?_
    refine lv_ineg hx hb dX7_left_29 ?_
    refine lv_iand hx hb dX7_left_30 ?_
    refine lv_topi (fun v3 ev3 => ?_)
    have h := bnd_at ev3 h
    clear ev3
    refine lv_istore_n (lv' := [(3, .int v3), (0, .ref (ad (33 + x0.val))), (1, .int x1), (2, .int x2)]) hx hb dX7_left_31 rfl hl (by decide) rfl (fun ls hl => ?_)
    refine lv_iload_n hx hb dX7_left_32 rfl (lv_at hl 2 rfl) ?_
    refine lv_aload_n hx hb dX7_left_33 rfl (lv_at hl 1 rfl) ?_
    refine gx_S_2 C hK I fl_X7_18 dX7_left_34 ?_
    refine lv_iload_n hx hb dX7_left_37 rfl (lv_at hl 0 rfl) ?_
    refine lv_ior hx hb dX7_left_38 ?_
    refine lv_iload_n hx hb dX7_left_39 rfl (lv_at hl 3 rfl) ?_
    refine lv_iconst (v := (-1)) hx hb dX7_left_40 (by decide) ?_
    refine lv_ixor hx hb dX7_left_41 ?_
    refine lv_iand hx hb dX7_left_42 ?_
    refine lv_iconst (v := (-1)) hx hb dX7_left_43 (by decide) ?_
    refine lv_ixor hx hb dX7_left_44 ?_
    refine lv_iand hx hb dX7_left_45 ?_
    exact rt_i hq h I dX7_left_46
  · have h := ite_t c2 h
    refine lv_iconst (v := (-1)) hx hb dX7_left_15 (by decide) ?_
    exact rt_i hq h I dX7_left_16
theorem dX2_rowOf_0 : decode cX2_rowOf 0 = .ok (.iconst 0, 1) := by decide +kernel
theorem dX2_rowOf_1 : decode cX2_rowOf 1 = .ok (.istore_n 2, 1) := by decide +kernel
theorem dX2_rowOf_2 : decode cX2_rowOf 2 = .ok (.iload_n 0, 1) := by decide +kernel
theorem dX2_rowOf_3 : decode cX2_rowOf 3 = .ok (.istore_n 3, 1) := by decide +kernel
theorem dX2_rowOf_4 : decode cX2_rowOf 4 = .ok (.iconst 0, 1) := by decide +kernel
theorem dX2_rowOf_5 : decode cX2_rowOf 5 = .ok (.istore 4, 2) := by decide +kernel
theorem dX2_rowOf_7 : decode cX2_rowOf 7 = .ok (.iload 4, 2) := by decide +kernel
theorem dX2_rowOf_9 : decode cX2_rowOf 9 = .ok (.iload_n 1, 1) := by decide +kernel
theorem dX2_rowOf_10 : decode cX2_rowOf 10 = .ok (.if_icmp .ge 23, 3) := by decide +kernel
theorem dX2_rowOf_13 : decode cX2_rowOf 13 = .ok (.iload_n 2, 1) := by decide +kernel
theorem dX2_rowOf_14 : decode cX2_rowOf 14 = .ok (.iconst 4, 1) := by decide +kernel
theorem dX2_rowOf_15 : decode cX2_rowOf 15 = .ok (.ishl, 1) := by decide +kernel
theorem dX2_rowOf_16 : decode cX2_rowOf 16 = .ok (.iload_n 3, 1) := by decide +kernel
theorem dX2_rowOf_17 : decode cX2_rowOf 17 = .ok (.bipush 6, 2) := by decide +kernel
theorem dX2_rowOf_19 : decode cX2_rowOf 19 = .ok (.irem, 1) := by decide +kernel
theorem dX2_rowOf_20 : decode cX2_rowOf 20 = .ok (.ior, 1) := by decide +kernel
theorem dX2_rowOf_21 : decode cX2_rowOf 21 = .ok (.istore_n 2, 1) := by decide +kernel
theorem dX2_rowOf_22 : decode cX2_rowOf 22 = .ok (.iload_n 3, 1) := by decide +kernel
theorem dX2_rowOf_23 : decode cX2_rowOf 23 = .ok (.bipush 6, 2) := by decide +kernel
theorem dX2_rowOf_25 : decode cX2_rowOf 25 = .ok (.idiv, 1) := by decide +kernel
theorem dX2_rowOf_26 : decode cX2_rowOf 26 = .ok (.istore_n 3, 1) := by decide +kernel
theorem dX2_rowOf_27 : decode cX2_rowOf 27 = .ok (.iinc 4 1, 3) := by decide +kernel
theorem dX2_rowOf_30 : decode cX2_rowOf 30 = .ok (.goto (-23), 3) := by decide +kernel
theorem dX2_rowOf_33 : decode cX2_rowOf 33 = .ok (.iload_n 2, 1) := by decide +kernel
theorem dX2_rowOf_34 : decode cX2_rowOf 34 = .ok (.ireturn, 1) := by decide +kernel
def f_X2_rowOf_7 (k_7 : St → Int32 → Int32 → Int32 → Int32 → Option (Int32 × St)) (S : St) (x1 : Int32) (x2 : Int32) (x3 : Int32) (x4 : Int32) : Option (Int32 × St) :=
  if x1 ≤ x4 then (
    some (x2, S)
  ) else (
    bnd (((x2 <<< ((4 : Int32) &&& 31)) ||| (x3 - x3 / 6 * 6)) : Int32) fun v2 =>
    bnd ((x3 / 6) : Int32) fun v3 =>
    bnd (x4 + 1 : Int32) fun v4 =>
    k_7 S x1 v2 v3 v4
  )
def l_X2_rowOf_7 : Nat → St → Int32 → Int32 → Int32 → Int32 → Option (Int32 × St)
  | 0, _, _, _, _, _ => none
  | fu + 1, S, x1, x2, x3, x4 => f_X2_rowOf_7 (l_X2_rowOf_7 fu) S x1 x2 x3 x4
def f_X2_rowOf (S : St) (x0 : Int32) (x1 : Int32) : Option (Int32 × St) :=
  l_X2_rowOf_7 FU S x1 0 x0 0
set_option maxHeartbeats 4000000 in
set_option maxRecDepth 100000 in
theorem c_X2_rowOf {l : Launch} {D : va_G} {cI cC cS : ClassId} {ad adK adV : Nat → Nat} {S S1 : St} {x0 : Int32} {x1 : Int32} {r : Int32} (h : f_X2_rowOf S x0 x1 = some (r, S1)) : Kt l D (xw cI cC cS ad) (KX D (xtys cI cC cS) adK adV) yX2_rowOf cX2_rowOf 5 (some .int) (0) (0) [.int x0, .int x1] S (some (.int r)) S1 := by
  refine k_ent (ins := .ireturn) (st := [.int r]) (by decide +kernel) (Nat.le_of_ble_eq_true rfl) ret_i ?_
  intro p e s m args below meth c A Q C hK I hA hq ls hl
  have C : CallFix p m c cX2_rowOf 5 s args TT RX2 := C
  have hx := C.1
  have hb := C.2.1
  have kx := kx_ok D (xtys cI cC cS) adK adV
  have hl : lv_has ls 5 [(0, .int x0), (1, .int x1)] := hl
  have B_7 : ∀ (k_7 : St → Int32 → Int32 → Int32 → Int32 → Option (Int32 × St)) (hk_7 : ∀ (S : St) (x1 : Int32) (x2 : Int32) (x3 : Int32) (x4 : Int32), k_7 S x1 x2 x3 x4 = some (r, S1) → ∀ (H : Heap) (locs : List Loc) (ls : Array Slot), Iv D (xw cI cC cS ad) S A s H locs → lv_has ls 5 [(1, .int x1), (2, .int x2), (3, .int x3), (4, .int x4)] → W p l e ({ frames := 0, cells := 0, slots := 0, locals := 0 } : Room) s m args below meth c H locs 0 0 Q (F0 m 7 ls [])) (S : St) (x1 : Int32) (x2 : Int32) (x3 : Int32) (x4 : Int32), f_X2_rowOf_7 k_7 S x1 x2 x3 x4 = some (r, S1) → ∀ (H : Heap) (locs : List Loc) (ls : Array Slot), Iv D (xw cI cC cS ad) S A s H locs → lv_has ls 5 [(1, .int x1), (2, .int x2), (3, .int x3), (4, .int x4)] → W p l e ({ frames := 0, cells := 0, slots := 0, locals := 0 } : Room) s m args below meth c H locs 0 0 Q (F0 m 7 ls []) := by
    intro k_7 hk_7 S x1 x2 x3 x4 h H locs ls I hl
    unfold f_X2_rowOf_7 at h
    refine lv_iload hx hb dX2_rowOf_7 (lv_at hl 3 rfl) ?_
    refine lv_iload_n hx hb dX2_rowOf_9 rfl (lv_at hl 0 rfl) ?_
    refine lv_icmp_ge (tgt := 33) hx hb dX2_rowOf_10 (by decide) (fun c1 => ?_) (fun c1 => ?_)
    · have h := ite_t c1 h
      refine lv_iload_n hx hb dX2_rowOf_33 rfl (lv_at hl 1 rfl) ?_
      exact rt_i hq h I dX2_rowOf_34
    · have h := ite_n c1 h
      refine lv_iload_n hx hb dX2_rowOf_13 rfl (lv_at hl 1 rfl) ?_
      refine lv_iconst (v := 4) hx hb dX2_rowOf_14 (by decide) ?_
      refine lv_ishl hx hb dX2_rowOf_15 ?_
      refine lv_iload_n hx hb dX2_rowOf_16 rfl (lv_at hl 2 rfl) ?_
      refine lv_bipush (v := 6) hx hb dX2_rowOf_17 (by decide) ?_
      refine lv_irem hx hb dX2_rowOf_19 (by decide) ?_
      refine lv_ior hx hb dX2_rowOf_20 ?_
      refine lv_topi (fun v2 ev2 => ?_)
      have h := bnd_at ev2 h
      clear ev2
      refine lv_istore_n (lv' := [(2, .int v2), (1, .int x1), (3, .int x3), (4, .int x4)]) hx hb dX2_rowOf_21 rfl hl (by decide) rfl (fun ls hl => ?_)
      refine lv_iload_n hx hb dX2_rowOf_22 rfl (lv_at hl 2 rfl) ?_
      refine lv_bipush (v := 6) hx hb dX2_rowOf_23 (by decide) ?_
      refine lv_idiv hx hb dX2_rowOf_25 (by decide) ?_
      refine lv_topi (fun v3 ev3 => ?_)
      have h := bnd_at ev3 h
      clear ev3
      refine lv_istore_n (lv' := [(3, .int v3), (2, .int v2), (1, .int x1), (4, .int x4)]) hx hb dX2_rowOf_26 rfl hl (by decide) rfl (fun ls hl => ?_)
      obtain ⟨v4, ev4⟩ : ∃ y : Int32, y = x4 + 1 := ⟨_, rfl⟩
      have h := bnd_at ev4 h
      refine lv_iinc (v := v4) (lv' := [(4, .int v4), (3, .int v3), (2, .int v2), (1, .int x1)]) hx hb dX2_rowOf_27 hl (k := 3) rfl (by rw [ev4]; rfl) (by decide) rfl (fun ls hl => ?_)
      clear ev4
      refine lv_goto (tgt := 7) hx hb dX2_rowOf_30 (by decide) ?_
      exact hk_7 _ _ _ _ _ h _ _ _ I (lv_sub hl [3, 2, 1, 0] rfl)
  have J_7 : ∀ (fu : Nat) (S : St) (x1 : Int32) (x2 : Int32) (x3 : Int32) (x4 : Int32), l_X2_rowOf_7  fu S x1 x2 x3 x4 = some (r, S1) → ∀ (H : Heap) (locs : List Loc) (ls : Array Slot), Iv D (xw cI cC cS ad) S A s H locs → lv_has ls 5 [(1, .int x1), (2, .int x2), (3, .int x3), (4, .int x4)] → W p l e ({ frames := 0, cells := 0, slots := 0, locals := 0 } : Room) s m args below meth c H locs 0 0 Q (F0 m 7 ls []) := by
    intro fu
    induction fu with
    | zero => intro S x1 x2 x3 x4 h; cases h
    | succ fu ih => intro S x1 x2 x3 x4 h; exact B_7 (l_X2_rowOf_7 fu) ih S x1 x2 x3 x4 h
  unfold f_X2_rowOf at h
  refine lv_iconst (v := 0) hx hb dX2_rowOf_0 (by decide) ?_
  refine lv_istore_n (lv' := [(2, .int 0), (0, .int x0), (1, .int x1)]) hx hb dX2_rowOf_1 rfl hl (by decide) rfl (fun ls hl => ?_)
  refine lv_iload_n hx hb dX2_rowOf_2 rfl (lv_at hl 1 rfl) ?_
  refine lv_istore_n (lv' := [(3, .int x0), (2, .int 0), (0, .int x0), (1, .int x1)]) hx hb dX2_rowOf_3 rfl hl (by decide) rfl (fun ls hl => ?_)
  refine lv_iconst (v := 0) hx hb dX2_rowOf_4 (by decide) ?_
  refine lv_istore (lv' := [(4, .int 0), (3, .int x0), (2, .int 0), (0, .int x0), (1, .int x1)]) hx hb dX2_rowOf_5 hl (by decide) rfl (fun ls hl => ?_)
  exact J_7 _ _ _ _ _ _ h _ _ _ I (lv_sub hl [4, 2, 1, 0] rfl)
theorem lk_X10_94 : Cond.methodLink RX10 94 yX10_within ∈ TT := tt_of 635 (by decide +kernel) rfl
theorem ms_X10_within : MS yX10_within cX10_within 3 (some .boolean) 3 := ⟨tt_of 419 (by decide +kernel) rfl, tt_of 418 (by decide +kernel) rfl, tt_of 65 (by decide +kernel) rfl, ⟨by decide +kernel, by decide +kernel, by decide +kernel⟩⟩
theorem dX10_isBag_0 : decode cX10_isBag 0 = .ok (.iload_n 0, 1) := by decide +kernel
theorem dX10_isBag_1 : decode cX10_isBag 1 = .ok (.iconst 0, 1) := by decide +kernel
theorem dX10_isBag_2 : decode cX10_isBag 2 = .ok (.sipush 255, 3) := by decide +kernel
theorem dX10_isBag_5 : decode cX10_isBag 5 = .ok (.invokestatic 94, 3) := by decide +kernel
theorem dX10_isBag_8 : decode cX10_isBag 8 = .ok (.ireturn, 1) := by decide +kernel
def f_X10_isBag (S : St) (x0 : Int32) : Option (Int32 × St) :=
  obd2 (f_X10_within S x0 0 255) fun r1 S1 =>
  chk (zb r1) <|
  some (r1, S1)
set_option maxHeartbeats 4000000 in
set_option maxRecDepth 100000 in
theorem c_X10_isBag {l : Launch} {D : va_G} {cI cC cS : ClassId} {ad adK adV : Nat → Nat} {S S1 : St} {x0 : Int32} {r : Int32} (h : f_X10_isBag S x0 = some (r, S1)) : Kt l D (xw cI cC cS ad) (KX D (xtys cI cC cS) adK adV) yX10_isBag cX10_isBag 1 (some .boolean) (1) (22) [.int x0] S (some (.int r)) S1 := by
  refine k_entz (by decide +kernel) (Nat.le_of_ble_eq_true rfl) ?_
  intro p e s m args below meth c A Q C hK I hA hq ls hl
  have C : CallFix p m c cX10_isBag 1 s args TT RX10 := C
  have hx := C.1
  have hb := C.2.1
  have kx := kx_ok D (xtys cI cC cS) adK adV
  have hl : lv_has ls 1 [(0, .int x0)] := hl
  unfold f_X10_isBag at h
  refine lv_iload_n hx hb dX10_isBag_0 rfl (lv_at hl 0 rfl) ?_
  refine lv_iconst (v := 0) hx hb dX10_isBag_1 (by decide) ?_
  refine lv_sipush (v := 255) hx hb dX10_isBag_2 (by decide) ?_
  obtain ⟨r1, S1, e1, h⟩ := obd2_ex h
  refine k_S (As := [.int x0, .int 0, .int 255]) (rest := []) (st1 := [.int r1]) C kx hK I hA (c_X10_within e1) ⟨Nat.le_of_ble_eq_true rfl, Nat.le_of_ble_eq_true rfl⟩ ms_X10_within lk_X10_94 rfl hl.1 rfl (Nat.le_of_ble_eq_true rfl) dX10_isBag_5 rfl (fun H locs I => ?_)
  obtain ⟨hz, h⟩ := chk_ex h
  exact rt_z hz hq h I dX10_isBag_8
theorem dX10_isPart_0 : decode cX10_isPart 0 = .ok (.iload_n 0, 1) := by decide +kernel
theorem dX10_isPart_1 : decode cX10_isPart 1 = .ok (.iconst 0, 1) := by decide +kernel
theorem dX10_isPart_2 : decode cX10_isPart 2 = .ok (.iconst 1, 1) := by decide +kernel
theorem dX10_isPart_3 : decode cX10_isPart 3 = .ok (.invokestatic 94, 3) := by decide +kernel
theorem dX10_isPart_6 : decode cX10_isPart 6 = .ok (.ireturn, 1) := by decide +kernel
def f_X10_isPart (S : St) (x0 : Int32) : Option (Int32 × St) :=
  obd2 (f_X10_within S x0 0 1) fun r1 S1 =>
  chk (zb r1) <|
  some (r1, S1)
set_option maxHeartbeats 4000000 in
set_option maxRecDepth 100000 in
theorem c_X10_isPart {l : Launch} {D : va_G} {cI cC cS : ClassId} {ad adK adV : Nat → Nat} {S S1 : St} {x0 : Int32} {r : Int32} (h : f_X10_isPart S x0 = some (r, S1)) : Kt l D (xw cI cC cS ad) (KX D (xtys cI cC cS) adK adV) yX10_isPart cX10_isPart 1 (some .boolean) (1) (22) [.int x0] S (some (.int r)) S1 := by
  refine k_entz (by decide +kernel) (Nat.le_of_ble_eq_true rfl) ?_
  intro p e s m args below meth c A Q C hK I hA hq ls hl
  have C : CallFix p m c cX10_isPart 1 s args TT RX10 := C
  have hx := C.1
  have hb := C.2.1
  have kx := kx_ok D (xtys cI cC cS) adK adV
  have hl : lv_has ls 1 [(0, .int x0)] := hl
  unfold f_X10_isPart at h
  refine lv_iload_n hx hb dX10_isPart_0 rfl (lv_at hl 0 rfl) ?_
  refine lv_iconst (v := 0) hx hb dX10_isPart_1 (by decide) ?_
  refine lv_iconst (v := 1) hx hb dX10_isPart_2 (by decide) ?_
  obtain ⟨r1, S1, e1, h⟩ := obd2_ex h
  refine k_S (As := [.int x0, .int 0, .int 1]) (rest := []) (st1 := [.int r1]) C kx hK I hA (c_X10_within e1) ⟨Nat.le_of_ble_eq_true rfl, Nat.le_of_ble_eq_true rfl⟩ ms_X10_within lk_X10_94 rfl hl.1 rfl (Nat.le_of_ble_eq_true rfl) dX10_isPart_3 rfl (fun H locs I => ?_)
  obtain ⟨hz, h⟩ := chk_ex h
  exact rt_z hz hq h I dX10_isPart_6
theorem lk_X10_305 : Cond.methodLink RX10 305 yJ9_abs_067f4 ∈ TT := tt_of 737 (by decide +kernel) rfl
theorem ms_J9_abs_067f4 : MS yJ9_abs_067f4 cJ9_abs_067f4 2 (some .long) 1 := ⟨tt_of 739 (by decide +kernel) rfl, tt_of 738 (by decide +kernel) rfl, tt_of 77 (by decide +kernel) rfl, ⟨by decide +kernel, by decide +kernel, by decide +kernel⟩⟩
theorem dX10_lowest_0 : decode cX10_lowest 0 = .ok (.lload_n 0, 1) := by decide +kernel
theorem dX10_lowest_1 : decode cX10_lowest 1 = .ok (.invokestatic 305, 3) := by decide +kernel
theorem dX10_lowest_4 : decode cX10_lowest 4 = .ok (.lstore 5, 2) := by decide +kernel
theorem dX10_lowest_6 : decode cX10_lowest 6 = .ok (.lload_n 2, 1) := by decide +kernel
theorem dX10_lowest_7 : decode cX10_lowest 7 = .ok (.invokestatic 305, 3) := by decide +kernel
theorem dX10_lowest_10 : decode cX10_lowest 10 = .ok (.lstore 7, 2) := by decide +kernel
theorem dX10_lowest_12 : decode cX10_lowest 12 = .ok (.iconst 0, 1) := by decide +kernel
theorem dX10_lowest_13 : decode cX10_lowest 13 = .ok (.istore 9, 2) := by decide +kernel
theorem dX10_lowest_15 : decode cX10_lowest 15 = .ok (.iload 9, 2) := by decide +kernel
theorem dX10_lowest_17 : decode cX10_lowest 17 = .ok (.bipush 100, 2) := by decide +kernel
theorem dX10_lowest_19 : decode cX10_lowest 19 = .ok (.if_icmp .ge 31, 3) := by decide +kernel
theorem dX10_lowest_22 : decode cX10_lowest 22 = .ok (.lload 7, 2) := by decide +kernel
theorem dX10_lowest_24 : decode cX10_lowest 24 = .ok (.lconst 0, 1) := by decide +kernel
theorem dX10_lowest_25 : decode cX10_lowest 25 = .ok (.lcmp, 1) := by decide +kernel
theorem dX10_lowest_26 : decode cX10_lowest 26 = .ok (.ifCond .eq 24, 3) := by decide +kernel
theorem dX10_lowest_29 : decode cX10_lowest 29 = .ok (.lload 5, 2) := by decide +kernel
theorem dX10_lowest_31 : decode cX10_lowest 31 = .ok (.lload 7, 2) := by decide +kernel
theorem dX10_lowest_33 : decode cX10_lowest 33 = .ok (.lrem, 1) := by decide +kernel
theorem dX10_lowest_34 : decode cX10_lowest 34 = .ok (.lstore 10, 2) := by decide +kernel
theorem dX10_lowest_36 : decode cX10_lowest 36 = .ok (.lload 7, 2) := by decide +kernel
theorem dX10_lowest_38 : decode cX10_lowest 38 = .ok (.lstore 5, 2) := by decide +kernel
theorem dX10_lowest_40 : decode cX10_lowest 40 = .ok (.lload 10, 2) := by decide +kernel
theorem dX10_lowest_42 : decode cX10_lowest 42 = .ok (.lstore 7, 2) := by decide +kernel
theorem dX10_lowest_44 : decode cX10_lowest 44 = .ok (.iinc 9 1, 3) := by decide +kernel
theorem dX10_lowest_47 : decode cX10_lowest 47 = .ok (.goto (-32), 3) := by decide +kernel
theorem dX10_lowest_50 : decode cX10_lowest 50 = .ok (.lload 5, 2) := by decide +kernel
theorem dX10_lowest_52 : decode cX10_lowest 52 = .ok (.lconst 0, 1) := by decide +kernel
theorem dX10_lowest_53 : decode cX10_lowest 53 = .ok (.lcmp, 1) := by decide +kernel
theorem dX10_lowest_54 : decode cX10_lowest 54 = .ok (.ifCond .ne 5, 3) := by decide +kernel
theorem dX10_lowest_57 : decode cX10_lowest 57 = .ok (.lconst 0, 1) := by decide +kernel
theorem dX10_lowest_58 : decode cX10_lowest 58 = .ok (.lreturn, 1) := by decide +kernel
theorem dX10_lowest_59 : decode cX10_lowest 59 = .ok (.iload 4, 2) := by decide +kernel
theorem dX10_lowest_61 : decode cX10_lowest 61 = .ok (.ifCond .ne 10, 3) := by decide +kernel
theorem dX10_lowest_64 : decode cX10_lowest 64 = .ok (.lload_n 0, 1) := by decide +kernel
theorem dX10_lowest_65 : decode cX10_lowest 65 = .ok (.lload 5, 2) := by decide +kernel
theorem dX10_lowest_67 : decode cX10_lowest 67 = .ok (.ldiv, 1) := by decide +kernel
theorem dX10_lowest_68 : decode cX10_lowest 68 = .ok (.goto 7, 3) := by decide +kernel
theorem dX10_lowest_71 : decode cX10_lowest 71 = .ok (.lload_n 2, 1) := by decide +kernel
theorem dX10_lowest_72 : decode cX10_lowest 72 = .ok (.lload 5, 2) := by decide +kernel
theorem dX10_lowest_74 : decode cX10_lowest 74 = .ok (.ldiv, 1) := by decide +kernel
theorem dX10_lowest_75 : decode cX10_lowest 75 = .ok (.lreturn, 1) := by decide +kernel
def f_X10_lowest_50 (S : St) (x0 : Int64) (x2 : Int64) (x4 : Int32) (x5 : Int64) : Option (Int64 × St) :=
  if (lg_cmp x5 (0)) = 0 then (
    some ((0), S)
  ) else (
    if x4 = 0 then (
      chk (¬ x5 = 0) <|
      some ((x0 / x5), S)
    ) else (
      chk (¬ x5 = 0) <|
      some ((x2 / x5), S)
    )
  )
def f_X10_lowest_15 (k_15 : St → Int64 → Int64 → Int32 → Int64 → Int64 → Int32 → Option (Int64 × St)) (S : St) (x0 : Int64) (x2 : Int64) (x4 : Int32) (x5 : Int64) (x7 : Int64) (x9 : Int32) : Option (Int64 × St) :=
  if 100 ≤ x9 then (
    f_X10_lowest_50 S x0 x2 x4 x5
  ) else (
    if (lg_cmp x7 (0)) = 0 then (
      f_X10_lowest_50 S x0 x2 x4 x5
    ) else (
      chk (¬ x7 = 0) <|
      bnd ((x5 - x5 / x7 * x7) : Int64) fun v8 =>
      bnd (x9 + 1 : Int32) fun v9 =>
      k_15 S x0 x2 x4 x7 v8 v9
    )
  )
def l_X10_lowest_15 : Nat → St → Int64 → Int64 → Int32 → Int64 → Int64 → Int32 → Option (Int64 × St)
  | 0, _, _, _, _, _, _, _ => none
  | fu + 1, S, x0, x2, x4, x5, x7, x9 => f_X10_lowest_15 (l_X10_lowest_15 fu) S x0 x2 x4 x5 x7 x9
def f_X10_lowest (S : St) (x0 : Int64) (x2 : Int64) (x4 : Int32) : Option (Int64 × St) :=
  bnd (if 0 < x0 then x0 else -x0 : Int64) fun v10 =>
  bnd (if 0 < x2 then x2 else -x2 : Int64) fun v11 =>
  l_X10_lowest_15 FU S x0 x2 x4 v10 v11 0
set_option maxHeartbeats 4000000 in
set_option maxRecDepth 100000 in
theorem c_X10_lowest {l : Launch} {D : va_G} {cI cC cS : ClassId} {ad adK adV : Nat → Nat} {S S1 : St} {x0 : Int64} {x2 : Int64} {x4 : Int32} {r : Int64} (h : f_X10_lowest S x0 x2 x4 = some (r, S1)) : Kt l D (xw cI cC cS ad) (KX D (xtys cI cC cS) adK adV) yX10_lowest cX10_lowest 12 (some .long) (1) (23) [.long x0, .long x2, .int x4] S (some (.long r)) S1 := by
  refine k_ent (ins := .lreturn) (st := [.long r]) (by decide +kernel) (Nat.le_of_ble_eq_true rfl) ret_l ?_
  intro p e s m args below meth c A Q C hK I hA hq ls hl
  have C : CallFix p m c cX10_lowest 12 s args TT RX10 := C
  have hx := C.1
  have hb := C.2.1
  have kx := kx_ok D (xtys cI cC cS) adK adV
  have hl : lv_has ls 12 [(0, .long x0), (2, .long x2), (4, .int x4)] := hl
  have J_50 : ∀ (S : St) (x0 : Int64) (x2 : Int64) (x4 : Int32) (x5 : Int64), f_X10_lowest_50  S x0 x2 x4 x5 = some (r, S1) → ∀ (H : Heap) (locs : List Loc) (ls : Array Slot), Iv D (xw cI cC cS ad) S A s H locs → lv_has ls 12 [(0, .long x0), (2, .long x2), (4, .int x4), (5, .long x5)] → W p l e ({ frames := 1, cells := 0, slots := 0, locals := 23 } : Room) s m args below meth c H locs 0 0 Q (F0 m 50 ls []) := by
    intro  S x0 x2 x4 x5 h H locs ls I hl
    unfold f_X10_lowest_50 at h
    refine lv_lload hx hb dX10_lowest_50 (lv_at hl 3 rfl) ?_
    refine lv_lconst (v := (0)) hx hb dX10_lowest_52 (by decide) ?_
    refine W.lcmp hx hb dX10_lowest_53 ?_
    refine lv_if_ne (tgt := 59) hx hb dX10_lowest_54 (by decide) (fun c1 => ?_) (fun c1 => ?_)
    · have h := ite_n c1 h
      refine lv_iload hx hb dX10_lowest_59 (lv_at hl 2 rfl) ?_
      refine lv_if_ne (tgt := 71) hx hb dX10_lowest_61 (by decide) (fun c2 => ?_) (fun c2 => ?_)
      · have h := ite_n c2 h
        refine lv_lload_n hx hb dX10_lowest_71 rfl (lv_at hl 1 rfl) ?_
        refine lv_lload hx hb dX10_lowest_72 (lv_at hl 3 rfl) ?_
        obtain ⟨hv3, h⟩ := chk_ex h
        refine lv_ldiv hx hb dX10_lowest_74 hv3 ?_
        exact rt_l hq h I dX10_lowest_75
      · have h := ite_t c2 h
        refine lv_lload_n hx hb dX10_lowest_64 rfl (lv_at hl 0 rfl) ?_
        refine lv_lload hx hb dX10_lowest_65 (lv_at hl 3 rfl) ?_
        obtain ⟨hv4, h⟩ := chk_ex h
        refine lv_ldiv hx hb dX10_lowest_67 hv4 ?_
        refine lv_goto (tgt := 75) hx hb dX10_lowest_68 (by decide) ?_
        exact rt_l hq h I dX10_lowest_75
    · have h := ite_t c1 h
      refine lv_lconst (v := (0)) hx hb dX10_lowest_57 (by decide) ?_
      exact rt_l hq h I dX10_lowest_58
  have B_15 : ∀ (k_15 : St → Int64 → Int64 → Int32 → Int64 → Int64 → Int32 → Option (Int64 × St)) (hk_15 : ∀ (S : St) (x0 : Int64) (x2 : Int64) (x4 : Int32) (x5 : Int64) (x7 : Int64) (x9 : Int32), k_15 S x0 x2 x4 x5 x7 x9 = some (r, S1) → ∀ (H : Heap) (locs : List Loc) (ls : Array Slot), Iv D (xw cI cC cS ad) S A s H locs → lv_has ls 12 [(0, .long x0), (2, .long x2), (4, .int x4), (5, .long x5), (7, .long x7), (9, .int x9)] → W p l e ({ frames := 1, cells := 0, slots := 0, locals := 23 } : Room) s m args below meth c H locs 0 0 Q (F0 m 15 ls [])) (S : St) (x0 : Int64) (x2 : Int64) (x4 : Int32) (x5 : Int64) (x7 : Int64) (x9 : Int32), f_X10_lowest_15 k_15 S x0 x2 x4 x5 x7 x9 = some (r, S1) → ∀ (H : Heap) (locs : List Loc) (ls : Array Slot), Iv D (xw cI cC cS ad) S A s H locs → lv_has ls 12 [(0, .long x0), (2, .long x2), (4, .int x4), (5, .long x5), (7, .long x7), (9, .int x9)] → W p l e ({ frames := 1, cells := 0, slots := 0, locals := 23 } : Room) s m args below meth c H locs 0 0 Q (F0 m 15 ls []) := by
    intro k_15 hk_15 S x0 x2 x4 x5 x7 x9 h H locs ls I hl
    unfold f_X10_lowest_15 at h
    refine lv_iload hx hb dX10_lowest_15 (lv_at hl 5 rfl) ?_
    refine lv_bipush (v := 100) hx hb dX10_lowest_17 (by decide) ?_
    refine lv_icmp_ge (tgt := 50) hx hb dX10_lowest_19 (by decide) (fun c5 => ?_) (fun c5 => ?_)
    · have h := ite_t c5 h
      exact J_50 _ _ _ _ _ h _ _ _ I (lv_sub hl [0, 1, 2, 3] rfl)
    · have h := ite_n c5 h
      refine lv_lload hx hb dX10_lowest_22 (lv_at hl 4 rfl) ?_
      refine lv_lconst (v := (0)) hx hb dX10_lowest_24 (by decide) ?_
      refine W.lcmp hx hb dX10_lowest_25 ?_
      refine lv_if_eq (tgt := 50) hx hb dX10_lowest_26 (by decide) (fun c6 => ?_) (fun c6 => ?_)
      · have h := ite_t c6 h
        exact J_50 _ _ _ _ _ h _ _ _ I (lv_sub hl [0, 1, 2, 3] rfl)
      · have h := ite_n c6 h
        refine lv_lload hx hb dX10_lowest_29 (lv_at hl 3 rfl) ?_
        refine lv_lload hx hb dX10_lowest_31 (lv_at hl 4 rfl) ?_
        obtain ⟨hv7, h⟩ := chk_ex h
        refine lv_lrem hx hb dX10_lowest_33 hv7 ?_
        refine lv_topl (fun v8 ev8 => ?_)
        have h := bnd_at ev8 h
        clear ev8
        refine lv_lstore (lv' := [(10, .long v8), (0, .long x0), (2, .long x2), (4, .int x4), (5, .long x5), (7, .long x7), (9, .int x9)]) hx hb dX10_lowest_34 hl (by decide) rfl (fun ls hl => ?_)
        refine lv_lload hx hb dX10_lowest_36 (lv_at hl 5 rfl) ?_
        refine lv_lstore (lv' := [(5, .long x7), (10, .long v8), (0, .long x0), (2, .long x2), (4, .int x4), (7, .long x7), (9, .int x9)]) hx hb dX10_lowest_38 hl (by decide) rfl (fun ls hl => ?_)
        refine lv_lload hx hb dX10_lowest_40 (lv_at hl 1 rfl) ?_
        refine lv_lstore (lv' := [(7, .long v8), (5, .long x7), (10, .long v8), (0, .long x0), (2, .long x2), (4, .int x4), (9, .int x9)]) hx hb dX10_lowest_42 hl (by decide) rfl (fun ls hl => ?_)
        obtain ⟨v9, ev9⟩ : ∃ y : Int32, y = x9 + 1 := ⟨_, rfl⟩
        have h := bnd_at ev9 h
        refine lv_iinc (v := v9) (lv' := [(9, .int v9), (7, .long v8), (5, .long x7), (10, .long v8), (0, .long x0), (2, .long x2), (4, .int x4)]) hx hb dX10_lowest_44 hl (k := 6) rfl (by rw [ev9]; rfl) (by decide) rfl (fun ls hl => ?_)
        clear ev9
        refine lv_goto (tgt := 15) hx hb dX10_lowest_47 (by decide) ?_
        exact hk_15 _ _ _ _ _ _ _ h _ _ _ I (lv_sub hl [4, 5, 6, 2, 1, 0] rfl)
  have J_15 : ∀ (fu : Nat) (S : St) (x0 : Int64) (x2 : Int64) (x4 : Int32) (x5 : Int64) (x7 : Int64) (x9 : Int32), l_X10_lowest_15  fu S x0 x2 x4 x5 x7 x9 = some (r, S1) → ∀ (H : Heap) (locs : List Loc) (ls : Array Slot), Iv D (xw cI cC cS ad) S A s H locs → lv_has ls 12 [(0, .long x0), (2, .long x2), (4, .int x4), (5, .long x5), (7, .long x7), (9, .int x9)] → W p l e ({ frames := 1, cells := 0, slots := 0, locals := 23 } : Room) s m args below meth c H locs 0 0 Q (F0 m 15 ls []) := by
    intro fu
    induction fu with
    | zero => intro S x0 x2 x4 x5 x7 x9 h; cases h
    | succ fu ih => intro S x0 x2 x4 x5 x7 x9 h; exact B_15 (l_X10_lowest_15 fu) ih S x0 x2 x4 x5 x7 x9 h
  unfold f_X10_lowest at h
  refine lv_lload_n hx hb dX10_lowest_0 rfl (lv_at hl 0 rfl) ?_
  refine va_mabs_long (rest := []) hx hb (C.2.2.1.trans hl.1.symm) C.2.2.2.1 (C.2.2.2.2 _ lk_X10_305) (C.2.2.2.2 _ ms_J9_abs_067f4.2.1) (C.2.2.2.2 _ ms_J9_abs_067f4.2.2.1) (C.2.2.2.2 _ ms_J9_abs_067f4.1) (Nat.le_of_ble_eq_true rfl) (Nat.le_of_ble_eq_true rfl) (Nat.zero_le _) (Nat.zero_le _) dX10_lowest_1 ?_
  refine lv_topl (fun v10 ev10 => ?_)
  have h := bnd_at ev10 h
  clear ev10
  refine lv_lstore (lv' := [(5, .long v10), (0, .long x0), (2, .long x2), (4, .int x4)]) hx hb dX10_lowest_4 hl (by decide) rfl (fun ls hl => ?_)
  refine lv_lload_n hx hb dX10_lowest_6 rfl (lv_at hl 2 rfl) ?_
  refine va_mabs_long (rest := []) hx hb (C.2.2.1.trans hl.1.symm) C.2.2.2.1 (C.2.2.2.2 _ lk_X10_305) (C.2.2.2.2 _ ms_J9_abs_067f4.2.1) (C.2.2.2.2 _ ms_J9_abs_067f4.2.2.1) (C.2.2.2.2 _ ms_J9_abs_067f4.1) (Nat.le_of_ble_eq_true rfl) (Nat.le_of_ble_eq_true rfl) (Nat.zero_le _) (Nat.zero_le _) dX10_lowest_7 ?_
  refine lv_topl (fun v11 ev11 => ?_)
  have h := bnd_at ev11 h
  clear ev11
  refine lv_lstore (lv' := [(7, .long v11), (5, .long v10), (0, .long x0), (2, .long x2), (4, .int x4)]) hx hb dX10_lowest_10 hl (by decide) rfl (fun ls hl => ?_)
  refine lv_iconst (v := 0) hx hb dX10_lowest_12 (by decide) ?_
  refine lv_istore (lv' := [(9, .int 0), (7, .long v11), (5, .long v10), (0, .long x0), (2, .long x2), (4, .int x4)]) hx hb dX10_lowest_13 hl (by decide) rfl (fun ls hl => ?_)
  exact J_15 _ _ _ _ _ _ _ _ h _ _ _ I (lv_sub hl [3, 4, 5, 2, 1, 0] rfl)
