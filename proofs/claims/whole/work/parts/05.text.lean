theorem fl_X8_15 : Cond.fieldLink RX8 15 RX8 "length" "I" ∈ TT := tt_of 98 (by decide +kernel) rfl
theorem dX8_length_0 : decode cX8_length 0 = .ok (.aload_n 0, 1) := by decide +kernel
theorem dX8_length_1 : decode cX8_length 1 = .ok (.getfield 15, 3) := by decide +kernel
theorem dX8_length_4 : decode cX8_length 4 = .ok (.ireturn, 1) := by decide +kernel
def f_X8_length (S : St)  : Option (Int32 × St) :=
  some ((S.1 1 1), S)
set_option maxHeartbeats 4000000 in
set_option maxRecDepth 100000 in
theorem c_X8_length {l : Launch} {D : va_G} {cI cC cS : ClassId} {ad adK adV : Nat → Nat} {S S1 : St}  {r : Int32} (h : f_X8_length S  = some (r, S1)) : Kt l D (xw cI cC cS ad) (KX D (xtys cI cC cS) adK adV) yX8_length cX8_length 1 (some .int) (0) (0) [.ref (ad 1)] S (some (.int r)) S1 := by
  refine k_ent (ins := .ireturn) (st := [.int r]) (by decide +kernel) (Nat.le_of_ble_eq_true rfl) ret_i ?_
  intro p e s m args below meth c A Q C hK I hA hq ls hl
  have C : CallFix p m c cX8_length 1 s args TT RX8 := C
  have hx := C.1
  have hb := C.2.1
  have kx := kx_ok D (xtys cI cC cS) adK adV
  have hl : lv_has ls 1 [(0, .ref (ad 1))] := hl
  unfold f_X8_length at h
  refine lv_aload_n hx hb dX8_length_0 rfl (lv_at hl 0 rfl) ?_
  refine gx_1_1 C hK I fl_X8_15 dX8_length_1 ?_
  exact rt_i hq h I dX8_length_4
theorem fl_X8_11 : Cond.fieldLink RX8 11 RX8 "bytes" "[I" ∈ TT := tt_of 97 (by decide +kernel) rfl
theorem dX8_kindAt_0 : decode cX8_kindAt 0 = .ok (.iload_n 1, 1) := by decide +kernel
theorem dX8_kindAt_1 : decode cX8_kindAt 1 = .ok (.ifCond .lt 20, 3) := by decide +kernel
theorem dX8_kindAt_4 : decode cX8_kindAt 4 = .ok (.iload_n 1, 1) := by decide +kernel
theorem dX8_kindAt_5 : decode cX8_kindAt 5 = .ok (.aload_n 0, 1) := by decide +kernel
theorem dX8_kindAt_6 : decode cX8_kindAt 6 = .ok (.getfield 15, 3) := by decide +kernel
theorem dX8_kindAt_9 : decode cX8_kindAt 9 = .ok (.if_icmp .ge 12, 3) := by decide +kernel
theorem dX8_kindAt_12 : decode cX8_kindAt 12 = .ok (.iload_n 1, 1) := by decide +kernel
theorem dX8_kindAt_13 : decode cX8_kindAt 13 = .ok (.aload_n 0, 1) := by decide +kernel
theorem dX8_kindAt_14 : decode cX8_kindAt 14 = .ok (.getfield 11, 3) := by decide +kernel
theorem dX8_kindAt_17 : decode cX8_kindAt 17 = .ok (.arraylength, 1) := by decide +kernel
theorem dX8_kindAt_18 : decode cX8_kindAt 18 = .ok (.if_icmp .lt 5, 3) := by decide +kernel
theorem dX8_kindAt_21 : decode cX8_kindAt 21 = .ok (.iconst 0, 1) := by decide +kernel
theorem dX8_kindAt_22 : decode cX8_kindAt 22 = .ok (.ireturn, 1) := by decide +kernel
theorem dX8_kindAt_23 : decode cX8_kindAt 23 = .ok (.aload_n 0, 1) := by decide +kernel
theorem dX8_kindAt_24 : decode cX8_kindAt 24 = .ok (.getfield 11, 3) := by decide +kernel
theorem dX8_kindAt_27 : decode cX8_kindAt 27 = .ok (.iload_n 1, 1) := by decide +kernel
theorem dX8_kindAt_28 : decode cX8_kindAt 28 = .ok (.iaload, 1) := by decide +kernel
theorem dX8_kindAt_29 : decode cX8_kindAt 29 = .ok (.istore_n 2, 1) := by decide +kernel
theorem dX8_kindAt_30 : decode cX8_kindAt 30 = .ok (.iload_n 2, 1) := by decide +kernel
theorem dX8_kindAt_31 : decode cX8_kindAt 31 = .ok (.bipush 97, 2) := by decide +kernel
theorem dX8_kindAt_33 : decode cX8_kindAt 33 = .ok (.if_icmp .lt 11, 3) := by decide +kernel
theorem dX8_kindAt_36 : decode cX8_kindAt 36 = .ok (.iload_n 2, 1) := by decide +kernel
theorem dX8_kindAt_37 : decode cX8_kindAt 37 = .ok (.bipush 122, 2) := by decide +kernel
theorem dX8_kindAt_39 : decode cX8_kindAt 39 = .ok (.if_icmp .gt 5, 3) := by decide +kernel
theorem dX8_kindAt_42 : decode cX8_kindAt 42 = .ok (.iconst 1, 1) := by decide +kernel
theorem dX8_kindAt_43 : decode cX8_kindAt 43 = .ok (.ireturn, 1) := by decide +kernel
theorem dX8_kindAt_44 : decode cX8_kindAt 44 = .ok (.iload_n 2, 1) := by decide +kernel
theorem dX8_kindAt_45 : decode cX8_kindAt 45 = .ok (.bipush 48, 2) := by decide +kernel
theorem dX8_kindAt_47 : decode cX8_kindAt 47 = .ok (.if_icmp .lt 11, 3) := by decide +kernel
theorem dX8_kindAt_50 : decode cX8_kindAt 50 = .ok (.iload_n 2, 1) := by decide +kernel
theorem dX8_kindAt_51 : decode cX8_kindAt 51 = .ok (.bipush 57, 2) := by decide +kernel
theorem dX8_kindAt_53 : decode cX8_kindAt 53 = .ok (.if_icmp .gt 5, 3) := by decide +kernel
theorem dX8_kindAt_56 : decode cX8_kindAt 56 = .ok (.iconst 2, 1) := by decide +kernel
theorem dX8_kindAt_57 : decode cX8_kindAt 57 = .ok (.ireturn, 1) := by decide +kernel
theorem dX8_kindAt_58 : decode cX8_kindAt 58 = .ok (.iload_n 2, 1) := by decide +kernel
theorem dX8_kindAt_59 : decode cX8_kindAt 59 = .ok (.bipush 32, 2) := by decide +kernel
theorem dX8_kindAt_61 : decode cX8_kindAt 61 = .ok (.if_icmp .ne 7, 3) := by decide +kernel
theorem dX8_kindAt_64 : decode cX8_kindAt 64 = .ok (.iconst 3, 1) := by decide +kernel
theorem dX8_kindAt_65 : decode cX8_kindAt 65 = .ok (.goto 4, 3) := by decide +kernel
theorem dX8_kindAt_68 : decode cX8_kindAt 68 = .ok (.iconst 0, 1) := by decide +kernel
theorem dX8_kindAt_69 : decode cX8_kindAt 69 = .ok (.ireturn, 1) := by decide +kernel
def f_X8_kindAt_58 (S : St) (x2 : Int32) : Option (Int32 × St) :=
  if x2 = 32 then (
    some (3, S)
  ) else (
    some (0, S)
  )
def f_X8_kindAt_44 (S : St) (x2 : Int32) : Option (Int32 × St) :=
  if x2 < 48 then (
    f_X8_kindAt_58 S x2
  ) else (
    if 57 < x2 then (
      f_X8_kindAt_58 S x2
    ) else (
      some (2, S)
    )
  )
def f_X8_kindAt (S : St) (x1 : Int32) : Option (Int32 × St) :=
  if x1 < 0 then (
    some (0, S)
  ) else (
    if (S.1 1 1) ≤ x1 then (
      some (0, S)
    ) else (
      if x1 < (nI 200) then (
        chk (ixo x1 200) <|
        bnd ((S.1 11 (x1).toNatClampNeg) : Int32) fun v8 =>
        if v8 < 97 then (
          f_X8_kindAt_44 S v8
        ) else (
          if 122 < v8 then (
            f_X8_kindAt_44 S v8
          ) else (
            some (1, S)
          )
        )
      ) else (
        some (0, S)
      )
    )
  )
set_option maxHeartbeats 4000000 in
set_option maxRecDepth 100000 in
theorem c_X8_kindAt {l : Launch} {D : va_G} {cI cC cS : ClassId} {ad adK adV : Nat → Nat} {S S1 : St} {x1 : Int32} {r : Int32} (h : f_X8_kindAt S x1 = some (r, S1)) : Kt l D (xw cI cC cS ad) (KX D (xtys cI cC cS) adK adV) yX8_kindAt cX8_kindAt 3 (some .int) (0) (0) [.ref (ad 1), .int x1] S (some (.int r)) S1 := by
  refine k_ent (ins := .ireturn) (st := [.int r]) (by decide +kernel) (Nat.le_of_ble_eq_true rfl) ret_i ?_
  intro p e s m args below meth c A Q C hK I hA hq ls hl
  have C : CallFix p m c cX8_kindAt 3 s args TT RX8 := C
  have hx := C.1
  have hb := C.2.1
  have kx := kx_ok D (xtys cI cC cS) adK adV
  have hl : lv_has ls 3 [(0, .ref (ad 1)), (1, .int x1)] := hl
  have J_58 : ∀ (S : St) (x2 : Int32), f_X8_kindAt_58  S x2 = some (r, S1) → ∀ (H : Heap) (locs : List Loc) (ls : Array Slot), Iv D (xw cI cC cS ad) S A s H locs → lv_has ls 3 [(2, .int x2)] → W p l e ({ frames := 0, cells := 0, slots := 0, locals := 0 } : Room) s m args below meth c H locs 0 0 Q (F0 m 58 ls []) := by
    intro  S x2 h H locs ls I hl
    unfold f_X8_kindAt_58 at h
    refine lv_iload_n hx hb dX8_kindAt_58 rfl (lv_at hl 0 rfl) ?_
    refine lv_bipush (v := 32) hx hb dX8_kindAt_59 (by decide) ?_
    refine lv_icmp_ne (tgt := 68) hx hb dX8_kindAt_61 (by decide) (fun c1 => ?_) (fun c1 => ?_)
    · have h := ite_n c1 h
      refine lv_iconst (v := 0) hx hb dX8_kindAt_68 (by decide) ?_
      exact rt_i hq h I dX8_kindAt_69
    · have h := ite_t c1 h
      refine lv_iconst (v := 3) hx hb dX8_kindAt_64 (by decide) ?_
      refine lv_goto (tgt := 69) hx hb dX8_kindAt_65 (by decide) ?_
      exact rt_i hq h I dX8_kindAt_69
  have J_44 : ∀ (S : St) (x2 : Int32), f_X8_kindAt_44  S x2 = some (r, S1) → ∀ (H : Heap) (locs : List Loc) (ls : Array Slot), Iv D (xw cI cC cS ad) S A s H locs → lv_has ls 3 [(2, .int x2)] → W p l e ({ frames := 0, cells := 0, slots := 0, locals := 0 } : Room) s m args below meth c H locs 0 0 Q (F0 m 44 ls []) := by
    intro  S x2 h H locs ls I hl
    unfold f_X8_kindAt_44 at h
    refine lv_iload_n hx hb dX8_kindAt_44 rfl (lv_at hl 0 rfl) ?_
    refine lv_bipush (v := 48) hx hb dX8_kindAt_45 (by decide) ?_
    refine lv_icmp_lt (tgt := 58) hx hb dX8_kindAt_47 (by decide) (fun c2 => ?_) (fun c2 => ?_)
    · have h := ite_t c2 h
      exact J_58 _ _ h _ _ _ I (lv_sub hl [0] rfl)
    · have h := ite_n c2 h
      refine lv_iload_n hx hb dX8_kindAt_50 rfl (lv_at hl 0 rfl) ?_
      refine lv_bipush (v := 57) hx hb dX8_kindAt_51 (by decide) ?_
      refine lv_icmp_gt (tgt := 58) hx hb dX8_kindAt_53 (by decide) (fun c3 => ?_) (fun c3 => ?_)
      · have h := ite_t c3 h
        exact J_58 _ _ h _ _ _ I (lv_sub hl [0] rfl)
      · have h := ite_n c3 h
        refine lv_iconst (v := 2) hx hb dX8_kindAt_56 (by decide) ?_
        exact rt_i hq h I dX8_kindAt_57
  unfold f_X8_kindAt at h
  refine lv_iload_n hx hb dX8_kindAt_0 rfl (lv_at hl 1 rfl) ?_
  refine lv_if_lt (tgt := 21) hx hb dX8_kindAt_1 (by decide) (fun c4 => ?_) (fun c4 => ?_)
  · have h := ite_t c4 h
    refine lv_iconst (v := 0) hx hb dX8_kindAt_21 (by decide) ?_
    exact rt_i hq h I dX8_kindAt_22
  · have h := ite_n c4 h
    refine lv_iload_n hx hb dX8_kindAt_4 rfl (lv_at hl 1 rfl) ?_
    refine lv_aload_n hx hb dX8_kindAt_5 rfl (lv_at hl 0 rfl) ?_
    refine gx_1_1 C hK I fl_X8_15 dX8_kindAt_6 ?_
    refine lv_icmp_ge (tgt := 21) hx hb dX8_kindAt_9 (by decide) (fun c5 => ?_) (fun c5 => ?_)
    · have h := ite_t c5 h
      refine lv_iconst (v := 0) hx hb dX8_kindAt_21 (by decide) ?_
      exact rt_i hq h I dX8_kindAt_22
    · have h := ite_n c5 h
      refine lv_iload_n hx hb dX8_kindAt_12 rfl (lv_at hl 1 rfl) ?_
      refine lv_aload_n hx hb dX8_kindAt_13 rfl (lv_at hl 0 rfl) ?_
      refine gx_1_0 C hK I fl_X8_11 dX8_kindAt_14 ?_
      refine lx_A (q := 0) C hK I dX8_kindAt_17 ?_
      have := trivial
      refine lv_icmp_lt (tgt := 23) hx hb dX8_kindAt_18 (by decide) (fun c6 => ?_) (fun c6 => ?_)
      · have h := ite_t c6 h
        refine lv_aload_n hx hb dX8_kindAt_23 rfl (lv_at hl 0 rfl) ?_
        refine gx_1_0 C hK I fl_X8_11 dX8_kindAt_24 ?_
        refine lv_iload_n hx hb dX8_kindAt_27 rfl (lv_at hl 1 rfl) ?_
        obtain ⟨hv7, h⟩ := chk_ex h
        refine ax_A (q := 0) C hK I hv7 dX8_kindAt_28 ?_
        refine lv_topi (fun v8 ev8 => ?_)
        have h := bnd_at ev8 h
        clear ev8
        refine lv_istore_n (lv' := [(2, .int v8), (0, .ref (ad 1)), (1, .int x1)]) hx hb dX8_kindAt_29 rfl hl (by decide) rfl (fun ls hl => ?_)
        refine lv_iload_n hx hb dX8_kindAt_30 rfl (lv_at hl 0 rfl) ?_
        refine lv_bipush (v := 97) hx hb dX8_kindAt_31 (by decide) ?_
        refine lv_icmp_lt (tgt := 44) hx hb dX8_kindAt_33 (by decide) (fun c9 => ?_) (fun c9 => ?_)
        · have h := ite_t c9 h
          exact J_44 _ _ h _ _ _ I (lv_sub hl [0] rfl)
        · have h := ite_n c9 h
          refine lv_iload_n hx hb dX8_kindAt_36 rfl (lv_at hl 0 rfl) ?_
          refine lv_bipush (v := 122) hx hb dX8_kindAt_37 (by decide) ?_
          refine lv_icmp_gt (tgt := 44) hx hb dX8_kindAt_39 (by decide) (fun c10 => ?_) (fun c10 => ?_)
          · have h := ite_t c10 h
            exact J_44 _ _ h _ _ _ I (lv_sub hl [0] rfl)
          · have h := ite_n c10 h
            refine lv_iconst (v := 1) hx hb dX8_kindAt_42 (by decide) ?_
            exact rt_i hq h I dX8_kindAt_43
      · have h := ite_n c6 h
        refine lv_iconst (v := 0) hx hb dX8_kindAt_21 (by decide) ?_
        exact rt_i hq h I dX8_kindAt_22
theorem lk_X8_34 : Cond.methodLinkNest RX8 34 yX10_at "CarryUp" ∈ NN := nn_of 475 (by decide +kernel) rfl
theorem ms_X10_at : MS yX10_at cX10_at 2 (some .int) 2 := ⟨tt_of 477 (by decide +kernel) rfl, tt_of 476 (by decide +kernel) rfl, tt_of 65 (by decide +kernel) rfl, ⟨by decide +kernel, by decide +kernel, by decide +kernel⟩⟩
theorem lk_X8_19 : Cond.methodLinkNest RX8 19 yX10_within "CarryUp" ∈ NN := nn_of 417 (by decide +kernel) rfl
theorem dX8_things_0 : decode cX8_things 0 = .ok (.iconst 0, 1) := by decide +kernel
theorem dX8_things_1 : decode cX8_things 1 = .ok (.istore_n 3, 1) := by decide +kernel
theorem dX8_things_2 : decode cX8_things 2 = .ok (.iload_n 1, 1) := by decide +kernel
theorem dX8_things_3 : decode cX8_things 3 = .ok (.istore 4, 2) := by decide +kernel
theorem dX8_things_5 : decode cX8_things 5 = .ok (.iload 4, 2) := by decide +kernel
theorem dX8_things_7 : decode cX8_things 7 = .ok (.iload_n 2, 1) := by decide +kernel
theorem dX8_things_8 : decode cX8_things 8 = .ok (.if_icmp .ge 53, 3) := by decide +kernel
theorem dX8_things_11 : decode cX8_things 11 = .ok (.aload_n 0, 1) := by decide +kernel
theorem dX8_things_12 : decode cX8_things 12 = .ok (.getfield 11, 3) := by decide +kernel
theorem dX8_things_15 : decode cX8_things 15 = .ok (.iload 4, 2) := by decide +kernel
theorem dX8_things_17 : decode cX8_things 17 = .ok (.invokestatic 34, 3) := by decide +kernel
theorem dX8_things_20 : decode cX8_things 20 = .ok (.bipush 97, 2) := by decide +kernel
theorem dX8_things_22 : decode cX8_things 22 = .ok (.isub, 1) := by decide +kernel
theorem dX8_things_23 : decode cX8_things 23 = .ok (.istore 5, 2) := by decide +kernel
theorem dX8_things_25 : decode cX8_things 25 = .ok (.iload 5, 2) := by decide +kernel
theorem dX8_things_27 : decode cX8_things 27 = .ok (.iconst 0, 1) := by decide +kernel
theorem dX8_things_28 : decode cX8_things 28 = .ok (.bipush 7, 2) := by decide +kernel
theorem dX8_things_30 : decode cX8_things 30 = .ok (.invokestatic 19, 3) := by decide +kernel
theorem dX8_things_33 : decode cX8_things 33 = .ok (.ifCond .eq 13, 3) := by decide +kernel
theorem dX8_things_36 : decode cX8_things 36 = .ok (.iload_n 3, 1) := by decide +kernel
theorem dX8_things_37 : decode cX8_things 37 = .ok (.iload 5, 2) := by decide +kernel
theorem dX8_things_39 : decode cX8_things 39 = .ok (.ishr, 1) := by decide +kernel
theorem dX8_things_40 : decode cX8_things 40 = .ok (.iconst 1, 1) := by decide +kernel
theorem dX8_things_41 : decode cX8_things 41 = .ok (.iand, 1) := by decide +kernel
theorem dX8_things_42 : decode cX8_things 42 = .ok (.iconst 1, 1) := by decide +kernel
theorem dX8_things_43 : decode cX8_things 43 = .ok (.if_icmp .ne 5, 3) := by decide +kernel
theorem dX8_things_46 : decode cX8_things 46 = .ok (.iconst 0, 1) := by decide +kernel
theorem dX8_things_47 : decode cX8_things 47 = .ok (.ireturn, 1) := by decide +kernel
theorem dX8_things_48 : decode cX8_things 48 = .ok (.iload_n 3, 1) := by decide +kernel
theorem dX8_things_49 : decode cX8_things 49 = .ok (.iconst 1, 1) := by decide +kernel
theorem dX8_things_50 : decode cX8_things 50 = .ok (.iload 5, 2) := by decide +kernel
theorem dX8_things_52 : decode cX8_things 52 = .ok (.ishl, 1) := by decide +kernel
theorem dX8_things_53 : decode cX8_things 53 = .ok (.ior, 1) := by decide +kernel
theorem dX8_things_54 : decode cX8_things 54 = .ok (.istore_n 3, 1) := by decide +kernel
theorem dX8_things_55 : decode cX8_things 55 = .ok (.iinc 4 1, 3) := by decide +kernel
theorem dX8_things_58 : decode cX8_things 58 = .ok (.goto (-53), 3) := by decide +kernel
theorem dX8_things_61 : decode cX8_things 61 = .ok (.iload_n 3, 1) := by decide +kernel
theorem dX8_things_62 : decode cX8_things 62 = .ok (.ireturn, 1) := by decide +kernel
def f_X8_things_5 (k_5 : St → Int32 → Int32 → Int32 → Option (Int32 × St)) (S : St) (x2 : Int32) (x3 : Int32) (x4 : Int32) : Option (Int32 × St) :=
  if x2 ≤ x4 then (
    some (x3, S)
  ) else (
    obd2 (f_X10_at S 0 x4) fun r2 S2 =>
    bnd ((r2 - 97) : Int32) fun v3 =>
    obd2 (f_X10_within S2 v3 0 7) fun r4 S4 =>
    if r4 = 0 then (
      some (0, S4)
    ) else (
      if ((x3 >>> (v3 &&& 31)) &&& 1) = 1 then (
        some (0, S4)
      ) else (
        bnd ((x3 ||| ((1 : Int32) <<< (v3 &&& 31))) : Int32) fun v7 =>
        bnd (x4 + 1 : Int32) fun v8 =>
        k_5 S4 x2 v7 v8
      )
    )
  )
def l_X8_things_5 : Nat → St → Int32 → Int32 → Int32 → Option (Int32 × St)
  | 0, _, _, _, _ => none
  | fu + 1, S, x2, x3, x4 => f_X8_things_5 (l_X8_things_5 fu) S x2 x3 x4
def f_X8_things (S : St) (x1 : Int32) (x2 : Int32) : Option (Int32 × St) :=
  l_X8_things_5 FU S x2 0 x1
set_option maxHeartbeats 4000000 in
set_option maxRecDepth 100000 in
theorem c_X8_things {l : Launch} {D : va_G} {cI cC cS : ClassId} {ad adK adV : Nat → Nat} {S S1 : St} {x1 : Int32} {x2 : Int32} {r : Int32} (h : f_X8_things S x1 x2 = some (r, S1)) : Kt l D (xw cI cC cS ad) (KX D (xtys cI cC cS) adK adV) yX8_things cX8_things 6 (some .int) (1) (22) [.ref (ad 1), .int x1, .int x2] S (some (.int r)) S1 := by
  refine k_ent (ins := .ireturn) (st := [.int r]) (by decide +kernel) (Nat.le_of_ble_eq_true rfl) ret_i ?_
  intro p e s m args below meth c A Q C hK I hA hq ls hl
  have C : CallFix p m c cX8_things 6 s args TT RX8 := C
  have hx := C.1
  have hb := C.2.1
  have kx := kx_ok D (xtys cI cC cS) adK adV
  have hl : lv_has ls 6 [(0, .ref (ad 1)), (1, .int x1), (2, .int x2)] := hl
  have B_5 : ∀ (k_5 : St → Int32 → Int32 → Int32 → Option (Int32 × St)) (hk_5 : ∀ (S : St) (x2 : Int32) (x3 : Int32) (x4 : Int32), k_5 S x2 x3 x4 = some (r, S1) → ∀ (H : Heap) (locs : List Loc) (ls : Array Slot), Iv D (xw cI cC cS ad) S A s H locs → lv_has ls 6 [(0, .ref (ad 1)), (2, .int x2), (3, .int x3), (4, .int x4)] → W p l e ({ frames := 1, cells := 0, slots := 0, locals := 22 } : Room) s m args below meth c H locs 0 0 Q (F0 m 5 ls [])) (S : St) (x2 : Int32) (x3 : Int32) (x4 : Int32), f_X8_things_5 k_5 S x2 x3 x4 = some (r, S1) → ∀ (H : Heap) (locs : List Loc) (ls : Array Slot), Iv D (xw cI cC cS ad) S A s H locs → lv_has ls 6 [(0, .ref (ad 1)), (2, .int x2), (3, .int x3), (4, .int x4)] → W p l e ({ frames := 1, cells := 0, slots := 0, locals := 22 } : Room) s m args below meth c H locs 0 0 Q (F0 m 5 ls []) := by
    intro k_5 hk_5 S x2 x3 x4 h H locs ls I hl
    unfold f_X8_things_5 at h
    refine lv_iload hx hb dX8_things_5 (lv_at hl 3 rfl) ?_
    refine lv_iload_n hx hb dX8_things_7 rfl (lv_at hl 1 rfl) ?_
    refine lv_icmp_ge (tgt := 61) hx hb dX8_things_8 (by decide) (fun c1 => ?_) (fun c1 => ?_)
    · have h := ite_t c1 h
      refine lv_iload_n hx hb dX8_things_61 rfl (lv_at hl 2 rfl) ?_
      exact rt_i hq h I dX8_things_62
    · have h := ite_n c1 h
      refine lv_aload_n hx hb dX8_things_11 rfl (lv_at hl 0 rfl) ?_
      refine gx_1_0 C hK I fl_X8_11 dX8_things_12 ?_
      refine lv_iload hx hb dX8_things_15 (lv_at hl 3 rfl) ?_
      obtain ⟨r2, S2, e2, h⟩ := obd2_ex h
      refine k_SN (As := [.ref (ad 11), .int x4]) (rest := []) (st1 := [.int r2]) C kx hK I hA (c_X10_at e2) ⟨Nat.le_of_ble_eq_true rfl, Nat.le_of_ble_eq_true rfl⟩ ms_X10_at lk_X8_34 rfl hl.1 rfl (Nat.le_of_ble_eq_true rfl) dX8_things_17 rfl (fun H locs I => ?_)
      refine lv_bipush (v := 97) hx hb dX8_things_20 (by decide) ?_
      refine lv_isub hx hb dX8_things_22 ?_
      refine lv_topi (fun v3 ev3 => ?_)
      have h := bnd_at ev3 h
      clear ev3
      refine lv_istore (lv' := [(5, .int v3), (0, .ref (ad 1)), (2, .int x2), (3, .int x3), (4, .int x4)]) hx hb dX8_things_23 hl (by decide) rfl (fun ls hl => ?_)
      refine lv_iload hx hb dX8_things_25 (lv_at hl 0 rfl) ?_
      refine lv_iconst (v := 0) hx hb dX8_things_27 (by decide) ?_
      refine lv_bipush (v := 7) hx hb dX8_things_28 (by decide) ?_
      obtain ⟨r4, S4, e4, h⟩ := obd2_ex h
      refine k_SN (As := [.int v3, .int 0, .int 7]) (rest := []) (st1 := [.int r4]) C kx hK I hA (c_X10_within e4) ⟨Nat.le_of_ble_eq_true rfl, Nat.le_of_ble_eq_true rfl⟩ ms_X10_within lk_X8_19 rfl hl.1 rfl (Nat.le_of_ble_eq_true rfl) dX8_things_30 rfl (fun H locs I => ?_)
      refine lv_if_eq (tgt := 46) hx hb dX8_things_33 (by decide) (fun c5 => ?_) (fun c5 => ?_)
      · have h := ite_t c5 h
        refine lv_iconst (v := 0) hx hb dX8_things_46 (by decide) ?_
        exact rt_i hq h I dX8_things_47
      · have h := ite_n c5 h
        refine lv_iload_n hx hb dX8_things_36 rfl (lv_at hl 3 rfl) ?_
        refine lv_iload hx hb dX8_things_37 (lv_at hl 0 rfl) ?_
        refine lv_ishr hx hb dX8_things_39 ?_
        refine lv_iconst (v := 1) hx hb dX8_things_40 (by decide) ?_
        refine lv_iand hx hb dX8_things_41 ?_
        refine lv_iconst (v := 1) hx hb dX8_things_42 (by decide) ?_
        refine lv_icmp_ne (tgt := 48) hx hb dX8_things_43 (by decide) (fun c6 => ?_) (fun c6 => ?_)
        · have h := ite_n c6 h
          refine lv_iload_n hx hb dX8_things_48 rfl (lv_at hl 3 rfl) ?_
          refine lv_iconst (v := 1) hx hb dX8_things_49 (by decide) ?_
          refine lv_iload hx hb dX8_things_50 (lv_at hl 0 rfl) ?_
          refine lv_ishl hx hb dX8_things_52 ?_
          refine lv_ior hx hb dX8_things_53 ?_
          refine lv_topi (fun v7 ev7 => ?_)
          have h := bnd_at ev7 h
          clear ev7
          refine lv_istore_n (lv' := [(3, .int v7), (5, .int v3), (0, .ref (ad 1)), (2, .int x2), (4, .int x4)]) hx hb dX8_things_54 rfl hl (by decide) rfl (fun ls hl => ?_)
          obtain ⟨v8, ev8⟩ : ∃ y : Int32, y = x4 + 1 := ⟨_, rfl⟩
          have h := bnd_at ev8 h
          refine lv_iinc (v := v8) (lv' := [(4, .int v8), (3, .int v7), (5, .int v3), (0, .ref (ad 1)), (2, .int x2)]) hx hb dX8_things_55 hl (k := 4) rfl (by rw [ev8]; rfl) (by decide) rfl (fun ls hl => ?_)
          clear ev8
          refine lv_goto (tgt := 5) hx hb dX8_things_58 (by decide) ?_
          exact hk_5 _ _ _ _ h _ _ _ I (lv_sub hl [3, 4, 1, 0] rfl)
        · have h := ite_t c6 h
          refine lv_iconst (v := 0) hx hb dX8_things_46 (by decide) ?_
          exact rt_i hq h I dX8_things_47
  have J_5 : ∀ (fu : Nat) (S : St) (x2 : Int32) (x3 : Int32) (x4 : Int32), l_X8_things_5  fu S x2 x3 x4 = some (r, S1) → ∀ (H : Heap) (locs : List Loc) (ls : Array Slot), Iv D (xw cI cC cS ad) S A s H locs → lv_has ls 6 [(0, .ref (ad 1)), (2, .int x2), (3, .int x3), (4, .int x4)] → W p l e ({ frames := 1, cells := 0, slots := 0, locals := 22 } : Room) s m args below meth c H locs 0 0 Q (F0 m 5 ls []) := by
    intro fu
    induction fu with
    | zero => intro S x2 x3 x4 h; cases h
    | succ fu ih => intro S x2 x3 x4 h; exact B_5 (l_X8_things_5 fu) ih S x2 x3 x4 h
  unfold f_X8_things at h
  refine lv_iconst (v := 0) hx hb dX8_things_0 (by decide) ?_
  refine lv_istore_n (lv' := [(3, .int 0), (0, .ref (ad 1)), (1, .int x1), (2, .int x2)]) hx hb dX8_things_1 rfl hl (by decide) rfl (fun ls hl => ?_)
  refine lv_iload_n hx hb dX8_things_2 rfl (lv_at hl 2 rfl) ?_
  refine lv_istore (lv' := [(4, .int x1), (3, .int 0), (0, .ref (ad 1)), (1, .int x1), (2, .int x2)]) hx hb dX8_things_3 hl (by decide) rfl (fun ls hl => ?_)
  exact J_5 _ _ _ _ _ h _ _ _ I (lv_sub hl [2, 4, 1, 0] rfl)
theorem lk_X8_42 : Cond.methodLink RX8 42 yX8_kindAt ∈ TT := tt_of 546 (by decide +kernel) rfl
theorem mv_X8_kindAt : MV yX8_kindAt cX8_kindAt 3 (some .int) 1 := ⟨tt_of 452 (by decide +kernel) rfl, tt_of 450 (by decide +kernel) rfl, tt_of 451 (by decide +kernel) rfl, tt_of 66 (by decide +kernel) rfl, ⟨by decide +kernel, by decide +kernel, by decide +kernel⟩⟩
theorem dX8_number_0 : decode cX8_number 0 = .ok (.aload_n 0, 1) := by decide +kernel
theorem dX8_number_1 : decode cX8_number 1 = .ok (.iload_n 1, 1) := by decide +kernel
theorem dX8_number_2 : decode cX8_number 2 = .ok (.invokevirtual 42, 3) := by decide +kernel
theorem dX8_number_5 : decode cX8_number 5 = .ok (.iconst 2, 1) := by decide +kernel
theorem dX8_number_6 : decode cX8_number 6 = .ok (.if_icmp .ne 10, 3) := by decide +kernel
theorem dX8_number_9 : decode cX8_number 9 = .ok (.iload_n 2, 1) := by decide +kernel
theorem dX8_number_10 : decode cX8_number 10 = .ok (.iload_n 1, 1) := by decide +kernel
theorem dX8_number_11 : decode cX8_number 11 = .ok (.isub, 1) := by decide +kernel
theorem dX8_number_12 : decode cX8_number 12 = .ok (.iconst 4, 1) := by decide +kernel
theorem dX8_number_13 : decode cX8_number 13 = .ok (.if_icmp .le 5, 3) := by decide +kernel
theorem dX8_number_16 : decode cX8_number 16 = .ok (.iconst (-1), 1) := by decide +kernel
theorem dX8_number_17 : decode cX8_number 17 = .ok (.ireturn, 1) := by decide +kernel
theorem dX8_number_18 : decode cX8_number 18 = .ok (.iconst 0, 1) := by decide +kernel
theorem dX8_number_19 : decode cX8_number 19 = .ok (.istore_n 3, 1) := by decide +kernel
theorem dX8_number_20 : decode cX8_number 20 = .ok (.iload_n 1, 1) := by decide +kernel
theorem dX8_number_21 : decode cX8_number 21 = .ok (.istore 4, 2) := by decide +kernel
theorem dX8_number_23 : decode cX8_number 23 = .ok (.iload 4, 2) := by decide +kernel
theorem dX8_number_25 : decode cX8_number 25 = .ok (.iload_n 2, 1) := by decide +kernel
theorem dX8_number_26 : decode cX8_number 26 = .ok (.if_icmp .ge 27, 3) := by decide +kernel
theorem dX8_number_29 : decode cX8_number 29 = .ok (.iload_n 3, 1) := by decide +kernel
theorem dX8_number_30 : decode cX8_number 30 = .ok (.bipush 10, 2) := by decide +kernel
theorem dX8_number_32 : decode cX8_number 32 = .ok (.imul, 1) := by decide +kernel
theorem dX8_number_33 : decode cX8_number 33 = .ok (.aload_n 0, 1) := by decide +kernel
theorem dX8_number_34 : decode cX8_number 34 = .ok (.getfield 11, 3) := by decide +kernel
theorem dX8_number_37 : decode cX8_number 37 = .ok (.iload 4, 2) := by decide +kernel
theorem dX8_number_39 : decode cX8_number 39 = .ok (.invokestatic 34, 3) := by decide +kernel
theorem dX8_number_42 : decode cX8_number 42 = .ok (.iadd, 1) := by decide +kernel
theorem dX8_number_43 : decode cX8_number 43 = .ok (.bipush 48, 2) := by decide +kernel
theorem dX8_number_45 : decode cX8_number 45 = .ok (.isub, 1) := by decide +kernel
theorem dX8_number_46 : decode cX8_number 46 = .ok (.istore_n 3, 1) := by decide +kernel
theorem dX8_number_47 : decode cX8_number 47 = .ok (.iinc 4 1, 3) := by decide +kernel
theorem dX8_number_50 : decode cX8_number 50 = .ok (.goto (-27), 3) := by decide +kernel
theorem dX8_number_53 : decode cX8_number 53 = .ok (.iload_n 3, 1) := by decide +kernel
theorem dX8_number_54 : decode cX8_number 54 = .ok (.ireturn, 1) := by decide +kernel
def f_X8_number_23 (k_23 : St → Int32 → Int32 → Int32 → Option (Int32 × St)) (S : St) (x2 : Int32) (x3 : Int32) (x4 : Int32) : Option (Int32 × St) :=
  if x2 ≤ x4 then (
    some (x3, S)
  ) else (
    obd2 (f_X10_at S 0 x4) fun r2 S2 =>
    bnd ((((x3 * 10) + r2) - 48) : Int32) fun v3 =>
    bnd (x4 + 1 : Int32) fun v4 =>
    k_23 S2 x2 v3 v4
  )
def l_X8_number_23 : Nat → St → Int32 → Int32 → Int32 → Option (Int32 × St)
  | 0, _, _, _, _ => none
  | fu + 1, S, x2, x3, x4 => f_X8_number_23 (l_X8_number_23 fu) S x2 x3 x4
def f_X8_number (S : St) (x1 : Int32) (x2 : Int32) : Option (Int32 × St) :=
  obd2 (f_X8_kindAt S x1) fun r5 S5 =>
  if r5 = 2 then (
    if (x2 - x1) ≤ 4 then (
      l_X8_number_23 FU S5 x2 0 x1
    ) else (
      some ((-1), S5)
    )
  ) else (
    some ((-1), S5)
  )
set_option maxHeartbeats 4000000 in
set_option maxRecDepth 100000 in
theorem c_X8_number {l : Launch} {D : va_G} {cI cC cS : ClassId} {ad adK adV : Nat → Nat} {S S1 : St} {x1 : Int32} {x2 : Int32} {r : Int32} (h : f_X8_number S x1 x2 = some (r, S1)) : Kt l D (xw cI cC cS ad) (KX D (xtys cI cC cS) adK adV) yX8_number cX8_number 5 (some .int) (1) (22) [.ref (ad 1), .int x1, .int x2] S (some (.int r)) S1 := by
  refine k_ent (ins := .ireturn) (st := [.int r]) (by decide +kernel) (Nat.le_of_ble_eq_true rfl) ret_i ?_
  intro p e s m args below meth c A Q C hK I hA hq ls hl
  have C : CallFix p m c cX8_number 5 s args TT RX8 := C
  have hx := C.1
  have hb := C.2.1
  have kx := kx_ok D (xtys cI cC cS) adK adV
  have hl : lv_has ls 5 [(0, .ref (ad 1)), (1, .int x1), (2, .int x2)] := hl
  have B_23 : ∀ (k_23 : St → Int32 → Int32 → Int32 → Option (Int32 × St)) (hk_23 : ∀ (S : St) (x2 : Int32) (x3 : Int32) (x4 : Int32), k_23 S x2 x3 x4 = some (r, S1) → ∀ (H : Heap) (locs : List Loc) (ls : Array Slot), Iv D (xw cI cC cS ad) S A s H locs → lv_has ls 5 [(0, .ref (ad 1)), (2, .int x2), (3, .int x3), (4, .int x4)] → W p l e ({ frames := 1, cells := 0, slots := 0, locals := 22 } : Room) s m args below meth c H locs 0 0 Q (F0 m 23 ls [])) (S : St) (x2 : Int32) (x3 : Int32) (x4 : Int32), f_X8_number_23 k_23 S x2 x3 x4 = some (r, S1) → ∀ (H : Heap) (locs : List Loc) (ls : Array Slot), Iv D (xw cI cC cS ad) S A s H locs → lv_has ls 5 [(0, .ref (ad 1)), (2, .int x2), (3, .int x3), (4, .int x4)] → W p l e ({ frames := 1, cells := 0, slots := 0, locals := 22 } : Room) s m args below meth c H locs 0 0 Q (F0 m 23 ls []) := by
    intro k_23 hk_23 S x2 x3 x4 h H locs ls I hl
    unfold f_X8_number_23 at h
    refine lv_iload hx hb dX8_number_23 (lv_at hl 3 rfl) ?_
    refine lv_iload_n hx hb dX8_number_25 rfl (lv_at hl 1 rfl) ?_
    refine lv_icmp_ge (tgt := 53) hx hb dX8_number_26 (by decide) (fun c1 => ?_) (fun c1 => ?_)
    · have h := ite_t c1 h
      refine lv_iload_n hx hb dX8_number_53 rfl (lv_at hl 2 rfl) ?_
      exact rt_i hq h I dX8_number_54
    · have h := ite_n c1 h
      refine lv_iload_n hx hb dX8_number_29 rfl (lv_at hl 2 rfl) ?_
      refine lv_bipush (v := 10) hx hb dX8_number_30 (by decide) ?_
      refine lv_imul hx hb dX8_number_32 ?_
      refine lv_aload_n hx hb dX8_number_33 rfl (lv_at hl 0 rfl) ?_
      refine gx_1_0 C hK I fl_X8_11 dX8_number_34 ?_
      refine lv_iload hx hb dX8_number_37 (lv_at hl 3 rfl) ?_
      obtain ⟨r2, S2, e2, h⟩ := obd2_ex h
      refine k_SN (As := [.ref (ad 11), .int x4]) (rest := [.int (x3 * 10)]) (st1 := [.int r2, .int (x3 * 10)]) C kx hK I hA (c_X10_at e2) ⟨Nat.le_of_ble_eq_true rfl, Nat.le_of_ble_eq_true rfl⟩ ms_X10_at lk_X8_34 rfl hl.1 rfl (Nat.le_of_ble_eq_true rfl) dX8_number_39 rfl (fun H locs I => ?_)
      refine lv_iadd hx hb dX8_number_42 ?_
      refine lv_bipush (v := 48) hx hb dX8_number_43 (by decide) ?_
      refine lv_isub hx hb dX8_number_45 ?_
      refine lv_topi (fun v3 ev3 => ?_)
      have h := bnd_at ev3 h
      clear ev3
      refine lv_istore_n (lv' := [(3, .int v3), (0, .ref (ad 1)), (2, .int x2), (4, .int x4)]) hx hb dX8_number_46 rfl hl (by decide) rfl (fun ls hl => ?_)
      obtain ⟨v4, ev4⟩ : ∃ y : Int32, y = x4 + 1 := ⟨_, rfl⟩
      have h := bnd_at ev4 h
      refine lv_iinc (v := v4) (lv' := [(4, .int v4), (3, .int v3), (0, .ref (ad 1)), (2, .int x2)]) hx hb dX8_number_47 hl (k := 3) rfl (by rw [ev4]; rfl) (by decide) rfl (fun ls hl => ?_)
      clear ev4
      refine lv_goto (tgt := 23) hx hb dX8_number_50 (by decide) ?_
      exact hk_23 _ _ _ _ h _ _ _ I (lv_sub hl [2, 3, 1, 0] rfl)
  have J_23 : ∀ (fu : Nat) (S : St) (x2 : Int32) (x3 : Int32) (x4 : Int32), l_X8_number_23  fu S x2 x3 x4 = some (r, S1) → ∀ (H : Heap) (locs : List Loc) (ls : Array Slot), Iv D (xw cI cC cS ad) S A s H locs → lv_has ls 5 [(0, .ref (ad 1)), (2, .int x2), (3, .int x3), (4, .int x4)] → W p l e ({ frames := 1, cells := 0, slots := 0, locals := 22 } : Room) s m args below meth c H locs 0 0 Q (F0 m 23 ls []) := by
    intro fu
    induction fu with
    | zero => intro S x2 x3 x4 h; cases h
    | succ fu ih => intro S x2 x3 x4 h; exact B_23 (l_X8_number_23 fu) ih S x2 x3 x4 h
  unfold f_X8_number at h
  refine lv_aload_n hx hb dX8_number_0 rfl (lv_at hl 0 rfl) ?_
  refine lv_iload_n hx hb dX8_number_1 rfl (lv_at hl 1 rfl) ?_
  obtain ⟨r5, S5, e5, h⟩ := obd2_ex h
  refine k_V (As := [.int x1]) (rest := []) (st1 := [.int r5]) C kx hK I hA (c_X8_kindAt e5) ⟨Nat.le_of_ble_eq_true rfl, Nat.le_of_ble_eq_true rfl⟩ mv_X8_kindAt lk_X8_42 1 8 (xw_1 (cI := cI) (ad := ad) (cC := cC) (cS := cS)) rfl rfl hl.1 rfl (Nat.le_of_ble_eq_true rfl) dX8_number_2 rfl (fun H locs I => ?_)
  refine lv_iconst (v := 2) hx hb dX8_number_5 (by decide) ?_
  refine lv_icmp_ne (tgt := 16) hx hb dX8_number_6 (by decide) (fun c6 => ?_) (fun c6 => ?_)
  · have h := ite_n c6 h
    refine lv_iconst (v := (-1)) hx hb dX8_number_16 (by decide) ?_
    exact rt_i hq h I dX8_number_17
  · have h := ite_t c6 h
    refine lv_iload_n hx hb dX8_number_9 rfl (lv_at hl 2 rfl) ?_
    refine lv_iload_n hx hb dX8_number_10 rfl (lv_at hl 1 rfl) ?_
    refine lv_isub hx hb dX8_number_11 ?_
    refine lv_iconst (v := 4) hx hb dX8_number_12 (by decide) ?_
    refine lv_icmp_le (tgt := 18) hx hb dX8_number_13 (by decide) (fun c7 => ?_) (fun c7 => ?_)
    · have h := ite_t c7 h
      refine lv_iconst (v := 0) hx hb dX8_number_18 (by decide) ?_
      refine lv_istore_n (lv' := [(3, .int 0), (0, .ref (ad 1)), (1, .int x1), (2, .int x2)]) hx hb dX8_number_19 rfl hl (by decide) rfl (fun ls hl => ?_)
      refine lv_iload_n hx hb dX8_number_20 rfl (lv_at hl 2 rfl) ?_
      refine lv_istore (lv' := [(4, .int x1), (3, .int 0), (0, .ref (ad 1)), (1, .int x1), (2, .int x2)]) hx hb dX8_number_21 hl (by decide) rfl (fun ls hl => ?_)
      exact J_23 _ _ _ _ _ h _ _ _ I (lv_sub hl [2, 4, 1, 0] rfl)
    · have h := ite_n c7 h
      refine lv_iconst (v := (-1)) hx hb dX8_number_16 (by decide) ?_
      exact rt_i hq h I dX8_number_17
theorem dX8_clear_0 : decode cX8_clear 0 = .ok (.aload_n 0, 1) := by decide +kernel
theorem dX8_clear_1 : decode cX8_clear 1 = .ok (.iconst 0, 1) := by decide +kernel
theorem dX8_clear_2 : decode cX8_clear 2 = .ok (.putfield 15, 3) := by decide +kernel
theorem dX8_clear_5 : decode cX8_clear 5 = .ok (.return_, 1) := by decide +kernel
def f_X8_clear (S : St)  : Option St :=
  bnd (setI S 1 1 0) fun S1 =>
  some S1
set_option maxHeartbeats 4000000 in
set_option maxRecDepth 100000 in
theorem c_X8_clear {l : Launch} {D : va_G} {cI cC cS : ClassId} {ad adK adV : Nat → Nat} {S S1 : St}  (h : f_X8_clear S  = some S1) : Kt l D (xw cI cC cS ad) (KX D (xtys cI cC cS) adK adV) yX8_clear cX8_clear 1 none (0) (0) [.ref (ad 1)] S (none) S1 := by
  refine k_ent (ins := .return_) (st := []) (by decide +kernel) (Nat.le_of_ble_eq_true rfl) ret_v ?_
  intro p e s m args below meth c A Q C hK I hA hq ls hl
  have C : CallFix p m c cX8_clear 1 s args TT RX8 := C
  have hx := C.1
  have hb := C.2.1
  have kx := kx_ok D (xtys cI cC cS) adK adV
  have hl : lv_has ls 1 [(0, .ref (ad 1))] := hl
  unfold f_X8_clear at h
  refine lv_aload_n hx hb dX8_clear_0 rfl (lv_at hl 0 rfl) ?_
  refine lv_iconst (v := 0) hx hb dX8_clear_1 (by decide) ?_
  refine px_1_1 C hK I fl_X8_15 dX8_clear_2 (fun S1 eS1 H locs I => ?_)
  have h := bnd_at eS1 h
  clear eS1
  exact rt_v hq h I dX8_clear_5
theorem cn_X8_23 : Cond.constantLong RX8 23 ((255)) ∈ TT := tt_of 420 (by decide +kernel) rfl
theorem lk_X8_25 : Cond.methodLinkNest RX8 25 yX10_put "CarryUp" ∈ NN := nn_of 421 (by decide +kernel) rfl
theorem ms_X10_put : MS yX10_put cX10_put 3 none 3 := ⟨tt_of 423 (by decide +kernel) rfl, tt_of 422 (by decide +kernel) rfl, tt_of 65 (by decide +kernel) rfl, ⟨by decide +kernel, by decide +kernel, by decide +kernel⟩⟩
theorem dX8_add_0 : decode cX8_add 0 = .ok (.iload_n 3, 1) := by decide +kernel
theorem dX8_add_1 : decode cX8_add 1 = .ok (.iconst 1, 1) := by decide +kernel
theorem dX8_add_2 : decode cX8_add 2 = .ok (.bipush 8, 2) := by decide +kernel
theorem dX8_add_4 : decode cX8_add 4 = .ok (.invokestatic 19, 3) := by decide +kernel
theorem dX8_add_7 : decode cX8_add 7 = .ok (.ifCond .ne 6, 3) := by decide +kernel
theorem dX8_add_10 : decode cX8_add 10 = .ok (.bipush (-3), 2) := by decide +kernel
theorem dX8_add_12 : decode cX8_add 12 = .ok (.ireturn, 1) := by decide +kernel
theorem dX8_add_13 : decode cX8_add 13 = .ok (.aload_n 0, 1) := by decide +kernel
theorem dX8_add_14 : decode cX8_add 14 = .ok (.getfield 15, 3) := by decide +kernel
theorem dX8_add_17 : decode cX8_add 17 = .ok (.iload_n 3, 1) := by decide +kernel
theorem dX8_add_18 : decode cX8_add 18 = .ok (.iadd, 1) := by decide +kernel
theorem dX8_add_19 : decode cX8_add 19 = .ok (.sipush 200, 3) := by decide +kernel
theorem dX8_add_22 : decode cX8_add 22 = .ok (.if_icmp .le 6, 3) := by decide +kernel
theorem dX8_add_25 : decode cX8_add 25 = .ok (.bipush (-5), 2) := by decide +kernel
theorem dX8_add_27 : decode cX8_add 27 = .ok (.ireturn, 1) := by decide +kernel
theorem dX8_add_28 : decode cX8_add 28 = .ok (.iconst 0, 1) := by decide +kernel
theorem dX8_add_29 : decode cX8_add 29 = .ok (.istore 4, 2) := by decide +kernel
theorem dX8_add_31 : decode cX8_add 31 = .ok (.iload 4, 2) := by decide +kernel
theorem dX8_add_33 : decode cX8_add 33 = .ok (.iload_n 3, 1) := by decide +kernel
theorem dX8_add_34 : decode cX8_add 34 = .ok (.if_icmp .ge 35, 3) := by decide +kernel
theorem dX8_add_37 : decode cX8_add 37 = .ok (.aload_n 0, 1) := by decide +kernel
theorem dX8_add_38 : decode cX8_add 38 = .ok (.getfield 11, 3) := by decide +kernel
theorem dX8_add_41 : decode cX8_add 41 = .ok (.aload_n 0, 1) := by decide +kernel
theorem dX8_add_42 : decode cX8_add 42 = .ok (.getfield 15, 3) := by decide +kernel
theorem dX8_add_45 : decode cX8_add 45 = .ok (.iload 4, 2) := by decide +kernel
theorem dX8_add_47 : decode cX8_add 47 = .ok (.iadd, 1) := by decide +kernel
theorem dX8_add_48 : decode cX8_add 48 = .ok (.lload_n 1, 1) := by decide +kernel
theorem dX8_add_49 : decode cX8_add 49 = .ok (.bipush 8, 2) := by decide +kernel
theorem dX8_add_51 : decode cX8_add 51 = .ok (.iload 4, 2) := by decide +kernel
theorem dX8_add_53 : decode cX8_add 53 = .ok (.imul, 1) := by decide +kernel
theorem dX8_add_54 : decode cX8_add 54 = .ok (.lshr, 1) := by decide +kernel
theorem dX8_add_55 : decode cX8_add 55 = .ok (.ldc2_w 23, 3) := by decide +kernel
theorem dX8_add_58 : decode cX8_add 58 = .ok (.land, 1) := by decide +kernel
theorem dX8_add_59 : decode cX8_add 59 = .ok (.l2i, 1) := by decide +kernel
theorem dX8_add_60 : decode cX8_add 60 = .ok (.invokestatic 25, 3) := by decide +kernel
theorem dX8_add_63 : decode cX8_add 63 = .ok (.iinc 4 1, 3) := by decide +kernel
theorem dX8_add_66 : decode cX8_add 66 = .ok (.goto (-35), 3) := by decide +kernel
theorem dX8_add_69 : decode cX8_add 69 = .ok (.aload_n 0, 1) := by decide +kernel
theorem dX8_add_70 : decode cX8_add 70 = .ok (.dup, 1) := by decide +kernel
theorem dX8_add_71 : decode cX8_add 71 = .ok (.getfield 15, 3) := by decide +kernel
theorem dX8_add_74 : decode cX8_add 74 = .ok (.iload_n 3, 1) := by decide +kernel
theorem dX8_add_75 : decode cX8_add 75 = .ok (.iadd, 1) := by decide +kernel
theorem dX8_add_76 : decode cX8_add 76 = .ok (.putfield 15, 3) := by decide +kernel
theorem dX8_add_79 : decode cX8_add 79 = .ok (.aload_n 0, 1) := by decide +kernel
theorem dX8_add_80 : decode cX8_add 80 = .ok (.getfield 15, 3) := by decide +kernel
theorem dX8_add_83 : decode cX8_add 83 = .ok (.ireturn, 1) := by decide +kernel
def f_X8_add_31 (k_31 : St → Int64 → Int32 → Int32 → Option (Int32 × St)) (S : St) (x1 : Int64) (x3 : Int32) (x4 : Int32) : Option (Int32 × St) :=
  if x3 ≤ x4 then (
    bnd (setI S 1 1 ((S.1 1 1) + x3)) fun S2 =>
    some ((S2.1 1 1), S2)
  ) else (
    obd (f_X10_put S 0 ((S.1 1 1) + x4) (((x1 >>> (((8 * x4) : Int32).toInt64 &&& 63)) &&& (255)).toInt32)) fun S3 =>
    bnd (x4 + 1 : Int32) fun v4 =>
    k_31 S3 x1 x3 v4
  )
def l_X8_add_31 : Nat → St → Int64 → Int32 → Int32 → Option (Int32 × St)
  | 0, _, _, _, _ => none
  | fu + 1, S, x1, x3, x4 => f_X8_add_31 (l_X8_add_31 fu) S x1 x3 x4
def f_X8_add (S : St) (x1 : Int64) (x3 : Int32) : Option (Int32 × St) :=
  obd2 (f_X10_within S x3 1 8) fun r5 S5 =>
  if r5 = 0 then (
    some ((-3), S5)
  ) else (
    if ((S5.1 1 1) + x3) ≤ 200 then (
      l_X8_add_31 FU S5 x1 x3 0
    ) else (
      some ((-5), S5)
    )
  )
set_option maxHeartbeats 4000000 in
set_option maxRecDepth 100000 in
theorem c_X8_add {l : Launch} {D : va_G} {cI cC cS : ClassId} {ad adK adV : Nat → Nat} {S S1 : St} {x1 : Int64} {x3 : Int32} {r : Int32} (h : f_X8_add S x1 x3 = some (r, S1)) : Kt l D (xw cI cC cS ad) (KX D (xtys cI cC cS) adK adV) yX8_add cX8_add 5 (some .int) (1) (22) [.ref (ad 1), .long x1, .int x3] S (some (.int r)) S1 := by
  refine k_ent (ins := .ireturn) (st := [.int r]) (by decide +kernel) (Nat.le_of_ble_eq_true rfl) ret_i ?_
  intro p e s m args below meth c A Q C hK I hA hq ls hl
  have C : CallFix p m c cX8_add 5 s args TT RX8 := C
  have hx := C.1
  have hb := C.2.1
  have kx := kx_ok D (xtys cI cC cS) adK adV
  have hl : lv_has ls 5 [(0, .ref (ad 1)), (1, .long x1), (3, .int x3)] := hl
  have B_31 : ∀ (k_31 : St → Int64 → Int32 → Int32 → Option (Int32 × St)) (hk_31 : ∀ (S : St) (x1 : Int64) (x3 : Int32) (x4 : Int32), k_31 S x1 x3 x4 = some (r, S1) → ∀ (H : Heap) (locs : List Loc) (ls : Array Slot), Iv D (xw cI cC cS ad) S A s H locs → lv_has ls 5 [(0, .ref (ad 1)), (1, .long x1), (3, .int x3), (4, .int x4)] → W p l e ({ frames := 1, cells := 0, slots := 0, locals := 22 } : Room) s m args below meth c H locs 0 0 Q (F0 m 31 ls [])) (S : St) (x1 : Int64) (x3 : Int32) (x4 : Int32), f_X8_add_31 k_31 S x1 x3 x4 = some (r, S1) → ∀ (H : Heap) (locs : List Loc) (ls : Array Slot), Iv D (xw cI cC cS ad) S A s H locs → lv_has ls 5 [(0, .ref (ad 1)), (1, .long x1), (3, .int x3), (4, .int x4)] → W p l e ({ frames := 1, cells := 0, slots := 0, locals := 22 } : Room) s m args below meth c H locs 0 0 Q (F0 m 31 ls []) := by
    intro k_31 hk_31 S x1 x3 x4 h H locs ls I hl
    unfold f_X8_add_31 at h
    refine lv_iload hx hb dX8_add_31 (lv_at hl 3 rfl) ?_
    refine lv_iload_n hx hb dX8_add_33 rfl (lv_at hl 2 rfl) ?_
    refine lv_icmp_ge (tgt := 69) hx hb dX8_add_34 (by decide) (fun c1 => ?_) (fun c1 => ?_)
    · have h := ite_t c1 h
      refine lv_aload_n hx hb dX8_add_69 rfl (lv_at hl 0 rfl) ?_
      refine lv_dup hx hb dX8_add_70 rfl ?_
      refine gx_1_1 C hK I fl_X8_15 dX8_add_71 ?_
      refine lv_iload_n hx hb dX8_add_74 rfl (lv_at hl 2 rfl) ?_
      refine lv_iadd hx hb dX8_add_75 ?_
      refine px_1_1 C hK I fl_X8_15 dX8_add_76 (fun S2 eS2 H locs I => ?_)
      have h := bnd_at eS2 h
      clear eS2
      refine lv_aload_n hx hb dX8_add_79 rfl (lv_at hl 0 rfl) ?_
      refine gx_1_1 C hK I fl_X8_15 dX8_add_80 ?_
      exact rt_i hq h I dX8_add_83
    · have h := ite_n c1 h
      refine lv_aload_n hx hb dX8_add_37 rfl (lv_at hl 0 rfl) ?_
      refine gx_1_0 C hK I fl_X8_11 dX8_add_38 ?_
      refine lv_aload_n hx hb dX8_add_41 rfl (lv_at hl 0 rfl) ?_
      refine gx_1_1 C hK I fl_X8_15 dX8_add_42 ?_
      refine lv_iload hx hb dX8_add_45 (lv_at hl 3 rfl) ?_
      refine lv_iadd hx hb dX8_add_47 ?_
      refine lv_lload_n hx hb dX8_add_48 rfl (lv_at hl 1 rfl) ?_
      refine lv_bipush (v := 8) hx hb dX8_add_49 (by decide) ?_
      refine lv_iload hx hb dX8_add_51 (lv_at hl 3 rfl) ?_
      refine lv_imul hx hb dX8_add_53 ?_
      refine lv_lshr hx hb dX8_add_54 rfl ?_
      refine lv_ldc2 (v := (255)) hx hb C.2.2.2.1 (C.2.2.2.2 _ cn_X8_23) dX8_add_55 ?_
      refine lv_land hx hb dX8_add_58 ?_
      refine lv_l2i hx hb dX8_add_59 rfl ?_
      obtain ⟨S3, e3, h⟩ := obd_ex h
      refine k_SN (As := [.ref (ad 11), .int ((S.1 1 1) + x4), .int (((x1 >>> (((8 * x4) : Int32).toInt64 &&& 63)) &&& (255)).toInt32)]) (rest := []) (st1 := []) C kx hK I hA (c_X10_put e3) ⟨Nat.le_of_ble_eq_true rfl, Nat.le_of_ble_eq_true rfl⟩ ms_X10_put lk_X8_25 rfl hl.1 rfl (Nat.le_of_ble_eq_true rfl) dX8_add_60 rfl (fun H locs I => ?_)
      obtain ⟨v4, ev4⟩ : ∃ y : Int32, y = x4 + 1 := ⟨_, rfl⟩
      have h := bnd_at ev4 h
      refine lv_iinc (v := v4) (lv' := [(4, .int v4), (0, .ref (ad 1)), (1, .long x1), (3, .int x3)]) hx hb dX8_add_63 hl (k := 3) rfl (by rw [ev4]; rfl) (by decide) rfl (fun ls hl => ?_)
      clear ev4
      refine lv_goto (tgt := 31) hx hb dX8_add_66 (by decide) ?_
      exact hk_31 _ _ _ _ h _ _ _ I (lv_sub hl [1, 2, 3, 0] rfl)
  have J_31 : ∀ (fu : Nat) (S : St) (x1 : Int64) (x3 : Int32) (x4 : Int32), l_X8_add_31  fu S x1 x3 x4 = some (r, S1) → ∀ (H : Heap) (locs : List Loc) (ls : Array Slot), Iv D (xw cI cC cS ad) S A s H locs → lv_has ls 5 [(0, .ref (ad 1)), (1, .long x1), (3, .int x3), (4, .int x4)] → W p l e ({ frames := 1, cells := 0, slots := 0, locals := 22 } : Room) s m args below meth c H locs 0 0 Q (F0 m 31 ls []) := by
    intro fu
    induction fu with
    | zero => intro S x1 x3 x4 h; cases h
    | succ fu ih => intro S x1 x3 x4 h; exact B_31 (l_X8_add_31 fu) ih S x1 x3 x4 h
  unfold f_X8_add at h
  refine lv_iload_n hx hb dX8_add_0 rfl (lv_at hl 2 rfl) ?_
  refine lv_iconst (v := 1) hx hb dX8_add_1 (by decide) ?_
  refine lv_bipush (v := 8) hx hb dX8_add_2 (by decide) ?_
  obtain ⟨r5, S5, e5, h⟩ := obd2_ex h
  refine k_SN (As := [.int x3, .int 1, .int 8]) (rest := []) (st1 := [.int r5]) C kx hK I hA (c_X10_within e5) ⟨Nat.le_of_ble_eq_true rfl, Nat.le_of_ble_eq_true rfl⟩ ms_X10_within lk_X8_19 rfl hl.1 rfl (Nat.le_of_ble_eq_true rfl) dX8_add_4 rfl (fun H locs I => ?_)
  refine lv_if_ne (tgt := 13) hx hb dX8_add_7 (by decide) (fun c6 => ?_) (fun c6 => ?_)
  · have h := ite_n c6 h
    refine lv_aload_n hx hb dX8_add_13 rfl (lv_at hl 0 rfl) ?_
    refine gx_1_1 C hK I fl_X8_15 dX8_add_14 ?_
    refine lv_iload_n hx hb dX8_add_17 rfl (lv_at hl 2 rfl) ?_
    refine lv_iadd hx hb dX8_add_18 ?_
    refine lv_sipush (v := 200) hx hb dX8_add_19 (by decide) ?_
    refine lv_icmp_le (tgt := 28) hx hb dX8_add_22 (by decide) (fun c7 => ?_) (fun c7 => ?_)
    · have h := ite_t c7 h
      refine lv_iconst (v := 0) hx hb dX8_add_28 (by decide) ?_
      refine lv_istore (lv' := [(4, .int 0), (0, .ref (ad 1)), (1, .long x1), (3, .int x3)]) hx hb dX8_add_29 hl (by decide) rfl (fun ls hl => ?_)
      exact J_31 _ _ _ _ _ h _ _ _ I (lv_sub hl [1, 2, 3, 0] rfl)
    · have h := ite_n c7 h
      refine lv_bipush (v := (-5)) hx hb dX8_add_25 (by decide) ?_
      exact rt_i hq h I dX8_add_27
  · have h := ite_t c6 h
    refine lv_bipush (v := (-3)) hx hb dX8_add_10 (by decide) ?_
    exact rt_i hq h I dX8_add_12
