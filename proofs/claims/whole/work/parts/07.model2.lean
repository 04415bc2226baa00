theorem dX11_way_0 : decode cX11_way 0 = .ok (.iload_n 1, 1) := by decide +kernel
theorem dX11_way_1 : decode cX11_way 1 = .ok (.i2l, 1) := by decide +kernel
theorem dX11_way_2 : decode cX11_way 2 = .ok (.lconst 0, 1) := by decide +kernel
theorem dX11_way_3 : decode cX11_way 3 = .ok (.ldc2_w 143, 3) := by decide +kernel
theorem dX11_way_6 : decode cX11_way 6 = .ok (.invokestatic 55, 3) := by decide +kernel
theorem dX11_way_9 : decode cX11_way 9 = .ok (.ifCond .eq 29, 3) := by decide +kernel
theorem dX11_way_12 : decode cX11_way 12 = .ok (.iload_n 2, 1) := by decide +kernel
theorem dX11_way_13 : decode cX11_way 13 = .ok (.i2l, 1) := by decide +kernel
theorem dX11_way_14 : decode cX11_way 14 = .ok (.lconst 0, 1) := by decide +kernel
theorem dX11_way_15 : decode cX11_way 15 = .ok (.ldc2_w 143, 3) := by decide +kernel
theorem dX11_way_18 : decode cX11_way 18 = .ok (.invokestatic 55, 3) := by decide +kernel
theorem dX11_way_21 : decode cX11_way 21 = .ok (.ifCond .eq 17, 3) := by decide +kernel
theorem dX11_way_24 : decode cX11_way 24 = .ok (.aload_n 0, 1) := by decide +kernel
theorem dX11_way_25 : decode cX11_way 25 = .ok (.getfield 32, 3) := by decide +kernel
theorem dX11_way_28 : decode cX11_way 28 = .ok (.bipush 6, 2) := by decide +kernel
theorem dX11_way_30 : decode cX11_way 30 = .ok (.iload_n 1, 1) := by decide +kernel
theorem dX11_way_31 : decode cX11_way 31 = .ok (.imul, 1) := by decide +kernel
theorem dX11_way_32 : decode cX11_way 32 = .ok (.iload_n 2, 1) := by decide +kernel
theorem dX11_way_33 : decode cX11_way 33 = .ok (.iadd, 1) := by decide +kernel
theorem dX11_way_34 : decode cX11_way 34 = .ok (.iaload, 1) := by decide +kernel
theorem dX11_way_35 : decode cX11_way 35 = .ok (.goto 5, 3) := by decide +kernel
theorem dX11_way_38 : decode cX11_way 38 = .ok (.bipush (-2), 2) := by decide +kernel
theorem dX11_way_40 : decode cX11_way 40 = .ok (.ireturn, 1) := by decide +kernel
def f_X11_way (S : St) (x1 : Int32) (x2 : Int32) : Option (Int32 × St) :=
  obd2 (f_X11_in S (x1.toInt64) (0) (5)) fun r1 S1 =>
  if r1 = 0 then (
    some ((-2), S1)
  ) else (
    obd2 (f_X11_in S1 (x2.toInt64) (0) (5)) fun r3 S3 =>
    if r3 = 0 then (
      some ((-2), S3)
    ) else (
      chk (ixo ((6 * x1) + x2) 36) <|
      some ((S3.1 5 (((6 * x1) + x2)).toNatClampNeg), S3)
    )
  )
set_option maxHeartbeats 4000000 in
set_option maxRecDepth 100000 in
theorem c_X11_way {l : Launch} {D : va_G} {cI cC cS : ClassId} {ad adK adV : Nat → Nat} {S S1 : St} {x1 : Int32} {x2 : Int32} {r : Int32} (h : f_X11_way S x1 x2 = some (r, S1)) : Kt l D (mw cI ad) (KX D (xtys cI cC cS) adK adV) yX11_way cX11_way 3 (some .int) (1) (25) [.ref (ad 0), .int x1, .int x2] S (some (.int r)) S1 := by
  refine k_ent (ins := .ireturn) (st := [.int r]) (by decide +kernel) (Nat.le_of_ble_eq_true rfl) ret_i ?_
  intro p e s m args below meth c A Q C hK I hA hq ls hl
  have C : CallFix p m c cX11_way 3 s args TT RX11 := C
  have hx := C.1
  have hb := C.2.1
  have kx := kx_ok D (xtys cI cC cS) adK adV
  have hl : lv_has ls 3 [(0, .ref (ad 0)), (1, .int x1), (2, .int x2)] := hl
  unfold f_X11_way at h
  refine lv_iload_n hx hb dX11_way_0 rfl (lv_at hl 1 rfl) ?_
  refine lv_i2l hx hb dX11_way_1 rfl ?_
  refine lv_lconst (v := (0)) hx hb dX11_way_2 (by decide) ?_
  refine lv_ldc2 (v := (5)) hx hb C.2.2.2.1 (C.2.2.2.2 _ cn_X11_143) dX11_way_3 ?_
  obtain ⟨r1, S1, e1, h⟩ := obd2_ex h
  refine k_S (As := [.long (x1.toInt64), .long (0), .long (5)]) (rest := []) (st1 := [.int r1]) C kx hK I hA (c_X11_in e1) ⟨Nat.le_of_ble_eq_true rfl, Nat.le_of_ble_eq_true rfl⟩ ms_X11_in lk_X11_55 rfl hl.1 rfl (Nat.le_of_ble_eq_true rfl) dX11_way_6 rfl (fun H locs I => ?_)
  refine lv_if_eq (tgt := 38) hx hb dX11_way_9 (by decide) (fun c2 => ?_) (fun c2 => ?_)
  · have h := ite_t c2 h
    refine lv_bipush (v := (-2)) hx hb dX11_way_38 (by decide) ?_
    exact rt_i hq h I dX11_way_40
  · have h := ite_n c2 h
    refine lv_iload_n hx hb dX11_way_12 rfl (lv_at hl 2 rfl) ?_
    refine lv_i2l hx hb dX11_way_13 rfl ?_
    refine lv_lconst (v := (0)) hx hb dX11_way_14 (by decide) ?_
    refine lv_ldc2 (v := (5)) hx hb C.2.2.2.1 (C.2.2.2.2 _ cn_X11_143) dX11_way_15 ?_
    obtain ⟨r3, S3, e3, h⟩ := obd2_ex h
    refine k_S (As := [.long (x2.toInt64), .long (0), .long (5)]) (rest := []) (st1 := [.int r3]) C kx hK I hA (c_X11_in e3) ⟨Nat.le_of_ble_eq_true rfl, Nat.le_of_ble_eq_true rfl⟩ ms_X11_in lk_X11_55 rfl hl.1 rfl (Nat.le_of_ble_eq_true rfl) dX11_way_18 rfl (fun H locs I => ?_)
    refine lv_if_eq (tgt := 38) hx hb dX11_way_21 (by decide) (fun c4 => ?_) (fun c4 => ?_)
    · have h := ite_t c4 h
      refine lv_bipush (v := (-2)) hx hb dX11_way_38 (by decide) ?_
      exact rt_i hq h I dX11_way_40
    · have h := ite_n c4 h
      refine lv_aload_n hx hb dX11_way_24 rfl (lv_at hl 0 rfl) ?_
      refine gm_0_10 C hK I fl_X11_32 dX11_way_25 ?_
      refine lv_bipush (v := 6) hx hb dX11_way_28 (by decide) ?_
      refine lv_iload_n hx hb dX11_way_30 rfl (lv_at hl 1 rfl) ?_
      refine lv_imul hx hb dX11_way_31 ?_
      refine lv_iload_n hx hb dX11_way_32 rfl (lv_at hl 2 rfl) ?_
      refine lv_iadd hx hb dX11_way_33 ?_
      obtain ⟨hv5, h⟩ := chk_ex h
      refine am_5 C hK I hv5 dX11_way_34 ?_
      refine lv_goto (tgt := 40) hx hb dX11_way_35 (by decide) ?_
      exact rt_i hq h I dX11_way_40
theorem dX11_isBag_0 : decode cX11_isBag 0 = .ok (.iload_n 0, 1) := by decide +kernel
theorem dX11_isBag_1 : decode cX11_isBag 1 = .ok (.i2l, 1) := by decide +kernel
theorem dX11_isBag_2 : decode cX11_isBag 2 = .ok (.lconst 0, 1) := by decide +kernel
theorem dX11_isBag_3 : decode cX11_isBag 3 = .ok (.ldc2_w 62, 3) := by decide +kernel
theorem dX11_isBag_6 : decode cX11_isBag 6 = .ok (.invokestatic 55, 3) := by decide +kernel
theorem dX11_isBag_9 : decode cX11_isBag 9 = .ok (.ireturn, 1) := by decide +kernel
def f_X11_isBag (S : St) (x0 : Int32) : Option (Int32 × St) :=
  obd2 (f_X11_in S (x0.toInt64) (0) (255)) fun r1 S1 =>
  chk (zb r1) <|
  some (r1, S1)
set_option maxHeartbeats 4000000 in
set_option maxRecDepth 100000 in
theorem c_X11_isBag {l : Launch} {D : va_G} {cI cC cS : ClassId} {ad adK adV : Nat → Nat} {S S1 : St} {x0 : Int32} {r : Int32} (h : f_X11_isBag S x0 = some (r, S1)) : Kt l D (mw cI ad) (KX D (xtys cI cC cS) adK adV) yX11_isBag cX11_isBag 1 (some .boolean) (1) (25) [.int x0] S (some (.int r)) S1 := by
  refine k_entz (by decide +kernel) (Nat.le_of_ble_eq_true rfl) ?_
  intro p e s m args below meth c A Q C hK I hA hq ls hl
  have C : CallFix p m c cX11_isBag 1 s args TT RX11 := C
  have hx := C.1
  have hb := C.2.1
  have kx := kx_ok D (xtys cI cC cS) adK adV
  have hl : lv_has ls 1 [(0, .int x0)] := hl
  unfold f_X11_isBag at h
  refine lv_iload_n hx hb dX11_isBag_0 rfl (lv_at hl 0 rfl) ?_
  refine lv_i2l hx hb dX11_isBag_1 rfl ?_
  refine lv_lconst (v := (0)) hx hb dX11_isBag_2 (by decide) ?_
  refine lv_ldc2 (v := (255)) hx hb C.2.2.2.1 (C.2.2.2.2 _ cn_X11_62) dX11_isBag_3 ?_
  obtain ⟨r1, S1, e1, h⟩ := obd2_ex h
  refine k_S (As := [.long (x0.toInt64), .long (0), .long (255)]) (rest := []) (st1 := [.int r1]) C kx hK I hA (c_X11_in e1) ⟨Nat.le_of_ble_eq_true rfl, Nat.le_of_ble_eq_true rfl⟩ ms_X11_in lk_X11_55 rfl hl.1 rfl (Nat.le_of_ble_eq_true rfl) dX11_isBag_6 rfl (fun H locs I => ?_)
  obtain ⟨hz, h⟩ := chk_ex h
  exact rt_z hz hq h I dX11_isBag_9
theorem dX11_weight_0 : decode cX11_weight 0 = .ok (.iconst 0, 1) := by decide +kernel
theorem dX11_weight_1 : decode cX11_weight 1 = .ok (.istore_n 2, 1) := by decide +kernel
theorem dX11_weight_2 : decode cX11_weight 2 = .ok (.iconst 0, 1) := by decide +kernel
theorem dX11_weight_3 : decode cX11_weight 3 = .ok (.istore_n 3, 1) := by decide +kernel
theorem dX11_weight_4 : decode cX11_weight 4 = .ok (.iload_n 3, 1) := by decide +kernel
theorem dX11_weight_5 : decode cX11_weight 5 = .ok (.bipush 8, 2) := by decide +kernel
theorem dX11_weight_7 : decode cX11_weight 7 = .ok (.if_icmp .ge 30, 3) := by decide +kernel
theorem dX11_weight_10 : decode cX11_weight 10 = .ok (.iload_n 2, 1) := by decide +kernel
theorem dX11_weight_11 : decode cX11_weight 11 = .ok (.iload_n 1, 1) := by decide +kernel
theorem dX11_weight_12 : decode cX11_weight 12 = .ok (.iload_n 3, 1) := by decide +kernel
theorem dX11_weight_13 : decode cX11_weight 13 = .ok (.invokestatic 85, 3) := by decide +kernel
theorem dX11_weight_16 : decode cX11_weight 16 = .ok (.ifCond .eq 12, 3) := by decide +kernel
theorem dX11_weight_19 : decode cX11_weight 19 = .ok (.aload_n 0, 1) := by decide +kernel
theorem dX11_weight_20 : decode cX11_weight 20 = .ok (.getfield 16, 3) := by decide +kernel
theorem dX11_weight_23 : decode cX11_weight 23 = .ok (.iload_n 3, 1) := by decide +kernel
theorem dX11_weight_24 : decode cX11_weight 24 = .ok (.iaload, 1) := by decide +kernel
theorem dX11_weight_25 : decode cX11_weight 25 = .ok (.goto 4, 3) := by decide +kernel
theorem dX11_weight_28 : decode cX11_weight 28 = .ok (.iconst 0, 1) := by decide +kernel
theorem dX11_weight_29 : decode cX11_weight 29 = .ok (.iadd, 1) := by decide +kernel
theorem dX11_weight_30 : decode cX11_weight 30 = .ok (.istore_n 2, 1) := by decide +kernel
theorem dX11_weight_31 : decode cX11_weight 31 = .ok (.iinc 3 1, 3) := by decide +kernel
theorem dX11_weight_34 : decode cX11_weight 34 = .ok (.goto (-30), 3) := by decide +kernel
theorem dX11_weight_37 : decode cX11_weight 37 = .ok (.iload_n 2, 1) := by decide +kernel
theorem dX11_weight_38 : decode cX11_weight 38 = .ok (.ireturn, 1) := by decide +kernel
def f_X11_weight_29 (k_4 : St → Int32 → Int32 → Int32 → Option (Int32 × St)) (S : St) (x1 : Int32) (x3 : Int32) (t0 : Int32) (t1 : Int32) : Option (Int32 × St) :=
  bnd ((t0 + t1) : Int32) fun v1 =>
  bnd (x3 + 1 : Int32) fun v2 =>
  k_4 S x1 v1 v2
def f_X11_weight_4 (k_4 : St → Int32 → Int32 → Int32 → Option (Int32 × St)) (S : St) (x1 : Int32) (x2 : Int32) (x3 : Int32) : Option (Int32 × St) :=
  if 8 ≤ x3 then (
    some (x2, S)
  ) else (
    obd2 (f_X11_has S x1 x3) fun r4 S4 =>
    if r4 = 0 then (
      f_X11_weight_29 k_4 S4 x1 x3 x2 0
    ) else (
      chk (ixo x3 8) <|
      f_X11_weight_29 k_4 S4 x1 x3 x2 (S4.1 3 (x3).toNatClampNeg)
    )
  )
def l_X11_weight_4 : Nat → St → Int32 → Int32 → Int32 → Option (Int32 × St)
  | 0, _, _, _, _ => none
  | fu + 1, S, x1, x2, x3 => f_X11_weight_4 (l_X11_weight_4 fu) S x1 x2 x3
def f_X11_weight (S : St) (x1 : Int32) : Option (Int32 × St) :=
  l_X11_weight_4 FU S x1 0 0
set_option maxHeartbeats 4000000 in
set_option maxRecDepth 100000 in
theorem c_X11_weight {l : Launch} {D : va_G} {cI cC cS : ClassId} {ad adK adV : Nat → Nat} {S S1 : St} {x1 : Int32} {r : Int32} (h : f_X11_weight S x1 = some (r, S1)) : Kt l D (mw cI ad) (KX D (xtys cI cC cS) adK adV) yX11_weight cX11_weight 4 (some .int) (1) (21) [.ref (ad 0), .int x1] S (some (.int r)) S1 := by
  refine k_ent (ins := .ireturn) (st := [.int r]) (by decide +kernel) (Nat.le_of_ble_eq_true rfl) ret_i ?_
  intro p e s m args below meth c A Q C hK I hA hq ls hl
  have C : CallFix p m c cX11_weight 4 s args TT RX11 := C
  have hx := C.1
  have hb := C.2.1
  have kx := kx_ok D (xtys cI cC cS) adK adV
  have hl : lv_has ls 4 [(0, .ref (ad 0)), (1, .int x1)] := hl
  have J_29 : ∀ (k_4 : St → Int32 → Int32 → Int32 → Option (Int32 × St)) (hk_4 : ∀ (S : St) (x1 : Int32) (x2 : Int32) (x3 : Int32), k_4 S x1 x2 x3 = some (r, S1) → ∀ (H : Heap) (locs : List Loc) (ls : Array Slot), Iv D (mw cI ad) S A s H locs → lv_has ls 4 [(0, .ref (ad 0)), (1, .int x1), (2, .int x2), (3, .int x3)] → W p l e ({ frames := 1, cells := 0, slots := 0, locals := 21 } : Room) s m args below meth c H locs 0 0 Q (F0 m 4 ls [])) (S : St) (x1 : Int32) (x3 : Int32) (t0 : Int32) (t1 : Int32), f_X11_weight_29 k_4 S x1 x3 t0 t1 = some (r, S1) → ∀ (H : Heap) (locs : List Loc) (ls : Array Slot), Iv D (mw cI ad) S A s H locs → lv_has ls 4 [(0, .ref (ad 0)), (1, .int x1), (3, .int x3)] → W p l e ({ frames := 1, cells := 0, slots := 0, locals := 21 } : Room) s m args below meth c H locs 0 0 Q (F0 m 29 ls [.int t1, .int t0]) := by
    intro k_4 hk_4 S x1 x3 t0 t1 h H locs ls I hl
    unfold f_X11_weight_29 at h
    refine lv_iadd hx hb dX11_weight_29 ?_
    refine lv_topi (fun v1 ev1 => ?_)
    have h := bnd_at ev1 h
    clear ev1
    refine lv_istore_n (lv' := [(2, .int v1), (0, .ref (ad 0)), (1, .int x1), (3, .int x3)]) hx hb dX11_weight_30 rfl hl (by decide) rfl (fun ls hl => ?_)
    obtain ⟨v2, ev2⟩ : ∃ y : Int32, y = x3 + 1 := ⟨_, rfl⟩
    have h := bnd_at ev2 h
    refine lv_iinc (v := v2) (lv' := [(3, .int v2), (2, .int v1), (0, .ref (ad 0)), (1, .int x1)]) hx hb dX11_weight_31 hl (k := 3) rfl (by rw [ev2]; rfl) (by decide) rfl (fun ls hl => ?_)
    clear ev2
    refine lv_goto (tgt := 4) hx hb dX11_weight_34 (by decide) ?_
    exact hk_4 _ _ _ _ h _ _ _ I (lv_sub hl [2, 3, 1, 0] rfl)
  have B_4 : ∀ (k_4 : St → Int32 → Int32 → Int32 → Option (Int32 × St)) (hk_4 : ∀ (S : St) (x1 : Int32) (x2 : Int32) (x3 : Int32), k_4 S x1 x2 x3 = some (r, S1) → ∀ (H : Heap) (locs : List Loc) (ls : Array Slot), Iv D (mw cI ad) S A s H locs → lv_has ls 4 [(0, .ref (ad 0)), (1, .int x1), (2, .int x2), (3, .int x3)] → W p l e ({ frames := 1, cells := 0, slots := 0, locals := 21 } : Room) s m args below meth c H locs 0 0 Q (F0 m 4 ls [])) (S : St) (x1 : Int32) (x2 : Int32) (x3 : Int32), f_X11_weight_4 k_4 S x1 x2 x3 = some (r, S1) → ∀ (H : Heap) (locs : List Loc) (ls : Array Slot), Iv D (mw cI ad) S A s H locs → lv_has ls 4 [(0, .ref (ad 0)), (1, .int x1), (2, .int x2), (3, .int x3)] → W p l e ({ frames := 1, cells := 0, slots := 0, locals := 21 } : Room) s m args below meth c H locs 0 0 Q (F0 m 4 ls []) := by
    intro k_4 hk_4 S x1 x2 x3 h H locs ls I hl
    unfold f_X11_weight_4 at h
    refine lv_iload_n hx hb dX11_weight_4 rfl (lv_at hl 3 rfl) ?_
    refine lv_bipush (v := 8) hx hb dX11_weight_5 (by decide) ?_
    refine lv_icmp_ge (tgt := 37) hx hb dX11_weight_7 (by decide) (fun c3 => ?_) (fun c3 => ?_)
    · have h := ite_t c3 h
      refine lv_iload_n hx hb dX11_weight_37 rfl (lv_at hl 2 rfl) ?_
      exact rt_i hq h I dX11_weight_38
    · have h := ite_n c3 h
      refine lv_iload_n hx hb dX11_weight_10 rfl (lv_at hl 2 rfl) ?_
      refine lv_iload_n hx hb dX11_weight_11 rfl (lv_at hl 1 rfl) ?_
      refine lv_iload_n hx hb dX11_weight_12 rfl (lv_at hl 3 rfl) ?_
      obtain ⟨r4, S4, e4, h⟩ := obd2_ex h
      refine k_S (As := [.int x1, .int x3]) (rest := [.int x2]) (st1 := [.int r4, .int x2]) C kx hK I hA (c_X11_has e4) ⟨Nat.le_of_ble_eq_true rfl, Nat.le_of_ble_eq_true rfl⟩ ms_X11_has lk_X11_85 rfl hl.1 rfl (Nat.le_of_ble_eq_true rfl) dX11_weight_13 rfl (fun H locs I => ?_)
      refine lv_if_eq (tgt := 28) hx hb dX11_weight_16 (by decide) (fun c5 => ?_) (fun c5 => ?_)
      · have h := ite_t c5 h
        refine lv_iconst (v := 0) hx hb dX11_weight_28 (by decide) ?_
        exact J_29 k_4 hk_4 _ _ _ _ _ h _ _ _ I (lv_sub hl [0, 1, 3] rfl)
      · have h := ite_n c5 h
        refine lv_aload_n hx hb dX11_weight_19 rfl (lv_at hl 0 rfl) ?_
        refine gm_0_4 C hK I fl_X11_16 dX11_weight_20 ?_
        refine lv_iload_n hx hb dX11_weight_23 rfl (lv_at hl 3 rfl) ?_
        obtain ⟨hv6, h⟩ := chk_ex h
        refine am_3 C hK I hv6 dX11_weight_24 ?_
        refine lv_goto (tgt := 29) hx hb dX11_weight_25 (by decide) ?_
        exact J_29 k_4 hk_4 _ _ _ _ _ h _ _ _ I (lv_sub hl [0, 1, 3] rfl)
  have J_4 : ∀ (fu : Nat) (S : St) (x1 : Int32) (x2 : Int32) (x3 : Int32), l_X11_weight_4  fu S x1 x2 x3 = some (r, S1) → ∀ (H : Heap) (locs : List Loc) (ls : Array Slot), Iv D (mw cI ad) S A s H locs → lv_has ls 4 [(0, .ref (ad 0)), (1, .int x1), (2, .int x2), (3, .int x3)] → W p l e ({ frames := 1, cells := 0, slots := 0, locals := 21 } : Room) s m args below meth c H locs 0 0 Q (F0 m 4 ls []) := by
    intro fu
    induction fu with
    | zero => intro S x1 x2 x3 h; cases h
    | succ fu ih => intro S x1 x2 x3 h; exact B_4 (l_X11_weight_4 fu) ih S x1 x2 x3 h
  unfold f_X11_weight at h
  refine lv_iconst (v := 0) hx hb dX11_weight_0 (by decide) ?_
  refine lv_istore_n (lv' := [(2, .int 0), (0, .ref (ad 0)), (1, .int x1)]) hx hb dX11_weight_1 rfl hl (by decide) rfl (fun ls hl => ?_)
  refine lv_iconst (v := 0) hx hb dX11_weight_2 (by decide) ?_
  refine lv_istore_n (lv' := [(3, .int 0), (2, .int 0), (0, .ref (ad 0)), (1, .int x1)]) hx hb dX11_weight_3 rfl hl (by decide) rfl (fun ls hl => ?_)
  exact J_4 _ _ _ _ _ h _ _ _ I (lv_sub hl [2, 3, 1, 0] rfl)
theorem lk_X11_156 : Cond.methodLink RX11 156 yX11_weight ∈ TT := tt_of 1323 (by decide +kernel) rfl
theorem mv_X11_weight : MV yX11_weight cX11_weight 4 (some .int) 1 := ⟨tt_of 1326 (by decide +kernel) rfl, tt_of 1325 (by decide +kernel) rfl, tt_of 36 (by decide +kernel) rfl, tt_of 76 (by decide +kernel) rfl, ⟨by decide +kernel, by decide +kernel, by decide +kernel⟩⟩
theorem dX11_mayBe_0 : decode cX11_mayBe 0 = .ok (.iconst 0, 1) := by decide +kernel
theorem dX11_mayBe_1 : decode cX11_mayBe 1 = .ok (.istore_n 2, 1) := by decide +kernel
theorem dX11_mayBe_2 : decode cX11_mayBe 2 = .ok (.iconst 0, 1) := by decide +kernel
theorem dX11_mayBe_3 : decode cX11_mayBe 3 = .ok (.istore_n 3, 1) := by decide +kernel
theorem dX11_mayBe_4 : decode cX11_mayBe 4 = .ok (.iload_n 3, 1) := by decide +kernel
theorem dX11_mayBe_5 : decode cX11_mayBe 5 = .ok (.bipush 8, 2) := by decide +kernel
theorem dX11_mayBe_7 : decode cX11_mayBe 7 = .ok (.if_icmp .ge 30, 3) := by decide +kernel
theorem dX11_mayBe_10 : decode cX11_mayBe 10 = .ok (.iload_n 2, 1) := by decide +kernel
theorem dX11_mayBe_11 : decode cX11_mayBe 11 = .ok (.iload_n 1, 1) := by decide +kernel
theorem dX11_mayBe_12 : decode cX11_mayBe 12 = .ok (.iload_n 3, 1) := by decide +kernel
theorem dX11_mayBe_13 : decode cX11_mayBe 13 = .ok (.invokestatic 85, 3) := by decide +kernel
theorem dX11_mayBe_16 : decode cX11_mayBe 16 = .ok (.ifCond .eq 12, 3) := by decide +kernel
theorem dX11_mayBe_19 : decode cX11_mayBe 19 = .ok (.aload_n 0, 1) := by decide +kernel
theorem dX11_mayBe_20 : decode cX11_mayBe 20 = .ok (.getfield 19, 3) := by decide +kernel
theorem dX11_mayBe_23 : decode cX11_mayBe 23 = .ok (.iload_n 3, 1) := by decide +kernel
theorem dX11_mayBe_24 : decode cX11_mayBe 24 = .ok (.iaload, 1) := by decide +kernel
theorem dX11_mayBe_25 : decode cX11_mayBe 25 = .ok (.goto 4, 3) := by decide +kernel
theorem dX11_mayBe_28 : decode cX11_mayBe 28 = .ok (.iconst 0, 1) := by decide +kernel
theorem dX11_mayBe_29 : decode cX11_mayBe 29 = .ok (.iadd, 1) := by decide +kernel
theorem dX11_mayBe_30 : decode cX11_mayBe 30 = .ok (.istore_n 2, 1) := by decide +kernel
theorem dX11_mayBe_31 : decode cX11_mayBe 31 = .ok (.iinc 3 1, 3) := by decide +kernel
theorem dX11_mayBe_34 : decode cX11_mayBe 34 = .ok (.goto (-30), 3) := by decide +kernel
theorem dX11_mayBe_37 : decode cX11_mayBe 37 = .ok (.aload_n 0, 1) := by decide +kernel
theorem dX11_mayBe_38 : decode cX11_mayBe 38 = .ok (.iload_n 1, 1) := by decide +kernel
theorem dX11_mayBe_39 : decode cX11_mayBe 39 = .ok (.invokevirtual 156, 3) := by decide +kernel
theorem dX11_mayBe_42 : decode cX11_mayBe 42 = .ok (.aload_n 0, 1) := by decide +kernel
theorem dX11_mayBe_43 : decode cX11_mayBe 43 = .ok (.getfield 22, 3) := by decide +kernel
theorem dX11_mayBe_46 : decode cX11_mayBe 46 = .ok (.if_icmp .gt 15, 3) := by decide +kernel
theorem dX11_mayBe_49 : decode cX11_mayBe 49 = .ok (.iload_n 2, 1) := by decide +kernel
theorem dX11_mayBe_50 : decode cX11_mayBe 50 = .ok (.aload_n 0, 1) := by decide +kernel
theorem dX11_mayBe_51 : decode cX11_mayBe 51 = .ok (.getfield 26, 3) := by decide +kernel
theorem dX11_mayBe_54 : decode cX11_mayBe 54 = .ok (.if_icmp .gt 7, 3) := by decide +kernel
theorem dX11_mayBe_57 : decode cX11_mayBe 57 = .ok (.iconst 1, 1) := by decide +kernel
theorem dX11_mayBe_58 : decode cX11_mayBe 58 = .ok (.goto 4, 3) := by decide +kernel
theorem dX11_mayBe_61 : decode cX11_mayBe 61 = .ok (.iconst 0, 1) := by decide +kernel
theorem dX11_mayBe_62 : decode cX11_mayBe 62 = .ok (.ireturn, 1) := by decide +kernel
def f_X11_mayBe_29 (k_4 : St → Int32 → Int32 → Int32 → Option (Int32 × St)) (S : St) (x1 : Int32) (x3 : Int32) (t0 : Int32) (t1 : Int32) : Option (Int32 × St) :=
  bnd ((t0 + t1) : Int32) fun v1 =>
  bnd (x3 + 1 : Int32) fun v2 =>
  k_4 S x1 v1 v2
def f_X11_mayBe_4 (k_4 : St → Int32 → Int32 → Int32 → Option (Int32 × St)) (S : St) (x1 : Int32) (x2 : Int32) (x3 : Int32) : Option (Int32 × St) :=
  if 8 ≤ x3 then (
    obd2 (f_X11_weight S x1) fun r4 S4 =>
    if (S4.1 0 7) < r4 then (
      some (0, S4)
    ) else (
      if (S4.1 0 8) < x2 then (
        some (0, S4)
      ) else (
        some (1, S4)
      )
    )
  ) else (
    obd2 (f_X11_has S x1 x3) fun r7 S7 =>
    if r7 = 0 then (
      f_X11_mayBe_29 k_4 S7 x1 x3 x2 0
    ) else (
      chk (ixo x3 8) <|
      f_X11_mayBe_29 k_4 S7 x1 x3 x2 (S7.1 4 (x3).toNatClampNeg)
    )
  )
def l_X11_mayBe_4 : Nat → St → Int32 → Int32 → Int32 → Option (Int32 × St)
  | 0, _, _, _, _ => none
  | fu + 1, S, x1, x2, x3 => f_X11_mayBe_4 (l_X11_mayBe_4 fu) S x1 x2 x3
def f_X11_mayBe (S : St) (x1 : Int32) : Option (Int32 × St) :=
  l_X11_mayBe_4 FU S x1 0 0
set_option maxHeartbeats 4000000 in
set_option maxRecDepth 100000 in
theorem c_X11_mayBe {l : Launch} {D : va_G} {cI cC cS : ClassId} {ad adK adV : Nat → Nat} {S S1 : St} {x1 : Int32} {r : Int32} (h : f_X11_mayBe S x1 = some (r, S1)) : Kt l D (mw cI ad) (KX D (xtys cI cC cS) adK adV) yX11_mayBe cX11_mayBe 4 (some .boolean) (2) (44) [.ref (ad 0), .int x1] S (some (.int r)) S1 := by
  refine k_entz (by decide +kernel) (Nat.le_of_ble_eq_true rfl) ?_
  intro p e s m args below meth c A Q C hK I hA hq ls hl
  have C : CallFix p m c cX11_mayBe 4 s args TT RX11 := C
  have hx := C.1
  have hb := C.2.1
  have kx := kx_ok D (xtys cI cC cS) adK adV
  have hl : lv_has ls 4 [(0, .ref (ad 0)), (1, .int x1)] := hl
  have J_29 : ∀ (k_4 : St → Int32 → Int32 → Int32 → Option (Int32 × St)) (hk_4 : ∀ (S : St) (x1 : Int32) (x2 : Int32) (x3 : Int32), k_4 S x1 x2 x3 = some (r, S1) → ∀ (H : Heap) (locs : List Loc) (ls : Array Slot), Iv D (mw cI ad) S A s H locs → lv_has ls 4 [(0, .ref (ad 0)), (1, .int x1), (2, .int x2), (3, .int x3)] → W p l e ({ frames := 2, cells := 0, slots := 0, locals := 44 } : Room) s m args below meth c H locs 0 0 Q (F0 m 4 ls [])) (S : St) (x1 : Int32) (x3 : Int32) (t0 : Int32) (t1 : Int32), f_X11_mayBe_29 k_4 S x1 x3 t0 t1 = some (r, S1) → ∀ (H : Heap) (locs : List Loc) (ls : Array Slot), Iv D (mw cI ad) S A s H locs → lv_has ls 4 [(0, .ref (ad 0)), (1, .int x1), (3, .int x3)] → W p l e ({ frames := 2, cells := 0, slots := 0, locals := 44 } : Room) s m args below meth c H locs 0 0 Q (F0 m 29 ls [.int t1, .int t0]) := by
    intro k_4 hk_4 S x1 x3 t0 t1 h H locs ls I hl
    unfold f_X11_mayBe_29 at h
    refine lv_iadd hx hb dX11_mayBe_29 ?_
    refine lv_topi (fun v1 ev1 => ?_)
    have h := bnd_at ev1 h
    clear ev1
    refine lv_istore_n (lv' := [(2, .int v1), (0, .ref (ad 0)), (1, .int x1), (3, .int x3)]) hx hb dX11_mayBe_30 rfl hl (by decide) rfl (fun ls hl => ?_)
    obtain ⟨v2, ev2⟩ : ∃ y : Int32, y = x3 + 1 := ⟨_, rfl⟩
    have h := bnd_at ev2 h
    refine lv_iinc (v := v2) (lv' := [(3, .int v2), (2, .int v1), (0, .ref (ad 0)), (1, .int x1)]) hx hb dX11_mayBe_31 hl (k := 3) rfl (by rw [ev2]; rfl) (by decide) rfl (fun ls hl => ?_)
    clear ev2
    refine lv_goto (tgt := 4) hx hb dX11_mayBe_34 (by decide) ?_
    exact hk_4 _ _ _ _ h _ _ _ I (lv_sub hl [2, 3, 1, 0] rfl)
  have B_4 : ∀ (k_4 : St → Int32 → Int32 → Int32 → Option (Int32 × St)) (hk_4 : ∀ (S : St) (x1 : Int32) (x2 : Int32) (x3 : Int32), k_4 S x1 x2 x3 = some (r, S1) → ∀ (H : Heap) (locs : List Loc) (ls : Array Slot), Iv D (mw cI ad) S A s H locs → lv_has ls 4 [(0, .ref (ad 0)), (1, .int x1), (2, .int x2), (3, .int x3)] → W p l e ({ frames := 2, cells := 0, slots := 0, locals := 44 } : Room) s m args below meth c H locs 0 0 Q (F0 m 4 ls [])) (S : St) (x1 : Int32) (x2 : Int32) (x3 : Int32), f_X11_mayBe_4 k_4 S x1 x2 x3 = some (r, S1) → ∀ (H : Heap) (locs : List Loc) (ls : Array Slot), Iv D (mw cI ad) S A s H locs → lv_has ls 4 [(0, .ref (ad 0)), (1, .int x1), (2, .int x2), (3, .int x3)] → W p l e ({ frames := 2, cells := 0, slots := 0, locals := 44 } : Room) s m args below meth c H locs 0 0 Q (F0 m 4 ls []) := by
    intro k_4 hk_4 S x1 x2 x3 h H locs ls I hl
    unfold f_X11_mayBe_4 at h
    refine lv_iload_n hx hb dX11_mayBe_4 rfl (lv_at hl 3 rfl) ?_
    refine lv_bipush (v := 8) hx hb dX11_mayBe_5 (by decide) ?_
    refine lv_icmp_ge (tgt := 37) hx hb dX11_mayBe_7 (by decide) (fun c3 => ?_) (fun c3 => ?_)
    · have h := ite_t c3 h
      refine lv_aload_n hx hb dX11_mayBe_37 rfl (lv_at hl 0 rfl) ?_
      refine lv_iload_n hx hb dX11_mayBe_38 rfl (lv_at hl 1 rfl) ?_
      obtain ⟨r4, S4, e4, h⟩ := obd2_ex h
      refine k_V (As := [.int x1]) (rest := []) (st1 := [.int r4]) C kx hK I hA (c_X11_weight e4) ⟨Nat.le_of_ble_eq_true rfl, Nat.le_of_ble_eq_true rfl⟩ mv_X11_weight lk_X11_156 0 11 (mw_0 (cI := cI) (ad := ad)) rfl rfl hl.1 rfl (Nat.le_of_ble_eq_true rfl) dX11_mayBe_39 rfl (fun H locs I => ?_)
      refine lv_aload_n hx hb dX11_mayBe_42 rfl (lv_at hl 0 rfl) ?_
      refine gm_0_7 C hK I fl_X11_22 dX11_mayBe_43 ?_
      refine lv_icmp_gt (tgt := 61) hx hb dX11_mayBe_46 (by decide) (fun c5 => ?_) (fun c5 => ?_)
      · have h := ite_t c5 h
        refine lv_iconst (v := 0) hx hb dX11_mayBe_61 (by decide) ?_
        exact rt_z (Or.inl rfl) hq h I dX11_mayBe_62
      · have h := ite_n c5 h
        refine lv_iload_n hx hb dX11_mayBe_49 rfl (lv_at hl 2 rfl) ?_
        refine lv_aload_n hx hb dX11_mayBe_50 rfl (lv_at hl 0 rfl) ?_
        refine gm_0_8 C hK I fl_X11_26 dX11_mayBe_51 ?_
        refine lv_icmp_gt (tgt := 61) hx hb dX11_mayBe_54 (by decide) (fun c6 => ?_) (fun c6 => ?_)
        · have h := ite_t c6 h
          refine lv_iconst (v := 0) hx hb dX11_mayBe_61 (by decide) ?_
          exact rt_z (Or.inl rfl) hq h I dX11_mayBe_62
        · have h := ite_n c6 h
          refine lv_iconst (v := 1) hx hb dX11_mayBe_57 (by decide) ?_
          refine lv_goto (tgt := 62) hx hb dX11_mayBe_58 (by decide) ?_
          exact rt_z (Or.inr rfl) hq h I dX11_mayBe_62
    · have h := ite_n c3 h
      refine lv_iload_n hx hb dX11_mayBe_10 rfl (lv_at hl 2 rfl) ?_
      refine lv_iload_n hx hb dX11_mayBe_11 rfl (lv_at hl 1 rfl) ?_
      refine lv_iload_n hx hb dX11_mayBe_12 rfl (lv_at hl 3 rfl) ?_
      obtain ⟨r7, S7, e7, h⟩ := obd2_ex h
      refine k_S (As := [.int x1, .int x3]) (rest := [.int x2]) (st1 := [.int r7, .int x2]) C kx hK I hA (c_X11_has e7) ⟨Nat.le_of_ble_eq_true rfl, Nat.le_of_ble_eq_true rfl⟩ ms_X11_has lk_X11_85 rfl hl.1 rfl (Nat.le_of_ble_eq_true rfl) dX11_mayBe_13 rfl (fun H locs I => ?_)
      refine lv_if_eq (tgt := 28) hx hb dX11_mayBe_16 (by decide) (fun c8 => ?_) (fun c8 => ?_)
      · have h := ite_t c8 h
        refine lv_iconst (v := 0) hx hb dX11_mayBe_28 (by decide) ?_
        exact J_29 k_4 hk_4 _ _ _ _ _ h _ _ _ I (lv_sub hl [0, 1, 3] rfl)
      · have h := ite_n c8 h
        refine lv_aload_n hx hb dX11_mayBe_19 rfl (lv_at hl 0 rfl) ?_
        refine gm_0_5 C hK I fl_X11_19 dX11_mayBe_20 ?_
        refine lv_iload_n hx hb dX11_mayBe_23 rfl (lv_at hl 3 rfl) ?_
        obtain ⟨hv9, h⟩ := chk_ex h
        refine am_4 C hK I hv9 dX11_mayBe_24 ?_
        refine lv_goto (tgt := 29) hx hb dX11_mayBe_25 (by decide) ?_
        exact J_29 k_4 hk_4 _ _ _ _ _ h _ _ _ I (lv_sub hl [0, 1, 3] rfl)
  have J_4 : ∀ (fu : Nat) (S : St) (x1 : Int32) (x2 : Int32) (x3 : Int32), l_X11_mayBe_4  fu S x1 x2 x3 = some (r, S1) → ∀ (H : Heap) (locs : List Loc) (ls : Array Slot), Iv D (mw cI ad) S A s H locs → lv_has ls 4 [(0, .ref (ad 0)), (1, .int x1), (2, .int x2), (3, .int x3)] → W p l e ({ frames := 2, cells := 0, slots := 0, locals := 44 } : Room) s m args below meth c H locs 0 0 Q (F0 m 4 ls []) := by
    intro fu
    induction fu with
    | zero => intro S x1 x2 x3 h; cases h
    | succ fu ih => intro S x1 x2 x3 h; exact B_4 (l_X11_mayBe_4 fu) ih S x1 x2 x3 h
  unfold f_X11_mayBe at h
  refine lv_iconst (v := 0) hx hb dX11_mayBe_0 (by decide) ?_
  refine lv_istore_n (lv' := [(2, .int 0), (0, .ref (ad 0)), (1, .int x1)]) hx hb dX11_mayBe_1 rfl hl (by decide) rfl (fun ls hl => ?_)
  refine lv_iconst (v := 0) hx hb dX11_mayBe_2 (by decide) ?_
  refine lv_istore_n (lv' := [(3, .int 0), (2, .int 0), (0, .ref (ad 0)), (1, .int x1)]) hx hb dX11_mayBe_3 rfl hl (by decide) rfl (fun ls hl => ?_)
  exact J_4 _ _ _ _ _ h _ _ _ I (lv_sub hl [2, 3, 1, 0] rfl)
theorem lk_X11_159 : Cond.methodLink RX11 159 yX11_isBag ∈ TT := tt_of 1316 (by decide +kernel) rfl
theorem ms_X11_isBag : MS yX11_isBag cX11_isBag 1 (some .boolean) 1 := ⟨tt_of 1318 (by decide +kernel) rfl, tt_of 1317 (by decide +kernel) rfl, tt_of 76 (by decide +kernel) rfl, ⟨by decide +kernel, by decide +kernel, by decide +kernel⟩⟩
theorem lk_X11_162 : Cond.methodLink RX11 162 yX11_mayBe ∈ TT := tt_of 1319 (by decide +kernel) rfl
theorem mv_X11_mayBe : MV yX11_mayBe cX11_mayBe 4 (some .boolean) 1 := ⟨tt_of 1322 (by decide +kernel) rfl, tt_of 1321 (by decide +kernel) rfl, tt_of 35 (by decide +kernel) rfl, tt_of 76 (by decide +kernel) rfl, ⟨by decide +kernel, by decide +kernel, by decide +kernel⟩⟩
theorem dX11_may_0 : decode cX11_may 0 = .ok (.iload_n 1, 1) := by decide +kernel
theorem dX11_may_1 : decode cX11_may 1 = .ok (.invokestatic 159, 3) := by decide +kernel
theorem dX11_may_4 : decode cX11_may 4 = .ok (.ifCond .ne 8, 3) := by decide +kernel
theorem dX11_may_7 : decode cX11_may 7 = .ok (.bipush (-3), 2) := by decide +kernel
theorem dX11_may_9 : decode cX11_may 9 = .ok (.goto 16, 3) := by decide +kernel
theorem dX11_may_12 : decode cX11_may 12 = .ok (.aload_n 0, 1) := by decide +kernel
theorem dX11_may_13 : decode cX11_may 13 = .ok (.iload_n 1, 1) := by decide +kernel
theorem dX11_may_14 : decode cX11_may 14 = .ok (.invokevirtual 162, 3) := by decide +kernel
theorem dX11_may_17 : decode cX11_may 17 = .ok (.ifCond .eq 7, 3) := by decide +kernel
theorem dX11_may_20 : decode cX11_may 20 = .ok (.iconst 1, 1) := by decide +kernel
theorem dX11_may_21 : decode cX11_may 21 = .ok (.goto 4, 3) := by decide +kernel
theorem dX11_may_24 : decode cX11_may 24 = .ok (.iconst 0, 1) := by decide +kernel
theorem dX11_may_25 : decode cX11_may 25 = .ok (.ireturn, 1) := by decide +kernel
def f_X11_may (S : St) (x1 : Int32) : Option (Int32 × St) :=
  obd2 (f_X11_isBag S x1) fun r1 S1 =>
  if r1 = 0 then (
    some ((-3), S1)
  ) else (
    obd2 (f_X11_mayBe S1 x1) fun r3 S3 =>
    if r3 = 0 then (
      some (0, S3)
    ) else (
      some (1, S3)
    )
  )
set_option maxHeartbeats 4000000 in
set_option maxRecDepth 100000 in
theorem c_X11_may {l : Launch} {D : va_G} {cI cC cS : ClassId} {ad adK adV : Nat → Nat} {S S1 : St} {x1 : Int32} {r : Int32} (h : f_X11_may S x1 = some (r, S1)) : Kt l D (mw cI ad) (KX D (xtys cI cC cS) adK adV) yX11_may cX11_may 2 (some .int) (3) (67) [.ref (ad 0), .int x1] S (some (.int r)) S1 := by
  refine k_ent (ins := .ireturn) (st := [.int r]) (by decide +kernel) (Nat.le_of_ble_eq_true rfl) ret_i ?_
  intro p e s m args below meth c A Q C hK I hA hq ls hl
  have C : CallFix p m c cX11_may 2 s args TT RX11 := C
  have hx := C.1
  have hb := C.2.1
  have kx := kx_ok D (xtys cI cC cS) adK adV
  have hl : lv_has ls 2 [(0, .ref (ad 0)), (1, .int x1)] := hl
  unfold f_X11_may at h
  refine lv_iload_n hx hb dX11_may_0 rfl (lv_at hl 1 rfl) ?_
  obtain ⟨r1, S1, e1, h⟩ := obd2_ex h
  refine k_S (As := [.int x1]) (rest := []) (st1 := [.int r1]) C kx hK I hA (c_X11_isBag e1) ⟨Nat.le_of_ble_eq_true rfl, Nat.le_of_ble_eq_true rfl⟩ ms_X11_isBag lk_X11_159 rfl hl.1 rfl (Nat.le_of_ble_eq_true rfl) dX11_may_1 rfl (fun H locs I => ?_)
  refine lv_if_ne (tgt := 12) hx hb dX11_may_4 (by decide) (fun c2 => ?_) (fun c2 => ?_)
  · have h := ite_n c2 h
    refine lv_aload_n hx hb dX11_may_12 rfl (lv_at hl 0 rfl) ?_
    refine lv_iload_n hx hb dX11_may_13 rfl (lv_at hl 1 rfl) ?_
    obtain ⟨r3, S3, e3, h⟩ := obd2_ex h
    refine k_V (As := [.int x1]) (rest := []) (st1 := [.int r3]) C kx hK I hA (c_X11_mayBe e3) ⟨Nat.le_of_ble_eq_true rfl, Nat.le_of_ble_eq_true rfl⟩ mv_X11_mayBe lk_X11_162 0 11 (mw_0 (cI := cI) (ad := ad)) rfl rfl hl.1 rfl (Nat.le_of_ble_eq_true rfl) dX11_may_14 rfl (fun H locs I => ?_)
    refine lv_if_eq (tgt := 24) hx hb dX11_may_17 (by decide) (fun c4 => ?_) (fun c4 => ?_)
    · have h := ite_t c4 h
      refine lv_iconst (v := 0) hx hb dX11_may_24 (by decide) ?_
      exact rt_i hq h I dX11_may_25
    · have h := ite_n c4 h
      refine lv_iconst (v := 1) hx hb dX11_may_20 (by decide) ?_
      refine lv_goto (tgt := 25) hx hb dX11_may_21 (by decide) ?_
      exact rt_i hq h I dX11_may_25
  · have h := ite_t c2 h
    refine lv_bipush (v := (-3)) hx hb dX11_may_7 (by decide) ?_
    refine lv_goto (tgt := 25) hx hb dX11_may_9 (by decide) ?_
    exact rt_i hq h I dX11_may_25
theorem dX11_fits_0 : decode cX11_fits 0 = .ok (.iload_n 1, 1) := by decide +kernel
theorem dX11_fits_1 : decode cX11_fits 1 = .ok (.iload_n 0, 1) := by decide +kernel
theorem dX11_fits_2 : decode cX11_fits 2 = .ok (.iconst (-1), 1) := by decide +kernel
theorem dX11_fits_3 : decode cX11_fits 3 = .ok (.ixor, 1) := by decide +kernel
theorem dX11_fits_4 : decode cX11_fits 4 = .ok (.iand, 1) := by decide +kernel
theorem dX11_fits_5 : decode cX11_fits 5 = .ok (.ifCond .ne 17, 3) := by decide +kernel
theorem dX11_fits_8 : decode cX11_fits 8 = .ok (.iload_n 2, 1) := by decide +kernel
theorem dX11_fits_9 : decode cX11_fits 9 = .ok (.ifCond .eq 9, 3) := by decide +kernel
theorem dX11_fits_12 : decode cX11_fits 12 = .ok (.iload_n 2, 1) := by decide +kernel
theorem dX11_fits_13 : decode cX11_fits 13 = .ok (.iload_n 0, 1) := by decide +kernel
theorem dX11_fits_14 : decode cX11_fits 14 = .ok (.iand, 1) := by decide +kernel
theorem dX11_fits_15 : decode cX11_fits 15 = .ok (.ifCond .eq 7, 3) := by decide +kernel
theorem dX11_fits_18 : decode cX11_fits 18 = .ok (.iconst 1, 1) := by decide +kernel
theorem dX11_fits_19 : decode cX11_fits 19 = .ok (.goto 4, 3) := by decide +kernel
theorem dX11_fits_22 : decode cX11_fits 22 = .ok (.iconst 0, 1) := by decide +kernel
theorem dX11_fits_23 : decode cX11_fits 23 = .ok (.ireturn, 1) := by decide +kernel
def f_X11_fits_18 (S : St)  : Option (Int32 × St) :=
  some (1, S)
def f_X11_fits (S : St) (x0 : Int32) (x1 : Int32) (x2 : Int32) : Option (Int32 × St) :=
  if (x1 &&& (x0 ^^^ (-1))) = 0 then (
    if x2 = 0 then (
      f_X11_fits_18 S 
    ) else (
      if (x2 &&& x0) = 0 then (
        some (0, S)
      ) else (
        f_X11_fits_18 S 
      )
    )
  ) else (
    some (0, S)
  )
set_option maxHeartbeats 4000000 in
set_option maxRecDepth 100000 in
theorem c_X11_fits {l : Launch} {D : va_G} {cI cC cS : ClassId} {ad adK adV : Nat → Nat} {S S1 : St} {x0 : Int32} {x1 : Int32} {x2 : Int32} {r : Int32} (h : f_X11_fits S x0 x1 x2 = some (r, S1)) : Kt l D (mw cI ad) (KX D (xtys cI cC cS) adK adV) yX11_fits cX11_fits 3 (some .boolean) (0) (0) [.int x0, .int x1, .int x2] S (some (.int r)) S1 := by
  refine k_entz (by decide +kernel) (Nat.le_of_ble_eq_true rfl) ?_
  intro p e s m args below meth c A Q C hK I hA hq ls hl
  have C : CallFix p m c cX11_fits 3 s args TT RX11 := C
  have hx := C.1
  have hb := C.2.1
  have kx := kx_ok D (xtys cI cC cS) adK adV
  have hl : lv_has ls 3 [(0, .int x0), (1, .int x1), (2, .int x2)] := hl
  have J_18 : ∀ (S : St) , f_X11_fits_18  S  = some (r, S1) → ∀ (H : Heap) (locs : List Loc) (ls : Array Slot), Iv D (mw cI ad) S A s H locs → lv_has ls 3 [] → W p l e ({ frames := 0, cells := 0, slots := 0, locals := 0 } : Room) s m args below meth c H locs 0 0 Q (F0 m 18 ls []) := by
    intro  S  h H locs ls I hl
    unfold f_X11_fits_18 at h
    refine lv_iconst (v := 1) hx hb dX11_fits_18 (by decide) ?_
    refine lv_goto (tgt := 23) hx hb dX11_fits_19 (by decide) ?_
    exact rt_z (Or.inr rfl) hq h I dX11_fits_23
  unfold f_X11_fits at h
  refine lv_iload_n hx hb dX11_fits_0 rfl (lv_at hl 1 rfl) ?_
  refine lv_iload_n hx hb dX11_fits_1 rfl (lv_at hl 0 rfl) ?_
  refine lv_iconst (v := (-1)) hx hb dX11_fits_2 (by decide) ?_
  refine lv_ixor hx hb dX11_fits_3 ?_
  refine lv_iand hx hb dX11_fits_4 ?_
  refine lv_if_ne (tgt := 22) hx hb dX11_fits_5 (by decide) (fun c1 => ?_) (fun c1 => ?_)
  · have h := ite_n c1 h
    refine lv_iconst (v := 0) hx hb dX11_fits_22 (by decide) ?_
    exact rt_z (Or.inl rfl) hq h I dX11_fits_23
  · have h := ite_t c1 h
    refine lv_iload_n hx hb dX11_fits_8 rfl (lv_at hl 2 rfl) ?_
    refine lv_if_eq (tgt := 18) hx hb dX11_fits_9 (by decide) (fun c2 => ?_) (fun c2 => ?_)
    · have h := ite_t c2 h
      exact J_18 _  h _ _ _ I (lv_sub hl [] rfl)
    · have h := ite_n c2 h
      refine lv_iload_n hx hb dX11_fits_12 rfl (lv_at hl 2 rfl) ?_
      refine lv_iload_n hx hb dX11_fits_13 rfl (lv_at hl 0 rfl) ?_
      refine lv_iand hx hb dX11_fits_14 ?_
      refine lv_if_eq (tgt := 22) hx hb dX11_fits_15 (by decide) (fun c3 => ?_) (fun c3 => ?_)
      · have h := ite_t c3 h
        refine lv_iconst (v := 0) hx hb dX11_fits_22 (by decide) ?_
        exact rt_z (Or.inl rfl) hq h I dX11_fits_23
      · have h := ite_n c3 h
        exact J_18 _  h _ _ _ I (lv_sub hl [] rfl)
theorem lk_X11_165 : Cond.methodLink RX11 165 yX11_fits ∈ TT := tt_of 1335 (by decide +kernel) rfl
theorem ms_X11_fits : MS yX11_fits cX11_fits 3 (some .boolean) 3 := ⟨tt_of 1337 (by decide +kernel) rfl, tt_of 1336 (by decide +kernel) rfl, tt_of 76 (by decide +kernel) rfl, ⟨by decide +kernel, by decide +kernel, by decide +kernel⟩⟩
theorem dX11_leftOf_0 : decode cX11_leftOf 0 = .ok (.aload_n 0, 1) := by decide +kernel
theorem dX11_leftOf_1 : decode cX11_leftOf 1 = .ok (.getfield 41, 3) := by decide +kernel
theorem dX11_leftOf_4 : decode cX11_leftOf 4 = .ok (.bipush 16, 2) := by decide +kernel
theorem dX11_leftOf_6 : decode cX11_leftOf 6 = .ok (.iload_n 2, 1) := by decide +kernel
theorem dX11_leftOf_7 : decode cX11_leftOf 7 = .ok (.imul, 1) := by decide +kernel
theorem dX11_leftOf_8 : decode cX11_leftOf 8 = .ok (.iconst 4, 1) := by decide +kernel
theorem dX11_leftOf_9 : decode cX11_leftOf 9 = .ok (.iload_n 3, 1) := by decide +kernel
theorem dX11_leftOf_10 : decode cX11_leftOf 10 = .ok (.imul, 1) := by decide +kernel
theorem dX11_leftOf_11 : decode cX11_leftOf 11 = .ok (.iadd, 1) := by decide +kernel
theorem dX11_leftOf_12 : decode cX11_leftOf 12 = .ok (.iconst 2, 1) := by decide +kernel
theorem dX11_leftOf_13 : decode cX11_leftOf 13 = .ok (.iadd, 1) := by decide +kernel
theorem dX11_leftOf_14 : decode cX11_leftOf 14 = .ok (.iaload, 1) := by decide +kernel
theorem dX11_leftOf_15 : decode cX11_leftOf 15 = .ok (.istore 4, 2) := by decide +kernel
theorem dX11_leftOf_17 : decode cX11_leftOf 17 = .ok (.aload_n 0, 1) := by decide +kernel
theorem dX11_leftOf_18 : decode cX11_leftOf 18 = .ok (.getfield 41, 3) := by decide +kernel
theorem dX11_leftOf_21 : decode cX11_leftOf 21 = .ok (.bipush 16, 2) := by decide +kernel
theorem dX11_leftOf_23 : decode cX11_leftOf 23 = .ok (.iload_n 2, 1) := by decide +kernel
theorem dX11_leftOf_24 : decode cX11_leftOf 24 = .ok (.imul, 1) := by decide +kernel
theorem dX11_leftOf_25 : decode cX11_leftOf 25 = .ok (.iconst 4, 1) := by decide +kernel
theorem dX11_leftOf_26 : decode cX11_leftOf 26 = .ok (.iload_n 3, 1) := by decide +kernel
theorem dX11_leftOf_27 : decode cX11_leftOf 27 = .ok (.imul, 1) := by decide +kernel
theorem dX11_leftOf_28 : decode cX11_leftOf 28 = .ok (.iadd, 1) := by decide +kernel
theorem dX11_leftOf_29 : decode cX11_leftOf 29 = .ok (.iconst 3, 1) := by decide +kernel
theorem dX11_leftOf_30 : decode cX11_leftOf 30 = .ok (.iadd, 1) := by decide +kernel
theorem dX11_leftOf_31 : decode cX11_leftOf 31 = .ok (.iaload, 1) := by decide +kernel
theorem dX11_leftOf_32 : decode cX11_leftOf 32 = .ok (.istore 5, 2) := by decide +kernel
theorem dX11_leftOf_34 : decode cX11_leftOf 34 = .ok (.iload_n 1, 1) := by decide +kernel
theorem dX11_leftOf_35 : decode cX11_leftOf 35 = .ok (.iload 4, 2) := by decide +kernel
theorem dX11_leftOf_37 : decode cX11_leftOf 37 = .ok (.iload 5, 2) := by decide +kernel
theorem dX11_leftOf_39 : decode cX11_leftOf 39 = .ok (.invokestatic 165, 3) := by decide +kernel
theorem dX11_leftOf_42 : decode cX11_leftOf 42 = .ok (.ifCond .ne 5, 3) := by decide +kernel
theorem dX11_leftOf_45 : decode cX11_leftOf 45 = .ok (.iconst (-1), 1) := by decide +kernel
theorem dX11_leftOf_46 : decode cX11_leftOf 46 = .ok (.ireturn, 1) := by decide +kernel
theorem dX11_leftOf_47 : decode cX11_leftOf 47 = .ok (.iload 4, 2) := by decide +kernel
theorem dX11_leftOf_49 : decode cX11_leftOf 49 = .ok (.istore 6, 2) := by decide +kernel
theorem dX11_leftOf_51 : decode cX11_leftOf 51 = .ok (.iload 5, 2) := by decide +kernel
theorem dX11_leftOf_53 : decode cX11_leftOf 53 = .ok (.iload_n 1, 1) := by decide +kernel
theorem dX11_leftOf_54 : decode cX11_leftOf 54 = .ok (.iand, 1) := by decide +kernel
theorem dX11_leftOf_55 : decode cX11_leftOf 55 = .ok (.istore 7, 2) := by decide +kernel
theorem dX11_leftOf_57 : decode cX11_leftOf 57 = .ok (.iconst 0, 1) := by decide +kernel
theorem dX11_leftOf_58 : decode cX11_leftOf 58 = .ok (.istore 8, 2) := by decide +kernel
theorem dX11_leftOf_60 : decode cX11_leftOf 60 = .ok (.iload 8, 2) := by decide +kernel
theorem dX11_leftOf_62 : decode cX11_leftOf 62 = .ok (.bipush 8, 2) := by decide +kernel
theorem dX11_leftOf_64 : decode cX11_leftOf 64 = .ok (.if_icmp .ge 31, 3) := by decide +kernel
theorem dX11_leftOf_67 : decode cX11_leftOf 67 = .ok (.iload 7, 2) := by decide +kernel
theorem dX11_leftOf_69 : decode cX11_leftOf 69 = .ok (.iload 8, 2) := by decide +kernel
theorem dX11_leftOf_71 : decode cX11_leftOf 71 = .ok (.invokestatic 85, 3) := by decide +kernel
theorem dX11_leftOf_74 : decode cX11_leftOf 74 = .ok (.ifCond .eq 15, 3) := by decide +kernel
theorem dX11_leftOf_77 : decode cX11_leftOf 77 = .ok (.iload 6, 2) := by decide +kernel
theorem dX11_leftOf_79 : decode cX11_leftOf 79 = .ok (.iconst 1, 1) := by decide +kernel
theorem dX11_leftOf_80 : decode cX11_leftOf 80 = .ok (.iload 8, 2) := by decide +kernel
theorem dX11_leftOf_82 : decode cX11_leftOf 82 = .ok (.ishl, 1) := by decide +kernel
theorem dX11_leftOf_83 : decode cX11_leftOf 83 = .ok (.ior, 1) := by decide +kernel
theorem dX11_leftOf_84 : decode cX11_leftOf 84 = .ok (.istore 6, 2) := by decide +kernel
theorem dX11_leftOf_86 : decode cX11_leftOf 86 = .ok (.iconst 0, 1) := by decide +kernel
theorem dX11_leftOf_87 : decode cX11_leftOf 87 = .ok (.istore 7, 2) := by decide +kernel
theorem dX11_leftOf_89 : decode cX11_leftOf 89 = .ok (.iinc 8 1, 3) := by decide +kernel
theorem dX11_leftOf_92 : decode cX11_leftOf 92 = .ok (.goto (-32), 3) := by decide +kernel
theorem dX11_leftOf_95 : decode cX11_leftOf 95 = .ok (.iload_n 1, 1) := by decide +kernel
theorem dX11_leftOf_96 : decode cX11_leftOf 96 = .ok (.iload 6, 2) := by decide +kernel
theorem dX11_leftOf_98 : decode cX11_leftOf 98 = .ok (.aload_n 0, 1) := by decide +kernel
theorem dX11_leftOf_99 : decode cX11_leftOf 99 = .ok (.getfield 130, 3) := by decide +kernel
theorem dX11_leftOf_102 : decode cX11_leftOf 102 = .ok (.iconst (-1), 1) := by decide +kernel
theorem dX11_leftOf_103 : decode cX11_leftOf 103 = .ok (.ixor, 1) := by decide +kernel
theorem dX11_leftOf_104 : decode cX11_leftOf 104 = .ok (.iand, 1) := by decide +kernel
theorem dX11_leftOf_105 : decode cX11_leftOf 105 = .ok (.iconst (-1), 1) := by decide +kernel
theorem dX11_leftOf_106 : decode cX11_leftOf 106 = .ok (.ixor, 1) := by decide +kernel
theorem dX11_leftOf_107 : decode cX11_leftOf 107 = .ok (.iand, 1) := by decide +kernel
theorem dX11_leftOf_108 : decode cX11_leftOf 108 = .ok (.ireturn, 1) := by decide +kernel
def f_X11_leftOf_89 (k_60 : St → Int32 → Int32 → Int32 → Int32 → Option (Int32 × St)) (S : St) (x1 : Int32) (x6 : Int32) (x7 : Int32) (x8 : Int32) : Option (Int32 × St) :=
  bnd (x8 + 1 : Int32) fun v1 =>
  k_60 S x1 x6 x7 v1
def f_X11_leftOf_60 (k_60 : St → Int32 → Int32 → Int32 → Int32 → Option (Int32 × St)) (S : St) (x1 : Int32) (x6 : Int32) (x7 : Int32) (x8 : Int32) : Option (Int32 × St) :=
  if 8 ≤ x8 then (
    some ((x1 &&& ((x6 &&& ((S.1 0 6) ^^^ (-1))) ^^^ (-1))), S)
  ) else (
    obd2 (f_X11_has S x7 x8) fun r3 S3 =>
    if r3 = 0 then (
      f_X11_leftOf_89 k_60 S3 x1 x6 x7 x8
    ) else (
      bnd ((x6 ||| ((1 : Int32) <<< (x8 &&& 31))) : Int32) fun v5 =>
      f_X11_leftOf_89 k_60 S3 x1 v5 0 x8
    )
  )
def l_X11_leftOf_60 : Nat → St → Int32 → Int32 → Int32 → Int32 → Option (Int32 × St)
  | 0, _, _, _, _, _ => none
  | fu + 1, S, x1, x6, x7, x8 => f_X11_leftOf_60 (l_X11_leftOf_60 fu) S x1 x6 x7 x8
def f_X11_leftOf (S : St) (x1 : Int32) (x2 : Int32) (x3 : Int32) : Option (Int32 × St) :=
  chk (ixo (((16 * x2) + (4 * x3)) + 2) 96) <|
  bnd ((S.1 8 ((((16 * x2) + (4 * x3)) + 2)).toNatClampNeg) : Int32) fun v7 =>
  chk (ixo (((16 * x2) + (4 * x3)) + 3) 96) <|
  bnd ((S.1 8 ((((16 * x2) + (4 * x3)) + 3)).toNatClampNeg) : Int32) fun v9 =>
  obd2 (f_X11_fits S x1 v7 v9) fun r10 S10 =>
  if r10 = 0 then (
    some ((-1), S10)
  ) else (
    bnd ((v9 &&& x1) : Int32) fun v12 =>
    l_X11_leftOf_60 FU S10 x1 v7 v12 0
  )
set_option maxHeartbeats 4000000 in
set_option maxRecDepth 100000 in
theorem c_X11_leftOf {l : Launch} {D : va_G} {cI cC cS : ClassId} {ad adK adV : Nat → Nat} {S S1 : St} {x1 : Int32} {x2 : Int32} {x3 : Int32} {r : Int32} (h : f_X11_leftOf S x1 x2 x3 = some (r, S1)) : Kt l D (mw cI ad) (KX D (xtys cI cC cS) adK adV) yX11_leftOf cX11_leftOf 9 (some .int) (1) (22) [.ref (ad 0), .int x1, .int x2, .int x3] S (some (.int r)) S1 := by
  refine k_ent (ins := .ireturn) (st := [.int r]) (by decide +kernel) (Nat.le_of_ble_eq_true rfl) ret_i ?_
  intro p e s m args below meth c A Q C hK I hA hq ls hl
  have C : CallFix p m c cX11_leftOf 9 s args TT RX11 := C
  have hx := C.1
  have hb := C.2.1
  have kx := kx_ok D (xtys cI cC cS) adK adV
  have hl : lv_has ls 9 [(0, .ref (ad 0)), (1, .int x1), (2, .int x2), (3, .int x3)] := hl
  have J_89 : ∀ (k_60 : St → Int32 → Int32 → Int32 → Int32 → Option (Int32 × St)) (hk_60 : ∀ (S : St) (x1 : Int32) (x6 : Int32) (x7 : Int32) (x8 : Int32), k_60 S x1 x6 x7 x8 = some (r, S1) → ∀ (H : Heap) (locs : List Loc) (ls : Array Slot), Iv D (mw cI ad) S A s H locs → lv_has ls 9 [(0, .ref (ad 0)), (1, .int x1), (6, .int x6), (7, .int x7), (8, .int x8)] → W p l e ({ frames := 1, cells := 0, slots := 0, locals := 22 } : Room) s m args below meth c H locs 0 0 Q (F0 m 60 ls [])) (S : St) (x1 : Int32) (x6 : Int32) (x7 : Int32) (x8 : Int32), f_X11_leftOf_89 k_60 S x1 x6 x7 x8 = some (r, S1) → ∀ (H : Heap) (locs : List Loc) (ls : Array Slot), Iv D (mw cI ad) S A s H locs → lv_has ls 9 [(0, .ref (ad 0)), (1, .int x1), (6, .int x6), (7, .int x7), (8, .int x8)] → W p l e ({ frames := 1, cells := 0, slots := 0, locals := 22 } : Room) s m args below meth c H locs 0 0 Q (F0 m 89 ls []) := by
    intro k_60 hk_60 S x1 x6 x7 x8 h H locs ls I hl
    unfold f_X11_leftOf_89 at h
    obtain ⟨v1, ev1⟩ : ∃ y : Int32, y = x8 + 1 := ⟨_, rfl⟩
    have h := bnd_at ev1 h
    refine lv_iinc (v := v1) (lv' := [(8, .int v1), (0, .ref (ad 0)), (1, .int x1), (6, .int x6), (7, .int x7)]) hx hb dX11_leftOf_89 hl (k := 4) rfl (by rw [ev1]; rfl) (by decide) rfl (fun ls hl => ?_)
    clear ev1
    refine lv_goto (tgt := 60) hx hb dX11_leftOf_92 (by decide) ?_
    exact hk_60 _ _ _ _ _ h _ _ _ I (lv_sub hl [1, 2, 3, 4, 0] rfl)
  have B_60 : ∀ (k_60 : St → Int32 → Int32 → Int32 → Int32 → Option (Int32 × St)) (hk_60 : ∀ (S : St) (x1 : Int32) (x6 : Int32) (x7 : Int32) (x8 : Int32), k_60 S x1 x6 x7 x8 = some (r, S1) → ∀ (H : Heap) (locs : List Loc) (ls : Array Slot), Iv D (mw cI ad) S A s H locs → lv_has ls 9 [(0, .ref (ad 0)), (1, .int x1), (6, .int x6), (7, .int x7), (8, .int x8)] → W p l e ({ frames := 1, cells := 0, slots := 0, locals := 22 } : Room) s m args below meth c H locs 0 0 Q (F0 m 60 ls [])) (S : St) (x1 : Int32) (x6 : Int32) (x7 : Int32) (x8 : Int32), f_X11_leftOf_60 k_60 S x1 x6 x7 x8 = some (r, S1) → ∀ (H : Heap) (locs : List Loc) (ls : Array Slot), Iv D (mw cI ad) S A s H locs → lv_has ls 9 [(0, .ref (ad 0)), (1, .int x1), (6, .int x6), (7, .int x7), (8, .int x8)] → W p l e ({ frames := 1, cells := 0, slots := 0, locals := 22 } : Room) s m args below meth c H locs 0 0 Q (F0 m 60 ls []) := by
    intro k_60 hk_60 S x1 x6 x7 x8 h H locs ls I hl
    unfold f_X11_leftOf_60 at h
    refine lv_iload hx hb dX11_leftOf_60 (lv_at hl 4 rfl) ?_
    refine lv_bipush (v := 8) hx hb dX11_leftOf_62 (by decide) ?_
    refine lv_icmp_ge (tgt := 95) hx hb dX11_leftOf_64 (by decide) (fun c2 => ?_) (fun c2 => ?_)
    · have h := ite_t c2 h
      refine lv_iload_n hx hb dX11_leftOf_95 rfl (lv_at hl 1 rfl) ?_
      refine lv_iload hx hb dX11_leftOf_96 (lv_at hl 2 rfl) ?_
      refine lv_aload_n hx hb dX11_leftOf_98 rfl (lv_at hl 0 rfl) ?_
      refine gm_0_6 C hK I fl_X11_130 dX11_leftOf_99 ?_
      refine lv_iconst (v := (-1)) hx hb dX11_leftOf_102 (by decide) ?_
      refine lv_ixor hx hb dX11_leftOf_103 ?_
      refine lv_iand hx hb dX11_leftOf_104 ?_
      refine lv_iconst (v := (-1)) hx hb dX11_leftOf_105 (by decide) ?_
      refine lv_ixor hx hb dX11_leftOf_106 ?_
      refine lv_iand hx hb dX11_leftOf_107 ?_
      exact rt_i hq h I dX11_leftOf_108
    · have h := ite_n c2 h
      refine lv_iload hx hb dX11_leftOf_67 (lv_at hl 3 rfl) ?_
      refine lv_iload hx hb dX11_leftOf_69 (lv_at hl 4 rfl) ?_
      obtain ⟨r3, S3, e3, h⟩ := obd2_ex h
      refine k_S (As := [.int x7, .int x8]) (rest := []) (st1 := [.int r3]) C kx hK I hA (c_X11_has e3) ⟨Nat.le_of_ble_eq_true rfl, Nat.le_of_ble_eq_true rfl⟩ ms_X11_has lk_X11_85 rfl hl.1 rfl (Nat.le_of_ble_eq_true rfl) dX11_leftOf_71 rfl (fun H locs I => ?_)
      refine lv_if_eq (tgt := 89) hx hb dX11_leftOf_74 (by decide) (fun c4 => ?_) (fun c4 => ?_)
      · have h := ite_t c4 h
        exact J_89 k_60 hk_60 _ _ _ _ _ h _ _ _ I (lv_sub hl [0, 1, 2, 3, 4] rfl)
      · have h := ite_n c4 h
        refine lv_iload hx hb dX11_leftOf_77 (lv_at hl 2 rfl) ?_
        refine lv_iconst (v := 1) hx hb dX11_leftOf_79 (by decide) ?_
        refine lv_iload hx hb dX11_leftOf_80 (lv_at hl 4 rfl) ?_
        refine lv_ishl hx hb dX11_leftOf_82 ?_
        refine lv_ior hx hb dX11_leftOf_83 ?_
        refine lv_topi (fun v5 ev5 => ?_)
        have h := bnd_at ev5 h
        clear ev5
        refine lv_istore (lv' := [(6, .int v5), (0, .ref (ad 0)), (1, .int x1), (7, .int x7), (8, .int x8)]) hx hb dX11_leftOf_84 hl (by decide) rfl (fun ls hl => ?_)
        refine lv_iconst (v := 0) hx hb dX11_leftOf_86 (by decide) ?_
        refine lv_istore (lv' := [(7, .int 0), (6, .int v5), (0, .ref (ad 0)), (1, .int x1), (8, .int x8)]) hx hb dX11_leftOf_87 hl (by decide) rfl (fun ls hl => ?_)
        exact J_89 k_60 hk_60 _ _ _ _ _ h _ _ _ I (lv_sub hl [2, 3, 1, 0, 4] rfl)
  have J_60 : ∀ (fu : Nat) (S : St) (x1 : Int32) (x6 : Int32) (x7 : Int32) (x8 : Int32), l_X11_leftOf_60  fu S x1 x6 x7 x8 = some (r, S1) → ∀ (H : Heap) (locs : List Loc) (ls : Array Slot), Iv D (mw cI ad) S A s H locs → lv_has ls 9 [(0, .ref (ad 0)), (1, .int x1), (6, .int x6), (7, .int x7), (8, .int x8)] → W p l e ({ frames := 1, cells := 0, slots := 0, locals := 22 } : Room) s m args below meth c H locs 0 0 Q (F0 m 60 ls []) := by
    intro fu
    induction fu with
    | zero => intro S x1 x6 x7 x8 h; cases h
    | succ fu ih => intro S x1 x6 x7 x8 h; exact B_60 (l_X11_leftOf_60 fu) ih S x1 x6 x7 x8 h
  unfold f_X11_leftOf at h
  refine lv_aload_n hx hb dX11_leftOf_0 rfl (lv_at hl 0 rfl) ?_
  refine gm_0_14 C hK I fl_X11_41 dX11_leftOf_1 ?_
  refine lv_bipush (v := 16) hx hb dX11_leftOf_4 (by decide) ?_
  refine lv_iload_n hx hb dX11_leftOf_6 rfl (lv_at hl 2 rfl) ?_
  refine lv_imul hx hb dX11_leftOf_7 ?_
  refine lv_iconst (v := 4) hx hb dX11_leftOf_8 (by decide) ?_
  refine lv_iload_n hx hb dX11_leftOf_9 rfl (lv_at hl 3 rfl) ?_
  refine lv_imul hx hb dX11_leftOf_10 ?_
  refine lv_iadd hx hb dX11_leftOf_11 ?_
  refine lv_iconst (v := 2) hx hb dX11_leftOf_12 (by decide) ?_
  refine lv_iadd hx hb dX11_leftOf_13 ?_
  obtain ⟨hv6, h⟩ := chk_ex h
  refine am_8 C hK I hv6 dX11_leftOf_14 ?_
  refine lv_topi (fun v7 ev7 => ?_)
  have h := bnd_at ev7 h
  clear ev7
  refine lv_istore (lv' := [(4, .int v7), (0, .ref (ad 0)), (1, .int x1), (2, .int x2), (3, .int x3)]) hx hb dX11_leftOf_15 hl (by decide) rfl (fun ls hl => ?_)
  refine lv_aload_n hx hb dX11_leftOf_17 rfl (lv_at hl 1 rfl) ?_
  refine gm_0_14 C hK I fl_X11_41 dX11_leftOf_18 ?_
  refine lv_bipush (v := 16) hx hb dX11_leftOf_21 (by decide) ?_
  refine lv_iload_n hx hb dX11_leftOf_23 rfl (lv_at hl 3 rfl) ?_
  refine lv_imul hx hb dX11_leftOf_24 ?_
  refine lv_iconst (v := 4) hx hb dX11_leftOf_25 (by decide) ?_
  refine lv_iload_n hx hb dX11_leftOf_26 rfl (lv_at hl 4 rfl) ?_
  refine lv_imul hx hb dX11_leftOf_27 ?_
  refine lv_iadd hx hb dX11_leftOf_28 ?_
  refine lv_iconst (v := 3) hx hb dX11_leftOf_29 (by decide) ?_
  refine lv_iadd hx hb dX11_leftOf_30 ?_
  obtain ⟨hv8, h⟩ := chk_ex h
  refine am_8 C hK I hv8 dX11_leftOf_31 ?_
  refine lv_topi (fun v9 ev9 => ?_)
  have h := bnd_at ev9 h
  clear ev9
  refine lv_istore (lv' := [(5, .int v9), (4, .int v7), (0, .ref (ad 0)), (1, .int x1), (2, .int x2), (3, .int x3)]) hx hb dX11_leftOf_32 hl (by decide) rfl (fun ls hl => ?_)
  refine lv_iload_n hx hb dX11_leftOf_34 rfl (lv_at hl 3 rfl) ?_
  refine lv_iload hx hb dX11_leftOf_35 (lv_at hl 1 rfl) ?_
  refine lv_iload hx hb dX11_leftOf_37 (lv_at hl 0 rfl) ?_
  obtain ⟨r10, S10, e10, h⟩ := obd2_ex h
  refine k_S (As := [.int x1, .int v7, .int v9]) (rest := []) (st1 := [.int r10]) C kx hK I hA (c_X11_fits e10) ⟨Nat.le_of_ble_eq_true rfl, Nat.le_of_ble_eq_true rfl⟩ ms_X11_fits lk_X11_165 rfl hl.1 rfl (Nat.le_of_ble_eq_true rfl) dX11_leftOf_39 rfl (fun H locs I => ?_)
  refine lv_if_ne (tgt := 47) hx hb dX11_leftOf_42 (by decide) (fun c11 => ?_) (fun c11 => ?_)
  · have h := ite_n c11 h
    refine lv_iload hx hb dX11_leftOf_47 (lv_at hl 1 rfl) ?_
    refine lv_istore (lv' := [(6, .int v7), (5, .int v9), (4, .int v7), (0, .ref (ad 0)), (1, .int x1), (2, .int x2), (3, .int x3)]) hx hb dX11_leftOf_49 hl (by decide) rfl (fun ls hl => ?_)
    refine lv_iload hx hb dX11_leftOf_51 (lv_at hl 1 rfl) ?_
    refine lv_iload_n hx hb dX11_leftOf_53 rfl (lv_at hl 4 rfl) ?_
    refine lv_iand hx hb dX11_leftOf_54 ?_
    refine lv_topi (fun v12 ev12 => ?_)
    have h := bnd_at ev12 h
    clear ev12
    refine lv_istore (lv' := [(7, .int v12), (6, .int v7), (5, .int v9), (4, .int v7), (0, .ref (ad 0)), (1, .int x1), (2, .int x2), (3, .int x3)]) hx hb dX11_leftOf_55 hl (by decide) rfl (fun ls hl => ?_)
    refine lv_iconst (v := 0) hx hb dX11_leftOf_57 (by decide) ?_
    refine lv_istore (lv' := [(8, .int 0), (7, .int v12), (6, .int v7), (5, .int v9), (4, .int v7), (0, .ref (ad 0)), (1, .int x1), (2, .int x2), (3, .int x3)]) hx hb dX11_leftOf_58 hl (by decide) rfl (fun ls hl => ?_)
    exact J_60 _ _ _ _ _ _ h _ _ _ I (lv_sub hl [5, 6, 2, 1, 0] rfl)
  · have h := ite_t c11 h
    refine lv_iconst (v := (-1)) hx hb dX11_leftOf_45 (by decide) ?_
    exact rt_i hq h I dX11_leftOf_46
theorem lk_X11_168 : Cond.methodLink RX11 168 yX11_leftOf ∈ TT := tt_of 1331 (by decide +kernel) rfl
theorem mv_X11_leftOf : MV yX11_leftOf cX11_leftOf 9 (some .int) 3 := ⟨tt_of 1334 (by decide +kernel) rfl, tt_of 1333 (by decide +kernel) rfl, tt_of 37 (by decide +kernel) rfl, tt_of 76 (by decide +kernel) rfl, ⟨by decide +kernel, by decide +kernel, by decide +kernel⟩⟩
theorem dX11_does_0 : decode cX11_does 0 = .ok (.aload_n 0, 1) := by decide +kernel
theorem dX11_does_1 : decode cX11_does 1 = .ok (.iload_n 2, 1) := by decide +kernel
theorem dX11_does_2 : decode cX11_does 2 = .ok (.iload_n 3, 1) := by decide +kernel
theorem dX11_does_3 : decode cX11_does 3 = .ok (.invokevirtual 151, 3) := by decide +kernel
theorem dX11_does_6 : decode cX11_does 6 = .ok (.ifCond .ne 6, 3) := by decide +kernel
theorem dX11_does_9 : decode cX11_does 9 = .ok (.bipush (-2), 2) := by decide +kernel
theorem dX11_does_11 : decode cX11_does 11 = .ok (.ireturn, 1) := by decide +kernel
theorem dX11_does_12 : decode cX11_does 12 = .ok (.iload_n 1, 1) := by decide +kernel
theorem dX11_does_13 : decode cX11_does 13 = .ok (.invokestatic 159, 3) := by decide +kernel
theorem dX11_does_16 : decode cX11_does 16 = .ok (.ifCond .eq 13, 3) := by decide +kernel
theorem dX11_does_19 : decode cX11_does 19 = .ok (.aload_n 0, 1) := by decide +kernel
theorem dX11_does_20 : decode cX11_does 20 = .ok (.iload_n 1, 1) := by decide +kernel
theorem dX11_does_21 : decode cX11_does 21 = .ok (.iload_n 2, 1) := by decide +kernel
theorem dX11_does_22 : decode cX11_does 22 = .ok (.iload_n 3, 1) := by decide +kernel
theorem dX11_does_23 : decode cX11_does 23 = .ok (.invokevirtual 168, 3) := by decide +kernel
theorem dX11_does_26 : decode cX11_does 26 = .ok (.goto 5, 3) := by decide +kernel
theorem dX11_does_29 : decode cX11_does 29 = .ok (.bipush (-3), 2) := by decide +kernel
theorem dX11_does_31 : decode cX11_does 31 = .ok (.ireturn, 1) := by decide +kernel
def f_X11_does (S : St) (x1 : Int32) (x2 : Int32) (x3 : Int32) : Option (Int32 × St) :=
  obd2 (f_X11_isSort S x2 x3) fun r1 S1 =>
  if r1 = 0 then (
    some ((-2), S1)
  ) else (
    obd2 (f_X11_isBag S1 x1) fun r3 S3 =>
    if r3 = 0 then (
      some ((-3), S3)
    ) else (
      obd2 (f_X11_leftOf S3 x1 x2 x3) fun r5 S5 =>
      some (r5, S5)
    )
  )
set_option maxHeartbeats 4000000 in
set_option maxRecDepth 100000 in
theorem c_X11_does {l : Launch} {D : va_G} {cI cC cS : ClassId} {ad adK adV : Nat → Nat} {S S1 : St} {x1 : Int32} {x2 : Int32} {x3 : Int32} {r : Int32} (h : f_X11_does S x1 x2 x3 = some (r, S1)) : Kt l D (mw cI ad) (KX D (xtys cI cC cS) adK adV) yX11_does cX11_does 4 (some .int) (3) (68) [.ref (ad 0), .int x1, .int x2, .int x3] S (some (.int r)) S1 := by
  refine k_ent (ins := .ireturn) (st := [.int r]) (by decide +kernel) (Nat.le_of_ble_eq_true rfl) ret_i ?_
  intro p e s m args below meth c A Q C hK I hA hq ls hl
  have C : CallFix p m c cX11_does 4 s args TT RX11 := C
  have hx := C.1
  have hb := C.2.1
  have kx := kx_ok D (xtys cI cC cS) adK adV
  have hl : lv_has ls 4 [(0, .ref (ad 0)), (1, .int x1), (2, .int x2), (3, .int x3)] := hl
  unfold f_X11_does at h
  refine lv_aload_n hx hb dX11_does_0 rfl (lv_at hl 0 rfl) ?_
  refine lv_iload_n hx hb dX11_does_1 rfl (lv_at hl 2 rfl) ?_
  refine lv_iload_n hx hb dX11_does_2 rfl (lv_at hl 3 rfl) ?_
  obtain ⟨r1, S1, e1, h⟩ := obd2_ex h
  refine k_V (As := [.int x2, .int x3]) (rest := []) (st1 := [.int r1]) C kx hK I hA (c_X11_isSort e1) ⟨Nat.le_of_ble_eq_true rfl, Nat.le_of_ble_eq_true rfl⟩ mv_X11_isSort lk_X11_151 0 11 (mw_0 (cI := cI) (ad := ad)) rfl rfl hl.1 rfl (Nat.le_of_ble_eq_true rfl) dX11_does_3 rfl (fun H locs I => ?_)
  refine lv_if_ne (tgt := 12) hx hb dX11_does_6 (by decide) (fun c2 => ?_) (fun c2 => ?_)
  · have h := ite_n c2 h
    refine lv_iload_n hx hb dX11_does_12 rfl (lv_at hl 1 rfl) ?_
    obtain ⟨r3, S3, e3, h⟩ := obd2_ex h
    refine k_S (As := [.int x1]) (rest := []) (st1 := [.int r3]) C kx hK I hA (c_X11_isBag e3) ⟨Nat.le_of_ble_eq_true rfl, Nat.le_of_ble_eq_true rfl⟩ ms_X11_isBag lk_X11_159 rfl hl.1 rfl (Nat.le_of_ble_eq_true rfl) dX11_does_13 rfl (fun H locs I => ?_)
    refine lv_if_eq (tgt := 29) hx hb dX11_does_16 (by decide) (fun c4 => ?_) (fun c4 => ?_)
    · have h := ite_t c4 h
      refine lv_bipush (v := (-3)) hx hb dX11_does_29 (by decide) ?_
      exact rt_i hq h I dX11_does_31
    · have h := ite_n c4 h
      refine lv_aload_n hx hb dX11_does_19 rfl (lv_at hl 0 rfl) ?_
      refine lv_iload_n hx hb dX11_does_20 rfl (lv_at hl 1 rfl) ?_
      refine lv_iload_n hx hb dX11_does_21 rfl (lv_at hl 2 rfl) ?_
      refine lv_iload_n hx hb dX11_does_22 rfl (lv_at hl 3 rfl) ?_
      obtain ⟨r5, S5, e5, h⟩ := obd2_ex h
      refine k_V (As := [.int x1, .int x2, .int x3]) (rest := []) (st1 := [.int r5]) C kx hK I hA (c_X11_leftOf e5) ⟨Nat.le_of_ble_eq_true rfl, Nat.le_of_ble_eq_true rfl⟩ mv_X11_leftOf lk_X11_168 0 11 (mw_0 (cI := cI) (ad := ad)) rfl rfl hl.1 rfl (Nat.le_of_ble_eq_true rfl) dX11_does_23 rfl (fun H locs I => ?_)
      refine lv_goto (tgt := 31) hx hb dX11_does_26 (by decide) ?_
      exact rt_i hq h I dX11_does_31
  · have h := ite_t c2 h
    refine lv_bipush (v := (-2)) hx hb dX11_does_9 (by decide) ?_
    exact rt_i hq h I dX11_does_11
theorem dX11_totalOf_0 : decode cX11_totalOf 0 = .ok (.iconst 0, 1) := by decide +kernel
theorem dX11_totalOf_1 : decode cX11_totalOf 1 = .ok (.istore_n 2, 1) := by decide +kernel
theorem dX11_totalOf_2 : decode cX11_totalOf 2 = .ok (.iconst 0, 1) := by decide +kernel
theorem dX11_totalOf_3 : decode cX11_totalOf 3 = .ok (.istore_n 3, 1) := by decide +kernel
theorem dX11_totalOf_4 : decode cX11_totalOf 4 = .ok (.iload_n 3, 1) := by decide +kernel
theorem dX11_totalOf_5 : decode cX11_totalOf 5 = .ok (.aload_n 0, 1) := by decide +kernel
theorem dX11_totalOf_6 : decode cX11_totalOf 6 = .ok (.getfield 38, 3) := by decide +kernel
theorem dX11_totalOf_9 : decode cX11_totalOf 9 = .ok (.iload_n 1, 1) := by decide +kernel
theorem dX11_totalOf_10 : decode cX11_totalOf 10 = .ok (.iaload, 1) := by decide +kernel
theorem dX11_totalOf_11 : decode cX11_totalOf 11 = .ok (.if_icmp .ge 25, 3) := by decide +kernel
theorem dX11_totalOf_14 : decode cX11_totalOf 14 = .ok (.iload_n 2, 1) := by decide +kernel
theorem dX11_totalOf_15 : decode cX11_totalOf 15 = .ok (.aload_n 0, 1) := by decide +kernel
theorem dX11_totalOf_16 : decode cX11_totalOf 16 = .ok (.getfield 41, 3) := by decide +kernel
theorem dX11_totalOf_19 : decode cX11_totalOf 19 = .ok (.bipush 16, 2) := by decide +kernel
theorem dX11_totalOf_21 : decode cX11_totalOf 21 = .ok (.iload_n 1, 1) := by decide +kernel
theorem dX11_totalOf_22 : decode cX11_totalOf 22 = .ok (.imul, 1) := by decide +kernel
theorem dX11_totalOf_23 : decode cX11_totalOf 23 = .ok (.iconst 4, 1) := by decide +kernel
theorem dX11_totalOf_24 : decode cX11_totalOf 24 = .ok (.iload_n 3, 1) := by decide +kernel
theorem dX11_totalOf_25 : decode cX11_totalOf 25 = .ok (.imul, 1) := by decide +kernel
theorem dX11_totalOf_26 : decode cX11_totalOf 26 = .ok (.iadd, 1) := by decide +kernel
theorem dX11_totalOf_27 : decode cX11_totalOf 27 = .ok (.iaload, 1) := by decide +kernel
theorem dX11_totalOf_28 : decode cX11_totalOf 28 = .ok (.iadd, 1) := by decide +kernel
theorem dX11_totalOf_29 : decode cX11_totalOf 29 = .ok (.istore_n 2, 1) := by decide +kernel
theorem dX11_totalOf_30 : decode cX11_totalOf 30 = .ok (.iinc 3 1, 3) := by decide +kernel
theorem dX11_totalOf_33 : decode cX11_totalOf 33 = .ok (.goto (-29), 3) := by decide +kernel
theorem dX11_totalOf_36 : decode cX11_totalOf 36 = .ok (.iload_n 2, 1) := by decide +kernel
theorem dX11_totalOf_37 : decode cX11_totalOf 37 = .ok (.ireturn, 1) := by decide +kernel
def f_X11_totalOf_4 (k_4 : St → Int32 → Int32 → Int32 → Option (Int32 × St)) (S : St) (x1 : Int32) (x2 : Int32) (x3 : Int32) : Option (Int32 × St) :=
  chk (ixo x1 6) <|
  if (S.1 7 (x1).toNatClampNeg) ≤ x3 then (
    some (x2, S)
  ) else (
    chk (ixo ((16 * x1) + (4 * x3)) 96) <|
    bnd ((x2 + (S.1 8 (((16 * x1) + (4 * x3))).toNatClampNeg)) : Int32) fun v4 =>
    bnd (x3 + 1 : Int32) fun v5 =>
    k_4 S x1 v4 v5
  )
def l_X11_totalOf_4 : Nat → St → Int32 → Int32 → Int32 → Option (Int32 × St)
  | 0, _, _, _, _ => none
  | fu + 1, S, x1, x2, x3 => f_X11_totalOf_4 (l_X11_totalOf_4 fu) S x1 x2 x3
def f_X11_totalOf (S : St) (x1 : Int32) : Option (Int32 × St) :=
  l_X11_totalOf_4 FU S x1 0 0
set_option maxHeartbeats 4000000 in
set_option maxRecDepth 100000 in
theorem c_X11_totalOf {l : Launch} {D : va_G} {cI cC cS : ClassId} {ad adK adV : Nat → Nat} {S S1 : St} {x1 : Int32} {r : Int32} (h : f_X11_totalOf S x1 = some (r, S1)) : Kt l D (mw cI ad) (KX D (xtys cI cC cS) adK adV) yX11_totalOf cX11_totalOf 4 (some .int) (0) (0) [.ref (ad 0), .int x1] S (some (.int r)) S1 := by
  refine k_ent (ins := .ireturn) (st := [.int r]) (by decide +kernel) (Nat.le_of_ble_eq_true rfl) ret_i ?_
  intro p e s m args below meth c A Q C hK I hA hq ls hl
  have C : CallFix p m c cX11_totalOf 4 s args TT RX11 := C
  have hx := C.1
  have hb := C.2.1
  have kx := kx_ok D (xtys cI cC cS) adK adV
  have hl : lv_has ls 4 [(0, .ref (ad 0)), (1, .int x1)] := hl
  have B_4 : ∀ (k_4 : St → Int32 → Int32 → Int32 → Option (Int32 × St)) (hk_4 : ∀ (S : St) (x1 : Int32) (x2 : Int32) (x3 : Int32), k_4 S x1 x2 x3 = some (r, S1) → ∀ (H : Heap) (locs : List Loc) (ls : Array Slot), Iv D (mw cI ad) S A s H locs → lv_has ls 4 [(0, .ref (ad 0)), (1, .int x1), (2, .int x2), (3, .int x3)] → W p l e ({ frames := 0, cells := 0, slots := 0, locals := 0 } : Room) s m args below meth c H locs 0 0 Q (F0 m 4 ls [])) (S : St) (x1 : Int32) (x2 : Int32) (x3 : Int32), f_X11_totalOf_4 k_4 S x1 x2 x3 = some (r, S1) → ∀ (H : Heap) (locs : List Loc) (ls : Array Slot), Iv D (mw cI ad) S A s H locs → lv_has ls 4 [(0, .ref (ad 0)), (1, .int x1), (2, .int x2), (3, .int x3)] → W p l e ({ frames := 0, cells := 0, slots := 0, locals := 0 } : Room) s m args below meth c H locs 0 0 Q (F0 m 4 ls []) := by
    intro k_4 hk_4 S x1 x2 x3 h H locs ls I hl
    unfold f_X11_totalOf_4 at h
    refine lv_iload_n hx hb dX11_totalOf_4 rfl (lv_at hl 3 rfl) ?_
    refine lv_aload_n hx hb dX11_totalOf_5 rfl (lv_at hl 0 rfl) ?_
    refine gm_0_13 C hK I fl_X11_38 dX11_totalOf_6 ?_
    refine lv_iload_n hx hb dX11_totalOf_9 rfl (lv_at hl 1 rfl) ?_
    obtain ⟨hv1, h⟩ := chk_ex h
    refine am_7 C hK I hv1 dX11_totalOf_10 ?_
    refine lv_icmp_ge (tgt := 36) hx hb dX11_totalOf_11 (by decide) (fun c2 => ?_) (fun c2 => ?_)
    · have h := ite_t c2 h
      refine lv_iload_n hx hb dX11_totalOf_36 rfl (lv_at hl 2 rfl) ?_
      exact rt_i hq h I dX11_totalOf_37
    · have h := ite_n c2 h
      refine lv_iload_n hx hb dX11_totalOf_14 rfl (lv_at hl 2 rfl) ?_
      refine lv_aload_n hx hb dX11_totalOf_15 rfl (lv_at hl 0 rfl) ?_
      refine gm_0_14 C hK I fl_X11_41 dX11_totalOf_16 ?_
      refine lv_bipush (v := 16) hx hb dX11_totalOf_19 (by decide) ?_
      refine lv_iload_n hx hb dX11_totalOf_21 rfl (lv_at hl 1 rfl) ?_
      refine lv_imul hx hb dX11_totalOf_22 ?_
      refine lv_iconst (v := 4) hx hb dX11_totalOf_23 (by decide) ?_
      refine lv_iload_n hx hb dX11_totalOf_24 rfl (lv_at hl 3 rfl) ?_
      refine lv_imul hx hb dX11_totalOf_25 ?_
      refine lv_iadd hx hb dX11_totalOf_26 ?_
      obtain ⟨hv3, h⟩ := chk_ex h
      refine am_8 C hK I hv3 dX11_totalOf_27 ?_
      refine lv_iadd hx hb dX11_totalOf_28 ?_
      refine lv_topi (fun v4 ev4 => ?_)
      have h := bnd_at ev4 h
      clear ev4
      refine lv_istore_n (lv' := [(2, .int v4), (0, .ref (ad 0)), (1, .int x1), (3, .int x3)]) hx hb dX11_totalOf_29 rfl hl (by decide) rfl (fun ls hl => ?_)
      obtain ⟨v5, ev5⟩ : ∃ y : Int32, y = x3 + 1 := ⟨_, rfl⟩
      have h := bnd_at ev5 h
      refine lv_iinc (v := v5) (lv' := [(3, .int v5), (2, .int v4), (0, .ref (ad 0)), (1, .int x1)]) hx hb dX11_totalOf_30 hl (k := 3) rfl (by rw [ev5]; rfl) (by decide) rfl (fun ls hl => ?_)
      clear ev5
      refine lv_goto (tgt := 4) hx hb dX11_totalOf_33 (by decide) ?_
      exact hk_4 _ _ _ _ h _ _ _ I (lv_sub hl [2, 3, 1, 0] rfl)
  have J_4 : ∀ (fu : Nat) (S : St) (x1 : Int32) (x2 : Int32) (x3 : Int32), l_X11_totalOf_4  fu S x1 x2 x3 = some (r, S1) → ∀ (H : Heap) (locs : List Loc) (ls : Array Slot), Iv D (mw cI ad) S A s H locs → lv_has ls 4 [(0, .ref (ad 0)), (1, .int x1), (2, .int x2), (3, .int x3)] → W p l e ({ frames := 0, cells := 0, slots := 0, locals := 0 } : Room) s m args below meth c H locs 0 0 Q (F0 m 4 ls []) := by
    intro fu
    induction fu with
    | zero => intro S x1 x2 x3 h; cases h
    | succ fu ih => intro S x1 x2 x3 h; exact B_4 (l_X11_totalOf_4 fu) ih S x1 x2 x3 h
  unfold f_X11_totalOf at h
  refine lv_iconst (v := 0) hx hb dX11_totalOf_0 (by decide) ?_
  refine lv_istore_n (lv' := [(2, .int 0), (0, .ref (ad 0)), (1, .int x1)]) hx hb dX11_totalOf_1 rfl hl (by decide) rfl (fun ls hl => ?_)
  refine lv_iconst (v := 0) hx hb dX11_totalOf_2 (by decide) ?_
  refine lv_istore_n (lv' := [(3, .int 0), (2, .int 0), (0, .ref (ad 0)), (1, .int x1)]) hx hb dX11_totalOf_3 rfl hl (by decide) rfl (fun ls hl => ?_)
  exact J_4 _ _ _ _ _ h _ _ _ I (lv_sub hl [2, 3, 1, 0] rfl)
theorem dX11_isUsable_0 : decode cX11_isUsable 0 = .ok (.aload_n 0, 1) := by decide +kernel
theorem dX11_isUsable_1 : decode cX11_isUsable 1 = .ok (.iload_n 1, 1) := by decide +kernel
theorem dX11_isUsable_2 : decode cX11_isUsable 2 = .ok (.invokevirtual 148, 3) := by decide +kernel
theorem dX11_isUsable_5 : decode cX11_isUsable 5 = .ok (.ifCond .eq 16, 3) := by decide +kernel
theorem dX11_isUsable_8 : decode cX11_isUsable 8 = .ok (.aload_n 0, 1) := by decide +kernel
theorem dX11_isUsable_9 : decode cX11_isUsable 9 = .ok (.getfield 38, 3) := by decide +kernel
theorem dX11_isUsable_12 : decode cX11_isUsable 12 = .ok (.iload_n 1, 1) := by decide +kernel
theorem dX11_isUsable_13 : decode cX11_isUsable 13 = .ok (.iaload, 1) := by decide +kernel
theorem dX11_isUsable_14 : decode cX11_isUsable 14 = .ok (.ifCond .le 7, 3) := by decide +kernel
theorem dX11_isUsable_17 : decode cX11_isUsable 17 = .ok (.iconst 1, 1) := by decide +kernel
theorem dX11_isUsable_18 : decode cX11_isUsable 18 = .ok (.goto 4, 3) := by decide +kernel
theorem dX11_isUsable_21 : decode cX11_isUsable 21 = .ok (.iconst 0, 1) := by decide +kernel
theorem dX11_isUsable_22 : decode cX11_isUsable 22 = .ok (.ireturn, 1) := by decide +kernel
def f_X11_isUsable (S : St) (x1 : Int32) : Option (Int32 × St) :=
  obd2 (f_X11_isCall S x1) fun r1 S1 =>
  if r1 = 0 then (
    some (0, S1)
  ) else (
    chk (ixo x1 6) <|
    if (S1.1 7 (x1).toNatClampNeg) ≤ 0 then (
      some (0, S1)
    ) else (
      some (1, S1)
    )
  )
set_option maxHeartbeats 4000000 in
set_option maxRecDepth 100000 in
theorem c_X11_isUsable {l : Launch} {D : va_G} {cI cC cS : ClassId} {ad adK adV : Nat → Nat} {S S1 : St} {x1 : Int32} {r : Int32} (h : f_X11_isUsable S x1 = some (r, S1)) : Kt l D (mw cI ad) (KX D (xtys cI cC cS) adK adV) yX11_isUsable cX11_isUsable 2 (some .boolean) (2) (46) [.ref (ad 0), .int x1] S (some (.int r)) S1 := by
  refine k_entz (by decide +kernel) (Nat.le_of_ble_eq_true rfl) ?_
  intro p e s m args below meth c A Q C hK I hA hq ls hl
  have C : CallFix p m c cX11_isUsable 2 s args TT RX11 := C
  have hx := C.1
  have hb := C.2.1
  have kx := kx_ok D (xtys cI cC cS) adK adV
  have hl : lv_has ls 2 [(0, .ref (ad 0)), (1, .int x1)] := hl
  unfold f_X11_isUsable at h
  refine lv_aload_n hx hb dX11_isUsable_0 rfl (lv_at hl 0 rfl) ?_
  refine lv_iload_n hx hb dX11_isUsable_1 rfl (lv_at hl 1 rfl) ?_
  obtain ⟨r1, S1, e1, h⟩ := obd2_ex h
  refine k_V (As := [.int x1]) (rest := []) (st1 := [.int r1]) C kx hK I hA (c_X11_isCall e1) ⟨Nat.le_of_ble_eq_true rfl, Nat.le_of_ble_eq_true rfl⟩ mv_X11_isCall lk_X11_148 0 11 (mw_0 (cI := cI) (ad := ad)) rfl rfl hl.1 rfl (Nat.le_of_ble_eq_true rfl) dX11_isUsable_2 rfl (fun H locs I => ?_)
  refine lv_if_eq (tgt := 21) hx hb dX11_isUsable_5 (by decide) (fun c2 => ?_) (fun c2 => ?_)
  · have h := ite_t c2 h
    refine lv_iconst (v := 0) hx hb dX11_isUsable_21 (by decide) ?_
    exact rt_z (Or.inl rfl) hq h I dX11_isUsable_22
  · have h := ite_n c2 h
    refine lv_aload_n hx hb dX11_isUsable_8 rfl (lv_at hl 0 rfl) ?_
    refine gm_0_13 C hK I fl_X11_38 dX11_isUsable_9 ?_
    refine lv_iload_n hx hb dX11_isUsable_12 rfl (lv_at hl 1 rfl) ?_
    obtain ⟨hv3, h⟩ := chk_ex h
    refine am_7 C hK I hv3 dX11_isUsable_13 ?_
    refine lv_if_le (tgt := 21) hx hb dX11_isUsable_14 (by decide) (fun c4 => ?_) (fun c4 => ?_)
    · have h := ite_t c4 h
      refine lv_iconst (v := 0) hx hb dX11_isUsable_21 (by decide) ?_
      exact rt_z (Or.inl rfl) hq h I dX11_isUsable_22
    · have h := ite_n c4 h
      refine lv_iconst (v := 1) hx hb dX11_isUsable_17 (by decide) ?_
      refine lv_goto (tgt := 22) hx hb dX11_isUsable_18 (by decide) ?_
      exact rt_z (Or.inr rfl) hq h I dX11_isUsable_22
theorem dX11_divisor_0 : decode cX11_divisor 0 = .ok (.lload_n 0, 1) := by decide +kernel
theorem dX11_divisor_1 : decode cX11_divisor 1 = .ok (.lconst 0, 1) := by decide +kernel
theorem dX11_divisor_2 : decode cX11_divisor 2 = .ok (.lcmp, 1) := by decide +kernel
theorem dX11_divisor_3 : decode cX11_divisor 3 = .ok (.ifCond .ge 8, 3) := by decide +kernel
theorem dX11_divisor_6 : decode cX11_divisor 6 = .ok (.lload_n 0, 1) := by decide +kernel
theorem dX11_divisor_7 : decode cX11_divisor 7 = .ok (.lneg, 1) := by decide +kernel
theorem dX11_divisor_8 : decode cX11_divisor 8 = .ok (.goto 4, 3) := by decide +kernel
theorem dX11_divisor_11 : decode cX11_divisor 11 = .ok (.lload_n 0, 1) := by decide +kernel
theorem dX11_divisor_12 : decode cX11_divisor 12 = .ok (.lstore 4, 2) := by decide +kernel
theorem dX11_divisor_14 : decode cX11_divisor 14 = .ok (.lload_n 2, 1) := by decide +kernel
theorem dX11_divisor_15 : decode cX11_divisor 15 = .ok (.lstore 6, 2) := by decide +kernel
theorem dX11_divisor_17 : decode cX11_divisor 17 = .ok (.lload 6, 2) := by decide +kernel
theorem dX11_divisor_19 : decode cX11_divisor 19 = .ok (.lconst 0, 1) := by decide +kernel
theorem dX11_divisor_20 : decode cX11_divisor 20 = .ok (.lcmp, 1) := by decide +kernel
theorem dX11_divisor_21 : decode cX11_divisor 21 = .ok (.ifCond .eq 21, 3) := by decide +kernel
theorem dX11_divisor_24 : decode cX11_divisor 24 = .ok (.lload 4, 2) := by decide +kernel
theorem dX11_divisor_26 : decode cX11_divisor 26 = .ok (.lload 6, 2) := by decide +kernel
theorem dX11_divisor_28 : decode cX11_divisor 28 = .ok (.lrem, 1) := by decide +kernel
theorem dX11_divisor_29 : decode cX11_divisor 29 = .ok (.lstore 8, 2) := by decide +kernel
theorem dX11_divisor_31 : decode cX11_divisor 31 = .ok (.lload 6, 2) := by decide +kernel
theorem dX11_divisor_33 : decode cX11_divisor 33 = .ok (.lstore 4, 2) := by decide +kernel
theorem dX11_divisor_35 : decode cX11_divisor 35 = .ok (.lload 8, 2) := by decide +kernel
theorem dX11_divisor_37 : decode cX11_divisor 37 = .ok (.lstore 6, 2) := by decide +kernel
theorem dX11_divisor_39 : decode cX11_divisor 39 = .ok (.goto (-22), 3) := by decide +kernel
theorem dX11_divisor_42 : decode cX11_divisor 42 = .ok (.lload 4, 2) := by decide +kernel
theorem dX11_divisor_44 : decode cX11_divisor 44 = .ok (.lreturn, 1) := by decide +kernel
def f_X11_divisor_17 (k_17 : St → Int64 → Int64 → Option (Int64 × St)) (S : St) (x4 : Int64) (x6 : Int64) : Option (Int64 × St) :=
  if (lg_cmp x6 (0)) = 0 then (
    some (x4, S)
  ) else (
    chk (¬ x6 = 0) <|
    bnd ((x4 - x4 / x6 * x6) : Int64) fun v3 =>
    k_17 S x6 v3
  )
def l_X11_divisor_17 : Nat → St → Int64 → Int64 → Option (Int64 × St)
  | 0, _, _, _ => none
  | fu + 1, S, x4, x6 => f_X11_divisor_17 (l_X11_divisor_17 fu) S x4 x6
def f_X11_divisor_12 (S : St) (x2 : Int64) (t0 : Int64) : Option (Int64 × St) :=
  l_X11_divisor_17 FU S t0 x2
def f_X11_divisor (S : St) (x0 : Int64) (x2 : Int64) : Option (Int64 × St) :=
  if 0 ≤ (lg_cmp x0 (0)) then (
    f_X11_divisor_12 S x2 x0
  ) else (
    f_X11_divisor_12 S x2 (-x0)
  )
set_option maxHeartbeats 4000000 in
set_option maxRecDepth 100000 in
theorem c_X11_divisor {l : Launch} {D : va_G} {cI cC cS : ClassId} {ad adK adV : Nat → Nat} {S S1 : St} {x0 : Int64} {x2 : Int64} {r : Int64} (h : f_X11_divisor S x0 x2 = some (r, S1)) : Kt l D (mw cI ad) (KX D (xtys cI cC cS) adK adV) yX11_divisor cX11_divisor 10 (some .long) (0) (0) [.long x0, .long x2] S (some (.long r)) S1 := by
  refine k_ent (ins := .lreturn) (st := [.long r]) (by decide +kernel) (Nat.le_of_ble_eq_true rfl) ret_l ?_
  intro p e s m args below meth c A Q C hK I hA hq ls hl
  have C : CallFix p m c cX11_divisor 10 s args TT RX11 := C
  have hx := C.1
  have hb := C.2.1
  have kx := kx_ok D (xtys cI cC cS) adK adV
  have hl : lv_has ls 10 [(0, .long x0), (2, .long x2)] := hl
  have B_17 : ∀ (k_17 : St → Int64 → Int64 → Option (Int64 × St)) (hk_17 : ∀ (S : St) (x4 : Int64) (x6 : Int64), k_17 S x4 x6 = some (r, S1) → ∀ (H : Heap) (locs : List Loc) (ls : Array Slot), Iv D (mw cI ad) S A s H locs → lv_has ls 10 [(4, .long x4), (6, .long x6)] → W p l e ({ frames := 0, cells := 0, slots := 0, locals := 0 } : Room) s m args below meth c H locs 0 0 Q (F0 m 17 ls [])) (S : St) (x4 : Int64) (x6 : Int64), f_X11_divisor_17 k_17 S x4 x6 = some (r, S1) → ∀ (H : Heap) (locs : List Loc) (ls : Array Slot), Iv D (mw cI ad) S A s H locs → lv_has ls 10 [(4, .long x4), (6, .long x6)] → W p l e ({ frames := 0, cells := 0, slots := 0, locals := 0 } : Room) s m args below meth c H locs 0 0 Q (F0 m 17 ls []) := by
    intro k_17 hk_17 S x4 x6 h H locs ls I hl
    unfold f_X11_divisor_17 at h
    refine lv_lload hx hb dX11_divisor_17 (lv_at hl 1 rfl) ?_
    refine lv_lconst (v := (0)) hx hb dX11_divisor_19 (by decide) ?_
    refine W.lcmp hx hb dX11_divisor_20 ?_
    refine lv_if_eq (tgt := 42) hx hb dX11_divisor_21 (by decide) (fun c1 => ?_) (fun c1 => ?_)
    · have h := ite_t c1 h
      refine lv_lload hx hb dX11_divisor_42 (lv_at hl 0 rfl) ?_
      exact rt_l hq h I dX11_divisor_44
    · have h := ite_n c1 h
      refine lv_lload hx hb dX11_divisor_24 (lv_at hl 0 rfl) ?_
      refine lv_lload hx hb dX11_divisor_26 (lv_at hl 1 rfl) ?_
      obtain ⟨hv2, h⟩ := chk_ex h
      refine lv_lrem hx hb dX11_divisor_28 hv2 ?_
      refine lv_topl (fun v3 ev3 => ?_)
      have h := bnd_at ev3 h
      clear ev3
      refine lv_lstore (lv' := [(8, .long v3), (4, .long x4), (6, .long x6)]) hx hb dX11_divisor_29 hl (by decide) rfl (fun ls hl => ?_)
      refine lv_lload hx hb dX11_divisor_31 (lv_at hl 2 rfl) ?_
      refine lv_lstore (lv' := [(4, .long x6), (8, .long v3), (6, .long x6)]) hx hb dX11_divisor_33 hl (by decide) rfl (fun ls hl => ?_)
      refine lv_lload hx hb dX11_divisor_35 (lv_at hl 1 rfl) ?_
      refine lv_lstore (lv' := [(6, .long v3), (4, .long x6), (8, .long v3)]) hx hb dX11_divisor_37 hl (by decide) rfl (fun ls hl => ?_)
      refine lv_goto (tgt := 17) hx hb dX11_divisor_39 (by decide) ?_
      exact hk_17 _ _ _ h _ _ _ I (lv_sub hl [1, 0] rfl)
  have J_17 : ∀ (fu : Nat) (S : St) (x4 : Int64) (x6 : Int64), l_X11_divisor_17  fu S x4 x6 = some (r, S1) → ∀ (H : Heap) (locs : List Loc) (ls : Array Slot), Iv D (mw cI ad) S A s H locs → lv_has ls 10 [(4, .long x4), (6, .long x6)] → W p l e ({ frames := 0, cells := 0, slots := 0, locals := 0 } : Room) s m args below meth c H locs 0 0 Q (F0 m 17 ls []) := by
    intro fu
    induction fu with
    | zero => intro S x4 x6 h; cases h
    | succ fu ih => intro S x4 x6 h; exact B_17 (l_X11_divisor_17 fu) ih S x4 x6 h
  have J_12 : ∀ (S : St) (x2 : Int64) (t0 : Int64), f_X11_divisor_12  S x2 t0 = some (r, S1) → ∀ (H : Heap) (locs : List Loc) (ls : Array Slot), Iv D (mw cI ad) S A s H locs → lv_has ls 10 [(2, .long x2)] → W p l e ({ frames := 0, cells := 0, slots := 0, locals := 0 } : Room) s m args below meth c H locs 0 0 Q (F0 m 12 ls [.long t0]) := by
    intro  S x2 t0 h H locs ls I hl
    unfold f_X11_divisor_12 at h
    refine lv_lstore (lv' := [(4, .long t0), (2, .long x2)]) hx hb dX11_divisor_12 hl (by decide) rfl (fun ls hl => ?_)
    refine lv_lload_n hx hb dX11_divisor_14 rfl (lv_at hl 1 rfl) ?_
    refine lv_lstore (lv' := [(6, .long x2), (4, .long t0), (2, .long x2)]) hx hb dX11_divisor_15 hl (by decide) rfl (fun ls hl => ?_)
    exact J_17 _ _ _ _ h _ _ _ I (lv_sub hl [1, 0] rfl)
  unfold f_X11_divisor at h
  refine lv_lload_n hx hb dX11_divisor_0 rfl (lv_at hl 0 rfl) ?_
  refine lv_lconst (v := (0)) hx hb dX11_divisor_1 (by decide) ?_
  refine W.lcmp hx hb dX11_divisor_2 ?_
  refine lv_if_ge (tgt := 11) hx hb dX11_divisor_3 (by decide) (fun c4 => ?_) (fun c4 => ?_)
  · have h := ite_t c4 h
    refine lv_lload_n hx hb dX11_divisor_11 rfl (lv_at hl 0 rfl) ?_
    exact J_12 _ _ _ h _ _ _ I (lv_sub hl [1] rfl)
  · have h := ite_n c4 h
    refine lv_lload_n hx hb dX11_divisor_6 rfl (lv_at hl 0 rfl) ?_
    refine lv_lneg hx hb dX11_divisor_7 ?_
    refine lv_goto (tgt := 12) hx hb dX11_divisor_8 (by decide) ?_
    exact J_12 _ _ _ h _ _ _ I (lv_sub hl [1] rfl)
theorem lk_X11_172 : Cond.methodLink RX11 172 yX11_divisor ∈ TT := tt_of 1356 (by decide +kernel) rfl
theorem ms_X11_divisor : MS yX11_divisor cX11_divisor 10 (some .long) 2 := ⟨tt_of 1358 (by decide +kernel) rfl, tt_of 1357 (by decide +kernel) rfl, tt_of 76 (by decide +kernel) rfl, ⟨by decide +kernel, by decide +kernel, by decide +kernel⟩⟩
theorem dX11_lowest_0 : decode cX11_lowest 0 = .ok (.lload_n 0, 1) := by decide +kernel
theorem dX11_lowest_1 : decode cX11_lowest 1 = .ok (.lload_n 2, 1) := by decide +kernel
theorem dX11_lowest_2 : decode cX11_lowest 2 = .ok (.invokestatic 172, 3) := by decide +kernel
theorem dX11_lowest_5 : decode cX11_lowest 5 = .ok (.lstore 5, 2) := by decide +kernel
theorem dX11_lowest_7 : decode cX11_lowest 7 = .ok (.iload 4, 2) := by decide +kernel
theorem dX11_lowest_9 : decode cX11_lowest 9 = .ok (.ifCond .ne 10, 3) := by decide +kernel
theorem dX11_lowest_12 : decode cX11_lowest 12 = .ok (.lload_n 0, 1) := by decide +kernel
theorem dX11_lowest_13 : decode cX11_lowest 13 = .ok (.lload 5, 2) := by decide +kernel
theorem dX11_lowest_15 : decode cX11_lowest 15 = .ok (.ldiv, 1) := by decide +kernel
theorem dX11_lowest_16 : decode cX11_lowest 16 = .ok (.goto 7, 3) := by decide +kernel
theorem dX11_lowest_19 : decode cX11_lowest 19 = .ok (.lload_n 2, 1) := by decide +kernel
theorem dX11_lowest_20 : decode cX11_lowest 20 = .ok (.lload 5, 2) := by decide +kernel
theorem dX11_lowest_22 : decode cX11_lowest 22 = .ok (.ldiv, 1) := by decide +kernel
theorem dX11_lowest_23 : decode cX11_lowest 23 = .ok (.lreturn, 1) := by decide +kernel
def f_X11_lowest (S : St) (x0 : Int64) (x2 : Int64) (x4 : Int32) : Option (Int64 × St) :=
  obd2 (f_X11_divisor S x0 x2) fun r1 S1 =>
  if x4 = 0 then (
    chk (¬ r1 = 0) <|
    some ((x0 / r1), S1)
  ) else (
    chk (¬ r1 = 0) <|
    some ((x2 / r1), S1)
  )
set_option maxHeartbeats 4000000 in
set_option maxRecDepth 100000 in
theorem c_X11_lowest {l : Launch} {D : va_G} {cI cC cS : ClassId} {ad adK adV : Nat → Nat} {S S1 : St} {x0 : Int64} {x2 : Int64} {x4 : Int32} {r : Int64} (h : f_X11_lowest S x0 x2 x4 = some (r, S1)) : Kt l D (mw cI ad) (KX D (xtys cI cC cS) adK adV) yX11_lowest cX11_lowest 7 (some .long) (1) (29) [.long x0, .long x2, .int x4] S (some (.long r)) S1 := by
  refine k_ent (ins := .lreturn) (st := [.long r]) (by decide +kernel) (Nat.le_of_ble_eq_true rfl) ret_l ?_
  intro p e s m args below meth c A Q C hK I hA hq ls hl
  have C : CallFix p m c cX11_lowest 7 s args TT RX11 := C
  have hx := C.1
  have hb := C.2.1
  have kx := kx_ok D (xtys cI cC cS) adK adV
  have hl : lv_has ls 7 [(0, .long x0), (2, .long x2), (4, .int x4)] := hl
  unfold f_X11_lowest at h
  refine lv_lload_n hx hb dX11_lowest_0 rfl (lv_at hl 0 rfl) ?_
  refine lv_lload_n hx hb dX11_lowest_1 rfl (lv_at hl 1 rfl) ?_
  obtain ⟨r1, S1, e1, h⟩ := obd2_ex h
  refine k_S (As := [.long x0, .long x2]) (rest := []) (st1 := [.long r1]) C kx hK I hA (c_X11_divisor e1) ⟨Nat.le_of_ble_eq_true rfl, Nat.le_of_ble_eq_true rfl⟩ ms_X11_divisor lk_X11_172 rfl hl.1 rfl (Nat.le_of_ble_eq_true rfl) dX11_lowest_2 rfl (fun H locs I => ?_)
  refine lv_lstore (lv' := [(5, .long r1), (0, .long x0), (2, .long x2), (4, .int x4)]) hx hb dX11_lowest_5 hl (by decide) rfl (fun ls hl => ?_)
  refine lv_iload hx hb dX11_lowest_7 (lv_at hl 3 rfl) ?_
  refine lv_if_ne (tgt := 19) hx hb dX11_lowest_9 (by decide) (fun c2 => ?_) (fun c2 => ?_)
  · have h := ite_n c2 h
    refine lv_lload_n hx hb dX11_lowest_19 rfl (lv_at hl 2 rfl) ?_
    refine lv_lload hx hb dX11_lowest_20 (lv_at hl 0 rfl) ?_
    obtain ⟨hv3, h⟩ := chk_ex h
    refine lv_ldiv hx hb dX11_lowest_22 hv3 ?_
    exact rt_l hq h I dX11_lowest_23
  · have h := ite_t c2 h
    refine lv_lload_n hx hb dX11_lowest_12 rfl (lv_at hl 1 rfl) ?_
    refine lv_lload hx hb dX11_lowest_13 (lv_at hl 0 rfl) ?_
    obtain ⟨hv4, h⟩ := chk_ex h
    refine lv_ldiv hx hb dX11_lowest_15 hv4 ?_
    refine lv_goto (tgt := 23) hx hb dX11_lowest_16 (by decide) ?_
    exact rt_l hq h I dX11_lowest_23
theorem dX11_isPart_0 : decode cX11_isPart 0 = .ok (.iload_n 0, 1) := by decide +kernel
theorem dX11_isPart_1 : decode cX11_isPart 1 = .ok (.i2l, 1) := by decide +kernel
theorem dX11_isPart_2 : decode cX11_isPart 2 = .ok (.lconst 0, 1) := by decide +kernel
theorem dX11_isPart_3 : decode cX11_isPart 3 = .ok (.lconst 1, 1) := by decide +kernel
theorem dX11_isPart_4 : decode cX11_isPart 4 = .ok (.invokestatic 55, 3) := by decide +kernel
theorem dX11_isPart_7 : decode cX11_isPart 7 = .ok (.ireturn, 1) := by decide +kernel
def f_X11_isPart (S : St) (x0 : Int32) : Option (Int32 × St) :=
  obd2 (f_X11_in S (x0.toInt64) (0) (1)) fun r1 S1 =>
  chk (zb r1) <|
  some (r1, S1)
set_option maxHeartbeats 4000000 in
set_option maxRecDepth 100000 in
theorem c_X11_isPart {l : Launch} {D : va_G} {cI cC cS : ClassId} {ad adK adV : Nat → Nat} {S S1 : St} {x0 : Int32} {r : Int32} (h : f_X11_isPart S x0 = some (r, S1)) : Kt l D (mw cI ad) (KX D (xtys cI cC cS) adK adV) yX11_isPart cX11_isPart 1 (some .boolean) (1) (25) [.int x0] S (some (.int r)) S1 := by
  refine k_entz (by decide +kernel) (Nat.le_of_ble_eq_true rfl) ?_
  intro p e s m args below meth c A Q C hK I hA hq ls hl
  have C : CallFix p m c cX11_isPart 1 s args TT RX11 := C
  have hx := C.1
  have hb := C.2.1
  have kx := kx_ok D (xtys cI cC cS) adK adV
  have hl : lv_has ls 1 [(0, .int x0)] := hl
  unfold f_X11_isPart at h
  refine lv_iload_n hx hb dX11_isPart_0 rfl (lv_at hl 0 rfl) ?_
  refine lv_i2l hx hb dX11_isPart_1 rfl ?_
  refine lv_lconst (v := (0)) hx hb dX11_isPart_2 (by decide) ?_
  refine lv_lconst (v := (1)) hx hb dX11_isPart_3 (by decide) ?_
  obtain ⟨r1, S1, e1, h⟩ := obd2_ex h
  refine k_S (As := [.long (x0.toInt64), .long (0), .long (1)]) (rest := []) (st1 := [.int r1]) C kx hK I hA (c_X11_in e1) ⟨Nat.le_of_ble_eq_true rfl, Nat.le_of_ble_eq_true rfl⟩ ms_X11_in lk_X11_55 rfl hl.1 rfl (Nat.le_of_ble_eq_true rfl) dX11_isPart_4 rfl (fun H locs I => ?_)
  obtain ⟨hz, h⟩ := chk_ex h
  exact rt_z hz hq h I dX11_isPart_7
theorem lk_X11_182 : Cond.methodLink RX11 182 yX11_totalOf ∈ TT := tt_of 1349 (by decide +kernel) rfl
theorem mv_X11_totalOf : MV yX11_totalOf cX11_totalOf 4 (some .int) 1 := ⟨tt_of 1352 (by decide +kernel) rfl, tt_of 1351 (by decide +kernel) rfl, tt_of 39 (by decide +kernel) rfl, tt_of 76 (by decide +kernel) rfl, ⟨by decide +kernel, by decide +kernel, by decide +kernel⟩⟩
theorem lk_X11_185 : Cond.methodLink RX11 185 yX11_lowest ∈ TT := tt_of 1353 (by decide +kernel) rfl
theorem ms_X11_lowest : MS yX11_lowest cX11_lowest 7 (some .long) 3 := ⟨tt_of 1355 (by decide +kernel) rfl, tt_of 1354 (by decide +kernel) rfl, tt_of 76 (by decide +kernel) rfl, ⟨by decide +kernel, by decide +kernel, by decide +kernel⟩⟩
theorem lk_X11_176 : Cond.methodLink RX11 176 yX11_isUsable ∈ TT := tt_of 1342 (by decide +kernel) rfl
theorem mv_X11_isUsable : MV yX11_isUsable cX11_isUsable 2 (some .boolean) 1 := ⟨tt_of 1345 (by decide +kernel) rfl, tt_of 1344 (by decide +kernel) rfl, tt_of 38 (by decide +kernel) rfl, tt_of 76 (by decide +kernel) rfl, ⟨by decide +kernel, by decide +kernel, by decide +kernel⟩⟩
theorem lk_X11_179 : Cond.methodLink RX11 179 yX11_isPart ∈ TT := tt_of 1346 (by decide +kernel) rfl
theorem ms_X11_isPart : MS yX11_isPart cX11_isPart 1 (some .boolean) 1 := ⟨tt_of 1348 (by decide +kernel) rfl, tt_of 1347 (by decide +kernel) rfl, tt_of 76 (by decide +kernel) rfl, ⟨by decide +kernel, by decide +kernel, by decide +kernel⟩⟩
theorem dX11_chance_0 : decode cX11_chance 0 = .ok (.aload_n 0, 1) := by decide +kernel
theorem dX11_chance_1 : decode cX11_chance 1 = .ok (.iload_n 2, 1) := by decide +kernel
theorem dX11_chance_2 : decode cX11_chance 2 = .ok (.invokevirtual 176, 3) := by decide +kernel
theorem dX11_chance_5 : decode cX11_chance 5 = .ok (.ifCond .ne 6, 3) := by decide +kernel
theorem dX11_chance_8 : decode cX11_chance 8 = .ok (.bipush (-2), 2) := by decide +kernel
theorem dX11_chance_10 : decode cX11_chance 10 = .ok (.ireturn, 1) := by decide +kernel
theorem dX11_chance_11 : decode cX11_chance 11 = .ok (.iload_n 1, 1) := by decide +kernel
theorem dX11_chance_12 : decode cX11_chance 12 = .ok (.invokestatic 159, 3) := by decide +kernel
theorem dX11_chance_15 : decode cX11_chance 15 = .ok (.ifCond .eq 10, 3) := by decide +kernel
theorem dX11_chance_18 : decode cX11_chance 18 = .ok (.iload_n 3, 1) := by decide +kernel
theorem dX11_chance_19 : decode cX11_chance 19 = .ok (.invokestatic 179, 3) := by decide +kernel
theorem dX11_chance_22 : decode cX11_chance 22 = .ok (.ifCond .ne 6, 3) := by decide +kernel
theorem dX11_chance_25 : decode cX11_chance 25 = .ok (.bipush (-3), 2) := by decide +kernel
theorem dX11_chance_27 : decode cX11_chance 27 = .ok (.ireturn, 1) := by decide +kernel
theorem dX11_chance_28 : decode cX11_chance 28 = .ok (.iconst 0, 1) := by decide +kernel
theorem dX11_chance_29 : decode cX11_chance 29 = .ok (.istore 4, 2) := by decide +kernel
theorem dX11_chance_31 : decode cX11_chance 31 = .ok (.iconst 0, 1) := by decide +kernel
theorem dX11_chance_32 : decode cX11_chance 32 = .ok (.istore 5, 2) := by decide +kernel
theorem dX11_chance_34 : decode cX11_chance 34 = .ok (.iload 5, 2) := by decide +kernel
theorem dX11_chance_36 : decode cX11_chance 36 = .ok (.aload_n 0, 1) := by decide +kernel
theorem dX11_chance_37 : decode cX11_chance 37 = .ok (.getfield 38, 3) := by decide +kernel
theorem dX11_chance_40 : decode cX11_chance 40 = .ok (.iload_n 2, 1) := by decide +kernel
theorem dX11_chance_41 : decode cX11_chance 41 = .ok (.iaload, 1) := by decide +kernel
theorem dX11_chance_42 : decode cX11_chance 42 = .ok (.if_icmp .ge 44, 3) := by decide +kernel
theorem dX11_chance_45 : decode cX11_chance 45 = .ok (.iload 4, 2) := by decide +kernel
theorem dX11_chance_47 : decode cX11_chance 47 = .ok (.aload_n 0, 1) := by decide +kernel
theorem dX11_chance_48 : decode cX11_chance 48 = .ok (.iload_n 1, 1) := by decide +kernel
theorem dX11_chance_49 : decode cX11_chance 49 = .ok (.iload_n 2, 1) := by decide +kernel
theorem dX11_chance_50 : decode cX11_chance 50 = .ok (.iload 5, 2) := by decide +kernel
theorem dX11_chance_52 : decode cX11_chance 52 = .ok (.invokevirtual 168, 3) := by decide +kernel
theorem dX11_chance_55 : decode cX11_chance 55 = .ok (.iconst (-1), 1) := by decide +kernel
theorem dX11_chance_56 : decode cX11_chance 56 = .ok (.if_icmp .ne 7, 3) := by decide +kernel
theorem dX11_chance_59 : decode cX11_chance 59 = .ok (.iconst 0, 1) := by decide +kernel
theorem dX11_chance_60 : decode cX11_chance 60 = .ok (.goto 17, 3) := by decide +kernel
theorem dX11_chance_63 : decode cX11_chance 63 = .ok (.aload_n 0, 1) := by decide +kernel
theorem dX11_chance_64 : decode cX11_chance 64 = .ok (.getfield 41, 3) := by decide +kernel
theorem dX11_chance_67 : decode cX11_chance 67 = .ok (.bipush 16, 2) := by decide +kernel
theorem dX11_chance_69 : decode cX11_chance 69 = .ok (.iload_n 2, 1) := by decide +kernel
theorem dX11_chance_70 : decode cX11_chance 70 = .ok (.imul, 1) := by decide +kernel
theorem dX11_chance_71 : decode cX11_chance 71 = .ok (.iconst 4, 1) := by decide +kernel
theorem dX11_chance_72 : decode cX11_chance 72 = .ok (.iload 5, 2) := by decide +kernel
theorem dX11_chance_74 : decode cX11_chance 74 = .ok (.imul, 1) := by decide +kernel
theorem dX11_chance_75 : decode cX11_chance 75 = .ok (.iadd, 1) := by decide +kernel
theorem dX11_chance_76 : decode cX11_chance 76 = .ok (.iaload, 1) := by decide +kernel
theorem dX11_chance_77 : decode cX11_chance 77 = .ok (.iadd, 1) := by decide +kernel
theorem dX11_chance_78 : decode cX11_chance 78 = .ok (.istore 4, 2) := by decide +kernel
theorem dX11_chance_80 : decode cX11_chance 80 = .ok (.iinc 5 1, 3) := by decide +kernel
theorem dX11_chance_83 : decode cX11_chance 83 = .ok (.goto (-49), 3) := by decide +kernel
theorem dX11_chance_86 : decode cX11_chance 86 = .ok (.iload 4, 2) := by decide +kernel
theorem dX11_chance_88 : decode cX11_chance 88 = .ok (.i2l, 1) := by decide +kernel
theorem dX11_chance_89 : decode cX11_chance 89 = .ok (.aload_n 0, 1) := by decide +kernel
theorem dX11_chance_90 : decode cX11_chance 90 = .ok (.iload_n 2, 1) := by decide +kernel
theorem dX11_chance_91 : decode cX11_chance 91 = .ok (.invokevirtual 182, 3) := by decide +kernel
theorem dX11_chance_94 : decode cX11_chance 94 = .ok (.i2l, 1) := by decide +kernel
theorem dX11_chance_95 : decode cX11_chance 95 = .ok (.iload_n 3, 1) := by decide +kernel
theorem dX11_chance_96 : decode cX11_chance 96 = .ok (.invokestatic 185, 3) := by decide +kernel
theorem dX11_chance_99 : decode cX11_chance 99 = .ok (.l2i, 1) := by decide +kernel
theorem dX11_chance_100 : decode cX11_chance 100 = .ok (.ireturn, 1) := by decide +kernel
def f_X11_chance_77 (k_34 : St → Int32 → Int32 → Int32 → Int32 → Int32 → Option (Int32 × St)) (S : St) (x1 : Int32) (x2 : Int32) (x3 : Int32) (x5 : Int32) (t0 : Int32) (t1 : Int32) : Option (Int32 × St) :=
  bnd ((t0 + t1) : Int32) fun v1 =>
  bnd (x5 + 1 : Int32) fun v2 =>
  k_34 S x1 x2 x3 v1 v2
def f_X11_chance_34 (k_34 : St → Int32 → Int32 → Int32 → Int32 → Int32 → Option (Int32 × St)) (S : St) (x1 : Int32) (x2 : Int32) (x3 : Int32) (x4 : Int32) (x5 : Int32) : Option (Int32 × St) :=
  chk (ixo x2 6) <|
  if (S.1 7 (x2).toNatClampNeg) ≤ x5 then (
    obd2 (f_X11_totalOf S x2) fun r5 S5 =>
    obd2 (f_X11_lowest S5 (x4.toInt64) (r5.toInt64) x3) fun r6 S6 =>
    some ((r6.toInt32), S6)
  ) else (
    obd2 (f_X11_leftOf S x1 x2 x5) fun r7 S7 =>
    if r7 = (-1) then (
      f_X11_chance_77 k_34 S7 x1 x2 x3 x5 x4 0
    ) else (
      chk (ixo ((16 * x2) + (4 * x5)) 96) <|
      f_X11_chance_77 k_34 S7 x1 x2 x3 x5 x4 (S7.1 8 (((16 * x2) + (4 * x5))).toNatClampNeg)
    )
  )
def l_X11_chance_34 : Nat → St → Int32 → Int32 → Int32 → Int32 → Int32 → Option (Int32 × St)
  | 0, _, _, _, _, _, _ => none
  | fu + 1, S, x1, x2, x3, x4, x5 => f_X11_chance_34 (l_X11_chance_34 fu) S x1 x2 x3 x4 x5
def f_X11_chance (S : St) (x1 : Int32) (x2 : Int32) (x3 : Int32) : Option (Int32 × St) :=
  obd2 (f_X11_isUsable S x2) fun r10 S10 =>
  if r10 = 0 then (
    some ((-2), S10)
  ) else (
    obd2 (f_X11_isBag S10 x1) fun r12 S12 =>
    if r12 = 0 then (
      some ((-3), S12)
    ) else (
      obd2 (f_X11_isPart S12 x3) fun r14 S14 =>
      if r14 = 0 then (
        some ((-3), S14)
      ) else (
        l_X11_chance_34 FU S14 x1 x2 x3 0 0
      )
    )
  )
set_option maxHeartbeats 4000000 in
set_option maxRecDepth 100000 in
theorem c_X11_chance {l : Launch} {D : va_G} {cI cC cS : ClassId} {ad adK adV : Nat → Nat} {S S1 : St} {x1 : Int32} {x2 : Int32} {x3 : Int32} {r : Int32} (h : f_X11_chance S x1 x2 x3 = some (r, S1)) : Kt l D (mw cI ad) (KX D (xtys cI cC cS) adK adV) yX11_chance cX11_chance 6 (some .int) (3) (67) [.ref (ad 0), .int x1, .int x2, .int x3] S (some (.int r)) S1 := by
  refine k_ent (ins := .ireturn) (st := [.int r]) (by decide +kernel) (Nat.le_of_ble_eq_true rfl) ret_i ?_
  intro p e s m args below meth c A Q C hK I hA hq ls hl
  have C : CallFix p m c cX11_chance 6 s args TT RX11 := C
  have hx := C.1
  have hb := C.2.1
  have kx := kx_ok D (xtys cI cC cS) adK adV
  have hl : lv_has ls 6 [(0, .ref (ad 0)), (1, .int x1), (2, .int x2), (3, .int x3)] := hl
  have J_77 : ∀ (k_34 : St → Int32 → Int32 → Int32 → Int32 → Int32 → Option (Int32 × St)) (hk_34 : ∀ (S : St) (x1 : Int32) (x2 : Int32) (x3 : Int32) (x4 : Int32) (x5 : Int32), k_34 S x1 x2 x3 x4 x5 = some (r, S1) → ∀ (H : Heap) (locs : List Loc) (ls : Array Slot), Iv D (mw cI ad) S A s H locs → lv_has ls 6 [(0, .ref (ad 0)), (1, .int x1), (2, .int x2), (3, .int x3), (4, .int x4), (5, .int x5)] → W p l e ({ frames := 3, cells := 0, slots := 0, locals := 67 } : Room) s m args below meth c H locs 0 0 Q (F0 m 34 ls [])) (S : St) (x1 : Int32) (x2 : Int32) (x3 : Int32) (x5 : Int32) (t0 : Int32) (t1 : Int32), f_X11_chance_77 k_34 S x1 x2 x3 x5 t0 t1 = some (r, S1) → ∀ (H : Heap) (locs : List Loc) (ls : Array Slot), Iv D (mw cI ad) S A s H locs → lv_has ls 6 [(0, .ref (ad 0)), (1, .int x1), (2, .int x2), (3, .int x3), (5, .int x5)] → W p l e ({ frames := 3, cells := 0, slots := 0, locals := 67 } : Room) s m args below meth c H locs 0 0 Q (F0 m 77 ls [.int t1, .int t0]) := by
    intro k_34 hk_34 S x1 x2 x3 x5 t0 t1 h H locs ls I hl
    unfold f_X11_chance_77 at h
    refine lv_iadd hx hb dX11_chance_77 ?_
    refine lv_topi (fun v1 ev1 => ?_)
    have h := bnd_at ev1 h
    clear ev1
    refine lv_istore (lv' := [(4, .int v1), (0, .ref (ad 0)), (1, .int x1), (2, .int x2), (3, .int x3), (5, .int x5)]) hx hb dX11_chance_78 hl (by decide) rfl (fun ls hl => ?_)
    obtain ⟨v2, ev2⟩ : ∃ y : Int32, y = x5 + 1 := ⟨_, rfl⟩
    have h := bnd_at ev2 h
    refine lv_iinc (v := v2) (lv' := [(5, .int v2), (4, .int v1), (0, .ref (ad 0)), (1, .int x1), (2, .int x2), (3, .int x3)]) hx hb dX11_chance_80 hl (k := 5) rfl (by rw [ev2]; rfl) (by decide) rfl (fun ls hl => ?_)
    clear ev2
    refine lv_goto (tgt := 34) hx hb dX11_chance_83 (by decide) ?_
    exact hk_34 _ _ _ _ _ _ h _ _ _ I (lv_sub hl [2, 3, 4, 5, 1, 0] rfl)
  have B_34 : ∀ (k_34 : St → Int32 → Int32 → Int32 → Int32 → Int32 → Option (Int32 × St)) (hk_34 : ∀ (S : St) (x1 : Int32) (x2 : Int32) (x3 : Int32) (x4 : Int32) (x5 : Int32), k_34 S x1 x2 x3 x4 x5 = some (r, S1) → ∀ (H : Heap) (locs : List Loc) (ls : Array Slot), Iv D (mw cI ad) S A s H locs → lv_has ls 6 [(0, .ref (ad 0)), (1, .int x1), (2, .int x2), (3, .int x3), (4, .int x4), (5, .int x5)] → W p l e ({ frames := 3, cells := 0, slots := 0, locals := 67 } : Room) s m args below meth c H locs 0 0 Q (F0 m 34 ls [])) (S : St) (x1 : Int32) (x2 : Int32) (x3 : Int32) (x4 : Int32) (x5 : Int32), f_X11_chance_34 k_34 S x1 x2 x3 x4 x5 = some (r, S1) → ∀ (H : Heap) (locs : List Loc) (ls : Array Slot), Iv D (mw cI ad) S A s H locs → lv_has ls 6 [(0, .ref (ad 0)), (1, .int x1), (2, .int x2), (3, .int x3), (4, .int x4), (5, .int x5)] → W p l e ({ frames := 3, cells := 0, slots := 0, locals := 67 } : Room) s m args below meth c H locs 0 0 Q (F0 m 34 ls []) := by
    intro k_34 hk_34 S x1 x2 x3 x4 x5 h H locs ls I hl
    unfold f_X11_chance_34 at h
    refine lv_iload hx hb dX11_chance_34 (lv_at hl 5 rfl) ?_
    refine lv_aload_n hx hb dX11_chance_36 rfl (lv_at hl 0 rfl) ?_
    refine gm_0_13 C hK I fl_X11_38 dX11_chance_37 ?_
    refine lv_iload_n hx hb dX11_chance_40 rfl (lv_at hl 2 rfl) ?_
    obtain ⟨hv3, h⟩ := chk_ex h
    refine am_7 C hK I hv3 dX11_chance_41 ?_
    refine lv_icmp_ge (tgt := 86) hx hb dX11_chance_42 (by decide) (fun c4 => ?_) (fun c4 => ?_)
    · have h := ite_t c4 h
      refine lv_iload hx hb dX11_chance_86 (lv_at hl 4 rfl) ?_
      refine lv_i2l hx hb dX11_chance_88 rfl ?_
      refine lv_aload_n hx hb dX11_chance_89 rfl (lv_at hl 0 rfl) ?_
      refine lv_iload_n hx hb dX11_chance_90 rfl (lv_at hl 2 rfl) ?_
      obtain ⟨r5, S5, e5, h⟩ := obd2_ex h
      refine k_V (As := [.int x2]) (rest := [.long (x4.toInt64)]) (st1 := [.int r5, .long (x4.toInt64)]) C kx hK I hA (c_X11_totalOf e5) ⟨Nat.le_of_ble_eq_true rfl, Nat.le_of_ble_eq_true rfl⟩ mv_X11_totalOf lk_X11_182 0 11 (mw_0 (cI := cI) (ad := ad)) rfl rfl hl.1 rfl (Nat.le_of_ble_eq_true rfl) dX11_chance_91 rfl (fun H locs I => ?_)
      refine lv_i2l hx hb dX11_chance_94 rfl ?_
      refine lv_iload_n hx hb dX11_chance_95 rfl (lv_at hl 3 rfl) ?_
      obtain ⟨r6, S6, e6, h⟩ := obd2_ex h
      refine k_S (As := [.long (x4.toInt64), .long (r5.toInt64), .int x3]) (rest := []) (st1 := [.long r6]) C kx hK I hA (c_X11_lowest e6) ⟨Nat.le_of_ble_eq_true rfl, Nat.le_of_ble_eq_true rfl⟩ ms_X11_lowest lk_X11_185 rfl hl.1 rfl (Nat.le_of_ble_eq_true rfl) dX11_chance_96 rfl (fun H locs I => ?_)
      refine lv_l2i hx hb dX11_chance_99 rfl ?_
      exact rt_i hq h I dX11_chance_100
    · have h := ite_n c4 h
      refine lv_iload hx hb dX11_chance_45 (lv_at hl 4 rfl) ?_
      refine lv_aload_n hx hb dX11_chance_47 rfl (lv_at hl 0 rfl) ?_
      refine lv_iload_n hx hb dX11_chance_48 rfl (lv_at hl 1 rfl) ?_
      refine lv_iload_n hx hb dX11_chance_49 rfl (lv_at hl 2 rfl) ?_
      refine lv_iload hx hb dX11_chance_50 (lv_at hl 5 rfl) ?_
      obtain ⟨r7, S7, e7, h⟩ := obd2_ex h
      refine k_V (As := [.int x1, .int x2, .int x5]) (rest := [.int x4]) (st1 := [.int r7, .int x4]) C kx hK I hA (c_X11_leftOf e7) ⟨Nat.le_of_ble_eq_true rfl, Nat.le_of_ble_eq_true rfl⟩ mv_X11_leftOf lk_X11_168 0 11 (mw_0 (cI := cI) (ad := ad)) rfl rfl hl.1 rfl (Nat.le_of_ble_eq_true rfl) dX11_chance_52 rfl (fun H locs I => ?_)
      refine lv_iconst (v := (-1)) hx hb dX11_chance_55 (by decide) ?_
      refine lv_icmp_ne (tgt := 63) hx hb dX11_chance_56 (by decide) (fun c8 => ?_) (fun c8 => ?_)
      · have h := ite_n c8 h
        refine lv_aload_n hx hb dX11_chance_63 rfl (lv_at hl 0 rfl) ?_
        refine gm_0_14 C hK I fl_X11_41 dX11_chance_64 ?_
        refine lv_bipush (v := 16) hx hb dX11_chance_67 (by decide) ?_
        refine lv_iload_n hx hb dX11_chance_69 rfl (lv_at hl 2 rfl) ?_
        refine lv_imul hx hb dX11_chance_70 ?_
        refine lv_iconst (v := 4) hx hb dX11_chance_71 (by decide) ?_
        refine lv_iload hx hb dX11_chance_72 (lv_at hl 5 rfl) ?_
        refine lv_imul hx hb dX11_chance_74 ?_
        refine lv_iadd hx hb dX11_chance_75 ?_
        obtain ⟨hv9, h⟩ := chk_ex h
        refine am_8 C hK I hv9 dX11_chance_76 ?_
        exact J_77 k_34 hk_34 _ _ _ _ _ _ _ h _ _ _ I (lv_sub hl [0, 1, 2, 3, 5] rfl)
      · have h := ite_t c8 h
        refine lv_iconst (v := 0) hx hb dX11_chance_59 (by decide) ?_
        refine lv_goto (tgt := 77) hx hb dX11_chance_60 (by decide) ?_
        exact J_77 k_34 hk_34 _ _ _ _ _ _ _ h _ _ _ I (lv_sub hl [0, 1, 2, 3, 5] rfl)
  have J_34 : ∀ (fu : Nat) (S : St) (x1 : Int32) (x2 : Int32) (x3 : Int32) (x4 : Int32) (x5 : Int32), l_X11_chance_34  fu S x1 x2 x3 x4 x5 = some (r, S1) → ∀ (H : Heap) (locs : List Loc) (ls : Array Slot), Iv D (mw cI ad) S A s H locs → lv_has ls 6 [(0, .ref (ad 0)), (1, .int x1), (2, .int x2), (3, .int x3), (4, .int x4), (5, .int x5)] → W p l e ({ frames := 3, cells := 0, slots := 0, locals := 67 } : Room) s m args below meth c H locs 0 0 Q (F0 m 34 ls []) := by
    intro fu
    induction fu with
    | zero => intro S x1 x2 x3 x4 x5 h; cases h
    | succ fu ih => intro S x1 x2 x3 x4 x5 h; exact B_34 (l_X11_chance_34 fu) ih S x1 x2 x3 x4 x5 h
  unfold f_X11_chance at h
  refine lv_aload_n hx hb dX11_chance_0 rfl (lv_at hl 0 rfl) ?_
  refine lv_iload_n hx hb dX11_chance_1 rfl (lv_at hl 2 rfl) ?_
  obtain ⟨r10, S10, e10, h⟩ := obd2_ex h
  refine k_V (As := [.int x2]) (rest := []) (st1 := [.int r10]) C kx hK I hA (c_X11_isUsable e10) ⟨Nat.le_of_ble_eq_true rfl, Nat.le_of_ble_eq_true rfl⟩ mv_X11_isUsable lk_X11_176 0 11 (mw_0 (cI := cI) (ad := ad)) rfl rfl hl.1 rfl (Nat.le_of_ble_eq_true rfl) dX11_chance_2 rfl (fun H locs I => ?_)
  refine lv_if_ne (tgt := 11) hx hb dX11_chance_5 (by decide) (fun c11 => ?_) (fun c11 => ?_)
  · have h := ite_n c11 h
    refine lv_iload_n hx hb dX11_chance_11 rfl (lv_at hl 1 rfl) ?_
    obtain ⟨r12, S12, e12, h⟩ := obd2_ex h
    refine k_S (As := [.int x1]) (rest := []) (st1 := [.int r12]) C kx hK I hA (c_X11_isBag e12) ⟨Nat.le_of_ble_eq_true rfl, Nat.le_of_ble_eq_true rfl⟩ ms_X11_isBag lk_X11_159 rfl hl.1 rfl (Nat.le_of_ble_eq_true rfl) dX11_chance_12 rfl (fun H locs I => ?_)
    refine lv_if_eq (tgt := 25) hx hb dX11_chance_15 (by decide) (fun c13 => ?_) (fun c13 => ?_)
    · have h := ite_t c13 h
      refine lv_bipush (v := (-3)) hx hb dX11_chance_25 (by decide) ?_
      exact rt_i hq h I dX11_chance_27
    · have h := ite_n c13 h
      refine lv_iload_n hx hb dX11_chance_18 rfl (lv_at hl 3 rfl) ?_
      obtain ⟨r14, S14, e14, h⟩ := obd2_ex h
      refine k_S (As := [.int x3]) (rest := []) (st1 := [.int r14]) C kx hK I hA (c_X11_isPart e14) ⟨Nat.le_of_ble_eq_true rfl, Nat.le_of_ble_eq_true rfl⟩ ms_X11_isPart lk_X11_179 rfl hl.1 rfl (Nat.le_of_ble_eq_true rfl) dX11_chance_19 rfl (fun H locs I => ?_)
      refine lv_if_ne (tgt := 28) hx hb dX11_chance_22 (by decide) (fun c15 => ?_) (fun c15 => ?_)
      · have h := ite_n c15 h
        refine lv_iconst (v := 0) hx hb dX11_chance_28 (by decide) ?_
        refine lv_istore (lv' := [(4, .int 0), (0, .ref (ad 0)), (1, .int x1), (2, .int x2), (3, .int x3)]) hx hb dX11_chance_29 hl (by decide) rfl (fun ls hl => ?_)
        refine lv_iconst (v := 0) hx hb dX11_chance_31 (by decide) ?_
        refine lv_istore (lv' := [(5, .int 0), (4, .int 0), (0, .ref (ad 0)), (1, .int x1), (2, .int x2), (3, .int x3)]) hx hb dX11_chance_32 hl (by decide) rfl (fun ls hl => ?_)
        exact J_34 _ _ _ _ _ _ _ h _ _ _ I (lv_sub hl [2, 3, 4, 5, 1, 0] rfl)
      · have h := ite_t c15 h
        refine lv_bipush (v := (-3)) hx hb dX11_chance_25 (by decide) ?_
        exact rt_i hq h I dX11_chance_27
  · have h := ite_t c11 h
    refine lv_bipush (v := (-2)) hx hb dX11_chance_8 (by decide) ?_
    exact rt_i hq h I dX11_chance_10
theorem cn_X11_189 : Cond.constantLong RX11 189 ((6)) ∈ TT := tt_of 1371 (by decide +kernel) rfl
theorem dX11_refuses_0 : decode cX11_refuses 0 = .ok (.iload_n 2, 1) := by decide +kernel
theorem dX11_refuses_1 : decode cX11_refuses 1 = .ok (.i2l, 1) := by decide +kernel
theorem dX11_refuses_2 : decode cX11_refuses 2 = .ok (.lconst 1, 1) := by decide +kernel
theorem dX11_refuses_3 : decode cX11_refuses 3 = .ok (.ldc2_w 189, 3) := by decide +kernel
theorem dX11_refuses_6 : decode cX11_refuses 6 = .ok (.invokestatic 55, 3) := by decide +kernel
theorem dX11_refuses_9 : decode cX11_refuses 9 = .ok (.ifCond .ne 6, 3) := by decide +kernel
theorem dX11_refuses_12 : decode cX11_refuses 12 = .ok (.bipush (-3), 2) := by decide +kernel
theorem dX11_refuses_14 : decode cX11_refuses 14 = .ok (.ireturn, 1) := by decide +kernel
theorem dX11_refuses_15 : decode cX11_refuses 15 = .ok (.iconst 0, 1) := by decide +kernel
theorem dX11_refuses_16 : decode cX11_refuses 16 = .ok (.istore_n 3, 1) := by decide +kernel
theorem dX11_refuses_17 : decode cX11_refuses 17 = .ok (.iconst 0, 1) := by decide +kernel
theorem dX11_refuses_18 : decode cX11_refuses 18 = .ok (.istore 4, 2) := by decide +kernel
theorem dX11_refuses_20 : decode cX11_refuses 20 = .ok (.iconst 0, 1) := by decide +kernel
theorem dX11_refuses_21 : decode cX11_refuses 21 = .ok (.istore 5, 2) := by decide +kernel
theorem dX11_refuses_23 : decode cX11_refuses 23 = .ok (.iload 5, 2) := by decide +kernel
theorem dX11_refuses_25 : decode cX11_refuses 25 = .ok (.iload_n 2, 1) := by decide +kernel
theorem dX11_refuses_26 : decode cX11_refuses 26 = .ok (.if_icmp .ge 85, 3) := by decide +kernel
theorem dX11_refuses_29 : decode cX11_refuses 29 = .ok (.iload_n 1, 1) := by decide +kernel
theorem dX11_refuses_30 : decode cX11_refuses 30 = .ok (.iconst 4, 1) := by decide +kernel
theorem dX11_refuses_31 : decode cX11_refuses 31 = .ok (.iload 5, 2) := by decide +kernel
theorem dX11_refuses_33 : decode cX11_refuses 33 = .ok (.imul, 1) := by decide +kernel
theorem dX11_refuses_34 : decode cX11_refuses 34 = .ok (.ishr, 1) := by decide +kernel
theorem dX11_refuses_35 : decode cX11_refuses 35 = .ok (.bipush 15, 2) := by decide +kernel
theorem dX11_refuses_37 : decode cX11_refuses 37 = .ok (.iand, 1) := by decide +kernel
theorem dX11_refuses_38 : decode cX11_refuses 38 = .ok (.istore 6, 2) := by decide +kernel
theorem dX11_refuses_40 : decode cX11_refuses 40 = .ok (.iload 6, 2) := by decide +kernel
theorem dX11_refuses_42 : decode cX11_refuses 42 = .ok (.bipush 6, 2) := by decide +kernel
theorem dX11_refuses_44 : decode cX11_refuses 44 = .ok (.if_icmp .eq 15, 3) := by decide +kernel
theorem dX11_refuses_47 : decode cX11_refuses 47 = .ok (.aload_n 0, 1) := by decide +kernel
theorem dX11_refuses_48 : decode cX11_refuses 48 = .ok (.iload 6, 2) := by decide +kernel
theorem dX11_refuses_50 : decode cX11_refuses 50 = .ok (.invokevirtual 176, 3) := by decide +kernel
theorem dX11_refuses_53 : decode cX11_refuses 53 = .ok (.ifCond .ne 6, 3) := by decide +kernel
theorem dX11_refuses_56 : decode cX11_refuses 56 = .ok (.bipush (-2), 2) := by decide +kernel
theorem dX11_refuses_58 : decode cX11_refuses 58 = .ok (.ireturn, 1) := by decide +kernel
theorem dX11_refuses_59 : decode cX11_refuses 59 = .ok (.iload 4, 2) := by decide +kernel
theorem dX11_refuses_61 : decode cX11_refuses 61 = .ok (.ifCond .ne 19, 3) := by decide +kernel
theorem dX11_refuses_64 : decode cX11_refuses 64 = .ok (.iload 6, 2) := by decide +kernel
theorem dX11_refuses_66 : decode cX11_refuses 66 = .ok (.bipush 6, 2) := by decide +kernel
theorem dX11_refuses_68 : decode cX11_refuses 68 = .ok (.if_icmp .eq 16, 3) := by decide +kernel
theorem dX11_refuses_71 : decode cX11_refuses 71 = .ok (.iload_n 3, 1) := by decide +kernel
theorem dX11_refuses_72 : decode cX11_refuses 72 = .ok (.iload 6, 2) := by decide +kernel
theorem dX11_refuses_74 : decode cX11_refuses 74 = .ok (.invokestatic 85, 3) := by decide +kernel
theorem dX11_refuses_77 : decode cX11_refuses 77 = .ok (.ifCond .eq 7, 3) := by decide +kernel
theorem dX11_refuses_80 : decode cX11_refuses 80 = .ok (.iconst 1, 1) := by decide +kernel
theorem dX11_refuses_81 : decode cX11_refuses 81 = .ok (.goto 4, 3) := by decide +kernel
theorem dX11_refuses_84 : decode cX11_refuses 84 = .ok (.iconst 0, 1) := by decide +kernel
theorem dX11_refuses_85 : decode cX11_refuses 85 = .ok (.istore 4, 2) := by decide +kernel
theorem dX11_refuses_87 : decode cX11_refuses 87 = .ok (.iload_n 3, 1) := by decide +kernel
theorem dX11_refuses_88 : decode cX11_refuses 88 = .ok (.iload 6, 2) := by decide +kernel
theorem dX11_refuses_90 : decode cX11_refuses 90 = .ok (.bipush 6, 2) := by decide +kernel
theorem dX11_refuses_92 : decode cX11_refuses 92 = .ok (.if_icmp .ne 7, 3) := by decide +kernel
theorem dX11_refuses_95 : decode cX11_refuses 95 = .ok (.iconst 0, 1) := by decide +kernel
theorem dX11_refuses_96 : decode cX11_refuses 96 = .ok (.goto 7, 3) := by decide +kernel
theorem dX11_refuses_99 : decode cX11_refuses 99 = .ok (.iconst 1, 1) := by decide +kernel
theorem dX11_refuses_100 : decode cX11_refuses 100 = .ok (.iload 6, 2) := by decide +kernel
theorem dX11_refuses_102 : decode cX11_refuses 102 = .ok (.ishl, 1) := by decide +kernel
theorem dX11_refuses_103 : decode cX11_refuses 103 = .ok (.ior, 1) := by decide +kernel
theorem dX11_refuses_104 : decode cX11_refuses 104 = .ok (.istore_n 3, 1) := by decide +kernel
theorem dX11_refuses_105 : decode cX11_refuses 105 = .ok (.iinc 5 1, 3) := by decide +kernel
theorem dX11_refuses_108 : decode cX11_refuses 108 = .ok (.goto (-85), 3) := by decide +kernel
theorem dX11_refuses_111 : decode cX11_refuses 111 = .ok (.iload 4, 2) := by decide +kernel
theorem dX11_refuses_113 : decode cX11_refuses 113 = .ok (.ifCond .eq 8, 3) := by decide +kernel
theorem dX11_refuses_116 : decode cX11_refuses 116 = .ok (.bipush (-3), 2) := by decide +kernel
theorem dX11_refuses_118 : decode cX11_refuses 118 = .ok (.goto 4, 3) := by decide +kernel
theorem dX11_refuses_121 : decode cX11_refuses 121 = .ok (.iconst 0, 1) := by decide +kernel
theorem dX11_refuses_122 : decode cX11_refuses 122 = .ok (.ireturn, 1) := by decide +kernel
def f_X11_refuses_103 (k_23 : St → Int32 → Int32 → Int32 → Int32 → Int32 → Option (Int32 × St)) (S : St) (x1 : Int32) (x2 : Int32) (x4 : Int32) (x5 : Int32) (t0 : Int32) (t1 : Int32) : Option (Int32 × St) :=
  bnd ((t0 ||| t1) : Int32) fun v1 =>
  bnd (x5 + 1 : Int32) fun v2 =>
  k_23 S x1 x2 v1 x4 v2
def f_X11_refuses_85 (k_23 : St → Int32 → Int32 → Int32 → Int32 → Int32 → Option (Int32 × St)) (S : St) (x1 : Int32) (x2 : Int32) (x3 : Int32) (x5 : Int32) (x6 : Int32) (t0 : Int32) : Option (Int32 × St) :=
  if x6 = 6 then (
    f_X11_refuses_103 k_23 S x1 x2 t0 x5 x3 0
  ) else (
    f_X11_refuses_103 k_23 S x1 x2 t0 x5 x3 ((1 : Int32) <<< (x6 &&& 31))
  )
def f_X11_refuses_80 (k_23 : St → Int32 → Int32 → Int32 → Int32 → Int32 → Option (Int32 × St)) (S : St) (x1 : Int32) (x2 : Int32) (x3 : Int32) (x5 : Int32) (x6 : Int32) : Option (Int32 × St) :=
  f_X11_refuses_85 k_23 S x1 x2 x3 x5 x6 1
def f_X11_refuses_84 (k_23 : St → Int32 → Int32 → Int32 → Int32 → Int32 → Option (Int32 × St)) (S : St) (x1 : Int32) (x2 : Int32) (x3 : Int32) (x5 : Int32) (x6 : Int32) : Option (Int32 × St) :=
  f_X11_refuses_85 k_23 S x1 x2 x3 x5 x6 0
def f_X11_refuses_59 (k_23 : St → Int32 → Int32 → Int32 → Int32 → Int32 → Option (Int32 × St)) (S : St) (x1 : Int32) (x2 : Int32) (x3 : Int32) (x4 : Int32) (x5 : Int32) (x6 : Int32) : Option (Int32 × St) :=
  if x4 = 0 then (
    if x6 = 6 then (
      f_X11_refuses_84 k_23 S x1 x2 x3 x5 x6
    ) else (
      obd2 (f_X11_has S x3 x6) fun r6 S6 =>
      if r6 = 0 then (
        f_X11_refuses_84 k_23 S6 x1 x2 x3 x5 x6
      ) else (
        f_X11_refuses_80 k_23 S6 x1 x2 x3 x5 x6
      )
    )
  ) else (
    f_X11_refuses_80 k_23 S x1 x2 x3 x5 x6
  )
def f_X11_refuses_23 (k_23 : St → Int32 → Int32 → Int32 → Int32 → Int32 → Option (Int32 × St)) (S : St) (x1 : Int32) (x2 : Int32) (x3 : Int32) (x4 : Int32) (x5 : Int32) : Option (Int32 × St) :=
  if x2 ≤ x5 then (
    if x4 = 0 then (
      some (0, S)
    ) else (
      some ((-3), S)
    )
  ) else (
    bnd (((x1 >>> ((4 * x5) &&& 31)) &&& 15) : Int32) fun v10 =>
    if v10 = 6 then (
      f_X11_refuses_59 k_23 S x1 x2 x3 x4 x5 v10
    ) else (
      obd2 (f_X11_isUsable S v10) fun r12 S12 =>
      if r12 = 0 then (
        some ((-2), S12)
      ) else (
        f_X11_refuses_59 k_23 S12 x1 x2 x3 x4 x5 v10
      )
    )
  )
def l_X11_refuses_23 : Nat → St → Int32 → Int32 → Int32 → Int32 → Int32 → Option (Int32 × St)
  | 0, _, _, _, _, _, _ => none
  | fu + 1, S, x1, x2, x3, x4, x5 => f_X11_refuses_23 (l_X11_refuses_23 fu) S x1 x2 x3 x4 x5
def f_X11_refuses (S : St) (x1 : Int32) (x2 : Int32) : Option (Int32 × St) :=
  obd2 (f_X11_in S (x2.toInt64) (1) (6)) fun r14 S14 =>
  if r14 = 0 then (
    some ((-3), S14)
  ) else (
    l_X11_refuses_23 FU S14 x1 x2 0 0 0
  )
set_option maxHeartbeats 4000000 in
set_option maxRecDepth 100000 in
theorem c_X11_refuses {l : Launch} {D : va_G} {cI cC cS : ClassId} {ad adK adV : Nat → Nat} {S S1 : St} {x1 : Int32} {x2 : Int32} {r : Int32} (h : f_X11_refuses S x1 x2 = some (r, S1)) : Kt l D (mw cI ad) (KX D (xtys cI cC cS) adK adV) yX11_refuses cX11_refuses 7 (some .int) (3) (67) [.ref (ad 0), .int x1, .int x2] S (some (.int r)) S1 := by
  refine k_ent (ins := .ireturn) (st := [.int r]) (by decide +kernel) (Nat.le_of_ble_eq_true rfl) ret_i ?_
  intro p e s m args below meth c A Q C hK I hA hq ls hl
  have C : CallFix p m c cX11_refuses 7 s args TT RX11 := C
  have hx := C.1
  have hb := C.2.1
  have kx := kx_ok D (xtys cI cC cS) adK adV
  have hl : lv_has ls 7 [(0, .ref (ad 0)), (1, .int x1), (2, .int x2)] := hl
  have J_103 : ∀ (k_23 : St → Int32 → Int32 → Int32 → Int32 → Int32 → Option (Int32 × St)) (hk_23 : ∀ (S : St) (x1 : Int32) (x2 : Int32) (x3 : Int32) (x4 : Int32) (x5 : Int32), k_23 S x1 x2 x3 x4 x5 = some (r, S1) → ∀ (H : Heap) (locs : List Loc) (ls : Array Slot), Iv D (mw cI ad) S A s H locs → lv_has ls 7 [(0, .ref (ad 0)), (1, .int x1), (2, .int x2), (3, .int x3), (4, .int x4), (5, .int x5)] → W p l e ({ frames := 3, cells := 0, slots := 0, locals := 67 } : Room) s m args below meth c H locs 0 0 Q (F0 m 23 ls [])) (S : St) (x1 : Int32) (x2 : Int32) (x4 : Int32) (x5 : Int32) (t0 : Int32) (t1 : Int32), f_X11_refuses_103 k_23 S x1 x2 x4 x5 t0 t1 = some (r, S1) → ∀ (H : Heap) (locs : List Loc) (ls : Array Slot), Iv D (mw cI ad) S A s H locs → lv_has ls 7 [(0, .ref (ad 0)), (1, .int x1), (2, .int x2), (4, .int x4), (5, .int x5)] → W p l e ({ frames := 3, cells := 0, slots := 0, locals := 67 } : Room) s m args below meth c H locs 0 0 Q (F0 m 103 ls [.int t1, .int t0]) := by
    intro k_23 hk_23 S x1 x2 x4 x5 t0 t1 h H locs ls I hl
    unfold f_X11_refuses_103 at h
    refine lv_ior hx hb dX11_refuses_103 ?_
    refine lv_topi (fun v1 ev1 => ?_)
    have h := bnd_at ev1 h
    clear ev1
    refine lv_istore_n (lv' := [(3, .int v1), (0, .ref (ad 0)), (1, .int x1), (2, .int x2), (4, .int x4), (5, .int x5)]) hx hb dX11_refuses_104 rfl hl (by decide) rfl (fun ls hl => ?_)
    obtain ⟨v2, ev2⟩ : ∃ y : Int32, y = x5 + 1 := ⟨_, rfl⟩
    have h := bnd_at ev2 h
    refine lv_iinc (v := v2) (lv' := [(5, .int v2), (3, .int v1), (0, .ref (ad 0)), (1, .int x1), (2, .int x2), (4, .int x4)]) hx hb dX11_refuses_105 hl (k := 5) rfl (by rw [ev2]; rfl) (by decide) rfl (fun ls hl => ?_)
    clear ev2
    refine lv_goto (tgt := 23) hx hb dX11_refuses_108 (by decide) ?_
    exact hk_23 _ _ _ _ _ _ h _ _ _ I (lv_sub hl [2, 3, 4, 1, 5, 0] rfl)
  have J_85 : ∀ (k_23 : St → Int32 → Int32 → Int32 → Int32 → Int32 → Option (Int32 × St)) (hk_23 : ∀ (S : St) (x1 : Int32) (x2 : Int32) (x3 : Int32) (x4 : Int32) (x5 : Int32), k_23 S x1 x2 x3 x4 x5 = some (r, S1) → ∀ (H : Heap) (locs : List Loc) (ls : Array Slot), Iv D (mw cI ad) S A s H locs → lv_has ls 7 [(0, .ref (ad 0)), (1, .int x1), (2, .int x2), (3, .int x3), (4, .int x4), (5, .int x5)] → W p l e ({ frames := 3, cells := 0, slots := 0, locals := 67 } : Room) s m args below meth c H locs 0 0 Q (F0 m 23 ls [])) (S : St) (x1 : Int32) (x2 : Int32) (x3 : Int32) (x5 : Int32) (x6 : Int32) (t0 : Int32), f_X11_refuses_85 k_23 S x1 x2 x3 x5 x6 t0 = some (r, S1) → ∀ (H : Heap) (locs : List Loc) (ls : Array Slot), Iv D (mw cI ad) S A s H locs → lv_has ls 7 [(0, .ref (ad 0)), (1, .int x1), (2, .int x2), (3, .int x3), (5, .int x5), (6, .int x6)] → W p l e ({ frames := 3, cells := 0, slots := 0, locals := 67 } : Room) s m args below meth c H locs 0 0 Q (F0 m 85 ls [.int t0]) := by
    intro k_23 hk_23 S x1 x2 x3 x5 x6 t0 h H locs ls I hl
    unfold f_X11_refuses_85 at h
    refine lv_istore (lv' := [(4, .int t0), (0, .ref (ad 0)), (1, .int x1), (2, .int x2), (3, .int x3), (5, .int x5), (6, .int x6)]) hx hb dX11_refuses_85 hl (by decide) rfl (fun ls hl => ?_)
    refine lv_iload_n hx hb dX11_refuses_87 rfl (lv_at hl 4 rfl) ?_
    refine lv_iload hx hb dX11_refuses_88 (lv_at hl 6 rfl) ?_
    refine lv_bipush (v := 6) hx hb dX11_refuses_90 (by decide) ?_
    refine lv_icmp_ne (tgt := 99) hx hb dX11_refuses_92 (by decide) (fun c3 => ?_) (fun c3 => ?_)
    · have h := ite_n c3 h
      refine lv_iconst (v := 1) hx hb dX11_refuses_99 (by decide) ?_
      refine lv_iload hx hb dX11_refuses_100 (lv_at hl 6 rfl) ?_
      refine lv_ishl hx hb dX11_refuses_102 ?_
      exact J_103 k_23 hk_23 _ _ _ _ _ _ _ h _ _ _ I (lv_sub hl [1, 2, 3, 0, 5] rfl)
    · have h := ite_t c3 h
      refine lv_iconst (v := 0) hx hb dX11_refuses_95 (by decide) ?_
      refine lv_goto (tgt := 103) hx hb dX11_refuses_96 (by decide) ?_
      exact J_103 k_23 hk_23 _ _ _ _ _ _ _ h _ _ _ I (lv_sub hl [1, 2, 3, 0, 5] rfl)
  have J_80 : ∀ (k_23 : St → Int32 → Int32 → Int32 → Int32 → Int32 → Option (Int32 × St)) (hk_23 : ∀ (S : St) (x1 : Int32) (x2 : Int32) (x3 : Int32) (x4 : Int32) (x5 : Int32), k_23 S x1 x2 x3 x4 x5 = some (r, S1) → ∀ (H : Heap) (locs : List Loc) (ls : Array Slot), Iv D (mw cI ad) S A s H locs → lv_has ls 7 [(0, .ref (ad 0)), (1, .int x1), (2, .int x2), (3, .int x3), (4, .int x4), (5, .int x5)] → W p l e ({ frames := 3, cells := 0, slots := 0, locals := 67 } : Room) s m args below meth c H locs 0 0 Q (F0 m 23 ls [])) (S : St) (x1 : Int32) (x2 : Int32) (x3 : Int32) (x5 : Int32) (x6 : Int32), f_X11_refuses_80 k_23 S x1 x2 x3 x5 x6 = some (r, S1) → ∀ (H : Heap) (locs : List Loc) (ls : Array Slot), Iv D (mw cI ad) S A s H locs → lv_has ls 7 [(0, .ref (ad 0)), (1, .int x1), (2, .int x2), (3, .int x3), (5, .int x5), (6, .int x6)] → W p l e ({ frames := 3, cells := 0, slots := 0, locals := 67 } : Room) s m args below meth c H locs 0 0 Q (F0 m 80 ls []) := by
    intro k_23 hk_23 S x1 x2 x3 x5 x6 h H locs ls I hl
    unfold f_X11_refuses_80 at h
    refine lv_iconst (v := 1) hx hb dX11_refuses_80 (by decide) ?_
    refine lv_goto (tgt := 85) hx hb dX11_refuses_81 (by decide) ?_
    exact J_85 k_23 hk_23 _ _ _ _ _ _ _ h _ _ _ I (lv_sub hl [0, 1, 2, 3, 4, 5] rfl)
  have J_84 : ∀ (k_23 : St → Int32 → Int32 → Int32 → Int32 → Int32 → Option (Int32 × St)) (hk_23 : ∀ (S : St) (x1 : Int32) (x2 : Int32) (x3 : Int32) (x4 : Int32) (x5 : Int32), k_23 S x1 x2 x3 x4 x5 = some (r, S1) → ∀ (H : Heap) (locs : List Loc) (ls : Array Slot), Iv D (mw cI ad) S A s H locs → lv_has ls 7 [(0, .ref (ad 0)), (1, .int x1), (2, .int x2), (3, .int x3), (4, .int x4), (5, .int x5)] → W p l e ({ frames := 3, cells := 0, slots := 0, locals := 67 } : Room) s m args below meth c H locs 0 0 Q (F0 m 23 ls [])) (S : St) (x1 : Int32) (x2 : Int32) (x3 : Int32) (x5 : Int32) (x6 : Int32), f_X11_refuses_84 k_23 S x1 x2 x3 x5 x6 = some (r, S1) → ∀ (H : Heap) (locs : List Loc) (ls : Array Slot), Iv D (mw cI ad) S A s H locs → lv_has ls 7 [(0, .ref (ad 0)), (1, .int x1), (2, .int x2), (3, .int x3), (5, .int x5), (6, .int x6)] → W p l e ({ frames := 3, cells := 0, slots := 0, locals := 67 } : Room) s m args below meth c H locs 0 0 Q (F0 m 84 ls []) := by
    intro k_23 hk_23 S x1 x2 x3 x5 x6 h H locs ls I hl
    unfold f_X11_refuses_84 at h
    refine lv_iconst (v := 0) hx hb dX11_refuses_84 (by decide) ?_
    exact J_85 k_23 hk_23 _ _ _ _ _ _ _ h _ _ _ I (lv_sub hl [0, 1, 2, 3, 4, 5] rfl)
  have J_59 : ∀ (k_23 : St → Int32 → Int32 → Int32 → Int32 → Int32 → Option (Int32 × St)) (hk_23 : ∀ (S : St) (x1 : Int32) (x2 : Int32) (x3 : Int32) (x4 : Int32) (x5 : Int32), k_23 S x1 x2 x3 x4 x5 = some (r, S1) → ∀ (H : Heap) (locs : List Loc) (ls : Array Slot), Iv D (mw cI ad) S A s H locs → lv_has ls 7 [(0, .ref (ad 0)), (1, .int x1), (2, .int x2), (3, .int x3), (4, .int x4), (5, .int x5)] → W p l e ({ frames := 3, cells := 0, slots := 0, locals := 67 } : Room) s m args below meth c H locs 0 0 Q (F0 m 23 ls [])) (S : St) (x1 : Int32) (x2 : Int32) (x3 : Int32) (x4 : Int32) (x5 : Int32) (x6 : Int32), f_X11_refuses_59 k_23 S x1 x2 x3 x4 x5 x6 = some (r, S1) → ∀ (H : Heap) (locs : List Loc) (ls : Array Slot), Iv D (mw cI ad) S A s H locs → lv_has ls 7 [(0, .ref (ad 0)), (1, .int x1), (2, .int x2), (3, .int x3), (4, .int x4), (5, .int x5), (6, .int x6)] → W p l e ({ frames := 3, cells := 0, slots := 0, locals := 67 } : Room) s m args below meth c H locs 0 0 Q (F0 m 59 ls []) := by
    intro k_23 hk_23 S x1 x2 x3 x4 x5 x6 h H locs ls I hl
    unfold f_X11_refuses_59 at h
    refine lv_iload hx hb dX11_refuses_59 (lv_at hl 4 rfl) ?_
    refine lv_if_ne (tgt := 80) hx hb dX11_refuses_61 (by decide) (fun c4 => ?_) (fun c4 => ?_)
    · have h := ite_n c4 h
      exact J_80 k_23 hk_23 _ _ _ _ _ _ h _ _ _ I (lv_sub hl [0, 1, 2, 3, 5, 6] rfl)
    · have h := ite_t c4 h
      refine lv_iload hx hb dX11_refuses_64 (lv_at hl 6 rfl) ?_
      refine lv_bipush (v := 6) hx hb dX11_refuses_66 (by decide) ?_
      refine lv_icmp_eq (tgt := 84) hx hb dX11_refuses_68 (by decide) (fun c5 => ?_) (fun c5 => ?_)
      · have h := ite_t c5 h
        exact J_84 k_23 hk_23 _ _ _ _ _ _ h _ _ _ I (lv_sub hl [0, 1, 2, 3, 5, 6] rfl)
      · have h := ite_n c5 h
        refine lv_iload_n hx hb dX11_refuses_71 rfl (lv_at hl 3 rfl) ?_
        refine lv_iload hx hb dX11_refuses_72 (lv_at hl 6 rfl) ?_
        obtain ⟨r6, S6, e6, h⟩ := obd2_ex h
        refine k_S (As := [.int x3, .int x6]) (rest := []) (st1 := [.int r6]) C kx hK I hA (c_X11_has e6) ⟨Nat.le_of_ble_eq_true rfl, Nat.le_of_ble_eq_true rfl⟩ ms_X11_has lk_X11_85 rfl hl.1 rfl (Nat.le_of_ble_eq_true rfl) dX11_refuses_74 rfl (fun H locs I => ?_)
        refine lv_if_eq (tgt := 84) hx hb dX11_refuses_77 (by decide) (fun c7 => ?_) (fun c7 => ?_)
        · have h := ite_t c7 h
          exact J_84 k_23 hk_23 _ _ _ _ _ _ h _ _ _ I (lv_sub hl [0, 1, 2, 3, 5, 6] rfl)
        · have h := ite_n c7 h
          exact J_80 k_23 hk_23 _ _ _ _ _ _ h _ _ _ I (lv_sub hl [0, 1, 2, 3, 5, 6] rfl)
  have B_23 : ∀ (k_23 : St → Int32 → Int32 → Int32 → Int32 → Int32 → Option (Int32 × St)) (hk_23 : ∀ (S : St) (x1 : Int32) (x2 : Int32) (x3 : Int32) (x4 : Int32) (x5 : Int32), k_23 S x1 x2 x3 x4 x5 = some (r, S1) → ∀ (H : Heap) (locs : List Loc) (ls : Array Slot), Iv D (mw cI ad) S A s H locs → lv_has ls 7 [(0, .ref (ad 0)), (1, .int x1), (2, .int x2), (3, .int x3), (4, .int x4), (5, .int x5)] → W p l e ({ frames := 3, cells := 0, slots := 0, locals := 67 } : Room) s m args below meth c H locs 0 0 Q (F0 m 23 ls [])) (S : St) (x1 : Int32) (x2 : Int32) (x3 : Int32) (x4 : Int32) (x5 : Int32), f_X11_refuses_23 k_23 S x1 x2 x3 x4 x5 = some (r, S1) → ∀ (H : Heap) (locs : List Loc) (ls : Array Slot), Iv D (mw cI ad) S A s H locs → lv_has ls 7 [(0, .ref (ad 0)), (1, .int x1), (2, .int x2), (3, .int x3), (4, .int x4), (5, .int x5)] → W p l e ({ frames := 3, cells := 0, slots := 0, locals := 67 } : Room) s m args below meth c H locs 0 0 Q (F0 m 23 ls []) := by
    intro k_23 hk_23 S x1 x2 x3 x4 x5 h H locs ls I hl
    unfold f_X11_refuses_23 at h
    refine lv_iload hx hb dX11_refuses_23 (lv_at hl 5 rfl) ?_
    refine lv_iload_n hx hb dX11_refuses_25 rfl (lv_at hl 2 rfl) ?_
    refine lv_icmp_ge (tgt := 111) hx hb dX11_refuses_26 (by decide) (fun c8 => ?_) (fun c8 => ?_)
    · have h := ite_t c8 h
      refine lv_iload hx hb dX11_refuses_111 (lv_at hl 4 rfl) ?_
      refine lv_if_eq (tgt := 121) hx hb dX11_refuses_113 (by decide) (fun c9 => ?_) (fun c9 => ?_)
      · have h := ite_t c9 h
        refine lv_iconst (v := 0) hx hb dX11_refuses_121 (by decide) ?_
        exact rt_i hq h I dX11_refuses_122
      · have h := ite_n c9 h
        refine lv_bipush (v := (-3)) hx hb dX11_refuses_116 (by decide) ?_
        refine lv_goto (tgt := 122) hx hb dX11_refuses_118 (by decide) ?_
        exact rt_i hq h I dX11_refuses_122
    · have h := ite_n c8 h
      refine lv_iload_n hx hb dX11_refuses_29 rfl (lv_at hl 1 rfl) ?_
      refine lv_iconst (v := 4) hx hb dX11_refuses_30 (by decide) ?_
      refine lv_iload hx hb dX11_refuses_31 (lv_at hl 5 rfl) ?_
      refine lv_imul hx hb dX11_refuses_33 ?_
      refine lv_ishr hx hb dX11_refuses_34 ?_
      refine lv_bipush (v := 15) hx hb dX11_refuses_35 (by decide) ?_
      refine lv_iand hx hb dX11_refuses_37 ?_
      refine lv_topi (fun v10 ev10 => ?_)
      have h := bnd_at ev10 h
      clear ev10
      refine lv_istore (lv' := [(6, .int v10), (0, .ref (ad 0)), (1, .int x1), (2, .int x2), (3, .int x3), (4, .int x4), (5, .int x5)]) hx hb dX11_refuses_38 hl (by decide) rfl (fun ls hl => ?_)
      refine lv_iload hx hb dX11_refuses_40 (lv_at hl 0 rfl) ?_
      refine lv_bipush (v := 6) hx hb dX11_refuses_42 (by decide) ?_
      refine lv_icmp_eq (tgt := 59) hx hb dX11_refuses_44 (by decide) (fun c11 => ?_) (fun c11 => ?_)
      · have h := ite_t c11 h
        exact J_59 k_23 hk_23 _ _ _ _ _ _ _ h _ _ _ I (lv_sub hl [1, 2, 3, 4, 5, 6, 0] rfl)
      · have h := ite_n c11 h
        refine lv_aload_n hx hb dX11_refuses_47 rfl (lv_at hl 1 rfl) ?_
        refine lv_iload hx hb dX11_refuses_48 (lv_at hl 0 rfl) ?_
        obtain ⟨r12, S12, e12, h⟩ := obd2_ex h
        refine k_V (As := [.int v10]) (rest := []) (st1 := [.int r12]) C kx hK I hA (c_X11_isUsable e12) ⟨Nat.le_of_ble_eq_true rfl, Nat.le_of_ble_eq_true rfl⟩ mv_X11_isUsable lk_X11_176 0 11 (mw_0 (cI := cI) (ad := ad)) rfl rfl hl.1 rfl (Nat.le_of_ble_eq_true rfl) dX11_refuses_50 rfl (fun H locs I => ?_)
        refine lv_if_ne (tgt := 59) hx hb dX11_refuses_53 (by decide) (fun c13 => ?_) (fun c13 => ?_)
        · have h := ite_n c13 h
          exact J_59 k_23 hk_23 _ _ _ _ _ _ _ h _ _ _ I (lv_sub hl [1, 2, 3, 4, 5, 6, 0] rfl)
        · have h := ite_t c13 h
          refine lv_bipush (v := (-2)) hx hb dX11_refuses_56 (by decide) ?_
          exact rt_i hq h I dX11_refuses_58
  have J_23 : ∀ (fu : Nat) (S : St) (x1 : Int32) (x2 : Int32) (x3 : Int32) (x4 : Int32) (x5 : Int32), l_X11_refuses_23  fu S x1 x2 x3 x4 x5 = some (r, S1) → ∀ (H : Heap) (locs : List Loc) (ls : Array Slot), Iv D (mw cI ad) S A s H locs → lv_has ls 7 [(0, .ref (ad 0)), (1, .int x1), (2, .int x2), (3, .int x3), (4, .int x4), (5, .int x5)] → W p l e ({ frames := 3, cells := 0, slots := 0, locals := 67 } : Room) s m args below meth c H locs 0 0 Q (F0 m 23 ls []) := by
    intro fu
    induction fu with
    | zero => intro S x1 x2 x3 x4 x5 h; cases h
    | succ fu ih => intro S x1 x2 x3 x4 x5 h; exact B_23 (l_X11_refuses_23 fu) ih S x1 x2 x3 x4 x5 h
  unfold f_X11_refuses at h
  refine lv_iload_n hx hb dX11_refuses_0 rfl (lv_at hl 2 rfl) ?_
  refine lv_i2l hx hb dX11_refuses_1 rfl ?_
  refine lv_lconst (v := (1)) hx hb dX11_refuses_2 (by decide) ?_
  refine lv_ldc2 (v := (6)) hx hb C.2.2.2.1 (C.2.2.2.2 _ cn_X11_189) dX11_refuses_3 ?_
  obtain ⟨r14, S14, e14, h⟩ := obd2_ex h
  refine k_S (As := [.long (x2.toInt64), .long (1), .long (6)]) (rest := []) (st1 := [.int r14]) C kx hK I hA (c_X11_in e14) ⟨Nat.le_of_ble_eq_true rfl, Nat.le_of_ble_eq_true rfl⟩ ms_X11_in lk_X11_55 rfl hl.1 rfl (Nat.le_of_ble_eq_true rfl) dX11_refuses_6 rfl (fun H locs I => ?_)
  refine lv_if_ne (tgt := 15) hx hb dX11_refuses_9 (by decide) (fun c15 => ?_) (fun c15 => ?_)
  · have h := ite_n c15 h
    refine lv_iconst (v := 0) hx hb dX11_refuses_15 (by decide) ?_
    refine lv_istore_n (lv' := [(3, .int 0), (0, .ref (ad 0)), (1, .int x1), (2, .int x2)]) hx hb dX11_refuses_16 rfl hl (by decide) rfl (fun ls hl => ?_)
    refine lv_iconst (v := 0) hx hb dX11_refuses_17 (by decide) ?_
    refine lv_istore (lv' := [(4, .int 0), (3, .int 0), (0, .ref (ad 0)), (1, .int x1), (2, .int x2)]) hx hb dX11_refuses_18 hl (by decide) rfl (fun ls hl => ?_)
    refine lv_iconst (v := 0) hx hb dX11_refuses_20 (by decide) ?_
    refine lv_istore (lv' := [(5, .int 0), (4, .int 0), (3, .int 0), (0, .ref (ad 0)), (1, .int x1), (2, .int x2)]) hx hb dX11_refuses_21 hl (by decide) rfl (fun ls hl => ?_)
    exact J_23 _ _ _ _ _ _ _ h _ _ _ I (lv_sub hl [3, 4, 5, 2, 1, 0] rfl)
  · have h := ite_t c15 h
    refine lv_bipush (v := (-3)) hx hb dX11_refuses_12 (by decide) ?_
    exact rt_i hq h I dX11_refuses_14
theorem fl_X11_197 : Cond.fieldLink RX11 197 RX11 "all" "J" ∈ TT := tt_of 1132 (by decide +kernel) rfl
theorem fl_X11_194 : Cond.fieldLink RX11 194 RX11 "combos" "I" ∈ TT := tt_of 1131 (by decide +kernel) rfl
theorem fl_X11_47 : Cond.fieldLink RX11 47 RX11 "entries" "[I" ∈ TT := tt_of 1129 (by decide +kernel) rfl
theorem fl_X11_191 : Cond.fieldLink RX11 191 RX11 "entryMany" "I" ∈ TT := tt_of 1130 (by decide +kernel) rfl
theorem dX11_layRow_0 : decode cX11_layRow 0 = .ok (.aload_n 0, 1) := by decide +kernel
theorem dX11_layRow_1 : decode cX11_layRow 1 = .ok (.iload_n 2, 1) := by decide +kernel
theorem dX11_layRow_2 : decode cX11_layRow 2 = .ok (.putfield 191, 3) := by decide +kernel
theorem dX11_layRow_5 : decode cX11_layRow 5 = .ok (.aload_n 0, 1) := by decide +kernel
theorem dX11_layRow_6 : decode cX11_layRow 6 = .ok (.iconst 1, 1) := by decide +kernel
theorem dX11_layRow_7 : decode cX11_layRow 7 = .ok (.putfield 194, 3) := by decide +kernel
theorem dX11_layRow_10 : decode cX11_layRow 10 = .ok (.aload_n 0, 1) := by decide +kernel
theorem dX11_layRow_11 : decode cX11_layRow 11 = .ok (.lconst 1, 1) := by decide +kernel
theorem dX11_layRow_12 : decode cX11_layRow 12 = .ok (.putfield 197, 3) := by decide +kernel
theorem dX11_layRow_15 : decode cX11_layRow 15 = .ok (.iconst 0, 1) := by decide +kernel
theorem dX11_layRow_16 : decode cX11_layRow 16 = .ok (.istore_n 3, 1) := by decide +kernel
theorem dX11_layRow_17 : decode cX11_layRow 17 = .ok (.iload_n 3, 1) := by decide +kernel
theorem dX11_layRow_18 : decode cX11_layRow 18 = .ok (.iload_n 2, 1) := by decide +kernel
theorem dX11_layRow_19 : decode cX11_layRow 19 = .ok (.if_icmp .ge 81, 3) := by decide +kernel
theorem dX11_layRow_22 : decode cX11_layRow 22 = .ok (.iload_n 1, 1) := by decide +kernel
theorem dX11_layRow_23 : decode cX11_layRow 23 = .ok (.iconst 4, 1) := by decide +kernel
theorem dX11_layRow_24 : decode cX11_layRow 24 = .ok (.iload_n 3, 1) := by decide +kernel
theorem dX11_layRow_25 : decode cX11_layRow 25 = .ok (.imul, 1) := by decide +kernel
theorem dX11_layRow_26 : decode cX11_layRow 26 = .ok (.ishr, 1) := by decide +kernel
theorem dX11_layRow_27 : decode cX11_layRow 27 = .ok (.bipush 15, 2) := by decide +kernel
theorem dX11_layRow_29 : decode cX11_layRow 29 = .ok (.iand, 1) := by decide +kernel
theorem dX11_layRow_30 : decode cX11_layRow 30 = .ok (.istore 4, 2) := by decide +kernel
theorem dX11_layRow_32 : decode cX11_layRow 32 = .ok (.aload_n 0, 1) := by decide +kernel
theorem dX11_layRow_33 : decode cX11_layRow 33 = .ok (.getfield 47, 3) := by decide +kernel
theorem dX11_layRow_36 : decode cX11_layRow 36 = .ok (.iload_n 3, 1) := by decide +kernel
theorem dX11_layRow_37 : decode cX11_layRow 37 = .ok (.iload 4, 2) := by decide +kernel
theorem dX11_layRow_39 : decode cX11_layRow 39 = .ok (.iastore, 1) := by decide +kernel
theorem dX11_layRow_40 : decode cX11_layRow 40 = .ok (.aload_n 0, 1) := by decide +kernel
theorem dX11_layRow_41 : decode cX11_layRow 41 = .ok (.dup, 1) := by decide +kernel
theorem dX11_layRow_42 : decode cX11_layRow 42 = .ok (.getfield 194, 3) := by decide +kernel
theorem dX11_layRow_45 : decode cX11_layRow 45 = .ok (.iload 4, 2) := by decide +kernel
theorem dX11_layRow_47 : decode cX11_layRow 47 = .ok (.bipush 6, 2) := by decide +kernel
theorem dX11_layRow_49 : decode cX11_layRow 49 = .ok (.if_icmp .ne 7, 3) := by decide +kernel
theorem dX11_layRow_52 : decode cX11_layRow 52 = .ok (.iconst 1, 1) := by decide +kernel
theorem dX11_layRow_53 : decode cX11_layRow 53 = .ok (.goto 10, 3) := by decide +kernel
theorem dX11_layRow_56 : decode cX11_layRow 56 = .ok (.aload_n 0, 1) := by decide +kernel
theorem dX11_layRow_57 : decode cX11_layRow 57 = .ok (.getfield 38, 3) := by decide +kernel
theorem dX11_layRow_60 : decode cX11_layRow 60 = .ok (.iload 4, 2) := by decide +kernel
theorem dX11_layRow_62 : decode cX11_layRow 62 = .ok (.iaload, 1) := by decide +kernel
theorem dX11_layRow_63 : decode cX11_layRow 63 = .ok (.imul, 1) := by decide +kernel
theorem dX11_layRow_64 : decode cX11_layRow 64 = .ok (.putfield 194, 3) := by decide +kernel
theorem dX11_layRow_67 : decode cX11_layRow 67 = .ok (.aload_n 0, 1) := by decide +kernel
theorem dX11_layRow_68 : decode cX11_layRow 68 = .ok (.dup, 1) := by decide +kernel
theorem dX11_layRow_69 : decode cX11_layRow 69 = .ok (.getfield 197, 3) := by decide +kernel
theorem dX11_layRow_72 : decode cX11_layRow 72 = .ok (.iload 4, 2) := by decide +kernel
theorem dX11_layRow_74 : decode cX11_layRow 74 = .ok (.bipush 6, 2) := by decide +kernel
theorem dX11_layRow_76 : decode cX11_layRow 76 = .ok (.if_icmp .ne 7, 3) := by decide +kernel
theorem dX11_layRow_79 : decode cX11_layRow 79 = .ok (.lconst 1, 1) := by decide +kernel
theorem dX11_layRow_80 : decode cX11_layRow 80 = .ok (.goto 10, 3) := by decide +kernel
theorem dX11_layRow_83 : decode cX11_layRow 83 = .ok (.aload_n 0, 1) := by decide +kernel
theorem dX11_layRow_84 : decode cX11_layRow 84 = .ok (.iload 4, 2) := by decide +kernel
theorem dX11_layRow_86 : decode cX11_layRow 86 = .ok (.invokevirtual 182, 3) := by decide +kernel
theorem dX11_layRow_89 : decode cX11_layRow 89 = .ok (.i2l, 1) := by decide +kernel
theorem dX11_layRow_90 : decode cX11_layRow 90 = .ok (.lmul, 1) := by decide +kernel
theorem dX11_layRow_91 : decode cX11_layRow 91 = .ok (.putfield 197, 3) := by decide +kernel
theorem dX11_layRow_94 : decode cX11_layRow 94 = .ok (.iinc 3 1, 3) := by decide +kernel
theorem dX11_layRow_97 : decode cX11_layRow 97 = .ok (.goto (-80), 3) := by decide +kernel
theorem dX11_layRow_100 : decode cX11_layRow 100 = .ok (.return_, 1) := by decide +kernel
def f_X11_layRow_90 (k_17 : St → Int32 → Int32 → Int32 → Option St) (S : St) (x1 : Int32) (x2 : Int32) (x3 : Int32) (t1 : Int64) (t2 : Int64) : Option St :=
  bnd (setL S 0 23 (t1 * t2)) fun S1 =>
  bnd (x3 + 1 : Int32) fun v2 =>
  k_17 S1 x1 x2 v2
def f_X11_layRow_63 (k_17 : St → Int32 → Int32 → Int32 → Option St) (S : St) (x1 : Int32) (x2 : Int32) (x3 : Int32) (x4 : Int32) (t1 : Int32) (t2 : Int32) : Option St :=
  bnd (setI S 0 22 (t1 * t2)) fun S3 =>
  if x4 = 6 then (
    f_X11_layRow_90 k_17 S3 x1 x2 x3 (S3.2.1 0 23) (1)
  ) else (
    obd2 (f_X11_totalOf S3 x4) fun r5 S5 =>
    f_X11_layRow_90 k_17 S5 x1 x2 x3 (S3.2.1 0 23) (r5.toInt64)
  )
def f_X11_layRow_17 (k_17 : St → Int32 → Int32 → Int32 → Option St) (S : St) (x1 : Int32) (x2 : Int32) (x3 : Int32) : Option St :=
  if x2 ≤ x3 then (
    some S
  ) else (
    bnd (((x1 >>> ((4 * x3) &&& 31)) &&& 15) : Int32) fun v7 =>
    chk (ixo x3 6) <|
    bnd (setI S 10 (x3).toNatClampNeg v7) fun S9 =>
    if v7 = 6 then (
      f_X11_layRow_63 k_17 S9 x1 x2 x3 v7 (S9.1 0 22) 1
    ) else (
      chk (ixo v7 6) <|
      f_X11_layRow_63 k_17 S9 x1 x2 x3 v7 (S9.1 0 22) (S9.1 7 (v7).toNatClampNeg)
    )
  )
def l_X11_layRow_17 : Nat → St → Int32 → Int32 → Int32 → Option St
  | 0, _, _, _, _ => none
  | fu + 1, S, x1, x2, x3 => f_X11_layRow_17 (l_X11_layRow_17 fu) S x1 x2 x3
def f_X11_layRow (S : St) (x1 : Int32) (x2 : Int32) : Option St :=
  bnd (setI S 0 21 x2) fun S12 =>
  bnd (setI S12 0 22 1) fun S13 =>
  bnd (setL S13 0 23 (1)) fun S14 =>
  l_X11_layRow_17 FU S14 x1 x2 0
set_option maxHeartbeats 4000000 in
set_option maxRecDepth 100000 in
theorem c_X11_layRow {l : Launch} {D : va_G} {cI cC cS : ClassId} {ad adK adV : Nat → Nat} {S S1 : St} {x1 : Int32} {x2 : Int32} (h : f_X11_layRow S x1 x2 = some S1) : Kt l D (mw cI ad) (KX D (xtys cI cC cS) adK adV) yX11_layRow cX11_layRow 5 none (1) (23) [.ref (ad 0), .int x1, .int x2] S (none) S1 := by
  refine k_ent (ins := .return_) (st := []) (by decide +kernel) (Nat.le_of_ble_eq_true rfl) ret_v ?_
  intro p e s m args below meth c A Q C hK I hA hq ls hl
  have C : CallFix p m c cX11_layRow 5 s args TT RX11 := C
  have hx := C.1
  have hb := C.2.1
  have kx := kx_ok D (xtys cI cC cS) adK adV
  have hl : lv_has ls 5 [(0, .ref (ad 0)), (1, .int x1), (2, .int x2)] := hl
  have J_90 : ∀ (k_17 : St → Int32 → Int32 → Int32 → Option St) (hk_17 : ∀ (S : St) (x1 : Int32) (x2 : Int32) (x3 : Int32), k_17 S x1 x2 x3 = some S1 → ∀ (H : Heap) (locs : List Loc) (ls : Array Slot), Iv D (mw cI ad) S A s H locs → lv_has ls 5 [(0, .ref (ad 0)), (1, .int x1), (2, .int x2), (3, .int x3)] → W p l e ({ frames := 1, cells := 0, slots := 0, locals := 23 } : Room) s m args below meth c H locs 0 0 Q (F0 m 17 ls [])) (S : St) (x1 : Int32) (x2 : Int32) (x3 : Int32) (t1 : Int64) (t2 : Int64), f_X11_layRow_90 k_17 S x1 x2 x3 t1 t2 = some S1 → ∀ (H : Heap) (locs : List Loc) (ls : Array Slot), Iv D (mw cI ad) S A s H locs → lv_has ls 5 [(0, .ref (ad 0)), (1, .int x1), (2, .int x2), (3, .int x3)] → W p l e ({ frames := 1, cells := 0, slots := 0, locals := 23 } : Room) s m args below meth c H locs 0 0 Q (F0 m 90 ls [.long t2, .long t1, .ref (ad 0)]) := by
    intro k_17 hk_17 S x1 x2 x3 t1 t2 h H locs ls I hl
    unfold f_X11_layRow_90 at h
    refine lv_lmul hx hb dX11_layRow_90 ?_
    refine pm_0_23 C hK I fl_X11_197 dX11_layRow_91 (fun S1 eS1 H locs I => ?_)
    have h := bnd_at eS1 h
    clear eS1
    obtain ⟨v2, ev2⟩ : ∃ y : Int32, y = x3 + 1 := ⟨_, rfl⟩
    have h := bnd_at ev2 h
    refine lv_iinc (v := v2) (lv' := [(3, .int v2), (0, .ref (ad 0)), (1, .int x1), (2, .int x2)]) hx hb dX11_layRow_94 hl (k := 3) rfl (by rw [ev2]; rfl) (by decide) rfl (fun ls hl => ?_)
    clear ev2
    refine lv_goto (tgt := 17) hx hb dX11_layRow_97 (by decide) ?_
    exact hk_17 _ _ _ _ h _ _ _ I (lv_sub hl [1, 2, 3, 0] rfl)
  have J_63 : ∀ (k_17 : St → Int32 → Int32 → Int32 → Option St) (hk_17 : ∀ (S : St) (x1 : Int32) (x2 : Int32) (x3 : Int32), k_17 S x1 x2 x3 = some S1 → ∀ (H : Heap) (locs : List Loc) (ls : Array Slot), Iv D (mw cI ad) S A s H locs → lv_has ls 5 [(0, .ref (ad 0)), (1, .int x1), (2, .int x2), (3, .int x3)] → W p l e ({ frames := 1, cells := 0, slots := 0, locals := 23 } : Room) s m args below meth c H locs 0 0 Q (F0 m 17 ls [])) (S : St) (x1 : Int32) (x2 : Int32) (x3 : Int32) (x4 : Int32) (t1 : Int32) (t2 : Int32), f_X11_layRow_63 k_17 S x1 x2 x3 x4 t1 t2 = some S1 → ∀ (H : Heap) (locs : List Loc) (ls : Array Slot), Iv D (mw cI ad) S A s H locs → lv_has ls 5 [(0, .ref (ad 0)), (1, .int x1), (2, .int x2), (3, .int x3), (4, .int x4)] → W p l e ({ frames := 1, cells := 0, slots := 0, locals := 23 } : Room) s m args below meth c H locs 0 0 Q (F0 m 63 ls [.int t2, .int t1, .ref (ad 0)]) := by
    intro k_17 hk_17 S x1 x2 x3 x4 t1 t2 h H locs ls I hl
    unfold f_X11_layRow_63 at h
    refine lv_imul hx hb dX11_layRow_63 ?_
    refine pm_0_22 C hK I fl_X11_194 dX11_layRow_64 (fun S3 eS3 H locs I => ?_)
    have h := bnd_at eS3 h
    clear eS3
    refine lv_aload_n hx hb dX11_layRow_67 rfl (lv_at hl 0 rfl) ?_
    refine lv_dup hx hb dX11_layRow_68 rfl ?_
    refine gm_0_23 C hK I fl_X11_197 dX11_layRow_69 ?_
    refine lv_iload hx hb dX11_layRow_72 (lv_at hl 4 rfl) ?_
    refine lv_bipush (v := 6) hx hb dX11_layRow_74 (by decide) ?_
    refine lv_icmp_ne (tgt := 83) hx hb dX11_layRow_76 (by decide) (fun c4 => ?_) (fun c4 => ?_)
    · have h := ite_n c4 h
      refine lv_aload_n hx hb dX11_layRow_83 rfl (lv_at hl 0 rfl) ?_
      refine lv_iload hx hb dX11_layRow_84 (lv_at hl 4 rfl) ?_
      obtain ⟨r5, S5, e5, h⟩ := obd2_ex h
      refine k_V (As := [.int x4]) (rest := [.long (S3.2.1 0 23), .ref (ad 0)]) (st1 := [.int r5, .long (S3.2.1 0 23), .ref (ad 0)]) C kx hK I hA (c_X11_totalOf e5) ⟨Nat.le_of_ble_eq_true rfl, Nat.le_of_ble_eq_true rfl⟩ mv_X11_totalOf lk_X11_182 0 11 (mw_0 (cI := cI) (ad := ad)) rfl rfl hl.1 rfl (Nat.le_of_ble_eq_true rfl) dX11_layRow_86 rfl (fun H locs I => ?_)
      refine lv_i2l hx hb dX11_layRow_89 rfl ?_
      exact J_90 k_17 hk_17 _ _ _ _ _ _ h _ _ _ I (lv_sub hl [0, 1, 2, 3] rfl)
    · have h := ite_t c4 h
      refine lv_lconst (v := (1)) hx hb dX11_layRow_79 (by decide) ?_
      refine lv_goto (tgt := 90) hx hb dX11_layRow_80 (by decide) ?_
      exact J_90 k_17 hk_17 _ _ _ _ _ _ h _ _ _ I (lv_sub hl [0, 1, 2, 3] rfl)
  have B_17 : ∀ (k_17 : St → Int32 → Int32 → Int32 → Option St) (hk_17 : ∀ (S : St) (x1 : Int32) (x2 : Int32) (x3 : Int32), k_17 S x1 x2 x3 = some S1 → ∀ (H : Heap) (locs : List Loc) (ls : Array Slot), Iv D (mw cI ad) S A s H locs → lv_has ls 5 [(0, .ref (ad 0)), (1, .int x1), (2, .int x2), (3, .int x3)] → W p l e ({ frames := 1, cells := 0, slots := 0, locals := 23 } : Room) s m args below meth c H locs 0 0 Q (F0 m 17 ls [])) (S : St) (x1 : Int32) (x2 : Int32) (x3 : Int32), f_X11_layRow_17 k_17 S x1 x2 x3 = some S1 → ∀ (H : Heap) (locs : List Loc) (ls : Array Slot), Iv D (mw cI ad) S A s H locs → lv_has ls 5 [(0, .ref (ad 0)), (1, .int x1), (2, .int x2), (3, .int x3)] → W p l e ({ frames := 1, cells := 0, slots := 0, locals := 23 } : Room) s m args below meth c H locs 0 0 Q (F0 m 17 ls []) := by
    intro k_17 hk_17 S x1 x2 x3 h H locs ls I hl
    unfold f_X11_layRow_17 at h
    refine lv_iload_n hx hb dX11_layRow_17 rfl (lv_at hl 3 rfl) ?_
    refine lv_iload_n hx hb dX11_layRow_18 rfl (lv_at hl 2 rfl) ?_
    refine lv_icmp_ge (tgt := 100) hx hb dX11_layRow_19 (by decide) (fun c6 => ?_) (fun c6 => ?_)
    · have h := ite_t c6 h
      exact rt_v hq h I dX11_layRow_100
    · have h := ite_n c6 h
      refine lv_iload_n hx hb dX11_layRow_22 rfl (lv_at hl 1 rfl) ?_
      refine lv_iconst (v := 4) hx hb dX11_layRow_23 (by decide) ?_
      refine lv_iload_n hx hb dX11_layRow_24 rfl (lv_at hl 3 rfl) ?_
      refine lv_imul hx hb dX11_layRow_25 ?_
      refine lv_ishr hx hb dX11_layRow_26 ?_
      refine lv_bipush (v := 15) hx hb dX11_layRow_27 (by decide) ?_
      refine lv_iand hx hb dX11_layRow_29 ?_
      refine lv_topi (fun v7 ev7 => ?_)
      have h := bnd_at ev7 h
      clear ev7
      refine lv_istore (lv' := [(4, .int v7), (0, .ref (ad 0)), (1, .int x1), (2, .int x2), (3, .int x3)]) hx hb dX11_layRow_30 hl (by decide) rfl (fun ls hl => ?_)
      refine lv_aload_n hx hb dX11_layRow_32 rfl (lv_at hl 1 rfl) ?_
      refine gm_0_20 C hK I fl_X11_47 dX11_layRow_33 ?_
      refine lv_iload_n hx hb dX11_layRow_36 rfl (lv_at hl 4 rfl) ?_
      refine lv_iload hx hb dX11_layRow_37 (lv_at hl 0 rfl) ?_
      obtain ⟨hv8, h⟩ := chk_ex h
      refine bm_10 C hK I hv8 dX11_layRow_39 (fun S9 eS9 H locs I => ?_)
      have h := bnd_at eS9 h
      clear eS9
      refine lv_aload_n hx hb dX11_layRow_40 rfl (lv_at hl 1 rfl) ?_
      refine lv_dup hx hb dX11_layRow_41 rfl ?_
      refine gm_0_22 C hK I fl_X11_194 dX11_layRow_42 ?_
      refine lv_iload hx hb dX11_layRow_45 (lv_at hl 0 rfl) ?_
      refine lv_bipush (v := 6) hx hb dX11_layRow_47 (by decide) ?_
      refine lv_icmp_ne (tgt := 56) hx hb dX11_layRow_49 (by decide) (fun c10 => ?_) (fun c10 => ?_)
      · have h := ite_n c10 h
        refine lv_aload_n hx hb dX11_layRow_56 rfl (lv_at hl 1 rfl) ?_
        refine gm_0_13 C hK I fl_X11_38 dX11_layRow_57 ?_
        refine lv_iload hx hb dX11_layRow_60 (lv_at hl 0 rfl) ?_
        obtain ⟨hv11, h⟩ := chk_ex h
        refine am_7 C hK I hv11 dX11_layRow_62 ?_
        exact J_63 k_17 hk_17 _ _ _ _ _ _ _ h _ _ _ I (lv_sub hl [1, 2, 3, 4, 0] rfl)
      · have h := ite_t c10 h
        refine lv_iconst (v := 1) hx hb dX11_layRow_52 (by decide) ?_
        refine lv_goto (tgt := 63) hx hb dX11_layRow_53 (by decide) ?_
        exact J_63 k_17 hk_17 _ _ _ _ _ _ _ h _ _ _ I (lv_sub hl [1, 2, 3, 4, 0] rfl)
  have J_17 : ∀ (fu : Nat) (S : St) (x1 : Int32) (x2 : Int32) (x3 : Int32), l_X11_layRow_17  fu S x1 x2 x3 = some S1 → ∀ (H : Heap) (locs : List Loc) (ls : Array Slot), Iv D (mw cI ad) S A s H locs → lv_has ls 5 [(0, .ref (ad 0)), (1, .int x1), (2, .int x2), (3, .int x3)] → W p l e ({ frames := 1, cells := 0, slots := 0, locals := 23 } : Room) s m args below meth c H locs 0 0 Q (F0 m 17 ls []) := by
    intro fu
    induction fu with
    | zero => intro S x1 x2 x3 h; cases h
    | succ fu ih => intro S x1 x2 x3 h; exact B_17 (l_X11_layRow_17 fu) ih S x1 x2 x3 h
  unfold f_X11_layRow at h
  refine lv_aload_n hx hb dX11_layRow_0 rfl (lv_at hl 0 rfl) ?_
  refine lv_iload_n hx hb dX11_layRow_1 rfl (lv_at hl 2 rfl) ?_
  refine pm_0_21 C hK I fl_X11_191 dX11_layRow_2 (fun S12 eS12 H locs I => ?_)
  have h := bnd_at eS12 h
  clear eS12
  refine lv_aload_n hx hb dX11_layRow_5 rfl (lv_at hl 0 rfl) ?_
  refine lv_iconst (v := 1) hx hb dX11_layRow_6 (by decide) ?_
  refine pm_0_22 C hK I fl_X11_194 dX11_layRow_7 (fun S13 eS13 H locs I => ?_)
  have h := bnd_at eS13 h
  clear eS13
  refine lv_aload_n hx hb dX11_layRow_10 rfl (lv_at hl 0 rfl) ?_
  refine lv_lconst (v := (1)) hx hb dX11_layRow_11 (by decide) ?_
  refine pm_0_23 C hK I fl_X11_197 dX11_layRow_12 (fun S14 eS14 H locs I => ?_)
  have h := bnd_at eS14 h
  clear eS14
  refine lv_iconst (v := 0) hx hb dX11_layRow_15 (by decide) ?_
  refine lv_istore_n (lv' := [(3, .int 0), (0, .ref (ad 0)), (1, .int x1), (2, .int x2)]) hx hb dX11_layRow_16 rfl hl (by decide) rfl (fun ls hl => ?_)
  exact J_17 _ _ _ _ _ h _ _ _ I (lv_sub hl [1, 2, 3, 0] rfl)
theorem fl_X11_50 : Cond.fieldLink RX11 50 RX11 "chosen" "[I" ∈ TT := tt_of 1139 (by decide +kernel) rfl
theorem fl_X11_201 : Cond.fieldLink RX11 201 RX11 "weight" "J" ∈ TT := tt_of 1133 (by decide +kernel) rfl
theorem dX11_layChosen_0 : decode cX11_layChosen 0 = .ok (.iload_n 1, 1) := by decide +kernel
theorem dX11_layChosen_1 : decode cX11_layChosen 1 = .ok (.istore_n 2, 1) := by decide +kernel
theorem dX11_layChosen_2 : decode cX11_layChosen 2 = .ok (.aload_n 0, 1) := by decide +kernel
theorem dX11_layChosen_3 : decode cX11_layChosen 3 = .ok (.lconst 1, 1) := by decide +kernel
theorem dX11_layChosen_4 : decode cX11_layChosen 4 = .ok (.putfield 201, 3) := by decide +kernel
theorem dX11_layChosen_7 : decode cX11_layChosen 7 = .ok (.iconst 0, 1) := by decide +kernel
theorem dX11_layChosen_8 : decode cX11_layChosen 8 = .ok (.istore_n 3, 1) := by decide +kernel
theorem dX11_layChosen_9 : decode cX11_layChosen 9 = .ok (.iload_n 3, 1) := by decide +kernel
theorem dX11_layChosen_10 : decode cX11_layChosen 10 = .ok (.aload_n 0, 1) := by decide +kernel
theorem dX11_layChosen_11 : decode cX11_layChosen 11 = .ok (.getfield 191, 3) := by decide +kernel
theorem dX11_layChosen_14 : decode cX11_layChosen 14 = .ok (.if_icmp .ge 78, 3) := by decide +kernel
theorem dX11_layChosen_17 : decode cX11_layChosen 17 = .ok (.aload_n 0, 1) := by decide +kernel
theorem dX11_layChosen_18 : decode cX11_layChosen 18 = .ok (.getfield 47, 3) := by decide +kernel
theorem dX11_layChosen_21 : decode cX11_layChosen 21 = .ok (.iload_n 3, 1) := by decide +kernel
theorem dX11_layChosen_22 : decode cX11_layChosen 22 = .ok (.iaload, 1) := by decide +kernel
theorem dX11_layChosen_23 : decode cX11_layChosen 23 = .ok (.istore 4, 2) := by decide +kernel
theorem dX11_layChosen_25 : decode cX11_layChosen 25 = .ok (.iload 4, 2) := by decide +kernel
theorem dX11_layChosen_27 : decode cX11_layChosen 27 = .ok (.bipush 6, 2) := by decide +kernel
theorem dX11_layChosen_29 : decode cX11_layChosen 29 = .ok (.if_icmp .eq 57, 3) := by decide +kernel
theorem dX11_layChosen_32 : decode cX11_layChosen 32 = .ok (.aload_n 0, 1) := by decide +kernel
theorem dX11_layChosen_33 : decode cX11_layChosen 33 = .ok (.getfield 50, 3) := by decide +kernel
theorem dX11_layChosen_36 : decode cX11_layChosen 36 = .ok (.iload_n 3, 1) := by decide +kernel
theorem dX11_layChosen_37 : decode cX11_layChosen 37 = .ok (.iload_n 2, 1) := by decide +kernel
theorem dX11_layChosen_38 : decode cX11_layChosen 38 = .ok (.aload_n 0, 1) := by decide +kernel
theorem dX11_layChosen_39 : decode cX11_layChosen 39 = .ok (.getfield 38, 3) := by decide +kernel
theorem dX11_layChosen_42 : decode cX11_layChosen 42 = .ok (.iload 4, 2) := by decide +kernel
theorem dX11_layChosen_44 : decode cX11_layChosen 44 = .ok (.iaload, 1) := by decide +kernel
theorem dX11_layChosen_45 : decode cX11_layChosen 45 = .ok (.irem, 1) := by decide +kernel
theorem dX11_layChosen_46 : decode cX11_layChosen 46 = .ok (.iastore, 1) := by decide +kernel
theorem dX11_layChosen_47 : decode cX11_layChosen 47 = .ok (.iload_n 2, 1) := by decide +kernel
theorem dX11_layChosen_48 : decode cX11_layChosen 48 = .ok (.aload_n 0, 1) := by decide +kernel
theorem dX11_layChosen_49 : decode cX11_layChosen 49 = .ok (.getfield 38, 3) := by decide +kernel
theorem dX11_layChosen_52 : decode cX11_layChosen 52 = .ok (.iload 4, 2) := by decide +kernel
theorem dX11_layChosen_54 : decode cX11_layChosen 54 = .ok (.iaload, 1) := by decide +kernel
theorem dX11_layChosen_55 : decode cX11_layChosen 55 = .ok (.idiv, 1) := by decide +kernel
theorem dX11_layChosen_56 : decode cX11_layChosen 56 = .ok (.istore_n 2, 1) := by decide +kernel
theorem dX11_layChosen_57 : decode cX11_layChosen 57 = .ok (.aload_n 0, 1) := by decide +kernel
theorem dX11_layChosen_58 : decode cX11_layChosen 58 = .ok (.dup, 1) := by decide +kernel
theorem dX11_layChosen_59 : decode cX11_layChosen 59 = .ok (.getfield 201, 3) := by decide +kernel
theorem dX11_layChosen_62 : decode cX11_layChosen 62 = .ok (.aload_n 0, 1) := by decide +kernel
theorem dX11_layChosen_63 : decode cX11_layChosen 63 = .ok (.getfield 41, 3) := by decide +kernel
theorem dX11_layChosen_66 : decode cX11_layChosen 66 = .ok (.bipush 16, 2) := by decide +kernel
theorem dX11_layChosen_68 : decode cX11_layChosen 68 = .ok (.iload 4, 2) := by decide +kernel
theorem dX11_layChosen_70 : decode cX11_layChosen 70 = .ok (.imul, 1) := by decide +kernel
theorem dX11_layChosen_71 : decode cX11_layChosen 71 = .ok (.iconst 4, 1) := by decide +kernel
theorem dX11_layChosen_72 : decode cX11_layChosen 72 = .ok (.aload_n 0, 1) := by decide +kernel
theorem dX11_layChosen_73 : decode cX11_layChosen 73 = .ok (.getfield 50, 3) := by decide +kernel
theorem dX11_layChosen_76 : decode cX11_layChosen 76 = .ok (.iload_n 3, 1) := by decide +kernel
theorem dX11_layChosen_77 : decode cX11_layChosen 77 = .ok (.iaload, 1) := by decide +kernel
theorem dX11_layChosen_78 : decode cX11_layChosen 78 = .ok (.imul, 1) := by decide +kernel
theorem dX11_layChosen_79 : decode cX11_layChosen 79 = .ok (.iadd, 1) := by decide +kernel
theorem dX11_layChosen_80 : decode cX11_layChosen 80 = .ok (.iaload, 1) := by decide +kernel
theorem dX11_layChosen_81 : decode cX11_layChosen 81 = .ok (.i2l, 1) := by decide +kernel
theorem dX11_layChosen_82 : decode cX11_layChosen 82 = .ok (.lmul, 1) := by decide +kernel
theorem dX11_layChosen_83 : decode cX11_layChosen 83 = .ok (.putfield 201, 3) := by decide +kernel
theorem dX11_layChosen_86 : decode cX11_layChosen 86 = .ok (.iinc 3 1, 3) := by decide +kernel
theorem dX11_layChosen_89 : decode cX11_layChosen 89 = .ok (.goto (-80), 3) := by decide +kernel
theorem dX11_layChosen_92 : decode cX11_layChosen 92 = .ok (.return_, 1) := by decide +kernel
def f_X11_layChosen_86 (k_9 : St → Int32 → Int32 → Option St) (S : St) (x2 : Int32) (x3 : Int32) : Option St :=
  bnd (x3 + 1 : Int32) fun v1 =>
  k_9 S x2 v1
def f_X11_layChosen_9 (k_9 : St → Int32 → Int32 → Option St) (S : St) (x2 : Int32) (x3 : Int32) : Option St :=
  if (S.1 0 21) ≤ x3 then (
    some S
  ) else (
    chk (ixo x3 6) <|
    bnd ((S.1 10 (x3).toNatClampNeg) : Int32) fun v4 =>
    if v4 = 6 then (
      f_X11_layChosen_86 k_9 S x2 x3
    ) else (
      chk (ixo v4 6) <|
      chk (¬ (S.1 7 (v4).toNatClampNeg) = 0) <|
      chk (ixo x3 6) <|
      bnd (setI S 11 (x3).toNatClampNeg (x2 - x2 / (S.1 7 (v4).toNatClampNeg) * (S.1 7 (v4).toNatClampNeg))) fun S9 =>
      chk (ixo v4 6) <|
      chk (¬ (S9.1 7 (v4).toNatClampNeg) = 0) <|
      bnd ((x2 / (S9.1 7 (v4).toNatClampNeg)) : Int32) fun v12 =>
      chk (ixo x3 6) <|
      chk (ixo ((16 * v4) + (4 * (S9.1 11 (x3).toNatClampNeg))) 96) <|
      bnd (setL S9 0 24 ((S9.2.1 0 24) * (((S9.1 8 (((16 * v4) + (4 * (S9.1 11 (x3).toNatClampNeg)))).toNatClampNeg) : Int32).toInt64))) fun S15 =>
      f_X11_layChosen_86 k_9 S15 v12 x3
    )
  )
def l_X11_layChosen_9 : Nat → St → Int32 → Int32 → Option St
  | 0, _, _, _ => none
  | fu + 1, S, x2, x3 => f_X11_layChosen_9 (l_X11_layChosen_9 fu) S x2 x3
def f_X11_layChosen (S : St) (x1 : Int32) : Option St :=
  bnd (setL S 0 24 (1)) fun S16 =>
  l_X11_layChosen_9 FU S16 x1 0
set_option maxHeartbeats 4000000 in
set_option maxRecDepth 100000 in
theorem c_X11_layChosen {l : Launch} {D : va_G} {cI cC cS : ClassId} {ad adK adV : Nat → Nat} {S S1 : St} {x1 : Int32} (h : f_X11_layChosen S x1 = some S1) : Kt l D (mw cI ad) (KX D (xtys cI cC cS) adK adV) yX11_layChosen cX11_layChosen 5 none (0) (0) [.ref (ad 0), .int x1] S (none) S1 := by
  refine k_ent (ins := .return_) (st := []) (by decide +kernel) (Nat.le_of_ble_eq_true rfl) ret_v ?_
  intro p e s m args below meth c A Q C hK I hA hq ls hl
  have C : CallFix p m c cX11_layChosen 5 s args TT RX11 := C
  have hx := C.1
  have hb := C.2.1
  have kx := kx_ok D (xtys cI cC cS) adK adV
  have hl : lv_has ls 5 [(0, .ref (ad 0)), (1, .int x1)] := hl
  have J_86 : ∀ (k_9 : St → Int32 → Int32 → Option St) (hk_9 : ∀ (S : St) (x2 : Int32) (x3 : Int32), k_9 S x2 x3 = some S1 → ∀ (H : Heap) (locs : List Loc) (ls : Array Slot), Iv D (mw cI ad) S A s H locs → lv_has ls 5 [(0, .ref (ad 0)), (2, .int x2), (3, .int x3)] → W p l e ({ frames := 0, cells := 0, slots := 0, locals := 0 } : Room) s m args below meth c H locs 0 0 Q (F0 m 9 ls [])) (S : St) (x2 : Int32) (x3 : Int32), f_X11_layChosen_86 k_9 S x2 x3 = some S1 → ∀ (H : Heap) (locs : List Loc) (ls : Array Slot), Iv D (mw cI ad) S A s H locs → lv_has ls 5 [(0, .ref (ad 0)), (2, .int x2), (3, .int x3)] → W p l e ({ frames := 0, cells := 0, slots := 0, locals := 0 } : Room) s m args below meth c H locs 0 0 Q (F0 m 86 ls []) := by
    intro k_9 hk_9 S x2 x3 h H locs ls I hl
    unfold f_X11_layChosen_86 at h
    obtain ⟨v1, ev1⟩ : ∃ y : Int32, y = x3 + 1 := ⟨_, rfl⟩
    have h := bnd_at ev1 h
    refine lv_iinc (v := v1) (lv' := [(3, .int v1), (0, .ref (ad 0)), (2, .int x2)]) hx hb dX11_layChosen_86 hl (k := 2) rfl (by rw [ev1]; rfl) (by decide) rfl (fun ls hl => ?_)
    clear ev1
    refine lv_goto (tgt := 9) hx hb dX11_layChosen_89 (by decide) ?_
    exact hk_9 _ _ _ h _ _ _ I (lv_sub hl [1, 2, 0] rfl)
  have B_9 : ∀ (k_9 : St → Int32 → Int32 → Option St) (hk_9 : ∀ (S : St) (x2 : Int32) (x3 : Int32), k_9 S x2 x3 = some S1 → ∀ (H : Heap) (locs : List Loc) (ls : Array Slot), Iv D (mw cI ad) S A s H locs → lv_has ls 5 [(0, .ref (ad 0)), (2, .int x2), (3, .int x3)] → W p l e ({ frames := 0, cells := 0, slots := 0, locals := 0 } : Room) s m args below meth c H locs 0 0 Q (F0 m 9 ls [])) (S : St) (x2 : Int32) (x3 : Int32), f_X11_layChosen_9 k_9 S x2 x3 = some S1 → ∀ (H : Heap) (locs : List Loc) (ls : Array Slot), Iv D (mw cI ad) S A s H locs → lv_has ls 5 [(0, .ref (ad 0)), (2, .int x2), (3, .int x3)] → W p l e ({ frames := 0, cells := 0, slots := 0, locals := 0 } : Room) s m args below meth c H locs 0 0 Q (F0 m 9 ls []) := by
    intro k_9 hk_9 S x2 x3 h H locs ls I hl
    unfold f_X11_layChosen_9 at h
    refine lv_iload_n hx hb dX11_layChosen_9 rfl (lv_at hl 2 rfl) ?_
    refine lv_aload_n hx hb dX11_layChosen_10 rfl (lv_at hl 0 rfl) ?_
    refine gm_0_21 C hK I fl_X11_191 dX11_layChosen_11 ?_
    refine lv_icmp_ge (tgt := 92) hx hb dX11_layChosen_14 (by decide) (fun c2 => ?_) (fun c2 => ?_)
    · have h := ite_t c2 h
      exact rt_v hq h I dX11_layChosen_92
    · have h := ite_n c2 h
      refine lv_aload_n hx hb dX11_layChosen_17 rfl (lv_at hl 0 rfl) ?_
      refine gm_0_20 C hK I fl_X11_47 dX11_layChosen_18 ?_
      refine lv_iload_n hx hb dX11_layChosen_21 rfl (lv_at hl 2 rfl) ?_
      obtain ⟨hv3, h⟩ := chk_ex h
      refine am_10 C hK I hv3 dX11_layChosen_22 ?_
      refine lv_topi (fun v4 ev4 => ?_)
      have h := bnd_at ev4 h
      clear ev4
      refine lv_istore (lv' := [(4, .int v4), (0, .ref (ad 0)), (2, .int x2), (3, .int x3)]) hx hb dX11_layChosen_23 hl (by decide) rfl (fun ls hl => ?_)
      refine lv_iload hx hb dX11_layChosen_25 (lv_at hl 0 rfl) ?_
      refine lv_bipush (v := 6) hx hb dX11_layChosen_27 (by decide) ?_
      refine lv_icmp_eq (tgt := 86) hx hb dX11_layChosen_29 (by decide) (fun c5 => ?_) (fun c5 => ?_)
      · have h := ite_t c5 h
        exact J_86 k_9 hk_9 _ _ _ h _ _ _ I (lv_sub hl [1, 2, 3] rfl)
      · have h := ite_n c5 h
        refine lv_aload_n hx hb dX11_layChosen_32 rfl (lv_at hl 1 rfl) ?_
        refine gm_0_30 C hK I fl_X11_50 dX11_layChosen_33 ?_
        refine lv_iload_n hx hb dX11_layChosen_36 rfl (lv_at hl 3 rfl) ?_
        refine lv_iload_n hx hb dX11_layChosen_37 rfl (lv_at hl 2 rfl) ?_
        refine lv_aload_n hx hb dX11_layChosen_38 rfl (lv_at hl 1 rfl) ?_
        refine gm_0_13 C hK I fl_X11_38 dX11_layChosen_39 ?_
        refine lv_iload hx hb dX11_layChosen_42 (lv_at hl 0 rfl) ?_
        obtain ⟨hv6, h⟩ := chk_ex h
        refine am_7 C hK I hv6 dX11_layChosen_44 ?_
        obtain ⟨hv7, h⟩ := chk_ex h
        refine lv_irem hx hb dX11_layChosen_45 hv7 ?_
        obtain ⟨hv8, h⟩ := chk_ex h
        refine bm_11 C hK I hv8 dX11_layChosen_46 (fun S9 eS9 H locs I => ?_)
        have h := bnd_at eS9 h
        clear eS9
        refine lv_iload_n hx hb dX11_layChosen_47 rfl (lv_at hl 2 rfl) ?_
        refine lv_aload_n hx hb dX11_layChosen_48 rfl (lv_at hl 1 rfl) ?_
        refine gm_0_13 C hK I fl_X11_38 dX11_layChosen_49 ?_
        refine lv_iload hx hb dX11_layChosen_52 (lv_at hl 0 rfl) ?_
        obtain ⟨hv10, h⟩ := chk_ex h
        refine am_7 C hK I hv10 dX11_layChosen_54 ?_
        obtain ⟨hv11, h⟩ := chk_ex h
        refine lv_idiv hx hb dX11_layChosen_55 hv11 ?_
        refine lv_topi (fun v12 ev12 => ?_)
        have h := bnd_at ev12 h
        clear ev12
        refine lv_istore_n (lv' := [(2, .int v12), (4, .int v4), (0, .ref (ad 0)), (3, .int x3)]) hx hb dX11_layChosen_56 rfl hl (by decide) rfl (fun ls hl => ?_)
        refine lv_aload_n hx hb dX11_layChosen_57 rfl (lv_at hl 2 rfl) ?_
        refine lv_dup hx hb dX11_layChosen_58 rfl ?_
        refine gm_0_24 C hK I fl_X11_201 dX11_layChosen_59 ?_
        refine lv_aload_n hx hb dX11_layChosen_62 rfl (lv_at hl 2 rfl) ?_
        refine gm_0_14 C hK I fl_X11_41 dX11_layChosen_63 ?_
        refine lv_bipush (v := 16) hx hb dX11_layChosen_66 (by decide) ?_
        refine lv_iload hx hb dX11_layChosen_68 (lv_at hl 1 rfl) ?_
        refine lv_imul hx hb dX11_layChosen_70 ?_
        refine lv_iconst (v := 4) hx hb dX11_layChosen_71 (by decide) ?_
        refine lv_aload_n hx hb dX11_layChosen_72 rfl (lv_at hl 2 rfl) ?_
        refine gm_0_30 C hK I fl_X11_50 dX11_layChosen_73 ?_
        refine lv_iload_n hx hb dX11_layChosen_76 rfl (lv_at hl 3 rfl) ?_
        obtain ⟨hv13, h⟩ := chk_ex h
        refine am_11 C hK I hv13 dX11_layChosen_77 ?_
        refine lv_imul hx hb dX11_layChosen_78 ?_
        refine lv_iadd hx hb dX11_layChosen_79 ?_
        obtain ⟨hv14, h⟩ := chk_ex h
        refine am_8 C hK I hv14 dX11_layChosen_80 ?_
        refine lv_i2l hx hb dX11_layChosen_81 rfl ?_
        refine lv_lmul hx hb dX11_layChosen_82 ?_
        refine pm_0_24 C hK I fl_X11_201 dX11_layChosen_83 (fun S15 eS15 H locs I => ?_)
        have h := bnd_at eS15 h
        clear eS15
        exact J_86 k_9 hk_9 _ _ _ h _ _ _ I (lv_sub hl [2, 0, 3] rfl)
  have J_9 : ∀ (fu : Nat) (S : St) (x2 : Int32) (x3 : Int32), l_X11_layChosen_9  fu S x2 x3 = some S1 → ∀ (H : Heap) (locs : List Loc) (ls : Array Slot), Iv D (mw cI ad) S A s H locs → lv_has ls 5 [(0, .ref (ad 0)), (2, .int x2), (3, .int x3)] → W p l e ({ frames := 0, cells := 0, slots := 0, locals := 0 } : Room) s m args below meth c H locs 0 0 Q (F0 m 9 ls []) := by
    intro fu
    induction fu with
    | zero => intro S x2 x3 h; cases h
    | succ fu ih => intro S x2 x3 h; exact B_9 (l_X11_layChosen_9 fu) ih S x2 x3 h
  unfold f_X11_layChosen at h
  refine lv_iload_n hx hb dX11_layChosen_0 rfl (lv_at hl 1 rfl) ?_
  refine lv_istore_n (lv' := [(2, .int x1), (0, .ref (ad 0)), (1, .int x1)]) hx hb dX11_layChosen_1 rfl hl (by decide) rfl (fun ls hl => ?_)
  refine lv_aload_n hx hb dX11_layChosen_2 rfl (lv_at hl 1 rfl) ?_
  refine lv_lconst (v := (1)) hx hb dX11_layChosen_3 (by decide) ?_
  refine pm_0_24 C hK I fl_X11_201 dX11_layChosen_4 (fun S16 eS16 H locs I => ?_)
  have h := bnd_at eS16 h
  clear eS16
  refine lv_iconst (v := 0) hx hb dX11_layChosen_7 (by decide) ?_
  refine lv_istore_n (lv' := [(3, .int 0), (2, .int x1), (0, .ref (ad 0)), (1, .int x1)]) hx hb dX11_layChosen_8 rfl hl (by decide) rfl (fun ls hl => ?_)
  exact J_9 _ _ _ _ h _ _ _ I (lv_sub hl [2, 1, 0] rfl)
theorem dX11_sortBy_0 : decode cX11_sortBy 0 = .ok (.iload_n 2, 1) := by decide +kernel
theorem dX11_sortBy_1 : decode cX11_sortBy 1 = .ok (.istore_n 3, 1) := by decide +kernel
theorem dX11_sortBy_2 : decode cX11_sortBy 2 = .ok (.iconst 0, 1) := by decide +kernel
theorem dX11_sortBy_3 : decode cX11_sortBy 3 = .ok (.istore 4, 2) := by decide +kernel
theorem dX11_sortBy_5 : decode cX11_sortBy 5 = .ok (.iload_n 3, 1) := by decide +kernel
theorem dX11_sortBy_6 : decode cX11_sortBy 6 = .ok (.aload_n 0, 1) := by decide +kernel
theorem dX11_sortBy_7 : decode cX11_sortBy 7 = .ok (.getfield 41, 3) := by decide +kernel
theorem dX11_sortBy_10 : decode cX11_sortBy 10 = .ok (.bipush 16, 2) := by decide +kernel
theorem dX11_sortBy_12 : decode cX11_sortBy 12 = .ok (.iload_n 1, 1) := by decide +kernel
theorem dX11_sortBy_13 : decode cX11_sortBy 13 = .ok (.imul, 1) := by decide +kernel
theorem dX11_sortBy_14 : decode cX11_sortBy 14 = .ok (.iconst 4, 1) := by decide +kernel
theorem dX11_sortBy_15 : decode cX11_sortBy 15 = .ok (.iload 4, 2) := by decide +kernel
theorem dX11_sortBy_17 : decode cX11_sortBy 17 = .ok (.imul, 1) := by decide +kernel
theorem dX11_sortBy_18 : decode cX11_sortBy 18 = .ok (.iadd, 1) := by decide +kernel
theorem dX11_sortBy_19 : decode cX11_sortBy 19 = .ok (.iaload, 1) := by decide +kernel
theorem dX11_sortBy_20 : decode cX11_sortBy 20 = .ok (.if_icmp .lt 26, 3) := by decide +kernel
theorem dX11_sortBy_23 : decode cX11_sortBy 23 = .ok (.iload_n 3, 1) := by decide +kernel
theorem dX11_sortBy_24 : decode cX11_sortBy 24 = .ok (.aload_n 0, 1) := by decide +kernel
theorem dX11_sortBy_25 : decode cX11_sortBy 25 = .ok (.getfield 41, 3) := by decide +kernel
theorem dX11_sortBy_28 : decode cX11_sortBy 28 = .ok (.bipush 16, 2) := by decide +kernel
theorem dX11_sortBy_30 : decode cX11_sortBy 30 = .ok (.iload_n 1, 1) := by decide +kernel
theorem dX11_sortBy_31 : decode cX11_sortBy 31 = .ok (.imul, 1) := by decide +kernel
theorem dX11_sortBy_32 : decode cX11_sortBy 32 = .ok (.iconst 4, 1) := by decide +kernel
theorem dX11_sortBy_33 : decode cX11_sortBy 33 = .ok (.iload 4, 2) := by decide +kernel
theorem dX11_sortBy_35 : decode cX11_sortBy 35 = .ok (.imul, 1) := by decide +kernel
theorem dX11_sortBy_36 : decode cX11_sortBy 36 = .ok (.iadd, 1) := by decide +kernel
theorem dX11_sortBy_37 : decode cX11_sortBy 37 = .ok (.iaload, 1) := by decide +kernel
theorem dX11_sortBy_38 : decode cX11_sortBy 38 = .ok (.isub, 1) := by decide +kernel
theorem dX11_sortBy_39 : decode cX11_sortBy 39 = .ok (.istore_n 3, 1) := by decide +kernel
theorem dX11_sortBy_40 : decode cX11_sortBy 40 = .ok (.iinc 4 1, 3) := by decide +kernel
theorem dX11_sortBy_43 : decode cX11_sortBy 43 = .ok (.goto (-38), 3) := by decide +kernel
theorem dX11_sortBy_46 : decode cX11_sortBy 46 = .ok (.iload 4, 2) := by decide +kernel
theorem dX11_sortBy_48 : decode cX11_sortBy 48 = .ok (.ireturn, 1) := by decide +kernel
def f_X11_sortBy_5 (k_5 : St → Int32 → Int32 → Int32 → Option (Int32 × St)) (S : St) (x1 : Int32) (x3 : Int32) (x4 : Int32) : Option (Int32 × St) :=
  chk (ixo ((16 * x1) + (4 * x4)) 96) <|
  if x3 < (S.1 8 (((16 * x1) + (4 * x4))).toNatClampNeg) then (
    some (x4, S)
  ) else (
    chk (ixo ((16 * x1) + (4 * x4)) 96) <|
    bnd ((x3 - (S.1 8 (((16 * x1) + (4 * x4))).toNatClampNeg)) : Int32) fun v4 =>
    bnd (x4 + 1 : Int32) fun v5 =>
    k_5 S x1 v4 v5
  )
def l_X11_sortBy_5 : Nat → St → Int32 → Int32 → Int32 → Option (Int32 × St)
  | 0, _, _, _, _ => none
  | fu + 1, S, x1, x3, x4 => f_X11_sortBy_5 (l_X11_sortBy_5 fu) S x1 x3 x4
def f_X11_sortBy (S : St) (x1 : Int32) (x2 : Int32) : Option (Int32 × St) :=
  l_X11_sortBy_5 FU S x1 x2 0
set_option maxHeartbeats 4000000 in
set_option maxRecDepth 100000 in
theorem c_X11_sortBy {l : Launch} {D : va_G} {cI cC cS : ClassId} {ad adK adV : Nat → Nat} {S S1 : St} {x1 : Int32} {x2 : Int32} {r : Int32} (h : f_X11_sortBy S x1 x2 = some (r, S1)) : Kt l D (mw cI ad) (KX D (xtys cI cC cS) adK adV) yX11_sortBy cX11_sortBy 5 (some .int) (0) (0) [.ref (ad 0), .int x1, .int x2] S (some (.int r)) S1 := by
  refine k_ent (ins := .ireturn) (st := [.int r]) (by decide +kernel) (Nat.le_of_ble_eq_true rfl) ret_i ?_
  intro p e s m args below meth c A Q C hK I hA hq ls hl
  have C : CallFix p m c cX11_sortBy 5 s args TT RX11 := C
  have hx := C.1
  have hb := C.2.1
  have kx := kx_ok D (xtys cI cC cS) adK adV
  have hl : lv_has ls 5 [(0, .ref (ad 0)), (1, .int x1), (2, .int x2)] := hl
  have B_5 : ∀ (k_5 : St → Int32 → Int32 → Int32 → Option (Int32 × St)) (hk_5 : ∀ (S : St) (x1 : Int32) (x3 : Int32) (x4 : Int32), k_5 S x1 x3 x4 = some (r, S1) → ∀ (H : Heap) (locs : List Loc) (ls : Array Slot), Iv D (mw cI ad) S A s H locs → lv_has ls 5 [(0, .ref (ad 0)), (1, .int x1), (3, .int x3), (4, .int x4)] → W p l e ({ frames := 0, cells := 0, slots := 0, locals := 0 } : Room) s m args below meth c H locs 0 0 Q (F0 m 5 ls [])) (S : St) (x1 : Int32) (x3 : Int32) (x4 : Int32), f_X11_sortBy_5 k_5 S x1 x3 x4 = some (r, S1) → ∀ (H : Heap) (locs : List Loc) (ls : Array Slot), Iv D (mw cI ad) S A s H locs → lv_has ls 5 [(0, .ref (ad 0)), (1, .int x1), (3, .int x3), (4, .int x4)] → W p l e ({ frames := 0, cells := 0, slots := 0, locals := 0 } : Room) s m args below meth c H locs 0 0 Q (F0 m 5 ls []) := by
    intro k_5 hk_5 S x1 x3 x4 h H locs ls I hl
    unfold f_X11_sortBy_5 at h
    refine lv_iload_n hx hb dX11_sortBy_5 rfl (lv_at hl 2 rfl) ?_
    refine lv_aload_n hx hb dX11_sortBy_6 rfl (lv_at hl 0 rfl) ?_
    refine gm_0_14 C hK I fl_X11_41 dX11_sortBy_7 ?_
    refine lv_bipush (v := 16) hx hb dX11_sortBy_10 (by decide) ?_
    refine lv_iload_n hx hb dX11_sortBy_12 rfl (lv_at hl 1 rfl) ?_
    refine lv_imul hx hb dX11_sortBy_13 ?_
    refine lv_iconst (v := 4) hx hb dX11_sortBy_14 (by decide) ?_
    refine lv_iload hx hb dX11_sortBy_15 (lv_at hl 3 rfl) ?_
    refine lv_imul hx hb dX11_sortBy_17 ?_
    refine lv_iadd hx hb dX11_sortBy_18 ?_
    obtain ⟨hv1, h⟩ := chk_ex h
    refine am_8 C hK I hv1 dX11_sortBy_19 ?_
    refine lv_icmp_lt (tgt := 46) hx hb dX11_sortBy_20 (by decide) (fun c2 => ?_) (fun c2 => ?_)
    · have h := ite_t c2 h
      refine lv_iload hx hb dX11_sortBy_46 (lv_at hl 3 rfl) ?_
      exact rt_i hq h I dX11_sortBy_48
    · have h := ite_n c2 h
      refine lv_iload_n hx hb dX11_sortBy_23 rfl (lv_at hl 2 rfl) ?_
      refine lv_aload_n hx hb dX11_sortBy_24 rfl (lv_at hl 0 rfl) ?_
      refine gm_0_14 C hK I fl_X11_41 dX11_sortBy_25 ?_
      refine lv_bipush (v := 16) hx hb dX11_sortBy_28 (by decide) ?_
      refine lv_iload_n hx hb dX11_sortBy_30 rfl (lv_at hl 1 rfl) ?_
      refine lv_imul hx hb dX11_sortBy_31 ?_
      refine lv_iconst (v := 4) hx hb dX11_sortBy_32 (by decide) ?_
      refine lv_iload hx hb dX11_sortBy_33 (lv_at hl 3 rfl) ?_
      refine lv_imul hx hb dX11_sortBy_35 ?_
      refine lv_iadd hx hb dX11_sortBy_36 ?_
      obtain ⟨hv3, h⟩ := chk_ex h
      refine am_8 C hK I hv3 dX11_sortBy_37 ?_
      refine lv_isub hx hb dX11_sortBy_38 ?_
      refine lv_topi (fun v4 ev4 => ?_)
      have h := bnd_at ev4 h
      clear ev4
      refine lv_istore_n (lv' := [(3, .int v4), (0, .ref (ad 0)), (1, .int x1), (4, .int x4)]) hx hb dX11_sortBy_39 rfl hl (by decide) rfl (fun ls hl => ?_)
      obtain ⟨v5, ev5⟩ : ∃ y : Int32, y = x4 + 1 := ⟨_, rfl⟩
      have h := bnd_at ev5 h
      refine lv_iinc (v := v5) (lv' := [(4, .int v5), (3, .int v4), (0, .ref (ad 0)), (1, .int x1)]) hx hb dX11_sortBy_40 hl (k := 3) rfl (by rw [ev5]; rfl) (by decide) rfl (fun ls hl => ?_)
      clear ev5
      refine lv_goto (tgt := 5) hx hb dX11_sortBy_43 (by decide) ?_
      exact hk_5 _ _ _ _ h _ _ _ I (lv_sub hl [2, 3, 1, 0] rfl)
  have J_5 : ∀ (fu : Nat) (S : St) (x1 : Int32) (x3 : Int32) (x4 : Int32), l_X11_sortBy_5  fu S x1 x3 x4 = some (r, S1) → ∀ (H : Heap) (locs : List Loc) (ls : Array Slot), Iv D (mw cI ad) S A s H locs → lv_has ls 5 [(0, .ref (ad 0)), (1, .int x1), (3, .int x3), (4, .int x4)] → W p l e ({ frames := 0, cells := 0, slots := 0, locals := 0 } : Room) s m args below meth c H locs 0 0 Q (F0 m 5 ls []) := by
    intro fu
    induction fu with
    | zero => intro S x1 x3 x4 h; cases h
    | succ fu ih => intro S x1 x3 x4 h; exact B_5 (l_X11_sortBy_5 fu) ih S x1 x3 x4 h
  unfold f_X11_sortBy at h
  refine lv_iload_n hx hb dX11_sortBy_0 rfl (lv_at hl 2 rfl) ?_
  refine lv_istore_n (lv' := [(3, .int x2), (0, .ref (ad 0)), (1, .int x1), (2, .int x2)]) hx hb dX11_sortBy_1 rfl hl (by decide) rfl (fun ls hl => ?_)
  refine lv_iconst (v := 0) hx hb dX11_sortBy_2 (by decide) ?_
  refine lv_istore (lv' := [(4, .int 0), (3, .int x2), (0, .ref (ad 0)), (1, .int x1), (2, .int x2)]) hx hb dX11_sortBy_3 hl (by decide) rfl (fun ls hl => ?_)
  exact J_5 _ _ _ _ _ h _ _ _ I (lv_sub hl [2, 3, 1, 0] rfl)
theorem fl_X11_215 : Cond.fieldLink RX11 215 RX11 "allDone" "Z" ∈ TT := tt_of 1135 (by decide +kernel) rfl
theorem fl_X11_212 : Cond.fieldLink RX11 212 RX11 "doneSet" "I" ∈ TT := tt_of 1137 (by decide +kernel) rfl
theorem fl_X11_206 : Cond.fieldLink RX11 206 RX11 "bagLeft" "I" ∈ TT := tt_of 1138 (by decide +kernel) rfl
theorem fl_X11_209 : Cond.fieldLink RX11 209 RX11 "gain" "I" ∈ TT := tt_of 1134 (by decide +kernel) rfl
theorem fl_X11_203 : Cond.fieldLink RX11 203 RX11 "minute" "I" ∈ TT := tt_of 1136 (by decide +kernel) rfl
theorem cn_X11_219 : Cond.constant RX11 219 (65536) ∈ TT := tt_of 1390 (by decide +kernel) rfl
theorem lk_X11_220 : Cond.methodLink RX11 220 yX11_sortBy ∈ TT := tt_of 1391 (by decide +kernel) rfl
theorem mv_X11_sortBy : MV yX11_sortBy cX11_sortBy 5 (some .int) 2 := ⟨tt_of 1394 (by decide +kernel) rfl, tt_of 1393 (by decide +kernel) rfl, tt_of 46 (by decide +kernel) rfl, tt_of 76 (by decide +kernel) rfl, ⟨by decide +kernel, by decide +kernel, by decide +kernel⟩⟩
theorem dX11_go_0 : decode cX11_go 0 = .ok (.iconst 0, 1) := by decide +kernel
theorem dX11_go_1 : decode cX11_go 1 = .ok (.istore_n 3, 1) := by decide +kernel
theorem dX11_go_2 : decode cX11_go 2 = .ok (.iload_n 2, 1) := by decide +kernel
theorem dX11_go_3 : decode cX11_go 3 = .ok (.istore 4, 2) := by decide +kernel
theorem dX11_go_5 : decode cX11_go 5 = .ok (.aload_n 0, 1) := by decide +kernel
theorem dX11_go_6 : decode cX11_go 6 = .ok (.aload_n 0, 1) := by decide +kernel
theorem dX11_go_7 : decode cX11_go 7 = .ok (.getfield 29, 3) := by decide +kernel
theorem dX11_go_10 : decode cX11_go 10 = .ok (.putfield 203, 3) := by decide +kernel
theorem dX11_go_13 : decode cX11_go 13 = .ok (.aload_n 0, 1) := by decide +kernel
theorem dX11_go_14 : decode cX11_go 14 = .ok (.iload_n 1, 1) := by decide +kernel
theorem dX11_go_15 : decode cX11_go 15 = .ok (.putfield 206, 3) := by decide +kernel
theorem dX11_go_18 : decode cX11_go 18 = .ok (.aload_n 0, 1) := by decide +kernel
theorem dX11_go_19 : decode cX11_go 19 = .ok (.iconst 0, 1) := by decide +kernel
theorem dX11_go_20 : decode cX11_go 20 = .ok (.putfield 209, 3) := by decide +kernel
theorem dX11_go_23 : decode cX11_go 23 = .ok (.aload_n 0, 1) := by decide +kernel
theorem dX11_go_24 : decode cX11_go 24 = .ok (.iconst 0, 1) := by decide +kernel
theorem dX11_go_25 : decode cX11_go 25 = .ok (.putfield 212, 3) := by decide +kernel
theorem dX11_go_28 : decode cX11_go 28 = .ok (.aload_n 0, 1) := by decide +kernel
theorem dX11_go_29 : decode cX11_go 29 = .ok (.iconst 1, 1) := by decide +kernel
theorem dX11_go_30 : decode cX11_go 30 = .ok (.putfield 215, 3) := by decide +kernel
theorem dX11_go_33 : decode cX11_go 33 = .ok (.iconst 0, 1) := by decide +kernel
theorem dX11_go_34 : decode cX11_go 34 = .ok (.istore 5, 2) := by decide +kernel
theorem dX11_go_36 : decode cX11_go 36 = .ok (.iload 5, 2) := by decide +kernel
theorem dX11_go_38 : decode cX11_go 38 = .ok (.aload_n 0, 1) := by decide +kernel
theorem dX11_go_39 : decode cX11_go 39 = .ok (.getfield 191, 3) := by decide +kernel
theorem dX11_go_42 : decode cX11_go 42 = .ok (.if_icmp .ge 395, 3) := by decide +kernel
theorem dX11_go_45 : decode cX11_go 45 = .ok (.aload_n 0, 1) := by decide +kernel
theorem dX11_go_46 : decode cX11_go 46 = .ok (.getfield 47, 3) := by decide +kernel
theorem dX11_go_49 : decode cX11_go 49 = .ok (.iload 5, 2) := by decide +kernel
theorem dX11_go_51 : decode cX11_go 51 = .ok (.iaload, 1) := by decide +kernel
theorem dX11_go_52 : decode cX11_go 52 = .ok (.istore 6, 2) := by decide +kernel
theorem dX11_go_54 : decode cX11_go 54 = .ok (.iload 6, 2) := by decide +kernel
theorem dX11_go_56 : decode cX11_go 56 = .ok (.bipush 6, 2) := by decide +kernel
theorem dX11_go_58 : decode cX11_go 58 = .ok (.if_icmp .ne 7, 3) := by decide +kernel
theorem dX11_go_61 : decode cX11_go 61 = .ok (.iconst 0, 1) := by decide +kernel
theorem dX11_go_62 : decode cX11_go 62 = .ok (.goto 13, 3) := by decide +kernel
theorem dX11_go_65 : decode cX11_go 65 = .ok (.aload_n 0, 1) := by decide +kernel
theorem dX11_go_66 : decode cX11_go 66 = .ok (.getfield 35, 3) := by decide +kernel
theorem dX11_go_69 : decode cX11_go 69 = .ok (.bipush 6, 2) := by decide +kernel
theorem dX11_go_71 : decode cX11_go 71 = .ok (.iload 6, 2) := by decide +kernel
theorem dX11_go_73 : decode cX11_go 73 = .ok (.imul, 1) := by decide +kernel
theorem dX11_go_74 : decode cX11_go 74 = .ok (.iaload, 1) := by decide +kernel
theorem dX11_go_75 : decode cX11_go 75 = .ok (.istore 7, 2) := by decide +kernel
theorem dX11_go_77 : decode cX11_go 77 = .ok (.aload_n 0, 1) := by decide +kernel
theorem dX11_go_78 : decode cX11_go 78 = .ok (.dup, 1) := by decide +kernel
theorem dX11_go_79 : decode cX11_go 79 = .ok (.getfield 203, 3) := by decide +kernel
theorem dX11_go_82 : decode cX11_go 82 = .ok (.aload_n 0, 1) := by decide +kernel
theorem dX11_go_83 : decode cX11_go 83 = .ok (.getfield 32, 3) := by decide +kernel
theorem dX11_go_86 : decode cX11_go 86 = .ok (.bipush 6, 2) := by decide +kernel
theorem dX11_go_88 : decode cX11_go 88 = .ok (.iload_n 3, 1) := by decide +kernel
theorem dX11_go_89 : decode cX11_go 89 = .ok (.imul, 1) := by decide +kernel
theorem dX11_go_90 : decode cX11_go 90 = .ok (.iload 7, 2) := by decide +kernel
theorem dX11_go_92 : decode cX11_go 92 = .ok (.iadd, 1) := by decide +kernel
theorem dX11_go_93 : decode cX11_go 93 = .ok (.iaload, 1) := by decide +kernel
theorem dX11_go_94 : decode cX11_go 94 = .ok (.iadd, 1) := by decide +kernel
theorem dX11_go_95 : decode cX11_go 95 = .ok (.putfield 203, 3) := by decide +kernel
theorem dX11_go_98 : decode cX11_go 98 = .ok (.iload 7, 2) := by decide +kernel
theorem dX11_go_100 : decode cX11_go 100 = .ok (.istore_n 3, 1) := by decide +kernel
theorem dX11_go_101 : decode cX11_go 101 = .ok (.iload 6, 2) := by decide +kernel
theorem dX11_go_103 : decode cX11_go 103 = .ok (.bipush 6, 2) := by decide +kernel
theorem dX11_go_105 : decode cX11_go 105 = .ok (.if_icmp .ne 11, 3) := by decide +kernel
theorem dX11_go_108 : decode cX11_go 108 = .ok (.aload_n 0, 1) := by decide +kernel
theorem dX11_go_109 : decode cX11_go 109 = .ok (.iload_n 1, 1) := by decide +kernel
theorem dX11_go_110 : decode cX11_go 110 = .ok (.putfield 206, 3) := by decide +kernel
theorem dX11_go_113 : decode cX11_go 113 = .ok (.goto 318, 3) := by decide +kernel
theorem dX11_go_116 : decode cX11_go 116 = .ok (.aload_n 0, 1) := by decide +kernel
theorem dX11_go_117 : decode cX11_go 117 = .ok (.aload_n 0, 1) := by decide +kernel
theorem dX11_go_118 : decode cX11_go 118 = .ok (.getfield 203, 3) := by decide +kernel
theorem dX11_go_121 : decode cX11_go 121 = .ok (.aload_n 0, 1) := by decide +kernel
theorem dX11_go_122 : decode cX11_go 122 = .ok (.getfield 35, 3) := by decide +kernel
theorem dX11_go_125 : decode cX11_go 125 = .ok (.bipush 6, 2) := by decide +kernel
theorem dX11_go_127 : decode cX11_go 127 = .ok (.iload 6, 2) := by decide +kernel
theorem dX11_go_129 : decode cX11_go 129 = .ok (.imul, 1) := by decide +kernel
theorem dX11_go_130 : decode cX11_go 130 = .ok (.iconst 1, 1) := by decide +kernel
theorem dX11_go_131 : decode cX11_go 131 = .ok (.iadd, 1) := by decide +kernel
theorem dX11_go_132 : decode cX11_go 132 = .ok (.iaload, 1) := by decide +kernel
theorem dX11_go_133 : decode cX11_go 133 = .ok (.if_icmp .ge 18, 3) := by decide +kernel
theorem dX11_go_136 : decode cX11_go 136 = .ok (.aload_n 0, 1) := by decide +kernel
theorem dX11_go_137 : decode cX11_go 137 = .ok (.getfield 35, 3) := by decide +kernel
theorem dX11_go_140 : decode cX11_go 140 = .ok (.bipush 6, 2) := by decide +kernel
theorem dX11_go_142 : decode cX11_go 142 = .ok (.iload 6, 2) := by decide +kernel
theorem dX11_go_144 : decode cX11_go 144 = .ok (.imul, 1) := by decide +kernel
theorem dX11_go_145 : decode cX11_go 145 = .ok (.iconst 1, 1) := by decide +kernel
theorem dX11_go_146 : decode cX11_go 146 = .ok (.iadd, 1) := by decide +kernel
theorem dX11_go_147 : decode cX11_go 147 = .ok (.iaload, 1) := by decide +kernel
theorem dX11_go_148 : decode cX11_go 148 = .ok (.goto 7, 3) := by decide +kernel
theorem dX11_go_151 : decode cX11_go 151 = .ok (.aload_n 0, 1) := by decide +kernel
theorem dX11_go_152 : decode cX11_go 152 = .ok (.getfield 203, 3) := by decide +kernel
theorem dX11_go_155 : decode cX11_go 155 = .ok (.putfield 203, 3) := by decide +kernel
theorem dX11_go_158 : decode cX11_go 158 = .ok (.aload_n 0, 1) := by decide +kernel
theorem dX11_go_159 : decode cX11_go 159 = .ok (.getfield 203, 3) := by decide +kernel
theorem dX11_go_162 : decode cX11_go 162 = .ok (.aload_n 0, 1) := by decide +kernel
theorem dX11_go_163 : decode cX11_go 163 = .ok (.getfield 35, 3) := by decide +kernel
theorem dX11_go_166 : decode cX11_go 166 = .ok (.bipush 6, 2) := by decide +kernel
theorem dX11_go_168 : decode cX11_go 168 = .ok (.iload 6, 2) := by decide +kernel
theorem dX11_go_170 : decode cX11_go 170 = .ok (.imul, 1) := by decide +kernel
theorem dX11_go_171 : decode cX11_go 171 = .ok (.iconst 2, 1) := by decide +kernel
theorem dX11_go_172 : decode cX11_go 172 = .ok (.iadd, 1) := by decide +kernel
theorem dX11_go_173 : decode cX11_go 173 = .ok (.iaload, 1) := by decide +kernel
theorem dX11_go_174 : decode cX11_go 174 = .ok (.if_icmp .le 7, 3) := by decide +kernel
theorem dX11_go_177 : decode cX11_go 177 = .ok (.iconst 1, 1) := by decide +kernel
theorem dX11_go_178 : decode cX11_go 178 = .ok (.goto 4, 3) := by decide +kernel
theorem dX11_go_181 : decode cX11_go 181 = .ok (.iconst 0, 1) := by decide +kernel
theorem dX11_go_182 : decode cX11_go 182 = .ok (.istore 8, 2) := by decide +kernel
theorem dX11_go_184 : decode cX11_go 184 = .ok (.aload_n 0, 1) := by decide +kernel
theorem dX11_go_185 : decode cX11_go 185 = .ok (.getfield 50, 3) := by decide +kernel
theorem dX11_go_188 : decode cX11_go 188 = .ok (.iload 5, 2) := by decide +kernel
theorem dX11_go_190 : decode cX11_go 190 = .ok (.iaload, 1) := by decide +kernel
theorem dX11_go_191 : decode cX11_go 191 = .ok (.istore 9, 2) := by decide +kernel
theorem dX11_go_193 : decode cX11_go 193 = .ok (.iload 8, 2) := by decide +kernel
theorem dX11_go_195 : decode cX11_go 195 = .ok (.ifCond .ne 42, 3) := by decide +kernel
theorem dX11_go_198 : decode cX11_go 198 = .ok (.iload_n 2, 1) := by decide +kernel
theorem dX11_go_199 : decode cX11_go 199 = .ok (.ifCond .lt 38, 3) := by decide +kernel
theorem dX11_go_202 : decode cX11_go 202 = .ok (.iload 4, 2) := by decide +kernel
theorem dX11_go_204 : decode cX11_go 204 = .ok (.sipush 25173, 3) := by decide +kernel
theorem dX11_go_207 : decode cX11_go 207 = .ok (.imul, 1) := by decide +kernel
theorem dX11_go_208 : decode cX11_go 208 = .ok (.sipush 13849, 3) := by decide +kernel
theorem dX11_go_211 : decode cX11_go 211 = .ok (.iadd, 1) := by decide +kernel
theorem dX11_go_212 : decode cX11_go 212 = .ok (.ldc 219, 2) := by decide +kernel
theorem dX11_go_214 : decode cX11_go 214 = .ok (.irem, 1) := by decide +kernel
theorem dX11_go_215 : decode cX11_go 215 = .ok (.istore 4, 2) := by decide +kernel
theorem dX11_go_217 : decode cX11_go 217 = .ok (.aload_n 0, 1) := by decide +kernel
theorem dX11_go_218 : decode cX11_go 218 = .ok (.iload 6, 2) := by decide +kernel
theorem dX11_go_220 : decode cX11_go 220 = .ok (.iload 4, 2) := by decide +kernel
theorem dX11_go_222 : decode cX11_go 222 = .ok (.bipush 64, 2) := by decide +kernel
theorem dX11_go_224 : decode cX11_go 224 = .ok (.idiv, 1) := by decide +kernel
theorem dX11_go_225 : decode cX11_go 225 = .ok (.aload_n 0, 1) := by decide +kernel
theorem dX11_go_226 : decode cX11_go 226 = .ok (.iload 6, 2) := by decide +kernel
theorem dX11_go_228 : decode cX11_go 228 = .ok (.invokevirtual 182, 3) := by decide +kernel
theorem dX11_go_231 : decode cX11_go 231 = .ok (.irem, 1) := by decide +kernel
theorem dX11_go_232 : decode cX11_go 232 = .ok (.invokevirtual 220, 3) := by decide +kernel
theorem dX11_go_235 : decode cX11_go 235 = .ok (.istore 9, 2) := by decide +kernel
theorem dX11_go_237 : decode cX11_go 237 = .ok (.iload 8, 2) := by decide +kernel
theorem dX11_go_239 : decode cX11_go 239 = .ok (.ifCond .eq 7, 3) := by decide +kernel
theorem dX11_go_242 : decode cX11_go 242 = .ok (.iconst (-1), 1) := by decide +kernel
theorem dX11_go_243 : decode cX11_go 243 = .ok (.goto 15, 3) := by decide +kernel
theorem dX11_go_246 : decode cX11_go 246 = .ok (.aload_n 0, 1) := by decide +kernel
theorem dX11_go_247 : decode cX11_go 247 = .ok (.aload_n 0, 1) := by decide +kernel
theorem dX11_go_248 : decode cX11_go 248 = .ok (.getfield 206, 3) := by decide +kernel
theorem dX11_go_251 : decode cX11_go 251 = .ok (.iload 6, 2) := by decide +kernel
theorem dX11_go_253 : decode cX11_go 253 = .ok (.iload 9, 2) := by decide +kernel
theorem dX11_go_255 : decode cX11_go 255 = .ok (.invokevirtual 168, 3) := by decide +kernel
theorem dX11_go_258 : decode cX11_go 258 = .ok (.istore 10, 2) := by decide +kernel
theorem dX11_go_260 : decode cX11_go 260 = .ok (.iload 10, 2) := by decide +kernel
theorem dX11_go_262 : decode cX11_go 262 = .ok (.iconst (-1), 1) := by decide +kernel
theorem dX11_go_263 : decode cX11_go 263 = .ok (.if_icmp .eq 7, 3) := by decide +kernel
theorem dX11_go_266 : decode cX11_go 266 = .ok (.iconst 1, 1) := by decide +kernel
theorem dX11_go_267 : decode cX11_go 267 = .ok (.goto 4, 3) := by decide +kernel
theorem dX11_go_270 : decode cX11_go 270 = .ok (.iconst 0, 1) := by decide +kernel
theorem dX11_go_271 : decode cX11_go 271 = .ok (.istore 11, 2) := by decide +kernel
theorem dX11_go_273 : decode cX11_go 273 = .ok (.aload_n 0, 1) := by decide +kernel
theorem dX11_go_274 : decode cX11_go 274 = .ok (.dup, 1) := by decide +kernel
theorem dX11_go_275 : decode cX11_go 275 = .ok (.getfield 203, 3) := by decide +kernel
theorem dX11_go_278 : decode cX11_go 278 = .ok (.iload 8, 2) := by decide +kernel
theorem dX11_go_280 : decode cX11_go 280 = .ok (.ifCond .eq 7, 3) := by decide +kernel
theorem dX11_go_283 : decode cX11_go 283 = .ok (.iconst 0, 1) := by decide +kernel
theorem dX11_go_284 : decode cX11_go 284 = .ok (.goto 40, 3) := by decide +kernel
theorem dX11_go_287 : decode cX11_go 287 = .ok (.iload 11, 2) := by decide +kernel
theorem dX11_go_289 : decode cX11_go 289 = .ok (.ifCond .eq 23, 3) := by decide +kernel
theorem dX11_go_292 : decode cX11_go 292 = .ok (.aload_n 0, 1) := by decide +kernel
theorem dX11_go_293 : decode cX11_go 293 = .ok (.getfield 41, 3) := by decide +kernel
theorem dX11_go_296 : decode cX11_go 296 = .ok (.bipush 16, 2) := by decide +kernel
theorem dX11_go_298 : decode cX11_go 298 = .ok (.iload 6, 2) := by decide +kernel
theorem dX11_go_300 : decode cX11_go 300 = .ok (.imul, 1) := by decide +kernel
theorem dX11_go_301 : decode cX11_go 301 = .ok (.iconst 4, 1) := by decide +kernel
theorem dX11_go_302 : decode cX11_go 302 = .ok (.iload 9, 2) := by decide +kernel
theorem dX11_go_304 : decode cX11_go 304 = .ok (.imul, 1) := by decide +kernel
theorem dX11_go_305 : decode cX11_go 305 = .ok (.iadd, 1) := by decide +kernel
theorem dX11_go_306 : decode cX11_go 306 = .ok (.iconst 1, 1) := by decide +kernel
theorem dX11_go_307 : decode cX11_go 307 = .ok (.iadd, 1) := by decide +kernel
theorem dX11_go_308 : decode cX11_go 308 = .ok (.iaload, 1) := by decide +kernel
theorem dX11_go_309 : decode cX11_go 309 = .ok (.goto 15, 3) := by decide +kernel
theorem dX11_go_312 : decode cX11_go 312 = .ok (.aload_n 0, 1) := by decide +kernel
theorem dX11_go_313 : decode cX11_go 313 = .ok (.getfield 35, 3) := by decide +kernel
theorem dX11_go_316 : decode cX11_go 316 = .ok (.bipush 6, 2) := by decide +kernel
theorem dX11_go_318 : decode cX11_go 318 = .ok (.iload 6, 2) := by decide +kernel
theorem dX11_go_320 : decode cX11_go 320 = .ok (.imul, 1) := by decide +kernel
theorem dX11_go_321 : decode cX11_go 321 = .ok (.iconst 5, 1) := by decide +kernel
theorem dX11_go_322 : decode cX11_go 322 = .ok (.iadd, 1) := by decide +kernel
theorem dX11_go_323 : decode cX11_go 323 = .ok (.iaload, 1) := by decide +kernel
theorem dX11_go_324 : decode cX11_go 324 = .ok (.iadd, 1) := by decide +kernel
theorem dX11_go_325 : decode cX11_go 325 = .ok (.putfield 203, 3) := by decide +kernel
theorem dX11_go_328 : decode cX11_go 328 = .ok (.aload_n 0, 1) := by decide +kernel
theorem dX11_go_329 : decode cX11_go 329 = .ok (.dup, 1) := by decide +kernel
theorem dX11_go_330 : decode cX11_go 330 = .ok (.getfield 209, 3) := by decide +kernel
theorem dX11_go_333 : decode cX11_go 333 = .ok (.iload 11, 2) := by decide +kernel
theorem dX11_go_335 : decode cX11_go 335 = .ok (.ifCond .eq 18, 3) := by decide +kernel
theorem dX11_go_338 : decode cX11_go 338 = .ok (.aload_n 0, 1) := by decide +kernel
theorem dX11_go_339 : decode cX11_go 339 = .ok (.getfield 35, 3) := by decide +kernel
theorem dX11_go_342 : decode cX11_go 342 = .ok (.bipush 6, 2) := by decide +kernel
theorem dX11_go_344 : decode cX11_go 344 = .ok (.iload 6, 2) := by decide +kernel
theorem dX11_go_346 : decode cX11_go 346 = .ok (.imul, 1) := by decide +kernel
theorem dX11_go_347 : decode cX11_go 347 = .ok (.iconst 3, 1) := by decide +kernel
theorem dX11_go_348 : decode cX11_go 348 = .ok (.iadd, 1) := by decide +kernel
theorem dX11_go_349 : decode cX11_go 349 = .ok (.iaload, 1) := by decide +kernel
theorem dX11_go_350 : decode cX11_go 350 = .ok (.goto 16, 3) := by decide +kernel
theorem dX11_go_353 : decode cX11_go 353 = .ok (.aload_n 0, 1) := by decide +kernel
theorem dX11_go_354 : decode cX11_go 354 = .ok (.getfield 35, 3) := by decide +kernel
theorem dX11_go_357 : decode cX11_go 357 = .ok (.bipush 6, 2) := by decide +kernel
theorem dX11_go_359 : decode cX11_go 359 = .ok (.iload 6, 2) := by decide +kernel
theorem dX11_go_361 : decode cX11_go 361 = .ok (.imul, 1) := by decide +kernel
theorem dX11_go_362 : decode cX11_go 362 = .ok (.iconst 4, 1) := by decide +kernel
theorem dX11_go_363 : decode cX11_go 363 = .ok (.iadd, 1) := by decide +kernel
theorem dX11_go_364 : decode cX11_go 364 = .ok (.iaload, 1) := by decide +kernel
theorem dX11_go_365 : decode cX11_go 365 = .ok (.ineg, 1) := by decide +kernel
theorem dX11_go_366 : decode cX11_go 366 = .ok (.iadd, 1) := by decide +kernel
theorem dX11_go_367 : decode cX11_go 367 = .ok (.putfield 209, 3) := by decide +kernel
theorem dX11_go_370 : decode cX11_go 370 = .ok (.aload_n 0, 1) := by decide +kernel
theorem dX11_go_371 : decode cX11_go 371 = .ok (.iload 11, 2) := by decide +kernel
theorem dX11_go_373 : decode cX11_go 373 = .ok (.ifCond .eq 8, 3) := by decide +kernel
theorem dX11_go_376 : decode cX11_go 376 = .ok (.iload 10, 2) := by decide +kernel
theorem dX11_go_378 : decode cX11_go 378 = .ok (.goto 7, 3) := by decide +kernel
theorem dX11_go_381 : decode cX11_go 381 = .ok (.aload_n 0, 1) := by decide +kernel
theorem dX11_go_382 : decode cX11_go 382 = .ok (.getfield 206, 3) := by decide +kernel
theorem dX11_go_385 : decode cX11_go 385 = .ok (.putfield 206, 3) := by decide +kernel
theorem dX11_go_388 : decode cX11_go 388 = .ok (.aload_n 0, 1) := by decide +kernel
theorem dX11_go_389 : decode cX11_go 389 = .ok (.dup, 1) := by decide +kernel
theorem dX11_go_390 : decode cX11_go 390 = .ok (.getfield 212, 3) := by decide +kernel
theorem dX11_go_393 : decode cX11_go 393 = .ok (.iload 11, 2) := by decide +kernel
theorem dX11_go_395 : decode cX11_go 395 = .ok (.ifCond .eq 10, 3) := by decide +kernel
theorem dX11_go_398 : decode cX11_go 398 = .ok (.iconst 1, 1) := by decide +kernel
theorem dX11_go_399 : decode cX11_go 399 = .ok (.iload 6, 2) := by decide +kernel
theorem dX11_go_401 : decode cX11_go 401 = .ok (.ishl, 1) := by decide +kernel
theorem dX11_go_402 : decode cX11_go 402 = .ok (.goto 4, 3) := by decide +kernel
theorem dX11_go_405 : decode cX11_go 405 = .ok (.iconst 0, 1) := by decide +kernel
theorem dX11_go_406 : decode cX11_go 406 = .ok (.ior, 1) := by decide +kernel
theorem dX11_go_407 : decode cX11_go 407 = .ok (.putfield 212, 3) := by decide +kernel
theorem dX11_go_410 : decode cX11_go 410 = .ok (.aload_n 0, 1) := by decide +kernel
theorem dX11_go_411 : decode cX11_go 411 = .ok (.aload_n 0, 1) := by decide +kernel
theorem dX11_go_412 : decode cX11_go 412 = .ok (.getfield 215, 3) := by decide +kernel
theorem dX11_go_415 : decode cX11_go 415 = .ok (.ifCond .eq 12, 3) := by decide +kernel
theorem dX11_go_418 : decode cX11_go 418 = .ok (.iload 11, 2) := by decide +kernel
theorem dX11_go_420 : decode cX11_go 420 = .ok (.ifCond .eq 7, 3) := by decide +kernel
theorem dX11_go_423 : decode cX11_go 423 = .ok (.iconst 1, 1) := by decide +kernel
theorem dX11_go_424 : decode cX11_go 424 = .ok (.goto 4, 3) := by decide +kernel
theorem dX11_go_427 : decode cX11_go 427 = .ok (.iconst 0, 1) := by decide +kernel
theorem dX11_go_428 : decode cX11_go 428 = .ok (.putfield 215, 3) := by decide +kernel
theorem dX11_go_431 : decode cX11_go 431 = .ok (.iinc 5 1, 3) := by decide +kernel
theorem dX11_go_434 : decode cX11_go 434 = .ok (.goto (-398), 3) := by decide +kernel
theorem dX11_go_437 : decode cX11_go 437 = .ok (.return_, 1) := by decide +kernel
def f_X11_go_431 (k_36 : St → Int32 → Int32 → Int32 → Int32 → Int32 → Option St) (S : St) (x1 : Int32) (x2 : Int32) (x3 : Int32) (x4 : Int32) (x5 : Int32) : Option St :=
  bnd (x5 + 1 : Int32) fun v1 =>
  k_36 S x1 x2 x3 x4 v1
def f_X11_go_428 (k_36 : St → Int32 → Int32 → Int32 → Int32 → Int32 → Option St) (S : St) (x1 : Int32) (x2 : Int32) (x3 : Int32) (x4 : Int32) (x5 : Int32) (t1 : Int32) : Option St :=
  chk (zb t1) <|
  bnd (setI S 0 26 t1) fun S3 =>
  f_X11_go_431 k_36 S3 x1 x2 x3 x4 x5
def f_X11_go_427 (k_36 : St → Int32 → Int32 → Int32 → Int32 → Int32 → Option St) (S : St) (x1 : Int32) (x2 : Int32) (x3 : Int32) (x4 : Int32) (x5 : Int32) : Option St :=
  f_X11_go_428 k_36 S x1 x2 x3 x4 x5 0
def f_X11_go_406 (k_36 : St → Int32 → Int32 → Int32 → Int32 → Int32 → Option St) (S : St) (x1 : Int32) (x2 : Int32) (x3 : Int32) (x4 : Int32) (x5 : Int32) (x11 : Int32) (t1 : Int32) (t2 : Int32) : Option St :=
  bnd (setI S 0 28 (t1 ||| t2)) fun S4 =>
  if (S4.1 0 26) = 0 then (
    f_X11_go_427 k_36 S4 x1 x2 x3 x4 x5
  ) else (
    if x11 = 0 then (
      f_X11_go_427 k_36 S4 x1 x2 x3 x4 x5
    ) else (
      f_X11_go_428 k_36 S4 x1 x2 x3 x4 x5 1
    )
  )
def f_X11_go_385 (k_36 : St → Int32 → Int32 → Int32 → Int32 → Int32 → Option St) (S : St) (x1 : Int32) (x2 : Int32) (x3 : Int32) (x4 : Int32) (x5 : Int32) (x6 : Int32) (x11 : Int32) (t1 : Int32) : Option St :=
  bnd (setI S 0 29 t1) fun S7 =>
  if x11 = 0 then (
    f_X11_go_406 k_36 S7 x1 x2 x3 x4 x5 x11 (S7.1 0 28) 0
  ) else (
    f_X11_go_406 k_36 S7 x1 x2 x3 x4 x5 x11 (S7.1 0 28) ((1 : Int32) <<< (x6 &&& 31))
  )
def f_X11_go_366 (k_36 : St → Int32 → Int32 → Int32 → Int32 → Int32 → Option St) (S : St) (x1 : Int32) (x2 : Int32) (x3 : Int32) (x4 : Int32) (x5 : Int32) (x6 : Int32) (x10 : Int32) (x11 : Int32) (t1 : Int32) (t2 : Int32) : Option St :=
  bnd (setI S 0 25 (t1 + t2)) fun S9 =>
  if x11 = 0 then (
    f_X11_go_385 k_36 S9 x1 x2 x3 x4 x5 x6 x11 (S9.1 0 29)
  ) else (
    f_X11_go_385 k_36 S9 x1 x2 x3 x4 x5 x6 x11 x10
  )
def f_X11_go_324 (k_36 : St → Int32 → Int32 → Int32 → Int32 → Int32 → Option St) (S : St) (x1 : Int32) (x2 : Int32) (x3 : Int32) (x4 : Int32) (x5 : Int32) (x6 : Int32) (x10 : Int32) (x11 : Int32) (t1 : Int32) (t2 : Int32) : Option St :=
  bnd (setI S 0 27 (t1 + t2)) fun S11 =>
  if x11 = 0 then (
    chk (ixo ((6 * x6) + 4) 36) <|
    f_X11_go_366 k_36 S11 x1 x2 x3 x4 x5 x6 x10 x11 (S11.1 0 25) (-(S11.1 6 (((6 * x6) + 4)).toNatClampNeg))
  ) else (
    chk (ixo ((6 * x6) + 3) 36) <|
    f_X11_go_366 k_36 S11 x1 x2 x3 x4 x5 x6 x10 x11 (S11.1 0 25) (S11.1 6 (((6 * x6) + 3)).toNatClampNeg)
  )
def f_X11_go_271 (k_36 : St → Int32 → Int32 → Int32 → Int32 → Int32 → Option St) (S : St) (x1 : Int32) (x2 : Int32) (x3 : Int32) (x4 : Int32) (x5 : Int32) (x6 : Int32) (x8 : Int32) (x9 : Int32) (x10 : Int32) (t0 : Int32) : Option St :=
  if x8 = 0 then (
    if t0 = 0 then (
      chk (ixo ((6 * x6) + 5) 36) <|
      f_X11_go_324 k_36 S x1 x2 x3 x4 x5 x6 x10 t0 (S.1 0 27) (S.1 6 (((6 * x6) + 5)).toNatClampNeg)
    ) else (
      chk (ixo (((16 * x6) + (4 * x9)) + 1) 96) <|
      f_X11_go_324 k_36 S x1 x2 x3 x4 x5 x6 x10 t0 (S.1 0 27) (S.1 8 ((((16 * x6) + (4 * x9)) + 1)).toNatClampNeg)
    )
  ) else (
    f_X11_go_324 k_36 S x1 x2 x3 x4 x5 x6 x10 t0 (S.1 0 27) 0
  )
def f_X11_go_258 (k_36 : St → Int32 → Int32 → Int32 → Int32 → Int32 → Option St) (S : St) (x1 : Int32) (x2 : Int32) (x3 : Int32) (x4 : Int32) (x5 : Int32) (x6 : Int32) (x8 : Int32) (x9 : Int32) (t0 : Int32) : Option St :=
  if t0 = (-1) then (
    f_X11_go_271 k_36 S x1 x2 x3 x4 x5 x6 x8 x9 t0 0
  ) else (
    f_X11_go_271 k_36 S x1 x2 x3 x4 x5 x6 x8 x9 t0 1
  )
def f_X11_go_237 (k_36 : St → Int32 → Int32 → Int32 → Int32 → Int32 → Option St) (S : St) (x1 : Int32) (x2 : Int32) (x3 : Int32) (x4 : Int32) (x5 : Int32) (x6 : Int32) (x8 : Int32) (x9 : Int32) : Option St :=
  if x8 = 0 then (
    obd2 (f_X11_leftOf S (S.1 0 29) x6 x9) fun r21 S21 =>
    f_X11_go_258 k_36 S21 x1 x2 x3 x4 x5 x6 x8 x9 r21
  ) else (
    f_X11_go_258 k_36 S x1 x2 x3 x4 x5 x6 x8 x9 (-1)
  )
def f_X11_go_182 (k_36 : St → Int32 → Int32 → Int32 → Int32 → Int32 → Option St) (S : St) (x1 : Int32) (x2 : Int32) (x3 : Int32) (x4 : Int32) (x5 : Int32) (x6 : Int32) (t0 : Int32) : Option St :=
  chk (ixo x5 6) <|
  bnd ((S.1 11 (x5).toNatClampNeg) : Int32) fun v23 =>
  if t0 = 0 then (
    if x2 < 0 then (
      f_X11_go_237 k_36 S x1 x2 x3 x4 x5 x6 t0 v23
    ) else (
      bnd ((((x4 * 25173) + 13849) - ((x4 * 25173) + 13849) / 65536 * 65536) : Int32) fun v26 =>
      obd2 (f_X11_totalOf S x6) fun r27 S27 =>
      chk (¬ r27 = 0) <|
      obd2 (f_X11_sortBy S27 x6 ((v26 / 64) - (v26 / 64) / r27 * r27)) fun r29 S29 =>
      f_X11_go_237 k_36 S29 x1 x2 x3 v26 x5 x6 t0 r29
    )
  ) else (
    f_X11_go_237 k_36 S x1 x2 x3 x4 x5 x6 t0 v23
  )
def f_X11_go_155 (k_36 : St → Int32 → Int32 → Int32 → Int32 → Int32 → Option St) (S : St) (x1 : Int32) (x2 : Int32) (x3 : Int32) (x4 : Int32) (x5 : Int32) (x6 : Int32) (t1 : Int32) : Option St :=
  bnd (setI S 0 27 t1) fun S30 =>
  chk (ixo ((6 * x6) + 2) 36) <|
  if (S30.1 0 27) ≤ (S30.1 6 (((6 * x6) + 2)).toNatClampNeg) then (
    f_X11_go_182 k_36 S30 x1 x2 x3 x4 x5 x6 0
  ) else (
    f_X11_go_182 k_36 S30 x1 x2 x3 x4 x5 x6 1
  )
def f_X11_go_75 (k_36 : St → Int32 → Int32 → Int32 → Int32 → Int32 → Option St) (S : St) (x1 : Int32) (x2 : Int32) (x3 : Int32) (x4 : Int32) (x5 : Int32) (x6 : Int32) (t0 : Int32) : Option St :=
  chk (ixo ((6 * x3) + t0) 36) <|
  bnd (setI S 0 27 ((S.1 0 27) + (S.1 5 (((6 * x3) + t0)).toNatClampNeg))) fun S34 =>
  if x6 = 6 then (
    bnd (setI S34 0 29 x1) fun S39 =>
    f_X11_go_431 k_36 S39 x1 x2 t0 x4 x5
  ) else (
    chk (ixo ((6 * x6) + 1) 36) <|
    if (S34.1 6 (((6 * x6) + 1)).toNatClampNeg) ≤ (S34.1 0 27) then (
      f_X11_go_155 k_36 S34 x1 x2 t0 x4 x5 x6 (S34.1 0 27)
    ) else (
      chk (ixo ((6 * x6) + 1) 36) <|
      f_X11_go_155 k_36 S34 x1 x2 t0 x4 x5 x6 (S34.1 6 (((6 * x6) + 1)).toNatClampNeg)
    )
  )
def f_X11_go_36 (k_36 : St → Int32 → Int32 → Int32 → Int32 → Int32 → Option St) (S : St) (x1 : Int32) (x2 : Int32) (x3 : Int32) (x4 : Int32) (x5 : Int32) : Option St :=
  if (S.1 0 21) ≤ x5 then (
    some S
  ) else (
    chk (ixo x5 6) <|
    bnd ((S.1 10 (x5).toNatClampNeg) : Int32) fun v42 =>
    if v42 = 6 then (
      f_X11_go_75 k_36 S x1 x2 x3 x4 x5 v42 0
    ) else (
      chk (ixo (6 * v42) 36) <|
      f_X11_go_75 k_36 S x1 x2 x3 x4 x5 v42 (S.1 6 ((6 * v42)).toNatClampNeg)
    )
  )
def l_X11_go_36 : Nat → St → Int32 → Int32 → Int32 → Int32 → Int32 → Option St
  | 0, _, _, _, _, _, _ => none
  | fu + 1, S, x1, x2, x3, x4, x5 => f_X11_go_36 (l_X11_go_36 fu) S x1 x2 x3 x4 x5
def f_X11_go (S : St) (x1 : Int32) (x2 : Int32) : Option St :=
  bnd (setI S 0 27 (S.1 0 9)) fun S45 =>
  bnd (setI S45 0 29 x1) fun S46 =>
  bnd (setI S46 0 25 0) fun S47 =>
  bnd (setI S47 0 28 0) fun S48 =>
  bnd (setI S48 0 26 1) fun S49 =>
  l_X11_go_36 FU S49 x1 x2 0 x2 0
set_option maxHeartbeats 4000000 in
set_option maxRecDepth 100000 in
theorem c_X11_go {l : Launch} {D : va_G} {cI cC cS : ClassId} {ad adK adV : Nat → Nat} {S S1 : St} {x1 : Int32} {x2 : Int32} (h : f_X11_go S x1 x2 = some S1) : Kt l D (mw cI ad) (KX D (xtys cI cC cS) adK adV) yX11_go cX11_go 12 none (2) (50) [.ref (ad 0), .int x1, .int x2] S (none) S1 := by
  refine k_ent (ins := .return_) (st := []) (by decide +kernel) (Nat.le_of_ble_eq_true rfl) ret_v ?_
  intro p e s m args below meth c A Q C hK I hA hq ls hl
  have C : CallFix p m c cX11_go 12 s args TT RX11 := C
  have hx := C.1
  have hb := C.2.1
  have kx := kx_ok D (xtys cI cC cS) adK adV
  have hl : lv_has ls 12 [(0, .ref (ad 0)), (1, .int x1), (2, .int x2)] := hl
  have J_431 : ∀ (k_36 : St → Int32 → Int32 → Int32 → Int32 → Int32 → Option St) (hk_36 : ∀ (S : St) (x1 : Int32) (x2 : Int32) (x3 : Int32) (x4 : Int32) (x5 : Int32), k_36 S x1 x2 x3 x4 x5 = some S1 → ∀ (H : Heap) (locs : List Loc) (ls : Array Slot), Iv D (mw cI ad) S A s H locs → lv_has ls 12 [(0, .ref (ad 0)), (1, .int x1), (2, .int x2), (3, .int x3), (4, .int x4), (5, .int x5)] → W p l e ({ frames := 2, cells := 0, slots := 0, locals := 50 } : Room) s m args below meth c H locs 0 0 Q (F0 m 36 ls [])) (S : St) (x1 : Int32) (x2 : Int32) (x3 : Int32) (x4 : Int32) (x5 : Int32), f_X11_go_431 k_36 S x1 x2 x3 x4 x5 = some S1 → ∀ (H : Heap) (locs : List Loc) (ls : Array Slot), Iv D (mw cI ad) S A s H locs → lv_has ls 12 [(0, .ref (ad 0)), (1, .int x1), (2, .int x2), (3, .int x3), (4, .int x4), (5, .int x5)] → W p l e ({ frames := 2, cells := 0, slots := 0, locals := 50 } : Room) s m args below meth c H locs 0 0 Q (F0 m 431 ls []) := by
    intro k_36 hk_36 S x1 x2 x3 x4 x5 h H locs ls I hl
    unfold f_X11_go_431 at h
    obtain ⟨v1, ev1⟩ : ∃ y : Int32, y = x5 + 1 := ⟨_, rfl⟩
    have h := bnd_at ev1 h
    refine lv_iinc (v := v1) (lv' := [(5, .int v1), (0, .ref (ad 0)), (1, .int x1), (2, .int x2), (3, .int x3), (4, .int x4)]) hx hb dX11_go_431 hl (k := 5) rfl (by rw [ev1]; rfl) (by decide) rfl (fun ls hl => ?_)
    clear ev1
    refine lv_goto (tgt := 36) hx hb dX11_go_434 (by decide) ?_
    exact hk_36 _ _ _ _ _ _ h _ _ _ I (lv_sub hl [1, 2, 3, 4, 5, 0] rfl)
  have J_428 : ∀ (k_36 : St → Int32 → Int32 → Int32 → Int32 → Int32 → Option St) (hk_36 : ∀ (S : St) (x1 : Int32) (x2 : Int32) (x3 : Int32) (x4 : Int32) (x5 : Int32), k_36 S x1 x2 x3 x4 x5 = some S1 → ∀ (H : Heap) (locs : List Loc) (ls : Array Slot), Iv D (mw cI ad) S A s H locs → lv_has ls 12 [(0, .ref (ad 0)), (1, .int x1), (2, .int x2), (3, .int x3), (4, .int x4), (5, .int x5)] → W p l e ({ frames := 2, cells := 0, slots := 0, locals := 50 } : Room) s m args below meth c H locs 0 0 Q (F0 m 36 ls [])) (S : St) (x1 : Int32) (x2 : Int32) (x3 : Int32) (x4 : Int32) (x5 : Int32) (t1 : Int32), f_X11_go_428 k_36 S x1 x2 x3 x4 x5 t1 = some S1 → ∀ (H : Heap) (locs : List Loc) (ls : Array Slot), Iv D (mw cI ad) S A s H locs → lv_has ls 12 [(0, .ref (ad 0)), (1, .int x1), (2, .int x2), (3, .int x3), (4, .int x4), (5, .int x5)] → W p l e ({ frames := 2, cells := 0, slots := 0, locals := 50 } : Room) s m args below meth c H locs 0 0 Q (F0 m 428 ls [.int t1, .ref (ad 0)]) := by
    intro k_36 hk_36 S x1 x2 x3 x4 x5 t1 h H locs ls I hl
    unfold f_X11_go_428 at h
    obtain ⟨hv2, h⟩ := chk_ex h
    refine pm_0_26 C hK I fl_X11_215 hv2 dX11_go_428 (fun S3 eS3 H locs I => ?_)
    have h := bnd_at eS3 h
    clear eS3
    exact J_431 k_36 hk_36 _ _ _ _ _ _ h _ _ _ I (lv_sub hl [0, 1, 2, 3, 4, 5] rfl)
  have J_427 : ∀ (k_36 : St → Int32 → Int32 → Int32 → Int32 → Int32 → Option St) (hk_36 : ∀ (S : St) (x1 : Int32) (x2 : Int32) (x3 : Int32) (x4 : Int32) (x5 : Int32), k_36 S x1 x2 x3 x4 x5 = some S1 → ∀ (H : Heap) (locs : List Loc) (ls : Array Slot), Iv D (mw cI ad) S A s H locs → lv_has ls 12 [(0, .ref (ad 0)), (1, .int x1), (2, .int x2), (3, .int x3), (4, .int x4), (5, .int x5)] → W p l e ({ frames := 2, cells := 0, slots := 0, locals := 50 } : Room) s m args below meth c H locs 0 0 Q (F0 m 36 ls [])) (S : St) (x1 : Int32) (x2 : Int32) (x3 : Int32) (x4 : Int32) (x5 : Int32), f_X11_go_427 k_36 S x1 x2 x3 x4 x5 = some S1 → ∀ (H : Heap) (locs : List Loc) (ls : Array Slot), Iv D (mw cI ad) S A s H locs → lv_has ls 12 [(0, .ref (ad 0)), (1, .int x1), (2, .int x2), (3, .int x3), (4, .int x4), (5, .int x5)] → W p l e ({ frames := 2, cells := 0, slots := 0, locals := 50 } : Room) s m args below meth c H locs 0 0 Q (F0 m 427 ls [.ref (ad 0)]) := by
    intro k_36 hk_36 S x1 x2 x3 x4 x5 h H locs ls I hl
    unfold f_X11_go_427 at h
    refine lv_iconst (v := 0) hx hb dX11_go_427 (by decide) ?_
    exact J_428 k_36 hk_36 _ _ _ _ _ _ _ h _ _ _ I (lv_sub hl [0, 1, 2, 3, 4, 5] rfl)
  have J_406 : ∀ (k_36 : St → Int32 → Int32 → Int32 → Int32 → Int32 → Option St) (hk_36 : ∀ (S : St) (x1 : Int32) (x2 : Int32) (x3 : Int32) (x4 : Int32) (x5 : Int32), k_36 S x1 x2 x3 x4 x5 = some S1 → ∀ (H : Heap) (locs : List Loc) (ls : Array Slot), Iv D (mw cI ad) S A s H locs → lv_has ls 12 [(0, .ref (ad 0)), (1, .int x1), (2, .int x2), (3, .int x3), (4, .int x4), (5, .int x5)] → W p l e ({ frames := 2, cells := 0, slots := 0, locals := 50 } : Room) s m args below meth c H locs 0 0 Q (F0 m 36 ls [])) (S : St) (x1 : Int32) (x2 : Int32) (x3 : Int32) (x4 : Int32) (x5 : Int32) (x11 : Int32) (t1 : Int32) (t2 : Int32), f_X11_go_406 k_36 S x1 x2 x3 x4 x5 x11 t1 t2 = some S1 → ∀ (H : Heap) (locs : List Loc) (ls : Array Slot), Iv D (mw cI ad) S A s H locs → lv_has ls 12 [(0, .ref (ad 0)), (1, .int x1), (2, .int x2), (3, .int x3), (4, .int x4), (5, .int x5), (11, .int x11)] → W p l e ({ frames := 2, cells := 0, slots := 0, locals := 50 } : Room) s m args below meth c H locs 0 0 Q (F0 m 406 ls [.int t2, .int t1, .ref (ad 0)]) := by
    intro k_36 hk_36 S x1 x2 x3 x4 x5 x11 t1 t2 h H locs ls I hl
    unfold f_X11_go_406 at h
    refine lv_ior hx hb dX11_go_406 ?_
    refine pm_0_28 C hK I fl_X11_212 dX11_go_407 (fun S4 eS4 H locs I => ?_)
    have h := bnd_at eS4 h
    clear eS4
    refine lv_aload_n hx hb dX11_go_410 rfl (lv_at hl 0 rfl) ?_
    refine lv_aload_n hx hb dX11_go_411 rfl (lv_at hl 0 rfl) ?_
    refine gm_0_26 C hK I fl_X11_215 dX11_go_412 ?_
    refine lv_if_eq (tgt := 427) hx hb dX11_go_415 (by decide) (fun c5 => ?_) (fun c5 => ?_)
    · have h := ite_t c5 h
      exact J_427 k_36 hk_36 _ _ _ _ _ _ h _ _ _ I (lv_sub hl [0, 1, 2, 3, 4, 5] rfl)
    · have h := ite_n c5 h
      refine lv_iload hx hb dX11_go_418 (lv_at hl 6 rfl) ?_
      refine lv_if_eq (tgt := 427) hx hb dX11_go_420 (by decide) (fun c6 => ?_) (fun c6 => ?_)
      · have h := ite_t c6 h
        exact J_427 k_36 hk_36 _ _ _ _ _ _ h _ _ _ I (lv_sub hl [0, 1, 2, 3, 4, 5] rfl)
      · have h := ite_n c6 h
        refine lv_iconst (v := 1) hx hb dX11_go_423 (by decide) ?_
        refine lv_goto (tgt := 428) hx hb dX11_go_424 (by decide) ?_
        exact J_428 k_36 hk_36 _ _ _ _ _ _ _ h _ _ _ I (lv_sub hl [0, 1, 2, 3, 4, 5] rfl)
  have J_385 : ∀ (k_36 : St → Int32 → Int32 → Int32 → Int32 → Int32 → Option St) (hk_36 : ∀ (S : St) (x1 : Int32) (x2 : Int32) (x3 : Int32) (x4 : Int32) (x5 : Int32), k_36 S x1 x2 x3 x4 x5 = some S1 → ∀ (H : Heap) (locs : List Loc) (ls : Array Slot), Iv D (mw cI ad) S A s H locs → lv_has ls 12 [(0, .ref (ad 0)), (1, .int x1), (2, .int x2), (3, .int x3), (4, .int x4), (5, .int x5)] → W p l e ({ frames := 2, cells := 0, slots := 0, locals := 50 } : Room) s m args below meth c H locs 0 0 Q (F0 m 36 ls [])) (S : St) (x1 : Int32) (x2 : Int32) (x3 : Int32) (x4 : Int32) (x5 : Int32) (x6 : Int32) (x11 : Int32) (t1 : Int32), f_X11_go_385 k_36 S x1 x2 x3 x4 x5 x6 x11 t1 = some S1 → ∀ (H : Heap) (locs : List Loc) (ls : Array Slot), Iv D (mw cI ad) S A s H locs → lv_has ls 12 [(0, .ref (ad 0)), (1, .int x1), (2, .int x2), (3, .int x3), (4, .int x4), (5, .int x5), (6, .int x6), (11, .int x11)] → W p l e ({ frames := 2, cells := 0, slots := 0, locals := 50 } : Room) s m args below meth c H locs 0 0 Q (F0 m 385 ls [.int t1, .ref (ad 0)]) := by
    intro k_36 hk_36 S x1 x2 x3 x4 x5 x6 x11 t1 h H locs ls I hl
    unfold f_X11_go_385 at h
    refine pm_0_29 C hK I fl_X11_206 dX11_go_385 (fun S7 eS7 H locs I => ?_)
    have h := bnd_at eS7 h
    clear eS7
    refine lv_aload_n hx hb dX11_go_388 rfl (lv_at hl 0 rfl) ?_
    refine lv_dup hx hb dX11_go_389 rfl ?_
    refine gm_0_28 C hK I fl_X11_212 dX11_go_390 ?_
    refine lv_iload hx hb dX11_go_393 (lv_at hl 7 rfl) ?_
    refine lv_if_eq (tgt := 405) hx hb dX11_go_395 (by decide) (fun c8 => ?_) (fun c8 => ?_)
    · have h := ite_t c8 h
      refine lv_iconst (v := 0) hx hb dX11_go_405 (by decide) ?_
      exact J_406 k_36 hk_36 _ _ _ _ _ _ _ _ _ h _ _ _ I (lv_sub hl [0, 1, 2, 3, 4, 5, 7] rfl)
    · have h := ite_n c8 h
      refine lv_iconst (v := 1) hx hb dX11_go_398 (by decide) ?_
      refine lv_iload hx hb dX11_go_399 (lv_at hl 6 rfl) ?_
      refine lv_ishl hx hb dX11_go_401 ?_
      refine lv_goto (tgt := 406) hx hb dX11_go_402 (by decide) ?_
      exact J_406 k_36 hk_36 _ _ _ _ _ _ _ _ _ h _ _ _ I (lv_sub hl [0, 1, 2, 3, 4, 5, 7] rfl)
  have J_366 : ∀ (k_36 : St → Int32 → Int32 → Int32 → Int32 → Int32 → Option St) (hk_36 : ∀ (S : St) (x1 : Int32) (x2 : Int32) (x3 : Int32) (x4 : Int32) (x5 : Int32), k_36 S x1 x2 x3 x4 x5 = some S1 → ∀ (H : Heap) (locs : List Loc) (ls : Array Slot), Iv D (mw cI ad) S A s H locs → lv_has ls 12 [(0, .ref (ad 0)), (1, .int x1), (2, .int x2), (3, .int x3), (4, .int x4), (5, .int x5)] → W p l e ({ frames := 2, cells := 0, slots := 0, locals := 50 } : Room) s m args below meth c H locs 0 0 Q (F0 m 36 ls [])) (S : St) (x1 : Int32) (x2 : Int32) (x3 : Int32) (x4 : Int32) (x5 : Int32) (x6 : Int32) (x10 : Int32) (x11 : Int32) (t1 : Int32) (t2 : Int32), f_X11_go_366 k_36 S x1 x2 x3 x4 x5 x6 x10 x11 t1 t2 = some S1 → ∀ (H : Heap) (locs : List Loc) (ls : Array Slot), Iv D (mw cI ad) S A s H locs → lv_has ls 12 [(0, .ref (ad 0)), (1, .int x1), (2, .int x2), (3, .int x3), (4, .int x4), (5, .int x5), (6, .int x6), (10, .int x10), (11, .int x11)] → W p l e ({ frames := 2, cells := 0, slots := 0, locals := 50 } : Room) s m args below meth c H locs 0 0 Q (F0 m 366 ls [.int t2, .int t1, .ref (ad 0)]) := by
    intro k_36 hk_36 S x1 x2 x3 x4 x5 x6 x10 x11 t1 t2 h H locs ls I hl
    unfold f_X11_go_366 at h
    refine lv_iadd hx hb dX11_go_366 ?_
    refine pm_0_25 C hK I fl_X11_209 dX11_go_367 (fun S9 eS9 H locs I => ?_)
    have h := bnd_at eS9 h
    clear eS9
    refine lv_aload_n hx hb dX11_go_370 rfl (lv_at hl 0 rfl) ?_
    refine lv_iload hx hb dX11_go_371 (lv_at hl 8 rfl) ?_
    refine lv_if_eq (tgt := 381) hx hb dX11_go_373 (by decide) (fun c10 => ?_) (fun c10 => ?_)
    · have h := ite_t c10 h
      refine lv_aload_n hx hb dX11_go_381 rfl (lv_at hl 0 rfl) ?_
      refine gm_0_29 C hK I fl_X11_206 dX11_go_382 ?_
      exact J_385 k_36 hk_36 _ _ _ _ _ _ _ _ _ h _ _ _ I (lv_sub hl [0, 1, 2, 3, 4, 5, 6, 8] rfl)
    · have h := ite_n c10 h
      refine lv_iload hx hb dX11_go_376 (lv_at hl 7 rfl) ?_
      refine lv_goto (tgt := 385) hx hb dX11_go_378 (by decide) ?_
      exact J_385 k_36 hk_36 _ _ _ _ _ _ _ _ _ h _ _ _ I (lv_sub hl [0, 1, 2, 3, 4, 5, 6, 8] rfl)
  have J_324 : ∀ (k_36 : St → Int32 → Int32 → Int32 → Int32 → Int32 → Option St) (hk_36 : ∀ (S : St) (x1 : Int32) (x2 : Int32) (x3 : Int32) (x4 : Int32) (x5 : Int32), k_36 S x1 x2 x3 x4 x5 = some S1 → ∀ (H : Heap) (locs : List Loc) (ls : Array Slot), Iv D (mw cI ad) S A s H locs → lv_has ls 12 [(0, .ref (ad 0)), (1, .int x1), (2, .int x2), (3, .int x3), (4, .int x4), (5, .int x5)] → W p l e ({ frames := 2, cells := 0, slots := 0, locals := 50 } : Room) s m args below meth c H locs 0 0 Q (F0 m 36 ls [])) (S : St) (x1 : Int32) (x2 : Int32) (x3 : Int32) (x4 : Int32) (x5 : Int32) (x6 : Int32) (x10 : Int32) (x11 : Int32) (t1 : Int32) (t2 : Int32), f_X11_go_324 k_36 S x1 x2 x3 x4 x5 x6 x10 x11 t1 t2 = some S1 → ∀ (H : Heap) (locs : List Loc) (ls : Array Slot), Iv D (mw cI ad) S A s H locs → lv_has ls 12 [(0, .ref (ad 0)), (1, .int x1), (2, .int x2), (3, .int x3), (4, .int x4), (5, .int x5), (6, .int x6), (10, .int x10), (11, .int x11)] → W p l e ({ frames := 2, cells := 0, slots := 0, locals := 50 } : Room) s m args below meth c H locs 0 0 Q (F0 m 324 ls [.int t2, .int t1, .ref (ad 0)]) := by
    intro k_36 hk_36 S x1 x2 x3 x4 x5 x6 x10 x11 t1 t2 h H locs ls I hl
    unfold f_X11_go_324 at h
    refine lv_iadd hx hb dX11_go_324 ?_
    refine pm_0_27 C hK I fl_X11_203 dX11_go_325 (fun S11 eS11 H locs I => ?_)
    have h := bnd_at eS11 h
    clear eS11
    refine lv_aload_n hx hb dX11_go_328 rfl (lv_at hl 0 rfl) ?_
    refine lv_dup hx hb dX11_go_329 rfl ?_
    refine gm_0_25 C hK I fl_X11_209 dX11_go_330 ?_
    refine lv_iload hx hb dX11_go_333 (lv_at hl 8 rfl) ?_
    refine lv_if_eq (tgt := 353) hx hb dX11_go_335 (by decide) (fun c12 => ?_) (fun c12 => ?_)
    · have h := ite_t c12 h
      refine lv_aload_n hx hb dX11_go_353 rfl (lv_at hl 0 rfl) ?_
      refine gm_0_12 C hK I fl_X11_35 dX11_go_354 ?_
      refine lv_bipush (v := 6) hx hb dX11_go_357 (by decide) ?_
      refine lv_iload hx hb dX11_go_359 (lv_at hl 6 rfl) ?_
      refine lv_imul hx hb dX11_go_361 ?_
      refine lv_iconst (v := 4) hx hb dX11_go_362 (by decide) ?_
      refine lv_iadd hx hb dX11_go_363 ?_
      obtain ⟨hv13, h⟩ := chk_ex h
      refine am_6 C hK I hv13 dX11_go_364 ?_
      refine lv_ineg hx hb dX11_go_365 ?_
      exact J_366 k_36 hk_36 _ _ _ _ _ _ _ _ _ _ _ h _ _ _ I (lv_sub hl [0, 1, 2, 3, 4, 5, 6, 7, 8] rfl)
    · have h := ite_n c12 h
      refine lv_aload_n hx hb dX11_go_338 rfl (lv_at hl 0 rfl) ?_
      refine gm_0_12 C hK I fl_X11_35 dX11_go_339 ?_
      refine lv_bipush (v := 6) hx hb dX11_go_342 (by decide) ?_
      refine lv_iload hx hb dX11_go_344 (lv_at hl 6 rfl) ?_
      refine lv_imul hx hb dX11_go_346 ?_
      refine lv_iconst (v := 3) hx hb dX11_go_347 (by decide) ?_
      refine lv_iadd hx hb dX11_go_348 ?_
      obtain ⟨hv14, h⟩ := chk_ex h
      refine am_6 C hK I hv14 dX11_go_349 ?_
      refine lv_goto (tgt := 366) hx hb dX11_go_350 (by decide) ?_
      exact J_366 k_36 hk_36 _ _ _ _ _ _ _ _ _ _ _ h _ _ _ I (lv_sub hl [0, 1, 2, 3, 4, 5, 6, 7, 8] rfl)
  have J_271 : ∀ (k_36 : St → Int32 → Int32 → Int32 → Int32 → Int32 → Option St) (hk_36 : ∀ (S : St) (x1 : Int32) (x2 : Int32) (x3 : Int32) (x4 : Int32) (x5 : Int32), k_36 S x1 x2 x3 x4 x5 = some S1 → ∀ (H : Heap) (locs : List Loc) (ls : Array Slot), Iv D (mw cI ad) S A s H locs → lv_has ls 12 [(0, .ref (ad 0)), (1, .int x1), (2, .int x2), (3, .int x3), (4, .int x4), (5, .int x5)] → W p l e ({ frames := 2, cells := 0, slots := 0, locals := 50 } : Room) s m args below meth c H locs 0 0 Q (F0 m 36 ls [])) (S : St) (x1 : Int32) (x2 : Int32) (x3 : Int32) (x4 : Int32) (x5 : Int32) (x6 : Int32) (x8 : Int32) (x9 : Int32) (x10 : Int32) (t0 : Int32), f_X11_go_271 k_36 S x1 x2 x3 x4 x5 x6 x8 x9 x10 t0 = some S1 → ∀ (H : Heap) (locs : List Loc) (ls : Array Slot), Iv D (mw cI ad) S A s H locs → lv_has ls 12 [(0, .ref (ad 0)), (1, .int x1), (2, .int x2), (3, .int x3), (4, .int x4), (5, .int x5), (6, .int x6), (8, .int x8), (9, .int x9), (10, .int x10)] → W p l e ({ frames := 2, cells := 0, slots := 0, locals := 50 } : Room) s m args below meth c H locs 0 0 Q (F0 m 271 ls [.int t0]) := by
    intro k_36 hk_36 S x1 x2 x3 x4 x5 x6 x8 x9 x10 t0 h H locs ls I hl
    unfold f_X11_go_271 at h
    refine lv_istore (lv' := [(11, .int t0), (0, .ref (ad 0)), (1, .int x1), (2, .int x2), (3, .int x3), (4, .int x4), (5, .int x5), (6, .int x6), (8, .int x8), (9, .int x9), (10, .int x10)]) hx hb dX11_go_271 hl (by decide) rfl (fun ls hl => ?_)
    refine lv_aload_n hx hb dX11_go_273 rfl (lv_at hl 1 rfl) ?_
    refine lv_dup hx hb dX11_go_274 rfl ?_
    refine gm_0_27 C hK I fl_X11_203 dX11_go_275 ?_
    refine lv_iload hx hb dX11_go_278 (lv_at hl 8 rfl) ?_
    refine lv_if_eq (tgt := 287) hx hb dX11_go_280 (by decide) (fun c15 => ?_) (fun c15 => ?_)
    · have h := ite_t c15 h
      refine lv_iload hx hb dX11_go_287 (lv_at hl 0 rfl) ?_
      refine lv_if_eq (tgt := 312) hx hb dX11_go_289 (by decide) (fun c16 => ?_) (fun c16 => ?_)
      · have h := ite_t c16 h
        refine lv_aload_n hx hb dX11_go_312 rfl (lv_at hl 1 rfl) ?_
        refine gm_0_12 C hK I fl_X11_35 dX11_go_313 ?_
        refine lv_bipush (v := 6) hx hb dX11_go_316 (by decide) ?_
        refine lv_iload hx hb dX11_go_318 (lv_at hl 7 rfl) ?_
        refine lv_imul hx hb dX11_go_320 ?_
        refine lv_iconst (v := 5) hx hb dX11_go_321 (by decide) ?_
        refine lv_iadd hx hb dX11_go_322 ?_
        obtain ⟨hv17, h⟩ := chk_ex h
        refine am_6 C hK I hv17 dX11_go_323 ?_
        exact J_324 k_36 hk_36 _ _ _ _ _ _ _ _ _ _ _ h _ _ _ I (lv_sub hl [1, 2, 3, 4, 5, 6, 7, 10, 0] rfl)
      · have h := ite_n c16 h
        refine lv_aload_n hx hb dX11_go_292 rfl (lv_at hl 1 rfl) ?_
        refine gm_0_14 C hK I fl_X11_41 dX11_go_293 ?_
        refine lv_bipush (v := 16) hx hb dX11_go_296 (by decide) ?_
        refine lv_iload hx hb dX11_go_298 (lv_at hl 7 rfl) ?_
        refine lv_imul hx hb dX11_go_300 ?_
        refine lv_iconst (v := 4) hx hb dX11_go_301 (by decide) ?_
        refine lv_iload hx hb dX11_go_302 (lv_at hl 9 rfl) ?_
        refine lv_imul hx hb dX11_go_304 ?_
        refine lv_iadd hx hb dX11_go_305 ?_
        refine lv_iconst (v := 1) hx hb dX11_go_306 (by decide) ?_
        refine lv_iadd hx hb dX11_go_307 ?_
        obtain ⟨hv18, h⟩ := chk_ex h
        refine am_8 C hK I hv18 dX11_go_308 ?_
        refine lv_goto (tgt := 324) hx hb dX11_go_309 (by decide) ?_
        exact J_324 k_36 hk_36 _ _ _ _ _ _ _ _ _ _ _ h _ _ _ I (lv_sub hl [1, 2, 3, 4, 5, 6, 7, 10, 0] rfl)
    · have h := ite_n c15 h
      refine lv_iconst (v := 0) hx hb dX11_go_283 (by decide) ?_
      refine lv_goto (tgt := 324) hx hb dX11_go_284 (by decide) ?_
      exact J_324 k_36 hk_36 _ _ _ _ _ _ _ _ _ _ _ h _ _ _ I (lv_sub hl [1, 2, 3, 4, 5, 6, 7, 10, 0] rfl)
  have J_258 : ∀ (k_36 : St → Int32 → Int32 → Int32 → Int32 → Int32 → Option St) (hk_36 : ∀ (S : St) (x1 : Int32) (x2 : Int32) (x3 : Int32) (x4 : Int32) (x5 : Int32), k_36 S x1 x2 x3 x4 x5 = some S1 → ∀ (H : Heap) (locs : List Loc) (ls : Array Slot), Iv D (mw cI ad) S A s H locs → lv_has ls 12 [(0, .ref (ad 0)), (1, .int x1), (2, .int x2), (3, .int x3), (4, .int x4), (5, .int x5)] → W p l e ({ frames := 2, cells := 0, slots := 0, locals := 50 } : Room) s m args below meth c H locs 0 0 Q (F0 m 36 ls [])) (S : St) (x1 : Int32) (x2 : Int32) (x3 : Int32) (x4 : Int32) (x5 : Int32) (x6 : Int32) (x8 : Int32) (x9 : Int32) (t0 : Int32), f_X11_go_258 k_36 S x1 x2 x3 x4 x5 x6 x8 x9 t0 = some S1 → ∀ (H : Heap) (locs : List Loc) (ls : Array Slot), Iv D (mw cI ad) S A s H locs → lv_has ls 12 [(0, .ref (ad 0)), (1, .int x1), (2, .int x2), (3, .int x3), (4, .int x4), (5, .int x5), (6, .int x6), (8, .int x8), (9, .int x9)] → W p l e ({ frames := 2, cells := 0, slots := 0, locals := 50 } : Room) s m args below meth c H locs 0 0 Q (F0 m 258 ls [.int t0]) := by
    intro k_36 hk_36 S x1 x2 x3 x4 x5 x6 x8 x9 t0 h H locs ls I hl
    unfold f_X11_go_258 at h
    refine lv_istore (lv' := [(10, .int t0), (0, .ref (ad 0)), (1, .int x1), (2, .int x2), (3, .int x3), (4, .int x4), (5, .int x5), (6, .int x6), (8, .int x8), (9, .int x9)]) hx hb dX11_go_258 hl (by decide) rfl (fun ls hl => ?_)
    refine lv_iload hx hb dX11_go_260 (lv_at hl 0 rfl) ?_
    refine lv_iconst (v := (-1)) hx hb dX11_go_262 (by decide) ?_
    refine lv_icmp_eq (tgt := 270) hx hb dX11_go_263 (by decide) (fun c19 => ?_) (fun c19 => ?_)
    · have h := ite_t c19 h
      refine lv_iconst (v := 0) hx hb dX11_go_270 (by decide) ?_
      exact J_271 k_36 hk_36 _ _ _ _ _ _ _ _ _ _ _ h _ _ _ I (lv_sub hl [1, 2, 3, 4, 5, 6, 7, 8, 9, 0] rfl)
    · have h := ite_n c19 h
      refine lv_iconst (v := 1) hx hb dX11_go_266 (by decide) ?_
      refine lv_goto (tgt := 271) hx hb dX11_go_267 (by decide) ?_
      exact J_271 k_36 hk_36 _ _ _ _ _ _ _ _ _ _ _ h _ _ _ I (lv_sub hl [1, 2, 3, 4, 5, 6, 7, 8, 9, 0] rfl)
  have J_237 : ∀ (k_36 : St → Int32 → Int32 → Int32 → Int32 → Int32 → Option St) (hk_36 : ∀ (S : St) (x1 : Int32) (x2 : Int32) (x3 : Int32) (x4 : Int32) (x5 : Int32), k_36 S x1 x2 x3 x4 x5 = some S1 → ∀ (H : Heap) (locs : List Loc) (ls : Array Slot), Iv D (mw cI ad) S A s H locs → lv_has ls 12 [(0, .ref (ad 0)), (1, .int x1), (2, .int x2), (3, .int x3), (4, .int x4), (5, .int x5)] → W p l e ({ frames := 2, cells := 0, slots := 0, locals := 50 } : Room) s m args below meth c H locs 0 0 Q (F0 m 36 ls [])) (S : St) (x1 : Int32) (x2 : Int32) (x3 : Int32) (x4 : Int32) (x5 : Int32) (x6 : Int32) (x8 : Int32) (x9 : Int32), f_X11_go_237 k_36 S x1 x2 x3 x4 x5 x6 x8 x9 = some S1 → ∀ (H : Heap) (locs : List Loc) (ls : Array Slot), Iv D (mw cI ad) S A s H locs → lv_has ls 12 [(0, .ref (ad 0)), (1, .int x1), (2, .int x2), (3, .int x3), (4, .int x4), (5, .int x5), (6, .int x6), (8, .int x8), (9, .int x9)] → W p l e ({ frames := 2, cells := 0, slots := 0, locals := 50 } : Room) s m args below meth c H locs 0 0 Q (F0 m 237 ls []) := by
    intro k_36 hk_36 S x1 x2 x3 x4 x5 x6 x8 x9 h H locs ls I hl
    unfold f_X11_go_237 at h
    refine lv_iload hx hb dX11_go_237 (lv_at hl 7 rfl) ?_
    refine lv_if_eq (tgt := 246) hx hb dX11_go_239 (by decide) (fun c20 => ?_) (fun c20 => ?_)
    · have h := ite_t c20 h
      refine lv_aload_n hx hb dX11_go_246 rfl (lv_at hl 0 rfl) ?_
      refine lv_aload_n hx hb dX11_go_247 rfl (lv_at hl 0 rfl) ?_
      refine gm_0_29 C hK I fl_X11_206 dX11_go_248 ?_
      refine lv_iload hx hb dX11_go_251 (lv_at hl 6 rfl) ?_
      refine lv_iload hx hb dX11_go_253 (lv_at hl 8 rfl) ?_
      obtain ⟨r21, S21, e21, h⟩ := obd2_ex h
      refine k_V (As := [.int (S.1 0 29), .int x6, .int x9]) (rest := []) (st1 := [.int r21]) C kx hK I hA (c_X11_leftOf e21) ⟨Nat.le_of_ble_eq_true rfl, Nat.le_of_ble_eq_true rfl⟩ mv_X11_leftOf lk_X11_168 0 11 (mw_0 (cI := cI) (ad := ad)) rfl rfl hl.1 rfl (Nat.le_of_ble_eq_true rfl) dX11_go_255 rfl (fun H locs I => ?_)
      exact J_258 k_36 hk_36 _ _ _ _ _ _ _ _ _ _ h _ _ _ I (lv_sub hl [0, 1, 2, 3, 4, 5, 6, 7, 8] rfl)
    · have h := ite_n c20 h
      refine lv_iconst (v := (-1)) hx hb dX11_go_242 (by decide) ?_
      refine lv_goto (tgt := 258) hx hb dX11_go_243 (by decide) ?_
      exact J_258 k_36 hk_36 _ _ _ _ _ _ _ _ _ _ h _ _ _ I (lv_sub hl [0, 1, 2, 3, 4, 5, 6, 7, 8] rfl)
  have J_182 : ∀ (k_36 : St → Int32 → Int32 → Int32 → Int32 → Int32 → Option St) (hk_36 : ∀ (S : St) (x1 : Int32) (x2 : Int32) (x3 : Int32) (x4 : Int32) (x5 : Int32), k_36 S x1 x2 x3 x4 x5 = some S1 → ∀ (H : Heap) (locs : List Loc) (ls : Array Slot), Iv D (mw cI ad) S A s H locs → lv_has ls 12 [(0, .ref (ad 0)), (1, .int x1), (2, .int x2), (3, .int x3), (4, .int x4), (5, .int x5)] → W p l e ({ frames := 2, cells := 0, slots := 0, locals := 50 } : Room) s m args below meth c H locs 0 0 Q (F0 m 36 ls [])) (S : St) (x1 : Int32) (x2 : Int32) (x3 : Int32) (x4 : Int32) (x5 : Int32) (x6 : Int32) (t0 : Int32), f_X11_go_182 k_36 S x1 x2 x3 x4 x5 x6 t0 = some S1 → ∀ (H : Heap) (locs : List Loc) (ls : Array Slot), Iv D (mw cI ad) S A s H locs → lv_has ls 12 [(0, .ref (ad 0)), (1, .int x1), (2, .int x2), (3, .int x3), (4, .int x4), (5, .int x5), (6, .int x6)] → W p l e ({ frames := 2, cells := 0, slots := 0, locals := 50 } : Room) s m args below meth c H locs 0 0 Q (F0 m 182 ls [.int t0]) := by
    intro k_36 hk_36 S x1 x2 x3 x4 x5 x6 t0 h H locs ls I hl
    unfold f_X11_go_182 at h
    refine lv_istore (lv' := [(8, .int t0), (0, .ref (ad 0)), (1, .int x1), (2, .int x2), (3, .int x3), (4, .int x4), (5, .int x5), (6, .int x6)]) hx hb dX11_go_182 hl (by decide) rfl (fun ls hl => ?_)
    refine lv_aload_n hx hb dX11_go_184 rfl (lv_at hl 1 rfl) ?_
    refine gm_0_30 C hK I fl_X11_50 dX11_go_185 ?_
    refine lv_iload hx hb dX11_go_188 (lv_at hl 6 rfl) ?_
    obtain ⟨hv22, h⟩ := chk_ex h
    refine am_11 C hK I hv22 dX11_go_190 ?_
    refine lv_topi (fun v23 ev23 => ?_)
    have h := bnd_at ev23 h
    clear ev23
    refine lv_istore (lv' := [(9, .int v23), (8, .int t0), (0, .ref (ad 0)), (1, .int x1), (2, .int x2), (3, .int x3), (4, .int x4), (5, .int x5), (6, .int x6)]) hx hb dX11_go_191 hl (by decide) rfl (fun ls hl => ?_)
    refine lv_iload hx hb dX11_go_193 (lv_at hl 1 rfl) ?_
    refine lv_if_ne (tgt := 237) hx hb dX11_go_195 (by decide) (fun c24 => ?_) (fun c24 => ?_)
    · have h := ite_n c24 h
      exact J_237 k_36 hk_36 _ _ _ _ _ _ _ _ _ h _ _ _ I (lv_sub hl [2, 3, 4, 5, 6, 7, 8, 1, 0] rfl)
    · have h := ite_t c24 h
      refine lv_iload_n hx hb dX11_go_198 rfl (lv_at hl 4 rfl) ?_
      refine lv_if_lt (tgt := 237) hx hb dX11_go_199 (by decide) (fun c25 => ?_) (fun c25 => ?_)
      · have h := ite_t c25 h
        exact J_237 k_36 hk_36 _ _ _ _ _ _ _ _ _ h _ _ _ I (lv_sub hl [2, 3, 4, 5, 6, 7, 8, 1, 0] rfl)
      · have h := ite_n c25 h
        refine lv_iload hx hb dX11_go_202 (lv_at hl 6 rfl) ?_
        refine lv_sipush (v := 25173) hx hb dX11_go_204 (by decide) ?_
        refine lv_imul hx hb dX11_go_207 ?_
        refine lv_sipush (v := 13849) hx hb dX11_go_208 (by decide) ?_
        refine lv_iadd hx hb dX11_go_211 ?_
        refine lv_ldc (v := 65536) hx hb C.2.2.2.1 (C.2.2.2.2 _ cn_X11_219) dX11_go_212 ?_
        refine lv_irem hx hb dX11_go_214 (by decide) ?_
        refine lv_topi (fun v26 ev26 => ?_)
        have h := bnd_at ev26 h
        clear ev26
        refine lv_istore (lv' := [(4, .int v26), (9, .int v23), (8, .int t0), (0, .ref (ad 0)), (1, .int x1), (2, .int x2), (3, .int x3), (5, .int x5), (6, .int x6)]) hx hb dX11_go_215 hl (by decide) rfl (fun ls hl => ?_)
        refine lv_aload_n hx hb dX11_go_217 rfl (lv_at hl 3 rfl) ?_
        refine lv_iload hx hb dX11_go_218 (lv_at hl 8 rfl) ?_
        refine lv_iload hx hb dX11_go_220 (lv_at hl 0 rfl) ?_
        refine lv_bipush (v := 64) hx hb dX11_go_222 (by decide) ?_
        refine lv_idiv hx hb dX11_go_224 (by decide) ?_
        refine lv_aload_n hx hb dX11_go_225 rfl (lv_at hl 3 rfl) ?_
        refine lv_iload hx hb dX11_go_226 (lv_at hl 8 rfl) ?_
        obtain ⟨r27, S27, e27, h⟩ := obd2_ex h
        refine k_V (As := [.int x6]) (rest := [.int (v26 / 64), .int x6, .ref (ad 0)]) (st1 := [.int r27, .int (v26 / 64), .int x6, .ref (ad 0)]) C kx hK I hA (c_X11_totalOf e27) ⟨Nat.le_of_ble_eq_true rfl, Nat.le_of_ble_eq_true rfl⟩ mv_X11_totalOf lk_X11_182 0 11 (mw_0 (cI := cI) (ad := ad)) rfl rfl hl.1 rfl (Nat.le_of_ble_eq_true rfl) dX11_go_228 rfl (fun H locs I => ?_)
        obtain ⟨hv28, h⟩ := chk_ex h
        refine lv_irem hx hb dX11_go_231 hv28 ?_
        obtain ⟨r29, S29, e29, h⟩ := obd2_ex h
        refine k_V (As := [.int x6, .int ((v26 / 64) - (v26 / 64) / r27 * r27)]) (rest := []) (st1 := [.int r29]) C kx hK I hA (c_X11_sortBy e29) ⟨Nat.le_of_ble_eq_true rfl, Nat.le_of_ble_eq_true rfl⟩ mv_X11_sortBy lk_X11_220 0 11 (mw_0 (cI := cI) (ad := ad)) rfl rfl hl.1 rfl (Nat.le_of_ble_eq_true rfl) dX11_go_232 rfl (fun H locs I => ?_)
        refine lv_istore (lv' := [(9, .int r29), (4, .int v26), (8, .int t0), (0, .ref (ad 0)), (1, .int x1), (2, .int x2), (3, .int x3), (5, .int x5), (6, .int x6)]) hx hb dX11_go_235 hl (by decide) rfl (fun ls hl => ?_)
        exact J_237 k_36 hk_36 _ _ _ _ _ _ _ _ _ h _ _ _ I (lv_sub hl [3, 4, 5, 6, 1, 7, 8, 2, 0] rfl)
  have J_155 : ∀ (k_36 : St → Int32 → Int32 → Int32 → Int32 → Int32 → Option St) (hk_36 : ∀ (S : St) (x1 : Int32) (x2 : Int32) (x3 : Int32) (x4 : Int32) (x5 : Int32), k_36 S x1 x2 x3 x4 x5 = some S1 → ∀ (H : Heap) (locs : List Loc) (ls : Array Slot), Iv D (mw cI ad) S A s H locs → lv_has ls 12 [(0, .ref (ad 0)), (1, .int x1), (2, .int x2), (3, .int x3), (4, .int x4), (5, .int x5)] → W p l e ({ frames := 2, cells := 0, slots := 0, locals := 50 } : Room) s m args below meth c H locs 0 0 Q (F0 m 36 ls [])) (S : St) (x1 : Int32) (x2 : Int32) (x3 : Int32) (x4 : Int32) (x5 : Int32) (x6 : Int32) (t1 : Int32), f_X11_go_155 k_36 S x1 x2 x3 x4 x5 x6 t1 = some S1 → ∀ (H : Heap) (locs : List Loc) (ls : Array Slot), Iv D (mw cI ad) S A s H locs → lv_has ls 12 [(0, .ref (ad 0)), (1, .int x1), (2, .int x2), (3, .int x3), (4, .int x4), (5, .int x5), (6, .int x6)] → W p l e ({ frames := 2, cells := 0, slots := 0, locals := 50 } : Room) s m args below meth c H locs 0 0 Q (F0 m 155 ls [.int t1, .ref (ad 0)]) := by
    intro k_36 hk_36 S x1 x2 x3 x4 x5 x6 t1 h H locs ls I hl
    unfold f_X11_go_155 at h
    refine pm_0_27 C hK I fl_X11_203 dX11_go_155 (fun S30 eS30 H locs I => ?_)
    have h := bnd_at eS30 h
    clear eS30
    refine lv_aload_n hx hb dX11_go_158 rfl (lv_at hl 0 rfl) ?_
    refine gm_0_27 C hK I fl_X11_203 dX11_go_159 ?_
    refine lv_aload_n hx hb dX11_go_162 rfl (lv_at hl 0 rfl) ?_
    refine gm_0_12 C hK I fl_X11_35 dX11_go_163 ?_
    refine lv_bipush (v := 6) hx hb dX11_go_166 (by decide) ?_
    refine lv_iload hx hb dX11_go_168 (lv_at hl 6 rfl) ?_
    refine lv_imul hx hb dX11_go_170 ?_
    refine lv_iconst (v := 2) hx hb dX11_go_171 (by decide) ?_
    refine lv_iadd hx hb dX11_go_172 ?_
    obtain ⟨hv31, h⟩ := chk_ex h
    refine am_6 C hK I hv31 dX11_go_173 ?_
    refine lv_icmp_le (tgt := 181) hx hb dX11_go_174 (by decide) (fun c32 => ?_) (fun c32 => ?_)
    · have h := ite_t c32 h
      refine lv_iconst (v := 0) hx hb dX11_go_181 (by decide) ?_
      exact J_182 k_36 hk_36 _ _ _ _ _ _ _ _ h _ _ _ I (lv_sub hl [0, 1, 2, 3, 4, 5, 6] rfl)
    · have h := ite_n c32 h
      refine lv_iconst (v := 1) hx hb dX11_go_177 (by decide) ?_
      refine lv_goto (tgt := 182) hx hb dX11_go_178 (by decide) ?_
      exact J_182 k_36 hk_36 _ _ _ _ _ _ _ _ h _ _ _ I (lv_sub hl [0, 1, 2, 3, 4, 5, 6] rfl)
  have J_75 : ∀ (k_36 : St → Int32 → Int32 → Int32 → Int32 → Int32 → Option St) (hk_36 : ∀ (S : St) (x1 : Int32) (x2 : Int32) (x3 : Int32) (x4 : Int32) (x5 : Int32), k_36 S x1 x2 x3 x4 x5 = some S1 → ∀ (H : Heap) (locs : List Loc) (ls : Array Slot), Iv D (mw cI ad) S A s H locs → lv_has ls 12 [(0, .ref (ad 0)), (1, .int x1), (2, .int x2), (3, .int x3), (4, .int x4), (5, .int x5)] → W p l e ({ frames := 2, cells := 0, slots := 0, locals := 50 } : Room) s m args below meth c H locs 0 0 Q (F0 m 36 ls [])) (S : St) (x1 : Int32) (x2 : Int32) (x3 : Int32) (x4 : Int32) (x5 : Int32) (x6 : Int32) (t0 : Int32), f_X11_go_75 k_36 S x1 x2 x3 x4 x5 x6 t0 = some S1 → ∀ (H : Heap) (locs : List Loc) (ls : Array Slot), Iv D (mw cI ad) S A s H locs → lv_has ls 12 [(0, .ref (ad 0)), (1, .int x1), (2, .int x2), (3, .int x3), (4, .int x4), (5, .int x5), (6, .int x6)] → W p l e ({ frames := 2, cells := 0, slots := 0, locals := 50 } : Room) s m args below meth c H locs 0 0 Q (F0 m 75 ls [.int t0]) := by
    intro k_36 hk_36 S x1 x2 x3 x4 x5 x6 t0 h H locs ls I hl
    unfold f_X11_go_75 at h
    refine lv_istore (lv' := [(7, .int t0), (0, .ref (ad 0)), (1, .int x1), (2, .int x2), (3, .int x3), (4, .int x4), (5, .int x5), (6, .int x6)]) hx hb dX11_go_75 hl (by decide) rfl (fun ls hl => ?_)
    refine lv_aload_n hx hb dX11_go_77 rfl (lv_at hl 1 rfl) ?_
    refine lv_dup hx hb dX11_go_78 rfl ?_
    refine gm_0_27 C hK I fl_X11_203 dX11_go_79 ?_
    refine lv_aload_n hx hb dX11_go_82 rfl (lv_at hl 1 rfl) ?_
    refine gm_0_10 C hK I fl_X11_32 dX11_go_83 ?_
    refine lv_bipush (v := 6) hx hb dX11_go_86 (by decide) ?_
    refine lv_iload_n hx hb dX11_go_88 rfl (lv_at hl 4 rfl) ?_
    refine lv_imul hx hb dX11_go_89 ?_
    refine lv_iload hx hb dX11_go_90 (lv_at hl 0 rfl) ?_
    refine lv_iadd hx hb dX11_go_92 ?_
    obtain ⟨hv33, h⟩ := chk_ex h
    refine am_5 C hK I hv33 dX11_go_93 ?_
    refine lv_iadd hx hb dX11_go_94 ?_
    refine pm_0_27 C hK I fl_X11_203 dX11_go_95 (fun S34 eS34 H locs I => ?_)
    have h := bnd_at eS34 h
    clear eS34
    refine lv_iload hx hb dX11_go_98 (lv_at hl 0 rfl) ?_
    refine lv_istore_n (lv' := [(3, .int t0), (7, .int t0), (0, .ref (ad 0)), (1, .int x1), (2, .int x2), (4, .int x4), (5, .int x5), (6, .int x6)]) hx hb dX11_go_100 rfl hl (by decide) rfl (fun ls hl => ?_)
    refine lv_iload hx hb dX11_go_101 (lv_at hl 7 rfl) ?_
    refine lv_bipush (v := 6) hx hb dX11_go_103 (by decide) ?_
    refine lv_icmp_ne (tgt := 116) hx hb dX11_go_105 (by decide) (fun c35 => ?_) (fun c35 => ?_)
    · have h := ite_n c35 h
      refine lv_aload_n hx hb dX11_go_116 rfl (lv_at hl 2 rfl) ?_
      refine lv_aload_n hx hb dX11_go_117 rfl (lv_at hl 2 rfl) ?_
      refine gm_0_27 C hK I fl_X11_203 dX11_go_118 ?_
      refine lv_aload_n hx hb dX11_go_121 rfl (lv_at hl 2 rfl) ?_
      refine gm_0_12 C hK I fl_X11_35 dX11_go_122 ?_
      refine lv_bipush (v := 6) hx hb dX11_go_125 (by decide) ?_
      refine lv_iload hx hb dX11_go_127 (lv_at hl 7 rfl) ?_
      refine lv_imul hx hb dX11_go_129 ?_
      refine lv_iconst (v := 1) hx hb dX11_go_130 (by decide) ?_
      refine lv_iadd hx hb dX11_go_131 ?_
      obtain ⟨hv36, h⟩ := chk_ex h
      refine am_6 C hK I hv36 dX11_go_132 ?_
      refine lv_icmp_ge (tgt := 151) hx hb dX11_go_133 (by decide) (fun c37 => ?_) (fun c37 => ?_)
      · have h := ite_t c37 h
        refine lv_aload_n hx hb dX11_go_151 rfl (lv_at hl 2 rfl) ?_
        refine gm_0_27 C hK I fl_X11_203 dX11_go_152 ?_
        exact J_155 k_36 hk_36 _ _ _ _ _ _ _ _ h _ _ _ I (lv_sub hl [2, 3, 4, 0, 5, 6, 7] rfl)
      · have h := ite_n c37 h
        refine lv_aload_n hx hb dX11_go_136 rfl (lv_at hl 2 rfl) ?_
        refine gm_0_12 C hK I fl_X11_35 dX11_go_137 ?_
        refine lv_bipush (v := 6) hx hb dX11_go_140 (by decide) ?_
        refine lv_iload hx hb dX11_go_142 (lv_at hl 7 rfl) ?_
        refine lv_imul hx hb dX11_go_144 ?_
        refine lv_iconst (v := 1) hx hb dX11_go_145 (by decide) ?_
        refine lv_iadd hx hb dX11_go_146 ?_
        obtain ⟨hv38, h⟩ := chk_ex h
        refine am_6 C hK I hv38 dX11_go_147 ?_
        refine lv_goto (tgt := 155) hx hb dX11_go_148 (by decide) ?_
        exact J_155 k_36 hk_36 _ _ _ _ _ _ _ _ h _ _ _ I (lv_sub hl [2, 3, 4, 0, 5, 6, 7] rfl)
    · have h := ite_t c35 h
      refine lv_aload_n hx hb dX11_go_108 rfl (lv_at hl 2 rfl) ?_
      refine lv_iload_n hx hb dX11_go_109 rfl (lv_at hl 3 rfl) ?_
      refine pm_0_29 C hK I fl_X11_206 dX11_go_110 (fun S39 eS39 H locs I => ?_)
      have h := bnd_at eS39 h
      clear eS39
      refine lv_goto (tgt := 431) hx hb dX11_go_113 (by decide) ?_
      exact J_431 k_36 hk_36 _ _ _ _ _ _ h _ _ _ I (lv_sub hl [2, 3, 4, 0, 5, 6] rfl)
  have B_36 : ∀ (k_36 : St → Int32 → Int32 → Int32 → Int32 → Int32 → Option St) (hk_36 : ∀ (S : St) (x1 : Int32) (x2 : Int32) (x3 : Int32) (x4 : Int32) (x5 : Int32), k_36 S x1 x2 x3 x4 x5 = some S1 → ∀ (H : Heap) (locs : List Loc) (ls : Array Slot), Iv D (mw cI ad) S A s H locs → lv_has ls 12 [(0, .ref (ad 0)), (1, .int x1), (2, .int x2), (3, .int x3), (4, .int x4), (5, .int x5)] → W p l e ({ frames := 2, cells := 0, slots := 0, locals := 50 } : Room) s m args below meth c H locs 0 0 Q (F0 m 36 ls [])) (S : St) (x1 : Int32) (x2 : Int32) (x3 : Int32) (x4 : Int32) (x5 : Int32), f_X11_go_36 k_36 S x1 x2 x3 x4 x5 = some S1 → ∀ (H : Heap) (locs : List Loc) (ls : Array Slot), Iv D (mw cI ad) S A s H locs → lv_has ls 12 [(0, .ref (ad 0)), (1, .int x1), (2, .int x2), (3, .int x3), (4, .int x4), (5, .int x5)] → W p l e ({ frames := 2, cells := 0, slots := 0, locals := 50 } : Room) s m args below meth c H locs 0 0 Q (F0 m 36 ls []) := by
    intro k_36 hk_36 S x1 x2 x3 x4 x5 h H locs ls I hl
    unfold f_X11_go_36 at h
    refine lv_iload hx hb dX11_go_36 (lv_at hl 5 rfl) ?_
    refine lv_aload_n hx hb dX11_go_38 rfl (lv_at hl 0 rfl) ?_
    refine gm_0_21 C hK I fl_X11_191 dX11_go_39 ?_
    refine lv_icmp_ge (tgt := 437) hx hb dX11_go_42 (by decide) (fun c40 => ?_) (fun c40 => ?_)
    · have h := ite_t c40 h
      exact rt_v hq h I dX11_go_437
    · have h := ite_n c40 h
      refine lv_aload_n hx hb dX11_go_45 rfl (lv_at hl 0 rfl) ?_
      refine gm_0_20 C hK I fl_X11_47 dX11_go_46 ?_
      refine lv_iload hx hb dX11_go_49 (lv_at hl 5 rfl) ?_
      obtain ⟨hv41, h⟩ := chk_ex h
      refine am_10 C hK I hv41 dX11_go_51 ?_
      refine lv_topi (fun v42 ev42 => ?_)
      have h := bnd_at ev42 h
      clear ev42
      refine lv_istore (lv' := [(6, .int v42), (0, .ref (ad 0)), (1, .int x1), (2, .int x2), (3, .int x3), (4, .int x4), (5, .int x5)]) hx hb dX11_go_52 hl (by decide) rfl (fun ls hl => ?_)
      refine lv_iload hx hb dX11_go_54 (lv_at hl 0 rfl) ?_
      refine lv_bipush (v := 6) hx hb dX11_go_56 (by decide) ?_
      refine lv_icmp_ne (tgt := 65) hx hb dX11_go_58 (by decide) (fun c43 => ?_) (fun c43 => ?_)
      · have h := ite_n c43 h
        refine lv_aload_n hx hb dX11_go_65 rfl (lv_at hl 1 rfl) ?_
        refine gm_0_12 C hK I fl_X11_35 dX11_go_66 ?_
        refine lv_bipush (v := 6) hx hb dX11_go_69 (by decide) ?_
        refine lv_iload hx hb dX11_go_71 (lv_at hl 0 rfl) ?_
        refine lv_imul hx hb dX11_go_73 ?_
        obtain ⟨hv44, h⟩ := chk_ex h
        refine am_6 C hK I hv44 dX11_go_74 ?_
        exact J_75 k_36 hk_36 _ _ _ _ _ _ _ _ h _ _ _ I (lv_sub hl [1, 2, 3, 4, 5, 6, 0] rfl)
      · have h := ite_t c43 h
        refine lv_iconst (v := 0) hx hb dX11_go_61 (by decide) ?_
        refine lv_goto (tgt := 75) hx hb dX11_go_62 (by decide) ?_
        exact J_75 k_36 hk_36 _ _ _ _ _ _ _ _ h _ _ _ I (lv_sub hl [1, 2, 3, 4, 5, 6, 0] rfl)
  have J_36 : ∀ (fu : Nat) (S : St) (x1 : Int32) (x2 : Int32) (x3 : Int32) (x4 : Int32) (x5 : Int32), l_X11_go_36  fu S x1 x2 x3 x4 x5 = some S1 → ∀ (H : Heap) (locs : List Loc) (ls : Array Slot), Iv D (mw cI ad) S A s H locs → lv_has ls 12 [(0, .ref (ad 0)), (1, .int x1), (2, .int x2), (3, .int x3), (4, .int x4), (5, .int x5)] → W p l e ({ frames := 2, cells := 0, slots := 0, locals := 50 } : Room) s m args below meth c H locs 0 0 Q (F0 m 36 ls []) := by
    intro fu
    induction fu with
    | zero => intro S x1 x2 x3 x4 x5 h; cases h
    | succ fu ih => intro S x1 x2 x3 x4 x5 h; exact B_36 (l_X11_go_36 fu) ih S x1 x2 x3 x4 x5 h
  unfold f_X11_go at h
  refine lv_iconst (v := 0) hx hb dX11_go_0 (by decide) ?_
  refine lv_istore_n (lv' := [(3, .int 0), (0, .ref (ad 0)), (1, .int x1), (2, .int x2)]) hx hb dX11_go_1 rfl hl (by decide) rfl (fun ls hl => ?_)
  refine lv_iload_n hx hb dX11_go_2 rfl (lv_at hl 3 rfl) ?_
  refine lv_istore (lv' := [(4, .int x2), (3, .int 0), (0, .ref (ad 0)), (1, .int x1), (2, .int x2)]) hx hb dX11_go_3 hl (by decide) rfl (fun ls hl => ?_)
  refine lv_aload_n hx hb dX11_go_5 rfl (lv_at hl 2 rfl) ?_
  refine lv_aload_n hx hb dX11_go_6 rfl (lv_at hl 2 rfl) ?_
  refine gm_0_9 C hK I fl_X11_29 dX11_go_7 ?_
  refine pm_0_27 C hK I fl_X11_203 dX11_go_10 (fun S45 eS45 H locs I => ?_)
  have h := bnd_at eS45 h
  clear eS45
  refine lv_aload_n hx hb dX11_go_13 rfl (lv_at hl 2 rfl) ?_
  refine lv_iload_n hx hb dX11_go_14 rfl (lv_at hl 3 rfl) ?_
  refine pm_0_29 C hK I fl_X11_206 dX11_go_15 (fun S46 eS46 H locs I => ?_)
  have h := bnd_at eS46 h
  clear eS46
  refine lv_aload_n hx hb dX11_go_18 rfl (lv_at hl 2 rfl) ?_
  refine lv_iconst (v := 0) hx hb dX11_go_19 (by decide) ?_
  refine pm_0_25 C hK I fl_X11_209 dX11_go_20 (fun S47 eS47 H locs I => ?_)
  have h := bnd_at eS47 h
  clear eS47
  refine lv_aload_n hx hb dX11_go_23 rfl (lv_at hl 2 rfl) ?_
  refine lv_iconst (v := 0) hx hb dX11_go_24 (by decide) ?_
  refine pm_0_28 C hK I fl_X11_212 dX11_go_25 (fun S48 eS48 H locs I => ?_)
  have h := bnd_at eS48 h
  clear eS48
  refine lv_aload_n hx hb dX11_go_28 rfl (lv_at hl 2 rfl) ?_
  refine lv_iconst (v := 1) hx hb dX11_go_29 (by decide) ?_
  refine pm_0_26 C hK I fl_X11_215 (Or.inr rfl) dX11_go_30 (fun S49 eS49 H locs I => ?_)
  have h := bnd_at eS49 h
  clear eS49
  refine lv_iconst (v := 0) hx hb dX11_go_33 (by decide) ?_
  refine lv_istore (lv' := [(5, .int 0), (4, .int x2), (3, .int 0), (0, .ref (ad 0)), (1, .int x1), (2, .int x2)]) hx hb dX11_go_34 hl (by decide) rfl (fun ls hl => ?_)
  exact J_36 _ _ _ _ _ _ _ h _ _ _ I (lv_sub hl [3, 4, 5, 2, 1, 0] rfl)
theorem lk_X11_227 : Cond.methodLink RX11 227 yX11_go ∈ TT := tt_of 1386 (by decide +kernel) rfl
theorem mv_X11_go : MV yX11_go cX11_go 12 none 2 := ⟨tt_of 1389 (by decide +kernel) rfl, tt_of 1388 (by decide +kernel) rfl, tt_of 45 (by decide +kernel) rfl, tt_of 76 (by decide +kernel) rfl, ⟨by decide +kernel, by decide +kernel, by decide +kernel⟩⟩
theorem lk_X11_224 : Cond.methodLink RX11 224 yX11_layChosen ∈ TT := tt_of 1382 (by decide +kernel) rfl
theorem mv_X11_layChosen : MV yX11_layChosen cX11_layChosen 5 none 1 := ⟨tt_of 1385 (by decide +kernel) rfl, tt_of 1384 (by decide +kernel) rfl, tt_of 44 (by decide +kernel) rfl, tt_of 76 (by decide +kernel) rfl, ⟨by decide +kernel, by decide +kernel, by decide +kernel⟩⟩
theorem dX11_meanOf_0 : decode cX11_meanOf 0 = .ok (.lconst 0, 1) := by decide +kernel
theorem dX11_meanOf_1 : decode cX11_meanOf 1 = .ok (.lstore 4, 2) := by decide +kernel
theorem dX11_meanOf_3 : decode cX11_meanOf 3 = .ok (.iconst 0, 1) := by decide +kernel
theorem dX11_meanOf_4 : decode cX11_meanOf 4 = .ok (.istore 6, 2) := by decide +kernel
theorem dX11_meanOf_6 : decode cX11_meanOf 6 = .ok (.iload 6, 2) := by decide +kernel
theorem dX11_meanOf_8 : decode cX11_meanOf 8 = .ok (.aload_n 0, 1) := by decide +kernel
theorem dX11_meanOf_9 : decode cX11_meanOf 9 = .ok (.getfield 194, 3) := by decide +kernel
theorem dX11_meanOf_12 : decode cX11_meanOf 12 = .ok (.if_icmp .ge 50, 3) := by decide +kernel
theorem dX11_meanOf_15 : decode cX11_meanOf 15 = .ok (.aload_n 0, 1) := by decide +kernel
theorem dX11_meanOf_16 : decode cX11_meanOf 16 = .ok (.iload 6, 2) := by decide +kernel
theorem dX11_meanOf_18 : decode cX11_meanOf 18 = .ok (.invokevirtual 224, 3) := by decide +kernel
theorem dX11_meanOf_21 : decode cX11_meanOf 21 = .ok (.iload_n 2, 1) := by decide +kernel
theorem dX11_meanOf_22 : decode cX11_meanOf 22 = .ok (.ifCond .lt 13, 3) := by decide +kernel
theorem dX11_meanOf_25 : decode cX11_meanOf 25 = .ok (.aload_n 0, 1) := by decide +kernel
theorem dX11_meanOf_26 : decode cX11_meanOf 26 = .ok (.getfield 50, 3) := by decide +kernel
theorem dX11_meanOf_29 : decode cX11_meanOf 29 = .ok (.iload_n 2, 1) := by decide +kernel
theorem dX11_meanOf_30 : decode cX11_meanOf 30 = .ok (.iaload, 1) := by decide +kernel
theorem dX11_meanOf_31 : decode cX11_meanOf 31 = .ok (.iload_n 3, 1) := by decide +kernel
theorem dX11_meanOf_32 : decode cX11_meanOf 32 = .ok (.if_icmp .ne 24, 3) := by decide +kernel
theorem dX11_meanOf_35 : decode cX11_meanOf 35 = .ok (.aload_n 0, 1) := by decide +kernel
theorem dX11_meanOf_36 : decode cX11_meanOf 36 = .ok (.iload_n 1, 1) := by decide +kernel
theorem dX11_meanOf_37 : decode cX11_meanOf 37 = .ok (.iconst (-1), 1) := by decide +kernel
theorem dX11_meanOf_38 : decode cX11_meanOf 38 = .ok (.invokevirtual 227, 3) := by decide +kernel
theorem dX11_meanOf_41 : decode cX11_meanOf 41 = .ok (.lload 4, 2) := by decide +kernel
theorem dX11_meanOf_43 : decode cX11_meanOf 43 = .ok (.aload_n 0, 1) := by decide +kernel
theorem dX11_meanOf_44 : decode cX11_meanOf 44 = .ok (.getfield 201, 3) := by decide +kernel
theorem dX11_meanOf_47 : decode cX11_meanOf 47 = .ok (.aload_n 0, 1) := by decide +kernel
theorem dX11_meanOf_48 : decode cX11_meanOf 48 = .ok (.getfield 209, 3) := by decide +kernel
theorem dX11_meanOf_51 : decode cX11_meanOf 51 = .ok (.i2l, 1) := by decide +kernel
theorem dX11_meanOf_52 : decode cX11_meanOf 52 = .ok (.lmul, 1) := by decide +kernel
theorem dX11_meanOf_53 : decode cX11_meanOf 53 = .ok (.ladd, 1) := by decide +kernel
theorem dX11_meanOf_54 : decode cX11_meanOf 54 = .ok (.lstore 4, 2) := by decide +kernel
theorem dX11_meanOf_56 : decode cX11_meanOf 56 = .ok (.iinc 6 1, 3) := by decide +kernel
theorem dX11_meanOf_59 : decode cX11_meanOf 59 = .ok (.goto (-53), 3) := by decide +kernel
theorem dX11_meanOf_62 : decode cX11_meanOf 62 = .ok (.lload 4, 2) := by decide +kernel
theorem dX11_meanOf_64 : decode cX11_meanOf 64 = .ok (.lreturn, 1) := by decide +kernel
def f_X11_meanOf_56 (k_6 : St → Int32 → Int32 → Int32 → Int64 → Int32 → Option (Int64 × St)) (S : St) (x1 : Int32) (x2 : Int32) (x3 : Int32) (x4 : Int64) (x6 : Int32) : Option (Int64 × St) :=
  bnd (x6 + 1 : Int32) fun v1 =>
  k_6 S x1 x2 x3 x4 v1
def f_X11_meanOf_35 (k_6 : St → Int32 → Int32 → Int32 → Int64 → Int32 → Option (Int64 × St)) (S : St) (x1 : Int32) (x2 : Int32) (x3 : Int32) (x4 : Int64) (x6 : Int32) : Option (Int64 × St) :=
  obd (f_X11_go S x1 (-1)) fun S2 =>
  bnd ((x4 + ((S2.2.1 0 24) * (((S2.1 0 25) : Int32).toInt64))) : Int64) fun v3 =>
  f_X11_meanOf_56 k_6 S2 x1 x2 x3 v3 x6
def f_X11_meanOf_6 (k_6 : St → Int32 → Int32 → Int32 → Int64 → Int32 → Option (Int64 × St)) (S : St) (x1 : Int32) (x2 : Int32) (x3 : Int32) (x4 : Int64) (x6 : Int32) : Option (Int64 × St) :=
  if (S.1 0 22) ≤ x6 then (
    some (x4, S)
  ) else (
    obd (f_X11_layChosen S x6) fun S5 =>
    if x2 < 0 then (
      f_X11_meanOf_35 k_6 S5 x1 x2 x3 x4 x6
    ) else (
      chk (ixo x2 6) <|
      if (S5.1 11 (x2).toNatClampNeg) = x3 then (
        f_X11_meanOf_35 k_6 S5 x1 x2 x3 x4 x6
      ) else (
        f_X11_meanOf_56 k_6 S5 x1 x2 x3 x4 x6
      )
    )
  )
def l_X11_meanOf_6 : Nat → St → Int32 → Int32 → Int32 → Int64 → Int32 → Option (Int64 × St)
  | 0, _, _, _, _, _, _ => none
  | fu + 1, S, x1, x2, x3, x4, x6 => f_X11_meanOf_6 (l_X11_meanOf_6 fu) S x1 x2 x3 x4 x6
def f_X11_meanOf (S : St) (x1 : Int32) (x2 : Int32) (x3 : Int32) : Option (Int64 × St) :=
  l_X11_meanOf_6 FU S x1 x2 x3 (0) 0
set_option maxHeartbeats 4000000 in
set_option maxRecDepth 100000 in
theorem c_X11_meanOf {l : Launch} {D : va_G} {cI cC cS : ClassId} {ad adK adV : Nat → Nat} {S S1 : St} {x1 : Int32} {x2 : Int32} {x3 : Int32} {r : Int64} (h : f_X11_meanOf S x1 x2 x3 = some (r, S1)) : Kt l D (mw cI ad) (KX D (xtys cI cC cS) adK adV) yX11_meanOf cX11_meanOf 7 (some .long) (3) (81) [.ref (ad 0), .int x1, .int x2, .int x3] S (some (.long r)) S1 := by
  refine k_ent (ins := .lreturn) (st := [.long r]) (by decide +kernel) (Nat.le_of_ble_eq_true rfl) ret_l ?_
  intro p e s m args below meth c A Q C hK I hA hq ls hl
  have C : CallFix p m c cX11_meanOf 7 s args TT RX11 := C
  have hx := C.1
  have hb := C.2.1
  have kx := kx_ok D (xtys cI cC cS) adK adV
  have hl : lv_has ls 7 [(0, .ref (ad 0)), (1, .int x1), (2, .int x2), (3, .int x3)] := hl
  have J_56 : ∀ (k_6 : St → Int32 → Int32 → Int32 → Int64 → Int32 → Option (Int64 × St)) (hk_6 : ∀ (S : St) (x1 : Int32) (x2 : Int32) (x3 : Int32) (x4 : Int64) (x6 : Int32), k_6 S x1 x2 x3 x4 x6 = some (r, S1) → ∀ (H : Heap) (locs : List Loc) (ls : Array Slot), Iv D (mw cI ad) S A s H locs → lv_has ls 7 [(0, .ref (ad 0)), (1, .int x1), (2, .int x2), (3, .int x3), (4, .long x4), (6, .int x6)] → W p l e ({ frames := 3, cells := 0, slots := 0, locals := 81 } : Room) s m args below meth c H locs 0 0 Q (F0 m 6 ls [])) (S : St) (x1 : Int32) (x2 : Int32) (x3 : Int32) (x4 : Int64) (x6 : Int32), f_X11_meanOf_56 k_6 S x1 x2 x3 x4 x6 = some (r, S1) → ∀ (H : Heap) (locs : List Loc) (ls : Array Slot), Iv D (mw cI ad) S A s H locs → lv_has ls 7 [(0, .ref (ad 0)), (1, .int x1), (2, .int x2), (3, .int x3), (4, .long x4), (6, .int x6)] → W p l e ({ frames := 3, cells := 0, slots := 0, locals := 81 } : Room) s m args below meth c H locs 0 0 Q (F0 m 56 ls []) := by
    intro k_6 hk_6 S x1 x2 x3 x4 x6 h H locs ls I hl
    unfold f_X11_meanOf_56 at h
    obtain ⟨v1, ev1⟩ : ∃ y : Int32, y = x6 + 1 := ⟨_, rfl⟩
    have h := bnd_at ev1 h
    refine lv_iinc (v := v1) (lv' := [(6, .int v1), (0, .ref (ad 0)), (1, .int x1), (2, .int x2), (3, .int x3), (4, .long x4)]) hx hb dX11_meanOf_56 hl (k := 5) rfl (by rw [ev1]; rfl) (by decide) rfl (fun ls hl => ?_)
    clear ev1
    refine lv_goto (tgt := 6) hx hb dX11_meanOf_59 (by decide) ?_
    exact hk_6 _ _ _ _ _ _ h _ _ _ I (lv_sub hl [1, 2, 3, 4, 5, 0] rfl)
  have J_35 : ∀ (k_6 : St → Int32 → Int32 → Int32 → Int64 → Int32 → Option (Int64 × St)) (hk_6 : ∀ (S : St) (x1 : Int32) (x2 : Int32) (x3 : Int32) (x4 : Int64) (x6 : Int32), k_6 S x1 x2 x3 x4 x6 = some (r, S1) → ∀ (H : Heap) (locs : List Loc) (ls : Array Slot), Iv D (mw cI ad) S A s H locs → lv_has ls 7 [(0, .ref (ad 0)), (1, .int x1), (2, .int x2), (3, .int x3), (4, .long x4), (6, .int x6)] → W p l e ({ frames := 3, cells := 0, slots := 0, locals := 81 } : Room) s m args below meth c H locs 0 0 Q (F0 m 6 ls [])) (S : St) (x1 : Int32) (x2 : Int32) (x3 : Int32) (x4 : Int64) (x6 : Int32), f_X11_meanOf_35 k_6 S x1 x2 x3 x4 x6 = some (r, S1) → ∀ (H : Heap) (locs : List Loc) (ls : Array Slot), Iv D (mw cI ad) S A s H locs → lv_has ls 7 [(0, .ref (ad 0)), (1, .int x1), (2, .int x2), (3, .int x3), (4, .long x4), (6, .int x6)] → W p l e ({ frames := 3, cells := 0, slots := 0, locals := 81 } : Room) s m args below meth c H locs 0 0 Q (F0 m 35 ls []) := by
    intro k_6 hk_6 S x1 x2 x3 x4 x6 h H locs ls I hl
    unfold f_X11_meanOf_35 at h
    refine lv_aload_n hx hb dX11_meanOf_35 rfl (lv_at hl 0 rfl) ?_
    refine lv_iload_n hx hb dX11_meanOf_36 rfl (lv_at hl 1 rfl) ?_
    refine lv_iconst (v := (-1)) hx hb dX11_meanOf_37 (by decide) ?_
    obtain ⟨S2, e2, h⟩ := obd_ex h
    refine k_V (As := [.int x1, .int (-1)]) (rest := []) (st1 := []) C kx hK I hA (c_X11_go e2) ⟨Nat.le_of_ble_eq_true rfl, Nat.le_of_ble_eq_true rfl⟩ mv_X11_go lk_X11_227 0 11 (mw_0 (cI := cI) (ad := ad)) rfl rfl hl.1 rfl (Nat.le_of_ble_eq_true rfl) dX11_meanOf_38 rfl (fun H locs I => ?_)
    refine lv_lload hx hb dX11_meanOf_41 (lv_at hl 4 rfl) ?_
    refine lv_aload_n hx hb dX11_meanOf_43 rfl (lv_at hl 0 rfl) ?_
    refine gm_0_24 C hK I fl_X11_201 dX11_meanOf_44 ?_
    refine lv_aload_n hx hb dX11_meanOf_47 rfl (lv_at hl 0 rfl) ?_
    refine gm_0_25 C hK I fl_X11_209 dX11_meanOf_48 ?_
    refine lv_i2l hx hb dX11_meanOf_51 rfl ?_
    refine lv_lmul hx hb dX11_meanOf_52 ?_
    refine lv_ladd hx hb dX11_meanOf_53 ?_
    refine lv_topl (fun v3 ev3 => ?_)
    have h := bnd_at ev3 h
    clear ev3
    refine lv_lstore (lv' := [(4, .long v3), (0, .ref (ad 0)), (1, .int x1), (2, .int x2), (3, .int x3), (6, .int x6)]) hx hb dX11_meanOf_54 hl (by decide) rfl (fun ls hl => ?_)
    exact J_56 k_6 hk_6 _ _ _ _ _ _ h _ _ _ I (lv_sub hl [1, 2, 3, 4, 0, 5] rfl)
  have B_6 : ∀ (k_6 : St → Int32 → Int32 → Int32 → Int64 → Int32 → Option (Int64 × St)) (hk_6 : ∀ (S : St) (x1 : Int32) (x2 : Int32) (x3 : Int32) (x4 : Int64) (x6 : Int32), k_6 S x1 x2 x3 x4 x6 = some (r, S1) → ∀ (H : Heap) (locs : List Loc) (ls : Array Slot), Iv D (mw cI ad) S A s H locs → lv_has ls 7 [(0, .ref (ad 0)), (1, .int x1), (2, .int x2), (3, .int x3), (4, .long x4), (6, .int x6)] → W p l e ({ frames := 3, cells := 0, slots := 0, locals := 81 } : Room) s m args below meth c H locs 0 0 Q (F0 m 6 ls [])) (S : St) (x1 : Int32) (x2 : Int32) (x3 : Int32) (x4 : Int64) (x6 : Int32), f_X11_meanOf_6 k_6 S x1 x2 x3 x4 x6 = some (r, S1) → ∀ (H : Heap) (locs : List Loc) (ls : Array Slot), Iv D (mw cI ad) S A s H locs → lv_has ls 7 [(0, .ref (ad 0)), (1, .int x1), (2, .int x2), (3, .int x3), (4, .long x4), (6, .int x6)] → W p l e ({ frames := 3, cells := 0, slots := 0, locals := 81 } : Room) s m args below meth c H locs 0 0 Q (F0 m 6 ls []) := by
    intro k_6 hk_6 S x1 x2 x3 x4 x6 h H locs ls I hl
    unfold f_X11_meanOf_6 at h
    refine lv_iload hx hb dX11_meanOf_6 (lv_at hl 5 rfl) ?_
    refine lv_aload_n hx hb dX11_meanOf_8 rfl (lv_at hl 0 rfl) ?_
    refine gm_0_22 C hK I fl_X11_194 dX11_meanOf_9 ?_
    refine lv_icmp_ge (tgt := 62) hx hb dX11_meanOf_12 (by decide) (fun c4 => ?_) (fun c4 => ?_)
    · have h := ite_t c4 h
      refine lv_lload hx hb dX11_meanOf_62 (lv_at hl 4 rfl) ?_
      exact rt_l hq h I dX11_meanOf_64
    · have h := ite_n c4 h
      refine lv_aload_n hx hb dX11_meanOf_15 rfl (lv_at hl 0 rfl) ?_
      refine lv_iload hx hb dX11_meanOf_16 (lv_at hl 5 rfl) ?_
      obtain ⟨S5, e5, h⟩ := obd_ex h
      refine k_V (As := [.int x6]) (rest := []) (st1 := []) C kx hK I hA (c_X11_layChosen e5) ⟨Nat.le_of_ble_eq_true rfl, Nat.le_of_ble_eq_true rfl⟩ mv_X11_layChosen lk_X11_224 0 11 (mw_0 (cI := cI) (ad := ad)) rfl rfl hl.1 rfl (Nat.le_of_ble_eq_true rfl) dX11_meanOf_18 rfl (fun H locs I => ?_)
      refine lv_iload_n hx hb dX11_meanOf_21 rfl (lv_at hl 2 rfl) ?_
      refine lv_if_lt (tgt := 35) hx hb dX11_meanOf_22 (by decide) (fun c6 => ?_) (fun c6 => ?_)
      · have h := ite_t c6 h
        exact J_35 k_6 hk_6 _ _ _ _ _ _ h _ _ _ I (lv_sub hl [0, 1, 2, 3, 4, 5] rfl)
      · have h := ite_n c6 h
        refine lv_aload_n hx hb dX11_meanOf_25 rfl (lv_at hl 0 rfl) ?_
        refine gm_0_30 C hK I fl_X11_50 dX11_meanOf_26 ?_
        refine lv_iload_n hx hb dX11_meanOf_29 rfl (lv_at hl 2 rfl) ?_
        obtain ⟨hv7, h⟩ := chk_ex h
        refine am_11 C hK I hv7 dX11_meanOf_30 ?_
        refine lv_iload_n hx hb dX11_meanOf_31 rfl (lv_at hl 3 rfl) ?_
        refine lv_icmp_ne (tgt := 56) hx hb dX11_meanOf_32 (by decide) (fun c8 => ?_) (fun c8 => ?_)
        · have h := ite_n c8 h
          exact J_56 k_6 hk_6 _ _ _ _ _ _ h _ _ _ I (lv_sub hl [0, 1, 2, 3, 4, 5] rfl)
        · have h := ite_t c8 h
          exact J_35 k_6 hk_6 _ _ _ _ _ _ h _ _ _ I (lv_sub hl [0, 1, 2, 3, 4, 5] rfl)
  have J_6 : ∀ (fu : Nat) (S : St) (x1 : Int32) (x2 : Int32) (x3 : Int32) (x4 : Int64) (x6 : Int32), l_X11_meanOf_6  fu S x1 x2 x3 x4 x6 = some (r, S1) → ∀ (H : Heap) (locs : List Loc) (ls : Array Slot), Iv D (mw cI ad) S A s H locs → lv_has ls 7 [(0, .ref (ad 0)), (1, .int x1), (2, .int x2), (3, .int x3), (4, .long x4), (6, .int x6)] → W p l e ({ frames := 3, cells := 0, slots := 0, locals := 81 } : Room) s m args below meth c H locs 0 0 Q (F0 m 6 ls []) := by
    intro fu
    induction fu with
    | zero => intro S x1 x2 x3 x4 x6 h; cases h
    | succ fu ih => intro S x1 x2 x3 x4 x6 h; exact B_6 (l_X11_meanOf_6 fu) ih S x1 x2 x3 x4 x6 h
  unfold f_X11_meanOf at h
  refine lv_lconst (v := (0)) hx hb dX11_meanOf_0 (by decide) ?_
  refine lv_lstore (lv' := [(4, .long (0)), (0, .ref (ad 0)), (1, .int x1), (2, .int x2), (3, .int x3)]) hx hb dX11_meanOf_1 hl (by decide) rfl (fun ls hl => ?_)
  refine lv_iconst (v := 0) hx hb dX11_meanOf_3 (by decide) ?_
  refine lv_istore (lv' := [(6, .int 0), (4, .long (0)), (0, .ref (ad 0)), (1, .int x1), (2, .int x2), (3, .int x3)]) hx hb dX11_meanOf_4 hl (by decide) rfl (fun ls hl => ?_)
  exact J_6 _ _ _ _ _ _ _ h _ _ _ I (lv_sub hl [2, 3, 4, 5, 1, 0] rfl)
