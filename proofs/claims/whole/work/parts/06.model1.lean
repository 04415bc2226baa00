theorem dX11_in_0 : decode cX11_in 0 = .ok (.lload_n 0, 1) := by decide +kernel
theorem dX11_in_1 : decode cX11_in 1 = .ok (.lload_n 2, 1) := by decide +kernel
theorem dX11_in_2 : decode cX11_in 2 = .ok (.lcmp, 1) := by decide +kernel
theorem dX11_in_3 : decode cX11_in 3 = .ok (.ifCond .lt 14, 3) := by decide +kernel
theorem dX11_in_6 : decode cX11_in 6 = .ok (.lload_n 0, 1) := by decide +kernel
theorem dX11_in_7 : decode cX11_in 7 = .ok (.lload 4, 2) := by decide +kernel
theorem dX11_in_9 : decode cX11_in 9 = .ok (.lcmp, 1) := by decide +kernel
theorem dX11_in_10 : decode cX11_in 10 = .ok (.ifCond .gt 7, 3) := by decide +kernel
theorem dX11_in_13 : decode cX11_in 13 = .ok (.iconst 1, 1) := by decide +kernel
theorem dX11_in_14 : decode cX11_in 14 = .ok (.goto 4, 3) := by decide +kernel
theorem dX11_in_17 : decode cX11_in 17 = .ok (.iconst 0, 1) := by decide +kernel
theorem dX11_in_18 : decode cX11_in 18 = .ok (.ireturn, 1) := by decide +kernel
def f_X11_in (S : St) (x0 : Int64) (x2 : Int64) (x4 : Int64) : Option (Int32 × St) :=
  if (lg_cmp x0 x2) < 0 then (
    some (0, S)
  ) else (
    if 0 < (lg_cmp x0 x4) then (
      some (0, S)
    ) else (
      some (1, S)
    )
  )
set_option maxHeartbeats 4000000 in
set_option maxRecDepth 100000 in
theorem c_X11_in {l : Launch} {D : va_G} {cI cC cS : ClassId} {ad adK adV : Nat → Nat} {S S1 : St} {x0 : Int64} {x2 : Int64} {x4 : Int64} {r : Int32} (h : f_X11_in S x0 x2 x4 = some (r, S1)) : Kt l D (mw cI ad) (KX D (xtys cI cC cS) adK adV) yX11_in cX11_in 6 (some .boolean) (0) (0) [.long x0, .long x2, .long x4] S (some (.int r)) S1 := by
  refine k_entz (by decide +kernel) (Nat.le_of_ble_eq_true rfl) ?_
  intro p e s m args below meth c A Q C hK I hA hq ls hl
  have C : CallFix p m c cX11_in 6 s args TT RX11 := C
  have hx := C.1
  have hb := C.2.1
  have kx := kx_ok D (xtys cI cC cS) adK adV
  have hl : lv_has ls 6 [(0, .long x0), (2, .long x2), (4, .long x4)] := hl
  unfold f_X11_in at h
  refine lv_lload_n hx hb dX11_in_0 rfl (lv_at hl 0 rfl) ?_
  refine lv_lload_n hx hb dX11_in_1 rfl (lv_at hl 1 rfl) ?_
  refine W.lcmp hx hb dX11_in_2 ?_
  refine lv_if_lt (tgt := 17) hx hb dX11_in_3 (by decide) (fun c1 => ?_) (fun c1 => ?_)
  · have h := ite_t c1 h
    refine lv_iconst (v := 0) hx hb dX11_in_17 (by decide) ?_
    exact rt_z (Or.inl rfl) hq h I dX11_in_18
  · have h := ite_n c1 h
    refine lv_lload_n hx hb dX11_in_6 rfl (lv_at hl 0 rfl) ?_
    refine lv_lload hx hb dX11_in_7 (lv_at hl 2 rfl) ?_
    refine W.lcmp hx hb dX11_in_9 ?_
    refine lv_if_gt (tgt := 17) hx hb dX11_in_10 (by decide) (fun c2 => ?_) (fun c2 => ?_)
    · have h := ite_t c2 h
      refine lv_iconst (v := 0) hx hb dX11_in_17 (by decide) ?_
      exact rt_z (Or.inl rfl) hq h I dX11_in_18
    · have h := ite_n c2 h
      refine lv_iconst (v := 1) hx hb dX11_in_13 (by decide) ?_
      refine lv_goto (tgt := 18) hx hb dX11_in_14 (by decide) ?_
      exact rt_z (Or.inr rfl) hq h I dX11_in_18
theorem dX11_has_0 : decode cX11_has 0 = .ok (.iload_n 0, 1) := by decide +kernel
theorem dX11_has_1 : decode cX11_has 1 = .ok (.iload_n 1, 1) := by decide +kernel
theorem dX11_has_2 : decode cX11_has 2 = .ok (.ishr, 1) := by decide +kernel
theorem dX11_has_3 : decode cX11_has 3 = .ok (.iconst 1, 1) := by decide +kernel
theorem dX11_has_4 : decode cX11_has 4 = .ok (.iand, 1) := by decide +kernel
theorem dX11_has_5 : decode cX11_has 5 = .ok (.iconst 1, 1) := by decide +kernel
theorem dX11_has_6 : decode cX11_has 6 = .ok (.if_icmp .ne 7, 3) := by decide +kernel
theorem dX11_has_9 : decode cX11_has 9 = .ok (.iconst 1, 1) := by decide +kernel
theorem dX11_has_10 : decode cX11_has 10 = .ok (.goto 4, 3) := by decide +kernel
theorem dX11_has_13 : decode cX11_has 13 = .ok (.iconst 0, 1) := by decide +kernel
theorem dX11_has_14 : decode cX11_has 14 = .ok (.ireturn, 1) := by decide +kernel
def f_X11_has (S : St) (x0 : Int32) (x1 : Int32) : Option (Int32 × St) :=
  if ((x0 >>> (x1 &&& 31)) &&& 1) = 1 then (
    some (1, S)
  ) else (
    some (0, S)
  )
set_option maxHeartbeats 4000000 in
set_option maxRecDepth 100000 in
theorem c_X11_has {l : Launch} {D : va_G} {cI cC cS : ClassId} {ad adK adV : Nat → Nat} {S S1 : St} {x0 : Int32} {x1 : Int32} {r : Int32} (h : f_X11_has S x0 x1 = some (r, S1)) : Kt l D (mw cI ad) (KX D (xtys cI cC cS) adK adV) yX11_has cX11_has 2 (some .boolean) (0) (0) [.int x0, .int x1] S (some (.int r)) S1 := by
  refine k_entz (by decide +kernel) (Nat.le_of_ble_eq_true rfl) ?_
  intro p e s m args below meth c A Q C hK I hA hq ls hl
  have C : CallFix p m c cX11_has 2 s args TT RX11 := C
  have hx := C.1
  have hb := C.2.1
  have kx := kx_ok D (xtys cI cC cS) adK adV
  have hl : lv_has ls 2 [(0, .int x0), (1, .int x1)] := hl
  unfold f_X11_has at h
  refine lv_iload_n hx hb dX11_has_0 rfl (lv_at hl 0 rfl) ?_
  refine lv_iload_n hx hb dX11_has_1 rfl (lv_at hl 1 rfl) ?_
  refine lv_ishr hx hb dX11_has_2 ?_
  refine lv_iconst (v := 1) hx hb dX11_has_3 (by decide) ?_
  refine lv_iand hx hb dX11_has_4 ?_
  refine lv_iconst (v := 1) hx hb dX11_has_5 (by decide) ?_
  refine lv_icmp_ne (tgt := 13) hx hb dX11_has_6 (by decide) (fun c1 => ?_) (fun c1 => ?_)
  · have h := ite_n c1 h
    refine lv_iconst (v := 0) hx hb dX11_has_13 (by decide) ?_
    exact rt_z (Or.inl rfl) hq h I dX11_has_14
  · have h := ite_t c1 h
    refine lv_iconst (v := 1) hx hb dX11_has_9 (by decide) ?_
    refine lv_goto (tgt := 14) hx hb dX11_has_10 (by decide) ?_
    exact rt_z (Or.inr rfl) hq h I dX11_has_14
theorem fl_X11_59 : Cond.fieldLink RX11 59 RX11 "length" "I" ∈ TT := tt_of 1110 (by decide +kernel) rfl
theorem fl_X11_7 : Cond.fieldLink RX11 7 RX11 "text" "[I" ∈ TT := tt_of 1109 (by decide +kernel) rfl
theorem cn_X11_62 : Cond.constantLong RX11 62 ((255)) ∈ TT := tt_of 1211 (by decide +kernel) rfl
theorem cn_X11_53 : Cond.constantLong RX11 53 ((8)) ∈ TT := tt_of 1207 (by decide +kernel) rfl
theorem lk_X11_55 : Cond.methodLink RX11 55 yX11_in ∈ TT := tt_of 1208 (by decide +kernel) rfl
theorem ms_X11_in : MS yX11_in cX11_in 6 (some .boolean) 3 := ⟨tt_of 1210 (by decide +kernel) rfl, tt_of 1209 (by decide +kernel) rfl, tt_of 76 (by decide +kernel) rfl, ⟨by decide +kernel, by decide +kernel, by decide +kernel⟩⟩
theorem dX11_write_0 : decode cX11_write 0 = .ok (.iload_n 3, 1) := by decide +kernel
theorem dX11_write_1 : decode cX11_write 1 = .ok (.i2l, 1) := by decide +kernel
theorem dX11_write_2 : decode cX11_write 2 = .ok (.lconst 1, 1) := by decide +kernel
theorem dX11_write_3 : decode cX11_write 3 = .ok (.ldc2_w 53, 3) := by decide +kernel
theorem dX11_write_6 : decode cX11_write 6 = .ok (.invokestatic 55, 3) := by decide +kernel
theorem dX11_write_9 : decode cX11_write 9 = .ok (.ifCond .ne 6, 3) := by decide +kernel
theorem dX11_write_12 : decode cX11_write 12 = .ok (.bipush (-3), 2) := by decide +kernel
theorem dX11_write_14 : decode cX11_write 14 = .ok (.ireturn, 1) := by decide +kernel
theorem dX11_write_15 : decode cX11_write 15 = .ok (.aload_n 0, 1) := by decide +kernel
theorem dX11_write_16 : decode cX11_write 16 = .ok (.getfield 59, 3) := by decide +kernel
theorem dX11_write_19 : decode cX11_write 19 = .ok (.iload_n 3, 1) := by decide +kernel
theorem dX11_write_20 : decode cX11_write 20 = .ok (.iadd, 1) := by decide +kernel
theorem dX11_write_21 : decode cX11_write 21 = .ok (.sipush 200, 3) := by decide +kernel
theorem dX11_write_24 : decode cX11_write 24 = .ok (.if_icmp .le 6, 3) := by decide +kernel
theorem dX11_write_27 : decode cX11_write 27 = .ok (.bipush (-5), 2) := by decide +kernel
theorem dX11_write_29 : decode cX11_write 29 = .ok (.ireturn, 1) := by decide +kernel
theorem dX11_write_30 : decode cX11_write 30 = .ok (.iconst 0, 1) := by decide +kernel
theorem dX11_write_31 : decode cX11_write 31 = .ok (.istore 4, 2) := by decide +kernel
theorem dX11_write_33 : decode cX11_write 33 = .ok (.iload 4, 2) := by decide +kernel
theorem dX11_write_35 : decode cX11_write 35 = .ok (.iload_n 3, 1) := by decide +kernel
theorem dX11_write_36 : decode cX11_write 36 = .ok (.if_icmp .ge 40, 3) := by decide +kernel
theorem dX11_write_39 : decode cX11_write 39 = .ok (.aload_n 0, 1) := by decide +kernel
theorem dX11_write_40 : decode cX11_write 40 = .ok (.getfield 7, 3) := by decide +kernel
theorem dX11_write_43 : decode cX11_write 43 = .ok (.aload_n 0, 1) := by decide +kernel
theorem dX11_write_44 : decode cX11_write 44 = .ok (.getfield 59, 3) := by decide +kernel
theorem dX11_write_47 : decode cX11_write 47 = .ok (.lload_n 1, 1) := by decide +kernel
theorem dX11_write_48 : decode cX11_write 48 = .ok (.bipush 8, 2) := by decide +kernel
theorem dX11_write_50 : decode cX11_write 50 = .ok (.iload 4, 2) := by decide +kernel
theorem dX11_write_52 : decode cX11_write 52 = .ok (.imul, 1) := by decide +kernel
theorem dX11_write_53 : decode cX11_write 53 = .ok (.lshr, 1) := by decide +kernel
theorem dX11_write_54 : decode cX11_write 54 = .ok (.ldc2_w 62, 3) := by decide +kernel
theorem dX11_write_57 : decode cX11_write 57 = .ok (.land, 1) := by decide +kernel
theorem dX11_write_58 : decode cX11_write 58 = .ok (.l2i, 1) := by decide +kernel
theorem dX11_write_59 : decode cX11_write 59 = .ok (.iastore, 1) := by decide +kernel
theorem dX11_write_60 : decode cX11_write 60 = .ok (.aload_n 0, 1) := by decide +kernel
theorem dX11_write_61 : decode cX11_write 61 = .ok (.dup, 1) := by decide +kernel
theorem dX11_write_62 : decode cX11_write 62 = .ok (.getfield 59, 3) := by decide +kernel
theorem dX11_write_65 : decode cX11_write 65 = .ok (.iconst 1, 1) := by decide +kernel
theorem dX11_write_66 : decode cX11_write 66 = .ok (.iadd, 1) := by decide +kernel
theorem dX11_write_67 : decode cX11_write 67 = .ok (.putfield 59, 3) := by decide +kernel
theorem dX11_write_70 : decode cX11_write 70 = .ok (.iinc 4 1, 3) := by decide +kernel
theorem dX11_write_73 : decode cX11_write 73 = .ok (.goto (-40), 3) := by decide +kernel
theorem dX11_write_76 : decode cX11_write 76 = .ok (.aload_n 0, 1) := by decide +kernel
theorem dX11_write_77 : decode cX11_write 77 = .ok (.getfield 59, 3) := by decide +kernel
theorem dX11_write_80 : decode cX11_write 80 = .ok (.ireturn, 1) := by decide +kernel
def f_X11_write_33 (k_33 : St → Int64 → Int32 → Int32 → Option (Int32 × St)) (S : St) (x1 : Int64) (x3 : Int32) (x4 : Int32) : Option (Int32 × St) :=
  if x3 ≤ x4 then (
    some ((S.1 0 1), S)
  ) else (
    chk (ixo (S.1 0 1) 200) <|
    bnd (setI S 1 ((S.1 0 1)).toNatClampNeg (((x1 >>> (((8 * x4) : Int32).toInt64 &&& 63)) &&& (255)).toInt32)) fun S3 =>
    bnd (setI S3 0 1 ((S3.1 0 1) + 1)) fun S4 =>
    bnd (x4 + 1 : Int32) fun v5 =>
    k_33 S4 x1 x3 v5
  )
def l_X11_write_33 : Nat → St → Int64 → Int32 → Int32 → Option (Int32 × St)
  | 0, _, _, _, _ => none
  | fu + 1, S, x1, x3, x4 => f_X11_write_33 (l_X11_write_33 fu) S x1 x3 x4
def f_X11_write (S : St) (x1 : Int64) (x3 : Int32) : Option (Int32 × St) :=
  obd2 (f_X11_in S (x3.toInt64) (1) (8)) fun r6 S6 =>
  if r6 = 0 then (
    some ((-3), S6)
  ) else (
    if ((S6.1 0 1) + x3) ≤ 200 then (
      l_X11_write_33 FU S6 x1 x3 0
    ) else (
      some ((-5), S6)
    )
  )
set_option maxHeartbeats 4000000 in
set_option maxRecDepth 100000 in
theorem c_X11_write {l : Launch} {D : va_G} {cI cC cS : ClassId} {ad adK adV : Nat → Nat} {S S1 : St} {x1 : Int64} {x3 : Int32} {r : Int32} (h : f_X11_write S x1 x3 = some (r, S1)) : Kt l D (mw cI ad) (KX D (xtys cI cC cS) adK adV) yX11_write cX11_write 5 (some .int) (1) (25) [.ref (ad 0), .long x1, .int x3] S (some (.int r)) S1 := by
  refine k_ent (ins := .ireturn) (st := [.int r]) (by decide +kernel) (Nat.le_of_ble_eq_true rfl) ret_i ?_
  intro p e s m args below meth c A Q C hK I hA hq ls hl
  have C : CallFix p m c cX11_write 5 s args TT RX11 := C
  have hx := C.1
  have hb := C.2.1
  have kx := kx_ok D (xtys cI cC cS) adK adV
  have hl : lv_has ls 5 [(0, .ref (ad 0)), (1, .long x1), (3, .int x3)] := hl
  have B_33 : ∀ (k_33 : St → Int64 → Int32 → Int32 → Option (Int32 × St)) (hk_33 : ∀ (S : St) (x1 : Int64) (x3 : Int32) (x4 : Int32), k_33 S x1 x3 x4 = some (r, S1) → ∀ (H : Heap) (locs : List Loc) (ls : Array Slot), Iv D (mw cI ad) S A s H locs → lv_has ls 5 [(0, .ref (ad 0)), (1, .long x1), (3, .int x3), (4, .int x4)] → W p l e ({ frames := 1, cells := 0, slots := 0, locals := 25 } : Room) s m args below meth c H locs 0 0 Q (F0 m 33 ls [])) (S : St) (x1 : Int64) (x3 : Int32) (x4 : Int32), f_X11_write_33 k_33 S x1 x3 x4 = some (r, S1) → ∀ (H : Heap) (locs : List Loc) (ls : Array Slot), Iv D (mw cI ad) S A s H locs → lv_has ls 5 [(0, .ref (ad 0)), (1, .long x1), (3, .int x3), (4, .int x4)] → W p l e ({ frames := 1, cells := 0, slots := 0, locals := 25 } : Room) s m args below meth c H locs 0 0 Q (F0 m 33 ls []) := by
    intro k_33 hk_33 S x1 x3 x4 h H locs ls I hl
    unfold f_X11_write_33 at h
    refine lv_iload hx hb dX11_write_33 (lv_at hl 3 rfl) ?_
    refine lv_iload_n hx hb dX11_write_35 rfl (lv_at hl 2 rfl) ?_
    refine lv_icmp_ge (tgt := 76) hx hb dX11_write_36 (by decide) (fun c1 => ?_) (fun c1 => ?_)
    · have h := ite_t c1 h
      refine lv_aload_n hx hb dX11_write_76 rfl (lv_at hl 0 rfl) ?_
      refine gm_0_1 C hK I fl_X11_59 dX11_write_77 ?_
      exact rt_i hq h I dX11_write_80
    · have h := ite_n c1 h
      refine lv_aload_n hx hb dX11_write_39 rfl (lv_at hl 0 rfl) ?_
      refine gm_0_0 C hK I fl_X11_7 dX11_write_40 ?_
      refine lv_aload_n hx hb dX11_write_43 rfl (lv_at hl 0 rfl) ?_
      refine gm_0_1 C hK I fl_X11_59 dX11_write_44 ?_
      refine lv_lload_n hx hb dX11_write_47 rfl (lv_at hl 1 rfl) ?_
      refine lv_bipush (v := 8) hx hb dX11_write_48 (by decide) ?_
      refine lv_iload hx hb dX11_write_50 (lv_at hl 3 rfl) ?_
      refine lv_imul hx hb dX11_write_52 ?_
      refine lv_lshr hx hb dX11_write_53 rfl ?_
      refine lv_ldc2 (v := (255)) hx hb C.2.2.2.1 (C.2.2.2.2 _ cn_X11_62) dX11_write_54 ?_
      refine lv_land hx hb dX11_write_57 ?_
      refine lv_l2i hx hb dX11_write_58 rfl ?_
      obtain ⟨hv2, h⟩ := chk_ex h
      refine bm_1 C hK I hv2 dX11_write_59 (fun S3 eS3 H locs I => ?_)
      have h := bnd_at eS3 h
      clear eS3
      refine lv_aload_n hx hb dX11_write_60 rfl (lv_at hl 0 rfl) ?_
      refine lv_dup hx hb dX11_write_61 rfl ?_
      refine gm_0_1 C hK I fl_X11_59 dX11_write_62 ?_
      refine lv_iconst (v := 1) hx hb dX11_write_65 (by decide) ?_
      refine lv_iadd hx hb dX11_write_66 ?_
      refine pm_0_1 C hK I fl_X11_59 dX11_write_67 (fun S4 eS4 H locs I => ?_)
      have h := bnd_at eS4 h
      clear eS4
      obtain ⟨v5, ev5⟩ : ∃ y : Int32, y = x4 + 1 := ⟨_, rfl⟩
      have h := bnd_at ev5 h
      refine lv_iinc (v := v5) (lv' := [(4, .int v5), (0, .ref (ad 0)), (1, .long x1), (3, .int x3)]) hx hb dX11_write_70 hl (k := 3) rfl (by rw [ev5]; rfl) (by decide) rfl (fun ls hl => ?_)
      clear ev5
      refine lv_goto (tgt := 33) hx hb dX11_write_73 (by decide) ?_
      exact hk_33 _ _ _ _ h _ _ _ I (lv_sub hl [1, 2, 3, 0] rfl)
  have J_33 : ∀ (fu : Nat) (S : St) (x1 : Int64) (x3 : Int32) (x4 : Int32), l_X11_write_33  fu S x1 x3 x4 = some (r, S1) → ∀ (H : Heap) (locs : List Loc) (ls : Array Slot), Iv D (mw cI ad) S A s H locs → lv_has ls 5 [(0, .ref (ad 0)), (1, .long x1), (3, .int x3), (4, .int x4)] → W p l e ({ frames := 1, cells := 0, slots := 0, locals := 25 } : Room) s m args below meth c H locs 0 0 Q (F0 m 33 ls []) := by
    intro fu
    induction fu with
    | zero => intro S x1 x3 x4 h; cases h
    | succ fu ih => intro S x1 x3 x4 h; exact B_33 (l_X11_write_33 fu) ih S x1 x3 x4 h
  unfold f_X11_write at h
  refine lv_iload_n hx hb dX11_write_0 rfl (lv_at hl 2 rfl) ?_
  refine lv_i2l hx hb dX11_write_1 rfl ?_
  refine lv_lconst (v := (1)) hx hb dX11_write_2 (by decide) ?_
  refine lv_ldc2 (v := (8)) hx hb C.2.2.2.1 (C.2.2.2.2 _ cn_X11_53) dX11_write_3 ?_
  obtain ⟨r6, S6, e6, h⟩ := obd2_ex h
  refine k_S (As := [.long (x3.toInt64), .long (1), .long (8)]) (rest := []) (st1 := [.int r6]) C kx hK I hA (c_X11_in e6) ⟨Nat.le_of_ble_eq_true rfl, Nat.le_of_ble_eq_true rfl⟩ ms_X11_in lk_X11_55 rfl hl.1 rfl (Nat.le_of_ble_eq_true rfl) dX11_write_6 rfl (fun H locs I => ?_)
  refine lv_if_ne (tgt := 15) hx hb dX11_write_9 (by decide) (fun c7 => ?_) (fun c7 => ?_)
  · have h := ite_n c7 h
    refine lv_aload_n hx hb dX11_write_15 rfl (lv_at hl 0 rfl) ?_
    refine gm_0_1 C hK I fl_X11_59 dX11_write_16 ?_
    refine lv_iload_n hx hb dX11_write_19 rfl (lv_at hl 2 rfl) ?_
    refine lv_iadd hx hb dX11_write_20 ?_
    refine lv_sipush (v := 200) hx hb dX11_write_21 (by decide) ?_
    refine lv_icmp_le (tgt := 30) hx hb dX11_write_24 (by decide) (fun c8 => ?_) (fun c8 => ?_)
    · have h := ite_t c8 h
      refine lv_iconst (v := 0) hx hb dX11_write_30 (by decide) ?_
      refine lv_istore (lv' := [(4, .int 0), (0, .ref (ad 0)), (1, .long x1), (3, .int x3)]) hx hb dX11_write_31 hl (by decide) rfl (fun ls hl => ?_)
      exact J_33 _ _ _ _ _ h _ _ _ I (lv_sub hl [1, 2, 3, 0] rfl)
    · have h := ite_n c8 h
      refine lv_bipush (v := (-5)) hx hb dX11_write_27 (by decide) ?_
      exact rt_i hq h I dX11_write_29
  · have h := ite_t c7 h
    refine lv_bipush (v := (-3)) hx hb dX11_write_12 (by decide) ?_
    exact rt_i hq h I dX11_write_14
theorem dX11_erase_0 : decode cX11_erase 0 = .ok (.aload_n 0, 1) := by decide +kernel
theorem dX11_erase_1 : decode cX11_erase 1 = .ok (.getfield 59, 3) := by decide +kernel
theorem dX11_erase_4 : decode cX11_erase 4 = .ok (.istore_n 1, 1) := by decide +kernel
theorem dX11_erase_5 : decode cX11_erase 5 = .ok (.aload_n 0, 1) := by decide +kernel
theorem dX11_erase_6 : decode cX11_erase 6 = .ok (.iconst 0, 1) := by decide +kernel
theorem dX11_erase_7 : decode cX11_erase 7 = .ok (.putfield 59, 3) := by decide +kernel
theorem dX11_erase_10 : decode cX11_erase 10 = .ok (.iload_n 1, 1) := by decide +kernel
theorem dX11_erase_11 : decode cX11_erase 11 = .ok (.ireturn, 1) := by decide +kernel
def f_X11_erase (S : St)  : Option (Int32 × St) :=
  bnd ((S.1 0 1) : Int32) fun v1 =>
  bnd (setI S 0 1 0) fun S2 =>
  some (v1, S2)
set_option maxHeartbeats 4000000 in
set_option maxRecDepth 100000 in
theorem c_X11_erase {l : Launch} {D : va_G} {cI cC cS : ClassId} {ad adK adV : Nat → Nat} {S S1 : St}  {r : Int32} (h : f_X11_erase S  = some (r, S1)) : Kt l D (mw cI ad) (KX D (xtys cI cC cS) adK adV) yX11_erase cX11_erase 2 (some .int) (0) (0) [.ref (ad 0)] S (some (.int r)) S1 := by
  refine k_ent (ins := .ireturn) (st := [.int r]) (by decide +kernel) (Nat.le_of_ble_eq_true rfl) ret_i ?_
  intro p e s m args below meth c A Q C hK I hA hq ls hl
  have C : CallFix p m c cX11_erase 2 s args TT RX11 := C
  have hx := C.1
  have hb := C.2.1
  have kx := kx_ok D (xtys cI cC cS) adK adV
  have hl : lv_has ls 2 [(0, .ref (ad 0))] := hl
  unfold f_X11_erase at h
  refine lv_aload_n hx hb dX11_erase_0 rfl (lv_at hl 0 rfl) ?_
  refine gm_0_1 C hK I fl_X11_59 dX11_erase_1 ?_
  refine lv_topi (fun v1 ev1 => ?_)
  have h := bnd_at ev1 h
  clear ev1
  refine lv_istore_n (lv' := [(1, .int v1), (0, .ref (ad 0))]) hx hb dX11_erase_4 rfl hl (by decide) rfl (fun ls hl => ?_)
  refine lv_aload_n hx hb dX11_erase_5 rfl (lv_at hl 1 rfl) ?_
  refine lv_iconst (v := 0) hx hb dX11_erase_6 (by decide) ?_
  refine pm_0_1 C hK I fl_X11_59 dX11_erase_7 (fun S2 eS2 H locs I => ?_)
  have h := bnd_at eS2 h
  clear eS2
  refine lv_iload_n hx hb dX11_erase_10 rfl (lv_at hl 0 rfl) ?_
  exact rt_i hq h I dX11_erase_11
theorem dX11_kind_0 : decode cX11_kind 0 = .ok (.iload_n 0, 1) := by decide +kernel
theorem dX11_kind_1 : decode cX11_kind 1 = .ok (.bipush 97, 2) := by decide +kernel
theorem dX11_kind_3 : decode cX11_kind 3 = .ok (.if_icmp .lt 13, 3) := by decide +kernel
theorem dX11_kind_6 : decode cX11_kind 6 = .ok (.iload_n 0, 1) := by decide +kernel
theorem dX11_kind_7 : decode cX11_kind 7 = .ok (.bipush 122, 2) := by decide +kernel
theorem dX11_kind_9 : decode cX11_kind 9 = .ok (.if_icmp .gt 7, 3) := by decide +kernel
theorem dX11_kind_12 : decode cX11_kind 12 = .ok (.iconst 1, 1) := by decide +kernel
theorem dX11_kind_13 : decode cX11_kind 13 = .ok (.goto 20, 3) := by decide +kernel
theorem dX11_kind_16 : decode cX11_kind 16 = .ok (.iload_n 0, 1) := by decide +kernel
theorem dX11_kind_17 : decode cX11_kind 17 = .ok (.bipush 48, 2) := by decide +kernel
theorem dX11_kind_19 : decode cX11_kind 19 = .ok (.if_icmp .lt 13, 3) := by decide +kernel
theorem dX11_kind_22 : decode cX11_kind 22 = .ok (.iload_n 0, 1) := by decide +kernel
theorem dX11_kind_23 : decode cX11_kind 23 = .ok (.bipush 57, 2) := by decide +kernel
theorem dX11_kind_25 : decode cX11_kind 25 = .ok (.if_icmp .gt 7, 3) := by decide +kernel
theorem dX11_kind_28 : decode cX11_kind 28 = .ok (.iconst 2, 1) := by decide +kernel
theorem dX11_kind_29 : decode cX11_kind 29 = .ok (.goto 4, 3) := by decide +kernel
theorem dX11_kind_32 : decode cX11_kind 32 = .ok (.iconst 0, 1) := by decide +kernel
theorem dX11_kind_33 : decode cX11_kind 33 = .ok (.ireturn, 1) := by decide +kernel
def f_X11_kind_16 (S : St) (x0 : Int32) : Option (Int32 × St) :=
  if x0 < 48 then (
    some (0, S)
  ) else (
    if 57 < x0 then (
      some (0, S)
    ) else (
      some (2, S)
    )
  )
def f_X11_kind (S : St) (x0 : Int32) : Option (Int32 × St) :=
  if x0 < 97 then (
    f_X11_kind_16 S x0
  ) else (
    if 122 < x0 then (
      f_X11_kind_16 S x0
    ) else (
      some (1, S)
    )
  )
set_option maxHeartbeats 4000000 in
set_option maxRecDepth 100000 in
theorem c_X11_kind {l : Launch} {D : va_G} {cI cC cS : ClassId} {ad adK adV : Nat → Nat} {S S1 : St} {x0 : Int32} {r : Int32} (h : f_X11_kind S x0 = some (r, S1)) : Kt l D (mw cI ad) (KX D (xtys cI cC cS) adK adV) yX11_kind cX11_kind 1 (some .int) (0) (0) [.int x0] S (some (.int r)) S1 := by
  refine k_ent (ins := .ireturn) (st := [.int r]) (by decide +kernel) (Nat.le_of_ble_eq_true rfl) ret_i ?_
  intro p e s m args below meth c A Q C hK I hA hq ls hl
  have C : CallFix p m c cX11_kind 1 s args TT RX11 := C
  have hx := C.1
  have hb := C.2.1
  have kx := kx_ok D (xtys cI cC cS) adK adV
  have hl : lv_has ls 1 [(0, .int x0)] := hl
  have J_16 : ∀ (S : St) (x0 : Int32), f_X11_kind_16  S x0 = some (r, S1) → ∀ (H : Heap) (locs : List Loc) (ls : Array Slot), Iv D (mw cI ad) S A s H locs → lv_has ls 1 [(0, .int x0)] → W p l e ({ frames := 0, cells := 0, slots := 0, locals := 0 } : Room) s m args below meth c H locs 0 0 Q (F0 m 16 ls []) := by
    intro  S x0 h H locs ls I hl
    unfold f_X11_kind_16 at h
    refine lv_iload_n hx hb dX11_kind_16 rfl (lv_at hl 0 rfl) ?_
    refine lv_bipush (v := 48) hx hb dX11_kind_17 (by decide) ?_
    refine lv_icmp_lt (tgt := 32) hx hb dX11_kind_19 (by decide) (fun c1 => ?_) (fun c1 => ?_)
    · have h := ite_t c1 h
      refine lv_iconst (v := 0) hx hb dX11_kind_32 (by decide) ?_
      exact rt_i hq h I dX11_kind_33
    · have h := ite_n c1 h
      refine lv_iload_n hx hb dX11_kind_22 rfl (lv_at hl 0 rfl) ?_
      refine lv_bipush (v := 57) hx hb dX11_kind_23 (by decide) ?_
      refine lv_icmp_gt (tgt := 32) hx hb dX11_kind_25 (by decide) (fun c2 => ?_) (fun c2 => ?_)
      · have h := ite_t c2 h
        refine lv_iconst (v := 0) hx hb dX11_kind_32 (by decide) ?_
        exact rt_i hq h I dX11_kind_33
      · have h := ite_n c2 h
        refine lv_iconst (v := 2) hx hb dX11_kind_28 (by decide) ?_
        refine lv_goto (tgt := 33) hx hb dX11_kind_29 (by decide) ?_
        exact rt_i hq h I dX11_kind_33
  unfold f_X11_kind at h
  refine lv_iload_n hx hb dX11_kind_0 rfl (lv_at hl 0 rfl) ?_
  refine lv_bipush (v := 97) hx hb dX11_kind_1 (by decide) ?_
  refine lv_icmp_lt (tgt := 16) hx hb dX11_kind_3 (by decide) (fun c3 => ?_) (fun c3 => ?_)
  · have h := ite_t c3 h
    exact J_16 _ _ h _ _ _ I (lv_sub hl [0] rfl)
  · have h := ite_n c3 h
    refine lv_iload_n hx hb dX11_kind_6 rfl (lv_at hl 0 rfl) ?_
    refine lv_bipush (v := 122) hx hb dX11_kind_7 (by decide) ?_
    refine lv_icmp_gt (tgt := 16) hx hb dX11_kind_9 (by decide) (fun c4 => ?_) (fun c4 => ?_)
    · have h := ite_t c4 h
      exact J_16 _ _ h _ _ _ I (lv_sub hl [0] rfl)
    · have h := ite_n c4 h
      refine lv_iconst (v := 1) hx hb dX11_kind_12 (by decide) ?_
      refine lv_goto (tgt := 33) hx hb dX11_kind_13 (by decide) ?_
      exact rt_i hq h I dX11_kind_33
theorem fl_X11_64 : Cond.fieldLink RX11 64 RX11 "at" "I" ∈ TT := tt_of 1126 (by decide +kernel) rfl
theorem fl_X11_74 : Cond.fieldLink RX11 74 RX11 "end" "I" ∈ TT := tt_of 1128 (by decide +kernel) rfl
theorem fl_X11_67 : Cond.fieldLink RX11 67 RX11 "place" "I" ∈ TT := tt_of 1127 (by decide +kernel) rfl
theorem lk_X11_70 : Cond.methodLink RX11 70 yX11_kind ∈ TT := tt_of 1224 (by decide +kernel) rfl
theorem ms_X11_kind : MS yX11_kind cX11_kind 1 (some .int) 1 := ⟨tt_of 1226 (by decide +kernel) rfl, tt_of 1225 (by decide +kernel) rfl, tt_of 76 (by decide +kernel) rfl, ⟨by decide +kernel, by decide +kernel, by decide +kernel⟩⟩
theorem dX11_token_0 : decode cX11_token 0 = .ok (.aload_n 0, 1) := by decide +kernel
theorem dX11_token_1 : decode cX11_token 1 = .ok (.getfield 64, 3) := by decide +kernel
theorem dX11_token_4 : decode cX11_token 4 = .ok (.aload_n 0, 1) := by decide +kernel
theorem dX11_token_5 : decode cX11_token 5 = .ok (.getfield 59, 3) := by decide +kernel
theorem dX11_token_8 : decode cX11_token 8 = .ok (.if_icmp .ge 30, 3) := by decide +kernel
theorem dX11_token_11 : decode cX11_token 11 = .ok (.aload_n 0, 1) := by decide +kernel
theorem dX11_token_12 : decode cX11_token 12 = .ok (.getfield 7, 3) := by decide +kernel
theorem dX11_token_15 : decode cX11_token 15 = .ok (.aload_n 0, 1) := by decide +kernel
theorem dX11_token_16 : decode cX11_token 16 = .ok (.getfield 64, 3) := by decide +kernel
theorem dX11_token_19 : decode cX11_token 19 = .ok (.iaload, 1) := by decide +kernel
theorem dX11_token_20 : decode cX11_token 20 = .ok (.bipush 32, 2) := by decide +kernel
theorem dX11_token_22 : decode cX11_token 22 = .ok (.if_icmp .ne 16, 3) := by decide +kernel
theorem dX11_token_25 : decode cX11_token 25 = .ok (.aload_n 0, 1) := by decide +kernel
theorem dX11_token_26 : decode cX11_token 26 = .ok (.dup, 1) := by decide +kernel
theorem dX11_token_27 : decode cX11_token 27 = .ok (.getfield 64, 3) := by decide +kernel
theorem dX11_token_30 : decode cX11_token 30 = .ok (.iconst 1, 1) := by decide +kernel
theorem dX11_token_31 : decode cX11_token 31 = .ok (.iadd, 1) := by decide +kernel
theorem dX11_token_32 : decode cX11_token 32 = .ok (.putfield 64, 3) := by decide +kernel
theorem dX11_token_35 : decode cX11_token 35 = .ok (.goto (-35), 3) := by decide +kernel
theorem dX11_token_38 : decode cX11_token 38 = .ok (.aload_n 0, 1) := by decide +kernel
theorem dX11_token_39 : decode cX11_token 39 = .ok (.aload_n 0, 1) := by decide +kernel
theorem dX11_token_40 : decode cX11_token 40 = .ok (.getfield 64, 3) := by decide +kernel
theorem dX11_token_43 : decode cX11_token 43 = .ok (.putfield 67, 3) := by decide +kernel
theorem dX11_token_46 : decode cX11_token 46 = .ok (.aload_n 0, 1) := by decide +kernel
theorem dX11_token_47 : decode cX11_token 47 = .ok (.dup, 1) := by decide +kernel
theorem dX11_token_48 : decode cX11_token 48 = .ok (.getfield 64, 3) := by decide +kernel
theorem dX11_token_51 : decode cX11_token 51 = .ok (.aload_n 0, 1) := by decide +kernel
theorem dX11_token_52 : decode cX11_token 52 = .ok (.getfield 64, 3) := by decide +kernel
theorem dX11_token_55 : decode cX11_token 55 = .ok (.aload_n 0, 1) := by decide +kernel
theorem dX11_token_56 : decode cX11_token 56 = .ok (.getfield 59, 3) := by decide +kernel
theorem dX11_token_59 : decode cX11_token 59 = .ok (.if_icmp .ge 7, 3) := by decide +kernel
theorem dX11_token_62 : decode cX11_token 62 = .ok (.iconst 1, 1) := by decide +kernel
theorem dX11_token_63 : decode cX11_token 63 = .ok (.goto 4, 3) := by decide +kernel
theorem dX11_token_66 : decode cX11_token 66 = .ok (.iconst 0, 1) := by decide +kernel
theorem dX11_token_67 : decode cX11_token 67 = .ok (.iadd, 1) := by decide +kernel
theorem dX11_token_68 : decode cX11_token 68 = .ok (.putfield 64, 3) := by decide +kernel
theorem dX11_token_71 : decode cX11_token 71 = .ok (.aload_n 0, 1) := by decide +kernel
theorem dX11_token_72 : decode cX11_token 72 = .ok (.getfield 64, 3) := by decide +kernel
theorem dX11_token_75 : decode cX11_token 75 = .ok (.aload_n 0, 1) := by decide +kernel
theorem dX11_token_76 : decode cX11_token 76 = .ok (.getfield 59, 3) := by decide +kernel
theorem dX11_token_79 : decode cX11_token 79 = .ok (.if_icmp .ge 58, 3) := by decide +kernel
theorem dX11_token_82 : decode cX11_token 82 = .ok (.aload_n 0, 1) := by decide +kernel
theorem dX11_token_83 : decode cX11_token 83 = .ok (.getfield 7, 3) := by decide +kernel
theorem dX11_token_86 : decode cX11_token 86 = .ok (.aload_n 0, 1) := by decide +kernel
theorem dX11_token_87 : decode cX11_token 87 = .ok (.getfield 67, 3) := by decide +kernel
theorem dX11_token_90 : decode cX11_token 90 = .ok (.iaload, 1) := by decide +kernel
theorem dX11_token_91 : decode cX11_token 91 = .ok (.invokestatic 70, 3) := by decide +kernel
theorem dX11_token_94 : decode cX11_token 94 = .ok (.ifCond .le 43, 3) := by decide +kernel
theorem dX11_token_97 : decode cX11_token 97 = .ok (.aload_n 0, 1) := by decide +kernel
theorem dX11_token_98 : decode cX11_token 98 = .ok (.getfield 7, 3) := by decide +kernel
theorem dX11_token_101 : decode cX11_token 101 = .ok (.aload_n 0, 1) := by decide +kernel
theorem dX11_token_102 : decode cX11_token 102 = .ok (.getfield 64, 3) := by decide +kernel
theorem dX11_token_105 : decode cX11_token 105 = .ok (.iaload, 1) := by decide +kernel
theorem dX11_token_106 : decode cX11_token 106 = .ok (.invokestatic 70, 3) := by decide +kernel
theorem dX11_token_109 : decode cX11_token 109 = .ok (.aload_n 0, 1) := by decide +kernel
theorem dX11_token_110 : decode cX11_token 110 = .ok (.getfield 7, 3) := by decide +kernel
theorem dX11_token_113 : decode cX11_token 113 = .ok (.aload_n 0, 1) := by decide +kernel
theorem dX11_token_114 : decode cX11_token 114 = .ok (.getfield 67, 3) := by decide +kernel
theorem dX11_token_117 : decode cX11_token 117 = .ok (.iaload, 1) := by decide +kernel
theorem dX11_token_118 : decode cX11_token 118 = .ok (.invokestatic 70, 3) := by decide +kernel
theorem dX11_token_121 : decode cX11_token 121 = .ok (.if_icmp .ne 16, 3) := by decide +kernel
theorem dX11_token_124 : decode cX11_token 124 = .ok (.aload_n 0, 1) := by decide +kernel
theorem dX11_token_125 : decode cX11_token 125 = .ok (.dup, 1) := by decide +kernel
theorem dX11_token_126 : decode cX11_token 126 = .ok (.getfield 64, 3) := by decide +kernel
theorem dX11_token_129 : decode cX11_token 129 = .ok (.iconst 1, 1) := by decide +kernel
theorem dX11_token_130 : decode cX11_token 130 = .ok (.iadd, 1) := by decide +kernel
theorem dX11_token_131 : decode cX11_token 131 = .ok (.putfield 64, 3) := by decide +kernel
theorem dX11_token_134 : decode cX11_token 134 = .ok (.goto (-63), 3) := by decide +kernel
theorem dX11_token_137 : decode cX11_token 137 = .ok (.aload_n 0, 1) := by decide +kernel
theorem dX11_token_138 : decode cX11_token 138 = .ok (.aload_n 0, 1) := by decide +kernel
theorem dX11_token_139 : decode cX11_token 139 = .ok (.getfield 64, 3) := by decide +kernel
theorem dX11_token_142 : decode cX11_token 142 = .ok (.putfield 74, 3) := by decide +kernel
theorem dX11_token_145 : decode cX11_token 145 = .ok (.return_, 1) := by decide +kernel
def f_X11_token_137 (S : St)  : Option St :=
  bnd (setI S 0 19 (S.1 0 17)) fun S1 =>
  some S1
def f_X11_token_71 (k_71 : St → Option St) (S : St)  : Option St :=
  if (S.1 0 1) ≤ (S.1 0 17) then (
    f_X11_token_137 S 
  ) else (
    chk (ixo (S.1 0 18) 200) <|
    obd2 (f_X11_kind S (S.1 1 ((S.1 0 18)).toNatClampNeg)) fun r4 S4 =>
    if r4 ≤ 0 then (
      f_X11_token_137 S4 
    ) else (
      chk (ixo (S4.1 0 17) 200) <|
      obd2 (f_X11_kind S4 (S4.1 1 ((S4.1 0 17)).toNatClampNeg)) fun r7 S7 =>
      chk (ixo (S7.1 0 18) 200) <|
      obd2 (f_X11_kind S7 (S7.1 1 ((S7.1 0 18)).toNatClampNeg)) fun r9 S9 =>
      if r7 = r9 then (
        bnd (setI S9 0 17 ((S9.1 0 17) + 1)) fun S11 =>
        k_71 S11 
      ) else (
        f_X11_token_137 S9 
      )
    )
  )
def l_X11_token_71 : Nat → St → Option St
  | 0, _ => none
  | fu + 1, S => f_X11_token_71 (l_X11_token_71 fu) S 
def f_X11_token_67 (S : St) (t1 : Int32) (t2 : Int32) : Option St :=
  bnd (setI S 0 17 (t1 + t2)) fun S12 =>
  l_X11_token_71 FU S12 
def f_X11_token_38 (S : St)  : Option St :=
  bnd (setI S 0 18 (S.1 0 17)) fun S13 =>
  if (S13.1 0 1) ≤ (S13.1 0 17) then (
    f_X11_token_67 S13 (S13.1 0 17) 0
  ) else (
    f_X11_token_67 S13 (S13.1 0 17) 1
  )
def f_X11_token_0 (k_0 : St → Option St) (S : St)  : Option St :=
  if (S.1 0 1) ≤ (S.1 0 17) then (
    f_X11_token_38 S 
  ) else (
    chk (ixo (S.1 0 17) 200) <|
    if (S.1 1 ((S.1 0 17)).toNatClampNeg) = 32 then (
      bnd (setI S 0 17 ((S.1 0 17) + 1)) fun S18 =>
      k_0 S18 
    ) else (
      f_X11_token_38 S 
    )
  )
def l_X11_token_0 : Nat → St → Option St
  | 0, _ => none
  | fu + 1, S => f_X11_token_0 (l_X11_token_0 fu) S 
def f_X11_token (S : St)  : Option St :=
  l_X11_token_0 FU S 
set_option maxHeartbeats 4000000 in
set_option maxRecDepth 100000 in
theorem c_X11_token {l : Launch} {D : va_G} {cI cC cS : ClassId} {ad adK adV : Nat → Nat} {S S1 : St}  (h : f_X11_token S  = some S1) : Kt l D (mw cI ad) (KX D (xtys cI cC cS) adK adV) yX11_token cX11_token 1 none (1) (20) [.ref (ad 0)] S (none) S1 := by
  refine k_ent (ins := .return_) (st := []) (by decide +kernel) (Nat.le_of_ble_eq_true rfl) ret_v ?_
  intro p e s m args below meth c A Q C hK I hA hq ls hl
  have C : CallFix p m c cX11_token 1 s args TT RX11 := C
  have hx := C.1
  have hb := C.2.1
  have kx := kx_ok D (xtys cI cC cS) adK adV
  have hl : lv_has ls 1 [(0, .ref (ad 0))] := hl
  have J_137 : ∀ (S : St) , f_X11_token_137  S  = some S1 → ∀ (H : Heap) (locs : List Loc) (ls : Array Slot), Iv D (mw cI ad) S A s H locs → lv_has ls 1 [(0, .ref (ad 0))] → W p l e ({ frames := 1, cells := 0, slots := 0, locals := 20 } : Room) s m args below meth c H locs 0 0 Q (F0 m 137 ls []) := by
    intro  S  h H locs ls I hl
    unfold f_X11_token_137 at h
    refine lv_aload_n hx hb dX11_token_137 rfl (lv_at hl 0 rfl) ?_
    refine lv_aload_n hx hb dX11_token_138 rfl (lv_at hl 0 rfl) ?_
    refine gm_0_17 C hK I fl_X11_64 dX11_token_139 ?_
    refine pm_0_19 C hK I fl_X11_74 dX11_token_142 (fun S1 eS1 H locs I => ?_)
    have h := bnd_at eS1 h
    clear eS1
    exact rt_v hq h I dX11_token_145
  have B_71 : ∀ (k_71 : St → Option St) (hk_71 : ∀ (S : St) , k_71 S  = some S1 → ∀ (H : Heap) (locs : List Loc) (ls : Array Slot), Iv D (mw cI ad) S A s H locs → lv_has ls 1 [(0, .ref (ad 0))] → W p l e ({ frames := 1, cells := 0, slots := 0, locals := 20 } : Room) s m args below meth c H locs 0 0 Q (F0 m 71 ls [])) (S : St) , f_X11_token_71 k_71 S  = some S1 → ∀ (H : Heap) (locs : List Loc) (ls : Array Slot), Iv D (mw cI ad) S A s H locs → lv_has ls 1 [(0, .ref (ad 0))] → W p l e ({ frames := 1, cells := 0, slots := 0, locals := 20 } : Room) s m args below meth c H locs 0 0 Q (F0 m 71 ls []) := by
    intro k_71 hk_71 S  h H locs ls I hl
    unfold f_X11_token_71 at h
    refine lv_aload_n hx hb dX11_token_71 rfl (lv_at hl 0 rfl) ?_
    refine gm_0_17 C hK I fl_X11_64 dX11_token_72 ?_
    refine lv_aload_n hx hb dX11_token_75 rfl (lv_at hl 0 rfl) ?_
    refine gm_0_1 C hK I fl_X11_59 dX11_token_76 ?_
    refine lv_icmp_ge (tgt := 137) hx hb dX11_token_79 (by decide) (fun c2 => ?_) (fun c2 => ?_)
    · have h := ite_t c2 h
      exact J_137 _  h _ _ _ I (lv_sub hl [0] rfl)
    · have h := ite_n c2 h
      refine lv_aload_n hx hb dX11_token_82 rfl (lv_at hl 0 rfl) ?_
      refine gm_0_0 C hK I fl_X11_7 dX11_token_83 ?_
      refine lv_aload_n hx hb dX11_token_86 rfl (lv_at hl 0 rfl) ?_
      refine gm_0_18 C hK I fl_X11_67 dX11_token_87 ?_
      obtain ⟨hv3, h⟩ := chk_ex h
      refine am_1 C hK I hv3 dX11_token_90 ?_
      obtain ⟨r4, S4, e4, h⟩ := obd2_ex h
      refine k_S (As := [.int (S.1 1 ((S.1 0 18)).toNatClampNeg)]) (rest := []) (st1 := [.int r4]) C kx hK I hA (c_X11_kind e4) ⟨Nat.le_of_ble_eq_true rfl, Nat.le_of_ble_eq_true rfl⟩ ms_X11_kind lk_X11_70 rfl hl.1 rfl (Nat.le_of_ble_eq_true rfl) dX11_token_91 rfl (fun H locs I => ?_)
      refine lv_if_le (tgt := 137) hx hb dX11_token_94 (by decide) (fun c5 => ?_) (fun c5 => ?_)
      · have h := ite_t c5 h
        exact J_137 _  h _ _ _ I (lv_sub hl [0] rfl)
      · have h := ite_n c5 h
        refine lv_aload_n hx hb dX11_token_97 rfl (lv_at hl 0 rfl) ?_
        refine gm_0_0 C hK I fl_X11_7 dX11_token_98 ?_
        refine lv_aload_n hx hb dX11_token_101 rfl (lv_at hl 0 rfl) ?_
        refine gm_0_17 C hK I fl_X11_64 dX11_token_102 ?_
        obtain ⟨hv6, h⟩ := chk_ex h
        refine am_1 C hK I hv6 dX11_token_105 ?_
        obtain ⟨r7, S7, e7, h⟩ := obd2_ex h
        refine k_S (As := [.int (S4.1 1 ((S4.1 0 17)).toNatClampNeg)]) (rest := []) (st1 := [.int r7]) C kx hK I hA (c_X11_kind e7) ⟨Nat.le_of_ble_eq_true rfl, Nat.le_of_ble_eq_true rfl⟩ ms_X11_kind lk_X11_70 rfl hl.1 rfl (Nat.le_of_ble_eq_true rfl) dX11_token_106 rfl (fun H locs I => ?_)
        refine lv_aload_n hx hb dX11_token_109 rfl (lv_at hl 0 rfl) ?_
        refine gm_0_0 C hK I fl_X11_7 dX11_token_110 ?_
        refine lv_aload_n hx hb dX11_token_113 rfl (lv_at hl 0 rfl) ?_
        refine gm_0_18 C hK I fl_X11_67 dX11_token_114 ?_
        obtain ⟨hv8, h⟩ := chk_ex h
        refine am_1 C hK I hv8 dX11_token_117 ?_
        obtain ⟨r9, S9, e9, h⟩ := obd2_ex h
        refine k_S (As := [.int (S7.1 1 ((S7.1 0 18)).toNatClampNeg)]) (rest := [.int r7]) (st1 := [.int r9, .int r7]) C kx hK I hA (c_X11_kind e9) ⟨Nat.le_of_ble_eq_true rfl, Nat.le_of_ble_eq_true rfl⟩ ms_X11_kind lk_X11_70 rfl hl.1 rfl (Nat.le_of_ble_eq_true rfl) dX11_token_118 rfl (fun H locs I => ?_)
        refine lv_icmp_ne (tgt := 137) hx hb dX11_token_121 (by decide) (fun c10 => ?_) (fun c10 => ?_)
        · have h := ite_n c10 h
          exact J_137 _  h _ _ _ I (lv_sub hl [0] rfl)
        · have h := ite_t c10 h
          refine lv_aload_n hx hb dX11_token_124 rfl (lv_at hl 0 rfl) ?_
          refine lv_dup hx hb dX11_token_125 rfl ?_
          refine gm_0_17 C hK I fl_X11_64 dX11_token_126 ?_
          refine lv_iconst (v := 1) hx hb dX11_token_129 (by decide) ?_
          refine lv_iadd hx hb dX11_token_130 ?_
          refine pm_0_17 C hK I fl_X11_64 dX11_token_131 (fun S11 eS11 H locs I => ?_)
          have h := bnd_at eS11 h
          clear eS11
          refine lv_goto (tgt := 71) hx hb dX11_token_134 (by decide) ?_
          exact hk_71 _  h _ _ _ I (lv_sub hl [0] rfl)
  have J_71 : ∀ (fu : Nat) (S : St) , l_X11_token_71  fu S  = some S1 → ∀ (H : Heap) (locs : List Loc) (ls : Array Slot), Iv D (mw cI ad) S A s H locs → lv_has ls 1 [(0, .ref (ad 0))] → W p l e ({ frames := 1, cells := 0, slots := 0, locals := 20 } : Room) s m args below meth c H locs 0 0 Q (F0 m 71 ls []) := by
    intro fu
    induction fu with
    | zero => intro S  h; cases h
    | succ fu ih => intro S  h; exact B_71 (l_X11_token_71 fu) ih S  h
  have J_67 : ∀ (S : St) (t1 : Int32) (t2 : Int32), f_X11_token_67  S t1 t2 = some S1 → ∀ (H : Heap) (locs : List Loc) (ls : Array Slot), Iv D (mw cI ad) S A s H locs → lv_has ls 1 [(0, .ref (ad 0))] → W p l e ({ frames := 1, cells := 0, slots := 0, locals := 20 } : Room) s m args below meth c H locs 0 0 Q (F0 m 67 ls [.int t2, .int t1, .ref (ad 0)]) := by
    intro  S t1 t2 h H locs ls I hl
    unfold f_X11_token_67 at h
    refine lv_iadd hx hb dX11_token_67 ?_
    refine pm_0_17 C hK I fl_X11_64 dX11_token_68 (fun S12 eS12 H locs I => ?_)
    have h := bnd_at eS12 h
    clear eS12
    exact J_71 _ _  h _ _ _ I (lv_sub hl [0] rfl)
  have J_38 : ∀ (S : St) , f_X11_token_38  S  = some S1 → ∀ (H : Heap) (locs : List Loc) (ls : Array Slot), Iv D (mw cI ad) S A s H locs → lv_has ls 1 [(0, .ref (ad 0))] → W p l e ({ frames := 1, cells := 0, slots := 0, locals := 20 } : Room) s m args below meth c H locs 0 0 Q (F0 m 38 ls []) := by
    intro  S  h H locs ls I hl
    unfold f_X11_token_38 at h
    refine lv_aload_n hx hb dX11_token_38 rfl (lv_at hl 0 rfl) ?_
    refine lv_aload_n hx hb dX11_token_39 rfl (lv_at hl 0 rfl) ?_
    refine gm_0_17 C hK I fl_X11_64 dX11_token_40 ?_
    refine pm_0_18 C hK I fl_X11_67 dX11_token_43 (fun S13 eS13 H locs I => ?_)
    have h := bnd_at eS13 h
    clear eS13
    refine lv_aload_n hx hb dX11_token_46 rfl (lv_at hl 0 rfl) ?_
    refine lv_dup hx hb dX11_token_47 rfl ?_
    refine gm_0_17 C hK I fl_X11_64 dX11_token_48 ?_
    refine lv_aload_n hx hb dX11_token_51 rfl (lv_at hl 0 rfl) ?_
    refine gm_0_17 C hK I fl_X11_64 dX11_token_52 ?_
    refine lv_aload_n hx hb dX11_token_55 rfl (lv_at hl 0 rfl) ?_
    refine gm_0_1 C hK I fl_X11_59 dX11_token_56 ?_
    refine lv_icmp_ge (tgt := 66) hx hb dX11_token_59 (by decide) (fun c14 => ?_) (fun c14 => ?_)
    · have h := ite_t c14 h
      refine lv_iconst (v := 0) hx hb dX11_token_66 (by decide) ?_
      exact J_67 _ _ _ h _ _ _ I (lv_sub hl [0] rfl)
    · have h := ite_n c14 h
      refine lv_iconst (v := 1) hx hb dX11_token_62 (by decide) ?_
      refine lv_goto (tgt := 67) hx hb dX11_token_63 (by decide) ?_
      exact J_67 _ _ _ h _ _ _ I (lv_sub hl [0] rfl)
  have B_0 : ∀ (k_0 : St → Option St) (hk_0 : ∀ (S : St) , k_0 S  = some S1 → ∀ (H : Heap) (locs : List Loc) (ls : Array Slot), Iv D (mw cI ad) S A s H locs → lv_has ls 1 [(0, .ref (ad 0))] → W p l e ({ frames := 1, cells := 0, slots := 0, locals := 20 } : Room) s m args below meth c H locs 0 0 Q (F0 m 0 ls [])) (S : St) , f_X11_token_0 k_0 S  = some S1 → ∀ (H : Heap) (locs : List Loc) (ls : Array Slot), Iv D (mw cI ad) S A s H locs → lv_has ls 1 [(0, .ref (ad 0))] → W p l e ({ frames := 1, cells := 0, slots := 0, locals := 20 } : Room) s m args below meth c H locs 0 0 Q (F0 m 0 ls []) := by
    intro k_0 hk_0 S  h H locs ls I hl
    unfold f_X11_token_0 at h
    refine lv_aload_n hx hb dX11_token_0 rfl (lv_at hl 0 rfl) ?_
    refine gm_0_17 C hK I fl_X11_64 dX11_token_1 ?_
    refine lv_aload_n hx hb dX11_token_4 rfl (lv_at hl 0 rfl) ?_
    refine gm_0_1 C hK I fl_X11_59 dX11_token_5 ?_
    refine lv_icmp_ge (tgt := 38) hx hb dX11_token_8 (by decide) (fun c15 => ?_) (fun c15 => ?_)
    · have h := ite_t c15 h
      exact J_38 _  h _ _ _ I (lv_sub hl [0] rfl)
    · have h := ite_n c15 h
      refine lv_aload_n hx hb dX11_token_11 rfl (lv_at hl 0 rfl) ?_
      refine gm_0_0 C hK I fl_X11_7 dX11_token_12 ?_
      refine lv_aload_n hx hb dX11_token_15 rfl (lv_at hl 0 rfl) ?_
      refine gm_0_17 C hK I fl_X11_64 dX11_token_16 ?_
      obtain ⟨hv16, h⟩ := chk_ex h
      refine am_1 C hK I hv16 dX11_token_19 ?_
      refine lv_bipush (v := 32) hx hb dX11_token_20 (by decide) ?_
      refine lv_icmp_ne (tgt := 38) hx hb dX11_token_22 (by decide) (fun c17 => ?_) (fun c17 => ?_)
      · have h := ite_n c17 h
        exact J_38 _  h _ _ _ I (lv_sub hl [0] rfl)
      · have h := ite_t c17 h
        refine lv_aload_n hx hb dX11_token_25 rfl (lv_at hl 0 rfl) ?_
        refine lv_dup hx hb dX11_token_26 rfl ?_
        refine gm_0_17 C hK I fl_X11_64 dX11_token_27 ?_
        refine lv_iconst (v := 1) hx hb dX11_token_30 (by decide) ?_
        refine lv_iadd hx hb dX11_token_31 ?_
        refine pm_0_17 C hK I fl_X11_64 dX11_token_32 (fun S18 eS18 H locs I => ?_)
        have h := bnd_at eS18 h
        clear eS18
        refine lv_goto (tgt := 0) hx hb dX11_token_35 (by decide) ?_
        exact hk_0 _  h _ _ _ I (lv_sub hl [0] rfl)
  have J_0 : ∀ (fu : Nat) (S : St) , l_X11_token_0  fu S  = some S1 → ∀ (H : Heap) (locs : List Loc) (ls : Array Slot), Iv D (mw cI ad) S A s H locs → lv_has ls 1 [(0, .ref (ad 0))] → W p l e ({ frames := 1, cells := 0, slots := 0, locals := 20 } : Room) s m args below meth c H locs 0 0 Q (F0 m 0 ls []) := by
    intro fu
    induction fu with
    | zero => intro S  h; cases h
    | succ fu ih => intro S  h; exact B_0 (l_X11_token_0 fu) ih S  h
  unfold f_X11_token at h
  exact J_0 _ _  h _ _ _ I (lv_sub hl [0] rfl)
theorem dX11_isWord_0 : decode cX11_isWord 0 = .ok (.aload_n 0, 1) := by decide +kernel
theorem dX11_isWord_1 : decode cX11_isWord 1 = .ok (.getfield 74, 3) := by decide +kernel
theorem dX11_isWord_4 : decode cX11_isWord 4 = .ok (.aload_n 0, 1) := by decide +kernel
theorem dX11_isWord_5 : decode cX11_isWord 5 = .ok (.getfield 67, 3) := by decide +kernel
theorem dX11_isWord_8 : decode cX11_isWord 8 = .ok (.isub, 1) := by decide +kernel
theorem dX11_isWord_9 : decode cX11_isWord 9 = .ok (.iload_n 2, 1) := by decide +kernel
theorem dX11_isWord_10 : decode cX11_isWord 10 = .ok (.if_icmp .ne 7, 3) := by decide +kernel
theorem dX11_isWord_13 : decode cX11_isWord 13 = .ok (.iconst 1, 1) := by decide +kernel
theorem dX11_isWord_14 : decode cX11_isWord 14 = .ok (.goto 4, 3) := by decide +kernel
theorem dX11_isWord_17 : decode cX11_isWord 17 = .ok (.iconst 0, 1) := by decide +kernel
theorem dX11_isWord_18 : decode cX11_isWord 18 = .ok (.istore_n 3, 1) := by decide +kernel
theorem dX11_isWord_19 : decode cX11_isWord 19 = .ok (.iconst 0, 1) := by decide +kernel
theorem dX11_isWord_20 : decode cX11_isWord 20 = .ok (.istore 4, 2) := by decide +kernel
theorem dX11_isWord_22 : decode cX11_isWord 22 = .ok (.iload_n 3, 1) := by decide +kernel
theorem dX11_isWord_23 : decode cX11_isWord 23 = .ok (.ifCond .eq 48, 3) := by decide +kernel
theorem dX11_isWord_26 : decode cX11_isWord 26 = .ok (.iload 4, 2) := by decide +kernel
theorem dX11_isWord_28 : decode cX11_isWord 28 = .ok (.iload_n 2, 1) := by decide +kernel
theorem dX11_isWord_29 : decode cX11_isWord 29 = .ok (.if_icmp .ge 42, 3) := by decide +kernel
theorem dX11_isWord_32 : decode cX11_isWord 32 = .ok (.aload_n 0, 1) := by decide +kernel
theorem dX11_isWord_33 : decode cX11_isWord 33 = .ok (.getfield 7, 3) := by decide +kernel
theorem dX11_isWord_36 : decode cX11_isWord 36 = .ok (.aload_n 0, 1) := by decide +kernel
theorem dX11_isWord_37 : decode cX11_isWord 37 = .ok (.getfield 67, 3) := by decide +kernel
theorem dX11_isWord_40 : decode cX11_isWord 40 = .ok (.iload 4, 2) := by decide +kernel
theorem dX11_isWord_42 : decode cX11_isWord 42 = .ok (.iadd, 1) := by decide +kernel
theorem dX11_isWord_43 : decode cX11_isWord 43 = .ok (.iaload, 1) := by decide +kernel
theorem dX11_isWord_44 : decode cX11_isWord 44 = .ok (.bipush 96, 2) := by decide +kernel
theorem dX11_isWord_46 : decode cX11_isWord 46 = .ok (.iload_n 1, 1) := by decide +kernel
theorem dX11_isWord_47 : decode cX11_isWord 47 = .ok (.iconst 5, 1) := by decide +kernel
theorem dX11_isWord_48 : decode cX11_isWord 48 = .ok (.iload 4, 2) := by decide +kernel
theorem dX11_isWord_50 : decode cX11_isWord 50 = .ok (.imul, 1) := by decide +kernel
theorem dX11_isWord_51 : decode cX11_isWord 51 = .ok (.ishr, 1) := by decide +kernel
theorem dX11_isWord_52 : decode cX11_isWord 52 = .ok (.bipush 31, 2) := by decide +kernel
theorem dX11_isWord_54 : decode cX11_isWord 54 = .ok (.iand, 1) := by decide +kernel
theorem dX11_isWord_55 : decode cX11_isWord 55 = .ok (.iadd, 1) := by decide +kernel
theorem dX11_isWord_56 : decode cX11_isWord 56 = .ok (.if_icmp .ne 7, 3) := by decide +kernel
theorem dX11_isWord_59 : decode cX11_isWord 59 = .ok (.iconst 1, 1) := by decide +kernel
theorem dX11_isWord_60 : decode cX11_isWord 60 = .ok (.goto 4, 3) := by decide +kernel
theorem dX11_isWord_63 : decode cX11_isWord 63 = .ok (.iconst 0, 1) := by decide +kernel
theorem dX11_isWord_64 : decode cX11_isWord 64 = .ok (.istore_n 3, 1) := by decide +kernel
theorem dX11_isWord_65 : decode cX11_isWord 65 = .ok (.iinc 4 1, 3) := by decide +kernel
theorem dX11_isWord_68 : decode cX11_isWord 68 = .ok (.goto (-46), 3) := by decide +kernel
theorem dX11_isWord_71 : decode cX11_isWord 71 = .ok (.iload_n 3, 1) := by decide +kernel
theorem dX11_isWord_72 : decode cX11_isWord 72 = .ok (.ireturn, 1) := by decide +kernel
def f_X11_isWord_64 (k_22 : St → Int32 → Int32 → Int32 → Int32 → Option (Int32 × St)) (S : St) (x1 : Int32) (x2 : Int32) (x4 : Int32) (t0 : Int32) : Option (Int32 × St) :=
  bnd (x4 + 1 : Int32) fun v1 =>
  k_22 S x1 x2 t0 v1
def f_X11_isWord_22 (k_22 : St → Int32 → Int32 → Int32 → Int32 → Option (Int32 × St)) (S : St) (x1 : Int32) (x2 : Int32) (x3 : Int32) (x4 : Int32) : Option (Int32 × St) :=
  if x3 = 0 then (
    chk (zb x3) <|
    some (x3, S)
  ) else (
    if x2 ≤ x4 then (
      chk (zb x3) <|
      some (x3, S)
    ) else (
      chk (ixo ((S.1 0 18) + x4) 200) <|
      if (S.1 1 (((S.1 0 18) + x4)).toNatClampNeg) = (96 + ((x1 >>> ((5 * x4) &&& 31)) &&& 31)) then (
        f_X11_isWord_64 k_22 S x1 x2 x4 1
      ) else (
        f_X11_isWord_64 k_22 S x1 x2 x4 0
      )
    )
  )
def l_X11_isWord_22 : Nat → St → Int32 → Int32 → Int32 → Int32 → Option (Int32 × St)
  | 0, _, _, _, _, _ => none
  | fu + 1, S, x1, x2, x3, x4 => f_X11_isWord_22 (l_X11_isWord_22 fu) S x1 x2 x3 x4
def f_X11_isWord_18 (S : St) (x1 : Int32) (x2 : Int32) (t0 : Int32) : Option (Int32 × St) :=
  l_X11_isWord_22 FU S x1 x2 t0 0
def f_X11_isWord (S : St) (x1 : Int32) (x2 : Int32) : Option (Int32 × St) :=
  if ((S.1 0 19) - (S.1 0 18)) = x2 then (
    f_X11_isWord_18 S x1 x2 1
  ) else (
    f_X11_isWord_18 S x1 x2 0
  )
set_option maxHeartbeats 4000000 in
set_option maxRecDepth 100000 in
theorem c_X11_isWord {l : Launch} {D : va_G} {cI cC cS : ClassId} {ad adK adV : Nat → Nat} {S S1 : St} {x1 : Int32} {x2 : Int32} {r : Int32} (h : f_X11_isWord S x1 x2 = some (r, S1)) : Kt l D (mw cI ad) (KX D (xtys cI cC cS) adK adV) yX11_isWord cX11_isWord 5 (some .boolean) (0) (0) [.ref (ad 0), .int x1, .int x2] S (some (.int r)) S1 := by
  refine k_entz (by decide +kernel) (Nat.le_of_ble_eq_true rfl) ?_
  intro p e s m args below meth c A Q C hK I hA hq ls hl
  have C : CallFix p m c cX11_isWord 5 s args TT RX11 := C
  have hx := C.1
  have hb := C.2.1
  have kx := kx_ok D (xtys cI cC cS) adK adV
  have hl : lv_has ls 5 [(0, .ref (ad 0)), (1, .int x1), (2, .int x2)] := hl
  have J_64 : ∀ (k_22 : St → Int32 → Int32 → Int32 → Int32 → Option (Int32 × St)) (hk_22 : ∀ (S : St) (x1 : Int32) (x2 : Int32) (x3 : Int32) (x4 : Int32), k_22 S x1 x2 x3 x4 = some (r, S1) → ∀ (H : Heap) (locs : List Loc) (ls : Array Slot), Iv D (mw cI ad) S A s H locs → lv_has ls 5 [(0, .ref (ad 0)), (1, .int x1), (2, .int x2), (3, .int x3), (4, .int x4)] → W p l e ({ frames := 0, cells := 0, slots := 0, locals := 0 } : Room) s m args below meth c H locs 0 0 Q (F0 m 22 ls [])) (S : St) (x1 : Int32) (x2 : Int32) (x4 : Int32) (t0 : Int32), f_X11_isWord_64 k_22 S x1 x2 x4 t0 = some (r, S1) → ∀ (H : Heap) (locs : List Loc) (ls : Array Slot), Iv D (mw cI ad) S A s H locs → lv_has ls 5 [(0, .ref (ad 0)), (1, .int x1), (2, .int x2), (4, .int x4)] → W p l e ({ frames := 0, cells := 0, slots := 0, locals := 0 } : Room) s m args below meth c H locs 0 0 Q (F0 m 64 ls [.int t0]) := by
    intro k_22 hk_22 S x1 x2 x4 t0 h H locs ls I hl
    unfold f_X11_isWord_64 at h
    refine lv_istore_n (lv' := [(3, .int t0), (0, .ref (ad 0)), (1, .int x1), (2, .int x2), (4, .int x4)]) hx hb dX11_isWord_64 rfl hl (by decide) rfl (fun ls hl => ?_)
    obtain ⟨v1, ev1⟩ : ∃ y : Int32, y = x4 + 1 := ⟨_, rfl⟩
    have h := bnd_at ev1 h
    refine lv_iinc (v := v1) (lv' := [(4, .int v1), (3, .int t0), (0, .ref (ad 0)), (1, .int x1), (2, .int x2)]) hx hb dX11_isWord_65 hl (k := 4) rfl (by rw [ev1]; rfl) (by decide) rfl (fun ls hl => ?_)
    clear ev1
    refine lv_goto (tgt := 22) hx hb dX11_isWord_68 (by decide) ?_
    exact hk_22 _ _ _ _ _ h _ _ _ I (lv_sub hl [2, 3, 4, 1, 0] rfl)
  have B_22 : ∀ (k_22 : St → Int32 → Int32 → Int32 → Int32 → Option (Int32 × St)) (hk_22 : ∀ (S : St) (x1 : Int32) (x2 : Int32) (x3 : Int32) (x4 : Int32), k_22 S x1 x2 x3 x4 = some (r, S1) → ∀ (H : Heap) (locs : List Loc) (ls : Array Slot), Iv D (mw cI ad) S A s H locs → lv_has ls 5 [(0, .ref (ad 0)), (1, .int x1), (2, .int x2), (3, .int x3), (4, .int x4)] → W p l e ({ frames := 0, cells := 0, slots := 0, locals := 0 } : Room) s m args below meth c H locs 0 0 Q (F0 m 22 ls [])) (S : St) (x1 : Int32) (x2 : Int32) (x3 : Int32) (x4 : Int32), f_X11_isWord_22 k_22 S x1 x2 x3 x4 = some (r, S1) → ∀ (H : Heap) (locs : List Loc) (ls : Array Slot), Iv D (mw cI ad) S A s H locs → lv_has ls 5 [(0, .ref (ad 0)), (1, .int x1), (2, .int x2), (3, .int x3), (4, .int x4)] → W p l e ({ frames := 0, cells := 0, slots := 0, locals := 0 } : Room) s m args below meth c H locs 0 0 Q (F0 m 22 ls []) := by
    intro k_22 hk_22 S x1 x2 x3 x4 h H locs ls I hl
    unfold f_X11_isWord_22 at h
    refine lv_iload_n hx hb dX11_isWord_22 rfl (lv_at hl 3 rfl) ?_
    refine lv_if_eq (tgt := 71) hx hb dX11_isWord_23 (by decide) (fun c2 => ?_) (fun c2 => ?_)
    · have h := ite_t c2 h
      refine lv_iload_n hx hb dX11_isWord_71 rfl (lv_at hl 3 rfl) ?_
      obtain ⟨hz, h⟩ := chk_ex h
      exact rt_z hz hq h I dX11_isWord_72
    · have h := ite_n c2 h
      refine lv_iload hx hb dX11_isWord_26 (lv_at hl 4 rfl) ?_
      refine lv_iload_n hx hb dX11_isWord_28 rfl (lv_at hl 2 rfl) ?_
      refine lv_icmp_ge (tgt := 71) hx hb dX11_isWord_29 (by decide) (fun c3 => ?_) (fun c3 => ?_)
      · have h := ite_t c3 h
        refine lv_iload_n hx hb dX11_isWord_71 rfl (lv_at hl 3 rfl) ?_
        obtain ⟨hz, h⟩ := chk_ex h
        exact rt_z hz hq h I dX11_isWord_72
      · have h := ite_n c3 h
        refine lv_aload_n hx hb dX11_isWord_32 rfl (lv_at hl 0 rfl) ?_
        refine gm_0_0 C hK I fl_X11_7 dX11_isWord_33 ?_
        refine lv_aload_n hx hb dX11_isWord_36 rfl (lv_at hl 0 rfl) ?_
        refine gm_0_18 C hK I fl_X11_67 dX11_isWord_37 ?_
        refine lv_iload hx hb dX11_isWord_40 (lv_at hl 4 rfl) ?_
        refine lv_iadd hx hb dX11_isWord_42 ?_
        obtain ⟨hv4, h⟩ := chk_ex h
        refine am_1 C hK I hv4 dX11_isWord_43 ?_
        refine lv_bipush (v := 96) hx hb dX11_isWord_44 (by decide) ?_
        refine lv_iload_n hx hb dX11_isWord_46 rfl (lv_at hl 1 rfl) ?_
        refine lv_iconst (v := 5) hx hb dX11_isWord_47 (by decide) ?_
        refine lv_iload hx hb dX11_isWord_48 (lv_at hl 4 rfl) ?_
        refine lv_imul hx hb dX11_isWord_50 ?_
        refine lv_ishr hx hb dX11_isWord_51 ?_
        refine lv_bipush (v := 31) hx hb dX11_isWord_52 (by decide) ?_
        refine lv_iand hx hb dX11_isWord_54 ?_
        refine lv_iadd hx hb dX11_isWord_55 ?_
        refine lv_icmp_ne (tgt := 63) hx hb dX11_isWord_56 (by decide) (fun c5 => ?_) (fun c5 => ?_)
        · have h := ite_n c5 h
          refine lv_iconst (v := 0) hx hb dX11_isWord_63 (by decide) ?_
          exact J_64 k_22 hk_22 _ _ _ _ _ h _ _ _ I (lv_sub hl [0, 1, 2, 4] rfl)
        · have h := ite_t c5 h
          refine lv_iconst (v := 1) hx hb dX11_isWord_59 (by decide) ?_
          refine lv_goto (tgt := 64) hx hb dX11_isWord_60 (by decide) ?_
          exact J_64 k_22 hk_22 _ _ _ _ _ h _ _ _ I (lv_sub hl [0, 1, 2, 4] rfl)
  have J_22 : ∀ (fu : Nat) (S : St) (x1 : Int32) (x2 : Int32) (x3 : Int32) (x4 : Int32), l_X11_isWord_22  fu S x1 x2 x3 x4 = some (r, S1) → ∀ (H : Heap) (locs : List Loc) (ls : Array Slot), Iv D (mw cI ad) S A s H locs → lv_has ls 5 [(0, .ref (ad 0)), (1, .int x1), (2, .int x2), (3, .int x3), (4, .int x4)] → W p l e ({ frames := 0, cells := 0, slots := 0, locals := 0 } : Room) s m args below meth c H locs 0 0 Q (F0 m 22 ls []) := by
    intro fu
    induction fu with
    | zero => intro S x1 x2 x3 x4 h; cases h
    | succ fu ih => intro S x1 x2 x3 x4 h; exact B_22 (l_X11_isWord_22 fu) ih S x1 x2 x3 x4 h
  have J_18 : ∀ (S : St) (x1 : Int32) (x2 : Int32) (t0 : Int32), f_X11_isWord_18  S x1 x2 t0 = some (r, S1) → ∀ (H : Heap) (locs : List Loc) (ls : Array Slot), Iv D (mw cI ad) S A s H locs → lv_has ls 5 [(0, .ref (ad 0)), (1, .int x1), (2, .int x2)] → W p l e ({ frames := 0, cells := 0, slots := 0, locals := 0 } : Room) s m args below meth c H locs 0 0 Q (F0 m 18 ls [.int t0]) := by
    intro  S x1 x2 t0 h H locs ls I hl
    unfold f_X11_isWord_18 at h
    refine lv_istore_n (lv' := [(3, .int t0), (0, .ref (ad 0)), (1, .int x1), (2, .int x2)]) hx hb dX11_isWord_18 rfl hl (by decide) rfl (fun ls hl => ?_)
    refine lv_iconst (v := 0) hx hb dX11_isWord_19 (by decide) ?_
    refine lv_istore (lv' := [(4, .int 0), (3, .int t0), (0, .ref (ad 0)), (1, .int x1), (2, .int x2)]) hx hb dX11_isWord_20 hl (by decide) rfl (fun ls hl => ?_)
    exact J_22 _ _ _ _ _ _ h _ _ _ I (lv_sub hl [2, 3, 4, 1, 0] rfl)
  unfold f_X11_isWord at h
  refine lv_aload_n hx hb dX11_isWord_0 rfl (lv_at hl 0 rfl) ?_
  refine gm_0_19 C hK I fl_X11_74 dX11_isWord_1 ?_
  refine lv_aload_n hx hb dX11_isWord_4 rfl (lv_at hl 0 rfl) ?_
  refine gm_0_18 C hK I fl_X11_67 dX11_isWord_5 ?_
  refine lv_isub hx hb dX11_isWord_8 ?_
  refine lv_iload_n hx hb dX11_isWord_9 rfl (lv_at hl 2 rfl) ?_
  refine lv_icmp_ne (tgt := 17) hx hb dX11_isWord_10 (by decide) (fun c6 => ?_) (fun c6 => ?_)
  · have h := ite_n c6 h
    refine lv_iconst (v := 0) hx hb dX11_isWord_17 (by decide) ?_
    exact J_18 _ _ _ _ h _ _ _ I (lv_sub hl [0, 1, 2] rfl)
  · have h := ite_t c6 h
    refine lv_iconst (v := 1) hx hb dX11_isWord_13 (by decide) ?_
    refine lv_goto (tgt := 18) hx hb dX11_isWord_14 (by decide) ?_
    exact J_18 _ _ _ _ h _ _ _ I (lv_sub hl [0, 1, 2] rfl)
theorem fl_X11_13 : Cond.fieldLink RX11 13 RX11 "read" "[I" ∈ TT := tt_of 1111 (by decide +kernel) rfl
theorem fl_X11_77 : Cond.fieldLink RX11 77 RX11 "readMany" "I" ∈ TT := tt_of 1112 (by decide +kernel) rfl
theorem lk_X11_80 : Cond.methodLink RX11 80 yX11_token ∈ TT := tt_of 1220 (by decide +kernel) rfl
theorem mv_X11_token : MV yX11_token cX11_token 1 none 0 := ⟨tt_of 1223 (by decide +kernel) rfl, tt_of 1222 (by decide +kernel) rfl, tt_of 23 (by decide +kernel) rfl, tt_of 76 (by decide +kernel) rfl, ⟨by decide +kernel, by decide +kernel, by decide +kernel⟩⟩
theorem dX11_reads_0 : decode cX11_reads 0 = .ok (.aload_n 0, 1) := by decide +kernel
theorem dX11_reads_1 : decode cX11_reads 1 = .ok (.getfield 67, 3) := by decide +kernel
theorem dX11_reads_4 : decode cX11_reads 4 = .ok (.aload_n 0, 1) := by decide +kernel
theorem dX11_reads_5 : decode cX11_reads 5 = .ok (.getfield 59, 3) := by decide +kernel
theorem dX11_reads_8 : decode cX11_reads 8 = .ok (.if_icmp .eq 32, 3) := by decide +kernel
theorem dX11_reads_11 : decode cX11_reads 11 = .ok (.aload_n 0, 1) := by decide +kernel
theorem dX11_reads_12 : decode cX11_reads 12 = .ok (.getfield 7, 3) := by decide +kernel
theorem dX11_reads_15 : decode cX11_reads 15 = .ok (.aload_n 0, 1) := by decide +kernel
theorem dX11_reads_16 : decode cX11_reads 16 = .ok (.getfield 67, 3) := by decide +kernel
theorem dX11_reads_19 : decode cX11_reads 19 = .ok (.iaload, 1) := by decide +kernel
theorem dX11_reads_20 : decode cX11_reads 20 = .ok (.invokestatic 70, 3) := by decide +kernel
theorem dX11_reads_23 : decode cX11_reads 23 = .ok (.iconst 2, 1) := by decide +kernel
theorem dX11_reads_24 : decode cX11_reads 24 = .ok (.if_icmp .ne 16, 3) := by decide +kernel
theorem dX11_reads_27 : decode cX11_reads 27 = .ok (.aload_n 0, 1) := by decide +kernel
theorem dX11_reads_28 : decode cX11_reads 28 = .ok (.getfield 74, 3) := by decide +kernel
theorem dX11_reads_31 : decode cX11_reads 31 = .ok (.aload_n 0, 1) := by decide +kernel
theorem dX11_reads_32 : decode cX11_reads 32 = .ok (.getfield 67, 3) := by decide +kernel
theorem dX11_reads_35 : decode cX11_reads 35 = .ok (.isub, 1) := by decide +kernel
theorem dX11_reads_36 : decode cX11_reads 36 = .ok (.iconst 4, 1) := by decide +kernel
theorem dX11_reads_37 : decode cX11_reads 37 = .ok (.if_icmp .le 5, 3) := by decide +kernel
theorem dX11_reads_40 : decode cX11_reads 40 = .ok (.iconst 0, 1) := by decide +kernel
theorem dX11_reads_41 : decode cX11_reads 41 = .ok (.ireturn, 1) := by decide +kernel
theorem dX11_reads_42 : decode cX11_reads 42 = .ok (.iconst 0, 1) := by decide +kernel
theorem dX11_reads_43 : decode cX11_reads 43 = .ok (.istore 4, 2) := by decide +kernel
theorem dX11_reads_45 : decode cX11_reads 45 = .ok (.aload_n 0, 1) := by decide +kernel
theorem dX11_reads_46 : decode cX11_reads 46 = .ok (.getfield 67, 3) := by decide +kernel
theorem dX11_reads_49 : decode cX11_reads 49 = .ok (.istore 5, 2) := by decide +kernel
theorem dX11_reads_51 : decode cX11_reads 51 = .ok (.iload 5, 2) := by decide +kernel
theorem dX11_reads_53 : decode cX11_reads 53 = .ok (.aload_n 0, 1) := by decide +kernel
theorem dX11_reads_54 : decode cX11_reads 54 = .ok (.getfield 74, 3) := by decide +kernel
theorem dX11_reads_57 : decode cX11_reads 57 = .ok (.if_icmp .ge 27, 3) := by decide +kernel
theorem dX11_reads_60 : decode cX11_reads 60 = .ok (.bipush 10, 2) := by decide +kernel
theorem dX11_reads_62 : decode cX11_reads 62 = .ok (.iload 4, 2) := by decide +kernel
theorem dX11_reads_64 : decode cX11_reads 64 = .ok (.imul, 1) := by decide +kernel
theorem dX11_reads_65 : decode cX11_reads 65 = .ok (.aload_n 0, 1) := by decide +kernel
theorem dX11_reads_66 : decode cX11_reads 66 = .ok (.getfield 7, 3) := by decide +kernel
theorem dX11_reads_69 : decode cX11_reads 69 = .ok (.iload 5, 2) := by decide +kernel
theorem dX11_reads_71 : decode cX11_reads 71 = .ok (.iaload, 1) := by decide +kernel
theorem dX11_reads_72 : decode cX11_reads 72 = .ok (.iadd, 1) := by decide +kernel
theorem dX11_reads_73 : decode cX11_reads 73 = .ok (.bipush 48, 2) := by decide +kernel
theorem dX11_reads_75 : decode cX11_reads 75 = .ok (.isub, 1) := by decide +kernel
theorem dX11_reads_76 : decode cX11_reads 76 = .ok (.istore 4, 2) := by decide +kernel
theorem dX11_reads_78 : decode cX11_reads 78 = .ok (.iinc 5 1, 3) := by decide +kernel
theorem dX11_reads_81 : decode cX11_reads 81 = .ok (.goto (-30), 3) := by decide +kernel
theorem dX11_reads_84 : decode cX11_reads 84 = .ok (.iload 4, 2) := by decide +kernel
theorem dX11_reads_86 : decode cX11_reads 86 = .ok (.i2l, 1) := by decide +kernel
theorem dX11_reads_87 : decode cX11_reads 87 = .ok (.iload_n 2, 1) := by decide +kernel
theorem dX11_reads_88 : decode cX11_reads 88 = .ok (.i2l, 1) := by decide +kernel
theorem dX11_reads_89 : decode cX11_reads 89 = .ok (.iload_n 3, 1) := by decide +kernel
theorem dX11_reads_90 : decode cX11_reads 90 = .ok (.i2l, 1) := by decide +kernel
theorem dX11_reads_91 : decode cX11_reads 91 = .ok (.invokestatic 55, 3) := by decide +kernel
theorem dX11_reads_94 : decode cX11_reads 94 = .ok (.ifCond .ne 5, 3) := by decide +kernel
theorem dX11_reads_97 : decode cX11_reads 97 = .ok (.iconst 0, 1) := by decide +kernel
theorem dX11_reads_98 : decode cX11_reads 98 = .ok (.ireturn, 1) := by decide +kernel
theorem dX11_reads_99 : decode cX11_reads 99 = .ok (.aload_n 0, 1) := by decide +kernel
theorem dX11_reads_100 : decode cX11_reads 100 = .ok (.getfield 13, 3) := by decide +kernel
theorem dX11_reads_103 : decode cX11_reads 103 = .ok (.bipush 8, 2) := by decide +kernel
theorem dX11_reads_105 : decode cX11_reads 105 = .ok (.aload_n 0, 1) := by decide +kernel
theorem dX11_reads_106 : decode cX11_reads 106 = .ok (.getfield 77, 3) := by decide +kernel
theorem dX11_reads_109 : decode cX11_reads 109 = .ok (.imul, 1) := by decide +kernel
theorem dX11_reads_110 : decode cX11_reads 110 = .ok (.iconst 1, 1) := by decide +kernel
theorem dX11_reads_111 : decode cX11_reads 111 = .ok (.iadd, 1) := by decide +kernel
theorem dX11_reads_112 : decode cX11_reads 112 = .ok (.iload_n 1, 1) := by decide +kernel
theorem dX11_reads_113 : decode cX11_reads 113 = .ok (.iadd, 1) := by decide +kernel
theorem dX11_reads_114 : decode cX11_reads 114 = .ok (.iload 4, 2) := by decide +kernel
theorem dX11_reads_116 : decode cX11_reads 116 = .ok (.iastore, 1) := by decide +kernel
theorem dX11_reads_117 : decode cX11_reads 117 = .ok (.aload_n 0, 1) := by decide +kernel
theorem dX11_reads_118 : decode cX11_reads 118 = .ok (.invokevirtual 80, 3) := by decide +kernel
theorem dX11_reads_121 : decode cX11_reads 121 = .ok (.iconst 1, 1) := by decide +kernel
theorem dX11_reads_122 : decode cX11_reads 122 = .ok (.ireturn, 1) := by decide +kernel
def f_X11_reads_51 (k_51 : St → Int32 → Int32 → Int32 → Int32 → Int32 → Option (Int32 × St)) (S : St) (x1 : Int32) (x2 : Int32) (x3 : Int32) (x4 : Int32) (x5 : Int32) : Option (Int32 × St) :=
  if (S.1 0 19) ≤ x5 then (
    obd2 (f_X11_in S (x4.toInt64) (x2.toInt64) (x3.toInt64)) fun r2 S2 =>
    if r2 = 0 then (
      some (0, S2)
    ) else (
      chk (ixo (((8 * (S2.1 0 3)) + 1) + x1) 80) <|
      bnd (setI S2 2 ((((8 * (S2.1 0 3)) + 1) + x1)).toNatClampNeg x4) fun S5 =>
      obd (f_X11_token S5 ) fun S6 =>
      some (1, S6)
    )
  ) else (
    chk (ixo x5 200) <|
    bnd ((((10 * x4) + (S.1 1 (x5).toNatClampNeg)) - 48) : Int32) fun v8 =>
    bnd (x5 + 1 : Int32) fun v9 =>
    k_51 S x1 x2 x3 v8 v9
  )
def l_X11_reads_51 : Nat → St → Int32 → Int32 → Int32 → Int32 → Int32 → Option (Int32 × St)
  | 0, _, _, _, _, _, _ => none
  | fu + 1, S, x1, x2, x3, x4, x5 => f_X11_reads_51 (l_X11_reads_51 fu) S x1 x2 x3 x4 x5
def f_X11_reads (S : St) (x1 : Int32) (x2 : Int32) (x3 : Int32) : Option (Int32 × St) :=
  if (S.1 0 18) = (S.1 0 1) then (
    some (0, S)
  ) else (
    chk (ixo (S.1 0 18) 200) <|
    obd2 (f_X11_kind S (S.1 1 ((S.1 0 18)).toNatClampNeg)) fun r12 S12 =>
    if r12 = 2 then (
      if ((S12.1 0 19) - (S12.1 0 18)) ≤ 4 then (
        bnd ((S12.1 0 18) : Int32) fun v15 =>
        l_X11_reads_51 FU S12 x1 x2 x3 0 v15
      ) else (
        some (0, S12)
      )
    ) else (
      some (0, S12)
    )
  )
set_option maxHeartbeats 4000000 in
set_option maxRecDepth 100000 in
theorem c_X11_reads {l : Launch} {D : va_G} {cI cC cS : ClassId} {ad adK adV : Nat → Nat} {S S1 : St} {x1 : Int32} {x2 : Int32} {x3 : Int32} {r : Int32} (h : f_X11_reads S x1 x2 x3 = some (r, S1)) : Kt l D (mw cI ad) (KX D (xtys cI cC cS) adK adV) yX11_reads cX11_reads 6 (some .boolean) (2) (40) [.ref (ad 0), .int x1, .int x2, .int x3] S (some (.int r)) S1 := by
  refine k_entz (by decide +kernel) (Nat.le_of_ble_eq_true rfl) ?_
  intro p e s m args below meth c A Q C hK I hA hq ls hl
  have C : CallFix p m c cX11_reads 6 s args TT RX11 := C
  have hx := C.1
  have hb := C.2.1
  have kx := kx_ok D (xtys cI cC cS) adK adV
  have hl : lv_has ls 6 [(0, .ref (ad 0)), (1, .int x1), (2, .int x2), (3, .int x3)] := hl
  have B_51 : ∀ (k_51 : St → Int32 → Int32 → Int32 → Int32 → Int32 → Option (Int32 × St)) (hk_51 : ∀ (S : St) (x1 : Int32) (x2 : Int32) (x3 : Int32) (x4 : Int32) (x5 : Int32), k_51 S x1 x2 x3 x4 x5 = some (r, S1) → ∀ (H : Heap) (locs : List Loc) (ls : Array Slot), Iv D (mw cI ad) S A s H locs → lv_has ls 6 [(0, .ref (ad 0)), (1, .int x1), (2, .int x2), (3, .int x3), (4, .int x4), (5, .int x5)] → W p l e ({ frames := 2, cells := 0, slots := 0, locals := 40 } : Room) s m args below meth c H locs 0 0 Q (F0 m 51 ls [])) (S : St) (x1 : Int32) (x2 : Int32) (x3 : Int32) (x4 : Int32) (x5 : Int32), f_X11_reads_51 k_51 S x1 x2 x3 x4 x5 = some (r, S1) → ∀ (H : Heap) (locs : List Loc) (ls : Array Slot), Iv D (mw cI ad) S A s H locs → lv_has ls 6 [(0, .ref (ad 0)), (1, .int x1), (2, .int x2), (3, .int x3), (4, .int x4), (5, .int x5)] → W p l e ({ frames := 2, cells := 0, slots := 0, locals := 40 } : Room) s m args below meth c H locs 0 0 Q (F0 m 51 ls []) := by
    intro k_51 hk_51 S x1 x2 x3 x4 x5 h H locs ls I hl
    unfold f_X11_reads_51 at h
    refine lv_iload hx hb dX11_reads_51 (lv_at hl 5 rfl) ?_
    refine lv_aload_n hx hb dX11_reads_53 rfl (lv_at hl 0 rfl) ?_
    refine gm_0_19 C hK I fl_X11_74 dX11_reads_54 ?_
    refine lv_icmp_ge (tgt := 84) hx hb dX11_reads_57 (by decide) (fun c1 => ?_) (fun c1 => ?_)
    · have h := ite_t c1 h
      refine lv_iload hx hb dX11_reads_84 (lv_at hl 4 rfl) ?_
      refine lv_i2l hx hb dX11_reads_86 rfl ?_
      refine lv_iload_n hx hb dX11_reads_87 rfl (lv_at hl 2 rfl) ?_
      refine lv_i2l hx hb dX11_reads_88 rfl ?_
      refine lv_iload_n hx hb dX11_reads_89 rfl (lv_at hl 3 rfl) ?_
      refine lv_i2l hx hb dX11_reads_90 rfl ?_
      obtain ⟨r2, S2, e2, h⟩ := obd2_ex h
      refine k_S (As := [.long (x4.toInt64), .long (x2.toInt64), .long (x3.toInt64)]) (rest := []) (st1 := [.int r2]) C kx hK I hA (c_X11_in e2) ⟨Nat.le_of_ble_eq_true rfl, Nat.le_of_ble_eq_true rfl⟩ ms_X11_in lk_X11_55 rfl hl.1 rfl (Nat.le_of_ble_eq_true rfl) dX11_reads_91 rfl (fun H locs I => ?_)
      refine lv_if_ne (tgt := 99) hx hb dX11_reads_94 (by decide) (fun c3 => ?_) (fun c3 => ?_)
      · have h := ite_n c3 h
        refine lv_aload_n hx hb dX11_reads_99 rfl (lv_at hl 0 rfl) ?_
        refine gm_0_2 C hK I fl_X11_13 dX11_reads_100 ?_
        refine lv_bipush (v := 8) hx hb dX11_reads_103 (by decide) ?_
        refine lv_aload_n hx hb dX11_reads_105 rfl (lv_at hl 0 rfl) ?_
        refine gm_0_3 C hK I fl_X11_77 dX11_reads_106 ?_
        refine lv_imul hx hb dX11_reads_109 ?_
        refine lv_iconst (v := 1) hx hb dX11_reads_110 (by decide) ?_
        refine lv_iadd hx hb dX11_reads_111 ?_
        refine lv_iload_n hx hb dX11_reads_112 rfl (lv_at hl 1 rfl) ?_
        refine lv_iadd hx hb dX11_reads_113 ?_
        refine lv_iload hx hb dX11_reads_114 (lv_at hl 4 rfl) ?_
        obtain ⟨hv4, h⟩ := chk_ex h
        refine bm_2 C hK I hv4 dX11_reads_116 (fun S5 eS5 H locs I => ?_)
        have h := bnd_at eS5 h
        clear eS5
        refine lv_aload_n hx hb dX11_reads_117 rfl (lv_at hl 0 rfl) ?_
        obtain ⟨S6, e6, h⟩ := obd_ex h
        refine k_V (As := []) (rest := []) (st1 := []) C kx hK I hA (c_X11_token e6) ⟨Nat.le_of_ble_eq_true rfl, Nat.le_of_ble_eq_true rfl⟩ mv_X11_token lk_X11_80 0 11 (mw_0 (cI := cI) (ad := ad)) rfl rfl hl.1 rfl (Nat.le_of_ble_eq_true rfl) dX11_reads_118 rfl (fun H locs I => ?_)
        refine lv_iconst (v := 1) hx hb dX11_reads_121 (by decide) ?_
        exact rt_z (Or.inr rfl) hq h I dX11_reads_122
      · have h := ite_t c3 h
        refine lv_iconst (v := 0) hx hb dX11_reads_97 (by decide) ?_
        exact rt_z (Or.inl rfl) hq h I dX11_reads_98
    · have h := ite_n c1 h
      refine lv_bipush (v := 10) hx hb dX11_reads_60 (by decide) ?_
      refine lv_iload hx hb dX11_reads_62 (lv_at hl 4 rfl) ?_
      refine lv_imul hx hb dX11_reads_64 ?_
      refine lv_aload_n hx hb dX11_reads_65 rfl (lv_at hl 0 rfl) ?_
      refine gm_0_0 C hK I fl_X11_7 dX11_reads_66 ?_
      refine lv_iload hx hb dX11_reads_69 (lv_at hl 5 rfl) ?_
      obtain ⟨hv7, h⟩ := chk_ex h
      refine am_1 C hK I hv7 dX11_reads_71 ?_
      refine lv_iadd hx hb dX11_reads_72 ?_
      refine lv_bipush (v := 48) hx hb dX11_reads_73 (by decide) ?_
      refine lv_isub hx hb dX11_reads_75 ?_
      refine lv_topi (fun v8 ev8 => ?_)
      have h := bnd_at ev8 h
      clear ev8
      refine lv_istore (lv' := [(4, .int v8), (0, .ref (ad 0)), (1, .int x1), (2, .int x2), (3, .int x3), (5, .int x5)]) hx hb dX11_reads_76 hl (by decide) rfl (fun ls hl => ?_)
      obtain ⟨v9, ev9⟩ : ∃ y : Int32, y = x5 + 1 := ⟨_, rfl⟩
      have h := bnd_at ev9 h
      refine lv_iinc (v := v9) (lv' := [(5, .int v9), (4, .int v8), (0, .ref (ad 0)), (1, .int x1), (2, .int x2), (3, .int x3)]) hx hb dX11_reads_78 hl (k := 5) rfl (by rw [ev9]; rfl) (by decide) rfl (fun ls hl => ?_)
      clear ev9
      refine lv_goto (tgt := 51) hx hb dX11_reads_81 (by decide) ?_
      exact hk_51 _ _ _ _ _ _ h _ _ _ I (lv_sub hl [2, 3, 4, 5, 1, 0] rfl)
  have J_51 : ∀ (fu : Nat) (S : St) (x1 : Int32) (x2 : Int32) (x3 : Int32) (x4 : Int32) (x5 : Int32), l_X11_reads_51  fu S x1 x2 x3 x4 x5 = some (r, S1) → ∀ (H : Heap) (locs : List Loc) (ls : Array Slot), Iv D (mw cI ad) S A s H locs → lv_has ls 6 [(0, .ref (ad 0)), (1, .int x1), (2, .int x2), (3, .int x3), (4, .int x4), (5, .int x5)] → W p l e ({ frames := 2, cells := 0, slots := 0, locals := 40 } : Room) s m args below meth c H locs 0 0 Q (F0 m 51 ls []) := by
    intro fu
    induction fu with
    | zero => intro S x1 x2 x3 x4 x5 h; cases h
    | succ fu ih => intro S x1 x2 x3 x4 x5 h; exact B_51 (l_X11_reads_51 fu) ih S x1 x2 x3 x4 x5 h
  unfold f_X11_reads at h
  refine lv_aload_n hx hb dX11_reads_0 rfl (lv_at hl 0 rfl) ?_
  refine gm_0_18 C hK I fl_X11_67 dX11_reads_1 ?_
  refine lv_aload_n hx hb dX11_reads_4 rfl (lv_at hl 0 rfl) ?_
  refine gm_0_1 C hK I fl_X11_59 dX11_reads_5 ?_
  refine lv_icmp_eq (tgt := 40) hx hb dX11_reads_8 (by decide) (fun c10 => ?_) (fun c10 => ?_)
  · have h := ite_t c10 h
    refine lv_iconst (v := 0) hx hb dX11_reads_40 (by decide) ?_
    exact rt_z (Or.inl rfl) hq h I dX11_reads_41
  · have h := ite_n c10 h
    refine lv_aload_n hx hb dX11_reads_11 rfl (lv_at hl 0 rfl) ?_
    refine gm_0_0 C hK I fl_X11_7 dX11_reads_12 ?_
    refine lv_aload_n hx hb dX11_reads_15 rfl (lv_at hl 0 rfl) ?_
    refine gm_0_18 C hK I fl_X11_67 dX11_reads_16 ?_
    obtain ⟨hv11, h⟩ := chk_ex h
    refine am_1 C hK I hv11 dX11_reads_19 ?_
    obtain ⟨r12, S12, e12, h⟩ := obd2_ex h
    refine k_S (As := [.int (S.1 1 ((S.1 0 18)).toNatClampNeg)]) (rest := []) (st1 := [.int r12]) C kx hK I hA (c_X11_kind e12) ⟨Nat.le_of_ble_eq_true rfl, Nat.le_of_ble_eq_true rfl⟩ ms_X11_kind lk_X11_70 rfl hl.1 rfl (Nat.le_of_ble_eq_true rfl) dX11_reads_20 rfl (fun H locs I => ?_)
    refine lv_iconst (v := 2) hx hb dX11_reads_23 (by decide) ?_
    refine lv_icmp_ne (tgt := 40) hx hb dX11_reads_24 (by decide) (fun c13 => ?_) (fun c13 => ?_)
    · have h := ite_n c13 h
      refine lv_iconst (v := 0) hx hb dX11_reads_40 (by decide) ?_
      exact rt_z (Or.inl rfl) hq h I dX11_reads_41
    · have h := ite_t c13 h
      refine lv_aload_n hx hb dX11_reads_27 rfl (lv_at hl 0 rfl) ?_
      refine gm_0_19 C hK I fl_X11_74 dX11_reads_28 ?_
      refine lv_aload_n hx hb dX11_reads_31 rfl (lv_at hl 0 rfl) ?_
      refine gm_0_18 C hK I fl_X11_67 dX11_reads_32 ?_
      refine lv_isub hx hb dX11_reads_35 ?_
      refine lv_iconst (v := 4) hx hb dX11_reads_36 (by decide) ?_
      refine lv_icmp_le (tgt := 42) hx hb dX11_reads_37 (by decide) (fun c14 => ?_) (fun c14 => ?_)
      · have h := ite_t c14 h
        refine lv_iconst (v := 0) hx hb dX11_reads_42 (by decide) ?_
        refine lv_istore (lv' := [(4, .int 0), (0, .ref (ad 0)), (1, .int x1), (2, .int x2), (3, .int x3)]) hx hb dX11_reads_43 hl (by decide) rfl (fun ls hl => ?_)
        refine lv_aload_n hx hb dX11_reads_45 rfl (lv_at hl 1 rfl) ?_
        refine gm_0_18 C hK I fl_X11_67 dX11_reads_46 ?_
        refine lv_topi (fun v15 ev15 => ?_)
        have h := bnd_at ev15 h
        clear ev15
        refine lv_istore (lv' := [(5, .int v15), (4, .int 0), (0, .ref (ad 0)), (1, .int x1), (2, .int x2), (3, .int x3)]) hx hb dX11_reads_49 hl (by decide) rfl (fun ls hl => ?_)
        exact J_51 _ _ _ _ _ _ _ h _ _ _ I (lv_sub hl [2, 3, 4, 5, 1, 0] rfl)
      · have h := ite_n c14 h
        refine lv_iconst (v := 0) hx hb dX11_reads_40 (by decide) ?_
        exact rt_z (Or.inl rfl) hq h I dX11_reads_41
theorem cn_X11_83 : Cond.constantLong RX11 83 ((7)) ∈ TT := tt_of 1270 (by decide +kernel) rfl
theorem lk_X11_85 : Cond.methodLink RX11 85 yX11_has ∈ TT := tt_of 1271 (by decide +kernel) rfl
theorem ms_X11_has : MS yX11_has cX11_has 2 (some .boolean) 2 := ⟨tt_of 1273 (by decide +kernel) rfl, tt_of 1272 (by decide +kernel) rfl, tt_of 76 (by decide +kernel) rfl, ⟨by decide +kernel, by decide +kernel, by decide +kernel⟩⟩
theorem dX11_readsThings_0 : decode cX11_readsThings 0 = .ok (.iconst 0, 1) := by decide +kernel
theorem dX11_readsThings_1 : decode cX11_readsThings 1 = .ok (.istore_n 2, 1) := by decide +kernel
theorem dX11_readsThings_2 : decode cX11_readsThings 2 = .ok (.aload_n 0, 1) := by decide +kernel
theorem dX11_readsThings_3 : decode cX11_readsThings 3 = .ok (.getfield 67, 3) := by decide +kernel
theorem dX11_readsThings_6 : decode cX11_readsThings 6 = .ok (.istore_n 3, 1) := by decide +kernel
theorem dX11_readsThings_7 : decode cX11_readsThings 7 = .ok (.iload_n 3, 1) := by decide +kernel
theorem dX11_readsThings_8 : decode cX11_readsThings 8 = .ok (.aload_n 0, 1) := by decide +kernel
theorem dX11_readsThings_9 : decode cX11_readsThings 9 = .ok (.getfield 74, 3) := by decide +kernel
theorem dX11_readsThings_12 : decode cX11_readsThings 12 = .ok (.if_icmp .ge 51, 3) := by decide +kernel
theorem dX11_readsThings_15 : decode cX11_readsThings 15 = .ok (.aload_n 0, 1) := by decide +kernel
theorem dX11_readsThings_16 : decode cX11_readsThings 16 = .ok (.getfield 7, 3) := by decide +kernel
theorem dX11_readsThings_19 : decode cX11_readsThings 19 = .ok (.iload_n 3, 1) := by decide +kernel
theorem dX11_readsThings_20 : decode cX11_readsThings 20 = .ok (.iaload, 1) := by decide +kernel
theorem dX11_readsThings_21 : decode cX11_readsThings 21 = .ok (.bipush 97, 2) := by decide +kernel
theorem dX11_readsThings_23 : decode cX11_readsThings 23 = .ok (.isub, 1) := by decide +kernel
theorem dX11_readsThings_24 : decode cX11_readsThings 24 = .ok (.istore 4, 2) := by decide +kernel
theorem dX11_readsThings_26 : decode cX11_readsThings 26 = .ok (.iload 4, 2) := by decide +kernel
theorem dX11_readsThings_28 : decode cX11_readsThings 28 = .ok (.i2l, 1) := by decide +kernel
theorem dX11_readsThings_29 : decode cX11_readsThings 29 = .ok (.lconst 0, 1) := by decide +kernel
theorem dX11_readsThings_30 : decode cX11_readsThings 30 = .ok (.ldc2_w 83, 3) := by decide +kernel
theorem dX11_readsThings_33 : decode cX11_readsThings 33 = .ok (.invokestatic 55, 3) := by decide +kernel
theorem dX11_readsThings_36 : decode cX11_readsThings 36 = .ok (.ifCond .eq 12, 3) := by decide +kernel
theorem dX11_readsThings_39 : decode cX11_readsThings 39 = .ok (.iload_n 2, 1) := by decide +kernel
theorem dX11_readsThings_40 : decode cX11_readsThings 40 = .ok (.iload 4, 2) := by decide +kernel
theorem dX11_readsThings_42 : decode cX11_readsThings 42 = .ok (.invokestatic 85, 3) := by decide +kernel
theorem dX11_readsThings_45 : decode cX11_readsThings 45 = .ok (.ifCond .eq 5, 3) := by decide +kernel
theorem dX11_readsThings_48 : decode cX11_readsThings 48 = .ok (.iconst 0, 1) := by decide +kernel
theorem dX11_readsThings_49 : decode cX11_readsThings 49 = .ok (.ireturn, 1) := by decide +kernel
theorem dX11_readsThings_50 : decode cX11_readsThings 50 = .ok (.iload_n 2, 1) := by decide +kernel
theorem dX11_readsThings_51 : decode cX11_readsThings 51 = .ok (.iconst 1, 1) := by decide +kernel
theorem dX11_readsThings_52 : decode cX11_readsThings 52 = .ok (.iload 4, 2) := by decide +kernel
theorem dX11_readsThings_54 : decode cX11_readsThings 54 = .ok (.ishl, 1) := by decide +kernel
theorem dX11_readsThings_55 : decode cX11_readsThings 55 = .ok (.ior, 1) := by decide +kernel
theorem dX11_readsThings_56 : decode cX11_readsThings 56 = .ok (.istore_n 2, 1) := by decide +kernel
theorem dX11_readsThings_57 : decode cX11_readsThings 57 = .ok (.iinc 3 1, 3) := by decide +kernel
theorem dX11_readsThings_60 : decode cX11_readsThings 60 = .ok (.goto (-53), 3) := by decide +kernel
theorem dX11_readsThings_63 : decode cX11_readsThings 63 = .ok (.aload_n 0, 1) := by decide +kernel
theorem dX11_readsThings_64 : decode cX11_readsThings 64 = .ok (.getfield 13, 3) := by decide +kernel
theorem dX11_readsThings_67 : decode cX11_readsThings 67 = .ok (.bipush 8, 2) := by decide +kernel
theorem dX11_readsThings_69 : decode cX11_readsThings 69 = .ok (.aload_n 0, 1) := by decide +kernel
theorem dX11_readsThings_70 : decode cX11_readsThings 70 = .ok (.getfield 77, 3) := by decide +kernel
theorem dX11_readsThings_73 : decode cX11_readsThings 73 = .ok (.imul, 1) := by decide +kernel
theorem dX11_readsThings_74 : decode cX11_readsThings 74 = .ok (.iconst 1, 1) := by decide +kernel
theorem dX11_readsThings_75 : decode cX11_readsThings 75 = .ok (.iadd, 1) := by decide +kernel
theorem dX11_readsThings_76 : decode cX11_readsThings 76 = .ok (.iload_n 1, 1) := by decide +kernel
theorem dX11_readsThings_77 : decode cX11_readsThings 77 = .ok (.iadd, 1) := by decide +kernel
theorem dX11_readsThings_78 : decode cX11_readsThings 78 = .ok (.iload_n 2, 1) := by decide +kernel
theorem dX11_readsThings_79 : decode cX11_readsThings 79 = .ok (.iastore, 1) := by decide +kernel
theorem dX11_readsThings_80 : decode cX11_readsThings 80 = .ok (.iload_n 2, 1) := by decide +kernel
theorem dX11_readsThings_81 : decode cX11_readsThings 81 = .ok (.ifCond .le 7, 3) := by decide +kernel
theorem dX11_readsThings_84 : decode cX11_readsThings 84 = .ok (.aload_n 0, 1) := by decide +kernel
theorem dX11_readsThings_85 : decode cX11_readsThings 85 = .ok (.invokevirtual 80, 3) := by decide +kernel
theorem dX11_readsThings_88 : decode cX11_readsThings 88 = .ok (.iload_n 2, 1) := by decide +kernel
theorem dX11_readsThings_89 : decode cX11_readsThings 89 = .ok (.ifCond .le 7, 3) := by decide +kernel
theorem dX11_readsThings_92 : decode cX11_readsThings 92 = .ok (.iconst 1, 1) := by decide +kernel
theorem dX11_readsThings_93 : decode cX11_readsThings 93 = .ok (.goto 4, 3) := by decide +kernel
theorem dX11_readsThings_96 : decode cX11_readsThings 96 = .ok (.iconst 0, 1) := by decide +kernel
theorem dX11_readsThings_97 : decode cX11_readsThings 97 = .ok (.ireturn, 1) := by decide +kernel
def f_X11_readsThings_88 (S : St) (x2 : Int32) : Option (Int32 × St) :=
  if x2 ≤ 0 then (
    some (0, S)
  ) else (
    some (1, S)
  )
def f_X11_readsThings_7 (k_7 : St → Int32 → Int32 → Int32 → Option (Int32 × St)) (S : St) (x1 : Int32) (x2 : Int32) (x3 : Int32) : Option (Int32 × St) :=
  if (S.1 0 19) ≤ x3 then (
    chk (ixo (((8 * (S.1 0 3)) + 1) + x1) 80) <|
    bnd (setI S 2 ((((8 * (S.1 0 3)) + 1) + x1)).toNatClampNeg x2) fun S4 =>
    if x2 ≤ 0 then (
      f_X11_readsThings_88 S4 x2
    ) else (
      obd (f_X11_token S4 ) fun S6 =>
      f_X11_readsThings_88 S6 x2
    )
  ) else (
    chk (ixo x3 200) <|
    bnd (((S.1 1 (x3).toNatClampNeg) - 97) : Int32) fun v8 =>
    obd2 (f_X11_in S (v8.toInt64) (0) (7)) fun r9 S9 =>
    if r9 = 0 then (
      some (0, S9)
    ) else (
      obd2 (f_X11_has S9 x2 v8) fun r11 S11 =>
      if r11 = 0 then (
        bnd ((x2 ||| ((1 : Int32) <<< (v8 &&& 31))) : Int32) fun v13 =>
        bnd (x3 + 1 : Int32) fun v14 =>
        k_7 S11 x1 v13 v14
      ) else (
        some (0, S11)
      )
    )
  )
def l_X11_readsThings_7 : Nat → St → Int32 → Int32 → Int32 → Option (Int32 × St)
  | 0, _, _, _, _ => none
  | fu + 1, S, x1, x2, x3 => f_X11_readsThings_7 (l_X11_readsThings_7 fu) S x1 x2 x3
def f_X11_readsThings (S : St) (x1 : Int32) : Option (Int32 × St) :=
  bnd ((S.1 0 18) : Int32) fun v15 =>
  l_X11_readsThings_7 FU S x1 0 v15
set_option maxHeartbeats 4000000 in
set_option maxRecDepth 100000 in
theorem c_X11_readsThings {l : Launch} {D : va_G} {cI cC cS : ClassId} {ad adK adV : Nat → Nat} {S S1 : St} {x1 : Int32} {r : Int32} (h : f_X11_readsThings S x1 = some (r, S1)) : Kt l D (mw cI ad) (KX D (xtys cI cC cS) adK adV) yX11_readsThings cX11_readsThings 5 (some .boolean) (2) (40) [.ref (ad 0), .int x1] S (some (.int r)) S1 := by
  refine k_entz (by decide +kernel) (Nat.le_of_ble_eq_true rfl) ?_
  intro p e s m args below meth c A Q C hK I hA hq ls hl
  have C : CallFix p m c cX11_readsThings 5 s args TT RX11 := C
  have hx := C.1
  have hb := C.2.1
  have kx := kx_ok D (xtys cI cC cS) adK adV
  have hl : lv_has ls 5 [(0, .ref (ad 0)), (1, .int x1)] := hl
  have J_88 : ∀ (S : St) (x2 : Int32), f_X11_readsThings_88  S x2 = some (r, S1) → ∀ (H : Heap) (locs : List Loc) (ls : Array Slot), Iv D (mw cI ad) S A s H locs → lv_has ls 5 [(2, .int x2)] → W p l e ({ frames := 2, cells := 0, slots := 0, locals := 40 } : Room) s m args below meth c H locs 0 0 Q (F0 m 88 ls []) := by
    intro  S x2 h H locs ls I hl
    unfold f_X11_readsThings_88 at h
    refine lv_iload_n hx hb dX11_readsThings_88 rfl (lv_at hl 0 rfl) ?_
    refine lv_if_le (tgt := 96) hx hb dX11_readsThings_89 (by decide) (fun c1 => ?_) (fun c1 => ?_)
    · have h := ite_t c1 h
      refine lv_iconst (v := 0) hx hb dX11_readsThings_96 (by decide) ?_
      exact rt_z (Or.inl rfl) hq h I dX11_readsThings_97
    · have h := ite_n c1 h
      refine lv_iconst (v := 1) hx hb dX11_readsThings_92 (by decide) ?_
      refine lv_goto (tgt := 97) hx hb dX11_readsThings_93 (by decide) ?_
      exact rt_z (Or.inr rfl) hq h I dX11_readsThings_97
  have B_7 : ∀ (k_7 : St → Int32 → Int32 → Int32 → Option (Int32 × St)) (hk_7 : ∀ (S : St) (x1 : Int32) (x2 : Int32) (x3 : Int32), k_7 S x1 x2 x3 = some (r, S1) → ∀ (H : Heap) (locs : List Loc) (ls : Array Slot), Iv D (mw cI ad) S A s H locs → lv_has ls 5 [(0, .ref (ad 0)), (1, .int x1), (2, .int x2), (3, .int x3)] → W p l e ({ frames := 2, cells := 0, slots := 0, locals := 40 } : Room) s m args below meth c H locs 0 0 Q (F0 m 7 ls [])) (S : St) (x1 : Int32) (x2 : Int32) (x3 : Int32), f_X11_readsThings_7 k_7 S x1 x2 x3 = some (r, S1) → ∀ (H : Heap) (locs : List Loc) (ls : Array Slot), Iv D (mw cI ad) S A s H locs → lv_has ls 5 [(0, .ref (ad 0)), (1, .int x1), (2, .int x2), (3, .int x3)] → W p l e ({ frames := 2, cells := 0, slots := 0, locals := 40 } : Room) s m args below meth c H locs 0 0 Q (F0 m 7 ls []) := by
    intro k_7 hk_7 S x1 x2 x3 h H locs ls I hl
    unfold f_X11_readsThings_7 at h
    refine lv_iload_n hx hb dX11_readsThings_7 rfl (lv_at hl 3 rfl) ?_
    refine lv_aload_n hx hb dX11_readsThings_8 rfl (lv_at hl 0 rfl) ?_
    refine gm_0_19 C hK I fl_X11_74 dX11_readsThings_9 ?_
    refine lv_icmp_ge (tgt := 63) hx hb dX11_readsThings_12 (by decide) (fun c2 => ?_) (fun c2 => ?_)
    · have h := ite_t c2 h
      refine lv_aload_n hx hb dX11_readsThings_63 rfl (lv_at hl 0 rfl) ?_
      refine gm_0_2 C hK I fl_X11_13 dX11_readsThings_64 ?_
      refine lv_bipush (v := 8) hx hb dX11_readsThings_67 (by decide) ?_
      refine lv_aload_n hx hb dX11_readsThings_69 rfl (lv_at hl 0 rfl) ?_
      refine gm_0_3 C hK I fl_X11_77 dX11_readsThings_70 ?_
      refine lv_imul hx hb dX11_readsThings_73 ?_
      refine lv_iconst (v := 1) hx hb dX11_readsThings_74 (by decide) ?_
      refine lv_iadd hx hb dX11_readsThings_75 ?_
      refine lv_iload_n hx hb dX11_readsThings_76 rfl (lv_at hl 1 rfl) ?_
      refine lv_iadd hx hb dX11_readsThings_77 ?_
      refine lv_iload_n hx hb dX11_readsThings_78 rfl (lv_at hl 2 rfl) ?_
      obtain ⟨hv3, h⟩ := chk_ex h
      refine bm_2 C hK I hv3 dX11_readsThings_79 (fun S4 eS4 H locs I => ?_)
      have h := bnd_at eS4 h
      clear eS4
      refine lv_iload_n hx hb dX11_readsThings_80 rfl (lv_at hl 2 rfl) ?_
      refine lv_if_le (tgt := 88) hx hb dX11_readsThings_81 (by decide) (fun c5 => ?_) (fun c5 => ?_)
      · have h := ite_t c5 h
        exact J_88 _ _ h _ _ _ I (lv_sub hl [2] rfl)
      · have h := ite_n c5 h
        refine lv_aload_n hx hb dX11_readsThings_84 rfl (lv_at hl 0 rfl) ?_
        obtain ⟨S6, e6, h⟩ := obd_ex h
        refine k_V (As := []) (rest := []) (st1 := []) C kx hK I hA (c_X11_token e6) ⟨Nat.le_of_ble_eq_true rfl, Nat.le_of_ble_eq_true rfl⟩ mv_X11_token lk_X11_80 0 11 (mw_0 (cI := cI) (ad := ad)) rfl rfl hl.1 rfl (Nat.le_of_ble_eq_true rfl) dX11_readsThings_85 rfl (fun H locs I => ?_)
        exact J_88 _ _ h _ _ _ I (lv_sub hl [2] rfl)
    · have h := ite_n c2 h
      refine lv_aload_n hx hb dX11_readsThings_15 rfl (lv_at hl 0 rfl) ?_
      refine gm_0_0 C hK I fl_X11_7 dX11_readsThings_16 ?_
      refine lv_iload_n hx hb dX11_readsThings_19 rfl (lv_at hl 3 rfl) ?_
      obtain ⟨hv7, h⟩ := chk_ex h
      refine am_1 C hK I hv7 dX11_readsThings_20 ?_
      refine lv_bipush (v := 97) hx hb dX11_readsThings_21 (by decide) ?_
      refine lv_isub hx hb dX11_readsThings_23 ?_
      refine lv_topi (fun v8 ev8 => ?_)
      have h := bnd_at ev8 h
      clear ev8
      refine lv_istore (lv' := [(4, .int v8), (0, .ref (ad 0)), (1, .int x1), (2, .int x2), (3, .int x3)]) hx hb dX11_readsThings_24 hl (by decide) rfl (fun ls hl => ?_)
      refine lv_iload hx hb dX11_readsThings_26 (lv_at hl 0 rfl) ?_
      refine lv_i2l hx hb dX11_readsThings_28 rfl ?_
      refine lv_lconst (v := (0)) hx hb dX11_readsThings_29 (by decide) ?_
      refine lv_ldc2 (v := (7)) hx hb C.2.2.2.1 (C.2.2.2.2 _ cn_X11_83) dX11_readsThings_30 ?_
      obtain ⟨r9, S9, e9, h⟩ := obd2_ex h
      refine k_S (As := [.long (v8.toInt64), .long (0), .long (7)]) (rest := []) (st1 := [.int r9]) C kx hK I hA (c_X11_in e9) ⟨Nat.le_of_ble_eq_true rfl, Nat.le_of_ble_eq_true rfl⟩ ms_X11_in lk_X11_55 rfl hl.1 rfl (Nat.le_of_ble_eq_true rfl) dX11_readsThings_33 rfl (fun H locs I => ?_)
      refine lv_if_eq (tgt := 48) hx hb dX11_readsThings_36 (by decide) (fun c10 => ?_) (fun c10 => ?_)
      · have h := ite_t c10 h
        refine lv_iconst (v := 0) hx hb dX11_readsThings_48 (by decide) ?_
        exact rt_z (Or.inl rfl) hq h I dX11_readsThings_49
      · have h := ite_n c10 h
        refine lv_iload_n hx hb dX11_readsThings_39 rfl (lv_at hl 3 rfl) ?_
        refine lv_iload hx hb dX11_readsThings_40 (lv_at hl 0 rfl) ?_
        obtain ⟨r11, S11, e11, h⟩ := obd2_ex h
        refine k_S (As := [.int x2, .int v8]) (rest := []) (st1 := [.int r11]) C kx hK I hA (c_X11_has e11) ⟨Nat.le_of_ble_eq_true rfl, Nat.le_of_ble_eq_true rfl⟩ ms_X11_has lk_X11_85 rfl hl.1 rfl (Nat.le_of_ble_eq_true rfl) dX11_readsThings_42 rfl (fun H locs I => ?_)
        refine lv_if_eq (tgt := 50) hx hb dX11_readsThings_45 (by decide) (fun c12 => ?_) (fun c12 => ?_)
        · have h := ite_t c12 h
          refine lv_iload_n hx hb dX11_readsThings_50 rfl (lv_at hl 3 rfl) ?_
          refine lv_iconst (v := 1) hx hb dX11_readsThings_51 (by decide) ?_
          refine lv_iload hx hb dX11_readsThings_52 (lv_at hl 0 rfl) ?_
          refine lv_ishl hx hb dX11_readsThings_54 ?_
          refine lv_ior hx hb dX11_readsThings_55 ?_
          refine lv_topi (fun v13 ev13 => ?_)
          have h := bnd_at ev13 h
          clear ev13
          refine lv_istore_n (lv' := [(2, .int v13), (4, .int v8), (0, .ref (ad 0)), (1, .int x1), (3, .int x3)]) hx hb dX11_readsThings_56 rfl hl (by decide) rfl (fun ls hl => ?_)
          obtain ⟨v14, ev14⟩ : ∃ y : Int32, y = x3 + 1 := ⟨_, rfl⟩
          have h := bnd_at ev14 h
          refine lv_iinc (v := v14) (lv' := [(3, .int v14), (2, .int v13), (4, .int v8), (0, .ref (ad 0)), (1, .int x1)]) hx hb dX11_readsThings_57 hl (k := 4) rfl (by rw [ev14]; rfl) (by decide) rfl (fun ls hl => ?_)
          clear ev14
          refine lv_goto (tgt := 7) hx hb dX11_readsThings_60 (by decide) ?_
          exact hk_7 _ _ _ _ h _ _ _ I (lv_sub hl [3, 4, 1, 0] rfl)
        · have h := ite_n c12 h
          refine lv_iconst (v := 0) hx hb dX11_readsThings_48 (by decide) ?_
          exact rt_z (Or.inl rfl) hq h I dX11_readsThings_49
  have J_7 : ∀ (fu : Nat) (S : St) (x1 : Int32) (x2 : Int32) (x3 : Int32), l_X11_readsThings_7  fu S x1 x2 x3 = some (r, S1) → ∀ (H : Heap) (locs : List Loc) (ls : Array Slot), Iv D (mw cI ad) S A s H locs → lv_has ls 5 [(0, .ref (ad 0)), (1, .int x1), (2, .int x2), (3, .int x3)] → W p l e ({ frames := 2, cells := 0, slots := 0, locals := 40 } : Room) s m args below meth c H locs 0 0 Q (F0 m 7 ls []) := by
    intro fu
    induction fu with
    | zero => intro S x1 x2 x3 h; cases h
    | succ fu ih => intro S x1 x2 x3 h; exact B_7 (l_X11_readsThings_7 fu) ih S x1 x2 x3 h
  unfold f_X11_readsThings at h
  refine lv_iconst (v := 0) hx hb dX11_readsThings_0 (by decide) ?_
  refine lv_istore_n (lv' := [(2, .int 0), (0, .ref (ad 0)), (1, .int x1)]) hx hb dX11_readsThings_1 rfl hl (by decide) rfl (fun ls hl => ?_)
  refine lv_aload_n hx hb dX11_readsThings_2 rfl (lv_at hl 1 rfl) ?_
  refine gm_0_18 C hK I fl_X11_67 dX11_readsThings_3 ?_
  refine lv_topi (fun v15 ev15 => ?_)
  have h := bnd_at ev15 h
  clear ev15
  refine lv_istore_n (lv' := [(3, .int v15), (2, .int 0), (0, .ref (ad 0)), (1, .int x1)]) hx hb dX11_readsThings_6 rfl hl (by decide) rfl (fun ls hl => ?_)
  exact J_7 _ _ _ _ _ h _ _ _ I (lv_sub hl [2, 3, 1, 0] rfl)
theorem cn_X11_89 : Cond.constantLong RX11 89 ((97)) ∈ TT := tt_of 1245 (by decide +kernel) rfl
theorem cn_X11_91 : Cond.constantLong RX11 91 ((104)) ∈ TT := tt_of 1246 (by decide +kernel) rfl
theorem lk_X11_93 : Cond.methodLink RX11 93 yX11_reads ∈ TT := tt_of 1247 (by decide +kernel) rfl
theorem mv_X11_reads : MV yX11_reads cX11_reads 6 (some .boolean) 3 := ⟨tt_of 1250 (by decide +kernel) rfl, tt_of 1249 (by decide +kernel) rfl, tt_of 27 (by decide +kernel) rfl, tt_of 76 (by decide +kernel) rfl, ⟨by decide +kernel, by decide +kernel, by decide +kernel⟩⟩
theorem cn_X11_97 : Cond.constant RX11 97 (409076) ∈ TT := tt_of 1251 (by decide +kernel) rfl
theorem lk_X11_98 : Cond.methodLink RX11 98 yX11_isWord ∈ TT := tt_of 1232 (by decide +kernel) rfl
theorem mv_X11_isWord : MV yX11_isWord cX11_isWord 5 (some .boolean) 2 := ⟨tt_of 1235 (by decide +kernel) rfl, tt_of 1234 (by decide +kernel) rfl, tt_of 25 (by decide +kernel) rfl, tt_of 76 (by decide +kernel) rfl, ⟨by decide +kernel, by decide +kernel, by decide +kernel⟩⟩
theorem cn_X11_101 : Cond.constant RX11 101 (673840) ∈ TT := tt_of 1252 (by decide +kernel) rfl
theorem dX11_readsThing_0 : decode cX11_readsThing 0 = .ok (.aload_n 0, 1) := by decide +kernel
theorem dX11_readsThing_1 : decode cX11_readsThing 1 = .ok (.getfield 74, 3) := by decide +kernel
theorem dX11_readsThing_4 : decode cX11_readsThing 4 = .ok (.aload_n 0, 1) := by decide +kernel
theorem dX11_readsThing_5 : decode cX11_readsThing 5 = .ok (.getfield 67, 3) := by decide +kernel
theorem dX11_readsThing_8 : decode cX11_readsThing 8 = .ok (.isub, 1) := by decide +kernel
theorem dX11_readsThing_9 : decode cX11_readsThing 9 = .ok (.iconst 1, 1) := by decide +kernel
theorem dX11_readsThing_10 : decode cX11_readsThing 10 = .ok (.if_icmp .ne 25, 3) := by decide +kernel
theorem dX11_readsThing_13 : decode cX11_readsThing 13 = .ok (.aload_n 0, 1) := by decide +kernel
theorem dX11_readsThing_14 : decode cX11_readsThing 14 = .ok (.getfield 7, 3) := by decide +kernel
theorem dX11_readsThing_17 : decode cX11_readsThing 17 = .ok (.aload_n 0, 1) := by decide +kernel
theorem dX11_readsThing_18 : decode cX11_readsThing 18 = .ok (.getfield 67, 3) := by decide +kernel
theorem dX11_readsThing_21 : decode cX11_readsThing 21 = .ok (.iaload, 1) := by decide +kernel
theorem dX11_readsThing_22 : decode cX11_readsThing 22 = .ok (.i2l, 1) := by decide +kernel
theorem dX11_readsThing_23 : decode cX11_readsThing 23 = .ok (.ldc2_w 89, 3) := by decide +kernel
theorem dX11_readsThing_26 : decode cX11_readsThing 26 = .ok (.ldc2_w 91, 3) := by decide +kernel
theorem dX11_readsThing_29 : decode cX11_readsThing 29 = .ok (.invokestatic 55, 3) := by decide +kernel
theorem dX11_readsThing_32 : decode cX11_readsThing 32 = .ok (.ifCond .ne 5, 3) := by decide +kernel
theorem dX11_readsThing_35 : decode cX11_readsThing 35 = .ok (.iconst 0, 1) := by decide +kernel
theorem dX11_readsThing_36 : decode cX11_readsThing 36 = .ok (.ireturn, 1) := by decide +kernel
theorem dX11_readsThing_37 : decode cX11_readsThing 37 = .ok (.aload_n 0, 1) := by decide +kernel
theorem dX11_readsThing_38 : decode cX11_readsThing 38 = .ok (.getfield 13, 3) := by decide +kernel
theorem dX11_readsThing_41 : decode cX11_readsThing 41 = .ok (.bipush 8, 2) := by decide +kernel
theorem dX11_readsThing_43 : decode cX11_readsThing 43 = .ok (.aload_n 0, 1) := by decide +kernel
theorem dX11_readsThing_44 : decode cX11_readsThing 44 = .ok (.getfield 77, 3) := by decide +kernel
theorem dX11_readsThing_47 : decode cX11_readsThing 47 = .ok (.imul, 1) := by decide +kernel
theorem dX11_readsThing_48 : decode cX11_readsThing 48 = .ok (.iconst 1, 1) := by decide +kernel
theorem dX11_readsThing_49 : decode cX11_readsThing 49 = .ok (.iadd, 1) := by decide +kernel
theorem dX11_readsThing_50 : decode cX11_readsThing 50 = .ok (.aload_n 0, 1) := by decide +kernel
theorem dX11_readsThing_51 : decode cX11_readsThing 51 = .ok (.getfield 7, 3) := by decide +kernel
theorem dX11_readsThing_54 : decode cX11_readsThing 54 = .ok (.aload_n 0, 1) := by decide +kernel
theorem dX11_readsThing_55 : decode cX11_readsThing 55 = .ok (.getfield 67, 3) := by decide +kernel
theorem dX11_readsThing_58 : decode cX11_readsThing 58 = .ok (.iaload, 1) := by decide +kernel
theorem dX11_readsThing_59 : decode cX11_readsThing 59 = .ok (.bipush 97, 2) := by decide +kernel
theorem dX11_readsThing_61 : decode cX11_readsThing 61 = .ok (.isub, 1) := by decide +kernel
theorem dX11_readsThing_62 : decode cX11_readsThing 62 = .ok (.iastore, 1) := by decide +kernel
theorem dX11_readsThing_63 : decode cX11_readsThing 63 = .ok (.aload_n 0, 1) := by decide +kernel
theorem dX11_readsThing_64 : decode cX11_readsThing 64 = .ok (.invokevirtual 80, 3) := by decide +kernel
theorem dX11_readsThing_67 : decode cX11_readsThing 67 = .ok (.aload_n 0, 1) := by decide +kernel
theorem dX11_readsThing_68 : decode cX11_readsThing 68 = .ok (.iconst 1, 1) := by decide +kernel
theorem dX11_readsThing_69 : decode cX11_readsThing 69 = .ok (.iconst 1, 1) := by decide +kernel
theorem dX11_readsThing_70 : decode cX11_readsThing 70 = .ok (.bipush 99, 2) := by decide +kernel
theorem dX11_readsThing_72 : decode cX11_readsThing 72 = .ok (.invokevirtual 93, 3) := by decide +kernel
theorem dX11_readsThing_75 : decode cX11_readsThing 75 = .ok (.ifCond .eq 14, 3) := by decide +kernel
theorem dX11_readsThing_78 : decode cX11_readsThing 78 = .ok (.aload_n 0, 1) := by decide +kernel
theorem dX11_readsThing_79 : decode cX11_readsThing 79 = .ok (.iconst 2, 1) := by decide +kernel
theorem dX11_readsThing_80 : decode cX11_readsThing 80 = .ok (.iconst 0, 1) := by decide +kernel
theorem dX11_readsThing_81 : decode cX11_readsThing 81 = .ok (.bipush 99, 2) := by decide +kernel
theorem dX11_readsThing_83 : decode cX11_readsThing 83 = .ok (.invokevirtual 93, 3) := by decide +kernel
theorem dX11_readsThing_86 : decode cX11_readsThing 86 = .ok (.ifCond .ne 5, 3) := by decide +kernel
theorem dX11_readsThing_89 : decode cX11_readsThing 89 = .ok (.iconst 0, 1) := by decide +kernel
theorem dX11_readsThing_90 : decode cX11_readsThing 90 = .ok (.ireturn, 1) := by decide +kernel
theorem dX11_readsThing_91 : decode cX11_readsThing 91 = .ok (.aload_n 0, 1) := by decide +kernel
theorem dX11_readsThing_92 : decode cX11_readsThing 92 = .ok (.ldc 97, 2) := by decide +kernel
theorem dX11_readsThing_94 : decode cX11_readsThing 94 = .ok (.iconst 4, 1) := by decide +kernel
theorem dX11_readsThing_95 : decode cX11_readsThing 95 = .ok (.invokevirtual 98, 3) := by decide +kernel
theorem dX11_readsThing_98 : decode cX11_readsThing 98 = .ok (.istore_n 1, 1) := by decide +kernel
theorem dX11_readsThing_99 : decode cX11_readsThing 99 = .ok (.iload_n 1, 1) := by decide +kernel
theorem dX11_readsThing_100 : decode cX11_readsThing 100 = .ok (.ifCond .ne 15, 3) := by decide +kernel
theorem dX11_readsThing_103 : decode cX11_readsThing 103 = .ok (.aload_n 0, 1) := by decide +kernel
theorem dX11_readsThing_104 : decode cX11_readsThing 104 = .ok (.ldc 101, 2) := by decide +kernel
theorem dX11_readsThing_106 : decode cX11_readsThing 106 = .ok (.iconst 4, 1) := by decide +kernel
theorem dX11_readsThing_107 : decode cX11_readsThing 107 = .ok (.invokevirtual 98, 3) := by decide +kernel
theorem dX11_readsThing_110 : decode cX11_readsThing 110 = .ok (.ifCond .ne 5, 3) := by decide +kernel
theorem dX11_readsThing_113 : decode cX11_readsThing 113 = .ok (.iconst 0, 1) := by decide +kernel
theorem dX11_readsThing_114 : decode cX11_readsThing 114 = .ok (.ireturn, 1) := by decide +kernel
theorem dX11_readsThing_115 : decode cX11_readsThing 115 = .ok (.aload_n 0, 1) := by decide +kernel
theorem dX11_readsThing_116 : decode cX11_readsThing 116 = .ok (.getfield 13, 3) := by decide +kernel
theorem dX11_readsThing_119 : decode cX11_readsThing 119 = .ok (.bipush 8, 2) := by decide +kernel
theorem dX11_readsThing_121 : decode cX11_readsThing 121 = .ok (.aload_n 0, 1) := by decide +kernel
theorem dX11_readsThing_122 : decode cX11_readsThing 122 = .ok (.getfield 77, 3) := by decide +kernel
theorem dX11_readsThing_125 : decode cX11_readsThing 125 = .ok (.imul, 1) := by decide +kernel
theorem dX11_readsThing_126 : decode cX11_readsThing 126 = .ok (.iconst 4, 1) := by decide +kernel
theorem dX11_readsThing_127 : decode cX11_readsThing 127 = .ok (.iadd, 1) := by decide +kernel
theorem dX11_readsThing_128 : decode cX11_readsThing 128 = .ok (.iload_n 1, 1) := by decide +kernel
theorem dX11_readsThing_129 : decode cX11_readsThing 129 = .ok (.ifCond .eq 7, 3) := by decide +kernel
theorem dX11_readsThing_132 : decode cX11_readsThing 132 = .ok (.iconst 1, 1) := by decide +kernel
theorem dX11_readsThing_133 : decode cX11_readsThing 133 = .ok (.goto 4, 3) := by decide +kernel
theorem dX11_readsThing_136 : decode cX11_readsThing 136 = .ok (.iconst 0, 1) := by decide +kernel
theorem dX11_readsThing_137 : decode cX11_readsThing 137 = .ok (.iastore, 1) := by decide +kernel
theorem dX11_readsThing_138 : decode cX11_readsThing 138 = .ok (.aload_n 0, 1) := by decide +kernel
theorem dX11_readsThing_139 : decode cX11_readsThing 139 = .ok (.invokevirtual 80, 3) := by decide +kernel
theorem dX11_readsThing_142 : decode cX11_readsThing 142 = .ok (.iconst 1, 1) := by decide +kernel
theorem dX11_readsThing_143 : decode cX11_readsThing 143 = .ok (.ireturn, 1) := by decide +kernel
def f_X11_readsThing_137 (S : St) (t1 : Int32) (t2 : Int32) : Option (Int32 × St) :=
  chk (ixo t1 80) <|
  bnd (setI S 2 (t1).toNatClampNeg t2) fun S2 =>
  obd (f_X11_token S2 ) fun S3 =>
  some (1, S3)
def f_X11_readsThing_115 (S : St) (x1 : Int32) : Option (Int32 × St) :=
  if x1 = 0 then (
    f_X11_readsThing_137 S ((8 * (S.1 0 3)) + 4) 0
  ) else (
    f_X11_readsThing_137 S ((8 * (S.1 0 3)) + 4) 1
  )
def f_X11_readsThing (S : St)  : Option (Int32 × St) :=
  if ((S.1 0 19) - (S.1 0 18)) = 1 then (
    chk (ixo (S.1 0 18) 200) <|
    obd2 (f_X11_in S (((S.1 1 ((S.1 0 18)).toNatClampNeg) : Int32).toInt64) (97) (104)) fun r7 S7 =>
    if r7 = 0 then (
      some (0, S7)
    ) else (
      chk (ixo (S7.1 0 18) 200) <|
      chk (ixo ((8 * (S7.1 0 3)) + 1) 80) <|
      bnd (setI S7 2 (((8 * (S7.1 0 3)) + 1)).toNatClampNeg ((S7.1 1 ((S7.1 0 18)).toNatClampNeg) - 97)) fun S11 =>
      obd (f_X11_token S11 ) fun S12 =>
      obd2 (f_X11_reads S12 1 1 99) fun r13 S13 =>
      if r13 = 0 then (
        some (0, S13)
      ) else (
        obd2 (f_X11_reads S13 2 0 99) fun r15 S15 =>
        if r15 = 0 then (
          some (0, S15)
        ) else (
          obd2 (f_X11_isWord S15 409076 4) fun r17 S17 =>
          if r17 = 0 then (
            obd2 (f_X11_isWord S17 673840 4) fun r19 S19 =>
            if r19 = 0 then (
              some (0, S19)
            ) else (
              f_X11_readsThing_115 S19 r17
            )
          ) else (
            f_X11_readsThing_115 S17 r17
          )
        )
      )
    )
  ) else (
    some (0, S)
  )
set_option maxHeartbeats 4000000 in
set_option maxRecDepth 100000 in
theorem c_X11_readsThing {l : Launch} {D : va_G} {cI cC cS : ClassId} {ad adK adV : Nat → Nat} {S S1 : St}  {r : Int32} (h : f_X11_readsThing S  = some (r, S1)) : Kt l D (mw cI ad) (KX D (xtys cI cC cS) adK adV) yX11_readsThing cX11_readsThing 2 (some .boolean) (3) (65) [.ref (ad 0)] S (some (.int r)) S1 := by
  refine k_entz (by decide +kernel) (Nat.le_of_ble_eq_true rfl) ?_
  intro p e s m args below meth c A Q C hK I hA hq ls hl
  have C : CallFix p m c cX11_readsThing 2 s args TT RX11 := C
  have hx := C.1
  have hb := C.2.1
  have kx := kx_ok D (xtys cI cC cS) adK adV
  have hl : lv_has ls 2 [(0, .ref (ad 0))] := hl
  have J_137 : ∀ (S : St) (t1 : Int32) (t2 : Int32), f_X11_readsThing_137  S t1 t2 = some (r, S1) → ∀ (H : Heap) (locs : List Loc) (ls : Array Slot), Iv D (mw cI ad) S A s H locs → lv_has ls 2 [(0, .ref (ad 0))] → W p l e ({ frames := 3, cells := 0, slots := 0, locals := 65 } : Room) s m args below meth c H locs 0 0 Q (F0 m 137 ls [.int t2, .int t1, .ref (ad 2)]) := by
    intro  S t1 t2 h H locs ls I hl
    unfold f_X11_readsThing_137 at h
    obtain ⟨hv1, h⟩ := chk_ex h
    refine bm_2 C hK I hv1 dX11_readsThing_137 (fun S2 eS2 H locs I => ?_)
    have h := bnd_at eS2 h
    clear eS2
    refine lv_aload_n hx hb dX11_readsThing_138 rfl (lv_at hl 0 rfl) ?_
    obtain ⟨S3, e3, h⟩ := obd_ex h
    refine k_V (As := []) (rest := []) (st1 := []) C kx hK I hA (c_X11_token e3) ⟨Nat.le_of_ble_eq_true rfl, Nat.le_of_ble_eq_true rfl⟩ mv_X11_token lk_X11_80 0 11 (mw_0 (cI := cI) (ad := ad)) rfl rfl hl.1 rfl (Nat.le_of_ble_eq_true rfl) dX11_readsThing_139 rfl (fun H locs I => ?_)
    refine lv_iconst (v := 1) hx hb dX11_readsThing_142 (by decide) ?_
    exact rt_z (Or.inr rfl) hq h I dX11_readsThing_143
  have J_115 : ∀ (S : St) (x1 : Int32), f_X11_readsThing_115  S x1 = some (r, S1) → ∀ (H : Heap) (locs : List Loc) (ls : Array Slot), Iv D (mw cI ad) S A s H locs → lv_has ls 2 [(0, .ref (ad 0)), (1, .int x1)] → W p l e ({ frames := 3, cells := 0, slots := 0, locals := 65 } : Room) s m args below meth c H locs 0 0 Q (F0 m 115 ls []) := by
    intro  S x1 h H locs ls I hl
    unfold f_X11_readsThing_115 at h
    refine lv_aload_n hx hb dX11_readsThing_115 rfl (lv_at hl 0 rfl) ?_
    refine gm_0_2 C hK I fl_X11_13 dX11_readsThing_116 ?_
    refine lv_bipush (v := 8) hx hb dX11_readsThing_119 (by decide) ?_
    refine lv_aload_n hx hb dX11_readsThing_121 rfl (lv_at hl 0 rfl) ?_
    refine gm_0_3 C hK I fl_X11_77 dX11_readsThing_122 ?_
    refine lv_imul hx hb dX11_readsThing_125 ?_
    refine lv_iconst (v := 4) hx hb dX11_readsThing_126 (by decide) ?_
    refine lv_iadd hx hb dX11_readsThing_127 ?_
    refine lv_iload_n hx hb dX11_readsThing_128 rfl (lv_at hl 1 rfl) ?_
    refine lv_if_eq (tgt := 136) hx hb dX11_readsThing_129 (by decide) (fun c4 => ?_) (fun c4 => ?_)
    · have h := ite_t c4 h
      refine lv_iconst (v := 0) hx hb dX11_readsThing_136 (by decide) ?_
      exact J_137 _ _ _ h _ _ _ I (lv_sub hl [0] rfl)
    · have h := ite_n c4 h
      refine lv_iconst (v := 1) hx hb dX11_readsThing_132 (by decide) ?_
      refine lv_goto (tgt := 137) hx hb dX11_readsThing_133 (by decide) ?_
      exact J_137 _ _ _ h _ _ _ I (lv_sub hl [0] rfl)
  unfold f_X11_readsThing at h
  refine lv_aload_n hx hb dX11_readsThing_0 rfl (lv_at hl 0 rfl) ?_
  refine gm_0_19 C hK I fl_X11_74 dX11_readsThing_1 ?_
  refine lv_aload_n hx hb dX11_readsThing_4 rfl (lv_at hl 0 rfl) ?_
  refine gm_0_18 C hK I fl_X11_67 dX11_readsThing_5 ?_
  refine lv_isub hx hb dX11_readsThing_8 ?_
  refine lv_iconst (v := 1) hx hb dX11_readsThing_9 (by decide) ?_
  refine lv_icmp_ne (tgt := 35) hx hb dX11_readsThing_10 (by decide) (fun c5 => ?_) (fun c5 => ?_)
  · have h := ite_n c5 h
    refine lv_iconst (v := 0) hx hb dX11_readsThing_35 (by decide) ?_
    exact rt_z (Or.inl rfl) hq h I dX11_readsThing_36
  · have h := ite_t c5 h
    refine lv_aload_n hx hb dX11_readsThing_13 rfl (lv_at hl 0 rfl) ?_
    refine gm_0_0 C hK I fl_X11_7 dX11_readsThing_14 ?_
    refine lv_aload_n hx hb dX11_readsThing_17 rfl (lv_at hl 0 rfl) ?_
    refine gm_0_18 C hK I fl_X11_67 dX11_readsThing_18 ?_
    obtain ⟨hv6, h⟩ := chk_ex h
    refine am_1 C hK I hv6 dX11_readsThing_21 ?_
    refine lv_i2l hx hb dX11_readsThing_22 rfl ?_
    refine lv_ldc2 (v := (97)) hx hb C.2.2.2.1 (C.2.2.2.2 _ cn_X11_89) dX11_readsThing_23 ?_
    refine lv_ldc2 (v := (104)) hx hb C.2.2.2.1 (C.2.2.2.2 _ cn_X11_91) dX11_readsThing_26 ?_
    obtain ⟨r7, S7, e7, h⟩ := obd2_ex h
    refine k_S (As := [.long (((S.1 1 ((S.1 0 18)).toNatClampNeg) : Int32).toInt64), .long (97), .long (104)]) (rest := []) (st1 := [.int r7]) C kx hK I hA (c_X11_in e7) ⟨Nat.le_of_ble_eq_true rfl, Nat.le_of_ble_eq_true rfl⟩ ms_X11_in lk_X11_55 rfl hl.1 rfl (Nat.le_of_ble_eq_true rfl) dX11_readsThing_29 rfl (fun H locs I => ?_)
    refine lv_if_ne (tgt := 37) hx hb dX11_readsThing_32 (by decide) (fun c8 => ?_) (fun c8 => ?_)
    · have h := ite_n c8 h
      refine lv_aload_n hx hb dX11_readsThing_37 rfl (lv_at hl 0 rfl) ?_
      refine gm_0_2 C hK I fl_X11_13 dX11_readsThing_38 ?_
      refine lv_bipush (v := 8) hx hb dX11_readsThing_41 (by decide) ?_
      refine lv_aload_n hx hb dX11_readsThing_43 rfl (lv_at hl 0 rfl) ?_
      refine gm_0_3 C hK I fl_X11_77 dX11_readsThing_44 ?_
      refine lv_imul hx hb dX11_readsThing_47 ?_
      refine lv_iconst (v := 1) hx hb dX11_readsThing_48 (by decide) ?_
      refine lv_iadd hx hb dX11_readsThing_49 ?_
      refine lv_aload_n hx hb dX11_readsThing_50 rfl (lv_at hl 0 rfl) ?_
      refine gm_0_0 C hK I fl_X11_7 dX11_readsThing_51 ?_
      refine lv_aload_n hx hb dX11_readsThing_54 rfl (lv_at hl 0 rfl) ?_
      refine gm_0_18 C hK I fl_X11_67 dX11_readsThing_55 ?_
      obtain ⟨hv9, h⟩ := chk_ex h
      refine am_1 C hK I hv9 dX11_readsThing_58 ?_
      refine lv_bipush (v := 97) hx hb dX11_readsThing_59 (by decide) ?_
      refine lv_isub hx hb dX11_readsThing_61 ?_
      obtain ⟨hv10, h⟩ := chk_ex h
      refine bm_2 C hK I hv10 dX11_readsThing_62 (fun S11 eS11 H locs I => ?_)
      have h := bnd_at eS11 h
      clear eS11
      refine lv_aload_n hx hb dX11_readsThing_63 rfl (lv_at hl 0 rfl) ?_
      obtain ⟨S12, e12, h⟩ := obd_ex h
      refine k_V (As := []) (rest := []) (st1 := []) C kx hK I hA (c_X11_token e12) ⟨Nat.le_of_ble_eq_true rfl, Nat.le_of_ble_eq_true rfl⟩ mv_X11_token lk_X11_80 0 11 (mw_0 (cI := cI) (ad := ad)) rfl rfl hl.1 rfl (Nat.le_of_ble_eq_true rfl) dX11_readsThing_64 rfl (fun H locs I => ?_)
      refine lv_aload_n hx hb dX11_readsThing_67 rfl (lv_at hl 0 rfl) ?_
      refine lv_iconst (v := 1) hx hb dX11_readsThing_68 (by decide) ?_
      refine lv_iconst (v := 1) hx hb dX11_readsThing_69 (by decide) ?_
      refine lv_bipush (v := 99) hx hb dX11_readsThing_70 (by decide) ?_
      obtain ⟨r13, S13, e13, h⟩ := obd2_ex h
      refine k_V (As := [.int 1, .int 1, .int 99]) (rest := []) (st1 := [.int r13]) C kx hK I hA (c_X11_reads e13) ⟨Nat.le_of_ble_eq_true rfl, Nat.le_of_ble_eq_true rfl⟩ mv_X11_reads lk_X11_93 0 11 (mw_0 (cI := cI) (ad := ad)) rfl rfl hl.1 rfl (Nat.le_of_ble_eq_true rfl) dX11_readsThing_72 rfl (fun H locs I => ?_)
      refine lv_if_eq (tgt := 89) hx hb dX11_readsThing_75 (by decide) (fun c14 => ?_) (fun c14 => ?_)
      · have h := ite_t c14 h
        refine lv_iconst (v := 0) hx hb dX11_readsThing_89 (by decide) ?_
        exact rt_z (Or.inl rfl) hq h I dX11_readsThing_90
      · have h := ite_n c14 h
        refine lv_aload_n hx hb dX11_readsThing_78 rfl (lv_at hl 0 rfl) ?_
        refine lv_iconst (v := 2) hx hb dX11_readsThing_79 (by decide) ?_
        refine lv_iconst (v := 0) hx hb dX11_readsThing_80 (by decide) ?_
        refine lv_bipush (v := 99) hx hb dX11_readsThing_81 (by decide) ?_
        obtain ⟨r15, S15, e15, h⟩ := obd2_ex h
        refine k_V (As := [.int 2, .int 0, .int 99]) (rest := []) (st1 := [.int r15]) C kx hK I hA (c_X11_reads e15) ⟨Nat.le_of_ble_eq_true rfl, Nat.le_of_ble_eq_true rfl⟩ mv_X11_reads lk_X11_93 0 11 (mw_0 (cI := cI) (ad := ad)) rfl rfl hl.1 rfl (Nat.le_of_ble_eq_true rfl) dX11_readsThing_83 rfl (fun H locs I => ?_)
        refine lv_if_ne (tgt := 91) hx hb dX11_readsThing_86 (by decide) (fun c16 => ?_) (fun c16 => ?_)
        · have h := ite_n c16 h
          refine lv_aload_n hx hb dX11_readsThing_91 rfl (lv_at hl 0 rfl) ?_
          refine lv_ldc (v := 409076) hx hb C.2.2.2.1 (C.2.2.2.2 _ cn_X11_97) dX11_readsThing_92 ?_
          refine lv_iconst (v := 4) hx hb dX11_readsThing_94 (by decide) ?_
          obtain ⟨r17, S17, e17, h⟩ := obd2_ex h
          refine k_V (As := [.int 409076, .int 4]) (rest := []) (st1 := [.int r17]) C kx hK I hA (c_X11_isWord e17) ⟨Nat.le_of_ble_eq_true rfl, Nat.le_of_ble_eq_true rfl⟩ mv_X11_isWord lk_X11_98 0 11 (mw_0 (cI := cI) (ad := ad)) rfl rfl hl.1 rfl (Nat.le_of_ble_eq_true rfl) dX11_readsThing_95 rfl (fun H locs I => ?_)
          refine lv_istore_n (lv' := [(1, .int r17), (0, .ref (ad 0))]) hx hb dX11_readsThing_98 rfl hl (by decide) rfl (fun ls hl => ?_)
          refine lv_iload_n hx hb dX11_readsThing_99 rfl (lv_at hl 0 rfl) ?_
          refine lv_if_ne (tgt := 115) hx hb dX11_readsThing_100 (by decide) (fun c18 => ?_) (fun c18 => ?_)
          · have h := ite_n c18 h
            exact J_115 _ _ h _ _ _ I (lv_sub hl [1, 0] rfl)
          · have h := ite_t c18 h
            refine lv_aload_n hx hb dX11_readsThing_103 rfl (lv_at hl 1 rfl) ?_
            refine lv_ldc (v := 673840) hx hb C.2.2.2.1 (C.2.2.2.2 _ cn_X11_101) dX11_readsThing_104 ?_
            refine lv_iconst (v := 4) hx hb dX11_readsThing_106 (by decide) ?_
            obtain ⟨r19, S19, e19, h⟩ := obd2_ex h
            refine k_V (As := [.int 673840, .int 4]) (rest := []) (st1 := [.int r19]) C kx hK I hA (c_X11_isWord e19) ⟨Nat.le_of_ble_eq_true rfl, Nat.le_of_ble_eq_true rfl⟩ mv_X11_isWord lk_X11_98 0 11 (mw_0 (cI := cI) (ad := ad)) rfl rfl hl.1 rfl (Nat.le_of_ble_eq_true rfl) dX11_readsThing_107 rfl (fun H locs I => ?_)
            refine lv_if_ne (tgt := 115) hx hb dX11_readsThing_110 (by decide) (fun c20 => ?_) (fun c20 => ?_)
            · have h := ite_n c20 h
              exact J_115 _ _ h _ _ _ I (lv_sub hl [1, 0] rfl)
            · have h := ite_t c20 h
              refine lv_iconst (v := 0) hx hb dX11_readsThing_113 (by decide) ?_
              exact rt_z (Or.inl rfl) hq h I dX11_readsThing_114
        · have h := ite_t c16 h
          refine lv_iconst (v := 0) hx hb dX11_readsThing_89 (by decide) ?_
          exact rt_z (Or.inl rfl) hq h I dX11_readsThing_90
    · have h := ite_t c8 h
      refine lv_iconst (v := 0) hx hb dX11_readsThing_35 (by decide) ?_
      exact rt_z (Or.inl rfl) hq h I dX11_readsThing_36
theorem dX11_number_0 : decode cX11_number 0 = .ok (.iconst 0, 1) := by decide +kernel
theorem dX11_number_1 : decode cX11_number 1 = .ok (.istore_n 1, 1) := by decide +kernel
theorem dX11_number_2 : decode cX11_number 2 = .ok (.aload_n 0, 1) := by decide +kernel
theorem dX11_number_3 : decode cX11_number 3 = .ok (.getfield 67, 3) := by decide +kernel
theorem dX11_number_6 : decode cX11_number 6 = .ok (.istore_n 2, 1) := by decide +kernel
theorem dX11_number_7 : decode cX11_number 7 = .ok (.iload_n 2, 1) := by decide +kernel
theorem dX11_number_8 : decode cX11_number 8 = .ok (.aload_n 0, 1) := by decide +kernel
theorem dX11_number_9 : decode cX11_number 9 = .ok (.getfield 74, 3) := by decide +kernel
theorem dX11_number_12 : decode cX11_number 12 = .ok (.if_icmp .ge 24, 3) := by decide +kernel
theorem dX11_number_15 : decode cX11_number 15 = .ok (.bipush 10, 2) := by decide +kernel
theorem dX11_number_17 : decode cX11_number 17 = .ok (.iload_n 1, 1) := by decide +kernel
theorem dX11_number_18 : decode cX11_number 18 = .ok (.imul, 1) := by decide +kernel
theorem dX11_number_19 : decode cX11_number 19 = .ok (.aload_n 0, 1) := by decide +kernel
theorem dX11_number_20 : decode cX11_number 20 = .ok (.getfield 7, 3) := by decide +kernel
theorem dX11_number_23 : decode cX11_number 23 = .ok (.iload_n 2, 1) := by decide +kernel
theorem dX11_number_24 : decode cX11_number 24 = .ok (.iaload, 1) := by decide +kernel
theorem dX11_number_25 : decode cX11_number 25 = .ok (.iadd, 1) := by decide +kernel
theorem dX11_number_26 : decode cX11_number 26 = .ok (.bipush 48, 2) := by decide +kernel
theorem dX11_number_28 : decode cX11_number 28 = .ok (.isub, 1) := by decide +kernel
theorem dX11_number_29 : decode cX11_number 29 = .ok (.istore_n 1, 1) := by decide +kernel
theorem dX11_number_30 : decode cX11_number 30 = .ok (.iinc 2 1, 3) := by decide +kernel
theorem dX11_number_33 : decode cX11_number 33 = .ok (.goto (-26), 3) := by decide +kernel
theorem dX11_number_36 : decode cX11_number 36 = .ok (.iload_n 1, 1) := by decide +kernel
theorem dX11_number_37 : decode cX11_number 37 = .ok (.ireturn, 1) := by decide +kernel
def f_X11_number_7 (k_7 : St → Int32 → Int32 → Option (Int32 × St)) (S : St) (x1 : Int32) (x2 : Int32) : Option (Int32 × St) :=
  if (S.1 0 19) ≤ x2 then (
    some (x1, S)
  ) else (
    chk (ixo x2 200) <|
    bnd ((((10 * x1) + (S.1 1 (x2).toNatClampNeg)) - 48) : Int32) fun v3 =>
    bnd (x2 + 1 : Int32) fun v4 =>
    k_7 S v3 v4
  )
def l_X11_number_7 : Nat → St → Int32 → Int32 → Option (Int32 × St)
  | 0, _, _, _ => none
  | fu + 1, S, x1, x2 => f_X11_number_7 (l_X11_number_7 fu) S x1 x2
def f_X11_number (S : St)  : Option (Int32 × St) :=
  bnd ((S.1 0 18) : Int32) fun v5 =>
  l_X11_number_7 FU S 0 v5
set_option maxHeartbeats 4000000 in
set_option maxRecDepth 100000 in
theorem c_X11_number {l : Launch} {D : va_G} {cI cC cS : ClassId} {ad adK adV : Nat → Nat} {S S1 : St}  {r : Int32} (h : f_X11_number S  = some (r, S1)) : Kt l D (mw cI ad) (KX D (xtys cI cC cS) adK adV) yX11_number cX11_number 3 (some .int) (0) (0) [.ref (ad 0)] S (some (.int r)) S1 := by
  refine k_ent (ins := .ireturn) (st := [.int r]) (by decide +kernel) (Nat.le_of_ble_eq_true rfl) ret_i ?_
  intro p e s m args below meth c A Q C hK I hA hq ls hl
  have C : CallFix p m c cX11_number 3 s args TT RX11 := C
  have hx := C.1
  have hb := C.2.1
  have kx := kx_ok D (xtys cI cC cS) adK adV
  have hl : lv_has ls 3 [(0, .ref (ad 0))] := hl
  have B_7 : ∀ (k_7 : St → Int32 → Int32 → Option (Int32 × St)) (hk_7 : ∀ (S : St) (x1 : Int32) (x2 : Int32), k_7 S x1 x2 = some (r, S1) → ∀ (H : Heap) (locs : List Loc) (ls : Array Slot), Iv D (mw cI ad) S A s H locs → lv_has ls 3 [(0, .ref (ad 0)), (1, .int x1), (2, .int x2)] → W p l e ({ frames := 0, cells := 0, slots := 0, locals := 0 } : Room) s m args below meth c H locs 0 0 Q (F0 m 7 ls [])) (S : St) (x1 : Int32) (x2 : Int32), f_X11_number_7 k_7 S x1 x2 = some (r, S1) → ∀ (H : Heap) (locs : List Loc) (ls : Array Slot), Iv D (mw cI ad) S A s H locs → lv_has ls 3 [(0, .ref (ad 0)), (1, .int x1), (2, .int x2)] → W p l e ({ frames := 0, cells := 0, slots := 0, locals := 0 } : Room) s m args below meth c H locs 0 0 Q (F0 m 7 ls []) := by
    intro k_7 hk_7 S x1 x2 h H locs ls I hl
    unfold f_X11_number_7 at h
    refine lv_iload_n hx hb dX11_number_7 rfl (lv_at hl 2 rfl) ?_
    refine lv_aload_n hx hb dX11_number_8 rfl (lv_at hl 0 rfl) ?_
    refine gm_0_19 C hK I fl_X11_74 dX11_number_9 ?_
    refine lv_icmp_ge (tgt := 36) hx hb dX11_number_12 (by decide) (fun c1 => ?_) (fun c1 => ?_)
    · have h := ite_t c1 h
      refine lv_iload_n hx hb dX11_number_36 rfl (lv_at hl 1 rfl) ?_
      exact rt_i hq h I dX11_number_37
    · have h := ite_n c1 h
      refine lv_bipush (v := 10) hx hb dX11_number_15 (by decide) ?_
      refine lv_iload_n hx hb dX11_number_17 rfl (lv_at hl 1 rfl) ?_
      refine lv_imul hx hb dX11_number_18 ?_
      refine lv_aload_n hx hb dX11_number_19 rfl (lv_at hl 0 rfl) ?_
      refine gm_0_0 C hK I fl_X11_7 dX11_number_20 ?_
      refine lv_iload_n hx hb dX11_number_23 rfl (lv_at hl 2 rfl) ?_
      obtain ⟨hv2, h⟩ := chk_ex h
      refine am_1 C hK I hv2 dX11_number_24 ?_
      refine lv_iadd hx hb dX11_number_25 ?_
      refine lv_bipush (v := 48) hx hb dX11_number_26 (by decide) ?_
      refine lv_isub hx hb dX11_number_28 ?_
      refine lv_topi (fun v3 ev3 => ?_)
      have h := bnd_at ev3 h
      clear ev3
      refine lv_istore_n (lv' := [(1, .int v3), (0, .ref (ad 0)), (2, .int x2)]) hx hb dX11_number_29 rfl hl (by decide) rfl (fun ls hl => ?_)
      obtain ⟨v4, ev4⟩ : ∃ y : Int32, y = x2 + 1 := ⟨_, rfl⟩
      have h := bnd_at ev4 h
      refine lv_iinc (v := v4) (lv' := [(2, .int v4), (1, .int v3), (0, .ref (ad 0))]) hx hb dX11_number_30 hl (k := 2) rfl (by rw [ev4]; rfl) (by decide) rfl (fun ls hl => ?_)
      clear ev4
      refine lv_goto (tgt := 7) hx hb dX11_number_33 (by decide) ?_
      exact hk_7 _ _ _ h _ _ _ I (lv_sub hl [2, 1, 0] rfl)
  have J_7 : ∀ (fu : Nat) (S : St) (x1 : Int32) (x2 : Int32), l_X11_number_7  fu S x1 x2 = some (r, S1) → ∀ (H : Heap) (locs : List Loc) (ls : Array Slot), Iv D (mw cI ad) S A s H locs → lv_has ls 3 [(0, .ref (ad 0)), (1, .int x1), (2, .int x2)] → W p l e ({ frames := 0, cells := 0, slots := 0, locals := 0 } : Room) s m args below meth c H locs 0 0 Q (F0 m 7 ls []) := by
    intro fu
    induction fu with
    | zero => intro S x1 x2 h; cases h
    | succ fu ih => intro S x1 x2 h; exact B_7 (l_X11_number_7 fu) ih S x1 x2 h
  unfold f_X11_number at h
  refine lv_iconst (v := 0) hx hb dX11_number_0 (by decide) ?_
  refine lv_istore_n (lv' := [(1, .int 0), (0, .ref (ad 0))]) hx hb dX11_number_1 rfl hl (by decide) rfl (fun ls hl => ?_)
  refine lv_aload_n hx hb dX11_number_2 rfl (lv_at hl 1 rfl) ?_
  refine gm_0_18 C hK I fl_X11_67 dX11_number_3 ?_
  refine lv_topi (fun v5 ev5 => ?_)
  have h := bnd_at ev5 h
  clear ev5
  refine lv_istore_n (lv' := [(2, .int v5), (1, .int 0), (0, .ref (ad 0))]) hx hb dX11_number_6 rfl hl (by decide) rfl (fun ls hl => ?_)
  exact J_7 _ _ _ _ h _ _ _ I (lv_sub hl [2, 1, 0] rfl)
theorem lk_X11_102 : Cond.methodLink RX11 102 yX11_number ∈ TT := tt_of 1257 (by decide +kernel) rfl
theorem mv_X11_number : MV yX11_number cX11_number 3 (some .int) 0 := ⟨tt_of 1260 (by decide +kernel) rfl, tt_of 1259 (by decide +kernel) rfl, tt_of 29 (by decide +kernel) rfl, tt_of 76 (by decide +kernel) rfl, ⟨by decide +kernel, by decide +kernel, by decide +kernel⟩⟩
theorem dX11_readsWay_0 : decode cX11_readsWay 0 = .ok (.aload_n 0, 1) := by decide +kernel
theorem dX11_readsWay_1 : decode cX11_readsWay 1 = .ok (.iconst 0, 1) := by decide +kernel
theorem dX11_readsWay_2 : decode cX11_readsWay 2 = .ok (.iconst 0, 1) := by decide +kernel
theorem dX11_readsWay_3 : decode cX11_readsWay 3 = .ok (.iconst 5, 1) := by decide +kernel
theorem dX11_readsWay_4 : decode cX11_readsWay 4 = .ok (.invokevirtual 93, 3) := by decide +kernel
theorem dX11_readsWay_7 : decode cX11_readsWay 7 = .ok (.ifCond .ne 5, 3) := by decide +kernel
theorem dX11_readsWay_10 : decode cX11_readsWay 10 = .ok (.iconst 0, 1) := by decide +kernel
theorem dX11_readsWay_11 : decode cX11_readsWay 11 = .ok (.ireturn, 1) := by decide +kernel
theorem dX11_readsWay_12 : decode cX11_readsWay 12 = .ok (.aload_n 0, 1) := by decide +kernel
theorem dX11_readsWay_13 : decode cX11_readsWay 13 = .ok (.getfield 67, 3) := by decide +kernel
theorem dX11_readsWay_16 : decode cX11_readsWay 16 = .ok (.aload_n 0, 1) := by decide +kernel
theorem dX11_readsWay_17 : decode cX11_readsWay 17 = .ok (.getfield 59, 3) := by decide +kernel
theorem dX11_readsWay_20 : decode cX11_readsWay 20 = .ok (.if_icmp .ge 57, 3) := by decide +kernel
theorem dX11_readsWay_23 : decode cX11_readsWay 23 = .ok (.aload_n 0, 1) := by decide +kernel
theorem dX11_readsWay_24 : decode cX11_readsWay 24 = .ok (.getfield 74, 3) := by decide +kernel
theorem dX11_readsWay_27 : decode cX11_readsWay 27 = .ok (.aload_n 0, 1) := by decide +kernel
theorem dX11_readsWay_28 : decode cX11_readsWay 28 = .ok (.getfield 67, 3) := by decide +kernel
theorem dX11_readsWay_31 : decode cX11_readsWay 31 = .ok (.isub, 1) := by decide +kernel
theorem dX11_readsWay_32 : decode cX11_readsWay 32 = .ok (.iconst 4, 1) := by decide +kernel
theorem dX11_readsWay_33 : decode cX11_readsWay 33 = .ok (.if_icmp .gt 44, 3) := by decide +kernel
theorem dX11_readsWay_36 : decode cX11_readsWay 36 = .ok (.aload_n 0, 1) := by decide +kernel
theorem dX11_readsWay_37 : decode cX11_readsWay 37 = .ok (.getfield 7, 3) := by decide +kernel
theorem dX11_readsWay_40 : decode cX11_readsWay 40 = .ok (.aload_n 0, 1) := by decide +kernel
theorem dX11_readsWay_41 : decode cX11_readsWay 41 = .ok (.getfield 67, 3) := by decide +kernel
theorem dX11_readsWay_44 : decode cX11_readsWay 44 = .ok (.iaload, 1) := by decide +kernel
theorem dX11_readsWay_45 : decode cX11_readsWay 45 = .ok (.invokestatic 70, 3) := by decide +kernel
theorem dX11_readsWay_48 : decode cX11_readsWay 48 = .ok (.iconst 2, 1) := by decide +kernel
theorem dX11_readsWay_49 : decode cX11_readsWay 49 = .ok (.if_icmp .ne 28, 3) := by decide +kernel
theorem dX11_readsWay_52 : decode cX11_readsWay 52 = .ok (.aload_n 0, 1) := by decide +kernel
theorem dX11_readsWay_53 : decode cX11_readsWay 53 = .ok (.invokevirtual 102, 3) := by decide +kernel
theorem dX11_readsWay_56 : decode cX11_readsWay 56 = .ok (.aload_n 0, 1) := by decide +kernel
theorem dX11_readsWay_57 : decode cX11_readsWay 57 = .ok (.getfield 13, 3) := by decide +kernel
theorem dX11_readsWay_60 : decode cX11_readsWay 60 = .ok (.bipush 8, 2) := by decide +kernel
theorem dX11_readsWay_62 : decode cX11_readsWay 62 = .ok (.aload_n 0, 1) := by decide +kernel
theorem dX11_readsWay_63 : decode cX11_readsWay 63 = .ok (.getfield 77, 3) := by decide +kernel
theorem dX11_readsWay_66 : decode cX11_readsWay 66 = .ok (.imul, 1) := by decide +kernel
theorem dX11_readsWay_67 : decode cX11_readsWay 67 = .ok (.iconst 1, 1) := by decide +kernel
theorem dX11_readsWay_68 : decode cX11_readsWay 68 = .ok (.iadd, 1) := by decide +kernel
theorem dX11_readsWay_69 : decode cX11_readsWay 69 = .ok (.iaload, 1) := by decide +kernel
theorem dX11_readsWay_70 : decode cX11_readsWay 70 = .ok (.if_icmp .ne 7, 3) := by decide +kernel
theorem dX11_readsWay_73 : decode cX11_readsWay 73 = .ok (.iconst 1, 1) := by decide +kernel
theorem dX11_readsWay_74 : decode cX11_readsWay 74 = .ok (.goto 4, 3) := by decide +kernel
theorem dX11_readsWay_77 : decode cX11_readsWay 77 = .ok (.iconst 0, 1) := by decide +kernel
theorem dX11_readsWay_78 : decode cX11_readsWay 78 = .ok (.istore_n 1, 1) := by decide +kernel
theorem dX11_readsWay_79 : decode cX11_readsWay 79 = .ok (.iload_n 1, 1) := by decide +kernel
theorem dX11_readsWay_80 : decode cX11_readsWay 80 = .ok (.ifCond .ne 29, 3) := by decide +kernel
theorem dX11_readsWay_83 : decode cX11_readsWay 83 = .ok (.aload_n 0, 1) := by decide +kernel
theorem dX11_readsWay_84 : decode cX11_readsWay 84 = .ok (.iconst 1, 1) := by decide +kernel
theorem dX11_readsWay_85 : decode cX11_readsWay 85 = .ok (.iconst 0, 1) := by decide +kernel
theorem dX11_readsWay_86 : decode cX11_readsWay 86 = .ok (.iconst 5, 1) := by decide +kernel
theorem dX11_readsWay_87 : decode cX11_readsWay 87 = .ok (.invokevirtual 93, 3) := by decide +kernel
theorem dX11_readsWay_90 : decode cX11_readsWay 90 = .ok (.ifCond .eq 19, 3) := by decide +kernel
theorem dX11_readsWay_93 : decode cX11_readsWay 93 = .ok (.aload_n 0, 1) := by decide +kernel
theorem dX11_readsWay_94 : decode cX11_readsWay 94 = .ok (.iconst 2, 1) := by decide +kernel
theorem dX11_readsWay_95 : decode cX11_readsWay 95 = .ok (.iconst 0, 1) := by decide +kernel
theorem dX11_readsWay_96 : decode cX11_readsWay 96 = .ok (.sipush 200, 3) := by decide +kernel
theorem dX11_readsWay_99 : decode cX11_readsWay 99 = .ok (.invokevirtual 93, 3) := by decide +kernel
theorem dX11_readsWay_102 : decode cX11_readsWay 102 = .ok (.ifCond .eq 7, 3) := by decide +kernel
theorem dX11_readsWay_105 : decode cX11_readsWay 105 = .ok (.iconst 1, 1) := by decide +kernel
theorem dX11_readsWay_106 : decode cX11_readsWay 106 = .ok (.goto 4, 3) := by decide +kernel
theorem dX11_readsWay_109 : decode cX11_readsWay 109 = .ok (.iconst 0, 1) := by decide +kernel
theorem dX11_readsWay_110 : decode cX11_readsWay 110 = .ok (.ireturn, 1) := by decide +kernel
def f_X11_readsWay_78 (S : St) (t0 : Int32) : Option (Int32 × St) :=
  if t0 = 0 then (
    obd2 (f_X11_reads S 1 0 5) fun r2 S2 =>
    if r2 = 0 then (
      some (0, S2)
    ) else (
      obd2 (f_X11_reads S2 2 0 200) fun r4 S4 =>
      if r4 = 0 then (
        some (0, S4)
      ) else (
        some (1, S4)
      )
    )
  ) else (
    some (0, S)
  )
def f_X11_readsWay_77 (S : St)  : Option (Int32 × St) :=
  f_X11_readsWay_78 S 0
def f_X11_readsWay (S : St)  : Option (Int32 × St) :=
  obd2 (f_X11_reads S 0 0 5) fun r6 S6 =>
  if r6 = 0 then (
    some (0, S6)
  ) else (
    if (S6.1 0 1) ≤ (S6.1 0 18) then (
      f_X11_readsWay_77 S6 
    ) else (
      if 4 < ((S6.1 0 19) - (S6.1 0 18)) then (
        f_X11_readsWay_77 S6 
      ) else (
        chk (ixo (S6.1 0 18) 200) <|
        obd2 (f_X11_kind S6 (S6.1 1 ((S6.1 0 18)).toNatClampNeg)) fun r11 S11 =>
        if r11 = 2 then (
          obd2 (f_X11_number S11 ) fun r13 S13 =>
          chk (ixo ((8 * (S13.1 0 3)) + 1) 80) <|
          if r13 = (S13.1 2 (((8 * (S13.1 0 3)) + 1)).toNatClampNeg) then (
            f_X11_readsWay_78 S13 1
          ) else (
            f_X11_readsWay_77 S13 
          )
        ) else (
          f_X11_readsWay_77 S11 
        )
      )
    )
  )
set_option maxHeartbeats 4000000 in
set_option maxRecDepth 100000 in
theorem c_X11_readsWay {l : Launch} {D : va_G} {cI cC cS : ClassId} {ad adK adV : Nat → Nat} {S S1 : St}  {r : Int32} (h : f_X11_readsWay S  = some (r, S1)) : Kt l D (mw cI ad) (KX D (xtys cI cC cS) adK adV) yX11_readsWay cX11_readsWay 2 (some .boolean) (3) (65) [.ref (ad 0)] S (some (.int r)) S1 := by
  refine k_entz (by decide +kernel) (Nat.le_of_ble_eq_true rfl) ?_
  intro p e s m args below meth c A Q C hK I hA hq ls hl
  have C : CallFix p m c cX11_readsWay 2 s args TT RX11 := C
  have hx := C.1
  have hb := C.2.1
  have kx := kx_ok D (xtys cI cC cS) adK adV
  have hl : lv_has ls 2 [(0, .ref (ad 0))] := hl
  have J_78 : ∀ (S : St) (t0 : Int32), f_X11_readsWay_78  S t0 = some (r, S1) → ∀ (H : Heap) (locs : List Loc) (ls : Array Slot), Iv D (mw cI ad) S A s H locs → lv_has ls 2 [(0, .ref (ad 0))] → W p l e ({ frames := 3, cells := 0, slots := 0, locals := 65 } : Room) s m args below meth c H locs 0 0 Q (F0 m 78 ls [.int t0]) := by
    intro  S t0 h H locs ls I hl
    unfold f_X11_readsWay_78 at h
    refine lv_istore_n (lv' := [(1, .int t0), (0, .ref (ad 0))]) hx hb dX11_readsWay_78 rfl hl (by decide) rfl (fun ls hl => ?_)
    refine lv_iload_n hx hb dX11_readsWay_79 rfl (lv_at hl 0 rfl) ?_
    refine lv_if_ne (tgt := 109) hx hb dX11_readsWay_80 (by decide) (fun c1 => ?_) (fun c1 => ?_)
    · have h := ite_n c1 h
      refine lv_iconst (v := 0) hx hb dX11_readsWay_109 (by decide) ?_
      exact rt_z (Or.inl rfl) hq h I dX11_readsWay_110
    · have h := ite_t c1 h
      refine lv_aload_n hx hb dX11_readsWay_83 rfl (lv_at hl 1 rfl) ?_
      refine lv_iconst (v := 1) hx hb dX11_readsWay_84 (by decide) ?_
      refine lv_iconst (v := 0) hx hb dX11_readsWay_85 (by decide) ?_
      refine lv_iconst (v := 5) hx hb dX11_readsWay_86 (by decide) ?_
      obtain ⟨r2, S2, e2, h⟩ := obd2_ex h
      refine k_V (As := [.int 1, .int 0, .int 5]) (rest := []) (st1 := [.int r2]) C kx hK I hA (c_X11_reads e2) ⟨Nat.le_of_ble_eq_true rfl, Nat.le_of_ble_eq_true rfl⟩ mv_X11_reads lk_X11_93 0 11 (mw_0 (cI := cI) (ad := ad)) rfl rfl hl.1 rfl (Nat.le_of_ble_eq_true rfl) dX11_readsWay_87 rfl (fun H locs I => ?_)
      refine lv_if_eq (tgt := 109) hx hb dX11_readsWay_90 (by decide) (fun c3 => ?_) (fun c3 => ?_)
      · have h := ite_t c3 h
        refine lv_iconst (v := 0) hx hb dX11_readsWay_109 (by decide) ?_
        exact rt_z (Or.inl rfl) hq h I dX11_readsWay_110
      · have h := ite_n c3 h
        refine lv_aload_n hx hb dX11_readsWay_93 rfl (lv_at hl 1 rfl) ?_
        refine lv_iconst (v := 2) hx hb dX11_readsWay_94 (by decide) ?_
        refine lv_iconst (v := 0) hx hb dX11_readsWay_95 (by decide) ?_
        refine lv_sipush (v := 200) hx hb dX11_readsWay_96 (by decide) ?_
        obtain ⟨r4, S4, e4, h⟩ := obd2_ex h
        refine k_V (As := [.int 2, .int 0, .int 200]) (rest := []) (st1 := [.int r4]) C kx hK I hA (c_X11_reads e4) ⟨Nat.le_of_ble_eq_true rfl, Nat.le_of_ble_eq_true rfl⟩ mv_X11_reads lk_X11_93 0 11 (mw_0 (cI := cI) (ad := ad)) rfl rfl hl.1 rfl (Nat.le_of_ble_eq_true rfl) dX11_readsWay_99 rfl (fun H locs I => ?_)
        refine lv_if_eq (tgt := 109) hx hb dX11_readsWay_102 (by decide) (fun c5 => ?_) (fun c5 => ?_)
        · have h := ite_t c5 h
          refine lv_iconst (v := 0) hx hb dX11_readsWay_109 (by decide) ?_
          exact rt_z (Or.inl rfl) hq h I dX11_readsWay_110
        · have h := ite_n c5 h
          refine lv_iconst (v := 1) hx hb dX11_readsWay_105 (by decide) ?_
          refine lv_goto (tgt := 110) hx hb dX11_readsWay_106 (by decide) ?_
          exact rt_z (Or.inr rfl) hq h I dX11_readsWay_110
  have J_77 : ∀ (S : St) , f_X11_readsWay_77  S  = some (r, S1) → ∀ (H : Heap) (locs : List Loc) (ls : Array Slot), Iv D (mw cI ad) S A s H locs → lv_has ls 2 [(0, .ref (ad 0))] → W p l e ({ frames := 3, cells := 0, slots := 0, locals := 65 } : Room) s m args below meth c H locs 0 0 Q (F0 m 77 ls []) := by
    intro  S  h H locs ls I hl
    unfold f_X11_readsWay_77 at h
    refine lv_iconst (v := 0) hx hb dX11_readsWay_77 (by decide) ?_
    exact J_78 _ _ h _ _ _ I (lv_sub hl [0] rfl)
  unfold f_X11_readsWay at h
  refine lv_aload_n hx hb dX11_readsWay_0 rfl (lv_at hl 0 rfl) ?_
  refine lv_iconst (v := 0) hx hb dX11_readsWay_1 (by decide) ?_
  refine lv_iconst (v := 0) hx hb dX11_readsWay_2 (by decide) ?_
  refine lv_iconst (v := 5) hx hb dX11_readsWay_3 (by decide) ?_
  obtain ⟨r6, S6, e6, h⟩ := obd2_ex h
  refine k_V (As := [.int 0, .int 0, .int 5]) (rest := []) (st1 := [.int r6]) C kx hK I hA (c_X11_reads e6) ⟨Nat.le_of_ble_eq_true rfl, Nat.le_of_ble_eq_true rfl⟩ mv_X11_reads lk_X11_93 0 11 (mw_0 (cI := cI) (ad := ad)) rfl rfl hl.1 rfl (Nat.le_of_ble_eq_true rfl) dX11_readsWay_4 rfl (fun H locs I => ?_)
  refine lv_if_ne (tgt := 12) hx hb dX11_readsWay_7 (by decide) (fun c7 => ?_) (fun c7 => ?_)
  · have h := ite_n c7 h
    refine lv_aload_n hx hb dX11_readsWay_12 rfl (lv_at hl 0 rfl) ?_
    refine gm_0_18 C hK I fl_X11_67 dX11_readsWay_13 ?_
    refine lv_aload_n hx hb dX11_readsWay_16 rfl (lv_at hl 0 rfl) ?_
    refine gm_0_1 C hK I fl_X11_59 dX11_readsWay_17 ?_
    refine lv_icmp_ge (tgt := 77) hx hb dX11_readsWay_20 (by decide) (fun c8 => ?_) (fun c8 => ?_)
    · have h := ite_t c8 h
      exact J_77 _  h _ _ _ I (lv_sub hl [0] rfl)
    · have h := ite_n c8 h
      refine lv_aload_n hx hb dX11_readsWay_23 rfl (lv_at hl 0 rfl) ?_
      refine gm_0_19 C hK I fl_X11_74 dX11_readsWay_24 ?_
      refine lv_aload_n hx hb dX11_readsWay_27 rfl (lv_at hl 0 rfl) ?_
      refine gm_0_18 C hK I fl_X11_67 dX11_readsWay_28 ?_
      refine lv_isub hx hb dX11_readsWay_31 ?_
      refine lv_iconst (v := 4) hx hb dX11_readsWay_32 (by decide) ?_
      refine lv_icmp_gt (tgt := 77) hx hb dX11_readsWay_33 (by decide) (fun c9 => ?_) (fun c9 => ?_)
      · have h := ite_t c9 h
        exact J_77 _  h _ _ _ I (lv_sub hl [0] rfl)
      · have h := ite_n c9 h
        refine lv_aload_n hx hb dX11_readsWay_36 rfl (lv_at hl 0 rfl) ?_
        refine gm_0_0 C hK I fl_X11_7 dX11_readsWay_37 ?_
        refine lv_aload_n hx hb dX11_readsWay_40 rfl (lv_at hl 0 rfl) ?_
        refine gm_0_18 C hK I fl_X11_67 dX11_readsWay_41 ?_
        obtain ⟨hv10, h⟩ := chk_ex h
        refine am_1 C hK I hv10 dX11_readsWay_44 ?_
        obtain ⟨r11, S11, e11, h⟩ := obd2_ex h
        refine k_S (As := [.int (S6.1 1 ((S6.1 0 18)).toNatClampNeg)]) (rest := []) (st1 := [.int r11]) C kx hK I hA (c_X11_kind e11) ⟨Nat.le_of_ble_eq_true rfl, Nat.le_of_ble_eq_true rfl⟩ ms_X11_kind lk_X11_70 rfl hl.1 rfl (Nat.le_of_ble_eq_true rfl) dX11_readsWay_45 rfl (fun H locs I => ?_)
        refine lv_iconst (v := 2) hx hb dX11_readsWay_48 (by decide) ?_
        refine lv_icmp_ne (tgt := 77) hx hb dX11_readsWay_49 (by decide) (fun c12 => ?_) (fun c12 => ?_)
        · have h := ite_n c12 h
          exact J_77 _  h _ _ _ I (lv_sub hl [0] rfl)
        · have h := ite_t c12 h
          refine lv_aload_n hx hb dX11_readsWay_52 rfl (lv_at hl 0 rfl) ?_
          obtain ⟨r13, S13, e13, h⟩ := obd2_ex h
          refine k_V (As := []) (rest := []) (st1 := [.int r13]) C kx hK I hA (c_X11_number e13) ⟨Nat.le_of_ble_eq_true rfl, Nat.le_of_ble_eq_true rfl⟩ mv_X11_number lk_X11_102 0 11 (mw_0 (cI := cI) (ad := ad)) rfl rfl hl.1 rfl (Nat.le_of_ble_eq_true rfl) dX11_readsWay_53 rfl (fun H locs I => ?_)
          refine lv_aload_n hx hb dX11_readsWay_56 rfl (lv_at hl 0 rfl) ?_
          refine gm_0_2 C hK I fl_X11_13 dX11_readsWay_57 ?_
          refine lv_bipush (v := 8) hx hb dX11_readsWay_60 (by decide) ?_
          refine lv_aload_n hx hb dX11_readsWay_62 rfl (lv_at hl 0 rfl) ?_
          refine gm_0_3 C hK I fl_X11_77 dX11_readsWay_63 ?_
          refine lv_imul hx hb dX11_readsWay_66 ?_
          refine lv_iconst (v := 1) hx hb dX11_readsWay_67 (by decide) ?_
          refine lv_iadd hx hb dX11_readsWay_68 ?_
          obtain ⟨hv14, h⟩ := chk_ex h
          refine am_2 C hK I hv14 dX11_readsWay_69 ?_
          refine lv_icmp_ne (tgt := 77) hx hb dX11_readsWay_70 (by decide) (fun c15 => ?_) (fun c15 => ?_)
          · have h := ite_n c15 h
            exact J_77 _  h _ _ _ I (lv_sub hl [0] rfl)
          · have h := ite_t c15 h
            refine lv_iconst (v := 1) hx hb dX11_readsWay_73 (by decide) ?_
            refine lv_goto (tgt := 78) hx hb dX11_readsWay_74 (by decide) ?_
            exact J_78 _ _ h _ _ _ I (lv_sub hl [0] rfl)
  · have h := ite_t c7 h
    refine lv_iconst (v := 0) hx hb dX11_readsWay_10 (by decide) ?_
    exact rt_z (Or.inl rfl) hq h I dX11_readsWay_11
theorem lk_X11_107 : Cond.methodLink RX11 107 yX11_readsThings ∈ TT := tt_of 1266 (by decide +kernel) rfl
theorem mv_X11_readsThings : MV yX11_readsThings cX11_readsThings 5 (some .boolean) 1 := ⟨tt_of 1269 (by decide +kernel) rfl, tt_of 1268 (by decide +kernel) rfl, tt_of 31 (by decide +kernel) rfl, tt_of 76 (by decide +kernel) rfl, ⟨by decide +kernel, by decide +kernel, by decide +kernel⟩⟩
theorem cn_X11_106 : Cond.constant RX11 106 (178670) ∈ TT := tt_of 1265 (by decide +kernel) rfl
theorem dX11_readsSort_0 : decode cX11_readsSort 0 = .ok (.bipush 8, 2) := by decide +kernel
theorem dX11_readsSort_2 : decode cX11_readsSort 2 = .ok (.aload_n 0, 1) := by decide +kernel
theorem dX11_readsSort_3 : decode cX11_readsSort 3 = .ok (.getfield 77, 3) := by decide +kernel
theorem dX11_readsSort_6 : decode cX11_readsSort 6 = .ok (.imul, 1) := by decide +kernel
theorem dX11_readsSort_7 : decode cX11_readsSort 7 = .ok (.istore_n 1, 1) := by decide +kernel
theorem dX11_readsSort_8 : decode cX11_readsSort 8 = .ok (.aload_n 0, 1) := by decide +kernel
theorem dX11_readsSort_9 : decode cX11_readsSort 9 = .ok (.iconst 0, 1) := by decide +kernel
theorem dX11_readsSort_10 : decode cX11_readsSort 10 = .ok (.iconst 0, 1) := by decide +kernel
theorem dX11_readsSort_11 : decode cX11_readsSort 11 = .ok (.iconst 5, 1) := by decide +kernel
theorem dX11_readsSort_12 : decode cX11_readsSort 12 = .ok (.invokevirtual 93, 3) := by decide +kernel
theorem dX11_readsSort_15 : decode cX11_readsSort 15 = .ok (.ifCond .eq 26, 3) := by decide +kernel
theorem dX11_readsSort_18 : decode cX11_readsSort 18 = .ok (.aload_n 0, 1) := by decide +kernel
theorem dX11_readsSort_19 : decode cX11_readsSort 19 = .ok (.iconst 1, 1) := by decide +kernel
theorem dX11_readsSort_20 : decode cX11_readsSort 20 = .ok (.iconst 1, 1) := by decide +kernel
theorem dX11_readsSort_21 : decode cX11_readsSort 21 = .ok (.bipush 20, 2) := by decide +kernel
theorem dX11_readsSort_23 : decode cX11_readsSort 23 = .ok (.invokevirtual 93, 3) := by decide +kernel
theorem dX11_readsSort_26 : decode cX11_readsSort 26 = .ok (.ifCond .eq 15, 3) := by decide +kernel
theorem dX11_readsSort_29 : decode cX11_readsSort 29 = .ok (.aload_n 0, 1) := by decide +kernel
theorem dX11_readsSort_30 : decode cX11_readsSort 30 = .ok (.iconst 2, 1) := by decide +kernel
theorem dX11_readsSort_31 : decode cX11_readsSort 31 = .ok (.iconst 0, 1) := by decide +kernel
theorem dX11_readsSort_32 : decode cX11_readsSort 32 = .ok (.sipush 200, 3) := by decide +kernel
theorem dX11_readsSort_35 : decode cX11_readsSort 35 = .ok (.invokevirtual 93, 3) := by decide +kernel
theorem dX11_readsSort_38 : decode cX11_readsSort 38 = .ok (.ifCond .ne 5, 3) := by decide +kernel
theorem dX11_readsSort_41 : decode cX11_readsSort 41 = .ok (.iconst 0, 1) := by decide +kernel
theorem dX11_readsSort_42 : decode cX11_readsSort 42 = .ok (.ireturn, 1) := by decide +kernel
theorem dX11_readsSort_43 : decode cX11_readsSort 43 = .ok (.aload_n 0, 1) := by decide +kernel
theorem dX11_readsSort_44 : decode cX11_readsSort 44 = .ok (.getfield 13, 3) := by decide +kernel
theorem dX11_readsSort_47 : decode cX11_readsSort 47 = .ok (.iload_n 1, 1) := by decide +kernel
theorem dX11_readsSort_48 : decode cX11_readsSort 48 = .ok (.iconst 4, 1) := by decide +kernel
theorem dX11_readsSort_49 : decode cX11_readsSort 49 = .ok (.iadd, 1) := by decide +kernel
theorem dX11_readsSort_50 : decode cX11_readsSort 50 = .ok (.iconst 0, 1) := by decide +kernel
theorem dX11_readsSort_51 : decode cX11_readsSort 51 = .ok (.iastore, 1) := by decide +kernel
theorem dX11_readsSort_52 : decode cX11_readsSort 52 = .ok (.aload_n 0, 1) := by decide +kernel
theorem dX11_readsSort_53 : decode cX11_readsSort 53 = .ok (.getfield 13, 3) := by decide +kernel
theorem dX11_readsSort_56 : decode cX11_readsSort 56 = .ok (.iload_n 1, 1) := by decide +kernel
theorem dX11_readsSort_57 : decode cX11_readsSort 57 = .ok (.iconst 5, 1) := by decide +kernel
theorem dX11_readsSort_58 : decode cX11_readsSort 58 = .ok (.iadd, 1) := by decide +kernel
theorem dX11_readsSort_59 : decode cX11_readsSort 59 = .ok (.iconst 0, 1) := by decide +kernel
theorem dX11_readsSort_60 : decode cX11_readsSort 60 = .ok (.iastore, 1) := by decide +kernel
theorem dX11_readsSort_61 : decode cX11_readsSort 61 = .ok (.aload_n 0, 1) := by decide +kernel
theorem dX11_readsSort_62 : decode cX11_readsSort 62 = .ok (.ldc 106, 2) := by decide +kernel
theorem dX11_readsSort_64 : decode cX11_readsSort 64 = .ok (.iconst 4, 1) := by decide +kernel
theorem dX11_readsSort_65 : decode cX11_readsSort 65 = .ok (.invokevirtual 98, 3) := by decide +kernel
theorem dX11_readsSort_68 : decode cX11_readsSort 68 = .ok (.istore_n 2, 1) := by decide +kernel
theorem dX11_readsSort_69 : decode cX11_readsSort 69 = .ok (.iload_n 2, 1) := by decide +kernel
theorem dX11_readsSort_70 : decode cX11_readsSort 70 = .ok (.ifCond .eq 7, 3) := by decide +kernel
theorem dX11_readsSort_73 : decode cX11_readsSort 73 = .ok (.aload_n 0, 1) := by decide +kernel
theorem dX11_readsSort_74 : decode cX11_readsSort 74 = .ok (.invokevirtual 80, 3) := by decide +kernel
theorem dX11_readsSort_77 : decode cX11_readsSort 77 = .ok (.iload_n 2, 1) := by decide +kernel
theorem dX11_readsSort_78 : decode cX11_readsSort 78 = .ok (.ifCond .ne 13, 3) := by decide +kernel
theorem dX11_readsSort_81 : decode cX11_readsSort 81 = .ok (.aload_n 0, 1) := by decide +kernel
theorem dX11_readsSort_82 : decode cX11_readsSort 82 = .ok (.iconst 3, 1) := by decide +kernel
theorem dX11_readsSort_83 : decode cX11_readsSort 83 = .ok (.invokevirtual 107, 3) := by decide +kernel
theorem dX11_readsSort_86 : decode cX11_readsSort 86 = .ok (.ifCond .ne 5, 3) := by decide +kernel
theorem dX11_readsSort_89 : decode cX11_readsSort 89 = .ok (.iconst 0, 1) := by decide +kernel
theorem dX11_readsSort_90 : decode cX11_readsSort 90 = .ok (.ireturn, 1) := by decide +kernel
theorem dX11_readsSort_91 : decode cX11_readsSort 91 = .ok (.aload_n 0, 1) := by decide +kernel
theorem dX11_readsSort_92 : decode cX11_readsSort 92 = .ok (.sipush 591, 3) := by decide +kernel
theorem dX11_readsSort_95 : decode cX11_readsSort 95 = .ok (.iconst 2, 1) := by decide +kernel
theorem dX11_readsSort_96 : decode cX11_readsSort 96 = .ok (.invokevirtual 98, 3) := by decide +kernel
theorem dX11_readsSort_99 : decode cX11_readsSort 99 = .ok (.ifCond .ne 5, 3) := by decide +kernel
theorem dX11_readsSort_102 : decode cX11_readsSort 102 = .ok (.iconst 1, 1) := by decide +kernel
theorem dX11_readsSort_103 : decode cX11_readsSort 103 = .ok (.ireturn, 1) := by decide +kernel
theorem dX11_readsSort_104 : decode cX11_readsSort 104 = .ok (.aload_n 0, 1) := by decide +kernel
theorem dX11_readsSort_105 : decode cX11_readsSort 105 = .ok (.invokevirtual 80, 3) := by decide +kernel
theorem dX11_readsSort_108 : decode cX11_readsSort 108 = .ok (.aload_n 0, 1) := by decide +kernel
theorem dX11_readsSort_109 : decode cX11_readsSort 109 = .ok (.iconst 4, 1) := by decide +kernel
theorem dX11_readsSort_110 : decode cX11_readsSort 110 = .ok (.invokevirtual 107, 3) := by decide +kernel
theorem dX11_readsSort_113 : decode cX11_readsSort 113 = .ok (.ireturn, 1) := by decide +kernel
def f_X11_readsSort_91 (S : St)  : Option (Int32 × St) :=
  obd2 (f_X11_isWord S 591 2) fun r1 S1 =>
  if r1 = 0 then (
    some (1, S1)
  ) else (
    obd (f_X11_token S1 ) fun S3 =>
    obd2 (f_X11_readsThings S3 4) fun r4 S4 =>
    chk (zb r4) <|
    some (r4, S4)
  )
def f_X11_readsSort_77 (S : St) (x2 : Int32) : Option (Int32 × St) :=
  if x2 = 0 then (
    obd2 (f_X11_readsThings S 3) fun r6 S6 =>
    if r6 = 0 then (
      some (0, S6)
    ) else (
      f_X11_readsSort_91 S6 
    )
  ) else (
    f_X11_readsSort_91 S 
  )
def f_X11_readsSort (S : St)  : Option (Int32 × St) :=
  bnd ((8 * (S.1 0 3)) : Int32) fun v8 =>
  obd2 (f_X11_reads S 0 0 5) fun r9 S9 =>
  if r9 = 0 then (
    some (0, S9)
  ) else (
    obd2 (f_X11_reads S9 1 1 20) fun r11 S11 =>
    if r11 = 0 then (
      some (0, S11)
    ) else (
      obd2 (f_X11_reads S11 2 0 200) fun r13 S13 =>
      if r13 = 0 then (
        some (0, S13)
      ) else (
        chk (ixo (v8 + 4) 80) <|
        bnd (setI S13 2 ((v8 + 4)).toNatClampNeg 0) fun S16 =>
        chk (ixo (v8 + 5) 80) <|
        bnd (setI S16 2 ((v8 + 5)).toNatClampNeg 0) fun S18 =>
        obd2 (f_X11_isWord S18 178670 4) fun r19 S19 =>
        if r19 = 0 then (
          f_X11_readsSort_77 S19 r19
        ) else (
          obd (f_X11_token S19 ) fun S21 =>
          f_X11_readsSort_77 S21 r19
        )
      )
    )
  )
set_option maxHeartbeats 4000000 in
set_option maxRecDepth 100000 in
theorem c_X11_readsSort {l : Launch} {D : va_G} {cI cC cS : ClassId} {ad adK adV : Nat → Nat} {S S1 : St}  {r : Int32} (h : f_X11_readsSort S  = some (r, S1)) : Kt l D (mw cI ad) (KX D (xtys cI cC cS) adK adV) yX11_readsSort cX11_readsSort 3 (some .boolean) (3) (65) [.ref (ad 0)] S (some (.int r)) S1 := by
  refine k_entz (by decide +kernel) (Nat.le_of_ble_eq_true rfl) ?_
  intro p e s m args below meth c A Q C hK I hA hq ls hl
  have C : CallFix p m c cX11_readsSort 3 s args TT RX11 := C
  have hx := C.1
  have hb := C.2.1
  have kx := kx_ok D (xtys cI cC cS) adK adV
  have hl : lv_has ls 3 [(0, .ref (ad 0))] := hl
  have J_91 : ∀ (S : St) , f_X11_readsSort_91  S  = some (r, S1) → ∀ (H : Heap) (locs : List Loc) (ls : Array Slot), Iv D (mw cI ad) S A s H locs → lv_has ls 3 [(0, .ref (ad 0))] → W p l e ({ frames := 3, cells := 0, slots := 0, locals := 65 } : Room) s m args below meth c H locs 0 0 Q (F0 m 91 ls []) := by
    intro  S  h H locs ls I hl
    unfold f_X11_readsSort_91 at h
    refine lv_aload_n hx hb dX11_readsSort_91 rfl (lv_at hl 0 rfl) ?_
    refine lv_sipush (v := 591) hx hb dX11_readsSort_92 (by decide) ?_
    refine lv_iconst (v := 2) hx hb dX11_readsSort_95 (by decide) ?_
    obtain ⟨r1, S1, e1, h⟩ := obd2_ex h
    refine k_V (As := [.int 591, .int 2]) (rest := []) (st1 := [.int r1]) C kx hK I hA (c_X11_isWord e1) ⟨Nat.le_of_ble_eq_true rfl, Nat.le_of_ble_eq_true rfl⟩ mv_X11_isWord lk_X11_98 0 11 (mw_0 (cI := cI) (ad := ad)) rfl rfl hl.1 rfl (Nat.le_of_ble_eq_true rfl) dX11_readsSort_96 rfl (fun H locs I => ?_)
    refine lv_if_ne (tgt := 104) hx hb dX11_readsSort_99 (by decide) (fun c2 => ?_) (fun c2 => ?_)
    · have h := ite_n c2 h
      refine lv_aload_n hx hb dX11_readsSort_104 rfl (lv_at hl 0 rfl) ?_
      obtain ⟨S3, e3, h⟩ := obd_ex h
      refine k_V (As := []) (rest := []) (st1 := []) C kx hK I hA (c_X11_token e3) ⟨Nat.le_of_ble_eq_true rfl, Nat.le_of_ble_eq_true rfl⟩ mv_X11_token lk_X11_80 0 11 (mw_0 (cI := cI) (ad := ad)) rfl rfl hl.1 rfl (Nat.le_of_ble_eq_true rfl) dX11_readsSort_105 rfl (fun H locs I => ?_)
      refine lv_aload_n hx hb dX11_readsSort_108 rfl (lv_at hl 0 rfl) ?_
      refine lv_iconst (v := 4) hx hb dX11_readsSort_109 (by decide) ?_
      obtain ⟨r4, S4, e4, h⟩ := obd2_ex h
      refine k_V (As := [.int 4]) (rest := []) (st1 := [.int r4]) C kx hK I hA (c_X11_readsThings e4) ⟨Nat.le_of_ble_eq_true rfl, Nat.le_of_ble_eq_true rfl⟩ mv_X11_readsThings lk_X11_107 0 11 (mw_0 (cI := cI) (ad := ad)) rfl rfl hl.1 rfl (Nat.le_of_ble_eq_true rfl) dX11_readsSort_110 rfl (fun H locs I => ?_)
      obtain ⟨hz, h⟩ := chk_ex h
      exact rt_z hz hq h I dX11_readsSort_113
    · have h := ite_t c2 h
      refine lv_iconst (v := 1) hx hb dX11_readsSort_102 (by decide) ?_
      exact rt_z (Or.inr rfl) hq h I dX11_readsSort_103
  have J_77 : ∀ (S : St) (x2 : Int32), f_X11_readsSort_77  S x2 = some (r, S1) → ∀ (H : Heap) (locs : List Loc) (ls : Array Slot), Iv D (mw cI ad) S A s H locs → lv_has ls 3 [(0, .ref (ad 0)), (2, .int x2)] → W p l e ({ frames := 3, cells := 0, slots := 0, locals := 65 } : Room) s m args below meth c H locs 0 0 Q (F0 m 77 ls []) := by
    intro  S x2 h H locs ls I hl
    unfold f_X11_readsSort_77 at h
    refine lv_iload_n hx hb dX11_readsSort_77 rfl (lv_at hl 1 rfl) ?_
    refine lv_if_ne (tgt := 91) hx hb dX11_readsSort_78 (by decide) (fun c5 => ?_) (fun c5 => ?_)
    · have h := ite_n c5 h
      exact J_91 _  h _ _ _ I (lv_sub hl [0] rfl)
    · have h := ite_t c5 h
      refine lv_aload_n hx hb dX11_readsSort_81 rfl (lv_at hl 0 rfl) ?_
      refine lv_iconst (v := 3) hx hb dX11_readsSort_82 (by decide) ?_
      obtain ⟨r6, S6, e6, h⟩ := obd2_ex h
      refine k_V (As := [.int 3]) (rest := []) (st1 := [.int r6]) C kx hK I hA (c_X11_readsThings e6) ⟨Nat.le_of_ble_eq_true rfl, Nat.le_of_ble_eq_true rfl⟩ mv_X11_readsThings lk_X11_107 0 11 (mw_0 (cI := cI) (ad := ad)) rfl rfl hl.1 rfl (Nat.le_of_ble_eq_true rfl) dX11_readsSort_83 rfl (fun H locs I => ?_)
      refine lv_if_ne (tgt := 91) hx hb dX11_readsSort_86 (by decide) (fun c7 => ?_) (fun c7 => ?_)
      · have h := ite_n c7 h
        exact J_91 _  h _ _ _ I (lv_sub hl [0] rfl)
      · have h := ite_t c7 h
        refine lv_iconst (v := 0) hx hb dX11_readsSort_89 (by decide) ?_
        exact rt_z (Or.inl rfl) hq h I dX11_readsSort_90
  unfold f_X11_readsSort at h
  refine lv_bipush (v := 8) hx hb dX11_readsSort_0 (by decide) ?_
  refine lv_aload_n hx hb dX11_readsSort_2 rfl (lv_at hl 0 rfl) ?_
  refine gm_0_3 C hK I fl_X11_77 dX11_readsSort_3 ?_
  refine lv_imul hx hb dX11_readsSort_6 ?_
  refine lv_topi (fun v8 ev8 => ?_)
  have h := bnd_at ev8 h
  clear ev8
  refine lv_istore_n (lv' := [(1, .int v8), (0, .ref (ad 0))]) hx hb dX11_readsSort_7 rfl hl (by decide) rfl (fun ls hl => ?_)
  refine lv_aload_n hx hb dX11_readsSort_8 rfl (lv_at hl 1 rfl) ?_
  refine lv_iconst (v := 0) hx hb dX11_readsSort_9 (by decide) ?_
  refine lv_iconst (v := 0) hx hb dX11_readsSort_10 (by decide) ?_
  refine lv_iconst (v := 5) hx hb dX11_readsSort_11 (by decide) ?_
  obtain ⟨r9, S9, e9, h⟩ := obd2_ex h
  refine k_V (As := [.int 0, .int 0, .int 5]) (rest := []) (st1 := [.int r9]) C kx hK I hA (c_X11_reads e9) ⟨Nat.le_of_ble_eq_true rfl, Nat.le_of_ble_eq_true rfl⟩ mv_X11_reads lk_X11_93 0 11 (mw_0 (cI := cI) (ad := ad)) rfl rfl hl.1 rfl (Nat.le_of_ble_eq_true rfl) dX11_readsSort_12 rfl (fun H locs I => ?_)
  refine lv_if_eq (tgt := 41) hx hb dX11_readsSort_15 (by decide) (fun c10 => ?_) (fun c10 => ?_)
  · have h := ite_t c10 h
    refine lv_iconst (v := 0) hx hb dX11_readsSort_41 (by decide) ?_
    exact rt_z (Or.inl rfl) hq h I dX11_readsSort_42
  · have h := ite_n c10 h
    refine lv_aload_n hx hb dX11_readsSort_18 rfl (lv_at hl 1 rfl) ?_
    refine lv_iconst (v := 1) hx hb dX11_readsSort_19 (by decide) ?_
    refine lv_iconst (v := 1) hx hb dX11_readsSort_20 (by decide) ?_
    refine lv_bipush (v := 20) hx hb dX11_readsSort_21 (by decide) ?_
    obtain ⟨r11, S11, e11, h⟩ := obd2_ex h
    refine k_V (As := [.int 1, .int 1, .int 20]) (rest := []) (st1 := [.int r11]) C kx hK I hA (c_X11_reads e11) ⟨Nat.le_of_ble_eq_true rfl, Nat.le_of_ble_eq_true rfl⟩ mv_X11_reads lk_X11_93 0 11 (mw_0 (cI := cI) (ad := ad)) rfl rfl hl.1 rfl (Nat.le_of_ble_eq_true rfl) dX11_readsSort_23 rfl (fun H locs I => ?_)
    refine lv_if_eq (tgt := 41) hx hb dX11_readsSort_26 (by decide) (fun c12 => ?_) (fun c12 => ?_)
    · have h := ite_t c12 h
      refine lv_iconst (v := 0) hx hb dX11_readsSort_41 (by decide) ?_
      exact rt_z (Or.inl rfl) hq h I dX11_readsSort_42
    · have h := ite_n c12 h
      refine lv_aload_n hx hb dX11_readsSort_29 rfl (lv_at hl 1 rfl) ?_
      refine lv_iconst (v := 2) hx hb dX11_readsSort_30 (by decide) ?_
      refine lv_iconst (v := 0) hx hb dX11_readsSort_31 (by decide) ?_
      refine lv_sipush (v := 200) hx hb dX11_readsSort_32 (by decide) ?_
      obtain ⟨r13, S13, e13, h⟩ := obd2_ex h
      refine k_V (As := [.int 2, .int 0, .int 200]) (rest := []) (st1 := [.int r13]) C kx hK I hA (c_X11_reads e13) ⟨Nat.le_of_ble_eq_true rfl, Nat.le_of_ble_eq_true rfl⟩ mv_X11_reads lk_X11_93 0 11 (mw_0 (cI := cI) (ad := ad)) rfl rfl hl.1 rfl (Nat.le_of_ble_eq_true rfl) dX11_readsSort_35 rfl (fun H locs I => ?_)
      refine lv_if_ne (tgt := 43) hx hb dX11_readsSort_38 (by decide) (fun c14 => ?_) (fun c14 => ?_)
      · have h := ite_n c14 h
        refine lv_aload_n hx hb dX11_readsSort_43 rfl (lv_at hl 1 rfl) ?_
        refine gm_0_2 C hK I fl_X11_13 dX11_readsSort_44 ?_
        refine lv_iload_n hx hb dX11_readsSort_47 rfl (lv_at hl 0 rfl) ?_
        refine lv_iconst (v := 4) hx hb dX11_readsSort_48 (by decide) ?_
        refine lv_iadd hx hb dX11_readsSort_49 ?_
        refine lv_iconst (v := 0) hx hb dX11_readsSort_50 (by decide) ?_
        obtain ⟨hv15, h⟩ := chk_ex h
        refine bm_2 C hK I hv15 dX11_readsSort_51 (fun S16 eS16 H locs I => ?_)
        have h := bnd_at eS16 h
        clear eS16
        refine lv_aload_n hx hb dX11_readsSort_52 rfl (lv_at hl 1 rfl) ?_
        refine gm_0_2 C hK I fl_X11_13 dX11_readsSort_53 ?_
        refine lv_iload_n hx hb dX11_readsSort_56 rfl (lv_at hl 0 rfl) ?_
        refine lv_iconst (v := 5) hx hb dX11_readsSort_57 (by decide) ?_
        refine lv_iadd hx hb dX11_readsSort_58 ?_
        refine lv_iconst (v := 0) hx hb dX11_readsSort_59 (by decide) ?_
        obtain ⟨hv17, h⟩ := chk_ex h
        refine bm_2 C hK I hv17 dX11_readsSort_60 (fun S18 eS18 H locs I => ?_)
        have h := bnd_at eS18 h
        clear eS18
        refine lv_aload_n hx hb dX11_readsSort_61 rfl (lv_at hl 1 rfl) ?_
        refine lv_ldc (v := 178670) hx hb C.2.2.2.1 (C.2.2.2.2 _ cn_X11_106) dX11_readsSort_62 ?_
        refine lv_iconst (v := 4) hx hb dX11_readsSort_64 (by decide) ?_
        obtain ⟨r19, S19, e19, h⟩ := obd2_ex h
        refine k_V (As := [.int 178670, .int 4]) (rest := []) (st1 := [.int r19]) C kx hK I hA (c_X11_isWord e19) ⟨Nat.le_of_ble_eq_true rfl, Nat.le_of_ble_eq_true rfl⟩ mv_X11_isWord lk_X11_98 0 11 (mw_0 (cI := cI) (ad := ad)) rfl rfl hl.1 rfl (Nat.le_of_ble_eq_true rfl) dX11_readsSort_65 rfl (fun H locs I => ?_)
        refine lv_istore_n (lv' := [(2, .int r19), (1, .int v8), (0, .ref (ad 0))]) hx hb dX11_readsSort_68 rfl hl (by decide) rfl (fun ls hl => ?_)
        refine lv_iload_n hx hb dX11_readsSort_69 rfl (lv_at hl 0 rfl) ?_
        refine lv_if_eq (tgt := 77) hx hb dX11_readsSort_70 (by decide) (fun c20 => ?_) (fun c20 => ?_)
        · have h := ite_t c20 h
          exact J_77 _ _ h _ _ _ I (lv_sub hl [2, 0] rfl)
        · have h := ite_n c20 h
          refine lv_aload_n hx hb dX11_readsSort_73 rfl (lv_at hl 2 rfl) ?_
          obtain ⟨S21, e21, h⟩ := obd_ex h
          refine k_V (As := []) (rest := []) (st1 := []) C kx hK I hA (c_X11_token e21) ⟨Nat.le_of_ble_eq_true rfl, Nat.le_of_ble_eq_true rfl⟩ mv_X11_token lk_X11_80 0 11 (mw_0 (cI := cI) (ad := ad)) rfl rfl hl.1 rfl (Nat.le_of_ble_eq_true rfl) dX11_readsSort_74 rfl (fun H locs I => ?_)
          exact J_77 _ _ h _ _ _ I (lv_sub hl [2, 0] rfl)
      · have h := ite_t c14 h
        refine lv_iconst (v := 0) hx hb dX11_readsSort_41 (by decide) ?_
        exact rt_z (Or.inl rfl) hq h I dX11_readsSort_42
theorem lk_X11_117 : Cond.methodLink RX11 117 yX11_readsThing ∈ TT := tt_of 1241 (by decide +kernel) rfl
theorem mv_X11_readsThing : MV yX11_readsThing cX11_readsThing 2 (some .boolean) 0 := ⟨tt_of 1244 (by decide +kernel) rfl, tt_of 1243 (by decide +kernel) rfl, tt_of 26 (by decide +kernel) rfl, tt_of 76 (by decide +kernel) rfl, ⟨by decide +kernel, by decide +kernel, by decide +kernel⟩⟩
theorem lk_X11_121 : Cond.methodLink RX11 121 yX11_readsWay ∈ TT := tt_of 1253 (by decide +kernel) rfl
theorem mv_X11_readsWay : MV yX11_readsWay cX11_readsWay 2 (some .boolean) 0 := ⟨tt_of 1256 (by decide +kernel) rfl, tt_of 1255 (by decide +kernel) rfl, tt_of 28 (by decide +kernel) rfl, tt_of 76 (by decide +kernel) rfl, ⟨by decide +kernel, by decide +kernel, by decide +kernel⟩⟩
theorem lk_X11_124 : Cond.methodLink RX11 124 yX11_readsSort ∈ TT := tt_of 1261 (by decide +kernel) rfl
theorem mv_X11_readsSort : MV yX11_readsSort cX11_readsSort 3 (some .boolean) 0 := ⟨tt_of 1264 (by decide +kernel) rfl, tt_of 1263 (by decide +kernel) rfl, tt_of 30 (by decide +kernel) rfl, tt_of 76 (by decide +kernel) rfl, ⟨by decide +kernel, by decide +kernel, by decide +kernel⟩⟩
theorem cn_X11_111 : Cond.constant RX11 111 (7808276) ∈ TT := tt_of 1231 (by decide +kernel) rfl
theorem cn_X11_112 : Cond.constant RX11 112 (132588) ∈ TT := tt_of 1236 (by decide +kernel) rfl
theorem cn_X11_113 : Cond.constant RX11 113 (5884592) ∈ TT := tt_of 1237 (by decide +kernel) rfl
theorem cn_X11_114 : Cond.constant RX11 114 (14982306) ∈ TT := tt_of 1238 (by decide +kernel) rfl
theorem cn_X11_115 : Cond.constant RX11 115 (405539) ∈ TT := tt_of 1239 (by decide +kernel) rfl
theorem cn_X11_116 : Cond.constant RX11 116 (674291) ∈ TT := tt_of 1240 (by decide +kernel) rfl
theorem dX11_readsLine_0 : decode cX11_readsLine 0 = .ok (.bipush 8, 2) := by decide +kernel
theorem dX11_readsLine_2 : decode cX11_readsLine 2 = .ok (.aload_n 0, 1) := by decide +kernel
theorem dX11_readsLine_3 : decode cX11_readsLine 3 = .ok (.getfield 77, 3) := by decide +kernel
theorem dX11_readsLine_6 : decode cX11_readsLine 6 = .ok (.imul, 1) := by decide +kernel
theorem dX11_readsLine_7 : decode cX11_readsLine 7 = .ok (.istore_n 1, 1) := by decide +kernel
theorem dX11_readsLine_8 : decode cX11_readsLine 8 = .ok (.aload_n 0, 1) := by decide +kernel
theorem dX11_readsLine_9 : decode cX11_readsLine 9 = .ok (.ldc 111, 2) := by decide +kernel
theorem dX11_readsLine_11 : decode cX11_readsLine 11 = .ok (.iconst 5, 1) := by decide +kernel
theorem dX11_readsLine_12 : decode cX11_readsLine 12 = .ok (.invokevirtual 98, 3) := by decide +kernel
theorem dX11_readsLine_15 : decode cX11_readsLine 15 = .ok (.ifCond .eq 7, 3) := by decide +kernel
theorem dX11_readsLine_18 : decode cX11_readsLine 18 = .ok (.iconst 0, 1) := by decide +kernel
theorem dX11_readsLine_19 : decode cX11_readsLine 19 = .ok (.goto 90, 3) := by decide +kernel
theorem dX11_readsLine_22 : decode cX11_readsLine 22 = .ok (.aload_n 0, 1) := by decide +kernel
theorem dX11_readsLine_23 : decode cX11_readsLine 23 = .ok (.ldc 112, 2) := by decide +kernel
theorem dX11_readsLine_25 : decode cX11_readsLine 25 = .ok (.iconst 4, 1) := by decide +kernel
theorem dX11_readsLine_26 : decode cX11_readsLine 26 = .ok (.invokevirtual 98, 3) := by decide +kernel
theorem dX11_readsLine_29 : decode cX11_readsLine 29 = .ok (.ifCond .eq 7, 3) := by decide +kernel
theorem dX11_readsLine_32 : decode cX11_readsLine 32 = .ok (.iconst 1, 1) := by decide +kernel
theorem dX11_readsLine_33 : decode cX11_readsLine 33 = .ok (.goto 76, 3) := by decide +kernel
theorem dX11_readsLine_36 : decode cX11_readsLine 36 = .ok (.aload_n 0, 1) := by decide +kernel
theorem dX11_readsLine_37 : decode cX11_readsLine 37 = .ok (.ldc 113, 2) := by decide +kernel
theorem dX11_readsLine_39 : decode cX11_readsLine 39 = .ok (.iconst 5, 1) := by decide +kernel
theorem dX11_readsLine_40 : decode cX11_readsLine 40 = .ok (.invokevirtual 98, 3) := by decide +kernel
theorem dX11_readsLine_43 : decode cX11_readsLine 43 = .ok (.ifCond .eq 7, 3) := by decide +kernel
theorem dX11_readsLine_46 : decode cX11_readsLine 46 = .ok (.iconst 2, 1) := by decide +kernel
theorem dX11_readsLine_47 : decode cX11_readsLine 47 = .ok (.goto 62, 3) := by decide +kernel
theorem dX11_readsLine_50 : decode cX11_readsLine 50 = .ok (.aload_n 0, 1) := by decide +kernel
theorem dX11_readsLine_51 : decode cX11_readsLine 51 = .ok (.ldc 114, 2) := by decide +kernel
theorem dX11_readsLine_53 : decode cX11_readsLine 53 = .ok (.iconst 5, 1) := by decide +kernel
theorem dX11_readsLine_54 : decode cX11_readsLine 54 = .ok (.invokevirtual 98, 3) := by decide +kernel
theorem dX11_readsLine_57 : decode cX11_readsLine 57 = .ok (.ifCond .eq 7, 3) := by decide +kernel
theorem dX11_readsLine_60 : decode cX11_readsLine 60 = .ok (.iconst 3, 1) := by decide +kernel
theorem dX11_readsLine_61 : decode cX11_readsLine 61 = .ok (.goto 48, 3) := by decide +kernel
theorem dX11_readsLine_64 : decode cX11_readsLine 64 = .ok (.aload_n 0, 1) := by decide +kernel
theorem dX11_readsLine_65 : decode cX11_readsLine 65 = .ok (.sipush 25655, 3) := by decide +kernel
theorem dX11_readsLine_68 : decode cX11_readsLine 68 = .ok (.iconst 3, 1) := by decide +kernel
theorem dX11_readsLine_69 : decode cX11_readsLine 69 = .ok (.invokevirtual 98, 3) := by decide +kernel
theorem dX11_readsLine_72 : decode cX11_readsLine 72 = .ok (.ifCond .eq 7, 3) := by decide +kernel
theorem dX11_readsLine_75 : decode cX11_readsLine 75 = .ok (.iconst 4, 1) := by decide +kernel
theorem dX11_readsLine_76 : decode cX11_readsLine 76 = .ok (.goto 33, 3) := by decide +kernel
theorem dX11_readsLine_79 : decode cX11_readsLine 79 = .ok (.aload_n 0, 1) := by decide +kernel
theorem dX11_readsLine_80 : decode cX11_readsLine 80 = .ok (.ldc 115, 2) := by decide +kernel
theorem dX11_readsLine_82 : decode cX11_readsLine 82 = .ok (.iconst 4, 1) := by decide +kernel
theorem dX11_readsLine_83 : decode cX11_readsLine 83 = .ok (.invokevirtual 98, 3) := by decide +kernel
theorem dX11_readsLine_86 : decode cX11_readsLine 86 = .ok (.ifCond .eq 7, 3) := by decide +kernel
theorem dX11_readsLine_89 : decode cX11_readsLine 89 = .ok (.iconst 5, 1) := by decide +kernel
theorem dX11_readsLine_90 : decode cX11_readsLine 90 = .ok (.goto 19, 3) := by decide +kernel
theorem dX11_readsLine_93 : decode cX11_readsLine 93 = .ok (.aload_n 0, 1) := by decide +kernel
theorem dX11_readsLine_94 : decode cX11_readsLine 94 = .ok (.ldc 116, 2) := by decide +kernel
theorem dX11_readsLine_96 : decode cX11_readsLine 96 = .ok (.iconst 4, 1) := by decide +kernel
theorem dX11_readsLine_97 : decode cX11_readsLine 97 = .ok (.invokevirtual 98, 3) := by decide +kernel
theorem dX11_readsLine_100 : decode cX11_readsLine 100 = .ok (.ifCond .eq 8, 3) := by decide +kernel
theorem dX11_readsLine_103 : decode cX11_readsLine 103 = .ok (.bipush 6, 2) := by decide +kernel
theorem dX11_readsLine_105 : decode cX11_readsLine 105 = .ok (.goto 4, 3) := by decide +kernel
theorem dX11_readsLine_108 : decode cX11_readsLine 108 = .ok (.iconst (-1), 1) := by decide +kernel
theorem dX11_readsLine_109 : decode cX11_readsLine 109 = .ok (.istore_n 2, 1) := by decide +kernel
theorem dX11_readsLine_110 : decode cX11_readsLine 110 = .ok (.iload_n 2, 1) := by decide +kernel
theorem dX11_readsLine_111 : decode cX11_readsLine 111 = .ok (.iconst (-1), 1) := by decide +kernel
theorem dX11_readsLine_112 : decode cX11_readsLine 112 = .ok (.if_icmp .ne 5, 3) := by decide +kernel
theorem dX11_readsLine_115 : decode cX11_readsLine 115 = .ok (.iconst 0, 1) := by decide +kernel
theorem dX11_readsLine_116 : decode cX11_readsLine 116 = .ok (.ireturn, 1) := by decide +kernel
theorem dX11_readsLine_117 : decode cX11_readsLine 117 = .ok (.aload_n 0, 1) := by decide +kernel
theorem dX11_readsLine_118 : decode cX11_readsLine 118 = .ok (.invokevirtual 80, 3) := by decide +kernel
theorem dX11_readsLine_121 : decode cX11_readsLine 121 = .ok (.aload_n 0, 1) := by decide +kernel
theorem dX11_readsLine_122 : decode cX11_readsLine 122 = .ok (.getfield 13, 3) := by decide +kernel
theorem dX11_readsLine_125 : decode cX11_readsLine 125 = .ok (.iload_n 1, 1) := by decide +kernel
theorem dX11_readsLine_126 : decode cX11_readsLine 126 = .ok (.iload_n 2, 1) := by decide +kernel
theorem dX11_readsLine_127 : decode cX11_readsLine 127 = .ok (.iastore, 1) := by decide +kernel
theorem dX11_readsLine_128 : decode cX11_readsLine 128 = .ok (.iconst 0, 1) := by decide +kernel
theorem dX11_readsLine_129 : decode cX11_readsLine 129 = .ok (.istore_n 3, 1) := by decide +kernel
theorem dX11_readsLine_130 : decode cX11_readsLine 130 = .ok (.iload_n 2, 1) := by decide +kernel
theorem dX11_readsLine_131 : decode cX11_readsLine 131 = .ok (.tableswitch 186 0 5 #[37, 45, 58, 71, 84, 92], 37) := by decide +kernel
theorem dX11_readsLine_168 : decode cX11_readsLine 168 = .ok (.aload_n 0, 1) := by decide +kernel
theorem dX11_readsLine_169 : decode cX11_readsLine 169 = .ok (.invokevirtual 117, 3) := by decide +kernel
theorem dX11_readsLine_172 : decode cX11_readsLine 172 = .ok (.istore_n 3, 1) := by decide +kernel
theorem dX11_readsLine_173 : decode cX11_readsLine 173 = .ok (.goto 149, 3) := by decide +kernel
theorem dX11_readsLine_176 : decode cX11_readsLine 176 = .ok (.aload_n 0, 1) := by decide +kernel
theorem dX11_readsLine_177 : decode cX11_readsLine 177 = .ok (.iconst 0, 1) := by decide +kernel
theorem dX11_readsLine_178 : decode cX11_readsLine 178 = .ok (.iconst 0, 1) := by decide +kernel
theorem dX11_readsLine_179 : decode cX11_readsLine 179 = .ok (.sipush 400, 3) := by decide +kernel
theorem dX11_readsLine_182 : decode cX11_readsLine 182 = .ok (.invokevirtual 93, 3) := by decide +kernel
theorem dX11_readsLine_185 : decode cX11_readsLine 185 = .ok (.istore_n 3, 1) := by decide +kernel
theorem dX11_readsLine_186 : decode cX11_readsLine 186 = .ok (.goto 136, 3) := by decide +kernel
theorem dX11_readsLine_189 : decode cX11_readsLine 189 = .ok (.aload_n 0, 1) := by decide +kernel
theorem dX11_readsLine_190 : decode cX11_readsLine 190 = .ok (.iconst 0, 1) := by decide +kernel
theorem dX11_readsLine_191 : decode cX11_readsLine 191 = .ok (.iconst 0, 1) := by decide +kernel
theorem dX11_readsLine_192 : decode cX11_readsLine 192 = .ok (.sipush 999, 3) := by decide +kernel
theorem dX11_readsLine_195 : decode cX11_readsLine 195 = .ok (.invokevirtual 93, 3) := by decide +kernel
theorem dX11_readsLine_198 : decode cX11_readsLine 198 = .ok (.istore_n 3, 1) := by decide +kernel
theorem dX11_readsLine_199 : decode cX11_readsLine 199 = .ok (.goto 123, 3) := by decide +kernel
theorem dX11_readsLine_202 : decode cX11_readsLine 202 = .ok (.aload_n 0, 1) := by decide +kernel
theorem dX11_readsLine_203 : decode cX11_readsLine 203 = .ok (.iconst 0, 1) := by decide +kernel
theorem dX11_readsLine_204 : decode cX11_readsLine 204 = .ok (.iconst 0, 1) := by decide +kernel
theorem dX11_readsLine_205 : decode cX11_readsLine 205 = .ok (.sipush 1439, 3) := by decide +kernel
theorem dX11_readsLine_208 : decode cX11_readsLine 208 = .ok (.invokevirtual 93, 3) := by decide +kernel
theorem dX11_readsLine_211 : decode cX11_readsLine 211 = .ok (.istore_n 3, 1) := by decide +kernel
theorem dX11_readsLine_212 : decode cX11_readsLine 212 = .ok (.goto 110, 3) := by decide +kernel
theorem dX11_readsLine_215 : decode cX11_readsLine 215 = .ok (.aload_n 0, 1) := by decide +kernel
theorem dX11_readsLine_216 : decode cX11_readsLine 216 = .ok (.invokevirtual 121, 3) := by decide +kernel
theorem dX11_readsLine_219 : decode cX11_readsLine 219 = .ok (.istore_n 3, 1) := by decide +kernel
theorem dX11_readsLine_220 : decode cX11_readsLine 220 = .ok (.goto 102, 3) := by decide +kernel
theorem dX11_readsLine_223 : decode cX11_readsLine 223 = .ok (.aload_n 0, 1) := by decide +kernel
theorem dX11_readsLine_224 : decode cX11_readsLine 224 = .ok (.iconst 0, 1) := by decide +kernel
theorem dX11_readsLine_225 : decode cX11_readsLine 225 = .ok (.iconst 0, 1) := by decide +kernel
theorem dX11_readsLine_226 : decode cX11_readsLine 226 = .ok (.iconst 5, 1) := by decide +kernel
theorem dX11_readsLine_227 : decode cX11_readsLine 227 = .ok (.invokevirtual 93, 3) := by decide +kernel
theorem dX11_readsLine_230 : decode cX11_readsLine 230 = .ok (.ifCond .eq 82, 3) := by decide +kernel
theorem dX11_readsLine_233 : decode cX11_readsLine 233 = .ok (.aload_n 0, 1) := by decide +kernel
theorem dX11_readsLine_234 : decode cX11_readsLine 234 = .ok (.iconst 1, 1) := by decide +kernel
theorem dX11_readsLine_235 : decode cX11_readsLine 235 = .ok (.iconst 1, 1) := by decide +kernel
theorem dX11_readsLine_236 : decode cX11_readsLine 236 = .ok (.iconst 5, 1) := by decide +kernel
theorem dX11_readsLine_237 : decode cX11_readsLine 237 = .ok (.invokevirtual 93, 3) := by decide +kernel
theorem dX11_readsLine_240 : decode cX11_readsLine 240 = .ok (.ifCond .eq 72, 3) := by decide +kernel
theorem dX11_readsLine_243 : decode cX11_readsLine 243 = .ok (.aload_n 0, 1) := by decide +kernel
theorem dX11_readsLine_244 : decode cX11_readsLine 244 = .ok (.iconst 2, 1) := by decide +kernel
theorem dX11_readsLine_245 : decode cX11_readsLine 245 = .ok (.iconst 0, 1) := by decide +kernel
theorem dX11_readsLine_246 : decode cX11_readsLine 246 = .ok (.sipush 1439, 3) := by decide +kernel
theorem dX11_readsLine_249 : decode cX11_readsLine 249 = .ok (.invokevirtual 93, 3) := by decide +kernel
theorem dX11_readsLine_252 : decode cX11_readsLine 252 = .ok (.ifCond .eq 60, 3) := by decide +kernel
theorem dX11_readsLine_255 : decode cX11_readsLine 255 = .ok (.aload_n 0, 1) := by decide +kernel
theorem dX11_readsLine_256 : decode cX11_readsLine 256 = .ok (.iconst 3, 1) := by decide +kernel
theorem dX11_readsLine_257 : decode cX11_readsLine 257 = .ok (.aload_n 0, 1) := by decide +kernel
theorem dX11_readsLine_258 : decode cX11_readsLine 258 = .ok (.getfield 13, 3) := by decide +kernel
theorem dX11_readsLine_261 : decode cX11_readsLine 261 = .ok (.iload_n 1, 1) := by decide +kernel
theorem dX11_readsLine_262 : decode cX11_readsLine 262 = .ok (.iconst 3, 1) := by decide +kernel
theorem dX11_readsLine_263 : decode cX11_readsLine 263 = .ok (.iadd, 1) := by decide +kernel
theorem dX11_readsLine_264 : decode cX11_readsLine 264 = .ok (.iaload, 1) := by decide +kernel
theorem dX11_readsLine_265 : decode cX11_readsLine 265 = .ok (.sipush 1439, 3) := by decide +kernel
theorem dX11_readsLine_268 : decode cX11_readsLine 268 = .ok (.invokevirtual 93, 3) := by decide +kernel
theorem dX11_readsLine_271 : decode cX11_readsLine 271 = .ok (.ifCond .eq 41, 3) := by decide +kernel
theorem dX11_readsLine_274 : decode cX11_readsLine 274 = .ok (.aload_n 0, 1) := by decide +kernel
theorem dX11_readsLine_275 : decode cX11_readsLine 275 = .ok (.iconst 4, 1) := by decide +kernel
theorem dX11_readsLine_276 : decode cX11_readsLine 276 = .ok (.iconst 0, 1) := by decide +kernel
theorem dX11_readsLine_277 : decode cX11_readsLine 277 = .ok (.bipush 99, 2) := by decide +kernel
theorem dX11_readsLine_279 : decode cX11_readsLine 279 = .ok (.invokevirtual 93, 3) := by decide +kernel
theorem dX11_readsLine_282 : decode cX11_readsLine 282 = .ok (.ifCond .eq 30, 3) := by decide +kernel
theorem dX11_readsLine_285 : decode cX11_readsLine 285 = .ok (.aload_n 0, 1) := by decide +kernel
theorem dX11_readsLine_286 : decode cX11_readsLine 286 = .ok (.iconst 5, 1) := by decide +kernel
theorem dX11_readsLine_287 : decode cX11_readsLine 287 = .ok (.iconst 0, 1) := by decide +kernel
theorem dX11_readsLine_288 : decode cX11_readsLine 288 = .ok (.bipush 99, 2) := by decide +kernel
theorem dX11_readsLine_290 : decode cX11_readsLine 290 = .ok (.invokevirtual 93, 3) := by decide +kernel
theorem dX11_readsLine_293 : decode cX11_readsLine 293 = .ok (.ifCond .eq 19, 3) := by decide +kernel
theorem dX11_readsLine_296 : decode cX11_readsLine 296 = .ok (.aload_n 0, 1) := by decide +kernel
theorem dX11_readsLine_297 : decode cX11_readsLine 297 = .ok (.bipush 6, 2) := by decide +kernel
theorem dX11_readsLine_299 : decode cX11_readsLine 299 = .ok (.iconst 0, 1) := by decide +kernel
theorem dX11_readsLine_300 : decode cX11_readsLine 300 = .ok (.bipush 99, 2) := by decide +kernel
theorem dX11_readsLine_302 : decode cX11_readsLine 302 = .ok (.invokevirtual 93, 3) := by decide +kernel
theorem dX11_readsLine_305 : decode cX11_readsLine 305 = .ok (.ifCond .eq 7, 3) := by decide +kernel
theorem dX11_readsLine_308 : decode cX11_readsLine 308 = .ok (.iconst 1, 1) := by decide +kernel
theorem dX11_readsLine_309 : decode cX11_readsLine 309 = .ok (.goto 4, 3) := by decide +kernel
theorem dX11_readsLine_312 : decode cX11_readsLine 312 = .ok (.iconst 0, 1) := by decide +kernel
theorem dX11_readsLine_313 : decode cX11_readsLine 313 = .ok (.istore_n 3, 1) := by decide +kernel
theorem dX11_readsLine_314 : decode cX11_readsLine 314 = .ok (.goto 8, 3) := by decide +kernel
theorem dX11_readsLine_317 : decode cX11_readsLine 317 = .ok (.aload_n 0, 1) := by decide +kernel
theorem dX11_readsLine_318 : decode cX11_readsLine 318 = .ok (.invokevirtual 124, 3) := by decide +kernel
theorem dX11_readsLine_321 : decode cX11_readsLine 321 = .ok (.istore_n 3, 1) := by decide +kernel
theorem dX11_readsLine_322 : decode cX11_readsLine 322 = .ok (.aload_n 0, 1) := by decide +kernel
theorem dX11_readsLine_323 : decode cX11_readsLine 323 = .ok (.dup, 1) := by decide +kernel
theorem dX11_readsLine_324 : decode cX11_readsLine 324 = .ok (.getfield 77, 3) := by decide +kernel
theorem dX11_readsLine_327 : decode cX11_readsLine 327 = .ok (.iload_n 3, 1) := by decide +kernel
theorem dX11_readsLine_328 : decode cX11_readsLine 328 = .ok (.ifCond .eq 7, 3) := by decide +kernel
theorem dX11_readsLine_331 : decode cX11_readsLine 331 = .ok (.iconst 1, 1) := by decide +kernel
theorem dX11_readsLine_332 : decode cX11_readsLine 332 = .ok (.goto 4, 3) := by decide +kernel
theorem dX11_readsLine_335 : decode cX11_readsLine 335 = .ok (.iconst 0, 1) := by decide +kernel
theorem dX11_readsLine_336 : decode cX11_readsLine 336 = .ok (.iadd, 1) := by decide +kernel
theorem dX11_readsLine_337 : decode cX11_readsLine 337 = .ok (.putfield 77, 3) := by decide +kernel
theorem dX11_readsLine_340 : decode cX11_readsLine 340 = .ok (.iload_n 3, 1) := by decide +kernel
theorem dX11_readsLine_341 : decode cX11_readsLine 341 = .ok (.ireturn, 1) := by decide +kernel
def f_X11_readsLine_336 (S : St) (x3 : Int32) (t1 : Int32) (t2 : Int32) : Option (Int32 × St) :=
  bnd (setI S 0 3 (t1 + t2)) fun S1 =>
  chk (zb x3) <|
  some (x3, S1)
def f_X11_readsLine_322 (S : St) (x3 : Int32) : Option (Int32 × St) :=
  if x3 = 0 then (
    f_X11_readsLine_336 S x3 (S.1 0 3) 0
  ) else (
    f_X11_readsLine_336 S x3 (S.1 0 3) 1
  )
def f_X11_readsLine_313 (S : St) (t0 : Int32) : Option (Int32 × St) :=
  f_X11_readsLine_322 S t0
def f_X11_readsLine_312 (S : St)  : Option (Int32 × St) :=
  f_X11_readsLine_313 S 0
def f_X11_readsLine_109 (S : St) (x1 : Int32) (t0 : Int32) : Option (Int32 × St) :=
  if t0 = (-1) then (
    some (0, S)
  ) else (
    obd (f_X11_token S ) fun S4 =>
    chk (ixo x1 80) <|
    bnd (setI S4 2 (x1).toNatClampNeg t0) fun S6 =>
    if t0 = 0 then (
      obd2 (f_X11_readsThing S6 ) fun r8 S8 =>
      f_X11_readsLine_322 S8 r8
    ) else (
      if t0 = 1 then (
        obd2 (f_X11_reads S6 0 0 400) fun r10 S10 =>
        f_X11_readsLine_322 S10 r10
      ) else (
        if t0 = 2 then (
          obd2 (f_X11_reads S6 0 0 999) fun r12 S12 =>
          f_X11_readsLine_322 S12 r12
        ) else (
          if t0 = 3 then (
            obd2 (f_X11_reads S6 0 0 1439) fun r14 S14 =>
            f_X11_readsLine_322 S14 r14
          ) else (
            if t0 = 4 then (
              obd2 (f_X11_readsWay S6 ) fun r16 S16 =>
              f_X11_readsLine_322 S16 r16
            ) else (
              if t0 = 5 then (
                obd2 (f_X11_reads S6 0 0 5) fun r18 S18 =>
                if r18 = 0 then (
                  f_X11_readsLine_312 S18 
                ) else (
                  obd2 (f_X11_reads S18 1 1 5) fun r20 S20 =>
                  if r20 = 0 then (
                    f_X11_readsLine_312 S20 
                  ) else (
                    obd2 (f_X11_reads S20 2 0 1439) fun r22 S22 =>
                    if r22 = 0 then (
                      f_X11_readsLine_312 S22 
                    ) else (
                      chk (ixo (x1 + 3) 80) <|
                      obd2 (f_X11_reads S22 3 (S22.1 2 ((x1 + 3)).toNatClampNeg) 1439) fun r25 S25 =>
                      if r25 = 0 then (
                        f_X11_readsLine_312 S25 
                      ) else (
                        obd2 (f_X11_reads S25 4 0 99) fun r27 S27 =>
                        if r27 = 0 then (
                          f_X11_readsLine_312 S27 
                        ) else (
                          obd2 (f_X11_reads S27 5 0 99) fun r29 S29 =>
                          if r29 = 0 then (
                            f_X11_readsLine_312 S29 
                          ) else (
                            obd2 (f_X11_reads S29 6 0 99) fun r31 S31 =>
                            if r31 = 0 then (
                              f_X11_readsLine_312 S31 
                            ) else (
                              f_X11_readsLine_313 S31 1
                            )
                          )
                        )
                      )
                    )
                  )
                )
              ) else (
                obd2 (f_X11_readsSort S6 ) fun r33 S33 =>
                f_X11_readsLine_322 S33 r33
    ))))))
  )
def f_X11_readsLine (S : St)  : Option (Int32 × St) :=
  bnd ((8 * (S.1 0 3)) : Int32) fun v34 =>
  obd2 (f_X11_isWord S 7808276 5) fun r35 S35 =>
  if r35 = 0 then (
    obd2 (f_X11_isWord S35 132588 4) fun r37 S37 =>
    if r37 = 0 then (
      obd2 (f_X11_isWord S37 5884592 5) fun r39 S39 =>
      if r39 = 0 then (
        obd2 (f_X11_isWord S39 14982306 5) fun r41 S41 =>
        if r41 = 0 then (
          obd2 (f_X11_isWord S41 25655 3) fun r43 S43 =>
          if r43 = 0 then (
            obd2 (f_X11_isWord S43 405539 4) fun r45 S45 =>
            if r45 = 0 then (
              obd2 (f_X11_isWord S45 674291 4) fun r47 S47 =>
              if r47 = 0 then (
                f_X11_readsLine_109 S47 v34 (-1)
              ) else (
                f_X11_readsLine_109 S47 v34 6
              )
            ) else (
              f_X11_readsLine_109 S45 v34 5
            )
          ) else (
            f_X11_readsLine_109 S43 v34 4
          )
        ) else (
          f_X11_readsLine_109 S41 v34 3
        )
      ) else (
        f_X11_readsLine_109 S39 v34 2
      )
    ) else (
      f_X11_readsLine_109 S37 v34 1
    )
  ) else (
    f_X11_readsLine_109 S35 v34 0
  )
set_option maxHeartbeats 4000000 in
set_option maxRecDepth 100000 in
theorem c_X11_readsLine {l : Launch} {D : va_G} {cI cC cS : ClassId} {ad adK adV : Nat → Nat} {S S1 : St}  {r : Int32} (h : f_X11_readsLine S  = some (r, S1)) : Kt l D (mw cI ad) (KX D (xtys cI cC cS) adK adV) yX11_readsLine cX11_readsLine 4 (some .boolean) (4) (87) [.ref (ad 0)] S (some (.int r)) S1 := by
  refine k_entz (by decide +kernel) (Nat.le_of_ble_eq_true rfl) ?_
  intro p e s m args below meth c A Q C hK I hA hq ls hl
  have C : CallFix p m c cX11_readsLine 4 s args TT RX11 := C
  have hx := C.1
  have hb := C.2.1
  have kx := kx_ok D (xtys cI cC cS) adK adV
  have hl : lv_has ls 4 [(0, .ref (ad 0))] := hl
  have J_336 : ∀ (S : St) (x3 : Int32) (t1 : Int32) (t2 : Int32), f_X11_readsLine_336  S x3 t1 t2 = some (r, S1) → ∀ (H : Heap) (locs : List Loc) (ls : Array Slot), Iv D (mw cI ad) S A s H locs → lv_has ls 4 [(3, .int x3)] → W p l e ({ frames := 4, cells := 0, slots := 0, locals := 87 } : Room) s m args below meth c H locs 0 0 Q (F0 m 336 ls [.int t2, .int t1, .ref (ad 0)]) := by
    intro  S x3 t1 t2 h H locs ls I hl
    unfold f_X11_readsLine_336 at h
    refine lv_iadd hx hb dX11_readsLine_336 ?_
    refine pm_0_3 C hK I fl_X11_77 dX11_readsLine_337 (fun S1 eS1 H locs I => ?_)
    have h := bnd_at eS1 h
    clear eS1
    refine lv_iload_n hx hb dX11_readsLine_340 rfl (lv_at hl 0 rfl) ?_
    obtain ⟨hz, h⟩ := chk_ex h
    exact rt_z hz hq h I dX11_readsLine_341
  have J_322 : ∀ (S : St) (x3 : Int32), f_X11_readsLine_322  S x3 = some (r, S1) → ∀ (H : Heap) (locs : List Loc) (ls : Array Slot), Iv D (mw cI ad) S A s H locs → lv_has ls 4 [(0, .ref (ad 0)), (3, .int x3)] → W p l e ({ frames := 4, cells := 0, slots := 0, locals := 87 } : Room) s m args below meth c H locs 0 0 Q (F0 m 322 ls []) := by
    intro  S x3 h H locs ls I hl
    unfold f_X11_readsLine_322 at h
    refine lv_aload_n hx hb dX11_readsLine_322 rfl (lv_at hl 0 rfl) ?_
    refine lv_dup hx hb dX11_readsLine_323 rfl ?_
    refine gm_0_3 C hK I fl_X11_77 dX11_readsLine_324 ?_
    refine lv_iload_n hx hb dX11_readsLine_327 rfl (lv_at hl 1 rfl) ?_
    refine lv_if_eq (tgt := 335) hx hb dX11_readsLine_328 (by decide) (fun c2 => ?_) (fun c2 => ?_)
    · have h := ite_t c2 h
      refine lv_iconst (v := 0) hx hb dX11_readsLine_335 (by decide) ?_
      exact J_336 _ _ _ _ h _ _ _ I (lv_sub hl [1] rfl)
    · have h := ite_n c2 h
      refine lv_iconst (v := 1) hx hb dX11_readsLine_331 (by decide) ?_
      refine lv_goto (tgt := 336) hx hb dX11_readsLine_332 (by decide) ?_
      exact J_336 _ _ _ _ h _ _ _ I (lv_sub hl [1] rfl)
  have J_313 : ∀ (S : St) (t0 : Int32), f_X11_readsLine_313  S t0 = some (r, S1) → ∀ (H : Heap) (locs : List Loc) (ls : Array Slot), Iv D (mw cI ad) S A s H locs → lv_has ls 4 [(0, .ref (ad 0))] → W p l e ({ frames := 4, cells := 0, slots := 0, locals := 87 } : Room) s m args below meth c H locs 0 0 Q (F0 m 313 ls [.int t0]) := by
    intro  S t0 h H locs ls I hl
    unfold f_X11_readsLine_313 at h
    refine lv_istore_n (lv' := [(3, .int t0), (0, .ref (ad 0))]) hx hb dX11_readsLine_313 rfl hl (by decide) rfl (fun ls hl => ?_)
    refine lv_goto (tgt := 322) hx hb dX11_readsLine_314 (by decide) ?_
    exact J_322 _ _ h _ _ _ I (lv_sub hl [1, 0] rfl)
  have J_312 : ∀ (S : St) , f_X11_readsLine_312  S  = some (r, S1) → ∀ (H : Heap) (locs : List Loc) (ls : Array Slot), Iv D (mw cI ad) S A s H locs → lv_has ls 4 [(0, .ref (ad 0))] → W p l e ({ frames := 4, cells := 0, slots := 0, locals := 87 } : Room) s m args below meth c H locs 0 0 Q (F0 m 312 ls []) := by
    intro  S  h H locs ls I hl
    unfold f_X11_readsLine_312 at h
    refine lv_iconst (v := 0) hx hb dX11_readsLine_312 (by decide) ?_
    exact J_313 _ _ h _ _ _ I (lv_sub hl [0] rfl)
  have J_109 : ∀ (S : St) (x1 : Int32) (t0 : Int32), f_X11_readsLine_109  S x1 t0 = some (r, S1) → ∀ (H : Heap) (locs : List Loc) (ls : Array Slot), Iv D (mw cI ad) S A s H locs → lv_has ls 4 [(0, .ref (ad 0)), (1, .int x1)] → W p l e ({ frames := 4, cells := 0, slots := 0, locals := 87 } : Room) s m args below meth c H locs 0 0 Q (F0 m 109 ls [.int t0]) := by
    intro  S x1 t0 h H locs ls I hl
    unfold f_X11_readsLine_109 at h
    refine lv_istore_n (lv' := [(2, .int t0), (0, .ref (ad 0)), (1, .int x1)]) hx hb dX11_readsLine_109 rfl hl (by decide) rfl (fun ls hl => ?_)
    refine lv_iload_n hx hb dX11_readsLine_110 rfl (lv_at hl 0 rfl) ?_
    refine lv_iconst (v := (-1)) hx hb dX11_readsLine_111 (by decide) ?_
    refine lv_icmp_ne (tgt := 117) hx hb dX11_readsLine_112 (by decide) (fun c3 => ?_) (fun c3 => ?_)
    · have h := ite_n c3 h
      refine lv_aload_n hx hb dX11_readsLine_117 rfl (lv_at hl 1 rfl) ?_
      obtain ⟨S4, e4, h⟩ := obd_ex h
      refine k_V (As := []) (rest := []) (st1 := []) C kx hK I hA (c_X11_token e4) ⟨Nat.le_of_ble_eq_true rfl, Nat.le_of_ble_eq_true rfl⟩ mv_X11_token lk_X11_80 0 11 (mw_0 (cI := cI) (ad := ad)) rfl rfl hl.1 rfl (Nat.le_of_ble_eq_true rfl) dX11_readsLine_118 rfl (fun H locs I => ?_)
      refine lv_aload_n hx hb dX11_readsLine_121 rfl (lv_at hl 1 rfl) ?_
      refine gm_0_2 C hK I fl_X11_13 dX11_readsLine_122 ?_
      refine lv_iload_n hx hb dX11_readsLine_125 rfl (lv_at hl 2 rfl) ?_
      refine lv_iload_n hx hb dX11_readsLine_126 rfl (lv_at hl 0 rfl) ?_
      obtain ⟨hv5, h⟩ := chk_ex h
      refine bm_2 C hK I hv5 dX11_readsLine_127 (fun S6 eS6 H locs I => ?_)
      have h := bnd_at eS6 h
      clear eS6
      refine lv_iconst (v := 0) hx hb dX11_readsLine_128 (by decide) ?_
      refine lv_istore_n (lv' := [(3, .int 0), (2, .int t0), (0, .ref (ad 0)), (1, .int x1)]) hx hb dX11_readsLine_129 rfl hl (by decide) rfl (fun ls hl => ?_)
      refine lv_iload_n hx hb dX11_readsLine_130 rfl (lv_at hl 1 rfl) ?_
      rcases Decidable.em (t0 = 0) with c7 | c7
      · have h := ite_t c7 h
        rw [c7]
        refine lv_tableIn (x := 0) (off := 37) (tgt := 168) hx hb dX11_readsLine_131 (by decide) (by decide) (by decide) (by decide) ?_
        refine lv_aload_n hx hb dX11_readsLine_168 rfl (lv_at hl 2 rfl) ?_
        obtain ⟨r8, S8, e8, h⟩ := obd2_ex h
        refine k_V (As := []) (rest := []) (st1 := [.int r8]) C kx hK I hA (c_X11_readsThing e8) ⟨Nat.le_of_ble_eq_true rfl, Nat.le_of_ble_eq_true rfl⟩ mv_X11_readsThing lk_X11_117 0 11 (mw_0 (cI := cI) (ad := ad)) rfl rfl hl.1 rfl (Nat.le_of_ble_eq_true rfl) dX11_readsLine_169 rfl (fun H locs I => ?_)
        refine lv_istore_n (lv' := [(3, .int r8), (2, .int t0), (0, .ref (ad 0)), (1, .int x1)]) hx hb dX11_readsLine_172 rfl hl (by decide) rfl (fun ls hl => ?_)
        refine lv_goto (tgt := 322) hx hb dX11_readsLine_173 (by decide) ?_
        exact J_322 _ _ h _ _ _ I (lv_sub hl [2, 0] rfl)
      · have h := ite_n c7 h
        rcases Decidable.em (t0 = 1) with c9 | c9
        · have h := ite_t c9 h
          rw [c9]
          refine lv_tableIn (x := 1) (off := 45) (tgt := 176) hx hb dX11_readsLine_131 (by decide) (by decide) (by decide) (by decide) ?_
          refine lv_aload_n hx hb dX11_readsLine_176 rfl (lv_at hl 2 rfl) ?_
          refine lv_iconst (v := 0) hx hb dX11_readsLine_177 (by decide) ?_
          refine lv_iconst (v := 0) hx hb dX11_readsLine_178 (by decide) ?_
          refine lv_sipush (v := 400) hx hb dX11_readsLine_179 (by decide) ?_
          obtain ⟨r10, S10, e10, h⟩ := obd2_ex h
          refine k_V (As := [.int 0, .int 0, .int 400]) (rest := []) (st1 := [.int r10]) C kx hK I hA (c_X11_reads e10) ⟨Nat.le_of_ble_eq_true rfl, Nat.le_of_ble_eq_true rfl⟩ mv_X11_reads lk_X11_93 0 11 (mw_0 (cI := cI) (ad := ad)) rfl rfl hl.1 rfl (Nat.le_of_ble_eq_true rfl) dX11_readsLine_182 rfl (fun H locs I => ?_)
          refine lv_istore_n (lv' := [(3, .int r10), (2, .int t0), (0, .ref (ad 0)), (1, .int x1)]) hx hb dX11_readsLine_185 rfl hl (by decide) rfl (fun ls hl => ?_)
          refine lv_goto (tgt := 322) hx hb dX11_readsLine_186 (by decide) ?_
          exact J_322 _ _ h _ _ _ I (lv_sub hl [2, 0] rfl)
        · have h := ite_n c9 h
          rcases Decidable.em (t0 = 2) with c11 | c11
          · have h := ite_t c11 h
            rw [c11]
            refine lv_tableIn (x := 2) (off := 58) (tgt := 189) hx hb dX11_readsLine_131 (by decide) (by decide) (by decide) (by decide) ?_
            refine lv_aload_n hx hb dX11_readsLine_189 rfl (lv_at hl 2 rfl) ?_
            refine lv_iconst (v := 0) hx hb dX11_readsLine_190 (by decide) ?_
            refine lv_iconst (v := 0) hx hb dX11_readsLine_191 (by decide) ?_
            refine lv_sipush (v := 999) hx hb dX11_readsLine_192 (by decide) ?_
            obtain ⟨r12, S12, e12, h⟩ := obd2_ex h
            refine k_V (As := [.int 0, .int 0, .int 999]) (rest := []) (st1 := [.int r12]) C kx hK I hA (c_X11_reads e12) ⟨Nat.le_of_ble_eq_true rfl, Nat.le_of_ble_eq_true rfl⟩ mv_X11_reads lk_X11_93 0 11 (mw_0 (cI := cI) (ad := ad)) rfl rfl hl.1 rfl (Nat.le_of_ble_eq_true rfl) dX11_readsLine_195 rfl (fun H locs I => ?_)
            refine lv_istore_n (lv' := [(3, .int r12), (2, .int t0), (0, .ref (ad 0)), (1, .int x1)]) hx hb dX11_readsLine_198 rfl hl (by decide) rfl (fun ls hl => ?_)
            refine lv_goto (tgt := 322) hx hb dX11_readsLine_199 (by decide) ?_
            exact J_322 _ _ h _ _ _ I (lv_sub hl [2, 0] rfl)
          · have h := ite_n c11 h
            rcases Decidable.em (t0 = 3) with c13 | c13
            · have h := ite_t c13 h
              rw [c13]
              refine lv_tableIn (x := 3) (off := 71) (tgt := 202) hx hb dX11_readsLine_131 (by decide) (by decide) (by decide) (by decide) ?_
              refine lv_aload_n hx hb dX11_readsLine_202 rfl (lv_at hl 2 rfl) ?_
              refine lv_iconst (v := 0) hx hb dX11_readsLine_203 (by decide) ?_
              refine lv_iconst (v := 0) hx hb dX11_readsLine_204 (by decide) ?_
              refine lv_sipush (v := 1439) hx hb dX11_readsLine_205 (by decide) ?_
              obtain ⟨r14, S14, e14, h⟩ := obd2_ex h
              refine k_V (As := [.int 0, .int 0, .int 1439]) (rest := []) (st1 := [.int r14]) C kx hK I hA (c_X11_reads e14) ⟨Nat.le_of_ble_eq_true rfl, Nat.le_of_ble_eq_true rfl⟩ mv_X11_reads lk_X11_93 0 11 (mw_0 (cI := cI) (ad := ad)) rfl rfl hl.1 rfl (Nat.le_of_ble_eq_true rfl) dX11_readsLine_208 rfl (fun H locs I => ?_)
              refine lv_istore_n (lv' := [(3, .int r14), (2, .int t0), (0, .ref (ad 0)), (1, .int x1)]) hx hb dX11_readsLine_211 rfl hl (by decide) rfl (fun ls hl => ?_)
              refine lv_goto (tgt := 322) hx hb dX11_readsLine_212 (by decide) ?_
              exact J_322 _ _ h _ _ _ I (lv_sub hl [2, 0] rfl)
            · have h := ite_n c13 h
              rcases Decidable.em (t0 = 4) with c15 | c15
              · have h := ite_t c15 h
                rw [c15]
                refine lv_tableIn (x := 4) (off := 84) (tgt := 215) hx hb dX11_readsLine_131 (by decide) (by decide) (by decide) (by decide) ?_
                refine lv_aload_n hx hb dX11_readsLine_215 rfl (lv_at hl 2 rfl) ?_
                obtain ⟨r16, S16, e16, h⟩ := obd2_ex h
                refine k_V (As := []) (rest := []) (st1 := [.int r16]) C kx hK I hA (c_X11_readsWay e16) ⟨Nat.le_of_ble_eq_true rfl, Nat.le_of_ble_eq_true rfl⟩ mv_X11_readsWay lk_X11_121 0 11 (mw_0 (cI := cI) (ad := ad)) rfl rfl hl.1 rfl (Nat.le_of_ble_eq_true rfl) dX11_readsLine_216 rfl (fun H locs I => ?_)
                refine lv_istore_n (lv' := [(3, .int r16), (2, .int t0), (0, .ref (ad 0)), (1, .int x1)]) hx hb dX11_readsLine_219 rfl hl (by decide) rfl (fun ls hl => ?_)
                refine lv_goto (tgt := 322) hx hb dX11_readsLine_220 (by decide) ?_
                exact J_322 _ _ h _ _ _ I (lv_sub hl [2, 0] rfl)
              · have h := ite_n c15 h
                rcases Decidable.em (t0 = 5) with c17 | c17
                · have h := ite_t c17 h
                  rw [c17]
                  refine lv_tableIn (x := 5) (off := 92) (tgt := 223) hx hb dX11_readsLine_131 (by decide) (by decide) (by decide) (by decide) ?_
                  refine lv_aload_n hx hb dX11_readsLine_223 rfl (lv_at hl 2 rfl) ?_
                  refine lv_iconst (v := 0) hx hb dX11_readsLine_224 (by decide) ?_
                  refine lv_iconst (v := 0) hx hb dX11_readsLine_225 (by decide) ?_
                  refine lv_iconst (v := 5) hx hb dX11_readsLine_226 (by decide) ?_
                  obtain ⟨r18, S18, e18, h⟩ := obd2_ex h
                  refine k_V (As := [.int 0, .int 0, .int 5]) (rest := []) (st1 := [.int r18]) C kx hK I hA (c_X11_reads e18) ⟨Nat.le_of_ble_eq_true rfl, Nat.le_of_ble_eq_true rfl⟩ mv_X11_reads lk_X11_93 0 11 (mw_0 (cI := cI) (ad := ad)) rfl rfl hl.1 rfl (Nat.le_of_ble_eq_true rfl) dX11_readsLine_227 rfl (fun H locs I => ?_)
                  refine lv_if_eq (tgt := 312) hx hb dX11_readsLine_230 (by decide) (fun c19 => ?_) (fun c19 => ?_)
                  · have h := ite_t c19 h
                    exact J_312 _  h _ _ _ I (lv_sub hl [2] rfl)
                  · have h := ite_n c19 h
                    refine lv_aload_n hx hb dX11_readsLine_233 rfl (lv_at hl 2 rfl) ?_
                    refine lv_iconst (v := 1) hx hb dX11_readsLine_234 (by decide) ?_
                    refine lv_iconst (v := 1) hx hb dX11_readsLine_235 (by decide) ?_
                    refine lv_iconst (v := 5) hx hb dX11_readsLine_236 (by decide) ?_
                    obtain ⟨r20, S20, e20, h⟩ := obd2_ex h
                    refine k_V (As := [.int 1, .int 1, .int 5]) (rest := []) (st1 := [.int r20]) C kx hK I hA (c_X11_reads e20) ⟨Nat.le_of_ble_eq_true rfl, Nat.le_of_ble_eq_true rfl⟩ mv_X11_reads lk_X11_93 0 11 (mw_0 (cI := cI) (ad := ad)) rfl rfl hl.1 rfl (Nat.le_of_ble_eq_true rfl) dX11_readsLine_237 rfl (fun H locs I => ?_)
                    refine lv_if_eq (tgt := 312) hx hb dX11_readsLine_240 (by decide) (fun c21 => ?_) (fun c21 => ?_)
                    · have h := ite_t c21 h
                      exact J_312 _  h _ _ _ I (lv_sub hl [2] rfl)
                    · have h := ite_n c21 h
                      refine lv_aload_n hx hb dX11_readsLine_243 rfl (lv_at hl 2 rfl) ?_
                      refine lv_iconst (v := 2) hx hb dX11_readsLine_244 (by decide) ?_
                      refine lv_iconst (v := 0) hx hb dX11_readsLine_245 (by decide) ?_
                      refine lv_sipush (v := 1439) hx hb dX11_readsLine_246 (by decide) ?_
                      obtain ⟨r22, S22, e22, h⟩ := obd2_ex h
                      refine k_V (As := [.int 2, .int 0, .int 1439]) (rest := []) (st1 := [.int r22]) C kx hK I hA (c_X11_reads e22) ⟨Nat.le_of_ble_eq_true rfl, Nat.le_of_ble_eq_true rfl⟩ mv_X11_reads lk_X11_93 0 11 (mw_0 (cI := cI) (ad := ad)) rfl rfl hl.1 rfl (Nat.le_of_ble_eq_true rfl) dX11_readsLine_249 rfl (fun H locs I => ?_)
                      refine lv_if_eq (tgt := 312) hx hb dX11_readsLine_252 (by decide) (fun c23 => ?_) (fun c23 => ?_)
                      · have h := ite_t c23 h
                        exact J_312 _  h _ _ _ I (lv_sub hl [2] rfl)
                      · have h := ite_n c23 h
                        refine lv_aload_n hx hb dX11_readsLine_255 rfl (lv_at hl 2 rfl) ?_
                        refine lv_iconst (v := 3) hx hb dX11_readsLine_256 (by decide) ?_
                        refine lv_aload_n hx hb dX11_readsLine_257 rfl (lv_at hl 2 rfl) ?_
                        refine gm_0_2 C hK I fl_X11_13 dX11_readsLine_258 ?_
                        refine lv_iload_n hx hb dX11_readsLine_261 rfl (lv_at hl 3 rfl) ?_
                        refine lv_iconst (v := 3) hx hb dX11_readsLine_262 (by decide) ?_
                        refine lv_iadd hx hb dX11_readsLine_263 ?_
                        obtain ⟨hv24, h⟩ := chk_ex h
                        refine am_2 C hK I hv24 dX11_readsLine_264 ?_
                        refine lv_sipush (v := 1439) hx hb dX11_readsLine_265 (by decide) ?_
                        obtain ⟨r25, S25, e25, h⟩ := obd2_ex h
                        refine k_V (As := [.int 3, .int (S22.1 2 ((x1 + 3)).toNatClampNeg), .int 1439]) (rest := []) (st1 := [.int r25]) C kx hK I hA (c_X11_reads e25) ⟨Nat.le_of_ble_eq_true rfl, Nat.le_of_ble_eq_true rfl⟩ mv_X11_reads lk_X11_93 0 11 (mw_0 (cI := cI) (ad := ad)) rfl rfl hl.1 rfl (Nat.le_of_ble_eq_true rfl) dX11_readsLine_268 rfl (fun H locs I => ?_)
                        refine lv_if_eq (tgt := 312) hx hb dX11_readsLine_271 (by decide) (fun c26 => ?_) (fun c26 => ?_)
                        · have h := ite_t c26 h
                          exact J_312 _  h _ _ _ I (lv_sub hl [2] rfl)
                        · have h := ite_n c26 h
                          refine lv_aload_n hx hb dX11_readsLine_274 rfl (lv_at hl 2 rfl) ?_
                          refine lv_iconst (v := 4) hx hb dX11_readsLine_275 (by decide) ?_
                          refine lv_iconst (v := 0) hx hb dX11_readsLine_276 (by decide) ?_
                          refine lv_bipush (v := 99) hx hb dX11_readsLine_277 (by decide) ?_
                          obtain ⟨r27, S27, e27, h⟩ := obd2_ex h
                          refine k_V (As := [.int 4, .int 0, .int 99]) (rest := []) (st1 := [.int r27]) C kx hK I hA (c_X11_reads e27) ⟨Nat.le_of_ble_eq_true rfl, Nat.le_of_ble_eq_true rfl⟩ mv_X11_reads lk_X11_93 0 11 (mw_0 (cI := cI) (ad := ad)) rfl rfl hl.1 rfl (Nat.le_of_ble_eq_true rfl) dX11_readsLine_279 rfl (fun H locs I => ?_)
                          refine lv_if_eq (tgt := 312) hx hb dX11_readsLine_282 (by decide) (fun c28 => ?_) (fun c28 => ?_)
                          · have h := ite_t c28 h
                            exact J_312 _  h _ _ _ I (lv_sub hl [2] rfl)
                          · have h := ite_n c28 h
                            refine lv_aload_n hx hb dX11_readsLine_285 rfl (lv_at hl 2 rfl) ?_
                            refine lv_iconst (v := 5) hx hb dX11_readsLine_286 (by decide) ?_
                            refine lv_iconst (v := 0) hx hb dX11_readsLine_287 (by decide) ?_
                            refine lv_bipush (v := 99) hx hb dX11_readsLine_288 (by decide) ?_
                            obtain ⟨r29, S29, e29, h⟩ := obd2_ex h
                            refine k_V (As := [.int 5, .int 0, .int 99]) (rest := []) (st1 := [.int r29]) C kx hK I hA (c_X11_reads e29) ⟨Nat.le_of_ble_eq_true rfl, Nat.le_of_ble_eq_true rfl⟩ mv_X11_reads lk_X11_93 0 11 (mw_0 (cI := cI) (ad := ad)) rfl rfl hl.1 rfl (Nat.le_of_ble_eq_true rfl) dX11_readsLine_290 rfl (fun H locs I => ?_)
                            refine lv_if_eq (tgt := 312) hx hb dX11_readsLine_293 (by decide) (fun c30 => ?_) (fun c30 => ?_)
                            · have h := ite_t c30 h
                              exact J_312 _  h _ _ _ I (lv_sub hl [2] rfl)
                            · have h := ite_n c30 h
                              refine lv_aload_n hx hb dX11_readsLine_296 rfl (lv_at hl 2 rfl) ?_
                              refine lv_bipush (v := 6) hx hb dX11_readsLine_297 (by decide) ?_
                              refine lv_iconst (v := 0) hx hb dX11_readsLine_299 (by decide) ?_
                              refine lv_bipush (v := 99) hx hb dX11_readsLine_300 (by decide) ?_
                              obtain ⟨r31, S31, e31, h⟩ := obd2_ex h
                              refine k_V (As := [.int 6, .int 0, .int 99]) (rest := []) (st1 := [.int r31]) C kx hK I hA (c_X11_reads e31) ⟨Nat.le_of_ble_eq_true rfl, Nat.le_of_ble_eq_true rfl⟩ mv_X11_reads lk_X11_93 0 11 (mw_0 (cI := cI) (ad := ad)) rfl rfl hl.1 rfl (Nat.le_of_ble_eq_true rfl) dX11_readsLine_302 rfl (fun H locs I => ?_)
                              refine lv_if_eq (tgt := 312) hx hb dX11_readsLine_305 (by decide) (fun c32 => ?_) (fun c32 => ?_)
                              · have h := ite_t c32 h
                                exact J_312 _  h _ _ _ I (lv_sub hl [2] rfl)
                              · have h := ite_n c32 h
                                refine lv_iconst (v := 1) hx hb dX11_readsLine_308 (by decide) ?_
                                refine lv_goto (tgt := 313) hx hb dX11_readsLine_309 (by decide) ?_
                                exact J_313 _ _ h _ _ _ I (lv_sub hl [2] rfl)
                · have h := ite_n c17 h
                  refine lv_tableOut (tgt := 317) hx hb dX11_readsLine_131 (by have := lv_neT (k := 0) (a := 0) c7 (by decide); have := lv_neT (k := 1) (a := 1) c9 (by decide); have := lv_neT (k := 2) (a := 2) c11 (by decide); have := lv_neT (k := 3) (a := 3) c13 (by decide); have := lv_neT (k := 4) (a := 4) c15 (by decide); have := lv_neT (k := 5) (a := 5) c17 (by decide); omega) (by decide) ?_
                  refine lv_aload_n hx hb dX11_readsLine_317 rfl (lv_at hl 2 rfl) ?_
                  obtain ⟨r33, S33, e33, h⟩ := obd2_ex h
                  refine k_V (As := []) (rest := []) (st1 := [.int r33]) C kx hK I hA (c_X11_readsSort e33) ⟨Nat.le_of_ble_eq_true rfl, Nat.le_of_ble_eq_true rfl⟩ mv_X11_readsSort lk_X11_124 0 11 (mw_0 (cI := cI) (ad := ad)) rfl rfl hl.1 rfl (Nat.le_of_ble_eq_true rfl) dX11_readsLine_318 rfl (fun H locs I => ?_)
                  refine lv_istore_n (lv' := [(3, .int r33), (2, .int t0), (0, .ref (ad 0)), (1, .int x1)]) hx hb dX11_readsLine_321 rfl hl (by decide) rfl (fun ls hl => ?_)
                  exact J_322 _ _ h _ _ _ I (lv_sub hl [2, 0] rfl)
    · have h := ite_t c3 h
      refine lv_iconst (v := 0) hx hb dX11_readsLine_115 (by decide) ?_
      exact rt_z (Or.inl rfl) hq h I dX11_readsLine_116
  unfold f_X11_readsLine at h
  refine lv_bipush (v := 8) hx hb dX11_readsLine_0 (by decide) ?_
  refine lv_aload_n hx hb dX11_readsLine_2 rfl (lv_at hl 0 rfl) ?_
  refine gm_0_3 C hK I fl_X11_77 dX11_readsLine_3 ?_
  refine lv_imul hx hb dX11_readsLine_6 ?_
  refine lv_topi (fun v34 ev34 => ?_)
  have h := bnd_at ev34 h
  clear ev34
  refine lv_istore_n (lv' := [(1, .int v34), (0, .ref (ad 0))]) hx hb dX11_readsLine_7 rfl hl (by decide) rfl (fun ls hl => ?_)
  refine lv_aload_n hx hb dX11_readsLine_8 rfl (lv_at hl 1 rfl) ?_
  refine lv_ldc (v := 7808276) hx hb C.2.2.2.1 (C.2.2.2.2 _ cn_X11_111) dX11_readsLine_9 ?_
  refine lv_iconst (v := 5) hx hb dX11_readsLine_11 (by decide) ?_
  obtain ⟨r35, S35, e35, h⟩ := obd2_ex h
  refine k_V (As := [.int 7808276, .int 5]) (rest := []) (st1 := [.int r35]) C kx hK I hA (c_X11_isWord e35) ⟨Nat.le_of_ble_eq_true rfl, Nat.le_of_ble_eq_true rfl⟩ mv_X11_isWord lk_X11_98 0 11 (mw_0 (cI := cI) (ad := ad)) rfl rfl hl.1 rfl (Nat.le_of_ble_eq_true rfl) dX11_readsLine_12 rfl (fun H locs I => ?_)
  refine lv_if_eq (tgt := 22) hx hb dX11_readsLine_15 (by decide) (fun c36 => ?_) (fun c36 => ?_)
  · have h := ite_t c36 h
    refine lv_aload_n hx hb dX11_readsLine_22 rfl (lv_at hl 1 rfl) ?_
    refine lv_ldc (v := 132588) hx hb C.2.2.2.1 (C.2.2.2.2 _ cn_X11_112) dX11_readsLine_23 ?_
    refine lv_iconst (v := 4) hx hb dX11_readsLine_25 (by decide) ?_
    obtain ⟨r37, S37, e37, h⟩ := obd2_ex h
    refine k_V (As := [.int 132588, .int 4]) (rest := []) (st1 := [.int r37]) C kx hK I hA (c_X11_isWord e37) ⟨Nat.le_of_ble_eq_true rfl, Nat.le_of_ble_eq_true rfl⟩ mv_X11_isWord lk_X11_98 0 11 (mw_0 (cI := cI) (ad := ad)) rfl rfl hl.1 rfl (Nat.le_of_ble_eq_true rfl) dX11_readsLine_26 rfl (fun H locs I => ?_)
    refine lv_if_eq (tgt := 36) hx hb dX11_readsLine_29 (by decide) (fun c38 => ?_) (fun c38 => ?_)
    · have h := ite_t c38 h
      refine lv_aload_n hx hb dX11_readsLine_36 rfl (lv_at hl 1 rfl) ?_
      refine lv_ldc (v := 5884592) hx hb C.2.2.2.1 (C.2.2.2.2 _ cn_X11_113) dX11_readsLine_37 ?_
      refine lv_iconst (v := 5) hx hb dX11_readsLine_39 (by decide) ?_
      obtain ⟨r39, S39, e39, h⟩ := obd2_ex h
      refine k_V (As := [.int 5884592, .int 5]) (rest := []) (st1 := [.int r39]) C kx hK I hA (c_X11_isWord e39) ⟨Nat.le_of_ble_eq_true rfl, Nat.le_of_ble_eq_true rfl⟩ mv_X11_isWord lk_X11_98 0 11 (mw_0 (cI := cI) (ad := ad)) rfl rfl hl.1 rfl (Nat.le_of_ble_eq_true rfl) dX11_readsLine_40 rfl (fun H locs I => ?_)
      refine lv_if_eq (tgt := 50) hx hb dX11_readsLine_43 (by decide) (fun c40 => ?_) (fun c40 => ?_)
      · have h := ite_t c40 h
        refine lv_aload_n hx hb dX11_readsLine_50 rfl (lv_at hl 1 rfl) ?_
        refine lv_ldc (v := 14982306) hx hb C.2.2.2.1 (C.2.2.2.2 _ cn_X11_114) dX11_readsLine_51 ?_
        refine lv_iconst (v := 5) hx hb dX11_readsLine_53 (by decide) ?_
        obtain ⟨r41, S41, e41, h⟩ := obd2_ex h
        refine k_V (As := [.int 14982306, .int 5]) (rest := []) (st1 := [.int r41]) C kx hK I hA (c_X11_isWord e41) ⟨Nat.le_of_ble_eq_true rfl, Nat.le_of_ble_eq_true rfl⟩ mv_X11_isWord lk_X11_98 0 11 (mw_0 (cI := cI) (ad := ad)) rfl rfl hl.1 rfl (Nat.le_of_ble_eq_true rfl) dX11_readsLine_54 rfl (fun H locs I => ?_)
        refine lv_if_eq (tgt := 64) hx hb dX11_readsLine_57 (by decide) (fun c42 => ?_) (fun c42 => ?_)
        · have h := ite_t c42 h
          refine lv_aload_n hx hb dX11_readsLine_64 rfl (lv_at hl 1 rfl) ?_
          refine lv_sipush (v := 25655) hx hb dX11_readsLine_65 (by decide) ?_
          refine lv_iconst (v := 3) hx hb dX11_readsLine_68 (by decide) ?_
          obtain ⟨r43, S43, e43, h⟩ := obd2_ex h
          refine k_V (As := [.int 25655, .int 3]) (rest := []) (st1 := [.int r43]) C kx hK I hA (c_X11_isWord e43) ⟨Nat.le_of_ble_eq_true rfl, Nat.le_of_ble_eq_true rfl⟩ mv_X11_isWord lk_X11_98 0 11 (mw_0 (cI := cI) (ad := ad)) rfl rfl hl.1 rfl (Nat.le_of_ble_eq_true rfl) dX11_readsLine_69 rfl (fun H locs I => ?_)
          refine lv_if_eq (tgt := 79) hx hb dX11_readsLine_72 (by decide) (fun c44 => ?_) (fun c44 => ?_)
          · have h := ite_t c44 h
            refine lv_aload_n hx hb dX11_readsLine_79 rfl (lv_at hl 1 rfl) ?_
            refine lv_ldc (v := 405539) hx hb C.2.2.2.1 (C.2.2.2.2 _ cn_X11_115) dX11_readsLine_80 ?_
            refine lv_iconst (v := 4) hx hb dX11_readsLine_82 (by decide) ?_
            obtain ⟨r45, S45, e45, h⟩ := obd2_ex h
            refine k_V (As := [.int 405539, .int 4]) (rest := []) (st1 := [.int r45]) C kx hK I hA (c_X11_isWord e45) ⟨Nat.le_of_ble_eq_true rfl, Nat.le_of_ble_eq_true rfl⟩ mv_X11_isWord lk_X11_98 0 11 (mw_0 (cI := cI) (ad := ad)) rfl rfl hl.1 rfl (Nat.le_of_ble_eq_true rfl) dX11_readsLine_83 rfl (fun H locs I => ?_)
            refine lv_if_eq (tgt := 93) hx hb dX11_readsLine_86 (by decide) (fun c46 => ?_) (fun c46 => ?_)
            · have h := ite_t c46 h
              refine lv_aload_n hx hb dX11_readsLine_93 rfl (lv_at hl 1 rfl) ?_
              refine lv_ldc (v := 674291) hx hb C.2.2.2.1 (C.2.2.2.2 _ cn_X11_116) dX11_readsLine_94 ?_
              refine lv_iconst (v := 4) hx hb dX11_readsLine_96 (by decide) ?_
              obtain ⟨r47, S47, e47, h⟩ := obd2_ex h
              refine k_V (As := [.int 674291, .int 4]) (rest := []) (st1 := [.int r47]) C kx hK I hA (c_X11_isWord e47) ⟨Nat.le_of_ble_eq_true rfl, Nat.le_of_ble_eq_true rfl⟩ mv_X11_isWord lk_X11_98 0 11 (mw_0 (cI := cI) (ad := ad)) rfl rfl hl.1 rfl (Nat.le_of_ble_eq_true rfl) dX11_readsLine_97 rfl (fun H locs I => ?_)
              refine lv_if_eq (tgt := 108) hx hb dX11_readsLine_100 (by decide) (fun c48 => ?_) (fun c48 => ?_)
              · have h := ite_t c48 h
                refine lv_iconst (v := (-1)) hx hb dX11_readsLine_108 (by decide) ?_
                exact J_109 _ _ _ h _ _ _ I (lv_sub hl [1, 0] rfl)
              · have h := ite_n c48 h
                refine lv_bipush (v := 6) hx hb dX11_readsLine_103 (by decide) ?_
                refine lv_goto (tgt := 109) hx hb dX11_readsLine_105 (by decide) ?_
                exact J_109 _ _ _ h _ _ _ I (lv_sub hl [1, 0] rfl)
            · have h := ite_n c46 h
              refine lv_iconst (v := 5) hx hb dX11_readsLine_89 (by decide) ?_
              refine lv_goto (tgt := 109) hx hb dX11_readsLine_90 (by decide) ?_
              exact J_109 _ _ _ h _ _ _ I (lv_sub hl [1, 0] rfl)
          · have h := ite_n c44 h
            refine lv_iconst (v := 4) hx hb dX11_readsLine_75 (by decide) ?_
            refine lv_goto (tgt := 109) hx hb dX11_readsLine_76 (by decide) ?_
            exact J_109 _ _ _ h _ _ _ I (lv_sub hl [1, 0] rfl)
        · have h := ite_n c42 h
          refine lv_iconst (v := 3) hx hb dX11_readsLine_60 (by decide) ?_
          refine lv_goto (tgt := 109) hx hb dX11_readsLine_61 (by decide) ?_
          exact J_109 _ _ _ h _ _ _ I (lv_sub hl [1, 0] rfl)
      · have h := ite_n c40 h
        refine lv_iconst (v := 2) hx hb dX11_readsLine_46 (by decide) ?_
        refine lv_goto (tgt := 109) hx hb dX11_readsLine_47 (by decide) ?_
        exact J_109 _ _ _ h _ _ _ I (lv_sub hl [1, 0] rfl)
    · have h := ite_n c38 h
      refine lv_iconst (v := 1) hx hb dX11_readsLine_32 (by decide) ?_
      refine lv_goto (tgt := 109) hx hb dX11_readsLine_33 (by decide) ?_
      exact J_109 _ _ _ h _ _ _ I (lv_sub hl [1, 0] rfl)
  · have h := ite_n c36 h
    refine lv_iconst (v := 0) hx hb dX11_readsLine_18 (by decide) ?_
    refine lv_goto (tgt := 109) hx hb dX11_readsLine_19 (by decide) ?_
    exact J_109 _ _ _ h _ _ _ I (lv_sub hl [1, 0] rfl)
theorem lk_X11_127 : Cond.methodLink RX11 127 yX11_readsLine ∈ TT := tt_of 1227 (by decide +kernel) rfl
theorem mv_X11_readsLine : MV yX11_readsLine cX11_readsLine 4 (some .boolean) 0 := ⟨tt_of 1230 (by decide +kernel) rfl, tt_of 1229 (by decide +kernel) rfl, tt_of 24 (by decide +kernel) rfl, tt_of 76 (by decide +kernel) rfl, ⟨by decide +kernel, by decide +kernel, by decide +kernel⟩⟩
theorem dX11_fault_0 : decode cX11_fault 0 = .ok (.aload_n 0, 1) := by decide +kernel
theorem dX11_fault_1 : decode cX11_fault 1 = .ok (.iconst 0, 1) := by decide +kernel
theorem dX11_fault_2 : decode cX11_fault 2 = .ok (.putfield 64, 3) := by decide +kernel
theorem dX11_fault_5 : decode cX11_fault 5 = .ok (.aload_n 0, 1) := by decide +kernel
theorem dX11_fault_6 : decode cX11_fault 6 = .ok (.iconst 0, 1) := by decide +kernel
theorem dX11_fault_7 : decode cX11_fault 7 = .ok (.putfield 77, 3) := by decide +kernel
theorem dX11_fault_10 : decode cX11_fault 10 = .ok (.aload_n 0, 1) := by decide +kernel
theorem dX11_fault_11 : decode cX11_fault 11 = .ok (.invokevirtual 80, 3) := by decide +kernel
theorem dX11_fault_14 : decode cX11_fault 14 = .ok (.aload_n 0, 1) := by decide +kernel
theorem dX11_fault_15 : decode cX11_fault 15 = .ok (.invokevirtual 127, 3) := by decide +kernel
theorem dX11_fault_18 : decode cX11_fault 18 = .ok (.ifCond .ne 8, 3) := by decide +kernel
theorem dX11_fault_21 : decode cX11_fault 21 = .ok (.aload_n 0, 1) := by decide +kernel
theorem dX11_fault_22 : decode cX11_fault 22 = .ok (.getfield 67, 3) := by decide +kernel
theorem dX11_fault_25 : decode cX11_fault 25 = .ok (.ireturn, 1) := by decide +kernel
theorem dX11_fault_26 : decode cX11_fault 26 = .ok (.aload_n 0, 1) := by decide +kernel
theorem dX11_fault_27 : decode cX11_fault 27 = .ok (.getfield 67, 3) := by decide +kernel
theorem dX11_fault_30 : decode cX11_fault 30 = .ok (.aload_n 0, 1) := by decide +kernel
theorem dX11_fault_31 : decode cX11_fault 31 = .ok (.getfield 59, 3) := by decide +kernel
theorem dX11_fault_34 : decode cX11_fault 34 = .ok (.if_icmp .ge 70, 3) := by decide +kernel
theorem dX11_fault_37 : decode cX11_fault 37 = .ok (.aload_n 0, 1) := by decide +kernel
theorem dX11_fault_38 : decode cX11_fault 38 = .ok (.getfield 74, 3) := by decide +kernel
theorem dX11_fault_41 : decode cX11_fault 41 = .ok (.aload_n 0, 1) := by decide +kernel
theorem dX11_fault_42 : decode cX11_fault 42 = .ok (.getfield 67, 3) := by decide +kernel
theorem dX11_fault_45 : decode cX11_fault 45 = .ok (.isub, 1) := by decide +kernel
theorem dX11_fault_46 : decode cX11_fault 46 = .ok (.iconst 1, 1) := by decide +kernel
theorem dX11_fault_47 : decode cX11_fault 47 = .ok (.if_icmp .ne 30, 3) := by decide +kernel
theorem dX11_fault_50 : decode cX11_fault 50 = .ok (.aload_n 0, 1) := by decide +kernel
theorem dX11_fault_51 : decode cX11_fault 51 = .ok (.getfield 7, 3) := by decide +kernel
theorem dX11_fault_54 : decode cX11_fault 54 = .ok (.aload_n 0, 1) := by decide +kernel
theorem dX11_fault_55 : decode cX11_fault 55 = .ok (.getfield 67, 3) := by decide +kernel
theorem dX11_fault_58 : decode cX11_fault 58 = .ok (.iaload, 1) := by decide +kernel
theorem dX11_fault_59 : decode cX11_fault 59 = .ok (.bipush 59, 2) := by decide +kernel
theorem dX11_fault_61 : decode cX11_fault 61 = .ok (.if_icmp .ne 16, 3) := by decide +kernel
theorem dX11_fault_64 : decode cX11_fault 64 = .ok (.aload_n 0, 1) := by decide +kernel
theorem dX11_fault_65 : decode cX11_fault 65 = .ok (.getfield 77, 3) := by decide +kernel
theorem dX11_fault_68 : decode cX11_fault 68 = .ok (.bipush 10, 2) := by decide +kernel
theorem dX11_fault_70 : decode cX11_fault 70 = .ok (.if_icmp .ge 7, 3) := by decide +kernel
theorem dX11_fault_73 : decode cX11_fault 73 = .ok (.iconst 1, 1) := by decide +kernel
theorem dX11_fault_74 : decode cX11_fault 74 = .ok (.goto 4, 3) := by decide +kernel
theorem dX11_fault_77 : decode cX11_fault 77 = .ok (.iconst 0, 1) := by decide +kernel
theorem dX11_fault_78 : decode cX11_fault 78 = .ok (.istore_n 1, 1) := by decide +kernel
theorem dX11_fault_79 : decode cX11_fault 79 = .ok (.iload_n 1, 1) := by decide +kernel
theorem dX11_fault_80 : decode cX11_fault 80 = .ok (.ifCond .eq 12, 3) := by decide +kernel
theorem dX11_fault_83 : decode cX11_fault 83 = .ok (.aload_n 0, 1) := by decide +kernel
theorem dX11_fault_84 : decode cX11_fault 84 = .ok (.invokevirtual 80, 3) := by decide +kernel
theorem dX11_fault_87 : decode cX11_fault 87 = .ok (.aload_n 0, 1) := by decide +kernel
theorem dX11_fault_88 : decode cX11_fault 88 = .ok (.invokevirtual 127, 3) := by decide +kernel
theorem dX11_fault_91 : decode cX11_fault 91 = .ok (.istore_n 1, 1) := by decide +kernel
theorem dX11_fault_92 : decode cX11_fault 92 = .ok (.iload_n 1, 1) := by decide +kernel
theorem dX11_fault_93 : decode cX11_fault 93 = .ok (.ifCond .ne 8, 3) := by decide +kernel
theorem dX11_fault_96 : decode cX11_fault 96 = .ok (.aload_n 0, 1) := by decide +kernel
theorem dX11_fault_97 : decode cX11_fault 97 = .ok (.getfield 67, 3) := by decide +kernel
theorem dX11_fault_100 : decode cX11_fault 100 = .ok (.ireturn, 1) := by decide +kernel
theorem dX11_fault_101 : decode cX11_fault 101 = .ok (.goto (-75), 3) := by decide +kernel
theorem dX11_fault_104 : decode cX11_fault 104 = .ok (.iconst (-1), 1) := by decide +kernel
theorem dX11_fault_105 : decode cX11_fault 105 = .ok (.ireturn, 1) := by decide +kernel
def f_X11_fault_92 (k_26 : St → Option (Int32 × St)) (S : St) (x1 : Int32) : Option (Int32 × St) :=
  if x1 = 0 then (
    some ((S.1 0 18), S)
  ) else (
    k_26 S 
  )
def f_X11_fault_78 (k_26 : St → Option (Int32 × St)) (S : St) (t0 : Int32) : Option (Int32 × St) :=
  if t0 = 0 then (
    f_X11_fault_92 k_26 S t0
  ) else (
    obd (f_X11_token S ) fun S3 =>
    obd2 (f_X11_readsLine S3 ) fun r4 S4 =>
    f_X11_fault_92 k_26 S4 r4
  )
def f_X11_fault_77 (k_26 : St → Option (Int32 × St)) (S : St)  : Option (Int32 × St) :=
  f_X11_fault_78 k_26 S 0
def f_X11_fault_26 (k_26 : St → Option (Int32 × St)) (S : St)  : Option (Int32 × St) :=
  if (S.1 0 1) ≤ (S.1 0 18) then (
    some ((-1), S)
  ) else (
    if ((S.1 0 19) - (S.1 0 18)) = 1 then (
      chk (ixo (S.1 0 18) 200) <|
      if (S.1 1 ((S.1 0 18)).toNatClampNeg) = 59 then (
        if 10 ≤ (S.1 0 3) then (
          f_X11_fault_77 k_26 S 
        ) else (
          f_X11_fault_78 k_26 S 1
        )
      ) else (
        f_X11_fault_77 k_26 S 
      )
    ) else (
      f_X11_fault_77 k_26 S 
    )
  )
def l_X11_fault_26 : Nat → St → Option (Int32 × St)
  | 0, _ => none
  | fu + 1, S => f_X11_fault_26 (l_X11_fault_26 fu) S 
def f_X11_fault (S : St)  : Option (Int32 × St) :=
  bnd (setI S 0 17 0) fun S10 =>
  bnd (setI S10 0 3 0) fun S11 =>
  obd (f_X11_token S11 ) fun S12 =>
  obd2 (f_X11_readsLine S12 ) fun r13 S13 =>
  if r13 = 0 then (
    some ((S13.1 0 18), S13)
  ) else (
    l_X11_fault_26 FU S13 
  )
set_option maxHeartbeats 4000000 in
set_option maxRecDepth 100000 in
theorem c_X11_fault {l : Launch} {D : va_G} {cI cC cS : ClassId} {ad adK adV : Nat → Nat} {S S1 : St}  {r : Int32} (h : f_X11_fault S  = some (r, S1)) : Kt l D (mw cI ad) (KX D (xtys cI cC cS) adK adV) yX11_fault cX11_fault 2 (some .int) (5) (110) [.ref (ad 0)] S (some (.int r)) S1 := by
  refine k_ent (ins := .ireturn) (st := [.int r]) (by decide +kernel) (Nat.le_of_ble_eq_true rfl) ret_i ?_
  intro p e s m args below meth c A Q C hK I hA hq ls hl
  have C : CallFix p m c cX11_fault 2 s args TT RX11 := C
  have hx := C.1
  have hb := C.2.1
  have kx := kx_ok D (xtys cI cC cS) adK adV
  have hl : lv_has ls 2 [(0, .ref (ad 0))] := hl
  have J_92 : ∀ (k_26 : St → Option (Int32 × St)) (hk_26 : ∀ (S : St) , k_26 S  = some (r, S1) → ∀ (H : Heap) (locs : List Loc) (ls : Array Slot), Iv D (mw cI ad) S A s H locs → lv_has ls 2 [(0, .ref (ad 0))] → W p l e ({ frames := 5, cells := 0, slots := 0, locals := 110 } : Room) s m args below meth c H locs 0 0 Q (F0 m 26 ls [])) (S : St) (x1 : Int32), f_X11_fault_92 k_26 S x1 = some (r, S1) → ∀ (H : Heap) (locs : List Loc) (ls : Array Slot), Iv D (mw cI ad) S A s H locs → lv_has ls 2 [(0, .ref (ad 0)), (1, .int x1)] → W p l e ({ frames := 5, cells := 0, slots := 0, locals := 110 } : Room) s m args below meth c H locs 0 0 Q (F0 m 92 ls []) := by
    intro k_26 hk_26 S x1 h H locs ls I hl
    unfold f_X11_fault_92 at h
    refine lv_iload_n hx hb dX11_fault_92 rfl (lv_at hl 1 rfl) ?_
    refine lv_if_ne (tgt := 101) hx hb dX11_fault_93 (by decide) (fun c1 => ?_) (fun c1 => ?_)
    · have h := ite_n c1 h
      refine lv_goto (tgt := 26) hx hb dX11_fault_101 (by decide) ?_
      exact hk_26 _  h _ _ _ I (lv_sub hl [0] rfl)
    · have h := ite_t c1 h
      refine lv_aload_n hx hb dX11_fault_96 rfl (lv_at hl 0 rfl) ?_
      refine gm_0_18 C hK I fl_X11_67 dX11_fault_97 ?_
      exact rt_i hq h I dX11_fault_100
  have J_78 : ∀ (k_26 : St → Option (Int32 × St)) (hk_26 : ∀ (S : St) , k_26 S  = some (r, S1) → ∀ (H : Heap) (locs : List Loc) (ls : Array Slot), Iv D (mw cI ad) S A s H locs → lv_has ls 2 [(0, .ref (ad 0))] → W p l e ({ frames := 5, cells := 0, slots := 0, locals := 110 } : Room) s m args below meth c H locs 0 0 Q (F0 m 26 ls [])) (S : St) (t0 : Int32), f_X11_fault_78 k_26 S t0 = some (r, S1) → ∀ (H : Heap) (locs : List Loc) (ls : Array Slot), Iv D (mw cI ad) S A s H locs → lv_has ls 2 [(0, .ref (ad 0))] → W p l e ({ frames := 5, cells := 0, slots := 0, locals := 110 } : Room) s m args below meth c H locs 0 0 Q (F0 m 78 ls [.int t0]) := by
    intro k_26 hk_26 S t0 h H locs ls I hl
    unfold f_X11_fault_78 at h
    refine lv_istore_n (lv' := [(1, .int t0), (0, .ref (ad 0))]) hx hb dX11_fault_78 rfl hl (by decide) rfl (fun ls hl => ?_)
    refine lv_iload_n hx hb dX11_fault_79 rfl (lv_at hl 0 rfl) ?_
    refine lv_if_eq (tgt := 92) hx hb dX11_fault_80 (by decide) (fun c2 => ?_) (fun c2 => ?_)
    · have h := ite_t c2 h
      exact J_92 k_26 hk_26 _ _ h _ _ _ I (lv_sub hl [1, 0] rfl)
    · have h := ite_n c2 h
      refine lv_aload_n hx hb dX11_fault_83 rfl (lv_at hl 1 rfl) ?_
      obtain ⟨S3, e3, h⟩ := obd_ex h
      refine k_V (As := []) (rest := []) (st1 := []) C kx hK I hA (c_X11_token e3) ⟨Nat.le_of_ble_eq_true rfl, Nat.le_of_ble_eq_true rfl⟩ mv_X11_token lk_X11_80 0 11 (mw_0 (cI := cI) (ad := ad)) rfl rfl hl.1 rfl (Nat.le_of_ble_eq_true rfl) dX11_fault_84 rfl (fun H locs I => ?_)
      refine lv_aload_n hx hb dX11_fault_87 rfl (lv_at hl 1 rfl) ?_
      obtain ⟨r4, S4, e4, h⟩ := obd2_ex h
      refine k_V (As := []) (rest := []) (st1 := [.int r4]) C kx hK I hA (c_X11_readsLine e4) ⟨Nat.le_of_ble_eq_true rfl, Nat.le_of_ble_eq_true rfl⟩ mv_X11_readsLine lk_X11_127 0 11 (mw_0 (cI := cI) (ad := ad)) rfl rfl hl.1 rfl (Nat.le_of_ble_eq_true rfl) dX11_fault_88 rfl (fun H locs I => ?_)
      refine lv_istore_n (lv' := [(1, .int r4), (0, .ref (ad 0))]) hx hb dX11_fault_91 rfl hl (by decide) rfl (fun ls hl => ?_)
      exact J_92 k_26 hk_26 _ _ h _ _ _ I (lv_sub hl [1, 0] rfl)
  have J_77 : ∀ (k_26 : St → Option (Int32 × St)) (hk_26 : ∀ (S : St) , k_26 S  = some (r, S1) → ∀ (H : Heap) (locs : List Loc) (ls : Array Slot), Iv D (mw cI ad) S A s H locs → lv_has ls 2 [(0, .ref (ad 0))] → W p l e ({ frames := 5, cells := 0, slots := 0, locals := 110 } : Room) s m args below meth c H locs 0 0 Q (F0 m 26 ls [])) (S : St) , f_X11_fault_77 k_26 S  = some (r, S1) → ∀ (H : Heap) (locs : List Loc) (ls : Array Slot), Iv D (mw cI ad) S A s H locs → lv_has ls 2 [(0, .ref (ad 0))] → W p l e ({ frames := 5, cells := 0, slots := 0, locals := 110 } : Room) s m args below meth c H locs 0 0 Q (F0 m 77 ls []) := by
    intro k_26 hk_26 S  h H locs ls I hl
    unfold f_X11_fault_77 at h
    refine lv_iconst (v := 0) hx hb dX11_fault_77 (by decide) ?_
    exact J_78 k_26 hk_26 _ _ h _ _ _ I (lv_sub hl [0] rfl)
  have B_26 : ∀ (k_26 : St → Option (Int32 × St)) (hk_26 : ∀ (S : St) , k_26 S  = some (r, S1) → ∀ (H : Heap) (locs : List Loc) (ls : Array Slot), Iv D (mw cI ad) S A s H locs → lv_has ls 2 [(0, .ref (ad 0))] → W p l e ({ frames := 5, cells := 0, slots := 0, locals := 110 } : Room) s m args below meth c H locs 0 0 Q (F0 m 26 ls [])) (S : St) , f_X11_fault_26 k_26 S  = some (r, S1) → ∀ (H : Heap) (locs : List Loc) (ls : Array Slot), Iv D (mw cI ad) S A s H locs → lv_has ls 2 [(0, .ref (ad 0))] → W p l e ({ frames := 5, cells := 0, slots := 0, locals := 110 } : Room) s m args below meth c H locs 0 0 Q (F0 m 26 ls []) := by
    intro k_26 hk_26 S  h H locs ls I hl
    unfold f_X11_fault_26 at h
    refine lv_aload_n hx hb dX11_fault_26 rfl (lv_at hl 0 rfl) ?_
    refine gm_0_18 C hK I fl_X11_67 dX11_fault_27 ?_
    refine lv_aload_n hx hb dX11_fault_30 rfl (lv_at hl 0 rfl) ?_
    refine gm_0_1 C hK I fl_X11_59 dX11_fault_31 ?_
    refine lv_icmp_ge (tgt := 104) hx hb dX11_fault_34 (by decide) (fun c5 => ?_) (fun c5 => ?_)
    · have h := ite_t c5 h
      refine lv_iconst (v := (-1)) hx hb dX11_fault_104 (by decide) ?_
      exact rt_i hq h I dX11_fault_105
    · have h := ite_n c5 h
      refine lv_aload_n hx hb dX11_fault_37 rfl (lv_at hl 0 rfl) ?_
      refine gm_0_19 C hK I fl_X11_74 dX11_fault_38 ?_
      refine lv_aload_n hx hb dX11_fault_41 rfl (lv_at hl 0 rfl) ?_
      refine gm_0_18 C hK I fl_X11_67 dX11_fault_42 ?_
      refine lv_isub hx hb dX11_fault_45 ?_
      refine lv_iconst (v := 1) hx hb dX11_fault_46 (by decide) ?_
      refine lv_icmp_ne (tgt := 77) hx hb dX11_fault_47 (by decide) (fun c6 => ?_) (fun c6 => ?_)
      · have h := ite_n c6 h
        exact J_77 k_26 hk_26 _  h _ _ _ I (lv_sub hl [0] rfl)
      · have h := ite_t c6 h
        refine lv_aload_n hx hb dX11_fault_50 rfl (lv_at hl 0 rfl) ?_
        refine gm_0_0 C hK I fl_X11_7 dX11_fault_51 ?_
        refine lv_aload_n hx hb dX11_fault_54 rfl (lv_at hl 0 rfl) ?_
        refine gm_0_18 C hK I fl_X11_67 dX11_fault_55 ?_
        obtain ⟨hv7, h⟩ := chk_ex h
        refine am_1 C hK I hv7 dX11_fault_58 ?_
        refine lv_bipush (v := 59) hx hb dX11_fault_59 (by decide) ?_
        refine lv_icmp_ne (tgt := 77) hx hb dX11_fault_61 (by decide) (fun c8 => ?_) (fun c8 => ?_)
        · have h := ite_n c8 h
          exact J_77 k_26 hk_26 _  h _ _ _ I (lv_sub hl [0] rfl)
        · have h := ite_t c8 h
          refine lv_aload_n hx hb dX11_fault_64 rfl (lv_at hl 0 rfl) ?_
          refine gm_0_3 C hK I fl_X11_77 dX11_fault_65 ?_
          refine lv_bipush (v := 10) hx hb dX11_fault_68 (by decide) ?_
          refine lv_icmp_ge (tgt := 77) hx hb dX11_fault_70 (by decide) (fun c9 => ?_) (fun c9 => ?_)
          · have h := ite_t c9 h
            exact J_77 k_26 hk_26 _  h _ _ _ I (lv_sub hl [0] rfl)
          · have h := ite_n c9 h
            refine lv_iconst (v := 1) hx hb dX11_fault_73 (by decide) ?_
            refine lv_goto (tgt := 78) hx hb dX11_fault_74 (by decide) ?_
            exact J_78 k_26 hk_26 _ _ h _ _ _ I (lv_sub hl [0] rfl)
  have J_26 : ∀ (fu : Nat) (S : St) , l_X11_fault_26  fu S  = some (r, S1) → ∀ (H : Heap) (locs : List Loc) (ls : Array Slot), Iv D (mw cI ad) S A s H locs → lv_has ls 2 [(0, .ref (ad 0))] → W p l e ({ frames := 5, cells := 0, slots := 0, locals := 110 } : Room) s m args below meth c H locs 0 0 Q (F0 m 26 ls []) := by
    intro fu
    induction fu with
    | zero => intro S  h; cases h
    | succ fu ih => intro S  h; exact B_26 (l_X11_fault_26 fu) ih S  h
  unfold f_X11_fault at h
  refine lv_aload_n hx hb dX11_fault_0 rfl (lv_at hl 0 rfl) ?_
  refine lv_iconst (v := 0) hx hb dX11_fault_1 (by decide) ?_
  refine pm_0_17 C hK I fl_X11_64 dX11_fault_2 (fun S10 eS10 H locs I => ?_)
  have h := bnd_at eS10 h
  clear eS10
  refine lv_aload_n hx hb dX11_fault_5 rfl (lv_at hl 0 rfl) ?_
  refine lv_iconst (v := 0) hx hb dX11_fault_6 (by decide) ?_
  refine pm_0_3 C hK I fl_X11_77 dX11_fault_7 (fun S11 eS11 H locs I => ?_)
  have h := bnd_at eS11 h
  clear eS11
  refine lv_aload_n hx hb dX11_fault_10 rfl (lv_at hl 0 rfl) ?_
  obtain ⟨S12, e12, h⟩ := obd_ex h
  refine k_V (As := []) (rest := []) (st1 := []) C kx hK I hA (c_X11_token e12) ⟨Nat.le_of_ble_eq_true rfl, Nat.le_of_ble_eq_true rfl⟩ mv_X11_token lk_X11_80 0 11 (mw_0 (cI := cI) (ad := ad)) rfl rfl hl.1 rfl (Nat.le_of_ble_eq_true rfl) dX11_fault_11 rfl (fun H locs I => ?_)
  refine lv_aload_n hx hb dX11_fault_14 rfl (lv_at hl 0 rfl) ?_
  obtain ⟨r13, S13, e13, h⟩ := obd2_ex h
  refine k_V (As := []) (rest := []) (st1 := [.int r13]) C kx hK I hA (c_X11_readsLine e13) ⟨Nat.le_of_ble_eq_true rfl, Nat.le_of_ble_eq_true rfl⟩ mv_X11_readsLine lk_X11_127 0 11 (mw_0 (cI := cI) (ad := ad)) rfl rfl hl.1 rfl (Nat.le_of_ble_eq_true rfl) dX11_fault_15 rfl (fun H locs I => ?_)
  refine lv_if_ne (tgt := 26) hx hb dX11_fault_18 (by decide) (fun c14 => ?_) (fun c14 => ?_)
  · have h := ite_n c14 h
    exact J_26 _ _  h _ _ _ I (lv_sub hl [0] rfl)
  · have h := ite_t c14 h
    refine lv_aload_n hx hb dX11_fault_21 rfl (lv_at hl 0 rfl) ?_
    refine gm_0_18 C hK I fl_X11_67 dX11_fault_22 ?_
    exact rt_i hq h I dX11_fault_25
theorem fl_X11_130 : Cond.fieldLink RX11 130 RX11 "tools" "I" ∈ TT := tt_of 1115 (by decide +kernel) rfl
theorem fl_X11_35 : Cond.fieldLink RX11 35 RX11 "calls" "[I" ∈ TT := tt_of 1121 (by decide +kernel) rfl
theorem fl_X11_38 : Cond.fieldLink RX11 38 RX11 "sortMany" "[I" ∈ TT := tt_of 1122 (by decide +kernel) rfl
theorem fl_X11_41 : Cond.fieldLink RX11 41 RX11 "sorts" "[I" ∈ TT := tt_of 1123 (by decide +kernel) rfl
theorem fl_X11_16 : Cond.fieldLink RX11 16 RX11 "weights" "[I" ∈ TT := tt_of 1113 (by decide +kernel) rfl
theorem fl_X11_19 : Cond.fieldLink RX11 19 RX11 "prices" "[I" ∈ TT := tt_of 1114 (by decide +kernel) rfl
theorem fl_X11_22 : Cond.fieldLink RX11 22 RX11 "load" "I" ∈ TT := tt_of 1116 (by decide +kernel) rfl
theorem fl_X11_26 : Cond.fieldLink RX11 26 RX11 "purse" "I" ∈ TT := tt_of 1117 (by decide +kernel) rfl
theorem fl_X11_29 : Cond.fieldLink RX11 29 RX11 "begin" "I" ∈ TT := tt_of 1118 (by decide +kernel) rfl
theorem fl_X11_32 : Cond.fieldLink RX11 32 RX11 "ways" "[I" ∈ TT := tt_of 1119 (by decide +kernel) rfl
theorem fl_X11_133 : Cond.fieldLink RX11 133 RX11 "toldCalls" "I" ∈ TT := tt_of 1120 (by decide +kernel) rfl
theorem dX11_lay_0 : decode cX11_lay 0 = .ok (.aload_n 0, 1) := by decide +kernel
theorem dX11_lay_1 : decode cX11_lay 1 = .ok (.getfield 13, 3) := by decide +kernel
theorem dX11_lay_4 : decode cX11_lay 4 = .ok (.iload_n 1, 1) := by decide +kernel
theorem dX11_lay_5 : decode cX11_lay 5 = .ok (.iconst 1, 1) := by decide +kernel
theorem dX11_lay_6 : decode cX11_lay 6 = .ok (.iadd, 1) := by decide +kernel
theorem dX11_lay_7 : decode cX11_lay 7 = .ok (.iaload, 1) := by decide +kernel
theorem dX11_lay_8 : decode cX11_lay 8 = .ok (.istore_n 2, 1) := by decide +kernel
theorem dX11_lay_9 : decode cX11_lay 9 = .ok (.aload_n 0, 1) := by decide +kernel
theorem dX11_lay_10 : decode cX11_lay 10 = .ok (.getfield 13, 3) := by decide +kernel
theorem dX11_lay_13 : decode cX11_lay 13 = .ok (.iload_n 1, 1) := by decide +kernel
theorem dX11_lay_14 : decode cX11_lay 14 = .ok (.iconst 2, 1) := by decide +kernel
theorem dX11_lay_15 : decode cX11_lay 15 = .ok (.iadd, 1) := by decide +kernel
theorem dX11_lay_16 : decode cX11_lay 16 = .ok (.iaload, 1) := by decide +kernel
theorem dX11_lay_17 : decode cX11_lay 17 = .ok (.istore_n 3, 1) := by decide +kernel
theorem dX11_lay_18 : decode cX11_lay 18 = .ok (.aload_n 0, 1) := by decide +kernel
theorem dX11_lay_19 : decode cX11_lay 19 = .ok (.getfield 13, 3) := by decide +kernel
theorem dX11_lay_22 : decode cX11_lay 22 = .ok (.iload_n 1, 1) := by decide +kernel
theorem dX11_lay_23 : decode cX11_lay 23 = .ok (.iaload, 1) := by decide +kernel
theorem dX11_lay_24 : decode cX11_lay 24 = .ok (.tableswitch 215 0 5 #[40, 99, 105, 111, 117, 156], 40) := by decide +kernel
theorem dX11_lay_64 : decode cX11_lay 64 = .ok (.aload_n 0, 1) := by decide +kernel
theorem dX11_lay_65 : decode cX11_lay 65 = .ok (.getfield 16, 3) := by decide +kernel
theorem dX11_lay_68 : decode cX11_lay 68 = .ok (.iload_n 2, 1) := by decide +kernel
theorem dX11_lay_69 : decode cX11_lay 69 = .ok (.iload_n 3, 1) := by decide +kernel
theorem dX11_lay_70 : decode cX11_lay 70 = .ok (.iastore, 1) := by decide +kernel
theorem dX11_lay_71 : decode cX11_lay 71 = .ok (.aload_n 0, 1) := by decide +kernel
theorem dX11_lay_72 : decode cX11_lay 72 = .ok (.getfield 19, 3) := by decide +kernel
theorem dX11_lay_75 : decode cX11_lay 75 = .ok (.iload_n 2, 1) := by decide +kernel
theorem dX11_lay_76 : decode cX11_lay 76 = .ok (.aload_n 0, 1) := by decide +kernel
theorem dX11_lay_77 : decode cX11_lay 77 = .ok (.getfield 13, 3) := by decide +kernel
theorem dX11_lay_80 : decode cX11_lay 80 = .ok (.iload_n 1, 1) := by decide +kernel
theorem dX11_lay_81 : decode cX11_lay 81 = .ok (.iconst 3, 1) := by decide +kernel
theorem dX11_lay_82 : decode cX11_lay 82 = .ok (.iadd, 1) := by decide +kernel
theorem dX11_lay_83 : decode cX11_lay 83 = .ok (.iaload, 1) := by decide +kernel
theorem dX11_lay_84 : decode cX11_lay 84 = .ok (.iastore, 1) := by decide +kernel
theorem dX11_lay_85 : decode cX11_lay 85 = .ok (.aload_n 0, 1) := by decide +kernel
theorem dX11_lay_86 : decode cX11_lay 86 = .ok (.aload_n 0, 1) := by decide +kernel
theorem dX11_lay_87 : decode cX11_lay 87 = .ok (.getfield 13, 3) := by decide +kernel
theorem dX11_lay_90 : decode cX11_lay 90 = .ok (.iload_n 1, 1) := by decide +kernel
theorem dX11_lay_91 : decode cX11_lay 91 = .ok (.iconst 4, 1) := by decide +kernel
theorem dX11_lay_92 : decode cX11_lay 92 = .ok (.iadd, 1) := by decide +kernel
theorem dX11_lay_93 : decode cX11_lay 93 = .ok (.iaload, 1) := by decide +kernel
theorem dX11_lay_94 : decode cX11_lay 94 = .ok (.iconst 1, 1) := by decide +kernel
theorem dX11_lay_95 : decode cX11_lay 95 = .ok (.if_icmp .ne 14, 3) := by decide +kernel
theorem dX11_lay_98 : decode cX11_lay 98 = .ok (.aload_n 0, 1) := by decide +kernel
theorem dX11_lay_99 : decode cX11_lay 99 = .ok (.getfield 130, 3) := by decide +kernel
theorem dX11_lay_102 : decode cX11_lay 102 = .ok (.iconst 1, 1) := by decide +kernel
theorem dX11_lay_103 : decode cX11_lay 103 = .ok (.iload_n 2, 1) := by decide +kernel
theorem dX11_lay_104 : decode cX11_lay 104 = .ok (.ishl, 1) := by decide +kernel
theorem dX11_lay_105 : decode cX11_lay 105 = .ok (.ior, 1) := by decide +kernel
theorem dX11_lay_106 : decode cX11_lay 106 = .ok (.goto 13, 3) := by decide +kernel
theorem dX11_lay_109 : decode cX11_lay 109 = .ok (.aload_n 0, 1) := by decide +kernel
theorem dX11_lay_110 : decode cX11_lay 110 = .ok (.getfield 130, 3) := by decide +kernel
theorem dX11_lay_113 : decode cX11_lay 113 = .ok (.iconst 1, 1) := by decide +kernel
theorem dX11_lay_114 : decode cX11_lay 114 = .ok (.iload_n 2, 1) := by decide +kernel
theorem dX11_lay_115 : decode cX11_lay 115 = .ok (.ishl, 1) := by decide +kernel
theorem dX11_lay_116 : decode cX11_lay 116 = .ok (.iconst (-1), 1) := by decide +kernel
theorem dX11_lay_117 : decode cX11_lay 117 = .ok (.ixor, 1) := by decide +kernel
theorem dX11_lay_118 : decode cX11_lay 118 = .ok (.iand, 1) := by decide +kernel
theorem dX11_lay_119 : decode cX11_lay 119 = .ok (.putfield 130, 3) := by decide +kernel
theorem dX11_lay_122 : decode cX11_lay 122 = .ok (.return_, 1) := by decide +kernel
theorem dX11_lay_123 : decode cX11_lay 123 = .ok (.aload_n 0, 1) := by decide +kernel
theorem dX11_lay_124 : decode cX11_lay 124 = .ok (.iload_n 2, 1) := by decide +kernel
theorem dX11_lay_125 : decode cX11_lay 125 = .ok (.putfield 22, 3) := by decide +kernel
theorem dX11_lay_128 : decode cX11_lay 128 = .ok (.return_, 1) := by decide +kernel
theorem dX11_lay_129 : decode cX11_lay 129 = .ok (.aload_n 0, 1) := by decide +kernel
theorem dX11_lay_130 : decode cX11_lay 130 = .ok (.iload_n 2, 1) := by decide +kernel
theorem dX11_lay_131 : decode cX11_lay 131 = .ok (.putfield 26, 3) := by decide +kernel
theorem dX11_lay_134 : decode cX11_lay 134 = .ok (.return_, 1) := by decide +kernel
theorem dX11_lay_135 : decode cX11_lay 135 = .ok (.aload_n 0, 1) := by decide +kernel
theorem dX11_lay_136 : decode cX11_lay 136 = .ok (.iload_n 2, 1) := by decide +kernel
theorem dX11_lay_137 : decode cX11_lay 137 = .ok (.putfield 29, 3) := by decide +kernel
theorem dX11_lay_140 : decode cX11_lay 140 = .ok (.return_, 1) := by decide +kernel
theorem dX11_lay_141 : decode cX11_lay 141 = .ok (.aload_n 0, 1) := by decide +kernel
theorem dX11_lay_142 : decode cX11_lay 142 = .ok (.getfield 32, 3) := by decide +kernel
theorem dX11_lay_145 : decode cX11_lay 145 = .ok (.bipush 6, 2) := by decide +kernel
theorem dX11_lay_147 : decode cX11_lay 147 = .ok (.iload_n 2, 1) := by decide +kernel
theorem dX11_lay_148 : decode cX11_lay 148 = .ok (.imul, 1) := by decide +kernel
theorem dX11_lay_149 : decode cX11_lay 149 = .ok (.iload_n 3, 1) := by decide +kernel
theorem dX11_lay_150 : decode cX11_lay 150 = .ok (.iadd, 1) := by decide +kernel
theorem dX11_lay_151 : decode cX11_lay 151 = .ok (.aload_n 0, 1) := by decide +kernel
theorem dX11_lay_152 : decode cX11_lay 152 = .ok (.getfield 13, 3) := by decide +kernel
theorem dX11_lay_155 : decode cX11_lay 155 = .ok (.iload_n 1, 1) := by decide +kernel
theorem dX11_lay_156 : decode cX11_lay 156 = .ok (.iconst 3, 1) := by decide +kernel
theorem dX11_lay_157 : decode cX11_lay 157 = .ok (.iadd, 1) := by decide +kernel
theorem dX11_lay_158 : decode cX11_lay 158 = .ok (.iaload, 1) := by decide +kernel
theorem dX11_lay_159 : decode cX11_lay 159 = .ok (.iastore, 1) := by decide +kernel
theorem dX11_lay_160 : decode cX11_lay 160 = .ok (.aload_n 0, 1) := by decide +kernel
theorem dX11_lay_161 : decode cX11_lay 161 = .ok (.getfield 32, 3) := by decide +kernel
theorem dX11_lay_164 : decode cX11_lay 164 = .ok (.bipush 6, 2) := by decide +kernel
theorem dX11_lay_166 : decode cX11_lay 166 = .ok (.iload_n 3, 1) := by decide +kernel
theorem dX11_lay_167 : decode cX11_lay 167 = .ok (.imul, 1) := by decide +kernel
theorem dX11_lay_168 : decode cX11_lay 168 = .ok (.iload_n 2, 1) := by decide +kernel
theorem dX11_lay_169 : decode cX11_lay 169 = .ok (.iadd, 1) := by decide +kernel
theorem dX11_lay_170 : decode cX11_lay 170 = .ok (.aload_n 0, 1) := by decide +kernel
theorem dX11_lay_171 : decode cX11_lay 171 = .ok (.getfield 13, 3) := by decide +kernel
theorem dX11_lay_174 : decode cX11_lay 174 = .ok (.iload_n 1, 1) := by decide +kernel
theorem dX11_lay_175 : decode cX11_lay 175 = .ok (.iconst 3, 1) := by decide +kernel
theorem dX11_lay_176 : decode cX11_lay 176 = .ok (.iadd, 1) := by decide +kernel
theorem dX11_lay_177 : decode cX11_lay 177 = .ok (.iaload, 1) := by decide +kernel
theorem dX11_lay_178 : decode cX11_lay 178 = .ok (.iastore, 1) := by decide +kernel
theorem dX11_lay_179 : decode cX11_lay 179 = .ok (.return_, 1) := by decide +kernel
theorem dX11_lay_180 : decode cX11_lay 180 = .ok (.aload_n 0, 1) := by decide +kernel
theorem dX11_lay_181 : decode cX11_lay 181 = .ok (.dup, 1) := by decide +kernel
theorem dX11_lay_182 : decode cX11_lay 182 = .ok (.getfield 133, 3) := by decide +kernel
theorem dX11_lay_185 : decode cX11_lay 185 = .ok (.iconst 1, 1) := by decide +kernel
theorem dX11_lay_186 : decode cX11_lay 186 = .ok (.iload_n 2, 1) := by decide +kernel
theorem dX11_lay_187 : decode cX11_lay 187 = .ok (.ishl, 1) := by decide +kernel
theorem dX11_lay_188 : decode cX11_lay 188 = .ok (.ior, 1) := by decide +kernel
theorem dX11_lay_189 : decode cX11_lay 189 = .ok (.putfield 133, 3) := by decide +kernel
theorem dX11_lay_192 : decode cX11_lay 192 = .ok (.aload_n 0, 1) := by decide +kernel
theorem dX11_lay_193 : decode cX11_lay 193 = .ok (.getfield 38, 3) := by decide +kernel
theorem dX11_lay_196 : decode cX11_lay 196 = .ok (.iload_n 2, 1) := by decide +kernel
theorem dX11_lay_197 : decode cX11_lay 197 = .ok (.iconst 0, 1) := by decide +kernel
theorem dX11_lay_198 : decode cX11_lay 198 = .ok (.iastore, 1) := by decide +kernel
theorem dX11_lay_199 : decode cX11_lay 199 = .ok (.iconst 0, 1) := by decide +kernel
theorem dX11_lay_200 : decode cX11_lay 200 = .ok (.istore 4, 2) := by decide +kernel
theorem dX11_lay_202 : decode cX11_lay 202 = .ok (.iload 4, 2) := by decide +kernel
theorem dX11_lay_204 : decode cX11_lay 204 = .ok (.bipush 6, 2) := by decide +kernel
theorem dX11_lay_206 : decode cX11_lay 206 = .ok (.if_icmp .ge 32, 3) := by decide +kernel
theorem dX11_lay_209 : decode cX11_lay 209 = .ok (.aload_n 0, 1) := by decide +kernel
theorem dX11_lay_210 : decode cX11_lay 210 = .ok (.getfield 35, 3) := by decide +kernel
theorem dX11_lay_213 : decode cX11_lay 213 = .ok (.bipush 6, 2) := by decide +kernel
theorem dX11_lay_215 : decode cX11_lay 215 = .ok (.iload_n 2, 1) := by decide +kernel
theorem dX11_lay_216 : decode cX11_lay 216 = .ok (.imul, 1) := by decide +kernel
theorem dX11_lay_217 : decode cX11_lay 217 = .ok (.iload 4, 2) := by decide +kernel
theorem dX11_lay_219 : decode cX11_lay 219 = .ok (.iadd, 1) := by decide +kernel
theorem dX11_lay_220 : decode cX11_lay 220 = .ok (.aload_n 0, 1) := by decide +kernel
theorem dX11_lay_221 : decode cX11_lay 221 = .ok (.getfield 13, 3) := by decide +kernel
theorem dX11_lay_224 : decode cX11_lay 224 = .ok (.iload_n 1, 1) := by decide +kernel
theorem dX11_lay_225 : decode cX11_lay 225 = .ok (.iconst 2, 1) := by decide +kernel
theorem dX11_lay_226 : decode cX11_lay 226 = .ok (.iadd, 1) := by decide +kernel
theorem dX11_lay_227 : decode cX11_lay 227 = .ok (.iload 4, 2) := by decide +kernel
theorem dX11_lay_229 : decode cX11_lay 229 = .ok (.iadd, 1) := by decide +kernel
theorem dX11_lay_230 : decode cX11_lay 230 = .ok (.iaload, 1) := by decide +kernel
theorem dX11_lay_231 : decode cX11_lay 231 = .ok (.iastore, 1) := by decide +kernel
theorem dX11_lay_232 : decode cX11_lay 232 = .ok (.iinc 4 1, 3) := by decide +kernel
theorem dX11_lay_235 : decode cX11_lay 235 = .ok (.goto (-33), 3) := by decide +kernel
theorem dX11_lay_238 : decode cX11_lay 238 = .ok (.return_, 1) := by decide +kernel
theorem dX11_lay_239 : decode cX11_lay 239 = .ok (.aload_n 0, 1) := by decide +kernel
theorem dX11_lay_240 : decode cX11_lay 240 = .ok (.getfield 133, 3) := by decide +kernel
theorem dX11_lay_243 : decode cX11_lay 243 = .ok (.iload_n 2, 1) := by decide +kernel
theorem dX11_lay_244 : decode cX11_lay 244 = .ok (.invokestatic 85, 3) := by decide +kernel
theorem dX11_lay_247 : decode cX11_lay 247 = .ok (.ifCond .eq 70, 3) := by decide +kernel
theorem dX11_lay_250 : decode cX11_lay 250 = .ok (.aload_n 0, 1) := by decide +kernel
theorem dX11_lay_251 : decode cX11_lay 251 = .ok (.getfield 38, 3) := by decide +kernel
theorem dX11_lay_254 : decode cX11_lay 254 = .ok (.iload_n 2, 1) := by decide +kernel
theorem dX11_lay_255 : decode cX11_lay 255 = .ok (.iaload, 1) := by decide +kernel
theorem dX11_lay_256 : decode cX11_lay 256 = .ok (.iconst 4, 1) := by decide +kernel
theorem dX11_lay_257 : decode cX11_lay 257 = .ok (.if_icmp .ge 60, 3) := by decide +kernel
theorem dX11_lay_260 : decode cX11_lay 260 = .ok (.iconst 0, 1) := by decide +kernel
theorem dX11_lay_261 : decode cX11_lay 261 = .ok (.istore 4, 2) := by decide +kernel
theorem dX11_lay_263 : decode cX11_lay 263 = .ok (.iload 4, 2) := by decide +kernel
theorem dX11_lay_265 : decode cX11_lay 265 = .ok (.iconst 4, 1) := by decide +kernel
theorem dX11_lay_266 : decode cX11_lay 266 = .ok (.if_icmp .ge 41, 3) := by decide +kernel
theorem dX11_lay_269 : decode cX11_lay 269 = .ok (.aload_n 0, 1) := by decide +kernel
theorem dX11_lay_270 : decode cX11_lay 270 = .ok (.getfield 41, 3) := by decide +kernel
theorem dX11_lay_273 : decode cX11_lay 273 = .ok (.bipush 16, 2) := by decide +kernel
theorem dX11_lay_275 : decode cX11_lay 275 = .ok (.iload_n 2, 1) := by decide +kernel
theorem dX11_lay_276 : decode cX11_lay 276 = .ok (.imul, 1) := by decide +kernel
theorem dX11_lay_277 : decode cX11_lay 277 = .ok (.iconst 4, 1) := by decide +kernel
theorem dX11_lay_278 : decode cX11_lay 278 = .ok (.aload_n 0, 1) := by decide +kernel
theorem dX11_lay_279 : decode cX11_lay 279 = .ok (.getfield 38, 3) := by decide +kernel
theorem dX11_lay_282 : decode cX11_lay 282 = .ok (.iload_n 2, 1) := by decide +kernel
theorem dX11_lay_283 : decode cX11_lay 283 = .ok (.iaload, 1) := by decide +kernel
theorem dX11_lay_284 : decode cX11_lay 284 = .ok (.imul, 1) := by decide +kernel
theorem dX11_lay_285 : decode cX11_lay 285 = .ok (.iadd, 1) := by decide +kernel
theorem dX11_lay_286 : decode cX11_lay 286 = .ok (.iload 4, 2) := by decide +kernel
theorem dX11_lay_288 : decode cX11_lay 288 = .ok (.iadd, 1) := by decide +kernel
theorem dX11_lay_289 : decode cX11_lay 289 = .ok (.aload_n 0, 1) := by decide +kernel
theorem dX11_lay_290 : decode cX11_lay 290 = .ok (.getfield 13, 3) := by decide +kernel
theorem dX11_lay_293 : decode cX11_lay 293 = .ok (.iload_n 1, 1) := by decide +kernel
theorem dX11_lay_294 : decode cX11_lay 294 = .ok (.iconst 2, 1) := by decide +kernel
theorem dX11_lay_295 : decode cX11_lay 295 = .ok (.iadd, 1) := by decide +kernel
theorem dX11_lay_296 : decode cX11_lay 296 = .ok (.iload 4, 2) := by decide +kernel
theorem dX11_lay_298 : decode cX11_lay 298 = .ok (.iadd, 1) := by decide +kernel
theorem dX11_lay_299 : decode cX11_lay 299 = .ok (.iaload, 1) := by decide +kernel
theorem dX11_lay_300 : decode cX11_lay 300 = .ok (.iastore, 1) := by decide +kernel
theorem dX11_lay_301 : decode cX11_lay 301 = .ok (.iinc 4 1, 3) := by decide +kernel
theorem dX11_lay_304 : decode cX11_lay 304 = .ok (.goto (-41), 3) := by decide +kernel
theorem dX11_lay_307 : decode cX11_lay 307 = .ok (.aload_n 0, 1) := by decide +kernel
theorem dX11_lay_308 : decode cX11_lay 308 = .ok (.getfield 38, 3) := by decide +kernel
theorem dX11_lay_311 : decode cX11_lay 311 = .ok (.iload_n 2, 1) := by decide +kernel
theorem dX11_lay_312 : decode cX11_lay 312 = .ok (.dup2, 1) := by decide +kernel
theorem dX11_lay_313 : decode cX11_lay 313 = .ok (.iaload, 1) := by decide +kernel
theorem dX11_lay_314 : decode cX11_lay 314 = .ok (.iconst 1, 1) := by decide +kernel
theorem dX11_lay_315 : decode cX11_lay 315 = .ok (.iadd, 1) := by decide +kernel
theorem dX11_lay_316 : decode cX11_lay 316 = .ok (.iastore, 1) := by decide +kernel
theorem dX11_lay_317 : decode cX11_lay 317 = .ok (.return_, 1) := by decide +kernel
def f_X11_lay_119 (S : St) (t1 : Int32) : Option St :=
  bnd (setI S 0 6 t1) fun S1 =>
  some S1
def f_X11_lay_202 (k_202 : St → Int32 → Int32 → Int32 → Option St) (S : St) (x1 : Int32) (x2 : Int32) (x4 : Int32) : Option St :=
  if 6 ≤ x4 then (
    some S
  ) else (
    chk (ixo ((x1 + 2) + x4) 80) <|
    chk (ixo ((6 * x2) + x4) 36) <|
    bnd (setI S 6 (((6 * x2) + x4)).toNatClampNeg (S.1 2 (((x1 + 2) + x4)).toNatClampNeg)) fun S5 =>
    bnd (x4 + 1 : Int32) fun v6 =>
    k_202 S5 x1 x2 v6
  )
def l_X11_lay_202 : Nat → St → Int32 → Int32 → Int32 → Option St
  | 0, _, _, _, _ => none
  | fu + 1, S, x1, x2, x4 => f_X11_lay_202 (l_X11_lay_202 fu) S x1 x2 x4
def f_X11_lay_263 (k_263 : St → Int32 → Int32 → Int32 → Option St) (S : St) (x1 : Int32) (x2 : Int32) (x4 : Int32) : Option St :=
  if 4 ≤ x4 then (
    chk (ixo x2 6) <|
    chk (ixo x2 6) <|
    bnd (setI S 7 (x2).toNatClampNeg ((S.1 7 (x2).toNatClampNeg) + 1)) fun S10 =>
    some S10
  ) else (
    chk (ixo x2 6) <|
    chk (ixo ((x1 + 2) + x4) 80) <|
    chk (ixo (((16 * x2) + (4 * (S.1 7 (x2).toNatClampNeg))) + x4) 96) <|
    bnd (setI S 8 ((((16 * x2) + (4 * (S.1 7 (x2).toNatClampNeg))) + x4)).toNatClampNeg (S.1 2 (((x1 + 2) + x4)).toNatClampNeg)) fun S14 =>
    bnd (x4 + 1 : Int32) fun v15 =>
    k_263 S14 x1 x2 v15
  )
def l_X11_lay_263 : Nat → St → Int32 → Int32 → Int32 → Option St
  | 0, _, _, _, _ => none
  | fu + 1, S, x1, x2, x4 => f_X11_lay_263 (l_X11_lay_263 fu) S x1 x2 x4
def f_X11_lay (S : St) (x1 : Int32) : Option St :=
  chk (ixo (x1 + 1) 80) <|
  bnd ((S.1 2 ((x1 + 1)).toNatClampNeg) : Int32) fun v17 =>
  chk (ixo (x1 + 2) 80) <|
  bnd ((S.1 2 ((x1 + 2)).toNatClampNeg) : Int32) fun v19 =>
  chk (ixo x1 80) <|
  bnd ((S.1 2 (x1).toNatClampNeg) : Int32) fun v21 =>
  if v21 = 0 then (
    chk (ixo v17 8) <|
    bnd (setI S 3 (v17).toNatClampNeg v19) fun S24 =>
    chk (ixo (x1 + 3) 80) <|
    chk (ixo v17 8) <|
    bnd (setI S24 4 (v17).toNatClampNeg (S24.1 2 ((x1 + 3)).toNatClampNeg)) fun S27 =>
    chk (ixo (x1 + 4) 80) <|
    if (S27.1 2 ((x1 + 4)).toNatClampNeg) = 1 then (
      f_X11_lay_119 S27 ((S27.1 0 6) ||| ((1 : Int32) <<< (v17 &&& 31)))
    ) else (
      f_X11_lay_119 S27 ((S27.1 0 6) &&& (((1 : Int32) <<< (v17 &&& 31)) ^^^ (-1)))
    )
  ) else (
    if v21 = 1 then (
      bnd (setI S 0 7 v17) fun S31 =>
      some S31
    ) else (
      if v21 = 2 then (
        bnd (setI S 0 8 v17) fun S33 =>
        some S33
      ) else (
        if v21 = 3 then (
          bnd (setI S 0 9 v17) fun S35 =>
          some S35
        ) else (
          if v21 = 4 then (
            chk (ixo (x1 + 3) 80) <|
            chk (ixo ((6 * v17) + v19) 36) <|
            bnd (setI S 5 (((6 * v17) + v19)).toNatClampNeg (S.1 2 ((x1 + 3)).toNatClampNeg)) fun S39 =>
            chk (ixo (x1 + 3) 80) <|
            chk (ixo ((6 * v19) + v17) 36) <|
            bnd (setI S39 5 (((6 * v19) + v17)).toNatClampNeg (S39.1 2 ((x1 + 3)).toNatClampNeg)) fun S42 =>
            some S42
          ) else (
            if v21 = 5 then (
              bnd (setI S 0 11 ((S.1 0 11) ||| ((1 : Int32) <<< (v17 &&& 31)))) fun S44 =>
              chk (ixo v17 6) <|
              bnd (setI S44 7 (v17).toNatClampNeg 0) fun S46 =>
              l_X11_lay_202 FU S46 x1 v17 0
            ) else (
              obd2 (f_X11_has S (S.1 0 11) v17) fun r47 S47 =>
              if r47 = 0 then (
                some S47
              ) else (
                chk (ixo v17 6) <|
                if 4 ≤ (S47.1 7 (v17).toNatClampNeg) then (
                  some S47
                ) else (
                  l_X11_lay_263 FU S47 x1 v17 0
                )
              )
  ))))))
set_option maxHeartbeats 4000000 in
set_option maxRecDepth 100000 in
theorem c_X11_lay {l : Launch} {D : va_G} {cI cC cS : ClassId} {ad adK adV : Nat → Nat} {S S1 : St} {x1 : Int32} (h : f_X11_lay S x1 = some S1) : Kt l D (mw cI ad) (KX D (xtys cI cC cS) adK adV) yX11_lay cX11_lay 5 none (1) (21) [.ref (ad 0), .int x1] S (none) S1 := by
  refine k_ent (ins := .return_) (st := []) (by decide +kernel) (Nat.le_of_ble_eq_true rfl) ret_v ?_
  intro p e s m args below meth c A Q C hK I hA hq ls hl
  have C : CallFix p m c cX11_lay 5 s args TT RX11 := C
  have hx := C.1
  have hb := C.2.1
  have kx := kx_ok D (xtys cI cC cS) adK adV
  have hl : lv_has ls 5 [(0, .ref (ad 0)), (1, .int x1)] := hl
  have J_119 : ∀ (S : St) (t1 : Int32), f_X11_lay_119  S t1 = some S1 → ∀ (H : Heap) (locs : List Loc) (ls : Array Slot), Iv D (mw cI ad) S A s H locs → lv_has ls 5 [] → W p l e ({ frames := 1, cells := 0, slots := 0, locals := 21 } : Room) s m args below meth c H locs 0 0 Q (F0 m 119 ls [.int t1, .ref (ad 0)]) := by
    intro  S t1 h H locs ls I hl
    unfold f_X11_lay_119 at h
    refine pm_0_6 C hK I fl_X11_130 dX11_lay_119 (fun S1 eS1 H locs I => ?_)
    have h := bnd_at eS1 h
    clear eS1
    exact rt_v hq h I dX11_lay_122
  have B_202 : ∀ (k_202 : St → Int32 → Int32 → Int32 → Option St) (hk_202 : ∀ (S : St) (x1 : Int32) (x2 : Int32) (x4 : Int32), k_202 S x1 x2 x4 = some S1 → ∀ (H : Heap) (locs : List Loc) (ls : Array Slot), Iv D (mw cI ad) S A s H locs → lv_has ls 5 [(0, .ref (ad 0)), (1, .int x1), (2, .int x2), (4, .int x4)] → W p l e ({ frames := 1, cells := 0, slots := 0, locals := 21 } : Room) s m args below meth c H locs 0 0 Q (F0 m 202 ls [])) (S : St) (x1 : Int32) (x2 : Int32) (x4 : Int32), f_X11_lay_202 k_202 S x1 x2 x4 = some S1 → ∀ (H : Heap) (locs : List Loc) (ls : Array Slot), Iv D (mw cI ad) S A s H locs → lv_has ls 5 [(0, .ref (ad 0)), (1, .int x1), (2, .int x2), (4, .int x4)] → W p l e ({ frames := 1, cells := 0, slots := 0, locals := 21 } : Room) s m args below meth c H locs 0 0 Q (F0 m 202 ls []) := by
    intro k_202 hk_202 S x1 x2 x4 h H locs ls I hl
    unfold f_X11_lay_202 at h
    refine lv_iload hx hb dX11_lay_202 (lv_at hl 3 rfl) ?_
    refine lv_bipush (v := 6) hx hb dX11_lay_204 (by decide) ?_
    refine lv_icmp_ge (tgt := 238) hx hb dX11_lay_206 (by decide) (fun c2 => ?_) (fun c2 => ?_)
    · have h := ite_t c2 h
      exact rt_v hq h I dX11_lay_238
    · have h := ite_n c2 h
      refine lv_aload_n hx hb dX11_lay_209 rfl (lv_at hl 0 rfl) ?_
      refine gm_0_12 C hK I fl_X11_35 dX11_lay_210 ?_
      refine lv_bipush (v := 6) hx hb dX11_lay_213 (by decide) ?_
      refine lv_iload_n hx hb dX11_lay_215 rfl (lv_at hl 2 rfl) ?_
      refine lv_imul hx hb dX11_lay_216 ?_
      refine lv_iload hx hb dX11_lay_217 (lv_at hl 3 rfl) ?_
      refine lv_iadd hx hb dX11_lay_219 ?_
      refine lv_aload_n hx hb dX11_lay_220 rfl (lv_at hl 0 rfl) ?_
      refine gm_0_2 C hK I fl_X11_13 dX11_lay_221 ?_
      refine lv_iload_n hx hb dX11_lay_224 rfl (lv_at hl 1 rfl) ?_
      refine lv_iconst (v := 2) hx hb dX11_lay_225 (by decide) ?_
      refine lv_iadd hx hb dX11_lay_226 ?_
      refine lv_iload hx hb dX11_lay_227 (lv_at hl 3 rfl) ?_
      refine lv_iadd hx hb dX11_lay_229 ?_
      obtain ⟨hv3, h⟩ := chk_ex h
      refine am_2 C hK I hv3 dX11_lay_230 ?_
      obtain ⟨hv4, h⟩ := chk_ex h
      refine bm_6 C hK I hv4 dX11_lay_231 (fun S5 eS5 H locs I => ?_)
      have h := bnd_at eS5 h
      clear eS5
      obtain ⟨v6, ev6⟩ : ∃ y : Int32, y = x4 + 1 := ⟨_, rfl⟩
      have h := bnd_at ev6 h
      refine lv_iinc (v := v6) (lv' := [(4, .int v6), (0, .ref (ad 0)), (1, .int x1), (2, .int x2)]) hx hb dX11_lay_232 hl (k := 3) rfl (by rw [ev6]; rfl) (by decide) rfl (fun ls hl => ?_)
      clear ev6
      refine lv_goto (tgt := 202) hx hb dX11_lay_235 (by decide) ?_
      exact hk_202 _ _ _ _ h _ _ _ I (lv_sub hl [1, 2, 3, 0] rfl)
  have J_202 : ∀ (fu : Nat) (S : St) (x1 : Int32) (x2 : Int32) (x4 : Int32), l_X11_lay_202  fu S x1 x2 x4 = some S1 → ∀ (H : Heap) (locs : List Loc) (ls : Array Slot), Iv D (mw cI ad) S A s H locs → lv_has ls 5 [(0, .ref (ad 0)), (1, .int x1), (2, .int x2), (4, .int x4)] → W p l e ({ frames := 1, cells := 0, slots := 0, locals := 21 } : Room) s m args below meth c H locs 0 0 Q (F0 m 202 ls []) := by
    intro fu
    induction fu with
    | zero => intro S x1 x2 x4 h; cases h
    | succ fu ih => intro S x1 x2 x4 h; exact B_202 (l_X11_lay_202 fu) ih S x1 x2 x4 h
  have B_263 : ∀ (k_263 : St → Int32 → Int32 → Int32 → Option St) (hk_263 : ∀ (S : St) (x1 : Int32) (x2 : Int32) (x4 : Int32), k_263 S x1 x2 x4 = some S1 → ∀ (H : Heap) (locs : List Loc) (ls : Array Slot), Iv D (mw cI ad) S A s H locs → lv_has ls 5 [(0, .ref (ad 0)), (1, .int x1), (2, .int x2), (4, .int x4)] → W p l e ({ frames := 1, cells := 0, slots := 0, locals := 21 } : Room) s m args below meth c H locs 0 0 Q (F0 m 263 ls [])) (S : St) (x1 : Int32) (x2 : Int32) (x4 : Int32), f_X11_lay_263 k_263 S x1 x2 x4 = some S1 → ∀ (H : Heap) (locs : List Loc) (ls : Array Slot), Iv D (mw cI ad) S A s H locs → lv_has ls 5 [(0, .ref (ad 0)), (1, .int x1), (2, .int x2), (4, .int x4)] → W p l e ({ frames := 1, cells := 0, slots := 0, locals := 21 } : Room) s m args below meth c H locs 0 0 Q (F0 m 263 ls []) := by
    intro k_263 hk_263 S x1 x2 x4 h H locs ls I hl
    unfold f_X11_lay_263 at h
    refine lv_iload hx hb dX11_lay_263 (lv_at hl 3 rfl) ?_
    refine lv_iconst (v := 4) hx hb dX11_lay_265 (by decide) ?_
    refine lv_icmp_ge (tgt := 307) hx hb dX11_lay_266 (by decide) (fun c7 => ?_) (fun c7 => ?_)
    · have h := ite_t c7 h
      refine lv_aload_n hx hb dX11_lay_307 rfl (lv_at hl 0 rfl) ?_
      refine gm_0_13 C hK I fl_X11_38 dX11_lay_308 ?_
      refine lv_iload_n hx hb dX11_lay_311 rfl (lv_at hl 2 rfl) ?_
      refine lv_dup2_11 hx hb dX11_lay_312 rfl rfl ?_
      obtain ⟨hv8, h⟩ := chk_ex h
      refine am_7 C hK I hv8 dX11_lay_313 ?_
      refine lv_iconst (v := 1) hx hb dX11_lay_314 (by decide) ?_
      refine lv_iadd hx hb dX11_lay_315 ?_
      obtain ⟨hv9, h⟩ := chk_ex h
      refine bm_7 C hK I hv9 dX11_lay_316 (fun S10 eS10 H locs I => ?_)
      have h := bnd_at eS10 h
      clear eS10
      exact rt_v hq h I dX11_lay_317
    · have h := ite_n c7 h
      refine lv_aload_n hx hb dX11_lay_269 rfl (lv_at hl 0 rfl) ?_
      refine gm_0_14 C hK I fl_X11_41 dX11_lay_270 ?_
      refine lv_bipush (v := 16) hx hb dX11_lay_273 (by decide) ?_
      refine lv_iload_n hx hb dX11_lay_275 rfl (lv_at hl 2 rfl) ?_
      refine lv_imul hx hb dX11_lay_276 ?_
      refine lv_iconst (v := 4) hx hb dX11_lay_277 (by decide) ?_
      refine lv_aload_n hx hb dX11_lay_278 rfl (lv_at hl 0 rfl) ?_
      refine gm_0_13 C hK I fl_X11_38 dX11_lay_279 ?_
      refine lv_iload_n hx hb dX11_lay_282 rfl (lv_at hl 2 rfl) ?_
      obtain ⟨hv11, h⟩ := chk_ex h
      refine am_7 C hK I hv11 dX11_lay_283 ?_
      refine lv_imul hx hb dX11_lay_284 ?_
      refine lv_iadd hx hb dX11_lay_285 ?_
      refine lv_iload hx hb dX11_lay_286 (lv_at hl 3 rfl) ?_
      refine lv_iadd hx hb dX11_lay_288 ?_
      refine lv_aload_n hx hb dX11_lay_289 rfl (lv_at hl 0 rfl) ?_
      refine gm_0_2 C hK I fl_X11_13 dX11_lay_290 ?_
      refine lv_iload_n hx hb dX11_lay_293 rfl (lv_at hl 1 rfl) ?_
      refine lv_iconst (v := 2) hx hb dX11_lay_294 (by decide) ?_
      refine lv_iadd hx hb dX11_lay_295 ?_
      refine lv_iload hx hb dX11_lay_296 (lv_at hl 3 rfl) ?_
      refine lv_iadd hx hb dX11_lay_298 ?_
      obtain ⟨hv12, h⟩ := chk_ex h
      refine am_2 C hK I hv12 dX11_lay_299 ?_
      obtain ⟨hv13, h⟩ := chk_ex h
      refine bm_8 C hK I hv13 dX11_lay_300 (fun S14 eS14 H locs I => ?_)
      have h := bnd_at eS14 h
      clear eS14
      obtain ⟨v15, ev15⟩ : ∃ y : Int32, y = x4 + 1 := ⟨_, rfl⟩
      have h := bnd_at ev15 h
      refine lv_iinc (v := v15) (lv' := [(4, .int v15), (0, .ref (ad 0)), (1, .int x1), (2, .int x2)]) hx hb dX11_lay_301 hl (k := 3) rfl (by rw [ev15]; rfl) (by decide) rfl (fun ls hl => ?_)
      clear ev15
      refine lv_goto (tgt := 263) hx hb dX11_lay_304 (by decide) ?_
      exact hk_263 _ _ _ _ h _ _ _ I (lv_sub hl [1, 2, 3, 0] rfl)
  have J_263 : ∀ (fu : Nat) (S : St) (x1 : Int32) (x2 : Int32) (x4 : Int32), l_X11_lay_263  fu S x1 x2 x4 = some S1 → ∀ (H : Heap) (locs : List Loc) (ls : Array Slot), Iv D (mw cI ad) S A s H locs → lv_has ls 5 [(0, .ref (ad 0)), (1, .int x1), (2, .int x2), (4, .int x4)] → W p l e ({ frames := 1, cells := 0, slots := 0, locals := 21 } : Room) s m args below meth c H locs 0 0 Q (F0 m 263 ls []) := by
    intro fu
    induction fu with
    | zero => intro S x1 x2 x4 h; cases h
    | succ fu ih => intro S x1 x2 x4 h; exact B_263 (l_X11_lay_263 fu) ih S x1 x2 x4 h
  unfold f_X11_lay at h
  refine lv_aload_n hx hb dX11_lay_0 rfl (lv_at hl 0 rfl) ?_
  refine gm_0_2 C hK I fl_X11_13 dX11_lay_1 ?_
  refine lv_iload_n hx hb dX11_lay_4 rfl (lv_at hl 1 rfl) ?_
  refine lv_iconst (v := 1) hx hb dX11_lay_5 (by decide) ?_
  refine lv_iadd hx hb dX11_lay_6 ?_
  obtain ⟨hv16, h⟩ := chk_ex h
  refine am_2 C hK I hv16 dX11_lay_7 ?_
  refine lv_topi (fun v17 ev17 => ?_)
  have h := bnd_at ev17 h
  clear ev17
  refine lv_istore_n (lv' := [(2, .int v17), (0, .ref (ad 0)), (1, .int x1)]) hx hb dX11_lay_8 rfl hl (by decide) rfl (fun ls hl => ?_)
  refine lv_aload_n hx hb dX11_lay_9 rfl (lv_at hl 1 rfl) ?_
  refine gm_0_2 C hK I fl_X11_13 dX11_lay_10 ?_
  refine lv_iload_n hx hb dX11_lay_13 rfl (lv_at hl 2 rfl) ?_
  refine lv_iconst (v := 2) hx hb dX11_lay_14 (by decide) ?_
  refine lv_iadd hx hb dX11_lay_15 ?_
  obtain ⟨hv18, h⟩ := chk_ex h
  refine am_2 C hK I hv18 dX11_lay_16 ?_
  refine lv_topi (fun v19 ev19 => ?_)
  have h := bnd_at ev19 h
  clear ev19
  refine lv_istore_n (lv' := [(3, .int v19), (2, .int v17), (0, .ref (ad 0)), (1, .int x1)]) hx hb dX11_lay_17 rfl hl (by decide) rfl (fun ls hl => ?_)
  refine lv_aload_n hx hb dX11_lay_18 rfl (lv_at hl 2 rfl) ?_
  refine gm_0_2 C hK I fl_X11_13 dX11_lay_19 ?_
  refine lv_iload_n hx hb dX11_lay_22 rfl (lv_at hl 3 rfl) ?_
  obtain ⟨hv20, h⟩ := chk_ex h
  refine am_2 C hK I hv20 dX11_lay_23 ?_
  refine lv_topi (fun v21 ev21 => ?_)
  have h := bnd_at ev21 h
  clear ev21
  rcases Decidable.em (v21 = 0) with c22 | c22
  · have h := ite_t c22 h
    rw [c22]
    refine lv_tableIn (x := 0) (off := 40) (tgt := 64) hx hb dX11_lay_24 (by decide) (by decide) (by decide) (by decide) ?_
    refine lv_aload_n hx hb dX11_lay_64 rfl (lv_at hl 2 rfl) ?_
    refine gm_0_4 C hK I fl_X11_16 dX11_lay_65 ?_
    refine lv_iload_n hx hb dX11_lay_68 rfl (lv_at hl 1 rfl) ?_
    refine lv_iload_n hx hb dX11_lay_69 rfl (lv_at hl 0 rfl) ?_
    obtain ⟨hv23, h⟩ := chk_ex h
    refine bm_3 C hK I hv23 dX11_lay_70 (fun S24 eS24 H locs I => ?_)
    have h := bnd_at eS24 h
    clear eS24
    refine lv_aload_n hx hb dX11_lay_71 rfl (lv_at hl 2 rfl) ?_
    refine gm_0_5 C hK I fl_X11_19 dX11_lay_72 ?_
    refine lv_iload_n hx hb dX11_lay_75 rfl (lv_at hl 1 rfl) ?_
    refine lv_aload_n hx hb dX11_lay_76 rfl (lv_at hl 2 rfl) ?_
    refine gm_0_2 C hK I fl_X11_13 dX11_lay_77 ?_
    refine lv_iload_n hx hb dX11_lay_80 rfl (lv_at hl 3 rfl) ?_
    refine lv_iconst (v := 3) hx hb dX11_lay_81 (by decide) ?_
    refine lv_iadd hx hb dX11_lay_82 ?_
    obtain ⟨hv25, h⟩ := chk_ex h
    refine am_2 C hK I hv25 dX11_lay_83 ?_
    obtain ⟨hv26, h⟩ := chk_ex h
    refine bm_4 C hK I hv26 dX11_lay_84 (fun S27 eS27 H locs I => ?_)
    have h := bnd_at eS27 h
    clear eS27
    refine lv_aload_n hx hb dX11_lay_85 rfl (lv_at hl 2 rfl) ?_
    refine lv_aload_n hx hb dX11_lay_86 rfl (lv_at hl 2 rfl) ?_
    refine gm_0_2 C hK I fl_X11_13 dX11_lay_87 ?_
    refine lv_iload_n hx hb dX11_lay_90 rfl (lv_at hl 3 rfl) ?_
    refine lv_iconst (v := 4) hx hb dX11_lay_91 (by decide) ?_
    refine lv_iadd hx hb dX11_lay_92 ?_
    obtain ⟨hv28, h⟩ := chk_ex h
    refine am_2 C hK I hv28 dX11_lay_93 ?_
    refine lv_iconst (v := 1) hx hb dX11_lay_94 (by decide) ?_
    refine lv_icmp_ne (tgt := 109) hx hb dX11_lay_95 (by decide) (fun c29 => ?_) (fun c29 => ?_)
    · have h := ite_n c29 h
      refine lv_aload_n hx hb dX11_lay_109 rfl (lv_at hl 2 rfl) ?_
      refine gm_0_6 C hK I fl_X11_130 dX11_lay_110 ?_
      refine lv_iconst (v := 1) hx hb dX11_lay_113 (by decide) ?_
      refine lv_iload_n hx hb dX11_lay_114 rfl (lv_at hl 1 rfl) ?_
      refine lv_ishl hx hb dX11_lay_115 ?_
      refine lv_iconst (v := (-1)) hx hb dX11_lay_116 (by decide) ?_
      refine lv_ixor hx hb dX11_lay_117 ?_
      refine lv_iand hx hb dX11_lay_118 ?_
      exact J_119 _ _ h _ _ _ I (lv_sub hl [] rfl)
    · have h := ite_t c29 h
      refine lv_aload_n hx hb dX11_lay_98 rfl (lv_at hl 2 rfl) ?_
      refine gm_0_6 C hK I fl_X11_130 dX11_lay_99 ?_
      refine lv_iconst (v := 1) hx hb dX11_lay_102 (by decide) ?_
      refine lv_iload_n hx hb dX11_lay_103 rfl (lv_at hl 1 rfl) ?_
      refine lv_ishl hx hb dX11_lay_104 ?_
      refine lv_ior hx hb dX11_lay_105 ?_
      refine lv_goto (tgt := 119) hx hb dX11_lay_106 (by decide) ?_
      exact J_119 _ _ h _ _ _ I (lv_sub hl [] rfl)
  · have h := ite_n c22 h
    rcases Decidable.em (v21 = 1) with c30 | c30
    · have h := ite_t c30 h
      rw [c30]
      refine lv_tableIn (x := 1) (off := 99) (tgt := 123) hx hb dX11_lay_24 (by decide) (by decide) (by decide) (by decide) ?_
      refine lv_aload_n hx hb dX11_lay_123 rfl (lv_at hl 2 rfl) ?_
      refine lv_iload_n hx hb dX11_lay_124 rfl (lv_at hl 1 rfl) ?_
      refine pm_0_7 C hK I fl_X11_22 dX11_lay_125 (fun S31 eS31 H locs I => ?_)
      have h := bnd_at eS31 h
      clear eS31
      exact rt_v hq h I dX11_lay_128
    · have h := ite_n c30 h
      rcases Decidable.em (v21 = 2) with c32 | c32
      · have h := ite_t c32 h
        rw [c32]
        refine lv_tableIn (x := 2) (off := 105) (tgt := 129) hx hb dX11_lay_24 (by decide) (by decide) (by decide) (by decide) ?_
        refine lv_aload_n hx hb dX11_lay_129 rfl (lv_at hl 2 rfl) ?_
        refine lv_iload_n hx hb dX11_lay_130 rfl (lv_at hl 1 rfl) ?_
        refine pm_0_8 C hK I fl_X11_26 dX11_lay_131 (fun S33 eS33 H locs I => ?_)
        have h := bnd_at eS33 h
        clear eS33
        exact rt_v hq h I dX11_lay_134
      · have h := ite_n c32 h
        rcases Decidable.em (v21 = 3) with c34 | c34
        · have h := ite_t c34 h
          rw [c34]
          refine lv_tableIn (x := 3) (off := 111) (tgt := 135) hx hb dX11_lay_24 (by decide) (by decide) (by decide) (by decide) ?_
          refine lv_aload_n hx hb dX11_lay_135 rfl (lv_at hl 2 rfl) ?_
          refine lv_iload_n hx hb dX11_lay_136 rfl (lv_at hl 1 rfl) ?_
          refine pm_0_9 C hK I fl_X11_29 dX11_lay_137 (fun S35 eS35 H locs I => ?_)
          have h := bnd_at eS35 h
          clear eS35
          exact rt_v hq h I dX11_lay_140
        · have h := ite_n c34 h
          rcases Decidable.em (v21 = 4) with c36 | c36
          · have h := ite_t c36 h
            rw [c36]
            refine lv_tableIn (x := 4) (off := 117) (tgt := 141) hx hb dX11_lay_24 (by decide) (by decide) (by decide) (by decide) ?_
            refine lv_aload_n hx hb dX11_lay_141 rfl (lv_at hl 2 rfl) ?_
            refine gm_0_10 C hK I fl_X11_32 dX11_lay_142 ?_
            refine lv_bipush (v := 6) hx hb dX11_lay_145 (by decide) ?_
            refine lv_iload_n hx hb dX11_lay_147 rfl (lv_at hl 1 rfl) ?_
            refine lv_imul hx hb dX11_lay_148 ?_
            refine lv_iload_n hx hb dX11_lay_149 rfl (lv_at hl 0 rfl) ?_
            refine lv_iadd hx hb dX11_lay_150 ?_
            refine lv_aload_n hx hb dX11_lay_151 rfl (lv_at hl 2 rfl) ?_
            refine gm_0_2 C hK I fl_X11_13 dX11_lay_152 ?_
            refine lv_iload_n hx hb dX11_lay_155 rfl (lv_at hl 3 rfl) ?_
            refine lv_iconst (v := 3) hx hb dX11_lay_156 (by decide) ?_
            refine lv_iadd hx hb dX11_lay_157 ?_
            obtain ⟨hv37, h⟩ := chk_ex h
            refine am_2 C hK I hv37 dX11_lay_158 ?_
            obtain ⟨hv38, h⟩ := chk_ex h
            refine bm_5 C hK I hv38 dX11_lay_159 (fun S39 eS39 H locs I => ?_)
            have h := bnd_at eS39 h
            clear eS39
            refine lv_aload_n hx hb dX11_lay_160 rfl (lv_at hl 2 rfl) ?_
            refine gm_0_10 C hK I fl_X11_32 dX11_lay_161 ?_
            refine lv_bipush (v := 6) hx hb dX11_lay_164 (by decide) ?_
            refine lv_iload_n hx hb dX11_lay_166 rfl (lv_at hl 0 rfl) ?_
            refine lv_imul hx hb dX11_lay_167 ?_
            refine lv_iload_n hx hb dX11_lay_168 rfl (lv_at hl 1 rfl) ?_
            refine lv_iadd hx hb dX11_lay_169 ?_
            refine lv_aload_n hx hb dX11_lay_170 rfl (lv_at hl 2 rfl) ?_
            refine gm_0_2 C hK I fl_X11_13 dX11_lay_171 ?_
            refine lv_iload_n hx hb dX11_lay_174 rfl (lv_at hl 3 rfl) ?_
            refine lv_iconst (v := 3) hx hb dX11_lay_175 (by decide) ?_
            refine lv_iadd hx hb dX11_lay_176 ?_
            obtain ⟨hv40, h⟩ := chk_ex h
            refine am_2 C hK I hv40 dX11_lay_177 ?_
            obtain ⟨hv41, h⟩ := chk_ex h
            refine bm_5 C hK I hv41 dX11_lay_178 (fun S42 eS42 H locs I => ?_)
            have h := bnd_at eS42 h
            clear eS42
            exact rt_v hq h I dX11_lay_179
          · have h := ite_n c36 h
            rcases Decidable.em (v21 = 5) with c43 | c43
            · have h := ite_t c43 h
              rw [c43]
              refine lv_tableIn (x := 5) (off := 156) (tgt := 180) hx hb dX11_lay_24 (by decide) (by decide) (by decide) (by decide) ?_
              refine lv_aload_n hx hb dX11_lay_180 rfl (lv_at hl 2 rfl) ?_
              refine lv_dup hx hb dX11_lay_181 rfl ?_
              refine gm_0_11 C hK I fl_X11_133 dX11_lay_182 ?_
              refine lv_iconst (v := 1) hx hb dX11_lay_185 (by decide) ?_
              refine lv_iload_n hx hb dX11_lay_186 rfl (lv_at hl 1 rfl) ?_
              refine lv_ishl hx hb dX11_lay_187 ?_
              refine lv_ior hx hb dX11_lay_188 ?_
              refine pm_0_11 C hK I fl_X11_133 dX11_lay_189 (fun S44 eS44 H locs I => ?_)
              have h := bnd_at eS44 h
              clear eS44
              refine lv_aload_n hx hb dX11_lay_192 rfl (lv_at hl 2 rfl) ?_
              refine gm_0_13 C hK I fl_X11_38 dX11_lay_193 ?_
              refine lv_iload_n hx hb dX11_lay_196 rfl (lv_at hl 1 rfl) ?_
              refine lv_iconst (v := 0) hx hb dX11_lay_197 (by decide) ?_
              obtain ⟨hv45, h⟩ := chk_ex h
              refine bm_7 C hK I hv45 dX11_lay_198 (fun S46 eS46 H locs I => ?_)
              have h := bnd_at eS46 h
              clear eS46
              refine lv_iconst (v := 0) hx hb dX11_lay_199 (by decide) ?_
              refine lv_istore (lv' := [(4, .int 0), (3, .int v19), (2, .int v17), (0, .ref (ad 0)), (1, .int x1)]) hx hb dX11_lay_200 hl (by decide) rfl (fun ls hl => ?_)
              exact J_202 _ _ _ _ _ h _ _ _ I (lv_sub hl [3, 4, 2, 0] rfl)
            · have h := ite_n c43 h
              refine lv_tableOut (tgt := 239) hx hb dX11_lay_24 (by have := lv_neT (k := 0) (a := 0) c22 (by decide); have := lv_neT (k := 1) (a := 1) c30 (by decide); have := lv_neT (k := 2) (a := 2) c32 (by decide); have := lv_neT (k := 3) (a := 3) c34 (by decide); have := lv_neT (k := 4) (a := 4) c36 (by decide); have := lv_neT (k := 5) (a := 5) c43 (by decide); omega) (by decide) ?_
              refine lv_aload_n hx hb dX11_lay_239 rfl (lv_at hl 2 rfl) ?_
              refine gm_0_11 C hK I fl_X11_133 dX11_lay_240 ?_
              refine lv_iload_n hx hb dX11_lay_243 rfl (lv_at hl 1 rfl) ?_
              obtain ⟨r47, S47, e47, h⟩ := obd2_ex h
              refine k_S (As := [.int (S.1 0 11), .int v17]) (rest := []) (st1 := [.int r47]) C kx hK I hA (c_X11_has e47) ⟨Nat.le_of_ble_eq_true rfl, Nat.le_of_ble_eq_true rfl⟩ ms_X11_has lk_X11_85 rfl hl.1 rfl (Nat.le_of_ble_eq_true rfl) dX11_lay_244 rfl (fun H locs I => ?_)
              refine lv_if_eq (tgt := 317) hx hb dX11_lay_247 (by decide) (fun c48 => ?_) (fun c48 => ?_)
              · have h := ite_t c48 h
                exact rt_v hq h I dX11_lay_317
              · have h := ite_n c48 h
                refine lv_aload_n hx hb dX11_lay_250 rfl (lv_at hl 2 rfl) ?_
                refine gm_0_13 C hK I fl_X11_38 dX11_lay_251 ?_
                refine lv_iload_n hx hb dX11_lay_254 rfl (lv_at hl 1 rfl) ?_
                obtain ⟨hv49, h⟩ := chk_ex h
                refine am_7 C hK I hv49 dX11_lay_255 ?_
                refine lv_iconst (v := 4) hx hb dX11_lay_256 (by decide) ?_
                refine lv_icmp_ge (tgt := 317) hx hb dX11_lay_257 (by decide) (fun c50 => ?_) (fun c50 => ?_)
                · have h := ite_t c50 h
                  exact rt_v hq h I dX11_lay_317
                · have h := ite_n c50 h
                  refine lv_iconst (v := 0) hx hb dX11_lay_260 (by decide) ?_
                  refine lv_istore (lv' := [(4, .int 0), (3, .int v19), (2, .int v17), (0, .ref (ad 0)), (1, .int x1)]) hx hb dX11_lay_261 hl (by decide) rfl (fun ls hl => ?_)
                  exact J_263 _ _ _ _ _ h _ _ _ I (lv_sub hl [3, 4, 2, 0] rfl)
theorem lk_X11_139 : Cond.methodLink RX11 139 yX11_lay ∈ TT := tt_of 1279 (by decide +kernel) rfl
theorem mv_X11_lay : MV yX11_lay cX11_lay 5 none 1 := ⟨tt_of 1282 (by decide +kernel) rfl, tt_of 1281 (by decide +kernel) rfl, tt_of 32 (by decide +kernel) rfl, tt_of 76 (by decide +kernel) rfl, ⟨by decide +kernel, by decide +kernel, by decide +kernel⟩⟩
theorem lk_X11_136 : Cond.methodLink RX11 136 yX11_fault ∈ TT := tt_of 1278 (by decide +kernel) rfl
theorem mv_X11_fault : MV yX11_fault cX11_fault 2 (some .int) 0 := ⟨tt_of 1219 (by decide +kernel) rfl, tt_of 1217 (by decide +kernel) rfl, tt_of 1218 (by decide +kernel) rfl, tt_of 76 (by decide +kernel) rfl, ⟨by decide +kernel, by decide +kernel, by decide +kernel⟩⟩
theorem dX11_day_0 : decode cX11_day 0 = .ok (.aload_n 0, 1) := by decide +kernel
theorem dX11_day_1 : decode cX11_day 1 = .ok (.invokevirtual 136, 3) := by decide +kernel
theorem dX11_day_4 : decode cX11_day 4 = .ok (.iconst (-1), 1) := by decide +kernel
theorem dX11_day_5 : decode cX11_day 5 = .ok (.if_icmp .eq 6, 3) := by decide +kernel
theorem dX11_day_8 : decode cX11_day 8 = .ok (.bipush (-4), 2) := by decide +kernel
theorem dX11_day_10 : decode cX11_day 10 = .ok (.ireturn, 1) := by decide +kernel
theorem dX11_day_11 : decode cX11_day 11 = .ok (.iconst 0, 1) := by decide +kernel
theorem dX11_day_12 : decode cX11_day 12 = .ok (.istore_n 1, 1) := by decide +kernel
theorem dX11_day_13 : decode cX11_day 13 = .ok (.iload_n 1, 1) := by decide +kernel
theorem dX11_day_14 : decode cX11_day 14 = .ok (.aload_n 0, 1) := by decide +kernel
theorem dX11_day_15 : decode cX11_day 15 = .ok (.getfield 77, 3) := by decide +kernel
theorem dX11_day_18 : decode cX11_day 18 = .ok (.if_icmp .ge 17, 3) := by decide +kernel
theorem dX11_day_21 : decode cX11_day 21 = .ok (.aload_n 0, 1) := by decide +kernel
theorem dX11_day_22 : decode cX11_day 22 = .ok (.bipush 8, 2) := by decide +kernel
theorem dX11_day_24 : decode cX11_day 24 = .ok (.iload_n 1, 1) := by decide +kernel
theorem dX11_day_25 : decode cX11_day 25 = .ok (.imul, 1) := by decide +kernel
theorem dX11_day_26 : decode cX11_day 26 = .ok (.invokevirtual 139, 3) := by decide +kernel
theorem dX11_day_29 : decode cX11_day 29 = .ok (.iinc 1 1, 3) := by decide +kernel
theorem dX11_day_32 : decode cX11_day 32 = .ok (.goto (-19), 3) := by decide +kernel
theorem dX11_day_35 : decode cX11_day 35 = .ok (.aload_n 0, 1) := by decide +kernel
theorem dX11_day_36 : decode cX11_day 36 = .ok (.iconst 0, 1) := by decide +kernel
theorem dX11_day_37 : decode cX11_day 37 = .ok (.putfield 59, 3) := by decide +kernel
theorem dX11_day_40 : decode cX11_day 40 = .ok (.aload_n 0, 1) := by decide +kernel
theorem dX11_day_41 : decode cX11_day 41 = .ok (.getfield 77, 3) := by decide +kernel
theorem dX11_day_44 : decode cX11_day 44 = .ok (.ireturn, 1) := by decide +kernel
def f_X11_day_13 (k_13 : St → Int32 → Option (Int32 × St)) (S : St) (x1 : Int32) : Option (Int32 × St) :=
  if (S.1 0 3) ≤ x1 then (
    bnd (setI S 0 1 0) fun S2 =>
    some ((S2.1 0 3), S2)
  ) else (
    obd (f_X11_lay S (8 * x1)) fun S3 =>
    bnd (x1 + 1 : Int32) fun v4 =>
    k_13 S3 v4
  )
def l_X11_day_13 : Nat → St → Int32 → Option (Int32 × St)
  | 0, _, _ => none
  | fu + 1, S, x1 => f_X11_day_13 (l_X11_day_13 fu) S x1
def f_X11_day (S : St)  : Option (Int32 × St) :=
  obd2 (f_X11_fault S ) fun r5 S5 =>
  if r5 = (-1) then (
    l_X11_day_13 FU S5 0
  ) else (
    some ((-4), S5)
  )
set_option maxHeartbeats 4000000 in
set_option maxRecDepth 100000 in
theorem c_X11_day {l : Launch} {D : va_G} {cI cC cS : ClassId} {ad adK adV : Nat → Nat} {S S1 : St}  {r : Int32} (h : f_X11_day S  = some (r, S1)) : Kt l D (mw cI ad) (KX D (xtys cI cC cS) adK adV) yX11_day cX11_day 2 (some .int) (6) (131) [.ref (ad 0)] S (some (.int r)) S1 := by
  refine k_ent (ins := .ireturn) (st := [.int r]) (by decide +kernel) (Nat.le_of_ble_eq_true rfl) ret_i ?_
  intro p e s m args below meth c A Q C hK I hA hq ls hl
  have C : CallFix p m c cX11_day 2 s args TT RX11 := C
  have hx := C.1
  have hb := C.2.1
  have kx := kx_ok D (xtys cI cC cS) adK adV
  have hl : lv_has ls 2 [(0, .ref (ad 0))] := hl
  have B_13 : ∀ (k_13 : St → Int32 → Option (Int32 × St)) (hk_13 : ∀ (S : St) (x1 : Int32), k_13 S x1 = some (r, S1) → ∀ (H : Heap) (locs : List Loc) (ls : Array Slot), Iv D (mw cI ad) S A s H locs → lv_has ls 2 [(0, .ref (ad 0)), (1, .int x1)] → W p l e ({ frames := 6, cells := 0, slots := 0, locals := 131 } : Room) s m args below meth c H locs 0 0 Q (F0 m 13 ls [])) (S : St) (x1 : Int32), f_X11_day_13 k_13 S x1 = some (r, S1) → ∀ (H : Heap) (locs : List Loc) (ls : Array Slot), Iv D (mw cI ad) S A s H locs → lv_has ls 2 [(0, .ref (ad 0)), (1, .int x1)] → W p l e ({ frames := 6, cells := 0, slots := 0, locals := 131 } : Room) s m args below meth c H locs 0 0 Q (F0 m 13 ls []) := by
    intro k_13 hk_13 S x1 h H locs ls I hl
    unfold f_X11_day_13 at h
    refine lv_iload_n hx hb dX11_day_13 rfl (lv_at hl 1 rfl) ?_
    refine lv_aload_n hx hb dX11_day_14 rfl (lv_at hl 0 rfl) ?_
    refine gm_0_3 C hK I fl_X11_77 dX11_day_15 ?_
    refine lv_icmp_ge (tgt := 35) hx hb dX11_day_18 (by decide) (fun c1 => ?_) (fun c1 => ?_)
    · have h := ite_t c1 h
      refine lv_aload_n hx hb dX11_day_35 rfl (lv_at hl 0 rfl) ?_
      refine lv_iconst (v := 0) hx hb dX11_day_36 (by decide) ?_
      refine pm_0_1 C hK I fl_X11_59 dX11_day_37 (fun S2 eS2 H locs I => ?_)
      have h := bnd_at eS2 h
      clear eS2
      refine lv_aload_n hx hb dX11_day_40 rfl (lv_at hl 0 rfl) ?_
      refine gm_0_3 C hK I fl_X11_77 dX11_day_41 ?_
      exact rt_i hq h I dX11_day_44
    · have h := ite_n c1 h
      refine lv_aload_n hx hb dX11_day_21 rfl (lv_at hl 0 rfl) ?_
      refine lv_bipush (v := 8) hx hb dX11_day_22 (by decide) ?_
      refine lv_iload_n hx hb dX11_day_24 rfl (lv_at hl 1 rfl) ?_
      refine lv_imul hx hb dX11_day_25 ?_
      obtain ⟨S3, e3, h⟩ := obd_ex h
      refine k_V (As := [.int (8 * x1)]) (rest := []) (st1 := []) C kx hK I hA (c_X11_lay e3) ⟨Nat.le_of_ble_eq_true rfl, Nat.le_of_ble_eq_true rfl⟩ mv_X11_lay lk_X11_139 0 11 (mw_0 (cI := cI) (ad := ad)) rfl rfl hl.1 rfl (Nat.le_of_ble_eq_true rfl) dX11_day_26 rfl (fun H locs I => ?_)
      obtain ⟨v4, ev4⟩ : ∃ y : Int32, y = x1 + 1 := ⟨_, rfl⟩
      have h := bnd_at ev4 h
      refine lv_iinc (v := v4) (lv' := [(1, .int v4), (0, .ref (ad 0))]) hx hb dX11_day_29 hl (k := 1) rfl (by rw [ev4]; rfl) (by decide) rfl (fun ls hl => ?_)
      clear ev4
      refine lv_goto (tgt := 13) hx hb dX11_day_32 (by decide) ?_
      exact hk_13 _ _ h _ _ _ I (lv_sub hl [1, 0] rfl)
  have J_13 : ∀ (fu : Nat) (S : St) (x1 : Int32), l_X11_day_13  fu S x1 = some (r, S1) → ∀ (H : Heap) (locs : List Loc) (ls : Array Slot), Iv D (mw cI ad) S A s H locs → lv_has ls 2 [(0, .ref (ad 0)), (1, .int x1)] → W p l e ({ frames := 6, cells := 0, slots := 0, locals := 131 } : Room) s m args below meth c H locs 0 0 Q (F0 m 13 ls []) := by
    intro fu
    induction fu with
    | zero => intro S x1 h; cases h
    | succ fu ih => intro S x1 h; exact B_13 (l_X11_day_13 fu) ih S x1 h
  unfold f_X11_day at h
  refine lv_aload_n hx hb dX11_day_0 rfl (lv_at hl 0 rfl) ?_
  obtain ⟨r5, S5, e5, h⟩ := obd2_ex h
  refine k_V (As := []) (rest := []) (st1 := [.int r5]) C kx hK I hA (c_X11_fault e5) ⟨Nat.le_of_ble_eq_true rfl, Nat.le_of_ble_eq_true rfl⟩ mv_X11_fault lk_X11_136 0 11 (mw_0 (cI := cI) (ad := ad)) rfl rfl hl.1 rfl (Nat.le_of_ble_eq_true rfl) dX11_day_1 rfl (fun H locs I => ?_)
  refine lv_iconst (v := (-1)) hx hb dX11_day_4 (by decide) ?_
  refine lv_icmp_eq (tgt := 11) hx hb dX11_day_5 (by decide) (fun c6 => ?_) (fun c6 => ?_)
  · have h := ite_t c6 h
    refine lv_iconst (v := 0) hx hb dX11_day_11 (by decide) ?_
    refine lv_istore_n (lv' := [(1, .int 0), (0, .ref (ad 0))]) hx hb dX11_day_12 rfl hl (by decide) rfl (fun ls hl => ?_)
    exact J_13 _ _ _ h _ _ _ I (lv_sub hl [1, 0] rfl)
  · have h := ite_n c6 h
    refine lv_bipush (v := (-4)) hx hb dX11_day_8 (by decide) ?_
    exact rt_i hq h I dX11_day_10
theorem dX11_isThing_0 : decode cX11_isThing 0 = .ok (.iload_n 0, 1) := by decide +kernel
theorem dX11_isThing_1 : decode cX11_isThing 1 = .ok (.i2l, 1) := by decide +kernel
theorem dX11_isThing_2 : decode cX11_isThing 2 = .ok (.lconst 0, 1) := by decide +kernel
theorem dX11_isThing_3 : decode cX11_isThing 3 = .ok (.ldc2_w 83, 3) := by decide +kernel
theorem dX11_isThing_6 : decode cX11_isThing 6 = .ok (.invokestatic 55, 3) := by decide +kernel
theorem dX11_isThing_9 : decode cX11_isThing 9 = .ok (.ireturn, 1) := by decide +kernel
def f_X11_isThing (S : St) (x0 : Int32) : Option (Int32 × St) :=
  obd2 (f_X11_in S (x0.toInt64) (0) (7)) fun r1 S1 =>
  chk (zb r1) <|
  some (r1, S1)
set_option maxHeartbeats 4000000 in
set_option maxRecDepth 100000 in
theorem c_X11_isThing {l : Launch} {D : va_G} {cI cC cS : ClassId} {ad adK adV : Nat → Nat} {S S1 : St} {x0 : Int32} {r : Int32} (h : f_X11_isThing S x0 = some (r, S1)) : Kt l D (mw cI ad) (KX D (xtys cI cC cS) adK adV) yX11_isThing cX11_isThing 1 (some .boolean) (1) (25) [.int x0] S (some (.int r)) S1 := by
  refine k_entz (by decide +kernel) (Nat.le_of_ble_eq_true rfl) ?_
  intro p e s m args below meth c A Q C hK I hA hq ls hl
  have C : CallFix p m c cX11_isThing 1 s args TT RX11 := C
  have hx := C.1
  have hb := C.2.1
  have kx := kx_ok D (xtys cI cC cS) adK adV
  have hl : lv_has ls 1 [(0, .int x0)] := hl
  unfold f_X11_isThing at h
  refine lv_iload_n hx hb dX11_isThing_0 rfl (lv_at hl 0 rfl) ?_
  refine lv_i2l hx hb dX11_isThing_1 rfl ?_
  refine lv_lconst (v := (0)) hx hb dX11_isThing_2 (by decide) ?_
  refine lv_ldc2 (v := (7)) hx hb C.2.2.2.1 (C.2.2.2.2 _ cn_X11_83) dX11_isThing_3 ?_
  obtain ⟨r1, S1, e1, h⟩ := obd2_ex h
  refine k_S (As := [.long (x0.toInt64), .long (0), .long (7)]) (rest := []) (st1 := [.int r1]) C kx hK I hA (c_X11_in e1) ⟨Nat.le_of_ble_eq_true rfl, Nat.le_of_ble_eq_true rfl⟩ ms_X11_in lk_X11_55 rfl hl.1 rfl (Nat.le_of_ble_eq_true rfl) dX11_isThing_6 rfl (fun H locs I => ?_)
  obtain ⟨hz, h⟩ := chk_ex h
  exact rt_z hz hq h I dX11_isThing_9
theorem cn_X11_143 : Cond.constantLong RX11 143 ((5)) ∈ TT := tt_of 1298 (by decide +kernel) rfl
theorem dX11_isCall_0 : decode cX11_isCall 0 = .ok (.iload_n 1, 1) := by decide +kernel
theorem dX11_isCall_1 : decode cX11_isCall 1 = .ok (.i2l, 1) := by decide +kernel
theorem dX11_isCall_2 : decode cX11_isCall 2 = .ok (.lconst 0, 1) := by decide +kernel
theorem dX11_isCall_3 : decode cX11_isCall 3 = .ok (.ldc2_w 143, 3) := by decide +kernel
theorem dX11_isCall_6 : decode cX11_isCall 6 = .ok (.invokestatic 55, 3) := by decide +kernel
theorem dX11_isCall_9 : decode cX11_isCall 9 = .ok (.ifCond .eq 18, 3) := by decide +kernel
theorem dX11_isCall_12 : decode cX11_isCall 12 = .ok (.aload_n 0, 1) := by decide +kernel
theorem dX11_isCall_13 : decode cX11_isCall 13 = .ok (.getfield 133, 3) := by decide +kernel
theorem dX11_isCall_16 : decode cX11_isCall 16 = .ok (.iload_n 1, 1) := by decide +kernel
theorem dX11_isCall_17 : decode cX11_isCall 17 = .ok (.invokestatic 85, 3) := by decide +kernel
theorem dX11_isCall_20 : decode cX11_isCall 20 = .ok (.ifCond .eq 7, 3) := by decide +kernel
theorem dX11_isCall_23 : decode cX11_isCall 23 = .ok (.iconst 1, 1) := by decide +kernel
theorem dX11_isCall_24 : decode cX11_isCall 24 = .ok (.goto 4, 3) := by decide +kernel
theorem dX11_isCall_27 : decode cX11_isCall 27 = .ok (.iconst 0, 1) := by decide +kernel
theorem dX11_isCall_28 : decode cX11_isCall 28 = .ok (.ireturn, 1) := by decide +kernel
def f_X11_isCall (S : St) (x1 : Int32) : Option (Int32 × St) :=
  obd2 (f_X11_in S (x1.toInt64) (0) (5)) fun r1 S1 =>
  if r1 = 0 then (
    some (0, S1)
  ) else (
    obd2 (f_X11_has S1 (S1.1 0 11) x1) fun r3 S3 =>
    if r3 = 0 then (
      some (0, S3)
    ) else (
      some (1, S3)
    )
  )
set_option maxHeartbeats 4000000 in
set_option maxRecDepth 100000 in
theorem c_X11_isCall {l : Launch} {D : va_G} {cI cC cS : ClassId} {ad adK adV : Nat → Nat} {S S1 : St} {x1 : Int32} {r : Int32} (h : f_X11_isCall S x1 = some (r, S1)) : Kt l D (mw cI ad) (KX D (xtys cI cC cS) adK adV) yX11_isCall cX11_isCall 2 (some .boolean) (1) (25) [.ref (ad 0), .int x1] S (some (.int r)) S1 := by
  refine k_entz (by decide +kernel) (Nat.le_of_ble_eq_true rfl) ?_
  intro p e s m args below meth c A Q C hK I hA hq ls hl
  have C : CallFix p m c cX11_isCall 2 s args TT RX11 := C
  have hx := C.1
  have hb := C.2.1
  have kx := kx_ok D (xtys cI cC cS) adK adV
  have hl : lv_has ls 2 [(0, .ref (ad 0)), (1, .int x1)] := hl
  unfold f_X11_isCall at h
  refine lv_iload_n hx hb dX11_isCall_0 rfl (lv_at hl 1 rfl) ?_
  refine lv_i2l hx hb dX11_isCall_1 rfl ?_
  refine lv_lconst (v := (0)) hx hb dX11_isCall_2 (by decide) ?_
  refine lv_ldc2 (v := (5)) hx hb C.2.2.2.1 (C.2.2.2.2 _ cn_X11_143) dX11_isCall_3 ?_
  obtain ⟨r1, S1, e1, h⟩ := obd2_ex h
  refine k_S (As := [.long (x1.toInt64), .long (0), .long (5)]) (rest := []) (st1 := [.int r1]) C kx hK I hA (c_X11_in e1) ⟨Nat.le_of_ble_eq_true rfl, Nat.le_of_ble_eq_true rfl⟩ ms_X11_in lk_X11_55 rfl hl.1 rfl (Nat.le_of_ble_eq_true rfl) dX11_isCall_6 rfl (fun H locs I => ?_)
  refine lv_if_eq (tgt := 27) hx hb dX11_isCall_9 (by decide) (fun c2 => ?_) (fun c2 => ?_)
  · have h := ite_t c2 h
    refine lv_iconst (v := 0) hx hb dX11_isCall_27 (by decide) ?_
    exact rt_z (Or.inl rfl) hq h I dX11_isCall_28
  · have h := ite_n c2 h
    refine lv_aload_n hx hb dX11_isCall_12 rfl (lv_at hl 0 rfl) ?_
    refine gm_0_11 C hK I fl_X11_133 dX11_isCall_13 ?_
    refine lv_iload_n hx hb dX11_isCall_16 rfl (lv_at hl 1 rfl) ?_
    obtain ⟨r3, S3, e3, h⟩ := obd2_ex h
    refine k_S (As := [.int (S1.1 0 11), .int x1]) (rest := []) (st1 := [.int r3]) C kx hK I hA (c_X11_has e3) ⟨Nat.le_of_ble_eq_true rfl, Nat.le_of_ble_eq_true rfl⟩ ms_X11_has lk_X11_85 rfl hl.1 rfl (Nat.le_of_ble_eq_true rfl) dX11_isCall_17 rfl (fun H locs I => ?_)
    refine lv_if_eq (tgt := 27) hx hb dX11_isCall_20 (by decide) (fun c4 => ?_) (fun c4 => ?_)
    · have h := ite_t c4 h
      refine lv_iconst (v := 0) hx hb dX11_isCall_27 (by decide) ?_
      exact rt_z (Or.inl rfl) hq h I dX11_isCall_28
    · have h := ite_n c4 h
      refine lv_iconst (v := 1) hx hb dX11_isCall_23 (by decide) ?_
      refine lv_goto (tgt := 28) hx hb dX11_isCall_24 (by decide) ?_
      exact rt_z (Or.inr rfl) hq h I dX11_isCall_28
theorem lk_X11_145 : Cond.methodLink RX11 145 yX11_isThing ∈ TT := tt_of 1287 (by decide +kernel) rfl
theorem ms_X11_isThing : MS yX11_isThing cX11_isThing 1 (some .boolean) 1 := ⟨tt_of 1289 (by decide +kernel) rfl, tt_of 1288 (by decide +kernel) rfl, tt_of 76 (by decide +kernel) rfl, ⟨by decide +kernel, by decide +kernel, by decide +kernel⟩⟩
theorem dX11_thing_0 : decode cX11_thing 0 = .ok (.iload_n 1, 1) := by decide +kernel
theorem dX11_thing_1 : decode cX11_thing 1 = .ok (.invokestatic 145, 3) := by decide +kernel
theorem dX11_thing_4 : decode cX11_thing 4 = .ok (.ifCond .ne 6, 3) := by decide +kernel
theorem dX11_thing_7 : decode cX11_thing 7 = .ok (.bipush (-2), 2) := by decide +kernel
theorem dX11_thing_9 : decode cX11_thing 9 = .ok (.ireturn, 1) := by decide +kernel
theorem dX11_thing_10 : decode cX11_thing 10 = .ok (.iload_n 2, 1) := by decide +kernel
theorem dX11_thing_11 : decode cX11_thing 11 = .ok (.ifCond .ne 12, 3) := by decide +kernel
theorem dX11_thing_14 : decode cX11_thing 14 = .ok (.aload_n 0, 1) := by decide +kernel
theorem dX11_thing_15 : decode cX11_thing 15 = .ok (.getfield 16, 3) := by decide +kernel
theorem dX11_thing_18 : decode cX11_thing 18 = .ok (.iload_n 1, 1) := by decide +kernel
theorem dX11_thing_19 : decode cX11_thing 19 = .ok (.iaload, 1) := by decide +kernel
theorem dX11_thing_20 : decode cX11_thing 20 = .ok (.goto 35, 3) := by decide +kernel
theorem dX11_thing_23 : decode cX11_thing 23 = .ok (.iload_n 2, 1) := by decide +kernel
theorem dX11_thing_24 : decode cX11_thing 24 = .ok (.iconst 1, 1) := by decide +kernel
theorem dX11_thing_25 : decode cX11_thing 25 = .ok (.if_icmp .ne 12, 3) := by decide +kernel
theorem dX11_thing_28 : decode cX11_thing 28 = .ok (.aload_n 0, 1) := by decide +kernel
theorem dX11_thing_29 : decode cX11_thing 29 = .ok (.getfield 19, 3) := by decide +kernel
theorem dX11_thing_32 : decode cX11_thing 32 = .ok (.iload_n 1, 1) := by decide +kernel
theorem dX11_thing_33 : decode cX11_thing 33 = .ok (.iaload, 1) := by decide +kernel
theorem dX11_thing_34 : decode cX11_thing 34 = .ok (.goto 21, 3) := by decide +kernel
theorem dX11_thing_37 : decode cX11_thing 37 = .ok (.iload_n 2, 1) := by decide +kernel
theorem dX11_thing_38 : decode cX11_thing 38 = .ok (.iconst 2, 1) := by decide +kernel
theorem dX11_thing_39 : decode cX11_thing 39 = .ok (.if_icmp .ne 14, 3) := by decide +kernel
theorem dX11_thing_42 : decode cX11_thing 42 = .ok (.aload_n 0, 1) := by decide +kernel
theorem dX11_thing_43 : decode cX11_thing 43 = .ok (.getfield 130, 3) := by decide +kernel
theorem dX11_thing_46 : decode cX11_thing 46 = .ok (.iload_n 1, 1) := by decide +kernel
theorem dX11_thing_47 : decode cX11_thing 47 = .ok (.ishr, 1) := by decide +kernel
theorem dX11_thing_48 : decode cX11_thing 48 = .ok (.iconst 1, 1) := by decide +kernel
theorem dX11_thing_49 : decode cX11_thing 49 = .ok (.iand, 1) := by decide +kernel
theorem dX11_thing_50 : decode cX11_thing 50 = .ok (.goto 5, 3) := by decide +kernel
theorem dX11_thing_53 : decode cX11_thing 53 = .ok (.bipush (-3), 2) := by decide +kernel
theorem dX11_thing_55 : decode cX11_thing 55 = .ok (.ireturn, 1) := by decide +kernel
def f_X11_thing (S : St) (x1 : Int32) (x2 : Int32) : Option (Int32 × St) :=
  obd2 (f_X11_isThing S x1) fun r1 S1 =>
  if r1 = 0 then (
    some ((-2), S1)
  ) else (
    if x2 = 0 then (
      chk (ixo x1 8) <|
      some ((S1.1 3 (x1).toNatClampNeg), S1)
    ) else (
      if x2 = 1 then (
        chk (ixo x1 8) <|
        some ((S1.1 4 (x1).toNatClampNeg), S1)
      ) else (
        if x2 = 2 then (
          some ((((S1.1 0 6) >>> (x1 &&& 31)) &&& 1), S1)
        ) else (
          some ((-3), S1)
        )
      )
    )
  )
set_option maxHeartbeats 4000000 in
set_option maxRecDepth 100000 in
theorem c_X11_thing {l : Launch} {D : va_G} {cI cC cS : ClassId} {ad adK adV : Nat → Nat} {S S1 : St} {x1 : Int32} {x2 : Int32} {r : Int32} (h : f_X11_thing S x1 x2 = some (r, S1)) : Kt l D (mw cI ad) (KX D (xtys cI cC cS) adK adV) yX11_thing cX11_thing 3 (some .int) (2) (45) [.ref (ad 0), .int x1, .int x2] S (some (.int r)) S1 := by
  refine k_ent (ins := .ireturn) (st := [.int r]) (by decide +kernel) (Nat.le_of_ble_eq_true rfl) ret_i ?_
  intro p e s m args below meth c A Q C hK I hA hq ls hl
  have C : CallFix p m c cX11_thing 3 s args TT RX11 := C
  have hx := C.1
  have hb := C.2.1
  have kx := kx_ok D (xtys cI cC cS) adK adV
  have hl : lv_has ls 3 [(0, .ref (ad 0)), (1, .int x1), (2, .int x2)] := hl
  unfold f_X11_thing at h
  refine lv_iload_n hx hb dX11_thing_0 rfl (lv_at hl 1 rfl) ?_
  obtain ⟨r1, S1, e1, h⟩ := obd2_ex h
  refine k_S (As := [.int x1]) (rest := []) (st1 := [.int r1]) C kx hK I hA (c_X11_isThing e1) ⟨Nat.le_of_ble_eq_true rfl, Nat.le_of_ble_eq_true rfl⟩ ms_X11_isThing lk_X11_145 rfl hl.1 rfl (Nat.le_of_ble_eq_true rfl) dX11_thing_1 rfl (fun H locs I => ?_)
  refine lv_if_ne (tgt := 10) hx hb dX11_thing_4 (by decide) (fun c2 => ?_) (fun c2 => ?_)
  · have h := ite_n c2 h
    refine lv_iload_n hx hb dX11_thing_10 rfl (lv_at hl 2 rfl) ?_
    refine lv_if_ne (tgt := 23) hx hb dX11_thing_11 (by decide) (fun c3 => ?_) (fun c3 => ?_)
    · have h := ite_n c3 h
      refine lv_iload_n hx hb dX11_thing_23 rfl (lv_at hl 2 rfl) ?_
      refine lv_iconst (v := 1) hx hb dX11_thing_24 (by decide) ?_
      refine lv_icmp_ne (tgt := 37) hx hb dX11_thing_25 (by decide) (fun c4 => ?_) (fun c4 => ?_)
      · have h := ite_n c4 h
        refine lv_iload_n hx hb dX11_thing_37 rfl (lv_at hl 2 rfl) ?_
        refine lv_iconst (v := 2) hx hb dX11_thing_38 (by decide) ?_
        refine lv_icmp_ne (tgt := 53) hx hb dX11_thing_39 (by decide) (fun c5 => ?_) (fun c5 => ?_)
        · have h := ite_n c5 h
          refine lv_bipush (v := (-3)) hx hb dX11_thing_53 (by decide) ?_
          exact rt_i hq h I dX11_thing_55
        · have h := ite_t c5 h
          refine lv_aload_n hx hb dX11_thing_42 rfl (lv_at hl 0 rfl) ?_
          refine gm_0_6 C hK I fl_X11_130 dX11_thing_43 ?_
          refine lv_iload_n hx hb dX11_thing_46 rfl (lv_at hl 1 rfl) ?_
          refine lv_ishr hx hb dX11_thing_47 ?_
          refine lv_iconst (v := 1) hx hb dX11_thing_48 (by decide) ?_
          refine lv_iand hx hb dX11_thing_49 ?_
          refine lv_goto (tgt := 55) hx hb dX11_thing_50 (by decide) ?_
          exact rt_i hq h I dX11_thing_55
      · have h := ite_t c4 h
        refine lv_aload_n hx hb dX11_thing_28 rfl (lv_at hl 0 rfl) ?_
        refine gm_0_5 C hK I fl_X11_19 dX11_thing_29 ?_
        refine lv_iload_n hx hb dX11_thing_32 rfl (lv_at hl 1 rfl) ?_
        obtain ⟨hv6, h⟩ := chk_ex h
        refine am_4 C hK I hv6 dX11_thing_33 ?_
        refine lv_goto (tgt := 55) hx hb dX11_thing_34 (by decide) ?_
        exact rt_i hq h I dX11_thing_55
    · have h := ite_t c3 h
      refine lv_aload_n hx hb dX11_thing_14 rfl (lv_at hl 0 rfl) ?_
      refine gm_0_4 C hK I fl_X11_16 dX11_thing_15 ?_
      refine lv_iload_n hx hb dX11_thing_18 rfl (lv_at hl 1 rfl) ?_
      obtain ⟨hv7, h⟩ := chk_ex h
      refine am_3 C hK I hv7 dX11_thing_19 ?_
      refine lv_goto (tgt := 55) hx hb dX11_thing_20 (by decide) ?_
      exact rt_i hq h I dX11_thing_55
  · have h := ite_t c2 h
    refine lv_bipush (v := (-2)) hx hb dX11_thing_7 (by decide) ?_
    exact rt_i hq h I dX11_thing_9
theorem lk_X11_148 : Cond.methodLink RX11 148 yX11_isCall ∈ TT := tt_of 1294 (by decide +kernel) rfl
theorem mv_X11_isCall : MV yX11_isCall cX11_isCall 2 (some .boolean) 1 := ⟨tt_of 1297 (by decide +kernel) rfl, tt_of 1296 (by decide +kernel) rfl, tt_of 33 (by decide +kernel) rfl, tt_of 76 (by decide +kernel) rfl, ⟨by decide +kernel, by decide +kernel, by decide +kernel⟩⟩
theorem dX11_call_0 : decode cX11_call 0 = .ok (.aload_n 0, 1) := by decide +kernel
theorem dX11_call_1 : decode cX11_call 1 = .ok (.iload_n 1, 1) := by decide +kernel
theorem dX11_call_2 : decode cX11_call 2 = .ok (.invokevirtual 148, 3) := by decide +kernel
theorem dX11_call_5 : decode cX11_call 5 = .ok (.ifCond .ne 6, 3) := by decide +kernel
theorem dX11_call_8 : decode cX11_call 8 = .ok (.bipush (-2), 2) := by decide +kernel
theorem dX11_call_10 : decode cX11_call 10 = .ok (.ireturn, 1) := by decide +kernel
theorem dX11_call_11 : decode cX11_call 11 = .ok (.iload_n 2, 1) := by decide +kernel
theorem dX11_call_12 : decode cX11_call 12 = .ok (.i2l, 1) := by decide +kernel
theorem dX11_call_13 : decode cX11_call 13 = .ok (.lconst 0, 1) := by decide +kernel
theorem dX11_call_14 : decode cX11_call 14 = .ok (.ldc2_w 143, 3) := by decide +kernel
theorem dX11_call_17 : decode cX11_call 17 = .ok (.invokestatic 55, 3) := by decide +kernel
theorem dX11_call_20 : decode cX11_call 20 = .ok (.ifCond .eq 17, 3) := by decide +kernel
theorem dX11_call_23 : decode cX11_call 23 = .ok (.aload_n 0, 1) := by decide +kernel
theorem dX11_call_24 : decode cX11_call 24 = .ok (.getfield 35, 3) := by decide +kernel
theorem dX11_call_27 : decode cX11_call 27 = .ok (.bipush 6, 2) := by decide +kernel
theorem dX11_call_29 : decode cX11_call 29 = .ok (.iload_n 1, 1) := by decide +kernel
theorem dX11_call_30 : decode cX11_call 30 = .ok (.imul, 1) := by decide +kernel
theorem dX11_call_31 : decode cX11_call 31 = .ok (.iload_n 2, 1) := by decide +kernel
theorem dX11_call_32 : decode cX11_call 32 = .ok (.iadd, 1) := by decide +kernel
theorem dX11_call_33 : decode cX11_call 33 = .ok (.iaload, 1) := by decide +kernel
theorem dX11_call_34 : decode cX11_call 34 = .ok (.goto 20, 3) := by decide +kernel
theorem dX11_call_37 : decode cX11_call 37 = .ok (.iload_n 2, 1) := by decide +kernel
theorem dX11_call_38 : decode cX11_call 38 = .ok (.bipush 6, 2) := by decide +kernel
theorem dX11_call_40 : decode cX11_call 40 = .ok (.if_icmp .ne 12, 3) := by decide +kernel
theorem dX11_call_43 : decode cX11_call 43 = .ok (.aload_n 0, 1) := by decide +kernel
theorem dX11_call_44 : decode cX11_call 44 = .ok (.getfield 38, 3) := by decide +kernel
theorem dX11_call_47 : decode cX11_call 47 = .ok (.iload_n 1, 1) := by decide +kernel
theorem dX11_call_48 : decode cX11_call 48 = .ok (.iaload, 1) := by decide +kernel
theorem dX11_call_49 : decode cX11_call 49 = .ok (.goto 5, 3) := by decide +kernel
theorem dX11_call_52 : decode cX11_call 52 = .ok (.bipush (-3), 2) := by decide +kernel
theorem dX11_call_54 : decode cX11_call 54 = .ok (.ireturn, 1) := by decide +kernel
def f_X11_call (S : St) (x1 : Int32) (x2 : Int32) : Option (Int32 × St) :=
  obd2 (f_X11_isCall S x1) fun r1 S1 =>
  if r1 = 0 then (
    some ((-2), S1)
  ) else (
    obd2 (f_X11_in S1 (x2.toInt64) (0) (5)) fun r3 S3 =>
    if r3 = 0 then (
      if x2 = 6 then (
        chk (ixo x1 6) <|
        some ((S3.1 7 (x1).toNatClampNeg), S3)
      ) else (
        some ((-3), S3)
      )
    ) else (
      chk (ixo ((6 * x1) + x2) 36) <|
      some ((S3.1 6 (((6 * x1) + x2)).toNatClampNeg), S3)
    )
  )
set_option maxHeartbeats 4000000 in
set_option maxRecDepth 100000 in
theorem c_X11_call {l : Launch} {D : va_G} {cI cC cS : ClassId} {ad adK adV : Nat → Nat} {S S1 : St} {x1 : Int32} {x2 : Int32} {r : Int32} (h : f_X11_call S x1 x2 = some (r, S1)) : Kt l D (mw cI ad) (KX D (xtys cI cC cS) adK adV) yX11_call cX11_call 3 (some .int) (2) (46) [.ref (ad 0), .int x1, .int x2] S (some (.int r)) S1 := by
  refine k_ent (ins := .ireturn) (st := [.int r]) (by decide +kernel) (Nat.le_of_ble_eq_true rfl) ret_i ?_
  intro p e s m args below meth c A Q C hK I hA hq ls hl
  have C : CallFix p m c cX11_call 3 s args TT RX11 := C
  have hx := C.1
  have hb := C.2.1
  have kx := kx_ok D (xtys cI cC cS) adK adV
  have hl : lv_has ls 3 [(0, .ref (ad 0)), (1, .int x1), (2, .int x2)] := hl
  unfold f_X11_call at h
  refine lv_aload_n hx hb dX11_call_0 rfl (lv_at hl 0 rfl) ?_
  refine lv_iload_n hx hb dX11_call_1 rfl (lv_at hl 1 rfl) ?_
  obtain ⟨r1, S1, e1, h⟩ := obd2_ex h
  refine k_V (As := [.int x1]) (rest := []) (st1 := [.int r1]) C kx hK I hA (c_X11_isCall e1) ⟨Nat.le_of_ble_eq_true rfl, Nat.le_of_ble_eq_true rfl⟩ mv_X11_isCall lk_X11_148 0 11 (mw_0 (cI := cI) (ad := ad)) rfl rfl hl.1 rfl (Nat.le_of_ble_eq_true rfl) dX11_call_2 rfl (fun H locs I => ?_)
  refine lv_if_ne (tgt := 11) hx hb dX11_call_5 (by decide) (fun c2 => ?_) (fun c2 => ?_)
  · have h := ite_n c2 h
    refine lv_iload_n hx hb dX11_call_11 rfl (lv_at hl 2 rfl) ?_
    refine lv_i2l hx hb dX11_call_12 rfl ?_
    refine lv_lconst (v := (0)) hx hb dX11_call_13 (by decide) ?_
    refine lv_ldc2 (v := (5)) hx hb C.2.2.2.1 (C.2.2.2.2 _ cn_X11_143) dX11_call_14 ?_
    obtain ⟨r3, S3, e3, h⟩ := obd2_ex h
    refine k_S (As := [.long (x2.toInt64), .long (0), .long (5)]) (rest := []) (st1 := [.int r3]) C kx hK I hA (c_X11_in e3) ⟨Nat.le_of_ble_eq_true rfl, Nat.le_of_ble_eq_true rfl⟩ ms_X11_in lk_X11_55 rfl hl.1 rfl (Nat.le_of_ble_eq_true rfl) dX11_call_17 rfl (fun H locs I => ?_)
    refine lv_if_eq (tgt := 37) hx hb dX11_call_20 (by decide) (fun c4 => ?_) (fun c4 => ?_)
    · have h := ite_t c4 h
      refine lv_iload_n hx hb dX11_call_37 rfl (lv_at hl 2 rfl) ?_
      refine lv_bipush (v := 6) hx hb dX11_call_38 (by decide) ?_
      refine lv_icmp_ne (tgt := 52) hx hb dX11_call_40 (by decide) (fun c5 => ?_) (fun c5 => ?_)
      · have h := ite_n c5 h
        refine lv_bipush (v := (-3)) hx hb dX11_call_52 (by decide) ?_
        exact rt_i hq h I dX11_call_54
      · have h := ite_t c5 h
        refine lv_aload_n hx hb dX11_call_43 rfl (lv_at hl 0 rfl) ?_
        refine gm_0_13 C hK I fl_X11_38 dX11_call_44 ?_
        refine lv_iload_n hx hb dX11_call_47 rfl (lv_at hl 1 rfl) ?_
        obtain ⟨hv6, h⟩ := chk_ex h
        refine am_7 C hK I hv6 dX11_call_48 ?_
        refine lv_goto (tgt := 54) hx hb dX11_call_49 (by decide) ?_
        exact rt_i hq h I dX11_call_54
    · have h := ite_n c4 h
      refine lv_aload_n hx hb dX11_call_23 rfl (lv_at hl 0 rfl) ?_
      refine gm_0_12 C hK I fl_X11_35 dX11_call_24 ?_
      refine lv_bipush (v := 6) hx hb dX11_call_27 (by decide) ?_
      refine lv_iload_n hx hb dX11_call_29 rfl (lv_at hl 1 rfl) ?_
      refine lv_imul hx hb dX11_call_30 ?_
      refine lv_iload_n hx hb dX11_call_31 rfl (lv_at hl 2 rfl) ?_
      refine lv_iadd hx hb dX11_call_32 ?_
      obtain ⟨hv7, h⟩ := chk_ex h
      refine am_6 C hK I hv7 dX11_call_33 ?_
      refine lv_goto (tgt := 54) hx hb dX11_call_34 (by decide) ?_
      exact rt_i hq h I dX11_call_54
  · have h := ite_t c2 h
    refine lv_bipush (v := (-2)) hx hb dX11_call_8 (by decide) ?_
    exact rt_i hq h I dX11_call_10
theorem dX11_isSort_0 : decode cX11_isSort 0 = .ok (.aload_n 0, 1) := by decide +kernel
theorem dX11_isSort_1 : decode cX11_isSort 1 = .ok (.iload_n 1, 1) := by decide +kernel
theorem dX11_isSort_2 : decode cX11_isSort 2 = .ok (.invokevirtual 148, 3) := by decide +kernel
theorem dX11_isSort_5 : decode cX11_isSort 5 = .ok (.ifCond .eq 25, 3) := by decide +kernel
theorem dX11_isSort_8 : decode cX11_isSort 8 = .ok (.iload_n 2, 1) := by decide +kernel
theorem dX11_isSort_9 : decode cX11_isSort 9 = .ok (.i2l, 1) := by decide +kernel
theorem dX11_isSort_10 : decode cX11_isSort 10 = .ok (.lconst 0, 1) := by decide +kernel
theorem dX11_isSort_11 : decode cX11_isSort 11 = .ok (.aload_n 0, 1) := by decide +kernel
theorem dX11_isSort_12 : decode cX11_isSort 12 = .ok (.getfield 38, 3) := by decide +kernel
theorem dX11_isSort_15 : decode cX11_isSort 15 = .ok (.iload_n 1, 1) := by decide +kernel
theorem dX11_isSort_16 : decode cX11_isSort 16 = .ok (.iaload, 1) := by decide +kernel
theorem dX11_isSort_17 : decode cX11_isSort 17 = .ok (.iconst 1, 1) := by decide +kernel
theorem dX11_isSort_18 : decode cX11_isSort 18 = .ok (.isub, 1) := by decide +kernel
theorem dX11_isSort_19 : decode cX11_isSort 19 = .ok (.i2l, 1) := by decide +kernel
theorem dX11_isSort_20 : decode cX11_isSort 20 = .ok (.invokestatic 55, 3) := by decide +kernel
theorem dX11_isSort_23 : decode cX11_isSort 23 = .ok (.ifCond .eq 7, 3) := by decide +kernel
theorem dX11_isSort_26 : decode cX11_isSort 26 = .ok (.iconst 1, 1) := by decide +kernel
theorem dX11_isSort_27 : decode cX11_isSort 27 = .ok (.goto 4, 3) := by decide +kernel
theorem dX11_isSort_30 : decode cX11_isSort 30 = .ok (.iconst 0, 1) := by decide +kernel
theorem dX11_isSort_31 : decode cX11_isSort 31 = .ok (.ireturn, 1) := by decide +kernel
def f_X11_isSort (S : St) (x1 : Int32) (x2 : Int32) : Option (Int32 × St) :=
  obd2 (f_X11_isCall S x1) fun r1 S1 =>
  if r1 = 0 then (
    some (0, S1)
  ) else (
    chk (ixo x1 6) <|
    obd2 (f_X11_in S1 (x2.toInt64) (0) ((((S1.1 7 (x1).toNatClampNeg) - 1) : Int32).toInt64)) fun r4 S4 =>
    if r4 = 0 then (
      some (0, S4)
    ) else (
      some (1, S4)
    )
  )
set_option maxHeartbeats 4000000 in
set_option maxRecDepth 100000 in
theorem c_X11_isSort {l : Launch} {D : va_G} {cI cC cS : ClassId} {ad adK adV : Nat → Nat} {S S1 : St} {x1 : Int32} {x2 : Int32} {r : Int32} (h : f_X11_isSort S x1 x2 = some (r, S1)) : Kt l D (mw cI ad) (KX D (xtys cI cC cS) adK adV) yX11_isSort cX11_isSort 3 (some .boolean) (2) (46) [.ref (ad 0), .int x1, .int x2] S (some (.int r)) S1 := by
  refine k_entz (by decide +kernel) (Nat.le_of_ble_eq_true rfl) ?_
  intro p e s m args below meth c A Q C hK I hA hq ls hl
  have C : CallFix p m c cX11_isSort 3 s args TT RX11 := C
  have hx := C.1
  have hb := C.2.1
  have kx := kx_ok D (xtys cI cC cS) adK adV
  have hl : lv_has ls 3 [(0, .ref (ad 0)), (1, .int x1), (2, .int x2)] := hl
  unfold f_X11_isSort at h
  refine lv_aload_n hx hb dX11_isSort_0 rfl (lv_at hl 0 rfl) ?_
  refine lv_iload_n hx hb dX11_isSort_1 rfl (lv_at hl 1 rfl) ?_
  obtain ⟨r1, S1, e1, h⟩ := obd2_ex h
  refine k_V (As := [.int x1]) (rest := []) (st1 := [.int r1]) C kx hK I hA (c_X11_isCall e1) ⟨Nat.le_of_ble_eq_true rfl, Nat.le_of_ble_eq_true rfl⟩ mv_X11_isCall lk_X11_148 0 11 (mw_0 (cI := cI) (ad := ad)) rfl rfl hl.1 rfl (Nat.le_of_ble_eq_true rfl) dX11_isSort_2 rfl (fun H locs I => ?_)
  refine lv_if_eq (tgt := 30) hx hb dX11_isSort_5 (by decide) (fun c2 => ?_) (fun c2 => ?_)
  · have h := ite_t c2 h
    refine lv_iconst (v := 0) hx hb dX11_isSort_30 (by decide) ?_
    exact rt_z (Or.inl rfl) hq h I dX11_isSort_31
  · have h := ite_n c2 h
    refine lv_iload_n hx hb dX11_isSort_8 rfl (lv_at hl 2 rfl) ?_
    refine lv_i2l hx hb dX11_isSort_9 rfl ?_
    refine lv_lconst (v := (0)) hx hb dX11_isSort_10 (by decide) ?_
    refine lv_aload_n hx hb dX11_isSort_11 rfl (lv_at hl 0 rfl) ?_
    refine gm_0_13 C hK I fl_X11_38 dX11_isSort_12 ?_
    refine lv_iload_n hx hb dX11_isSort_15 rfl (lv_at hl 1 rfl) ?_
    obtain ⟨hv3, h⟩ := chk_ex h
    refine am_7 C hK I hv3 dX11_isSort_16 ?_
    refine lv_iconst (v := 1) hx hb dX11_isSort_17 (by decide) ?_
    refine lv_isub hx hb dX11_isSort_18 ?_
    refine lv_i2l hx hb dX11_isSort_19 rfl ?_
    obtain ⟨r4, S4, e4, h⟩ := obd2_ex h
    refine k_S (As := [.long (x2.toInt64), .long (0), .long ((((S1.1 7 (x1).toNatClampNeg) - 1) : Int32).toInt64)]) (rest := []) (st1 := [.int r4]) C kx hK I hA (c_X11_in e4) ⟨Nat.le_of_ble_eq_true rfl, Nat.le_of_ble_eq_true rfl⟩ ms_X11_in lk_X11_55 rfl hl.1 rfl (Nat.le_of_ble_eq_true rfl) dX11_isSort_20 rfl (fun H locs I => ?_)
    refine lv_if_eq (tgt := 30) hx hb dX11_isSort_23 (by decide) (fun c5 => ?_) (fun c5 => ?_)
    · have h := ite_t c5 h
      refine lv_iconst (v := 0) hx hb dX11_isSort_30 (by decide) ?_
      exact rt_z (Or.inl rfl) hq h I dX11_isSort_31
    · have h := ite_n c5 h
      refine lv_iconst (v := 1) hx hb dX11_isSort_26 (by decide) ?_
      refine lv_goto (tgt := 31) hx hb dX11_isSort_27 (by decide) ?_
      exact rt_z (Or.inr rfl) hq h I dX11_isSort_31
theorem lk_X11_151 : Cond.methodLink RX11 151 yX11_isSort ∈ TT := tt_of 1303 (by decide +kernel) rfl
theorem mv_X11_isSort : MV yX11_isSort cX11_isSort 3 (some .boolean) 2 := ⟨tt_of 1306 (by decide +kernel) rfl, tt_of 1305 (by decide +kernel) rfl, tt_of 34 (by decide +kernel) rfl, tt_of 76 (by decide +kernel) rfl, ⟨by decide +kernel, by decide +kernel, by decide +kernel⟩⟩
theorem cn_X11_154 : Cond.constantLong RX11 154 ((3)) ∈ TT := tt_of 1307 (by decide +kernel) rfl
theorem dX11_sort_0 : decode cX11_sort 0 = .ok (.aload_n 0, 1) := by decide +kernel
theorem dX11_sort_1 : decode cX11_sort 1 = .ok (.iload_n 1, 1) := by decide +kernel
theorem dX11_sort_2 : decode cX11_sort 2 = .ok (.iload_n 2, 1) := by decide +kernel
theorem dX11_sort_3 : decode cX11_sort 3 = .ok (.invokevirtual 151, 3) := by decide +kernel
theorem dX11_sort_6 : decode cX11_sort 6 = .ok (.ifCond .ne 6, 3) := by decide +kernel
theorem dX11_sort_9 : decode cX11_sort 9 = .ok (.bipush (-2), 2) := by decide +kernel
theorem dX11_sort_11 : decode cX11_sort 11 = .ok (.ireturn, 1) := by decide +kernel
theorem dX11_sort_12 : decode cX11_sort 12 = .ok (.iload_n 3, 1) := by decide +kernel
theorem dX11_sort_13 : decode cX11_sort 13 = .ok (.i2l, 1) := by decide +kernel
theorem dX11_sort_14 : decode cX11_sort 14 = .ok (.lconst 0, 1) := by decide +kernel
theorem dX11_sort_15 : decode cX11_sort 15 = .ok (.ldc2_w 154, 3) := by decide +kernel
theorem dX11_sort_18 : decode cX11_sort 18 = .ok (.invokestatic 55, 3) := by decide +kernel
theorem dX11_sort_21 : decode cX11_sort 21 = .ok (.ifCond .eq 21, 3) := by decide +kernel
theorem dX11_sort_24 : decode cX11_sort 24 = .ok (.aload_n 0, 1) := by decide +kernel
theorem dX11_sort_25 : decode cX11_sort 25 = .ok (.getfield 41, 3) := by decide +kernel
theorem dX11_sort_28 : decode cX11_sort 28 = .ok (.bipush 16, 2) := by decide +kernel
theorem dX11_sort_30 : decode cX11_sort 30 = .ok (.iload_n 1, 1) := by decide +kernel
theorem dX11_sort_31 : decode cX11_sort 31 = .ok (.imul, 1) := by decide +kernel
theorem dX11_sort_32 : decode cX11_sort 32 = .ok (.iconst 4, 1) := by decide +kernel
theorem dX11_sort_33 : decode cX11_sort 33 = .ok (.iload_n 2, 1) := by decide +kernel
theorem dX11_sort_34 : decode cX11_sort 34 = .ok (.imul, 1) := by decide +kernel
theorem dX11_sort_35 : decode cX11_sort 35 = .ok (.iadd, 1) := by decide +kernel
theorem dX11_sort_36 : decode cX11_sort 36 = .ok (.iload_n 3, 1) := by decide +kernel
theorem dX11_sort_37 : decode cX11_sort 37 = .ok (.iadd, 1) := by decide +kernel
theorem dX11_sort_38 : decode cX11_sort 38 = .ok (.iaload, 1) := by decide +kernel
theorem dX11_sort_39 : decode cX11_sort 39 = .ok (.goto 5, 3) := by decide +kernel
theorem dX11_sort_42 : decode cX11_sort 42 = .ok (.bipush (-3), 2) := by decide +kernel
theorem dX11_sort_44 : decode cX11_sort 44 = .ok (.ireturn, 1) := by decide +kernel
def f_X11_sort (S : St) (x1 : Int32) (x2 : Int32) (x3 : Int32) : Option (Int32 × St) :=
  obd2 (f_X11_isSort S x1 x2) fun r1 S1 =>
  if r1 = 0 then (
    some ((-2), S1)
  ) else (
    obd2 (f_X11_in S1 (x3.toInt64) (0) (3)) fun r3 S3 =>
    if r3 = 0 then (
      some ((-3), S3)
    ) else (
      chk (ixo (((16 * x1) + (4 * x2)) + x3) 96) <|
      some ((S3.1 8 ((((16 * x1) + (4 * x2)) + x3)).toNatClampNeg), S3)
    )
  )
set_option maxHeartbeats 4000000 in
set_option maxRecDepth 100000 in
theorem c_X11_sort {l : Launch} {D : va_G} {cI cC cS : ClassId} {ad adK adV : Nat → Nat} {S S1 : St} {x1 : Int32} {x2 : Int32} {x3 : Int32} {r : Int32} (h : f_X11_sort S x1 x2 x3 = some (r, S1)) : Kt l D (mw cI ad) (KX D (xtys cI cC cS) adK adV) yX11_sort cX11_sort 4 (some .int) (3) (68) [.ref (ad 0), .int x1, .int x2, .int x3] S (some (.int r)) S1 := by
  refine k_ent (ins := .ireturn) (st := [.int r]) (by decide +kernel) (Nat.le_of_ble_eq_true rfl) ret_i ?_
  intro p e s m args below meth c A Q C hK I hA hq ls hl
  have C : CallFix p m c cX11_sort 4 s args TT RX11 := C
  have hx := C.1
  have hb := C.2.1
  have kx := kx_ok D (xtys cI cC cS) adK adV
  have hl : lv_has ls 4 [(0, .ref (ad 0)), (1, .int x1), (2, .int x2), (3, .int x3)] := hl
  unfold f_X11_sort at h
  refine lv_aload_n hx hb dX11_sort_0 rfl (lv_at hl 0 rfl) ?_
  refine lv_iload_n hx hb dX11_sort_1 rfl (lv_at hl 1 rfl) ?_
  refine lv_iload_n hx hb dX11_sort_2 rfl (lv_at hl 2 rfl) ?_
  obtain ⟨r1, S1, e1, h⟩ := obd2_ex h
  refine k_V (As := [.int x1, .int x2]) (rest := []) (st1 := [.int r1]) C kx hK I hA (c_X11_isSort e1) ⟨Nat.le_of_ble_eq_true rfl, Nat.le_of_ble_eq_true rfl⟩ mv_X11_isSort lk_X11_151 0 11 (mw_0 (cI := cI) (ad := ad)) rfl rfl hl.1 rfl (Nat.le_of_ble_eq_true rfl) dX11_sort_3 rfl (fun H locs I => ?_)
  refine lv_if_ne (tgt := 12) hx hb dX11_sort_6 (by decide) (fun c2 => ?_) (fun c2 => ?_)
  · have h := ite_n c2 h
    refine lv_iload_n hx hb dX11_sort_12 rfl (lv_at hl 3 rfl) ?_
    refine lv_i2l hx hb dX11_sort_13 rfl ?_
    refine lv_lconst (v := (0)) hx hb dX11_sort_14 (by decide) ?_
    refine lv_ldc2 (v := (3)) hx hb C.2.2.2.1 (C.2.2.2.2 _ cn_X11_154) dX11_sort_15 ?_
    obtain ⟨r3, S3, e3, h⟩ := obd2_ex h
    refine k_S (As := [.long (x3.toInt64), .long (0), .long (3)]) (rest := []) (st1 := [.int r3]) C kx hK I hA (c_X11_in e3) ⟨Nat.le_of_ble_eq_true rfl, Nat.le_of_ble_eq_true rfl⟩ ms_X11_in lk_X11_55 rfl hl.1 rfl (Nat.le_of_ble_eq_true rfl) dX11_sort_18 rfl (fun H locs I => ?_)
    refine lv_if_eq (tgt := 42) hx hb dX11_sort_21 (by decide) (fun c4 => ?_) (fun c4 => ?_)
    · have h := ite_t c4 h
      refine lv_bipush (v := (-3)) hx hb dX11_sort_42 (by decide) ?_
      exact rt_i hq h I dX11_sort_44
    · have h := ite_n c4 h
      refine lv_aload_n hx hb dX11_sort_24 rfl (lv_at hl 0 rfl) ?_
      refine gm_0_14 C hK I fl_X11_41 dX11_sort_25 ?_
      refine lv_bipush (v := 16) hx hb dX11_sort_28 (by decide) ?_
      refine lv_iload_n hx hb dX11_sort_30 rfl (lv_at hl 1 rfl) ?_
      refine lv_imul hx hb dX11_sort_31 ?_
      refine lv_iconst (v := 4) hx hb dX11_sort_32 (by decide) ?_
      refine lv_iload_n hx hb dX11_sort_33 rfl (lv_at hl 2 rfl) ?_
      refine lv_imul hx hb dX11_sort_34 ?_
      refine lv_iadd hx hb dX11_sort_35 ?_
      refine lv_iload_n hx hb dX11_sort_36 rfl (lv_at hl 3 rfl) ?_
      refine lv_iadd hx hb dX11_sort_37 ?_
      obtain ⟨hv5, h⟩ := chk_ex h
      refine am_8 C hK I hv5 dX11_sort_38 ?_
      refine lv_goto (tgt := 44) hx hb dX11_sort_39 (by decide) ?_
      exact rt_i hq h I dX11_sort_44
  · have h := ite_t c2 h
    refine lv_bipush (v := (-2)) hx hb dX11_sort_9 (by decide) ?_
    exact rt_i hq h I dX11_sort_11
