theorem dX11_totals_0 : decode cX11_totals 0 = .ok (.lconst 1, 1) := by decide +kernel
theorem dX11_totals_1 : decode cX11_totals 1 = .ok (.lstore_n 2, 1) := by decide +kernel
theorem dX11_totals_2 : decode cX11_totals 2 = .ok (.iconst 0, 1) := by decide +kernel
theorem dX11_totals_3 : decode cX11_totals 3 = .ok (.istore 4, 2) := by decide +kernel
theorem dX11_totals_5 : decode cX11_totals 5 = .ok (.iload 4, 2) := by decide +kernel
theorem dX11_totals_7 : decode cX11_totals 7 = .ok (.bipush 6, 2) := by decide +kernel
theorem dX11_totals_9 : decode cX11_totals 9 = .ok (.if_icmp .ge 32, 3) := by decide +kernel
theorem dX11_totals_12 : decode cX11_totals 12 = .ok (.lload_n 2, 1) := by decide +kernel
theorem dX11_totals_13 : decode cX11_totals 13 = .ok (.iload_n 1, 1) := by decide +kernel
theorem dX11_totals_14 : decode cX11_totals 14 = .ok (.iload 4, 2) := by decide +kernel
theorem dX11_totals_16 : decode cX11_totals 16 = .ok (.invokestatic 85, 3) := by decide +kernel
theorem dX11_totals_19 : decode cX11_totals 19 = .ok (.ifCond .eq 13, 3) := by decide +kernel
theorem dX11_totals_22 : decode cX11_totals 22 = .ok (.aload_n 0, 1) := by decide +kernel
theorem dX11_totals_23 : decode cX11_totals 23 = .ok (.iload 4, 2) := by decide +kernel
theorem dX11_totals_25 : decode cX11_totals 25 = .ok (.invokevirtual 182, 3) := by decide +kernel
theorem dX11_totals_28 : decode cX11_totals 28 = .ok (.i2l, 1) := by decide +kernel
theorem dX11_totals_29 : decode cX11_totals 29 = .ok (.goto 4, 3) := by decide +kernel
theorem dX11_totals_32 : decode cX11_totals 32 = .ok (.lconst 1, 1) := by decide +kernel
theorem dX11_totals_33 : decode cX11_totals 33 = .ok (.lmul, 1) := by decide +kernel
theorem dX11_totals_34 : decode cX11_totals 34 = .ok (.lstore_n 2, 1) := by decide +kernel
theorem dX11_totals_35 : decode cX11_totals 35 = .ok (.iinc 4 1, 3) := by decide +kernel
theorem dX11_totals_38 : decode cX11_totals 38 = .ok (.goto (-33), 3) := by decide +kernel
theorem dX11_totals_41 : decode cX11_totals 41 = .ok (.lload_n 2, 1) := by decide +kernel
theorem dX11_totals_42 : decode cX11_totals 42 = .ok (.lreturn, 1) := by decide +kernel
def f_X11_totals_33 (k_5 : St → Int32 → Int64 → Int32 → Option (Int64 × St)) (S : St) (x1 : Int32) (x4 : Int32) (t0 : Int64) (t1 : Int64) : Option (Int64 × St) :=
  bnd ((t0 * t1) : Int64) fun v1 =>
  bnd (x4 + 1 : Int32) fun v2 =>
  k_5 S x1 v1 v2
def f_X11_totals_5 (k_5 : St → Int32 → Int64 → Int32 → Option (Int64 × St)) (S : St) (x1 : Int32) (x2 : Int64) (x4 : Int32) : Option (Int64 × St) :=
  if 6 ≤ x4 then (
    some (x2, S)
  ) else (
    obd2 (f_X11_has S x1 x4) fun r4 S4 =>
    if r4 = 0 then (
      f_X11_totals_33 k_5 S4 x1 x4 x2 (1)
    ) else (
      obd2 (f_X11_totalOf S4 x4) fun r6 S6 =>
      f_X11_totals_33 k_5 S6 x1 x4 x2 (r6.toInt64)
    )
  )
def l_X11_totals_5 : Nat → St → Int32 → Int64 → Int32 → Option (Int64 × St)
  | 0, _, _, _, _ => none
  | fu + 1, S, x1, x2, x4 => f_X11_totals_5 (l_X11_totals_5 fu) S x1 x2 x4
def f_X11_totals (S : St) (x1 : Int32) : Option (Int64 × St) :=
  l_X11_totals_5 FU S x1 (1) 0
set_option maxHeartbeats 4000000 in
set_option maxRecDepth 100000 in
theorem c_X11_totals {l : Launch} {D : va_G} {cI cC cS : ClassId} {ad adK adV : Nat → Nat} {S S1 : St} {x1 : Int32} {r : Int64} (h : f_X11_totals S x1 = some (r, S1)) : Kt l D (mw cI ad) (KX D (xtys cI cC cS) adK adV) yX11_totals cX11_totals 5 (some .long) (1) (23) [.ref (ad 0), .int x1] S (some (.long r)) S1 := by
  refine k_ent (ins := .lreturn) (st := [.long r]) (by decide +kernel) (Nat.le_of_ble_eq_true rfl) ret_l ?_
  intro p e s m args below meth c A Q C hK I hA hq ls hl
  have C : CallFix p m c cX11_totals 5 s args TT RX11 := C
  have hx := C.1
  have hb := C.2.1
  have kx := kx_ok D (xtys cI cC cS) adK adV
  have hl : lv_has ls 5 [(0, .ref (ad 0)), (1, .int x1)] := hl
  have J_33 : ∀ (k_5 : St → Int32 → Int64 → Int32 → Option (Int64 × St)) (hk_5 : ∀ (S : St) (x1 : Int32) (x2 : Int64) (x4 : Int32), k_5 S x1 x2 x4 = some (r, S1) → ∀ (H : Heap) (locs : List Loc) (ls : Array Slot), Iv D (mw cI ad) S A s H locs → lv_has ls 5 [(0, .ref (ad 0)), (1, .int x1), (2, .long x2), (4, .int x4)] → W p l e ({ frames := 1, cells := 0, slots := 0, locals := 23 } : Room) s m args below meth c H locs 0 0 Q (F0 m 5 ls [])) (S : St) (x1 : Int32) (x4 : Int32) (t0 : Int64) (t1 : Int64), f_X11_totals_33 k_5 S x1 x4 t0 t1 = some (r, S1) → ∀ (H : Heap) (locs : List Loc) (ls : Array Slot), Iv D (mw cI ad) S A s H locs → lv_has ls 5 [(0, .ref (ad 0)), (1, .int x1), (4, .int x4)] → W p l e ({ frames := 1, cells := 0, slots := 0, locals := 23 } : Room) s m args below meth c H locs 0 0 Q (F0 m 33 ls [.long t1, .long t0]) := by
    intro k_5 hk_5 S x1 x4 t0 t1 h H locs ls I hl
    unfold f_X11_totals_33 at h
    refine lv_lmul hx hb dX11_totals_33 ?_
    refine lv_topl (fun v1 ev1 => ?_)
    have h := bnd_at ev1 h
    clear ev1
    refine lv_lstore_n (lv' := [(2, .long v1), (0, .ref (ad 0)), (1, .int x1), (4, .int x4)]) hx hb dX11_totals_34 rfl hl (by decide) rfl (fun ls hl => ?_)
    obtain ⟨v2, ev2⟩ : ∃ y : Int32, y = x4 + 1 := ⟨_, rfl⟩
    have h := bnd_at ev2 h
    refine lv_iinc (v := v2) (lv' := [(4, .int v2), (2, .long v1), (0, .ref (ad 0)), (1, .int x1)]) hx hb dX11_totals_35 hl (k := 3) rfl (by rw [ev2]; rfl) (by decide) rfl (fun ls hl => ?_)
    clear ev2
    refine lv_goto (tgt := 5) hx hb dX11_totals_38 (by decide) ?_
    exact hk_5 _ _ _ _ h _ _ _ I (lv_sub hl [2, 3, 1, 0] rfl)
  have B_5 : ∀ (k_5 : St → Int32 → Int64 → Int32 → Option (Int64 × St)) (hk_5 : ∀ (S : St) (x1 : Int32) (x2 : Int64) (x4 : Int32), k_5 S x1 x2 x4 = some (r, S1) → ∀ (H : Heap) (locs : List Loc) (ls : Array Slot), Iv D (mw cI ad) S A s H locs → lv_has ls 5 [(0, .ref (ad 0)), (1, .int x1), (2, .long x2), (4, .int x4)] → W p l e ({ frames := 1, cells := 0, slots := 0, locals := 23 } : Room) s m args below meth c H locs 0 0 Q (F0 m 5 ls [])) (S : St) (x1 : Int32) (x2 : Int64) (x4 : Int32), f_X11_totals_5 k_5 S x1 x2 x4 = some (r, S1) → ∀ (H : Heap) (locs : List Loc) (ls : Array Slot), Iv D (mw cI ad) S A s H locs → lv_has ls 5 [(0, .ref (ad 0)), (1, .int x1), (2, .long x2), (4, .int x4)] → W p l e ({ frames := 1, cells := 0, slots := 0, locals := 23 } : Room) s m args below meth c H locs 0 0 Q (F0 m 5 ls []) := by
    intro k_5 hk_5 S x1 x2 x4 h H locs ls I hl
    unfold f_X11_totals_5 at h
    refine lv_iload hx hb dX11_totals_5 (lv_at hl 3 rfl) ?_
    refine lv_bipush (v := 6) hx hb dX11_totals_7 (by decide) ?_
    refine lv_icmp_ge (tgt := 41) hx hb dX11_totals_9 (by decide) (fun c3 => ?_) (fun c3 => ?_)
    · have h := ite_t c3 h
      refine lv_lload_n hx hb dX11_totals_41 rfl (lv_at hl 2 rfl) ?_
      exact rt_l hq h I dX11_totals_42
    · have h := ite_n c3 h
      refine lv_lload_n hx hb dX11_totals_12 rfl (lv_at hl 2 rfl) ?_
      refine lv_iload_n hx hb dX11_totals_13 rfl (lv_at hl 1 rfl) ?_
      refine lv_iload hx hb dX11_totals_14 (lv_at hl 3 rfl) ?_
      obtain ⟨r4, S4, e4, h⟩ := obd2_ex h
      refine k_S (As := [.int x1, .int x4]) (rest := [.long x2]) (st1 := [.int r4, .long x2]) C kx hK I hA (c_X11_has e4) ⟨Nat.le_of_ble_eq_true rfl, Nat.le_of_ble_eq_true rfl⟩ ms_X11_has lk_X11_85 rfl hl.1 rfl (Nat.le_of_ble_eq_true rfl) dX11_totals_16 rfl (fun H locs I => ?_)
      refine lv_if_eq (tgt := 32) hx hb dX11_totals_19 (by decide) (fun c5 => ?_) (fun c5 => ?_)
      · have h := ite_t c5 h
        refine lv_lconst (v := (1)) hx hb dX11_totals_32 (by decide) ?_
        exact J_33 k_5 hk_5 _ _ _ _ _ h _ _ _ I (lv_sub hl [0, 1, 3] rfl)
      · have h := ite_n c5 h
        refine lv_aload_n hx hb dX11_totals_22 rfl (lv_at hl 0 rfl) ?_
        refine lv_iload hx hb dX11_totals_23 (lv_at hl 3 rfl) ?_
        obtain ⟨r6, S6, e6, h⟩ := obd2_ex h
        refine k_V (As := [.int x4]) (rest := [.long x2]) (st1 := [.int r6, .long x2]) C kx hK I hA (c_X11_totalOf e6) ⟨Nat.le_of_ble_eq_true rfl, Nat.le_of_ble_eq_true rfl⟩ mv_X11_totalOf lk_X11_182 0 11 (mw_0 (cI := cI) (ad := ad)) rfl rfl hl.1 rfl (Nat.le_of_ble_eq_true rfl) dX11_totals_25 rfl (fun H locs I => ?_)
        refine lv_i2l hx hb dX11_totals_28 rfl ?_
        refine lv_goto (tgt := 33) hx hb dX11_totals_29 (by decide) ?_
        exact J_33 k_5 hk_5 _ _ _ _ _ h _ _ _ I (lv_sub hl [0, 1, 3] rfl)
  have J_5 : ∀ (fu : Nat) (S : St) (x1 : Int32) (x2 : Int64) (x4 : Int32), l_X11_totals_5  fu S x1 x2 x4 = some (r, S1) → ∀ (H : Heap) (locs : List Loc) (ls : Array Slot), Iv D (mw cI ad) S A s H locs → lv_has ls 5 [(0, .ref (ad 0)), (1, .int x1), (2, .long x2), (4, .int x4)] → W p l e ({ frames := 1, cells := 0, slots := 0, locals := 23 } : Room) s m args below meth c H locs 0 0 Q (F0 m 5 ls []) := by
    intro fu
    induction fu with
    | zero => intro S x1 x2 x4 h; cases h
    | succ fu ih => intro S x1 x2 x4 h; exact B_5 (l_X11_totals_5 fu) ih S x1 x2 x4 h
  unfold f_X11_totals at h
  refine lv_lconst (v := (1)) hx hb dX11_totals_0 (by decide) ?_
  refine lv_lstore_n (lv' := [(2, .long (1)), (0, .ref (ad 0)), (1, .int x1)]) hx hb dX11_totals_1 rfl hl (by decide) rfl (fun ls hl => ?_)
  refine lv_iconst (v := 0) hx hb dX11_totals_2 (by decide) ?_
  refine lv_istore (lv' := [(4, .int 0), (2, .long (1)), (0, .ref (ad 0)), (1, .int x1)]) hx hb dX11_totals_3 hl (by decide) rfl (fun ls hl => ?_)
  exact J_5 _ _ _ _ _ h _ _ _ I (lv_sub hl [2, 3, 1, 0] rfl)
theorem dX11_arrival_0 : decode cX11_arrival 0 = .ok (.iload_n 2, 1) := by decide +kernel
theorem dX11_arrival_1 : decode cX11_arrival 1 = .ok (.aload_n 0, 1) := by decide +kernel
theorem dX11_arrival_2 : decode cX11_arrival 2 = .ok (.getfield 32, 3) := by decide +kernel
theorem dX11_arrival_5 : decode cX11_arrival 5 = .ok (.bipush 6, 2) := by decide +kernel
theorem dX11_arrival_7 : decode cX11_arrival 7 = .ok (.iload_n 1, 1) := by decide +kernel
theorem dX11_arrival_8 : decode cX11_arrival 8 = .ok (.imul, 1) := by decide +kernel
theorem dX11_arrival_9 : decode cX11_arrival 9 = .ok (.aload_n 0, 1) := by decide +kernel
theorem dX11_arrival_10 : decode cX11_arrival 10 = .ok (.getfield 35, 3) := by decide +kernel
theorem dX11_arrival_13 : decode cX11_arrival 13 = .ok (.bipush 6, 2) := by decide +kernel
theorem dX11_arrival_15 : decode cX11_arrival 15 = .ok (.iload_n 3, 1) := by decide +kernel
theorem dX11_arrival_16 : decode cX11_arrival 16 = .ok (.imul, 1) := by decide +kernel
theorem dX11_arrival_17 : decode cX11_arrival 17 = .ok (.iaload, 1) := by decide +kernel
theorem dX11_arrival_18 : decode cX11_arrival 18 = .ok (.iadd, 1) := by decide +kernel
theorem dX11_arrival_19 : decode cX11_arrival 19 = .ok (.iaload, 1) := by decide +kernel
theorem dX11_arrival_20 : decode cX11_arrival 20 = .ok (.iadd, 1) := by decide +kernel
theorem dX11_arrival_21 : decode cX11_arrival 21 = .ok (.istore 4, 2) := by decide +kernel
theorem dX11_arrival_23 : decode cX11_arrival 23 = .ok (.iload 4, 2) := by decide +kernel
theorem dX11_arrival_25 : decode cX11_arrival 25 = .ok (.aload_n 0, 1) := by decide +kernel
theorem dX11_arrival_26 : decode cX11_arrival 26 = .ok (.getfield 35, 3) := by decide +kernel
theorem dX11_arrival_29 : decode cX11_arrival 29 = .ok (.bipush 6, 2) := by decide +kernel
theorem dX11_arrival_31 : decode cX11_arrival 31 = .ok (.iload_n 3, 1) := by decide +kernel
theorem dX11_arrival_32 : decode cX11_arrival 32 = .ok (.imul, 1) := by decide +kernel
theorem dX11_arrival_33 : decode cX11_arrival 33 = .ok (.iconst 1, 1) := by decide +kernel
theorem dX11_arrival_34 : decode cX11_arrival 34 = .ok (.iadd, 1) := by decide +kernel
theorem dX11_arrival_35 : decode cX11_arrival 35 = .ok (.iaload, 1) := by decide +kernel
theorem dX11_arrival_36 : decode cX11_arrival 36 = .ok (.if_icmp .ge 17, 3) := by decide +kernel
theorem dX11_arrival_39 : decode cX11_arrival 39 = .ok (.aload_n 0, 1) := by decide +kernel
theorem dX11_arrival_40 : decode cX11_arrival 40 = .ok (.getfield 35, 3) := by decide +kernel
theorem dX11_arrival_43 : decode cX11_arrival 43 = .ok (.bipush 6, 2) := by decide +kernel
theorem dX11_arrival_45 : decode cX11_arrival 45 = .ok (.iload_n 3, 1) := by decide +kernel
theorem dX11_arrival_46 : decode cX11_arrival 46 = .ok (.imul, 1) := by decide +kernel
theorem dX11_arrival_47 : decode cX11_arrival 47 = .ok (.iconst 1, 1) := by decide +kernel
theorem dX11_arrival_48 : decode cX11_arrival 48 = .ok (.iadd, 1) := by decide +kernel
theorem dX11_arrival_49 : decode cX11_arrival 49 = .ok (.iaload, 1) := by decide +kernel
theorem dX11_arrival_50 : decode cX11_arrival 50 = .ok (.goto 5, 3) := by decide +kernel
theorem dX11_arrival_53 : decode cX11_arrival 53 = .ok (.iload 4, 2) := by decide +kernel
theorem dX11_arrival_55 : decode cX11_arrival 55 = .ok (.ireturn, 1) := by decide +kernel
def f_X11_arrival (S : St) (x1 : Int32) (x2 : Int32) (x3 : Int32) : Option (Int32 × St) :=
  chk (ixo (6 * x3) 36) <|
  chk (ixo ((6 * x1) + (S.1 6 ((6 * x3)).toNatClampNeg)) 36) <|
  bnd ((x2 + (S.1 5 (((6 * x1) + (S.1 6 ((6 * x3)).toNatClampNeg))).toNatClampNeg)) : Int32) fun v3 =>
  chk (ixo ((6 * x3) + 1) 36) <|
  if (S.1 6 (((6 * x3) + 1)).toNatClampNeg) ≤ v3 then (
    some (v3, S)
  ) else (
    chk (ixo ((6 * x3) + 1) 36) <|
    some ((S.1 6 (((6 * x3) + 1)).toNatClampNeg), S)
  )
set_option maxHeartbeats 4000000 in
set_option maxRecDepth 100000 in
theorem c_X11_arrival {l : Launch} {D : va_G} {cI cC cS : ClassId} {ad adK adV : Nat → Nat} {S S1 : St} {x1 : Int32} {x2 : Int32} {x3 : Int32} {r : Int32} (h : f_X11_arrival S x1 x2 x3 = some (r, S1)) : Kt l D (mw cI ad) (KX D (xtys cI cC cS) adK adV) yX11_arrival cX11_arrival 5 (some .int) (0) (0) [.ref (ad 0), .int x1, .int x2, .int x3] S (some (.int r)) S1 := by
  refine k_ent (ins := .ireturn) (st := [.int r]) (by decide +kernel) (Nat.le_of_ble_eq_true rfl) ret_i ?_
  intro p e s m args below meth c A Q C hK I hA hq ls hl
  have C : CallFix p m c cX11_arrival 5 s args TT RX11 := C
  have hx := C.1
  have hb := C.2.1
  have kx := kx_ok D (xtys cI cC cS) adK adV
  have hl : lv_has ls 5 [(0, .ref (ad 0)), (1, .int x1), (2, .int x2), (3, .int x3)] := hl
  unfold f_X11_arrival at h
  refine lv_iload_n hx hb dX11_arrival_0 rfl (lv_at hl 2 rfl) ?_
  refine lv_aload_n hx hb dX11_arrival_1 rfl (lv_at hl 0 rfl) ?_
  refine gm_0_10 C hK I fl_X11_32 dX11_arrival_2 ?_
  refine lv_bipush (v := 6) hx hb dX11_arrival_5 (by decide) ?_
  refine lv_iload_n hx hb dX11_arrival_7 rfl (lv_at hl 1 rfl) ?_
  refine lv_imul hx hb dX11_arrival_8 ?_
  refine lv_aload_n hx hb dX11_arrival_9 rfl (lv_at hl 0 rfl) ?_
  refine gm_0_12 C hK I fl_X11_35 dX11_arrival_10 ?_
  refine lv_bipush (v := 6) hx hb dX11_arrival_13 (by decide) ?_
  refine lv_iload_n hx hb dX11_arrival_15 rfl (lv_at hl 3 rfl) ?_
  refine lv_imul hx hb dX11_arrival_16 ?_
  obtain ⟨hv1, h⟩ := chk_ex h
  refine am_6 C hK I hv1 dX11_arrival_17 ?_
  refine lv_iadd hx hb dX11_arrival_18 ?_
  obtain ⟨hv2, h⟩ := chk_ex h
  refine am_5 C hK I hv2 dX11_arrival_19 ?_
  refine lv_iadd hx hb dX11_arrival_20 ?_
  refine lv_topi (fun v3 ev3 => ?_)
  have h := bnd_at ev3 h
  clear ev3
  refine lv_istore (lv' := [(4, .int v3), (0, .ref (ad 0)), (1, .int x1), (2, .int x2), (3, .int x3)]) hx hb dX11_arrival_21 hl (by decide) rfl (fun ls hl => ?_)
  refine lv_iload hx hb dX11_arrival_23 (lv_at hl 0 rfl) ?_
  refine lv_aload_n hx hb dX11_arrival_25 rfl (lv_at hl 1 rfl) ?_
  refine gm_0_12 C hK I fl_X11_35 dX11_arrival_26 ?_
  refine lv_bipush (v := 6) hx hb dX11_arrival_29 (by decide) ?_
  refine lv_iload_n hx hb dX11_arrival_31 rfl (lv_at hl 4 rfl) ?_
  refine lv_imul hx hb dX11_arrival_32 ?_
  refine lv_iconst (v := 1) hx hb dX11_arrival_33 (by decide) ?_
  refine lv_iadd hx hb dX11_arrival_34 ?_
  obtain ⟨hv4, h⟩ := chk_ex h
  refine am_6 C hK I hv4 dX11_arrival_35 ?_
  refine lv_icmp_ge (tgt := 53) hx hb dX11_arrival_36 (by decide) (fun c5 => ?_) (fun c5 => ?_)
  · have h := ite_t c5 h
    refine lv_iload hx hb dX11_arrival_53 (lv_at hl 0 rfl) ?_
    exact rt_i hq h I dX11_arrival_55
  · have h := ite_n c5 h
    refine lv_aload_n hx hb dX11_arrival_39 rfl (lv_at hl 1 rfl) ?_
    refine gm_0_12 C hK I fl_X11_35 dX11_arrival_40 ?_
    refine lv_bipush (v := 6) hx hb dX11_arrival_43 (by decide) ?_
    refine lv_iload_n hx hb dX11_arrival_45 rfl (lv_at hl 4 rfl) ?_
    refine lv_imul hx hb dX11_arrival_46 ?_
    refine lv_iconst (v := 1) hx hb dX11_arrival_47 (by decide) ?_
    refine lv_iadd hx hb dX11_arrival_48 ?_
    obtain ⟨hv6, h⟩ := chk_ex h
    refine am_6 C hK I hv6 dX11_arrival_49 ?_
    refine lv_goto (tgt := 55) hx hb dX11_arrival_50 (by decide) ?_
    exact rt_i hq h I dX11_arrival_55
theorem dX11_isLate_0 : decode cX11_isLate 0 = .ok (.iload_n 1, 1) := by decide +kernel
theorem dX11_isLate_1 : decode cX11_isLate 1 = .ok (.aload_n 0, 1) := by decide +kernel
theorem dX11_isLate_2 : decode cX11_isLate 2 = .ok (.getfield 35, 3) := by decide +kernel
theorem dX11_isLate_5 : decode cX11_isLate 5 = .ok (.bipush 6, 2) := by decide +kernel
theorem dX11_isLate_7 : decode cX11_isLate 7 = .ok (.iload_n 2, 1) := by decide +kernel
theorem dX11_isLate_8 : decode cX11_isLate 8 = .ok (.imul, 1) := by decide +kernel
theorem dX11_isLate_9 : decode cX11_isLate 9 = .ok (.iconst 2, 1) := by decide +kernel
theorem dX11_isLate_10 : decode cX11_isLate 10 = .ok (.iadd, 1) := by decide +kernel
theorem dX11_isLate_11 : decode cX11_isLate 11 = .ok (.iaload, 1) := by decide +kernel
theorem dX11_isLate_12 : decode cX11_isLate 12 = .ok (.if_icmp .le 7, 3) := by decide +kernel
theorem dX11_isLate_15 : decode cX11_isLate 15 = .ok (.iconst 1, 1) := by decide +kernel
theorem dX11_isLate_16 : decode cX11_isLate 16 = .ok (.goto 4, 3) := by decide +kernel
theorem dX11_isLate_19 : decode cX11_isLate 19 = .ok (.iconst 0, 1) := by decide +kernel
theorem dX11_isLate_20 : decode cX11_isLate 20 = .ok (.ireturn, 1) := by decide +kernel
def f_X11_isLate (S : St) (x1 : Int32) (x2 : Int32) : Option (Int32 × St) :=
  chk (ixo ((6 * x2) + 2) 36) <|
  if x1 ≤ (S.1 6 (((6 * x2) + 2)).toNatClampNeg) then (
    some (0, S)
  ) else (
    some (1, S)
  )
set_option maxHeartbeats 4000000 in
set_option maxRecDepth 100000 in
theorem c_X11_isLate {l : Launch} {D : va_G} {cI cC cS : ClassId} {ad adK adV : Nat → Nat} {S S1 : St} {x1 : Int32} {x2 : Int32} {r : Int32} (h : f_X11_isLate S x1 x2 = some (r, S1)) : Kt l D (mw cI ad) (KX D (xtys cI cC cS) adK adV) yX11_isLate cX11_isLate 3 (some .boolean) (0) (0) [.ref (ad 0), .int x1, .int x2] S (some (.int r)) S1 := by
  refine k_entz (by decide +kernel) (Nat.le_of_ble_eq_true rfl) ?_
  intro p e s m args below meth c A Q C hK I hA hq ls hl
  have C : CallFix p m c cX11_isLate 3 s args TT RX11 := C
  have hx := C.1
  have hb := C.2.1
  have kx := kx_ok D (xtys cI cC cS) adK adV
  have hl : lv_has ls 3 [(0, .ref (ad 0)), (1, .int x1), (2, .int x2)] := hl
  unfold f_X11_isLate at h
  refine lv_iload_n hx hb dX11_isLate_0 rfl (lv_at hl 1 rfl) ?_
  refine lv_aload_n hx hb dX11_isLate_1 rfl (lv_at hl 0 rfl) ?_
  refine gm_0_12 C hK I fl_X11_35 dX11_isLate_2 ?_
  refine lv_bipush (v := 6) hx hb dX11_isLate_5 (by decide) ?_
  refine lv_iload_n hx hb dX11_isLate_7 rfl (lv_at hl 2 rfl) ?_
  refine lv_imul hx hb dX11_isLate_8 ?_
  refine lv_iconst (v := 2) hx hb dX11_isLate_9 (by decide) ?_
  refine lv_iadd hx hb dX11_isLate_10 ?_
  obtain ⟨hv1, h⟩ := chk_ex h
  refine am_6 C hK I hv1 dX11_isLate_11 ?_
  refine lv_icmp_le (tgt := 19) hx hb dX11_isLate_12 (by decide) (fun c2 => ?_) (fun c2 => ?_)
  · have h := ite_t c2 h
    refine lv_iconst (v := 0) hx hb dX11_isLate_19 (by decide) ?_
    exact rt_z (Or.inl rfl) hq h I dX11_isLate_20
  · have h := ite_n c2 h
    refine lv_iconst (v := 1) hx hb dX11_isLate_15 (by decide) ?_
    refine lv_goto (tgt := 20) hx hb dX11_isLate_16 (by decide) ?_
    exact rt_z (Or.inr rfl) hq h I dX11_isLate_20
theorem dX11_got_0 : decode cX11_got 0 = .ok (.iload_n 2, 1) := by decide +kernel
theorem dX11_got_1 : decode cX11_got 1 = .ok (.iconst (-1), 1) := by decide +kernel
theorem dX11_got_2 : decode cX11_got 2 = .ok (.if_icmp .ne 19, 3) := by decide +kernel
theorem dX11_got_5 : decode cX11_got 5 = .ok (.aload_n 0, 1) := by decide +kernel
theorem dX11_got_6 : decode cX11_got 6 = .ok (.getfield 35, 3) := by decide +kernel
theorem dX11_got_9 : decode cX11_got 9 = .ok (.bipush 6, 2) := by decide +kernel
theorem dX11_got_11 : decode cX11_got 11 = .ok (.iload_n 1, 1) := by decide +kernel
theorem dX11_got_12 : decode cX11_got 12 = .ok (.imul, 1) := by decide +kernel
theorem dX11_got_13 : decode cX11_got 13 = .ok (.iconst 4, 1) := by decide +kernel
theorem dX11_got_14 : decode cX11_got 14 = .ok (.iadd, 1) := by decide +kernel
theorem dX11_got_15 : decode cX11_got 15 = .ok (.iaload, 1) := by decide +kernel
theorem dX11_got_16 : decode cX11_got 16 = .ok (.ineg, 1) := by decide +kernel
theorem dX11_got_17 : decode cX11_got 17 = .ok (.i2l, 1) := by decide +kernel
theorem dX11_got_18 : decode cX11_got 18 = .ok (.goto 15, 3) := by decide +kernel
theorem dX11_got_21 : decode cX11_got 21 = .ok (.aload_n 0, 1) := by decide +kernel
theorem dX11_got_22 : decode cX11_got 22 = .ok (.getfield 35, 3) := by decide +kernel
theorem dX11_got_25 : decode cX11_got 25 = .ok (.bipush 6, 2) := by decide +kernel
theorem dX11_got_27 : decode cX11_got 27 = .ok (.iload_n 1, 1) := by decide +kernel
theorem dX11_got_28 : decode cX11_got 28 = .ok (.imul, 1) := by decide +kernel
theorem dX11_got_29 : decode cX11_got 29 = .ok (.iconst 3, 1) := by decide +kernel
theorem dX11_got_30 : decode cX11_got 30 = .ok (.iadd, 1) := by decide +kernel
theorem dX11_got_31 : decode cX11_got 31 = .ok (.iaload, 1) := by decide +kernel
theorem dX11_got_32 : decode cX11_got 32 = .ok (.i2l, 1) := by decide +kernel
theorem dX11_got_33 : decode cX11_got 33 = .ok (.lreturn, 1) := by decide +kernel
def f_X11_got (S : St) (x1 : Int32) (x2 : Int32) : Option (Int64 × St) :=
  if x2 = (-1) then (
    chk (ixo ((6 * x1) + 4) 36) <|
    some ((((-(S.1 6 (((6 * x1) + 4)).toNatClampNeg)) : Int32).toInt64), S)
  ) else (
    chk (ixo ((6 * x1) + 3) 36) <|
    some ((((S.1 6 (((6 * x1) + 3)).toNatClampNeg) : Int32).toInt64), S)
  )
set_option maxHeartbeats 4000000 in
set_option maxRecDepth 100000 in
theorem c_X11_got {l : Launch} {D : va_G} {cI cC cS : ClassId} {ad adK adV : Nat → Nat} {S S1 : St} {x1 : Int32} {x2 : Int32} {r : Int64} (h : f_X11_got S x1 x2 = some (r, S1)) : Kt l D (mw cI ad) (KX D (xtys cI cC cS) adK adV) yX11_got cX11_got 3 (some .long) (0) (0) [.ref (ad 0), .int x1, .int x2] S (some (.long r)) S1 := by
  refine k_ent (ins := .lreturn) (st := [.long r]) (by decide +kernel) (Nat.le_of_ble_eq_true rfl) ret_l ?_
  intro p e s m args below meth c A Q C hK I hA hq ls hl
  have C : CallFix p m c cX11_got 3 s args TT RX11 := C
  have hx := C.1
  have hb := C.2.1
  have kx := kx_ok D (xtys cI cC cS) adK adV
  have hl : lv_has ls 3 [(0, .ref (ad 0)), (1, .int x1), (2, .int x2)] := hl
  unfold f_X11_got at h
  refine lv_iload_n hx hb dX11_got_0 rfl (lv_at hl 2 rfl) ?_
  refine lv_iconst (v := (-1)) hx hb dX11_got_1 (by decide) ?_
  refine lv_icmp_ne (tgt := 21) hx hb dX11_got_2 (by decide) (fun c1 => ?_) (fun c1 => ?_)
  · have h := ite_n c1 h
    refine lv_aload_n hx hb dX11_got_21 rfl (lv_at hl 0 rfl) ?_
    refine gm_0_12 C hK I fl_X11_35 dX11_got_22 ?_
    refine lv_bipush (v := 6) hx hb dX11_got_25 (by decide) ?_
    refine lv_iload_n hx hb dX11_got_27 rfl (lv_at hl 1 rfl) ?_
    refine lv_imul hx hb dX11_got_28 ?_
    refine lv_iconst (v := 3) hx hb dX11_got_29 (by decide) ?_
    refine lv_iadd hx hb dX11_got_30 ?_
    obtain ⟨hv2, h⟩ := chk_ex h
    refine am_6 C hK I hv2 dX11_got_31 ?_
    refine lv_i2l hx hb dX11_got_32 rfl ?_
    exact rt_l hq h I dX11_got_33
  · have h := ite_t c1 h
    refine lv_aload_n hx hb dX11_got_5 rfl (lv_at hl 0 rfl) ?_
    refine gm_0_12 C hK I fl_X11_35 dX11_got_6 ?_
    refine lv_bipush (v := 6) hx hb dX11_got_9 (by decide) ?_
    refine lv_iload_n hx hb dX11_got_11 rfl (lv_at hl 1 rfl) ?_
    refine lv_imul hx hb dX11_got_12 ?_
    refine lv_iconst (v := 4) hx hb dX11_got_13 (by decide) ?_
    refine lv_iadd hx hb dX11_got_14 ?_
    obtain ⟨hv3, h⟩ := chk_ex h
    refine am_6 C hK I hv3 dX11_got_15 ?_
    refine lv_ineg hx hb dX11_got_16 ?_
    refine lv_i2l hx hb dX11_got_17 rfl ?_
    refine lv_goto (tgt := 33) hx hb dX11_got_18 (by decide) ?_
    exact rt_l hq h I dX11_got_33
theorem dX11_then_0 : decode cX11_then 0 = .ok (.iload_n 1, 1) := by decide +kernel
theorem dX11_then_1 : decode cX11_then 1 = .ok (.iload 4, 2) := by decide +kernel
theorem dX11_then_3 : decode cX11_then 3 = .ok (.iconst (-1), 1) := by decide +kernel
theorem dX11_then_4 : decode cX11_then 4 = .ok (.if_icmp .ne 17, 3) := by decide +kernel
theorem dX11_then_7 : decode cX11_then 7 = .ok (.aload_n 0, 1) := by decide +kernel
theorem dX11_then_8 : decode cX11_then 8 = .ok (.getfield 35, 3) := by decide +kernel
theorem dX11_then_11 : decode cX11_then 11 = .ok (.bipush 6, 2) := by decide +kernel
theorem dX11_then_13 : decode cX11_then 13 = .ok (.iload_n 2, 1) := by decide +kernel
theorem dX11_then_14 : decode cX11_then 14 = .ok (.imul, 1) := by decide +kernel
theorem dX11_then_15 : decode cX11_then 15 = .ok (.iconst 5, 1) := by decide +kernel
theorem dX11_then_16 : decode cX11_then 16 = .ok (.iadd, 1) := by decide +kernel
theorem dX11_then_17 : decode cX11_then 17 = .ok (.iaload, 1) := by decide +kernel
theorem dX11_then_18 : decode cX11_then 18 = .ok (.goto 18, 3) := by decide +kernel
theorem dX11_then_21 : decode cX11_then 21 = .ok (.aload_n 0, 1) := by decide +kernel
theorem dX11_then_22 : decode cX11_then 22 = .ok (.getfield 41, 3) := by decide +kernel
theorem dX11_then_25 : decode cX11_then 25 = .ok (.bipush 16, 2) := by decide +kernel
theorem dX11_then_27 : decode cX11_then 27 = .ok (.iload_n 2, 1) := by decide +kernel
theorem dX11_then_28 : decode cX11_then 28 = .ok (.imul, 1) := by decide +kernel
theorem dX11_then_29 : decode cX11_then 29 = .ok (.iconst 4, 1) := by decide +kernel
theorem dX11_then_30 : decode cX11_then 30 = .ok (.iload_n 3, 1) := by decide +kernel
theorem dX11_then_31 : decode cX11_then 31 = .ok (.imul, 1) := by decide +kernel
theorem dX11_then_32 : decode cX11_then 32 = .ok (.iadd, 1) := by decide +kernel
theorem dX11_then_33 : decode cX11_then 33 = .ok (.iconst 1, 1) := by decide +kernel
theorem dX11_then_34 : decode cX11_then 34 = .ok (.iadd, 1) := by decide +kernel
theorem dX11_then_35 : decode cX11_then 35 = .ok (.iaload, 1) := by decide +kernel
theorem dX11_then_36 : decode cX11_then 36 = .ok (.iadd, 1) := by decide +kernel
theorem dX11_then_37 : decode cX11_then 37 = .ok (.ireturn, 1) := by decide +kernel
def f_X11_then_36 (S : St) (t0 : Int32) (t1 : Int32) : Option (Int32 × St) :=
  some ((t0 + t1), S)
def f_X11_then (S : St) (x1 : Int32) (x2 : Int32) (x3 : Int32) (x4 : Int32) : Option (Int32 × St) :=
  if x4 = (-1) then (
    chk (ixo ((6 * x2) + 5) 36) <|
    f_X11_then_36 S x1 (S.1 6 (((6 * x2) + 5)).toNatClampNeg)
  ) else (
    chk (ixo (((16 * x2) + (4 * x3)) + 1) 96) <|
    f_X11_then_36 S x1 (S.1 8 ((((16 * x2) + (4 * x3)) + 1)).toNatClampNeg)
  )
set_option maxHeartbeats 4000000 in
set_option maxRecDepth 100000 in
theorem c_X11_then {l : Launch} {D : va_G} {cI cC cS : ClassId} {ad adK adV : Nat → Nat} {S S1 : St} {x1 : Int32} {x2 : Int32} {x3 : Int32} {x4 : Int32} {r : Int32} (h : f_X11_then S x1 x2 x3 x4 = some (r, S1)) : Kt l D (mw cI ad) (KX D (xtys cI cC cS) adK adV) yX11_then cX11_then 5 (some .int) (0) (0) [.ref (ad 0), .int x1, .int x2, .int x3, .int x4] S (some (.int r)) S1 := by
  refine k_ent (ins := .ireturn) (st := [.int r]) (by decide +kernel) (Nat.le_of_ble_eq_true rfl) ret_i ?_
  intro p e s m args below meth c A Q C hK I hA hq ls hl
  have C : CallFix p m c cX11_then 5 s args TT RX11 := C
  have hx := C.1
  have hb := C.2.1
  have kx := kx_ok D (xtys cI cC cS) adK adV
  have hl : lv_has ls 5 [(0, .ref (ad 0)), (1, .int x1), (2, .int x2), (3, .int x3), (4, .int x4)] := hl
  have J_36 : ∀ (S : St) (t0 : Int32) (t1 : Int32), f_X11_then_36  S t0 t1 = some (r, S1) → ∀ (H : Heap) (locs : List Loc) (ls : Array Slot), Iv D (mw cI ad) S A s H locs → lv_has ls 5 [] → W p l e ({ frames := 0, cells := 0, slots := 0, locals := 0 } : Room) s m args below meth c H locs 0 0 Q (F0 m 36 ls [.int t1, .int t0]) := by
    intro  S t0 t1 h H locs ls I hl
    unfold f_X11_then_36 at h
    refine lv_iadd hx hb dX11_then_36 ?_
    exact rt_i hq h I dX11_then_37
  unfold f_X11_then at h
  refine lv_iload_n hx hb dX11_then_0 rfl (lv_at hl 1 rfl) ?_
  refine lv_iload hx hb dX11_then_1 (lv_at hl 4 rfl) ?_
  refine lv_iconst (v := (-1)) hx hb dX11_then_3 (by decide) ?_
  refine lv_icmp_ne (tgt := 21) hx hb dX11_then_4 (by decide) (fun c1 => ?_) (fun c1 => ?_)
  · have h := ite_n c1 h
    refine lv_aload_n hx hb dX11_then_21 rfl (lv_at hl 0 rfl) ?_
    refine gm_0_14 C hK I fl_X11_41 dX11_then_22 ?_
    refine lv_bipush (v := 16) hx hb dX11_then_25 (by decide) ?_
    refine lv_iload_n hx hb dX11_then_27 rfl (lv_at hl 2 rfl) ?_
    refine lv_imul hx hb dX11_then_28 ?_
    refine lv_iconst (v := 4) hx hb dX11_then_29 (by decide) ?_
    refine lv_iload_n hx hb dX11_then_30 rfl (lv_at hl 3 rfl) ?_
    refine lv_imul hx hb dX11_then_31 ?_
    refine lv_iadd hx hb dX11_then_32 ?_
    refine lv_iconst (v := 1) hx hb dX11_then_33 (by decide) ?_
    refine lv_iadd hx hb dX11_then_34 ?_
    obtain ⟨hv2, h⟩ := chk_ex h
    refine am_8 C hK I hv2 dX11_then_35 ?_
    exact J_36 _ _ _ h _ _ _ I (lv_sub hl [] rfl)
  · have h := ite_t c1 h
    refine lv_aload_n hx hb dX11_then_7 rfl (lv_at hl 0 rfl) ?_
    refine gm_0_12 C hK I fl_X11_35 dX11_then_8 ?_
    refine lv_bipush (v := 6) hx hb dX11_then_11 (by decide) ?_
    refine lv_iload_n hx hb dX11_then_13 rfl (lv_at hl 2 rfl) ?_
    refine lv_imul hx hb dX11_then_14 ?_
    refine lv_iconst (v := 5) hx hb dX11_then_15 (by decide) ?_
    refine lv_iadd hx hb dX11_then_16 ?_
    obtain ⟨hv3, h⟩ := chk_ex h
    refine am_6 C hK I hv3 dX11_then_17 ?_
    refine lv_goto (tgt := 36) hx hb dX11_then_18 (by decide) ?_
    exact J_36 _ _ _ h _ _ _ I (lv_sub hl [] rfl)
theorem lk_X11_266 : Cond.methodLink RX11 266 yX11_isLate ∈ TT := tt_of 1457 (by decide +kernel) rfl
theorem mv_X11_isLate : MV yX11_isLate cX11_isLate 3 (some .boolean) 2 := ⟨tt_of 1460 (by decide +kernel) rfl, tt_of 1459 (by decide +kernel) rfl, tt_of 54 (by decide +kernel) rfl, tt_of 76 (by decide +kernel) rfl, ⟨by decide +kernel, by decide +kernel, by decide +kernel⟩⟩
theorem lk_X11_269 : Cond.methodLink RX11 269 yX11_got ∈ TT := tt_of 1461 (by decide +kernel) rfl
theorem mv_X11_got : MV yX11_got cX11_got 3 (some .long) 2 := ⟨tt_of 1464 (by decide +kernel) rfl, tt_of 1463 (by decide +kernel) rfl, tt_of 55 (by decide +kernel) rfl, tt_of 76 (by decide +kernel) rfl, ⟨by decide +kernel, by decide +kernel, by decide +kernel⟩⟩
theorem lk_X11_263 : Cond.methodLink RX11 263 yX11_arrival ∈ TT := tt_of 1449 (by decide +kernel) rfl
theorem mv_X11_arrival : MV yX11_arrival cX11_arrival 5 (some .int) 3 := ⟨tt_of 1452 (by decide +kernel) rfl, tt_of 1451 (by decide +kernel) rfl, tt_of 52 (by decide +kernel) rfl, tt_of 76 (by decide +kernel) rfl, ⟨by decide +kernel, by decide +kernel, by decide +kernel⟩⟩
theorem dX11_one_0 : decode cX11_one 0 = .ok (.lconst 0, 1) := by decide +kernel
theorem dX11_one_1 : decode cX11_one 1 = .ok (.lstore 5, 2) := by decide +kernel
theorem dX11_one_3 : decode cX11_one 3 = .ok (.iconst 0, 1) := by decide +kernel
theorem dX11_one_4 : decode cX11_one 4 = .ok (.istore 7, 2) := by decide +kernel
theorem dX11_one_6 : decode cX11_one 6 = .ok (.iload 7, 2) := by decide +kernel
theorem dX11_one_8 : decode cX11_one 8 = .ok (.bipush 6, 2) := by decide +kernel
theorem dX11_one_10 : decode cX11_one 10 = .ok (.if_icmp .ge 147, 3) := by decide +kernel
theorem dX11_one_13 : decode cX11_one 13 = .ok (.iload 4, 2) := by decide +kernel
theorem dX11_one_15 : decode cX11_one 15 = .ok (.iload 7, 2) := by decide +kernel
theorem dX11_one_17 : decode cX11_one 17 = .ok (.invokestatic 85, 3) := by decide +kernel
theorem dX11_one_20 : decode cX11_one 20 = .ok (.ifCond .eq 131, 3) := by decide +kernel
theorem dX11_one_23 : decode cX11_one 23 = .ok (.aload_n 0, 1) := by decide +kernel
theorem dX11_one_24 : decode cX11_one 24 = .ok (.iload_n 1, 1) := by decide +kernel
theorem dX11_one_25 : decode cX11_one 25 = .ok (.iload_n 2, 1) := by decide +kernel
theorem dX11_one_26 : decode cX11_one 26 = .ok (.iload 7, 2) := by decide +kernel
theorem dX11_one_28 : decode cX11_one 28 = .ok (.invokevirtual 263, 3) := by decide +kernel
theorem dX11_one_31 : decode cX11_one 31 = .ok (.istore 8, 2) := by decide +kernel
theorem dX11_one_33 : decode cX11_one 33 = .ok (.aload_n 0, 1) := by decide +kernel
theorem dX11_one_34 : decode cX11_one 34 = .ok (.iload 8, 2) := by decide +kernel
theorem dX11_one_36 : decode cX11_one 36 = .ok (.iload 7, 2) := by decide +kernel
theorem dX11_one_38 : decode cX11_one 38 = .ok (.invokevirtual 266, 3) := by decide +kernel
theorem dX11_one_41 : decode cX11_one 41 = .ok (.ifCond .eq 21, 3) := by decide +kernel
theorem dX11_one_44 : decode cX11_one 44 = .ok (.aload_n 0, 1) := by decide +kernel
theorem dX11_one_45 : decode cX11_one 45 = .ok (.iload 7, 2) := by decide +kernel
theorem dX11_one_47 : decode cX11_one 47 = .ok (.invokevirtual 182, 3) := by decide +kernel
theorem dX11_one_50 : decode cX11_one 50 = .ok (.i2l, 1) := by decide +kernel
theorem dX11_one_51 : decode cX11_one 51 = .ok (.aload_n 0, 1) := by decide +kernel
theorem dX11_one_52 : decode cX11_one 52 = .ok (.iload 7, 2) := by decide +kernel
theorem dX11_one_54 : decode cX11_one 54 = .ok (.iconst (-1), 1) := by decide +kernel
theorem dX11_one_55 : decode cX11_one 55 = .ok (.invokevirtual 269, 3) := by decide +kernel
theorem dX11_one_58 : decode cX11_one 58 = .ok (.lmul, 1) := by decide +kernel
theorem dX11_one_59 : decode cX11_one 59 = .ok (.goto 4, 3) := by decide +kernel
theorem dX11_one_62 : decode cX11_one 62 = .ok (.lconst 0, 1) := by decide +kernel
theorem dX11_one_63 : decode cX11_one 63 = .ok (.lstore 9, 2) := by decide +kernel
theorem dX11_one_65 : decode cX11_one 65 = .ok (.iconst 0, 1) := by decide +kernel
theorem dX11_one_66 : decode cX11_one 66 = .ok (.istore 11, 2) := by decide +kernel
theorem dX11_one_68 : decode cX11_one 68 = .ok (.iload 11, 2) := by decide +kernel
theorem dX11_one_70 : decode cX11_one 70 = .ok (.aload_n 0, 1) := by decide +kernel
theorem dX11_one_71 : decode cX11_one 71 = .ok (.getfield 38, 3) := by decide +kernel
theorem dX11_one_74 : decode cX11_one 74 = .ok (.iload 7, 2) := by decide +kernel
theorem dX11_one_76 : decode cX11_one 76 = .ok (.iaload, 1) := by decide +kernel
theorem dX11_one_77 : decode cX11_one 77 = .ok (.if_icmp .ge 57, 3) := by decide +kernel
theorem dX11_one_80 : decode cX11_one 80 = .ok (.aload_n 0, 1) := by decide +kernel
theorem dX11_one_81 : decode cX11_one 81 = .ok (.iload 8, 2) := by decide +kernel
theorem dX11_one_83 : decode cX11_one 83 = .ok (.iload 7, 2) := by decide +kernel
theorem dX11_one_85 : decode cX11_one 85 = .ok (.invokevirtual 266, 3) := by decide +kernel
theorem dX11_one_88 : decode cX11_one 88 = .ok (.ifCond .ne 46, 3) := by decide +kernel
theorem dX11_one_91 : decode cX11_one 91 = .ok (.lload 9, 2) := by decide +kernel
theorem dX11_one_93 : decode cX11_one 93 = .ok (.aload_n 0, 1) := by decide +kernel
theorem dX11_one_94 : decode cX11_one 94 = .ok (.getfield 41, 3) := by decide +kernel
theorem dX11_one_97 : decode cX11_one 97 = .ok (.bipush 16, 2) := by decide +kernel
theorem dX11_one_99 : decode cX11_one 99 = .ok (.iload 7, 2) := by decide +kernel
theorem dX11_one_101 : decode cX11_one 101 = .ok (.imul, 1) := by decide +kernel
theorem dX11_one_102 : decode cX11_one 102 = .ok (.iconst 4, 1) := by decide +kernel
theorem dX11_one_103 : decode cX11_one 103 = .ok (.iload 11, 2) := by decide +kernel
theorem dX11_one_105 : decode cX11_one 105 = .ok (.imul, 1) := by decide +kernel
theorem dX11_one_106 : decode cX11_one 106 = .ok (.iadd, 1) := by decide +kernel
theorem dX11_one_107 : decode cX11_one 107 = .ok (.iaload, 1) := by decide +kernel
theorem dX11_one_108 : decode cX11_one 108 = .ok (.i2l, 1) := by decide +kernel
theorem dX11_one_109 : decode cX11_one 109 = .ok (.aload_n 0, 1) := by decide +kernel
theorem dX11_one_110 : decode cX11_one 110 = .ok (.iload 7, 2) := by decide +kernel
theorem dX11_one_112 : decode cX11_one 112 = .ok (.aload_n 0, 1) := by decide +kernel
theorem dX11_one_113 : decode cX11_one 113 = .ok (.iload_n 3, 1) := by decide +kernel
theorem dX11_one_114 : decode cX11_one 114 = .ok (.iload 7, 2) := by decide +kernel
theorem dX11_one_116 : decode cX11_one 116 = .ok (.iload 11, 2) := by decide +kernel
theorem dX11_one_118 : decode cX11_one 118 = .ok (.invokevirtual 168, 3) := by decide +kernel
theorem dX11_one_121 : decode cX11_one 121 = .ok (.invokevirtual 269, 3) := by decide +kernel
theorem dX11_one_124 : decode cX11_one 124 = .ok (.lmul, 1) := by decide +kernel
theorem dX11_one_125 : decode cX11_one 125 = .ok (.ladd, 1) := by decide +kernel
theorem dX11_one_126 : decode cX11_one 126 = .ok (.lstore 9, 2) := by decide +kernel
theorem dX11_one_128 : decode cX11_one 128 = .ok (.iinc 11 1, 3) := by decide +kernel
theorem dX11_one_131 : decode cX11_one 131 = .ok (.goto (-63), 3) := by decide +kernel
theorem dX11_one_134 : decode cX11_one 134 = .ok (.lload 9, 2) := by decide +kernel
theorem dX11_one_136 : decode cX11_one 136 = .ok (.lload 5, 2) := by decide +kernel
theorem dX11_one_138 : decode cX11_one 138 = .ok (.lcmp, 1) := by decide +kernel
theorem dX11_one_139 : decode cX11_one 139 = .ok (.ifCond .le 8, 3) := by decide +kernel
theorem dX11_one_142 : decode cX11_one 142 = .ok (.lload 9, 2) := by decide +kernel
theorem dX11_one_144 : decode cX11_one 144 = .ok (.goto 5, 3) := by decide +kernel
theorem dX11_one_147 : decode cX11_one 147 = .ok (.lload 5, 2) := by decide +kernel
theorem dX11_one_149 : decode cX11_one 149 = .ok (.lstore 5, 2) := by decide +kernel
theorem dX11_one_151 : decode cX11_one 151 = .ok (.iinc 7 1, 3) := by decide +kernel
theorem dX11_one_154 : decode cX11_one 154 = .ok (.goto (-148), 3) := by decide +kernel
theorem dX11_one_157 : decode cX11_one 157 = .ok (.lload 5, 2) := by decide +kernel
theorem dX11_one_159 : decode cX11_one 159 = .ok (.lreturn, 1) := by decide +kernel
def f_X11_one_151 (k_6 : St → Int32 → Int32 → Int32 → Int32 → Int64 → Int32 → Option (Int64 × St)) (S : St) (x1 : Int32) (x2 : Int32) (x3 : Int32) (x4 : Int32) (x5 : Int64) (x7 : Int32) : Option (Int64 × St) :=
  bnd (x7 + 1 : Int32) fun v1 =>
  k_6 S x1 x2 x3 x4 x5 v1
def f_X11_one_149 (k_6 : St → Int32 → Int32 → Int32 → Int32 → Int64 → Int32 → Option (Int64 × St)) (S : St) (x1 : Int32) (x2 : Int32) (x3 : Int32) (x4 : Int32) (x7 : Int32) (t0 : Int64) : Option (Int64 × St) :=
  f_X11_one_151 k_6 S x1 x2 x3 x4 t0 x7
def f_X11_one_134 (k_6 : St → Int32 → Int32 → Int32 → Int32 → Int64 → Int32 → Option (Int64 × St)) (S : St) (x1 : Int32) (x2 : Int32) (x3 : Int32) (x4 : Int32) (x5 : Int64) (x7 : Int32) (x9 : Int64) : Option (Int64 × St) :=
  if (lg_cmp x9 x5) ≤ 0 then (
    f_X11_one_149 k_6 S x1 x2 x3 x4 x7 x5
  ) else (
    f_X11_one_149 k_6 S x1 x2 x3 x4 x7 x9
  )
def f_X11_one_68 (k_6 : St → Int32 → Int32 → Int32 → Int32 → Int64 → Int32 → Option (Int64 × St)) (k_68 : St → Int32 → Int32 → Int32 → Int32 → Int64 → Int32 → Int32 → Int64 → Int32 → Option (Int64 × St)) (S : St) (x1 : Int32) (x2 : Int32) (x3 : Int32) (x4 : Int32) (x5 : Int64) (x7 : Int32) (x8 : Int32) (x9 : Int64) (x11 : Int32) : Option (Int64 × St) :=
  chk (ixo x7 6) <|
  if (S.1 7 (x7).toNatClampNeg) ≤ x11 then (
    f_X11_one_134 k_6 S x1 x2 x3 x4 x5 x7 x9
  ) else (
    obd2 (f_X11_isLate S x8 x7) fun r5 S5 =>
    if r5 = 0 then (
      chk (ixo ((16 * x7) + (4 * x11)) 96) <|
      obd2 (f_X11_leftOf S5 x3 x7 x11) fun r8 S8 =>
      obd2 (f_X11_got S8 x7 r8) fun r9 S9 =>
      bnd ((x9 + ((((S5.1 8 (((16 * x7) + (4 * x11))).toNatClampNeg) : Int32).toInt64) * r9)) : Int64) fun v10 =>
      bnd (x11 + 1 : Int32) fun v11 =>
      k_68 S9 x1 x2 x3 x4 x5 x7 x8 v10 v11
    ) else (
      f_X11_one_134 k_6 S5 x1 x2 x3 x4 x5 x7 x9
    )
  )
def l_X11_one_68 (k_6 : St → Int32 → Int32 → Int32 → Int32 → Int64 → Int32 → Option (Int64 × St)) : Nat → St → Int32 → Int32 → Int32 → Int32 → Int64 → Int32 → Int32 → Int64 → Int32 → Option (Int64 × St)
  | 0, _, _, _, _, _, _, _, _, _, _ => none
  | fu + 1, S, x1, x2, x3, x4, x5, x7, x8, x9, x11 => f_X11_one_68 k_6 (l_X11_one_68 k_6 fu) S x1 x2 x3 x4 x5 x7 x8 x9 x11
def f_X11_one_63 (k_6 : St → Int32 → Int32 → Int32 → Int32 → Int64 → Int32 → Option (Int64 × St)) (S : St) (x1 : Int32) (x2 : Int32) (x3 : Int32) (x4 : Int32) (x5 : Int64) (x7 : Int32) (x8 : Int32) (t0 : Int64) : Option (Int64 × St) :=
  l_X11_one_68 k_6 FU S x1 x2 x3 x4 x5 x7 x8 t0 0
def f_X11_one_6 (k_6 : St → Int32 → Int32 → Int32 → Int32 → Int64 → Int32 → Option (Int64 × St)) (S : St) (x1 : Int32) (x2 : Int32) (x3 : Int32) (x4 : Int32) (x5 : Int64) (x7 : Int32) : Option (Int64 × St) :=
  if 6 ≤ x7 then (
    some (x5, S)
  ) else (
    obd2 (f_X11_has S x4 x7) fun r13 S13 =>
    if r13 = 0 then (
      f_X11_one_151 k_6 S13 x1 x2 x3 x4 x5 x7
    ) else (
      obd2 (f_X11_arrival S13 x1 x2 x7) fun r15 S15 =>
      obd2 (f_X11_isLate S15 r15 x7) fun r16 S16 =>
      if r16 = 0 then (
        f_X11_one_63 k_6 S16 x1 x2 x3 x4 x5 x7 r15 (0)
      ) else (
        obd2 (f_X11_totalOf S16 x7) fun r18 S18 =>
        obd2 (f_X11_got S18 x7 (-1)) fun r19 S19 =>
        f_X11_one_63 k_6 S19 x1 x2 x3 x4 x5 x7 r15 ((r18.toInt64) * r19)
      )
    )
  )
def l_X11_one_6 : Nat → St → Int32 → Int32 → Int32 → Int32 → Int64 → Int32 → Option (Int64 × St)
  | 0, _, _, _, _, _, _, _ => none
  | fu + 1, S, x1, x2, x3, x4, x5, x7 => f_X11_one_6 (l_X11_one_6 fu) S x1 x2 x3 x4 x5 x7
def f_X11_one (S : St) (x1 : Int32) (x2 : Int32) (x3 : Int32) (x4 : Int32) : Option (Int64 × St) :=
  l_X11_one_6 FU S x1 x2 x3 x4 (0) 0
set_option maxHeartbeats 4000000 in
set_option maxRecDepth 100000 in
theorem c_X11_one {l : Launch} {D : va_G} {cI cC cS : ClassId} {ad adK adV : Nat → Nat} {S S1 : St} {x1 : Int32} {x2 : Int32} {x3 : Int32} {x4 : Int32} {r : Int64} (h : f_X11_one S x1 x2 x3 x4 = some (r, S1)) : Kt l D (mw cI ad) (KX D (xtys cI cC cS) adK adV) yX11_one cX11_one 12 (some .long) (2) (50) [.ref (ad 0), .int x1, .int x2, .int x3, .int x4] S (some (.long r)) S1 := by
  refine k_ent (ins := .lreturn) (st := [.long r]) (by decide +kernel) (Nat.le_of_ble_eq_true rfl) ret_l ?_
  intro p e s m args below meth c A Q C hK I hA hq ls hl
  have C : CallFix p m c cX11_one 12 s args TT RX11 := C
  have hx := C.1
  have hb := C.2.1
  have kx := kx_ok D (xtys cI cC cS) adK adV
  have hl : lv_has ls 12 [(0, .ref (ad 0)), (1, .int x1), (2, .int x2), (3, .int x3), (4, .int x4)] := hl
  have J_151 : ∀ (k_6 : St → Int32 → Int32 → Int32 → Int32 → Int64 → Int32 → Option (Int64 × St)) (hk_6 : ∀ (S : St) (x1 : Int32) (x2 : Int32) (x3 : Int32) (x4 : Int32) (x5 : Int64) (x7 : Int32), k_6 S x1 x2 x3 x4 x5 x7 = some (r, S1) → ∀ (H : Heap) (locs : List Loc) (ls : Array Slot), Iv D (mw cI ad) S A s H locs → lv_has ls 12 [(0, .ref (ad 0)), (1, .int x1), (2, .int x2), (3, .int x3), (4, .int x4), (5, .long x5), (7, .int x7)] → W p l e ({ frames := 2, cells := 0, slots := 0, locals := 50 } : Room) s m args below meth c H locs 0 0 Q (F0 m 6 ls [])) (S : St) (x1 : Int32) (x2 : Int32) (x3 : Int32) (x4 : Int32) (x5 : Int64) (x7 : Int32), f_X11_one_151 k_6 S x1 x2 x3 x4 x5 x7 = some (r, S1) → ∀ (H : Heap) (locs : List Loc) (ls : Array Slot), Iv D (mw cI ad) S A s H locs → lv_has ls 12 [(0, .ref (ad 0)), (1, .int x1), (2, .int x2), (3, .int x3), (4, .int x4), (5, .long x5), (7, .int x7)] → W p l e ({ frames := 2, cells := 0, slots := 0, locals := 50 } : Room) s m args below meth c H locs 0 0 Q (F0 m 151 ls []) := by
    intro k_6 hk_6 S x1 x2 x3 x4 x5 x7 h H locs ls I hl
    unfold f_X11_one_151 at h
    obtain ⟨v1, ev1⟩ : ∃ y : Int32, y = x7 + 1 := ⟨_, rfl⟩
    have h := bnd_at ev1 h
    refine lv_iinc (v := v1) (lv' := [(7, .int v1), (0, .ref (ad 0)), (1, .int x1), (2, .int x2), (3, .int x3), (4, .int x4), (5, .long x5)]) hx hb dX11_one_151 hl (k := 6) rfl (by rw [ev1]; rfl) (by decide) rfl (fun ls hl => ?_)
    clear ev1
    refine lv_goto (tgt := 6) hx hb dX11_one_154 (by decide) ?_
    exact hk_6 _ _ _ _ _ _ _ h _ _ _ I (lv_sub hl [1, 2, 3, 4, 5, 6, 0] rfl)
  have J_149 : ∀ (k_6 : St → Int32 → Int32 → Int32 → Int32 → Int64 → Int32 → Option (Int64 × St)) (hk_6 : ∀ (S : St) (x1 : Int32) (x2 : Int32) (x3 : Int32) (x4 : Int32) (x5 : Int64) (x7 : Int32), k_6 S x1 x2 x3 x4 x5 x7 = some (r, S1) → ∀ (H : Heap) (locs : List Loc) (ls : Array Slot), Iv D (mw cI ad) S A s H locs → lv_has ls 12 [(0, .ref (ad 0)), (1, .int x1), (2, .int x2), (3, .int x3), (4, .int x4), (5, .long x5), (7, .int x7)] → W p l e ({ frames := 2, cells := 0, slots := 0, locals := 50 } : Room) s m args below meth c H locs 0 0 Q (F0 m 6 ls [])) (S : St) (x1 : Int32) (x2 : Int32) (x3 : Int32) (x4 : Int32) (x7 : Int32) (t0 : Int64), f_X11_one_149 k_6 S x1 x2 x3 x4 x7 t0 = some (r, S1) → ∀ (H : Heap) (locs : List Loc) (ls : Array Slot), Iv D (mw cI ad) S A s H locs → lv_has ls 12 [(0, .ref (ad 0)), (1, .int x1), (2, .int x2), (3, .int x3), (4, .int x4), (7, .int x7)] → W p l e ({ frames := 2, cells := 0, slots := 0, locals := 50 } : Room) s m args below meth c H locs 0 0 Q (F0 m 149 ls [.long t0]) := by
    intro k_6 hk_6 S x1 x2 x3 x4 x7 t0 h H locs ls I hl
    unfold f_X11_one_149 at h
    refine lv_lstore (lv' := [(5, .long t0), (0, .ref (ad 0)), (1, .int x1), (2, .int x2), (3, .int x3), (4, .int x4), (7, .int x7)]) hx hb dX11_one_149 hl (by decide) rfl (fun ls hl => ?_)
    exact J_151 k_6 hk_6 _ _ _ _ _ _ _ h _ _ _ I (lv_sub hl [1, 2, 3, 4, 5, 0, 6] rfl)
  have J_134 : ∀ (k_6 : St → Int32 → Int32 → Int32 → Int32 → Int64 → Int32 → Option (Int64 × St)) (hk_6 : ∀ (S : St) (x1 : Int32) (x2 : Int32) (x3 : Int32) (x4 : Int32) (x5 : Int64) (x7 : Int32), k_6 S x1 x2 x3 x4 x5 x7 = some (r, S1) → ∀ (H : Heap) (locs : List Loc) (ls : Array Slot), Iv D (mw cI ad) S A s H locs → lv_has ls 12 [(0, .ref (ad 0)), (1, .int x1), (2, .int x2), (3, .int x3), (4, .int x4), (5, .long x5), (7, .int x7)] → W p l e ({ frames := 2, cells := 0, slots := 0, locals := 50 } : Room) s m args below meth c H locs 0 0 Q (F0 m 6 ls [])) (S : St) (x1 : Int32) (x2 : Int32) (x3 : Int32) (x4 : Int32) (x5 : Int64) (x7 : Int32) (x9 : Int64), f_X11_one_134 k_6 S x1 x2 x3 x4 x5 x7 x9 = some (r, S1) → ∀ (H : Heap) (locs : List Loc) (ls : Array Slot), Iv D (mw cI ad) S A s H locs → lv_has ls 12 [(0, .ref (ad 0)), (1, .int x1), (2, .int x2), (3, .int x3), (4, .int x4), (5, .long x5), (7, .int x7), (9, .long x9)] → W p l e ({ frames := 2, cells := 0, slots := 0, locals := 50 } : Room) s m args below meth c H locs 0 0 Q (F0 m 134 ls []) := by
    intro k_6 hk_6 S x1 x2 x3 x4 x5 x7 x9 h H locs ls I hl
    unfold f_X11_one_134 at h
    refine lv_lload hx hb dX11_one_134 (lv_at hl 7 rfl) ?_
    refine lv_lload hx hb dX11_one_136 (lv_at hl 5 rfl) ?_
    refine W.lcmp hx hb dX11_one_138 ?_
    refine lv_if_le (tgt := 147) hx hb dX11_one_139 (by decide) (fun c2 => ?_) (fun c2 => ?_)
    · have h := ite_t c2 h
      refine lv_lload hx hb dX11_one_147 (lv_at hl 5 rfl) ?_
      exact J_149 k_6 hk_6 _ _ _ _ _ _ _ h _ _ _ I (lv_sub hl [0, 1, 2, 3, 4, 6] rfl)
    · have h := ite_n c2 h
      refine lv_lload hx hb dX11_one_142 (lv_at hl 7 rfl) ?_
      refine lv_goto (tgt := 149) hx hb dX11_one_144 (by decide) ?_
      exact J_149 k_6 hk_6 _ _ _ _ _ _ _ h _ _ _ I (lv_sub hl [0, 1, 2, 3, 4, 6] rfl)
  have B_68 : ∀ (k_6 : St → Int32 → Int32 → Int32 → Int32 → Int64 → Int32 → Option (Int64 × St)) (hk_6 : ∀ (S : St) (x1 : Int32) (x2 : Int32) (x3 : Int32) (x4 : Int32) (x5 : Int64) (x7 : Int32), k_6 S x1 x2 x3 x4 x5 x7 = some (r, S1) → ∀ (H : Heap) (locs : List Loc) (ls : Array Slot), Iv D (mw cI ad) S A s H locs → lv_has ls 12 [(0, .ref (ad 0)), (1, .int x1), (2, .int x2), (3, .int x3), (4, .int x4), (5, .long x5), (7, .int x7)] → W p l e ({ frames := 2, cells := 0, slots := 0, locals := 50 } : Room) s m args below meth c H locs 0 0 Q (F0 m 6 ls [])) (k_68 : St → Int32 → Int32 → Int32 → Int32 → Int64 → Int32 → Int32 → Int64 → Int32 → Option (Int64 × St)) (hk_68 : ∀ (S : St) (x1 : Int32) (x2 : Int32) (x3 : Int32) (x4 : Int32) (x5 : Int64) (x7 : Int32) (x8 : Int32) (x9 : Int64) (x11 : Int32), k_68 S x1 x2 x3 x4 x5 x7 x8 x9 x11 = some (r, S1) → ∀ (H : Heap) (locs : List Loc) (ls : Array Slot), Iv D (mw cI ad) S A s H locs → lv_has ls 12 [(0, .ref (ad 0)), (1, .int x1), (2, .int x2), (3, .int x3), (4, .int x4), (5, .long x5), (7, .int x7), (8, .int x8), (9, .long x9), (11, .int x11)] → W p l e ({ frames := 2, cells := 0, slots := 0, locals := 50 } : Room) s m args below meth c H locs 0 0 Q (F0 m 68 ls [])) (S : St) (x1 : Int32) (x2 : Int32) (x3 : Int32) (x4 : Int32) (x5 : Int64) (x7 : Int32) (x8 : Int32) (x9 : Int64) (x11 : Int32), f_X11_one_68 k_6 k_68 S x1 x2 x3 x4 x5 x7 x8 x9 x11 = some (r, S1) → ∀ (H : Heap) (locs : List Loc) (ls : Array Slot), Iv D (mw cI ad) S A s H locs → lv_has ls 12 [(0, .ref (ad 0)), (1, .int x1), (2, .int x2), (3, .int x3), (4, .int x4), (5, .long x5), (7, .int x7), (8, .int x8), (9, .long x9), (11, .int x11)] → W p l e ({ frames := 2, cells := 0, slots := 0, locals := 50 } : Room) s m args below meth c H locs 0 0 Q (F0 m 68 ls []) := by
    intro k_6 hk_6 k_68 hk_68 S x1 x2 x3 x4 x5 x7 x8 x9 x11 h H locs ls I hl
    unfold f_X11_one_68 at h
    refine lv_iload hx hb dX11_one_68 (lv_at hl 9 rfl) ?_
    refine lv_aload_n hx hb dX11_one_70 rfl (lv_at hl 0 rfl) ?_
    refine gm_0_13 C hK I fl_X11_38 dX11_one_71 ?_
    refine lv_iload hx hb dX11_one_74 (lv_at hl 6 rfl) ?_
    obtain ⟨hv3, h⟩ := chk_ex h
    refine am_7 C hK I hv3 dX11_one_76 ?_
    refine lv_icmp_ge (tgt := 134) hx hb dX11_one_77 (by decide) (fun c4 => ?_) (fun c4 => ?_)
    · have h := ite_t c4 h
      exact J_134 k_6 hk_6 _ _ _ _ _ _ _ _ h _ _ _ I (lv_sub hl [0, 1, 2, 3, 4, 5, 6, 8] rfl)
    · have h := ite_n c4 h
      refine lv_aload_n hx hb dX11_one_80 rfl (lv_at hl 0 rfl) ?_
      refine lv_iload hx hb dX11_one_81 (lv_at hl 7 rfl) ?_
      refine lv_iload hx hb dX11_one_83 (lv_at hl 6 rfl) ?_
      obtain ⟨r5, S5, e5, h⟩ := obd2_ex h
      refine k_V (As := [.int x8, .int x7]) (rest := []) (st1 := [.int r5]) C kx hK I hA (c_X11_isLate e5) ⟨Nat.le_of_ble_eq_true rfl, Nat.le_of_ble_eq_true rfl⟩ mv_X11_isLate lk_X11_266 0 11 (mw_0 (cI := cI) (ad := ad)) rfl rfl hl.1 rfl (Nat.le_of_ble_eq_true rfl) dX11_one_85 rfl (fun H locs I => ?_)
      refine lv_if_ne (tgt := 134) hx hb dX11_one_88 (by decide) (fun c6 => ?_) (fun c6 => ?_)
      · have h := ite_n c6 h
        exact J_134 k_6 hk_6 _ _ _ _ _ _ _ _ h _ _ _ I (lv_sub hl [0, 1, 2, 3, 4, 5, 6, 8] rfl)
      · have h := ite_t c6 h
        refine lv_lload hx hb dX11_one_91 (lv_at hl 8 rfl) ?_
        refine lv_aload_n hx hb dX11_one_93 rfl (lv_at hl 0 rfl) ?_
        refine gm_0_14 C hK I fl_X11_41 dX11_one_94 ?_
        refine lv_bipush (v := 16) hx hb dX11_one_97 (by decide) ?_
        refine lv_iload hx hb dX11_one_99 (lv_at hl 6 rfl) ?_
        refine lv_imul hx hb dX11_one_101 ?_
        refine lv_iconst (v := 4) hx hb dX11_one_102 (by decide) ?_
        refine lv_iload hx hb dX11_one_103 (lv_at hl 9 rfl) ?_
        refine lv_imul hx hb dX11_one_105 ?_
        refine lv_iadd hx hb dX11_one_106 ?_
        obtain ⟨hv7, h⟩ := chk_ex h
        refine am_8 C hK I hv7 dX11_one_107 ?_
        refine lv_i2l hx hb dX11_one_108 rfl ?_
        refine lv_aload_n hx hb dX11_one_109 rfl (lv_at hl 0 rfl) ?_
        refine lv_iload hx hb dX11_one_110 (lv_at hl 6 rfl) ?_
        refine lv_aload_n hx hb dX11_one_112 rfl (lv_at hl 0 rfl) ?_
        refine lv_iload_n hx hb dX11_one_113 rfl (lv_at hl 3 rfl) ?_
        refine lv_iload hx hb dX11_one_114 (lv_at hl 6 rfl) ?_
        refine lv_iload hx hb dX11_one_116 (lv_at hl 9 rfl) ?_
        obtain ⟨r8, S8, e8, h⟩ := obd2_ex h
        refine k_V (As := [.int x3, .int x7, .int x11]) (rest := [.int x7, .ref (ad 0), .long (((S5.1 8 (((16 * x7) + (4 * x11))).toNatClampNeg) : Int32).toInt64), .long x9]) (st1 := [.int r8, .int x7, .ref (ad 0), .long (((S5.1 8 (((16 * x7) + (4 * x11))).toNatClampNeg) : Int32).toInt64), .long x9]) C kx hK I hA (c_X11_leftOf e8) ⟨Nat.le_of_ble_eq_true rfl, Nat.le_of_ble_eq_true rfl⟩ mv_X11_leftOf lk_X11_168 0 11 (mw_0 (cI := cI) (ad := ad)) rfl rfl hl.1 rfl (Nat.le_of_ble_eq_true rfl) dX11_one_118 rfl (fun H locs I => ?_)
        obtain ⟨r9, S9, e9, h⟩ := obd2_ex h
        refine k_V (As := [.int x7, .int r8]) (rest := [.long (((S5.1 8 (((16 * x7) + (4 * x11))).toNatClampNeg) : Int32).toInt64), .long x9]) (st1 := [.long r9, .long (((S5.1 8 (((16 * x7) + (4 * x11))).toNatClampNeg) : Int32).toInt64), .long x9]) C kx hK I hA (c_X11_got e9) ⟨Nat.le_of_ble_eq_true rfl, Nat.le_of_ble_eq_true rfl⟩ mv_X11_got lk_X11_269 0 11 (mw_0 (cI := cI) (ad := ad)) rfl rfl hl.1 rfl (Nat.le_of_ble_eq_true rfl) dX11_one_121 rfl (fun H locs I => ?_)
        refine lv_lmul hx hb dX11_one_124 ?_
        refine lv_ladd hx hb dX11_one_125 ?_
        refine lv_topl (fun v10 ev10 => ?_)
        have h := bnd_at ev10 h
        clear ev10
        refine lv_lstore (lv' := [(9, .long v10), (0, .ref (ad 0)), (1, .int x1), (2, .int x2), (3, .int x3), (4, .int x4), (5, .long x5), (7, .int x7), (8, .int x8), (11, .int x11)]) hx hb dX11_one_126 hl (by decide) rfl (fun ls hl => ?_)
        obtain ⟨v11, ev11⟩ : ∃ y : Int32, y = x11 + 1 := ⟨_, rfl⟩
        have h := bnd_at ev11 h
        refine lv_iinc (v := v11) (lv' := [(11, .int v11), (9, .long v10), (0, .ref (ad 0)), (1, .int x1), (2, .int x2), (3, .int x3), (4, .int x4), (5, .long x5), (7, .int x7), (8, .int x8)]) hx hb dX11_one_128 hl (k := 9) rfl (by rw [ev11]; rfl) (by decide) rfl (fun ls hl => ?_)
        clear ev11
        refine lv_goto (tgt := 68) hx hb dX11_one_131 (by decide) ?_
        exact hk_68 _ _ _ _ _ _ _ _ _ _ h _ _ _ I (lv_sub hl [2, 3, 4, 5, 6, 7, 8, 9, 1, 0] rfl)
  have J_68 : ∀ (k_6 : St → Int32 → Int32 → Int32 → Int32 → Int64 → Int32 → Option (Int64 × St)) (hk_6 : ∀ (S : St) (x1 : Int32) (x2 : Int32) (x3 : Int32) (x4 : Int32) (x5 : Int64) (x7 : Int32), k_6 S x1 x2 x3 x4 x5 x7 = some (r, S1) → ∀ (H : Heap) (locs : List Loc) (ls : Array Slot), Iv D (mw cI ad) S A s H locs → lv_has ls 12 [(0, .ref (ad 0)), (1, .int x1), (2, .int x2), (3, .int x3), (4, .int x4), (5, .long x5), (7, .int x7)] → W p l e ({ frames := 2, cells := 0, slots := 0, locals := 50 } : Room) s m args below meth c H locs 0 0 Q (F0 m 6 ls [])) (fu : Nat) (S : St) (x1 : Int32) (x2 : Int32) (x3 : Int32) (x4 : Int32) (x5 : Int64) (x7 : Int32) (x8 : Int32) (x9 : Int64) (x11 : Int32), l_X11_one_68 k_6  fu S x1 x2 x3 x4 x5 x7 x8 x9 x11 = some (r, S1) → ∀ (H : Heap) (locs : List Loc) (ls : Array Slot), Iv D (mw cI ad) S A s H locs → lv_has ls 12 [(0, .ref (ad 0)), (1, .int x1), (2, .int x2), (3, .int x3), (4, .int x4), (5, .long x5), (7, .int x7), (8, .int x8), (9, .long x9), (11, .int x11)] → W p l e ({ frames := 2, cells := 0, slots := 0, locals := 50 } : Room) s m args below meth c H locs 0 0 Q (F0 m 68 ls []) := by
    intro k_6 hk_6 fu
    induction fu with
    | zero => intro S x1 x2 x3 x4 x5 x7 x8 x9 x11 h; cases h
    | succ fu ih => intro S x1 x2 x3 x4 x5 x7 x8 x9 x11 h; exact B_68 k_6 hk_6 (l_X11_one_68 k_6 fu) ih S x1 x2 x3 x4 x5 x7 x8 x9 x11 h
  have J_63 : ∀ (k_6 : St → Int32 → Int32 → Int32 → Int32 → Int64 → Int32 → Option (Int64 × St)) (hk_6 : ∀ (S : St) (x1 : Int32) (x2 : Int32) (x3 : Int32) (x4 : Int32) (x5 : Int64) (x7 : Int32), k_6 S x1 x2 x3 x4 x5 x7 = some (r, S1) → ∀ (H : Heap) (locs : List Loc) (ls : Array Slot), Iv D (mw cI ad) S A s H locs → lv_has ls 12 [(0, .ref (ad 0)), (1, .int x1), (2, .int x2), (3, .int x3), (4, .int x4), (5, .long x5), (7, .int x7)] → W p l e ({ frames := 2, cells := 0, slots := 0, locals := 50 } : Room) s m args below meth c H locs 0 0 Q (F0 m 6 ls [])) (S : St) (x1 : Int32) (x2 : Int32) (x3 : Int32) (x4 : Int32) (x5 : Int64) (x7 : Int32) (x8 : Int32) (t0 : Int64), f_X11_one_63 k_6 S x1 x2 x3 x4 x5 x7 x8 t0 = some (r, S1) → ∀ (H : Heap) (locs : List Loc) (ls : Array Slot), Iv D (mw cI ad) S A s H locs → lv_has ls 12 [(0, .ref (ad 0)), (1, .int x1), (2, .int x2), (3, .int x3), (4, .int x4), (5, .long x5), (7, .int x7), (8, .int x8)] → W p l e ({ frames := 2, cells := 0, slots := 0, locals := 50 } : Room) s m args below meth c H locs 0 0 Q (F0 m 63 ls [.long t0]) := by
    intro k_6 hk_6 S x1 x2 x3 x4 x5 x7 x8 t0 h H locs ls I hl
    unfold f_X11_one_63 at h
    refine lv_lstore (lv' := [(9, .long t0), (0, .ref (ad 0)), (1, .int x1), (2, .int x2), (3, .int x3), (4, .int x4), (5, .long x5), (7, .int x7), (8, .int x8)]) hx hb dX11_one_63 hl (by decide) rfl (fun ls hl => ?_)
    refine lv_iconst (v := 0) hx hb dX11_one_65 (by decide) ?_
    refine lv_istore (lv' := [(11, .int 0), (9, .long t0), (0, .ref (ad 0)), (1, .int x1), (2, .int x2), (3, .int x3), (4, .int x4), (5, .long x5), (7, .int x7), (8, .int x8)]) hx hb dX11_one_66 hl (by decide) rfl (fun ls hl => ?_)
    exact J_68 k_6 hk_6 _ _ _ _ _ _ _ _ _ _ _ h _ _ _ I (lv_sub hl [2, 3, 4, 5, 6, 7, 8, 9, 1, 0] rfl)
  have B_6 : ∀ (k_6 : St → Int32 → Int32 → Int32 → Int32 → Int64 → Int32 → Option (Int64 × St)) (hk_6 : ∀ (S : St) (x1 : Int32) (x2 : Int32) (x3 : Int32) (x4 : Int32) (x5 : Int64) (x7 : Int32), k_6 S x1 x2 x3 x4 x5 x7 = some (r, S1) → ∀ (H : Heap) (locs : List Loc) (ls : Array Slot), Iv D (mw cI ad) S A s H locs → lv_has ls 12 [(0, .ref (ad 0)), (1, .int x1), (2, .int x2), (3, .int x3), (4, .int x4), (5, .long x5), (7, .int x7)] → W p l e ({ frames := 2, cells := 0, slots := 0, locals := 50 } : Room) s m args below meth c H locs 0 0 Q (F0 m 6 ls [])) (S : St) (x1 : Int32) (x2 : Int32) (x3 : Int32) (x4 : Int32) (x5 : Int64) (x7 : Int32), f_X11_one_6 k_6 S x1 x2 x3 x4 x5 x7 = some (r, S1) → ∀ (H : Heap) (locs : List Loc) (ls : Array Slot), Iv D (mw cI ad) S A s H locs → lv_has ls 12 [(0, .ref (ad 0)), (1, .int x1), (2, .int x2), (3, .int x3), (4, .int x4), (5, .long x5), (7, .int x7)] → W p l e ({ frames := 2, cells := 0, slots := 0, locals := 50 } : Room) s m args below meth c H locs 0 0 Q (F0 m 6 ls []) := by
    intro k_6 hk_6 S x1 x2 x3 x4 x5 x7 h H locs ls I hl
    unfold f_X11_one_6 at h
    refine lv_iload hx hb dX11_one_6 (lv_at hl 6 rfl) ?_
    refine lv_bipush (v := 6) hx hb dX11_one_8 (by decide) ?_
    refine lv_icmp_ge (tgt := 157) hx hb dX11_one_10 (by decide) (fun c12 => ?_) (fun c12 => ?_)
    · have h := ite_t c12 h
      refine lv_lload hx hb dX11_one_157 (lv_at hl 5 rfl) ?_
      exact rt_l hq h I dX11_one_159
    · have h := ite_n c12 h
      refine lv_iload hx hb dX11_one_13 (lv_at hl 4 rfl) ?_
      refine lv_iload hx hb dX11_one_15 (lv_at hl 6 rfl) ?_
      obtain ⟨r13, S13, e13, h⟩ := obd2_ex h
      refine k_S (As := [.int x4, .int x7]) (rest := []) (st1 := [.int r13]) C kx hK I hA (c_X11_has e13) ⟨Nat.le_of_ble_eq_true rfl, Nat.le_of_ble_eq_true rfl⟩ ms_X11_has lk_X11_85 rfl hl.1 rfl (Nat.le_of_ble_eq_true rfl) dX11_one_17 rfl (fun H locs I => ?_)
      refine lv_if_eq (tgt := 151) hx hb dX11_one_20 (by decide) (fun c14 => ?_) (fun c14 => ?_)
      · have h := ite_t c14 h
        exact J_151 k_6 hk_6 _ _ _ _ _ _ _ h _ _ _ I (lv_sub hl [0, 1, 2, 3, 4, 5, 6] rfl)
      · have h := ite_n c14 h
        refine lv_aload_n hx hb dX11_one_23 rfl (lv_at hl 0 rfl) ?_
        refine lv_iload_n hx hb dX11_one_24 rfl (lv_at hl 1 rfl) ?_
        refine lv_iload_n hx hb dX11_one_25 rfl (lv_at hl 2 rfl) ?_
        refine lv_iload hx hb dX11_one_26 (lv_at hl 6 rfl) ?_
        obtain ⟨r15, S15, e15, h⟩ := obd2_ex h
        refine k_V (As := [.int x1, .int x2, .int x7]) (rest := []) (st1 := [.int r15]) C kx hK I hA (c_X11_arrival e15) ⟨Nat.le_of_ble_eq_true rfl, Nat.le_of_ble_eq_true rfl⟩ mv_X11_arrival lk_X11_263 0 11 (mw_0 (cI := cI) (ad := ad)) rfl rfl hl.1 rfl (Nat.le_of_ble_eq_true rfl) dX11_one_28 rfl (fun H locs I => ?_)
        refine lv_istore (lv' := [(8, .int r15), (0, .ref (ad 0)), (1, .int x1), (2, .int x2), (3, .int x3), (4, .int x4), (5, .long x5), (7, .int x7)]) hx hb dX11_one_31 hl (by decide) rfl (fun ls hl => ?_)
        refine lv_aload_n hx hb dX11_one_33 rfl (lv_at hl 1 rfl) ?_
        refine lv_iload hx hb dX11_one_34 (lv_at hl 0 rfl) ?_
        refine lv_iload hx hb dX11_one_36 (lv_at hl 7 rfl) ?_
        obtain ⟨r16, S16, e16, h⟩ := obd2_ex h
        refine k_V (As := [.int r15, .int x7]) (rest := []) (st1 := [.int r16]) C kx hK I hA (c_X11_isLate e16) ⟨Nat.le_of_ble_eq_true rfl, Nat.le_of_ble_eq_true rfl⟩ mv_X11_isLate lk_X11_266 0 11 (mw_0 (cI := cI) (ad := ad)) rfl rfl hl.1 rfl (Nat.le_of_ble_eq_true rfl) dX11_one_38 rfl (fun H locs I => ?_)
        refine lv_if_eq (tgt := 62) hx hb dX11_one_41 (by decide) (fun c17 => ?_) (fun c17 => ?_)
        · have h := ite_t c17 h
          refine lv_lconst (v := (0)) hx hb dX11_one_62 (by decide) ?_
          exact J_63 k_6 hk_6 _ _ _ _ _ _ _ _ _ h _ _ _ I (lv_sub hl [1, 2, 3, 4, 5, 6, 7, 0] rfl)
        · have h := ite_n c17 h
          refine lv_aload_n hx hb dX11_one_44 rfl (lv_at hl 1 rfl) ?_
          refine lv_iload hx hb dX11_one_45 (lv_at hl 7 rfl) ?_
          obtain ⟨r18, S18, e18, h⟩ := obd2_ex h
          refine k_V (As := [.int x7]) (rest := []) (st1 := [.int r18]) C kx hK I hA (c_X11_totalOf e18) ⟨Nat.le_of_ble_eq_true rfl, Nat.le_of_ble_eq_true rfl⟩ mv_X11_totalOf lk_X11_182 0 11 (mw_0 (cI := cI) (ad := ad)) rfl rfl hl.1 rfl (Nat.le_of_ble_eq_true rfl) dX11_one_47 rfl (fun H locs I => ?_)
          refine lv_i2l hx hb dX11_one_50 rfl ?_
          refine lv_aload_n hx hb dX11_one_51 rfl (lv_at hl 1 rfl) ?_
          refine lv_iload hx hb dX11_one_52 (lv_at hl 7 rfl) ?_
          refine lv_iconst (v := (-1)) hx hb dX11_one_54 (by decide) ?_
          obtain ⟨r19, S19, e19, h⟩ := obd2_ex h
          refine k_V (As := [.int x7, .int (-1)]) (rest := [.long (r18.toInt64)]) (st1 := [.long r19, .long (r18.toInt64)]) C kx hK I hA (c_X11_got e19) ⟨Nat.le_of_ble_eq_true rfl, Nat.le_of_ble_eq_true rfl⟩ mv_X11_got lk_X11_269 0 11 (mw_0 (cI := cI) (ad := ad)) rfl rfl hl.1 rfl (Nat.le_of_ble_eq_true rfl) dX11_one_55 rfl (fun H locs I => ?_)
          refine lv_lmul hx hb dX11_one_58 ?_
          refine lv_goto (tgt := 63) hx hb dX11_one_59 (by decide) ?_
          exact J_63 k_6 hk_6 _ _ _ _ _ _ _ _ _ h _ _ _ I (lv_sub hl [1, 2, 3, 4, 5, 6, 7, 0] rfl)
  have J_6 : ∀ (fu : Nat) (S : St) (x1 : Int32) (x2 : Int32) (x3 : Int32) (x4 : Int32) (x5 : Int64) (x7 : Int32), l_X11_one_6  fu S x1 x2 x3 x4 x5 x7 = some (r, S1) → ∀ (H : Heap) (locs : List Loc) (ls : Array Slot), Iv D (mw cI ad) S A s H locs → lv_has ls 12 [(0, .ref (ad 0)), (1, .int x1), (2, .int x2), (3, .int x3), (4, .int x4), (5, .long x5), (7, .int x7)] → W p l e ({ frames := 2, cells := 0, slots := 0, locals := 50 } : Room) s m args below meth c H locs 0 0 Q (F0 m 6 ls []) := by
    intro fu
    induction fu with
    | zero => intro S x1 x2 x3 x4 x5 x7 h; cases h
    | succ fu ih => intro S x1 x2 x3 x4 x5 x7 h; exact B_6 (l_X11_one_6 fu) ih S x1 x2 x3 x4 x5 x7 h
  unfold f_X11_one at h
  refine lv_lconst (v := (0)) hx hb dX11_one_0 (by decide) ?_
  refine lv_lstore (lv' := [(5, .long (0)), (0, .ref (ad 0)), (1, .int x1), (2, .int x2), (3, .int x3), (4, .int x4)]) hx hb dX11_one_1 hl (by decide) rfl (fun ls hl => ?_)
  refine lv_iconst (v := 0) hx hb dX11_one_3 (by decide) ?_
  refine lv_istore (lv' := [(7, .int 0), (5, .long (0)), (0, .ref (ad 0)), (1, .int x1), (2, .int x2), (3, .int x3), (4, .int x4)]) hx hb dX11_one_4 hl (by decide) rfl (fun ls hl => ?_)
  exact J_6 _ _ _ _ _ _ _ _ h _ _ _ I (lv_sub hl [2, 3, 4, 5, 6, 1, 0] rfl)
theorem lk_X11_276 : Cond.methodLink RX11 276 yX11_one ∈ TT := tt_of 1481 (by decide +kernel) rfl
theorem mv_X11_one : MV yX11_one cX11_one 12 (some .long) 4 := ⟨tt_of 1484 (by decide +kernel) rfl, tt_of 1483 (by decide +kernel) rfl, tt_of 60 (by decide +kernel) rfl, tt_of 76 (by decide +kernel) rfl, ⟨by decide +kernel, by decide +kernel, by decide +kernel⟩⟩
theorem lk_X11_280 : Cond.methodLink RX11 280 yX11_then ∈ TT := tt_of 1485 (by decide +kernel) rfl
theorem mv_X11_then : MV yX11_then cX11_then 5 (some .int) 4 := ⟨tt_of 1488 (by decide +kernel) rfl, tt_of 1487 (by decide +kernel) rfl, tt_of 61 (by decide +kernel) rfl, tt_of 76 (by decide +kernel) rfl, ⟨by decide +kernel, by decide +kernel, by decide +kernel⟩⟩
theorem lk_X11_273 : Cond.methodLink RX11 273 yX11_totals ∈ TT := tt_of 1453 (by decide +kernel) rfl
theorem mv_X11_totals : MV yX11_totals cX11_totals 5 (some .long) 1 := ⟨tt_of 1456 (by decide +kernel) rfl, tt_of 1455 (by decide +kernel) rfl, tt_of 53 (by decide +kernel) rfl, tt_of 76 (by decide +kernel) rfl, ⟨by decide +kernel, by decide +kernel, by decide +kernel⟩⟩
theorem dX11_goTwo_0 : decode cX11_goTwo 0 = .ok (.aload_n 0, 1) := by decide +kernel
theorem dX11_goTwo_1 : decode cX11_goTwo 1 = .ok (.iload_n 1, 1) := by decide +kernel
theorem dX11_goTwo_2 : decode cX11_goTwo 2 = .ok (.iload_n 2, 1) := by decide +kernel
theorem dX11_goTwo_3 : decode cX11_goTwo 3 = .ok (.iload 5, 2) := by decide +kernel
theorem dX11_goTwo_5 : decode cX11_goTwo 5 = .ok (.invokevirtual 263, 3) := by decide +kernel
theorem dX11_goTwo_8 : decode cX11_goTwo 8 = .ok (.istore 6, 2) := by decide +kernel
theorem dX11_goTwo_10 : decode cX11_goTwo 10 = .ok (.iload 4, 2) := by decide +kernel
theorem dX11_goTwo_12 : decode cX11_goTwo 12 = .ok (.iconst 1, 1) := by decide +kernel
theorem dX11_goTwo_13 : decode cX11_goTwo 13 = .ok (.iload 5, 2) := by decide +kernel
theorem dX11_goTwo_15 : decode cX11_goTwo 15 = .ok (.ishl, 1) := by decide +kernel
theorem dX11_goTwo_16 : decode cX11_goTwo 16 = .ok (.iconst (-1), 1) := by decide +kernel
theorem dX11_goTwo_17 : decode cX11_goTwo 17 = .ok (.ixor, 1) := by decide +kernel
theorem dX11_goTwo_18 : decode cX11_goTwo 18 = .ok (.iand, 1) := by decide +kernel
theorem dX11_goTwo_19 : decode cX11_goTwo 19 = .ok (.istore 7, 2) := by decide +kernel
theorem dX11_goTwo_21 : decode cX11_goTwo 21 = .ok (.aload_n 0, 1) := by decide +kernel
theorem dX11_goTwo_22 : decode cX11_goTwo 22 = .ok (.iload 7, 2) := by decide +kernel
theorem dX11_goTwo_24 : decode cX11_goTwo 24 = .ok (.invokevirtual 273, 3) := by decide +kernel
theorem dX11_goTwo_27 : decode cX11_goTwo 27 = .ok (.lstore 8, 2) := by decide +kernel
theorem dX11_goTwo_29 : decode cX11_goTwo 29 = .ok (.aload_n 0, 1) := by decide +kernel
theorem dX11_goTwo_30 : decode cX11_goTwo 30 = .ok (.iload 6, 2) := by decide +kernel
theorem dX11_goTwo_32 : decode cX11_goTwo 32 = .ok (.iload 5, 2) := by decide +kernel
theorem dX11_goTwo_34 : decode cX11_goTwo 34 = .ok (.invokevirtual 266, 3) := by decide +kernel
theorem dX11_goTwo_37 : decode cX11_goTwo 37 = .ok (.ifCond .eq 42, 3) := by decide +kernel
theorem dX11_goTwo_40 : decode cX11_goTwo 40 = .ok (.aload_n 0, 1) := by decide +kernel
theorem dX11_goTwo_41 : decode cX11_goTwo 41 = .ok (.iload 5, 2) := by decide +kernel
theorem dX11_goTwo_43 : decode cX11_goTwo 43 = .ok (.invokevirtual 182, 3) := by decide +kernel
theorem dX11_goTwo_46 : decode cX11_goTwo 46 = .ok (.i2l, 1) := by decide +kernel
theorem dX11_goTwo_47 : decode cX11_goTwo 47 = .ok (.aload_n 0, 1) := by decide +kernel
theorem dX11_goTwo_48 : decode cX11_goTwo 48 = .ok (.iload 5, 2) := by decide +kernel
theorem dX11_goTwo_50 : decode cX11_goTwo 50 = .ok (.iconst (-1), 1) := by decide +kernel
theorem dX11_goTwo_51 : decode cX11_goTwo 51 = .ok (.invokevirtual 269, 3) := by decide +kernel
theorem dX11_goTwo_54 : decode cX11_goTwo 54 = .ok (.lload 8, 2) := by decide +kernel
theorem dX11_goTwo_56 : decode cX11_goTwo 56 = .ok (.lmul, 1) := by decide +kernel
theorem dX11_goTwo_57 : decode cX11_goTwo 57 = .ok (.aload_n 0, 1) := by decide +kernel
theorem dX11_goTwo_58 : decode cX11_goTwo 58 = .ok (.aload_n 0, 1) := by decide +kernel
theorem dX11_goTwo_59 : decode cX11_goTwo 59 = .ok (.getfield 35, 3) := by decide +kernel
theorem dX11_goTwo_62 : decode cX11_goTwo 62 = .ok (.bipush 6, 2) := by decide +kernel
theorem dX11_goTwo_64 : decode cX11_goTwo 64 = .ok (.iload 5, 2) := by decide +kernel
theorem dX11_goTwo_66 : decode cX11_goTwo 66 = .ok (.imul, 1) := by decide +kernel
theorem dX11_goTwo_67 : decode cX11_goTwo 67 = .ok (.iaload, 1) := by decide +kernel
theorem dX11_goTwo_68 : decode cX11_goTwo 68 = .ok (.iload 6, 2) := by decide +kernel
theorem dX11_goTwo_70 : decode cX11_goTwo 70 = .ok (.iload_n 3, 1) := by decide +kernel
theorem dX11_goTwo_71 : decode cX11_goTwo 71 = .ok (.iload 7, 2) := by decide +kernel
theorem dX11_goTwo_73 : decode cX11_goTwo 73 = .ok (.invokevirtual 276, 3) := by decide +kernel
theorem dX11_goTwo_76 : decode cX11_goTwo 76 = .ok (.ladd, 1) := by decide +kernel
theorem dX11_goTwo_77 : decode cX11_goTwo 77 = .ok (.lmul, 1) := by decide +kernel
theorem dX11_goTwo_78 : decode cX11_goTwo 78 = .ok (.lreturn, 1) := by decide +kernel
theorem dX11_goTwo_79 : decode cX11_goTwo 79 = .ok (.lconst 0, 1) := by decide +kernel
theorem dX11_goTwo_80 : decode cX11_goTwo 80 = .ok (.lstore 10, 2) := by decide +kernel
theorem dX11_goTwo_82 : decode cX11_goTwo 82 = .ok (.iconst 0, 1) := by decide +kernel
theorem dX11_goTwo_83 : decode cX11_goTwo 83 = .ok (.istore 12, 2) := by decide +kernel
theorem dX11_goTwo_85 : decode cX11_goTwo 85 = .ok (.iload 12, 2) := by decide +kernel
theorem dX11_goTwo_87 : decode cX11_goTwo 87 = .ok (.aload_n 0, 1) := by decide +kernel
theorem dX11_goTwo_88 : decode cX11_goTwo 88 = .ok (.getfield 38, 3) := by decide +kernel
theorem dX11_goTwo_91 : decode cX11_goTwo 91 = .ok (.iload 5, 2) := by decide +kernel
theorem dX11_goTwo_93 : decode cX11_goTwo 93 = .ok (.iaload, 1) := by decide +kernel
theorem dX11_goTwo_94 : decode cX11_goTwo 94 = .ok (.if_icmp .ge 94, 3) := by decide +kernel
theorem dX11_goTwo_97 : decode cX11_goTwo 97 = .ok (.aload_n 0, 1) := by decide +kernel
theorem dX11_goTwo_98 : decode cX11_goTwo 98 = .ok (.iload_n 3, 1) := by decide +kernel
theorem dX11_goTwo_99 : decode cX11_goTwo 99 = .ok (.iload 5, 2) := by decide +kernel
theorem dX11_goTwo_101 : decode cX11_goTwo 101 = .ok (.iload 12, 2) := by decide +kernel
theorem dX11_goTwo_103 : decode cX11_goTwo 103 = .ok (.invokevirtual 168, 3) := by decide +kernel
theorem dX11_goTwo_106 : decode cX11_goTwo 106 = .ok (.istore 13, 2) := by decide +kernel
theorem dX11_goTwo_108 : decode cX11_goTwo 108 = .ok (.lload 10, 2) := by decide +kernel
theorem dX11_goTwo_110 : decode cX11_goTwo 110 = .ok (.aload_n 0, 1) := by decide +kernel
theorem dX11_goTwo_111 : decode cX11_goTwo 111 = .ok (.getfield 41, 3) := by decide +kernel
theorem dX11_goTwo_114 : decode cX11_goTwo 114 = .ok (.bipush 16, 2) := by decide +kernel
theorem dX11_goTwo_116 : decode cX11_goTwo 116 = .ok (.iload 5, 2) := by decide +kernel
theorem dX11_goTwo_118 : decode cX11_goTwo 118 = .ok (.imul, 1) := by decide +kernel
theorem dX11_goTwo_119 : decode cX11_goTwo 119 = .ok (.iconst 4, 1) := by decide +kernel
theorem dX11_goTwo_120 : decode cX11_goTwo 120 = .ok (.iload 12, 2) := by decide +kernel
theorem dX11_goTwo_122 : decode cX11_goTwo 122 = .ok (.imul, 1) := by decide +kernel
theorem dX11_goTwo_123 : decode cX11_goTwo 123 = .ok (.iadd, 1) := by decide +kernel
theorem dX11_goTwo_124 : decode cX11_goTwo 124 = .ok (.iaload, 1) := by decide +kernel
theorem dX11_goTwo_125 : decode cX11_goTwo 125 = .ok (.i2l, 1) := by decide +kernel
theorem dX11_goTwo_126 : decode cX11_goTwo 126 = .ok (.aload_n 0, 1) := by decide +kernel
theorem dX11_goTwo_127 : decode cX11_goTwo 127 = .ok (.iload 5, 2) := by decide +kernel
theorem dX11_goTwo_129 : decode cX11_goTwo 129 = .ok (.iload 13, 2) := by decide +kernel
theorem dX11_goTwo_131 : decode cX11_goTwo 131 = .ok (.invokevirtual 269, 3) := by decide +kernel
theorem dX11_goTwo_134 : decode cX11_goTwo 134 = .ok (.lload 8, 2) := by decide +kernel
theorem dX11_goTwo_136 : decode cX11_goTwo 136 = .ok (.lmul, 1) := by decide +kernel
theorem dX11_goTwo_137 : decode cX11_goTwo 137 = .ok (.aload_n 0, 1) := by decide +kernel
theorem dX11_goTwo_138 : decode cX11_goTwo 138 = .ok (.aload_n 0, 1) := by decide +kernel
theorem dX11_goTwo_139 : decode cX11_goTwo 139 = .ok (.getfield 35, 3) := by decide +kernel
theorem dX11_goTwo_142 : decode cX11_goTwo 142 = .ok (.bipush 6, 2) := by decide +kernel
theorem dX11_goTwo_144 : decode cX11_goTwo 144 = .ok (.iload 5, 2) := by decide +kernel
theorem dX11_goTwo_146 : decode cX11_goTwo 146 = .ok (.imul, 1) := by decide +kernel
theorem dX11_goTwo_147 : decode cX11_goTwo 147 = .ok (.iaload, 1) := by decide +kernel
theorem dX11_goTwo_148 : decode cX11_goTwo 148 = .ok (.aload_n 0, 1) := by decide +kernel
theorem dX11_goTwo_149 : decode cX11_goTwo 149 = .ok (.iload 6, 2) := by decide +kernel
theorem dX11_goTwo_151 : decode cX11_goTwo 151 = .ok (.iload 5, 2) := by decide +kernel
theorem dX11_goTwo_153 : decode cX11_goTwo 153 = .ok (.iload 12, 2) := by decide +kernel
theorem dX11_goTwo_155 : decode cX11_goTwo 155 = .ok (.iload 13, 2) := by decide +kernel
theorem dX11_goTwo_157 : decode cX11_goTwo 157 = .ok (.invokevirtual 280, 3) := by decide +kernel
theorem dX11_goTwo_160 : decode cX11_goTwo 160 = .ok (.iload 13, 2) := by decide +kernel
theorem dX11_goTwo_162 : decode cX11_goTwo 162 = .ok (.iconst (-1), 1) := by decide +kernel
theorem dX11_goTwo_163 : decode cX11_goTwo 163 = .ok (.if_icmp .ne 7, 3) := by decide +kernel
theorem dX11_goTwo_166 : decode cX11_goTwo 166 = .ok (.iload_n 3, 1) := by decide +kernel
theorem dX11_goTwo_167 : decode cX11_goTwo 167 = .ok (.goto 5, 3) := by decide +kernel
theorem dX11_goTwo_170 : decode cX11_goTwo 170 = .ok (.iload 13, 2) := by decide +kernel
theorem dX11_goTwo_172 : decode cX11_goTwo 172 = .ok (.iload 7, 2) := by decide +kernel
theorem dX11_goTwo_174 : decode cX11_goTwo 174 = .ok (.invokevirtual 276, 3) := by decide +kernel
theorem dX11_goTwo_177 : decode cX11_goTwo 177 = .ok (.ladd, 1) := by decide +kernel
theorem dX11_goTwo_178 : decode cX11_goTwo 178 = .ok (.lmul, 1) := by decide +kernel
theorem dX11_goTwo_179 : decode cX11_goTwo 179 = .ok (.ladd, 1) := by decide +kernel
theorem dX11_goTwo_180 : decode cX11_goTwo 180 = .ok (.lstore 10, 2) := by decide +kernel
theorem dX11_goTwo_182 : decode cX11_goTwo 182 = .ok (.iinc 12 1, 3) := by decide +kernel
theorem dX11_goTwo_185 : decode cX11_goTwo 185 = .ok (.goto (-100), 3) := by decide +kernel
theorem dX11_goTwo_188 : decode cX11_goTwo 188 = .ok (.lload 10, 2) := by decide +kernel
theorem dX11_goTwo_190 : decode cX11_goTwo 190 = .ok (.lreturn, 1) := by decide +kernel
def f_X11_goTwo_172 (k_85 : St → Int32 → Int32 → Int32 → Int32 → Int64 → Int64 → Int32 → Option (Int64 × St)) (S : St) (x3 : Int32) (x5 : Int32) (x6 : Int32) (x7 : Int32) (x8 : Int64) (x12 : Int32) (t0 : Int64) (t1 : Int64) (t2 : Int64) (t4 : Int32) (t5 : Int32) (t6 : Int32) : Option (Int64 × St) :=
  obd2 (f_X11_one S t4 t5 t6 x7) fun r1 S1 =>
  bnd ((t0 + (t1 * (t2 + r1))) : Int64) fun v2 =>
  bnd (x12 + 1 : Int32) fun v3 =>
  k_85 S1 x3 x5 x6 x7 x8 v2 v3
def f_X11_goTwo_85 (k_85 : St → Int32 → Int32 → Int32 → Int32 → Int64 → Int64 → Int32 → Option (Int64 × St)) (S : St) (x3 : Int32) (x5 : Int32) (x6 : Int32) (x7 : Int32) (x8 : Int64) (x10 : Int64) (x12 : Int32) : Option (Int64 × St) :=
  chk (ixo x5 6) <|
  if (S.1 7 (x5).toNatClampNeg) ≤ x12 then (
    some (x10, S)
  ) else (
    obd2 (f_X11_leftOf S x3 x5 x12) fun r6 S6 =>
    chk (ixo ((16 * x5) + (4 * x12)) 96) <|
    obd2 (f_X11_got S6 x5 r6) fun r8 S8 =>
    chk (ixo (6 * x5) 36) <|
    obd2 (f_X11_then S8 x6 x5 x12 r6) fun r10 S10 =>
    if r6 = (-1) then (
      f_X11_goTwo_172 k_85 S10 x3 x5 x6 x7 x8 x12 x10 (((S6.1 8 (((16 * x5) + (4 * x12))).toNatClampNeg) : Int32).toInt64) (r8 * x8) (S8.1 6 ((6 * x5)).toNatClampNeg) r10 x3
    ) else (
      f_X11_goTwo_172 k_85 S10 x3 x5 x6 x7 x8 x12 x10 (((S6.1 8 (((16 * x5) + (4 * x12))).toNatClampNeg) : Int32).toInt64) (r8 * x8) (S8.1 6 ((6 * x5)).toNatClampNeg) r10 r6
    )
  )
def l_X11_goTwo_85 : Nat → St → Int32 → Int32 → Int32 → Int32 → Int64 → Int64 → Int32 → Option (Int64 × St)
  | 0, _, _, _, _, _, _, _, _ => none
  | fu + 1, S, x3, x5, x6, x7, x8, x10, x12 => f_X11_goTwo_85 (l_X11_goTwo_85 fu) S x3 x5 x6 x7 x8 x10 x12
def f_X11_goTwo (S : St) (x1 : Int32) (x2 : Int32) (x3 : Int32) (x4 : Int32) (x5 : Int32) : Option (Int64 × St) :=
  obd2 (f_X11_arrival S x1 x2 x5) fun r12 S12 =>
  bnd ((x4 &&& (((1 : Int32) <<< (x5 &&& 31)) ^^^ (-1))) : Int32) fun v13 =>
  obd2 (f_X11_totals S12 v13) fun r14 S14 =>
  obd2 (f_X11_isLate S14 r12 x5) fun r15 S15 =>
  if r15 = 0 then (
    l_X11_goTwo_85 FU S15 x3 x5 r12 v13 r14 (0) 0
  ) else (
    obd2 (f_X11_totalOf S15 x5) fun r17 S17 =>
    obd2 (f_X11_got S17 x5 (-1)) fun r18 S18 =>
    chk (ixo (6 * x5) 36) <|
    obd2 (f_X11_one S18 (S18.1 6 ((6 * x5)).toNatClampNeg) r12 x3 v13) fun r20 S20 =>
    some (((r17.toInt64) * ((r18 * r14) + r20)), S20)
  )
set_option maxHeartbeats 4000000 in
set_option maxRecDepth 100000 in
theorem c_X11_goTwo {l : Launch} {D : va_G} {cI cC cS : ClassId} {ad adK adV : Nat → Nat} {S S1 : St} {x1 : Int32} {x2 : Int32} {x3 : Int32} {x4 : Int32} {x5 : Int32} {r : Int64} (h : f_X11_goTwo S x1 x2 x3 x4 x5 = some (r, S1)) : Kt l D (mw cI ad) (KX D (xtys cI cC cS) adK adV) yX11_goTwo cX11_goTwo 14 (some .long) (3) (81) [.ref (ad 0), .int x1, .int x2, .int x3, .int x4, .int x5] S (some (.long r)) S1 := by
  refine k_ent (ins := .lreturn) (st := [.long r]) (by decide +kernel) (Nat.le_of_ble_eq_true rfl) ret_l ?_
  intro p e s m args below meth c A Q C hK I hA hq ls hl
  have C : CallFix p m c cX11_goTwo 14 s args TT RX11 := C
  have hx := C.1
  have hb := C.2.1
  have kx := kx_ok D (xtys cI cC cS) adK adV
  have hl : lv_has ls 14 [(0, .ref (ad 0)), (1, .int x1), (2, .int x2), (3, .int x3), (4, .int x4), (5, .int x5)] := hl
  have J_172 : ∀ (k_85 : St → Int32 → Int32 → Int32 → Int32 → Int64 → Int64 → Int32 → Option (Int64 × St)) (hk_85 : ∀ (S : St) (x3 : Int32) (x5 : Int32) (x6 : Int32) (x7 : Int32) (x8 : Int64) (x10 : Int64) (x12 : Int32), k_85 S x3 x5 x6 x7 x8 x10 x12 = some (r, S1) → ∀ (H : Heap) (locs : List Loc) (ls : Array Slot), Iv D (mw cI ad) S A s H locs → lv_has ls 14 [(0, .ref (ad 0)), (3, .int x3), (5, .int x5), (6, .int x6), (7, .int x7), (8, .long x8), (10, .long x10), (12, .int x12)] → W p l e ({ frames := 3, cells := 0, slots := 0, locals := 81 } : Room) s m args below meth c H locs 0 0 Q (F0 m 85 ls [])) (S : St) (x3 : Int32) (x5 : Int32) (x6 : Int32) (x7 : Int32) (x8 : Int64) (x12 : Int32) (t0 : Int64) (t1 : Int64) (t2 : Int64) (t4 : Int32) (t5 : Int32) (t6 : Int32), f_X11_goTwo_172 k_85 S x3 x5 x6 x7 x8 x12 t0 t1 t2 t4 t5 t6 = some (r, S1) → ∀ (H : Heap) (locs : List Loc) (ls : Array Slot), Iv D (mw cI ad) S A s H locs → lv_has ls 14 [(0, .ref (ad 0)), (3, .int x3), (5, .int x5), (6, .int x6), (7, .int x7), (8, .long x8), (12, .int x12)] → W p l e ({ frames := 3, cells := 0, slots := 0, locals := 81 } : Room) s m args below meth c H locs 0 0 Q (F0 m 172 ls [.int t6, .int t5, .int t4, .ref (ad 0), .long t2, .long t1, .long t0]) := by
    intro k_85 hk_85 S x3 x5 x6 x7 x8 x12 t0 t1 t2 t4 t5 t6 h H locs ls I hl
    unfold f_X11_goTwo_172 at h
    refine lv_iload hx hb dX11_goTwo_172 (lv_at hl 4 rfl) ?_
    obtain ⟨r1, S1, e1, h⟩ := obd2_ex h
    refine k_V (As := [.int t4, .int t5, .int t6, .int x7]) (rest := [.long t2, .long t1, .long t0]) (st1 := [.long r1, .long t2, .long t1, .long t0]) C kx hK I hA (c_X11_one e1) ⟨Nat.le_of_ble_eq_true rfl, Nat.le_of_ble_eq_true rfl⟩ mv_X11_one lk_X11_276 0 11 (mw_0 (cI := cI) (ad := ad)) rfl rfl hl.1 rfl (Nat.le_of_ble_eq_true rfl) dX11_goTwo_174 rfl (fun H locs I => ?_)
    refine lv_ladd hx hb dX11_goTwo_177 ?_
    refine lv_lmul hx hb dX11_goTwo_178 ?_
    refine lv_ladd hx hb dX11_goTwo_179 ?_
    refine lv_topl (fun v2 ev2 => ?_)
    have h := bnd_at ev2 h
    clear ev2
    refine lv_lstore (lv' := [(10, .long v2), (0, .ref (ad 0)), (3, .int x3), (5, .int x5), (6, .int x6), (7, .int x7), (8, .long x8), (12, .int x12)]) hx hb dX11_goTwo_180 hl (by decide) rfl (fun ls hl => ?_)
    obtain ⟨v3, ev3⟩ : ∃ y : Int32, y = x12 + 1 := ⟨_, rfl⟩
    have h := bnd_at ev3 h
    refine lv_iinc (v := v3) (lv' := [(12, .int v3), (10, .long v2), (0, .ref (ad 0)), (3, .int x3), (5, .int x5), (6, .int x6), (7, .int x7), (8, .long x8)]) hx hb dX11_goTwo_182 hl (k := 7) rfl (by rw [ev3]; rfl) (by decide) rfl (fun ls hl => ?_)
    clear ev3
    refine lv_goto (tgt := 85) hx hb dX11_goTwo_185 (by decide) ?_
    exact hk_85 _ _ _ _ _ _ _ _ h _ _ _ I (lv_sub hl [2, 3, 4, 5, 6, 7, 1, 0] rfl)
  have B_85 : ∀ (k_85 : St → Int32 → Int32 → Int32 → Int32 → Int64 → Int64 → Int32 → Option (Int64 × St)) (hk_85 : ∀ (S : St) (x3 : Int32) (x5 : Int32) (x6 : Int32) (x7 : Int32) (x8 : Int64) (x10 : Int64) (x12 : Int32), k_85 S x3 x5 x6 x7 x8 x10 x12 = some (r, S1) → ∀ (H : Heap) (locs : List Loc) (ls : Array Slot), Iv D (mw cI ad) S A s H locs → lv_has ls 14 [(0, .ref (ad 0)), (3, .int x3), (5, .int x5), (6, .int x6), (7, .int x7), (8, .long x8), (10, .long x10), (12, .int x12)] → W p l e ({ frames := 3, cells := 0, slots := 0, locals := 81 } : Room) s m args below meth c H locs 0 0 Q (F0 m 85 ls [])) (S : St) (x3 : Int32) (x5 : Int32) (x6 : Int32) (x7 : Int32) (x8 : Int64) (x10 : Int64) (x12 : Int32), f_X11_goTwo_85 k_85 S x3 x5 x6 x7 x8 x10 x12 = some (r, S1) → ∀ (H : Heap) (locs : List Loc) (ls : Array Slot), Iv D (mw cI ad) S A s H locs → lv_has ls 14 [(0, .ref (ad 0)), (3, .int x3), (5, .int x5), (6, .int x6), (7, .int x7), (8, .long x8), (10, .long x10), (12, .int x12)] → W p l e ({ frames := 3, cells := 0, slots := 0, locals := 81 } : Room) s m args below meth c H locs 0 0 Q (F0 m 85 ls []) := by
    intro k_85 hk_85 S x3 x5 x6 x7 x8 x10 x12 h H locs ls I hl
    unfold f_X11_goTwo_85 at h
    refine lv_iload hx hb dX11_goTwo_85 (lv_at hl 7 rfl) ?_
    refine lv_aload_n hx hb dX11_goTwo_87 rfl (lv_at hl 0 rfl) ?_
    refine gm_0_13 C hK I fl_X11_38 dX11_goTwo_88 ?_
    refine lv_iload hx hb dX11_goTwo_91 (lv_at hl 2 rfl) ?_
    obtain ⟨hv4, h⟩ := chk_ex h
    refine am_7 C hK I hv4 dX11_goTwo_93 ?_
    refine lv_icmp_ge (tgt := 188) hx hb dX11_goTwo_94 (by decide) (fun c5 => ?_) (fun c5 => ?_)
    · have h := ite_t c5 h
      refine lv_lload hx hb dX11_goTwo_188 (lv_at hl 6 rfl) ?_
      exact rt_l hq h I dX11_goTwo_190
    · have h := ite_n c5 h
      refine lv_aload_n hx hb dX11_goTwo_97 rfl (lv_at hl 0 rfl) ?_
      refine lv_iload_n hx hb dX11_goTwo_98 rfl (lv_at hl 1 rfl) ?_
      refine lv_iload hx hb dX11_goTwo_99 (lv_at hl 2 rfl) ?_
      refine lv_iload hx hb dX11_goTwo_101 (lv_at hl 7 rfl) ?_
      obtain ⟨r6, S6, e6, h⟩ := obd2_ex h
      refine k_V (As := [.int x3, .int x5, .int x12]) (rest := []) (st1 := [.int r6]) C kx hK I hA (c_X11_leftOf e6) ⟨Nat.le_of_ble_eq_true rfl, Nat.le_of_ble_eq_true rfl⟩ mv_X11_leftOf lk_X11_168 0 11 (mw_0 (cI := cI) (ad := ad)) rfl rfl hl.1 rfl (Nat.le_of_ble_eq_true rfl) dX11_goTwo_103 rfl (fun H locs I => ?_)
      refine lv_istore (lv' := [(13, .int r6), (0, .ref (ad 0)), (3, .int x3), (5, .int x5), (6, .int x6), (7, .int x7), (8, .long x8), (10, .long x10), (12, .int x12)]) hx hb dX11_goTwo_106 hl (by decide) rfl (fun ls hl => ?_)
      refine lv_lload hx hb dX11_goTwo_108 (lv_at hl 7 rfl) ?_
      refine lv_aload_n hx hb dX11_goTwo_110 rfl (lv_at hl 1 rfl) ?_
      refine gm_0_14 C hK I fl_X11_41 dX11_goTwo_111 ?_
      refine lv_bipush (v := 16) hx hb dX11_goTwo_114 (by decide) ?_
      refine lv_iload hx hb dX11_goTwo_116 (lv_at hl 3 rfl) ?_
      refine lv_imul hx hb dX11_goTwo_118 ?_
      refine lv_iconst (v := 4) hx hb dX11_goTwo_119 (by decide) ?_
      refine lv_iload hx hb dX11_goTwo_120 (lv_at hl 8 rfl) ?_
      refine lv_imul hx hb dX11_goTwo_122 ?_
      refine lv_iadd hx hb dX11_goTwo_123 ?_
      obtain ⟨hv7, h⟩ := chk_ex h
      refine am_8 C hK I hv7 dX11_goTwo_124 ?_
      refine lv_i2l hx hb dX11_goTwo_125 rfl ?_
      refine lv_aload_n hx hb dX11_goTwo_126 rfl (lv_at hl 1 rfl) ?_
      refine lv_iload hx hb dX11_goTwo_127 (lv_at hl 3 rfl) ?_
      refine lv_iload hx hb dX11_goTwo_129 (lv_at hl 0 rfl) ?_
      obtain ⟨r8, S8, e8, h⟩ := obd2_ex h
      refine k_V (As := [.int x5, .int r6]) (rest := [.long (((S6.1 8 (((16 * x5) + (4 * x12))).toNatClampNeg) : Int32).toInt64), .long x10]) (st1 := [.long r8, .long (((S6.1 8 (((16 * x5) + (4 * x12))).toNatClampNeg) : Int32).toInt64), .long x10]) C kx hK I hA (c_X11_got e8) ⟨Nat.le_of_ble_eq_true rfl, Nat.le_of_ble_eq_true rfl⟩ mv_X11_got lk_X11_269 0 11 (mw_0 (cI := cI) (ad := ad)) rfl rfl hl.1 rfl (Nat.le_of_ble_eq_true rfl) dX11_goTwo_131 rfl (fun H locs I => ?_)
      refine lv_lload hx hb dX11_goTwo_134 (lv_at hl 6 rfl) ?_
      refine lv_lmul hx hb dX11_goTwo_136 ?_
      refine lv_aload_n hx hb dX11_goTwo_137 rfl (lv_at hl 1 rfl) ?_
      refine lv_aload_n hx hb dX11_goTwo_138 rfl (lv_at hl 1 rfl) ?_
      refine gm_0_12 C hK I fl_X11_35 dX11_goTwo_139 ?_
      refine lv_bipush (v := 6) hx hb dX11_goTwo_142 (by decide) ?_
      refine lv_iload hx hb dX11_goTwo_144 (lv_at hl 3 rfl) ?_
      refine lv_imul hx hb dX11_goTwo_146 ?_
      obtain ⟨hv9, h⟩ := chk_ex h
      refine am_6 C hK I hv9 dX11_goTwo_147 ?_
      refine lv_aload_n hx hb dX11_goTwo_148 rfl (lv_at hl 1 rfl) ?_
      refine lv_iload hx hb dX11_goTwo_149 (lv_at hl 4 rfl) ?_
      refine lv_iload hx hb dX11_goTwo_151 (lv_at hl 3 rfl) ?_
      refine lv_iload hx hb dX11_goTwo_153 (lv_at hl 8 rfl) ?_
      refine lv_iload hx hb dX11_goTwo_155 (lv_at hl 0 rfl) ?_
      obtain ⟨r10, S10, e10, h⟩ := obd2_ex h
      refine k_V (As := [.int x6, .int x5, .int x12, .int r6]) (rest := [.int (S8.1 6 ((6 * x5)).toNatClampNeg), .ref (ad 0), .long (r8 * x8), .long (((S6.1 8 (((16 * x5) + (4 * x12))).toNatClampNeg) : Int32).toInt64), .long x10]) (st1 := [.int r10, .int (S8.1 6 ((6 * x5)).toNatClampNeg), .ref (ad 0), .long (r8 * x8), .long (((S6.1 8 (((16 * x5) + (4 * x12))).toNatClampNeg) : Int32).toInt64), .long x10]) C kx hK I hA (c_X11_then e10) ⟨Nat.le_of_ble_eq_true rfl, Nat.le_of_ble_eq_true rfl⟩ mv_X11_then lk_X11_280 0 11 (mw_0 (cI := cI) (ad := ad)) rfl rfl hl.1 rfl (Nat.le_of_ble_eq_true rfl) dX11_goTwo_157 rfl (fun H locs I => ?_)
      refine lv_iload hx hb dX11_goTwo_160 (lv_at hl 0 rfl) ?_
      refine lv_iconst (v := (-1)) hx hb dX11_goTwo_162 (by decide) ?_
      refine lv_icmp_ne (tgt := 170) hx hb dX11_goTwo_163 (by decide) (fun c11 => ?_) (fun c11 => ?_)
      · have h := ite_n c11 h
        refine lv_iload hx hb dX11_goTwo_170 (lv_at hl 0 rfl) ?_
        exact J_172 k_85 hk_85 _ _ _ _ _ _ _ _ _ _ _ _ _ h _ _ _ I (lv_sub hl [1, 2, 3, 4, 5, 6, 8] rfl)
      · have h := ite_t c11 h
        refine lv_iload_n hx hb dX11_goTwo_166 rfl (lv_at hl 2 rfl) ?_
        refine lv_goto (tgt := 172) hx hb dX11_goTwo_167 (by decide) ?_
        exact J_172 k_85 hk_85 _ _ _ _ _ _ _ _ _ _ _ _ _ h _ _ _ I (lv_sub hl [1, 2, 3, 4, 5, 6, 8] rfl)
  have J_85 : ∀ (fu : Nat) (S : St) (x3 : Int32) (x5 : Int32) (x6 : Int32) (x7 : Int32) (x8 : Int64) (x10 : Int64) (x12 : Int32), l_X11_goTwo_85  fu S x3 x5 x6 x7 x8 x10 x12 = some (r, S1) → ∀ (H : Heap) (locs : List Loc) (ls : Array Slot), Iv D (mw cI ad) S A s H locs → lv_has ls 14 [(0, .ref (ad 0)), (3, .int x3), (5, .int x5), (6, .int x6), (7, .int x7), (8, .long x8), (10, .long x10), (12, .int x12)] → W p l e ({ frames := 3, cells := 0, slots := 0, locals := 81 } : Room) s m args below meth c H locs 0 0 Q (F0 m 85 ls []) := by
    intro fu
    induction fu with
    | zero => intro S x3 x5 x6 x7 x8 x10 x12 h; cases h
    | succ fu ih => intro S x3 x5 x6 x7 x8 x10 x12 h; exact B_85 (l_X11_goTwo_85 fu) ih S x3 x5 x6 x7 x8 x10 x12 h
  unfold f_X11_goTwo at h
  refine lv_aload_n hx hb dX11_goTwo_0 rfl (lv_at hl 0 rfl) ?_
  refine lv_iload_n hx hb dX11_goTwo_1 rfl (lv_at hl 1 rfl) ?_
  refine lv_iload_n hx hb dX11_goTwo_2 rfl (lv_at hl 2 rfl) ?_
  refine lv_iload hx hb dX11_goTwo_3 (lv_at hl 5 rfl) ?_
  obtain ⟨r12, S12, e12, h⟩ := obd2_ex h
  refine k_V (As := [.int x1, .int x2, .int x5]) (rest := []) (st1 := [.int r12]) C kx hK I hA (c_X11_arrival e12) ⟨Nat.le_of_ble_eq_true rfl, Nat.le_of_ble_eq_true rfl⟩ mv_X11_arrival lk_X11_263 0 11 (mw_0 (cI := cI) (ad := ad)) rfl rfl hl.1 rfl (Nat.le_of_ble_eq_true rfl) dX11_goTwo_5 rfl (fun H locs I => ?_)
  refine lv_istore (lv' := [(6, .int r12), (0, .ref (ad 0)), (1, .int x1), (2, .int x2), (3, .int x3), (4, .int x4), (5, .int x5)]) hx hb dX11_goTwo_8 hl (by decide) rfl (fun ls hl => ?_)
  refine lv_iload hx hb dX11_goTwo_10 (lv_at hl 5 rfl) ?_
  refine lv_iconst (v := 1) hx hb dX11_goTwo_12 (by decide) ?_
  refine lv_iload hx hb dX11_goTwo_13 (lv_at hl 6 rfl) ?_
  refine lv_ishl hx hb dX11_goTwo_15 ?_
  refine lv_iconst (v := (-1)) hx hb dX11_goTwo_16 (by decide) ?_
  refine lv_ixor hx hb dX11_goTwo_17 ?_
  refine lv_iand hx hb dX11_goTwo_18 ?_
  refine lv_topi (fun v13 ev13 => ?_)
  have h := bnd_at ev13 h
  clear ev13
  refine lv_istore (lv' := [(7, .int v13), (6, .int r12), (0, .ref (ad 0)), (1, .int x1), (2, .int x2), (3, .int x3), (4, .int x4), (5, .int x5)]) hx hb dX11_goTwo_19 hl (by decide) rfl (fun ls hl => ?_)
  refine lv_aload_n hx hb dX11_goTwo_21 rfl (lv_at hl 2 rfl) ?_
  refine lv_iload hx hb dX11_goTwo_22 (lv_at hl 0 rfl) ?_
  obtain ⟨r14, S14, e14, h⟩ := obd2_ex h
  refine k_V (As := [.int v13]) (rest := []) (st1 := [.long r14]) C kx hK I hA (c_X11_totals e14) ⟨Nat.le_of_ble_eq_true rfl, Nat.le_of_ble_eq_true rfl⟩ mv_X11_totals lk_X11_273 0 11 (mw_0 (cI := cI) (ad := ad)) rfl rfl hl.1 rfl (Nat.le_of_ble_eq_true rfl) dX11_goTwo_24 rfl (fun H locs I => ?_)
  refine lv_lstore (lv' := [(8, .long r14), (7, .int v13), (6, .int r12), (0, .ref (ad 0)), (1, .int x1), (2, .int x2), (3, .int x3), (4, .int x4), (5, .int x5)]) hx hb dX11_goTwo_27 hl (by decide) rfl (fun ls hl => ?_)
  refine lv_aload_n hx hb dX11_goTwo_29 rfl (lv_at hl 3 rfl) ?_
  refine lv_iload hx hb dX11_goTwo_30 (lv_at hl 2 rfl) ?_
  refine lv_iload hx hb dX11_goTwo_32 (lv_at hl 8 rfl) ?_
  obtain ⟨r15, S15, e15, h⟩ := obd2_ex h
  refine k_V (As := [.int r12, .int x5]) (rest := []) (st1 := [.int r15]) C kx hK I hA (c_X11_isLate e15) ⟨Nat.le_of_ble_eq_true rfl, Nat.le_of_ble_eq_true rfl⟩ mv_X11_isLate lk_X11_266 0 11 (mw_0 (cI := cI) (ad := ad)) rfl rfl hl.1 rfl (Nat.le_of_ble_eq_true rfl) dX11_goTwo_34 rfl (fun H locs I => ?_)
  refine lv_if_eq (tgt := 79) hx hb dX11_goTwo_37 (by decide) (fun c16 => ?_) (fun c16 => ?_)
  · have h := ite_t c16 h
    refine lv_lconst (v := (0)) hx hb dX11_goTwo_79 (by decide) ?_
    refine lv_lstore (lv' := [(10, .long (0)), (8, .long r14), (7, .int v13), (6, .int r12), (0, .ref (ad 0)), (1, .int x1), (2, .int x2), (3, .int x3), (4, .int x4), (5, .int x5)]) hx hb dX11_goTwo_80 hl (by decide) rfl (fun ls hl => ?_)
    refine lv_iconst (v := 0) hx hb dX11_goTwo_82 (by decide) ?_
    refine lv_istore (lv' := [(12, .int 0), (10, .long (0)), (8, .long r14), (7, .int v13), (6, .int r12), (0, .ref (ad 0)), (1, .int x1), (2, .int x2), (3, .int x3), (4, .int x4), (5, .int x5)]) hx hb dX11_goTwo_83 hl (by decide) rfl (fun ls hl => ?_)
    exact J_85 _ _ _ _ _ _ _ _ _ h _ _ _ I (lv_sub hl [5, 8, 10, 4, 3, 2, 1, 0] rfl)
  · have h := ite_n c16 h
    refine lv_aload_n hx hb dX11_goTwo_40 rfl (lv_at hl 3 rfl) ?_
    refine lv_iload hx hb dX11_goTwo_41 (lv_at hl 8 rfl) ?_
    obtain ⟨r17, S17, e17, h⟩ := obd2_ex h
    refine k_V (As := [.int x5]) (rest := []) (st1 := [.int r17]) C kx hK I hA (c_X11_totalOf e17) ⟨Nat.le_of_ble_eq_true rfl, Nat.le_of_ble_eq_true rfl⟩ mv_X11_totalOf lk_X11_182 0 11 (mw_0 (cI := cI) (ad := ad)) rfl rfl hl.1 rfl (Nat.le_of_ble_eq_true rfl) dX11_goTwo_43 rfl (fun H locs I => ?_)
    refine lv_i2l hx hb dX11_goTwo_46 rfl ?_
    refine lv_aload_n hx hb dX11_goTwo_47 rfl (lv_at hl 3 rfl) ?_
    refine lv_iload hx hb dX11_goTwo_48 (lv_at hl 8 rfl) ?_
    refine lv_iconst (v := (-1)) hx hb dX11_goTwo_50 (by decide) ?_
    obtain ⟨r18, S18, e18, h⟩ := obd2_ex h
    refine k_V (As := [.int x5, .int (-1)]) (rest := [.long (r17.toInt64)]) (st1 := [.long r18, .long (r17.toInt64)]) C kx hK I hA (c_X11_got e18) ⟨Nat.le_of_ble_eq_true rfl, Nat.le_of_ble_eq_true rfl⟩ mv_X11_got lk_X11_269 0 11 (mw_0 (cI := cI) (ad := ad)) rfl rfl hl.1 rfl (Nat.le_of_ble_eq_true rfl) dX11_goTwo_51 rfl (fun H locs I => ?_)
    refine lv_lload hx hb dX11_goTwo_54 (lv_at hl 0 rfl) ?_
    refine lv_lmul hx hb dX11_goTwo_56 ?_
    refine lv_aload_n hx hb dX11_goTwo_57 rfl (lv_at hl 3 rfl) ?_
    refine lv_aload_n hx hb dX11_goTwo_58 rfl (lv_at hl 3 rfl) ?_
    refine gm_0_12 C hK I fl_X11_35 dX11_goTwo_59 ?_
    refine lv_bipush (v := 6) hx hb dX11_goTwo_62 (by decide) ?_
    refine lv_iload hx hb dX11_goTwo_64 (lv_at hl 8 rfl) ?_
    refine lv_imul hx hb dX11_goTwo_66 ?_
    obtain ⟨hv19, h⟩ := chk_ex h
    refine am_6 C hK I hv19 dX11_goTwo_67 ?_
    refine lv_iload hx hb dX11_goTwo_68 (lv_at hl 2 rfl) ?_
    refine lv_iload_n hx hb dX11_goTwo_70 rfl (lv_at hl 6 rfl) ?_
    refine lv_iload hx hb dX11_goTwo_71 (lv_at hl 1 rfl) ?_
    obtain ⟨r20, S20, e20, h⟩ := obd2_ex h
    refine k_V (As := [.int (S18.1 6 ((6 * x5)).toNatClampNeg), .int r12, .int x3, .int v13]) (rest := [.long (r18 * r14), .long (r17.toInt64)]) (st1 := [.long r20, .long (r18 * r14), .long (r17.toInt64)]) C kx hK I hA (c_X11_one e20) ⟨Nat.le_of_ble_eq_true rfl, Nat.le_of_ble_eq_true rfl⟩ mv_X11_one lk_X11_276 0 11 (mw_0 (cI := cI) (ad := ad)) rfl rfl hl.1 rfl (Nat.le_of_ble_eq_true rfl) dX11_goTwo_73 rfl (fun H locs I => ?_)
    refine lv_ladd hx hb dX11_goTwo_76 ?_
    refine lv_lmul hx hb dX11_goTwo_77 ?_
    exact rt_l hq h I dX11_goTwo_78
theorem lk_X11_284 : Cond.methodLink RX11 284 yX11_goTwo ∈ TT := tt_of 1477 (by decide +kernel) rfl
theorem mv_X11_goTwo : MV yX11_goTwo cX11_goTwo 14 (some .long) 5 := ⟨tt_of 1480 (by decide +kernel) rfl, tt_of 1479 (by decide +kernel) rfl, tt_of 59 (by decide +kernel) rfl, tt_of 76 (by decide +kernel) rfl, ⟨by decide +kernel, by decide +kernel, by decide +kernel⟩⟩
theorem dX11_two_0 : decode cX11_two 0 = .ok (.lconst 0, 1) := by decide +kernel
theorem dX11_two_1 : decode cX11_two 1 = .ok (.lstore 5, 2) := by decide +kernel
theorem dX11_two_3 : decode cX11_two 3 = .ok (.iconst 0, 1) := by decide +kernel
theorem dX11_two_4 : decode cX11_two 4 = .ok (.istore 7, 2) := by decide +kernel
theorem dX11_two_6 : decode cX11_two 6 = .ok (.iload 7, 2) := by decide +kernel
theorem dX11_two_8 : decode cX11_two 8 = .ok (.bipush 6, 2) := by decide +kernel
theorem dX11_two_10 : decode cX11_two 10 = .ok (.if_icmp .ge 53, 3) := by decide +kernel
theorem dX11_two_13 : decode cX11_two 13 = .ok (.iload 4, 2) := by decide +kernel
theorem dX11_two_15 : decode cX11_two 15 = .ok (.iload 7, 2) := by decide +kernel
theorem dX11_two_17 : decode cX11_two 17 = .ok (.invokestatic 85, 3) := by decide +kernel
theorem dX11_two_20 : decode cX11_two 20 = .ok (.ifCond .eq 17, 3) := by decide +kernel
theorem dX11_two_23 : decode cX11_two 23 = .ok (.aload_n 0, 1) := by decide +kernel
theorem dX11_two_24 : decode cX11_two 24 = .ok (.iload_n 1, 1) := by decide +kernel
theorem dX11_two_25 : decode cX11_two 25 = .ok (.iload_n 2, 1) := by decide +kernel
theorem dX11_two_26 : decode cX11_two 26 = .ok (.iload_n 3, 1) := by decide +kernel
theorem dX11_two_27 : decode cX11_two 27 = .ok (.iload 4, 2) := by decide +kernel
theorem dX11_two_29 : decode cX11_two 29 = .ok (.iload 7, 2) := by decide +kernel
theorem dX11_two_31 : decode cX11_two 31 = .ok (.invokevirtual 284, 3) := by decide +kernel
theorem dX11_two_34 : decode cX11_two 34 = .ok (.goto 4, 3) := by decide +kernel
theorem dX11_two_37 : decode cX11_two 37 = .ok (.lconst 0, 1) := by decide +kernel
theorem dX11_two_38 : decode cX11_two 38 = .ok (.lstore 8, 2) := by decide +kernel
theorem dX11_two_40 : decode cX11_two 40 = .ok (.lload 8, 2) := by decide +kernel
theorem dX11_two_42 : decode cX11_two 42 = .ok (.lload 5, 2) := by decide +kernel
theorem dX11_two_44 : decode cX11_two 44 = .ok (.lcmp, 1) := by decide +kernel
theorem dX11_two_45 : decode cX11_two 45 = .ok (.ifCond .le 8, 3) := by decide +kernel
theorem dX11_two_48 : decode cX11_two 48 = .ok (.lload 8, 2) := by decide +kernel
theorem dX11_two_50 : decode cX11_two 50 = .ok (.goto 5, 3) := by decide +kernel
theorem dX11_two_53 : decode cX11_two 53 = .ok (.lload 5, 2) := by decide +kernel
theorem dX11_two_55 : decode cX11_two 55 = .ok (.lstore 5, 2) := by decide +kernel
theorem dX11_two_57 : decode cX11_two 57 = .ok (.iinc 7 1, 3) := by decide +kernel
theorem dX11_two_60 : decode cX11_two 60 = .ok (.goto (-54), 3) := by decide +kernel
theorem dX11_two_63 : decode cX11_two 63 = .ok (.lload 5, 2) := by decide +kernel
theorem dX11_two_65 : decode cX11_two 65 = .ok (.lreturn, 1) := by decide +kernel
def f_X11_two_55 (k_6 : St → Int32 → Int32 → Int32 → Int32 → Int64 → Int32 → Option (Int64 × St)) (S : St) (x1 : Int32) (x2 : Int32) (x3 : Int32) (x4 : Int32) (x7 : Int32) (t0 : Int64) : Option (Int64 × St) :=
  bnd (x7 + 1 : Int32) fun v1 =>
  k_6 S x1 x2 x3 x4 t0 v1
def f_X11_two_38 (k_6 : St → Int32 → Int32 → Int32 → Int32 → Int64 → Int32 → Option (Int64 × St)) (S : St) (x1 : Int32) (x2 : Int32) (x3 : Int32) (x4 : Int32) (x5 : Int64) (x7 : Int32) (t0 : Int64) : Option (Int64 × St) :=
  if (lg_cmp t0 x5) ≤ 0 then (
    f_X11_two_55 k_6 S x1 x2 x3 x4 x7 x5
  ) else (
    f_X11_two_55 k_6 S x1 x2 x3 x4 x7 t0
  )
def f_X11_two_6 (k_6 : St → Int32 → Int32 → Int32 → Int32 → Int64 → Int32 → Option (Int64 × St)) (S : St) (x1 : Int32) (x2 : Int32) (x3 : Int32) (x4 : Int32) (x5 : Int64) (x7 : Int32) : Option (Int64 × St) :=
  if 6 ≤ x7 then (
    some (x5, S)
  ) else (
    obd2 (f_X11_has S x4 x7) fun r4 S4 =>
    if r4 = 0 then (
      f_X11_two_38 k_6 S4 x1 x2 x3 x4 x5 x7 (0)
    ) else (
      obd2 (f_X11_goTwo S4 x1 x2 x3 x4 x7) fun r6 S6 =>
      f_X11_two_38 k_6 S6 x1 x2 x3 x4 x5 x7 r6
    )
  )
def l_X11_two_6 : Nat → St → Int32 → Int32 → Int32 → Int32 → Int64 → Int32 → Option (Int64 × St)
  | 0, _, _, _, _, _, _, _ => none
  | fu + 1, S, x1, x2, x3, x4, x5, x7 => f_X11_two_6 (l_X11_two_6 fu) S x1 x2 x3 x4 x5 x7
def f_X11_two (S : St) (x1 : Int32) (x2 : Int32) (x3 : Int32) (x4 : Int32) : Option (Int64 × St) :=
  l_X11_two_6 FU S x1 x2 x3 x4 (0) 0
set_option maxHeartbeats 4000000 in
set_option maxRecDepth 100000 in
theorem c_X11_two {l : Launch} {D : va_G} {cI cC cS : ClassId} {ad adK adV : Nat → Nat} {S S1 : St} {x1 : Int32} {x2 : Int32} {x3 : Int32} {x4 : Int32} {r : Int64} (h : f_X11_two S x1 x2 x3 x4 = some (r, S1)) : Kt l D (mw cI ad) (KX D (xtys cI cC cS) adK adV) yX11_two cX11_two 10 (some .long) (4) (114) [.ref (ad 0), .int x1, .int x2, .int x3, .int x4] S (some (.long r)) S1 := by
  refine k_ent (ins := .lreturn) (st := [.long r]) (by decide +kernel) (Nat.le_of_ble_eq_true rfl) ret_l ?_
  intro p e s m args below meth c A Q C hK I hA hq ls hl
  have C : CallFix p m c cX11_two 10 s args TT RX11 := C
  have hx := C.1
  have hb := C.2.1
  have kx := kx_ok D (xtys cI cC cS) adK adV
  have hl : lv_has ls 10 [(0, .ref (ad 0)), (1, .int x1), (2, .int x2), (3, .int x3), (4, .int x4)] := hl
  have J_55 : ∀ (k_6 : St → Int32 → Int32 → Int32 → Int32 → Int64 → Int32 → Option (Int64 × St)) (hk_6 : ∀ (S : St) (x1 : Int32) (x2 : Int32) (x3 : Int32) (x4 : Int32) (x5 : Int64) (x7 : Int32), k_6 S x1 x2 x3 x4 x5 x7 = some (r, S1) → ∀ (H : Heap) (locs : List Loc) (ls : Array Slot), Iv D (mw cI ad) S A s H locs → lv_has ls 10 [(0, .ref (ad 0)), (1, .int x1), (2, .int x2), (3, .int x3), (4, .int x4), (5, .long x5), (7, .int x7)] → W p l e ({ frames := 4, cells := 0, slots := 0, locals := 114 } : Room) s m args below meth c H locs 0 0 Q (F0 m 6 ls [])) (S : St) (x1 : Int32) (x2 : Int32) (x3 : Int32) (x4 : Int32) (x7 : Int32) (t0 : Int64), f_X11_two_55 k_6 S x1 x2 x3 x4 x7 t0 = some (r, S1) → ∀ (H : Heap) (locs : List Loc) (ls : Array Slot), Iv D (mw cI ad) S A s H locs → lv_has ls 10 [(0, .ref (ad 0)), (1, .int x1), (2, .int x2), (3, .int x3), (4, .int x4), (7, .int x7)] → W p l e ({ frames := 4, cells := 0, slots := 0, locals := 114 } : Room) s m args below meth c H locs 0 0 Q (F0 m 55 ls [.long t0]) := by
    intro k_6 hk_6 S x1 x2 x3 x4 x7 t0 h H locs ls I hl
    unfold f_X11_two_55 at h
    refine lv_lstore (lv' := [(5, .long t0), (0, .ref (ad 0)), (1, .int x1), (2, .int x2), (3, .int x3), (4, .int x4), (7, .int x7)]) hx hb dX11_two_55 hl (by decide) rfl (fun ls hl => ?_)
    obtain ⟨v1, ev1⟩ : ∃ y : Int32, y = x7 + 1 := ⟨_, rfl⟩
    have h := bnd_at ev1 h
    refine lv_iinc (v := v1) (lv' := [(7, .int v1), (5, .long t0), (0, .ref (ad 0)), (1, .int x1), (2, .int x2), (3, .int x3), (4, .int x4)]) hx hb dX11_two_57 hl (k := 6) rfl (by rw [ev1]; rfl) (by decide) rfl (fun ls hl => ?_)
    clear ev1
    refine lv_goto (tgt := 6) hx hb dX11_two_60 (by decide) ?_
    exact hk_6 _ _ _ _ _ _ _ h _ _ _ I (lv_sub hl [2, 3, 4, 5, 6, 1, 0] rfl)
  have J_38 : ∀ (k_6 : St → Int32 → Int32 → Int32 → Int32 → Int64 → Int32 → Option (Int64 × St)) (hk_6 : ∀ (S : St) (x1 : Int32) (x2 : Int32) (x3 : Int32) (x4 : Int32) (x5 : Int64) (x7 : Int32), k_6 S x1 x2 x3 x4 x5 x7 = some (r, S1) → ∀ (H : Heap) (locs : List Loc) (ls : Array Slot), Iv D (mw cI ad) S A s H locs → lv_has ls 10 [(0, .ref (ad 0)), (1, .int x1), (2, .int x2), (3, .int x3), (4, .int x4), (5, .long x5), (7, .int x7)] → W p l e ({ frames := 4, cells := 0, slots := 0, locals := 114 } : Room) s m args below meth c H locs 0 0 Q (F0 m 6 ls [])) (S : St) (x1 : Int32) (x2 : Int32) (x3 : Int32) (x4 : Int32) (x5 : Int64) (x7 : Int32) (t0 : Int64), f_X11_two_38 k_6 S x1 x2 x3 x4 x5 x7 t0 = some (r, S1) → ∀ (H : Heap) (locs : List Loc) (ls : Array Slot), Iv D (mw cI ad) S A s H locs → lv_has ls 10 [(0, .ref (ad 0)), (1, .int x1), (2, .int x2), (3, .int x3), (4, .int x4), (5, .long x5), (7, .int x7)] → W p l e ({ frames := 4, cells := 0, slots := 0, locals := 114 } : Room) s m args below meth c H locs 0 0 Q (F0 m 38 ls [.long t0]) := by
    intro k_6 hk_6 S x1 x2 x3 x4 x5 x7 t0 h H locs ls I hl
    unfold f_X11_two_38 at h
    refine lv_lstore (lv' := [(8, .long t0), (0, .ref (ad 0)), (1, .int x1), (2, .int x2), (3, .int x3), (4, .int x4), (5, .long x5), (7, .int x7)]) hx hb dX11_two_38 hl (by decide) rfl (fun ls hl => ?_)
    refine lv_lload hx hb dX11_two_40 (lv_at hl 0 rfl) ?_
    refine lv_lload hx hb dX11_two_42 (lv_at hl 6 rfl) ?_
    refine W.lcmp hx hb dX11_two_44 ?_
    refine lv_if_le (tgt := 53) hx hb dX11_two_45 (by decide) (fun c2 => ?_) (fun c2 => ?_)
    · have h := ite_t c2 h
      refine lv_lload hx hb dX11_two_53 (lv_at hl 6 rfl) ?_
      exact J_55 k_6 hk_6 _ _ _ _ _ _ _ h _ _ _ I (lv_sub hl [1, 2, 3, 4, 5, 7] rfl)
    · have h := ite_n c2 h
      refine lv_lload hx hb dX11_two_48 (lv_at hl 0 rfl) ?_
      refine lv_goto (tgt := 55) hx hb dX11_two_50 (by decide) ?_
      exact J_55 k_6 hk_6 _ _ _ _ _ _ _ h _ _ _ I (lv_sub hl [1, 2, 3, 4, 5, 7] rfl)
  have B_6 : ∀ (k_6 : St → Int32 → Int32 → Int32 → Int32 → Int64 → Int32 → Option (Int64 × St)) (hk_6 : ∀ (S : St) (x1 : Int32) (x2 : Int32) (x3 : Int32) (x4 : Int32) (x5 : Int64) (x7 : Int32), k_6 S x1 x2 x3 x4 x5 x7 = some (r, S1) → ∀ (H : Heap) (locs : List Loc) (ls : Array Slot), Iv D (mw cI ad) S A s H locs → lv_has ls 10 [(0, .ref (ad 0)), (1, .int x1), (2, .int x2), (3, .int x3), (4, .int x4), (5, .long x5), (7, .int x7)] → W p l e ({ frames := 4, cells := 0, slots := 0, locals := 114 } : Room) s m args below meth c H locs 0 0 Q (F0 m 6 ls [])) (S : St) (x1 : Int32) (x2 : Int32) (x3 : Int32) (x4 : Int32) (x5 : Int64) (x7 : Int32), f_X11_two_6 k_6 S x1 x2 x3 x4 x5 x7 = some (r, S1) → ∀ (H : Heap) (locs : List Loc) (ls : Array Slot), Iv D (mw cI ad) S A s H locs → lv_has ls 10 [(0, .ref (ad 0)), (1, .int x1), (2, .int x2), (3, .int x3), (4, .int x4), (5, .long x5), (7, .int x7)] → W p l e ({ frames := 4, cells := 0, slots := 0, locals := 114 } : Room) s m args below meth c H locs 0 0 Q (F0 m 6 ls []) := by
    intro k_6 hk_6 S x1 x2 x3 x4 x5 x7 h H locs ls I hl
    unfold f_X11_two_6 at h
    refine lv_iload hx hb dX11_two_6 (lv_at hl 6 rfl) ?_
    refine lv_bipush (v := 6) hx hb dX11_two_8 (by decide) ?_
    refine lv_icmp_ge (tgt := 63) hx hb dX11_two_10 (by decide) (fun c3 => ?_) (fun c3 => ?_)
    · have h := ite_t c3 h
      refine lv_lload hx hb dX11_two_63 (lv_at hl 5 rfl) ?_
      exact rt_l hq h I dX11_two_65
    · have h := ite_n c3 h
      refine lv_iload hx hb dX11_two_13 (lv_at hl 4 rfl) ?_
      refine lv_iload hx hb dX11_two_15 (lv_at hl 6 rfl) ?_
      obtain ⟨r4, S4, e4, h⟩ := obd2_ex h
      refine k_S (As := [.int x4, .int x7]) (rest := []) (st1 := [.int r4]) C kx hK I hA (c_X11_has e4) ⟨Nat.le_of_ble_eq_true rfl, Nat.le_of_ble_eq_true rfl⟩ ms_X11_has lk_X11_85 rfl hl.1 rfl (Nat.le_of_ble_eq_true rfl) dX11_two_17 rfl (fun H locs I => ?_)
      refine lv_if_eq (tgt := 37) hx hb dX11_two_20 (by decide) (fun c5 => ?_) (fun c5 => ?_)
      · have h := ite_t c5 h
        refine lv_lconst (v := (0)) hx hb dX11_two_37 (by decide) ?_
        exact J_38 k_6 hk_6 _ _ _ _ _ _ _ _ h _ _ _ I (lv_sub hl [0, 1, 2, 3, 4, 5, 6] rfl)
      · have h := ite_n c5 h
        refine lv_aload_n hx hb dX11_two_23 rfl (lv_at hl 0 rfl) ?_
        refine lv_iload_n hx hb dX11_two_24 rfl (lv_at hl 1 rfl) ?_
        refine lv_iload_n hx hb dX11_two_25 rfl (lv_at hl 2 rfl) ?_
        refine lv_iload_n hx hb dX11_two_26 rfl (lv_at hl 3 rfl) ?_
        refine lv_iload hx hb dX11_two_27 (lv_at hl 4 rfl) ?_
        refine lv_iload hx hb dX11_two_29 (lv_at hl 6 rfl) ?_
        obtain ⟨r6, S6, e6, h⟩ := obd2_ex h
        refine k_V (As := [.int x1, .int x2, .int x3, .int x4, .int x7]) (rest := []) (st1 := [.long r6]) C kx hK I hA (c_X11_goTwo e6) ⟨Nat.le_of_ble_eq_true rfl, Nat.le_of_ble_eq_true rfl⟩ mv_X11_goTwo lk_X11_284 0 11 (mw_0 (cI := cI) (ad := ad)) rfl rfl hl.1 rfl (Nat.le_of_ble_eq_true rfl) dX11_two_31 rfl (fun H locs I => ?_)
        refine lv_goto (tgt := 38) hx hb dX11_two_34 (by decide) ?_
        exact J_38 k_6 hk_6 _ _ _ _ _ _ _ _ h _ _ _ I (lv_sub hl [0, 1, 2, 3, 4, 5, 6] rfl)
  have J_6 : ∀ (fu : Nat) (S : St) (x1 : Int32) (x2 : Int32) (x3 : Int32) (x4 : Int32) (x5 : Int64) (x7 : Int32), l_X11_two_6  fu S x1 x2 x3 x4 x5 x7 = some (r, S1) → ∀ (H : Heap) (locs : List Loc) (ls : Array Slot), Iv D (mw cI ad) S A s H locs → lv_has ls 10 [(0, .ref (ad 0)), (1, .int x1), (2, .int x2), (3, .int x3), (4, .int x4), (5, .long x5), (7, .int x7)] → W p l e ({ frames := 4, cells := 0, slots := 0, locals := 114 } : Room) s m args below meth c H locs 0 0 Q (F0 m 6 ls []) := by
    intro fu
    induction fu with
    | zero => intro S x1 x2 x3 x4 x5 x7 h; cases h
    | succ fu ih => intro S x1 x2 x3 x4 x5 x7 h; exact B_6 (l_X11_two_6 fu) ih S x1 x2 x3 x4 x5 x7 h
  unfold f_X11_two at h
  refine lv_lconst (v := (0)) hx hb dX11_two_0 (by decide) ?_
  refine lv_lstore (lv' := [(5, .long (0)), (0, .ref (ad 0)), (1, .int x1), (2, .int x2), (3, .int x3), (4, .int x4)]) hx hb dX11_two_1 hl (by decide) rfl (fun ls hl => ?_)
  refine lv_iconst (v := 0) hx hb dX11_two_3 (by decide) ?_
  refine lv_istore (lv' := [(7, .int 0), (5, .long (0)), (0, .ref (ad 0)), (1, .int x1), (2, .int x2), (3, .int x3), (4, .int x4)]) hx hb dX11_two_4 hl (by decide) rfl (fun ls hl => ?_)
  exact J_6 _ _ _ _ _ _ _ _ h _ _ _ I (lv_sub hl [2, 3, 4, 5, 6, 1, 0] rfl)
theorem lk_X11_288 : Cond.methodLink RX11 288 yX11_two ∈ TT := tt_of 1473 (by decide +kernel) rfl
theorem mv_X11_two : MV yX11_two cX11_two 10 (some .long) 4 := ⟨tt_of 1476 (by decide +kernel) rfl, tt_of 1475 (by decide +kernel) rfl, tt_of 58 (by decide +kernel) rfl, tt_of 76 (by decide +kernel) rfl, ⟨by decide +kernel, by decide +kernel, by decide +kernel⟩⟩
theorem dX11_goThree_0 : decode cX11_goThree 0 = .ok (.aload_n 0, 1) := by decide +kernel
theorem dX11_goThree_1 : decode cX11_goThree 1 = .ok (.iload_n 1, 1) := by decide +kernel
theorem dX11_goThree_2 : decode cX11_goThree 2 = .ok (.iload_n 2, 1) := by decide +kernel
theorem dX11_goThree_3 : decode cX11_goThree 3 = .ok (.iload 5, 2) := by decide +kernel
theorem dX11_goThree_5 : decode cX11_goThree 5 = .ok (.invokevirtual 263, 3) := by decide +kernel
theorem dX11_goThree_8 : decode cX11_goThree 8 = .ok (.istore 6, 2) := by decide +kernel
theorem dX11_goThree_10 : decode cX11_goThree 10 = .ok (.iload 4, 2) := by decide +kernel
theorem dX11_goThree_12 : decode cX11_goThree 12 = .ok (.iconst 1, 1) := by decide +kernel
theorem dX11_goThree_13 : decode cX11_goThree 13 = .ok (.iload 5, 2) := by decide +kernel
theorem dX11_goThree_15 : decode cX11_goThree 15 = .ok (.ishl, 1) := by decide +kernel
theorem dX11_goThree_16 : decode cX11_goThree 16 = .ok (.iconst (-1), 1) := by decide +kernel
theorem dX11_goThree_17 : decode cX11_goThree 17 = .ok (.ixor, 1) := by decide +kernel
theorem dX11_goThree_18 : decode cX11_goThree 18 = .ok (.iand, 1) := by decide +kernel
theorem dX11_goThree_19 : decode cX11_goThree 19 = .ok (.istore 7, 2) := by decide +kernel
theorem dX11_goThree_21 : decode cX11_goThree 21 = .ok (.aload_n 0, 1) := by decide +kernel
theorem dX11_goThree_22 : decode cX11_goThree 22 = .ok (.iload 7, 2) := by decide +kernel
theorem dX11_goThree_24 : decode cX11_goThree 24 = .ok (.invokevirtual 273, 3) := by decide +kernel
theorem dX11_goThree_27 : decode cX11_goThree 27 = .ok (.lstore 8, 2) := by decide +kernel
theorem dX11_goThree_29 : decode cX11_goThree 29 = .ok (.aload_n 0, 1) := by decide +kernel
theorem dX11_goThree_30 : decode cX11_goThree 30 = .ok (.iload 6, 2) := by decide +kernel
theorem dX11_goThree_32 : decode cX11_goThree 32 = .ok (.iload 5, 2) := by decide +kernel
theorem dX11_goThree_34 : decode cX11_goThree 34 = .ok (.invokevirtual 266, 3) := by decide +kernel
theorem dX11_goThree_37 : decode cX11_goThree 37 = .ok (.ifCond .eq 42, 3) := by decide +kernel
theorem dX11_goThree_40 : decode cX11_goThree 40 = .ok (.aload_n 0, 1) := by decide +kernel
theorem dX11_goThree_41 : decode cX11_goThree 41 = .ok (.iload 5, 2) := by decide +kernel
theorem dX11_goThree_43 : decode cX11_goThree 43 = .ok (.invokevirtual 182, 3) := by decide +kernel
theorem dX11_goThree_46 : decode cX11_goThree 46 = .ok (.i2l, 1) := by decide +kernel
theorem dX11_goThree_47 : decode cX11_goThree 47 = .ok (.aload_n 0, 1) := by decide +kernel
theorem dX11_goThree_48 : decode cX11_goThree 48 = .ok (.iload 5, 2) := by decide +kernel
theorem dX11_goThree_50 : decode cX11_goThree 50 = .ok (.iconst (-1), 1) := by decide +kernel
theorem dX11_goThree_51 : decode cX11_goThree 51 = .ok (.invokevirtual 269, 3) := by decide +kernel
theorem dX11_goThree_54 : decode cX11_goThree 54 = .ok (.lload 8, 2) := by decide +kernel
theorem dX11_goThree_56 : decode cX11_goThree 56 = .ok (.lmul, 1) := by decide +kernel
theorem dX11_goThree_57 : decode cX11_goThree 57 = .ok (.aload_n 0, 1) := by decide +kernel
theorem dX11_goThree_58 : decode cX11_goThree 58 = .ok (.aload_n 0, 1) := by decide +kernel
theorem dX11_goThree_59 : decode cX11_goThree 59 = .ok (.getfield 35, 3) := by decide +kernel
theorem dX11_goThree_62 : decode cX11_goThree 62 = .ok (.bipush 6, 2) := by decide +kernel
theorem dX11_goThree_64 : decode cX11_goThree 64 = .ok (.iload 5, 2) := by decide +kernel
theorem dX11_goThree_66 : decode cX11_goThree 66 = .ok (.imul, 1) := by decide +kernel
theorem dX11_goThree_67 : decode cX11_goThree 67 = .ok (.iaload, 1) := by decide +kernel
theorem dX11_goThree_68 : decode cX11_goThree 68 = .ok (.iload 6, 2) := by decide +kernel
theorem dX11_goThree_70 : decode cX11_goThree 70 = .ok (.iload_n 3, 1) := by decide +kernel
theorem dX11_goThree_71 : decode cX11_goThree 71 = .ok (.iload 7, 2) := by decide +kernel
theorem dX11_goThree_73 : decode cX11_goThree 73 = .ok (.invokevirtual 288, 3) := by decide +kernel
theorem dX11_goThree_76 : decode cX11_goThree 76 = .ok (.ladd, 1) := by decide +kernel
theorem dX11_goThree_77 : decode cX11_goThree 77 = .ok (.lmul, 1) := by decide +kernel
theorem dX11_goThree_78 : decode cX11_goThree 78 = .ok (.lreturn, 1) := by decide +kernel
theorem dX11_goThree_79 : decode cX11_goThree 79 = .ok (.lconst 0, 1) := by decide +kernel
theorem dX11_goThree_80 : decode cX11_goThree 80 = .ok (.lstore 10, 2) := by decide +kernel
theorem dX11_goThree_82 : decode cX11_goThree 82 = .ok (.iconst 0, 1) := by decide +kernel
theorem dX11_goThree_83 : decode cX11_goThree 83 = .ok (.istore 12, 2) := by decide +kernel
theorem dX11_goThree_85 : decode cX11_goThree 85 = .ok (.iload 12, 2) := by decide +kernel
theorem dX11_goThree_87 : decode cX11_goThree 87 = .ok (.aload_n 0, 1) := by decide +kernel
theorem dX11_goThree_88 : decode cX11_goThree 88 = .ok (.getfield 38, 3) := by decide +kernel
theorem dX11_goThree_91 : decode cX11_goThree 91 = .ok (.iload 5, 2) := by decide +kernel
theorem dX11_goThree_93 : decode cX11_goThree 93 = .ok (.iaload, 1) := by decide +kernel
theorem dX11_goThree_94 : decode cX11_goThree 94 = .ok (.if_icmp .ge 94, 3) := by decide +kernel
theorem dX11_goThree_97 : decode cX11_goThree 97 = .ok (.aload_n 0, 1) := by decide +kernel
theorem dX11_goThree_98 : decode cX11_goThree 98 = .ok (.iload_n 3, 1) := by decide +kernel
theorem dX11_goThree_99 : decode cX11_goThree 99 = .ok (.iload 5, 2) := by decide +kernel
theorem dX11_goThree_101 : decode cX11_goThree 101 = .ok (.iload 12, 2) := by decide +kernel
theorem dX11_goThree_103 : decode cX11_goThree 103 = .ok (.invokevirtual 168, 3) := by decide +kernel
theorem dX11_goThree_106 : decode cX11_goThree 106 = .ok (.istore 13, 2) := by decide +kernel
theorem dX11_goThree_108 : decode cX11_goThree 108 = .ok (.lload 10, 2) := by decide +kernel
theorem dX11_goThree_110 : decode cX11_goThree 110 = .ok (.aload_n 0, 1) := by decide +kernel
theorem dX11_goThree_111 : decode cX11_goThree 111 = .ok (.getfield 41, 3) := by decide +kernel
theorem dX11_goThree_114 : decode cX11_goThree 114 = .ok (.bipush 16, 2) := by decide +kernel
theorem dX11_goThree_116 : decode cX11_goThree 116 = .ok (.iload 5, 2) := by decide +kernel
theorem dX11_goThree_118 : decode cX11_goThree 118 = .ok (.imul, 1) := by decide +kernel
theorem dX11_goThree_119 : decode cX11_goThree 119 = .ok (.iconst 4, 1) := by decide +kernel
theorem dX11_goThree_120 : decode cX11_goThree 120 = .ok (.iload 12, 2) := by decide +kernel
theorem dX11_goThree_122 : decode cX11_goThree 122 = .ok (.imul, 1) := by decide +kernel
theorem dX11_goThree_123 : decode cX11_goThree 123 = .ok (.iadd, 1) := by decide +kernel
theorem dX11_goThree_124 : decode cX11_goThree 124 = .ok (.iaload, 1) := by decide +kernel
theorem dX11_goThree_125 : decode cX11_goThree 125 = .ok (.i2l, 1) := by decide +kernel
theorem dX11_goThree_126 : decode cX11_goThree 126 = .ok (.aload_n 0, 1) := by decide +kernel
theorem dX11_goThree_127 : decode cX11_goThree 127 = .ok (.iload 5, 2) := by decide +kernel
theorem dX11_goThree_129 : decode cX11_goThree 129 = .ok (.iload 13, 2) := by decide +kernel
theorem dX11_goThree_131 : decode cX11_goThree 131 = .ok (.invokevirtual 269, 3) := by decide +kernel
theorem dX11_goThree_134 : decode cX11_goThree 134 = .ok (.lload 8, 2) := by decide +kernel
theorem dX11_goThree_136 : decode cX11_goThree 136 = .ok (.lmul, 1) := by decide +kernel
theorem dX11_goThree_137 : decode cX11_goThree 137 = .ok (.aload_n 0, 1) := by decide +kernel
theorem dX11_goThree_138 : decode cX11_goThree 138 = .ok (.aload_n 0, 1) := by decide +kernel
theorem dX11_goThree_139 : decode cX11_goThree 139 = .ok (.getfield 35, 3) := by decide +kernel
theorem dX11_goThree_142 : decode cX11_goThree 142 = .ok (.bipush 6, 2) := by decide +kernel
theorem dX11_goThree_144 : decode cX11_goThree 144 = .ok (.iload 5, 2) := by decide +kernel
theorem dX11_goThree_146 : decode cX11_goThree 146 = .ok (.imul, 1) := by decide +kernel
theorem dX11_goThree_147 : decode cX11_goThree 147 = .ok (.iaload, 1) := by decide +kernel
theorem dX11_goThree_148 : decode cX11_goThree 148 = .ok (.aload_n 0, 1) := by decide +kernel
theorem dX11_goThree_149 : decode cX11_goThree 149 = .ok (.iload 6, 2) := by decide +kernel
theorem dX11_goThree_151 : decode cX11_goThree 151 = .ok (.iload 5, 2) := by decide +kernel
theorem dX11_goThree_153 : decode cX11_goThree 153 = .ok (.iload 12, 2) := by decide +kernel
theorem dX11_goThree_155 : decode cX11_goThree 155 = .ok (.iload 13, 2) := by decide +kernel
theorem dX11_goThree_157 : decode cX11_goThree 157 = .ok (.invokevirtual 280, 3) := by decide +kernel
theorem dX11_goThree_160 : decode cX11_goThree 160 = .ok (.iload 13, 2) := by decide +kernel
theorem dX11_goThree_162 : decode cX11_goThree 162 = .ok (.iconst (-1), 1) := by decide +kernel
theorem dX11_goThree_163 : decode cX11_goThree 163 = .ok (.if_icmp .ne 7, 3) := by decide +kernel
theorem dX11_goThree_166 : decode cX11_goThree 166 = .ok (.iload_n 3, 1) := by decide +kernel
theorem dX11_goThree_167 : decode cX11_goThree 167 = .ok (.goto 5, 3) := by decide +kernel
theorem dX11_goThree_170 : decode cX11_goThree 170 = .ok (.iload 13, 2) := by decide +kernel
theorem dX11_goThree_172 : decode cX11_goThree 172 = .ok (.iload 7, 2) := by decide +kernel
theorem dX11_goThree_174 : decode cX11_goThree 174 = .ok (.invokevirtual 288, 3) := by decide +kernel
theorem dX11_goThree_177 : decode cX11_goThree 177 = .ok (.ladd, 1) := by decide +kernel
theorem dX11_goThree_178 : decode cX11_goThree 178 = .ok (.lmul, 1) := by decide +kernel
theorem dX11_goThree_179 : decode cX11_goThree 179 = .ok (.ladd, 1) := by decide +kernel
theorem dX11_goThree_180 : decode cX11_goThree 180 = .ok (.lstore 10, 2) := by decide +kernel
theorem dX11_goThree_182 : decode cX11_goThree 182 = .ok (.iinc 12 1, 3) := by decide +kernel
theorem dX11_goThree_185 : decode cX11_goThree 185 = .ok (.goto (-100), 3) := by decide +kernel
theorem dX11_goThree_188 : decode cX11_goThree 188 = .ok (.lload 10, 2) := by decide +kernel
theorem dX11_goThree_190 : decode cX11_goThree 190 = .ok (.lreturn, 1) := by decide +kernel
def f_X11_goThree_172 (k_85 : St → Int32 → Int32 → Int32 → Int32 → Int64 → Int64 → Int32 → Option (Int64 × St)) (S : St) (x3 : Int32) (x5 : Int32) (x6 : Int32) (x7 : Int32) (x8 : Int64) (x12 : Int32) (t0 : Int64) (t1 : Int64) (t2 : Int64) (t4 : Int32) (t5 : Int32) (t6 : Int32) : Option (Int64 × St) :=
  obd2 (f_X11_two S t4 t5 t6 x7) fun r1 S1 =>
  bnd ((t0 + (t1 * (t2 + r1))) : Int64) fun v2 =>
  bnd (x12 + 1 : Int32) fun v3 =>
  k_85 S1 x3 x5 x6 x7 x8 v2 v3
def f_X11_goThree_85 (k_85 : St → Int32 → Int32 → Int32 → Int32 → Int64 → Int64 → Int32 → Option (Int64 × St)) (S : St) (x3 : Int32) (x5 : Int32) (x6 : Int32) (x7 : Int32) (x8 : Int64) (x10 : Int64) (x12 : Int32) : Option (Int64 × St) :=
  chk (ixo x5 6) <|
  if (S.1 7 (x5).toNatClampNeg) ≤ x12 then (
    some (x10, S)
  ) else (
    obd2 (f_X11_leftOf S x3 x5 x12) fun r6 S6 =>
    chk (ixo ((16 * x5) + (4 * x12)) 96) <|
    obd2 (f_X11_got S6 x5 r6) fun r8 S8 =>
    chk (ixo (6 * x5) 36) <|
    obd2 (f_X11_then S8 x6 x5 x12 r6) fun r10 S10 =>
    if r6 = (-1) then (
      f_X11_goThree_172 k_85 S10 x3 x5 x6 x7 x8 x12 x10 (((S6.1 8 (((16 * x5) + (4 * x12))).toNatClampNeg) : Int32).toInt64) (r8 * x8) (S8.1 6 ((6 * x5)).toNatClampNeg) r10 x3
    ) else (
      f_X11_goThree_172 k_85 S10 x3 x5 x6 x7 x8 x12 x10 (((S6.1 8 (((16 * x5) + (4 * x12))).toNatClampNeg) : Int32).toInt64) (r8 * x8) (S8.1 6 ((6 * x5)).toNatClampNeg) r10 r6
    )
  )
def l_X11_goThree_85 : Nat → St → Int32 → Int32 → Int32 → Int32 → Int64 → Int64 → Int32 → Option (Int64 × St)
  | 0, _, _, _, _, _, _, _, _ => none
  | fu + 1, S, x3, x5, x6, x7, x8, x10, x12 => f_X11_goThree_85 (l_X11_goThree_85 fu) S x3 x5 x6 x7 x8 x10 x12
def f_X11_goThree (S : St) (x1 : Int32) (x2 : Int32) (x3 : Int32) (x4 : Int32) (x5 : Int32) : Option (Int64 × St) :=
  obd2 (f_X11_arrival S x1 x2 x5) fun r12 S12 =>
  bnd ((x4 &&& (((1 : Int32) <<< (x5 &&& 31)) ^^^ (-1))) : Int32) fun v13 =>
  obd2 (f_X11_totals S12 v13) fun r14 S14 =>
  obd2 (f_X11_isLate S14 r12 x5) fun r15 S15 =>
  if r15 = 0 then (
    l_X11_goThree_85 FU S15 x3 x5 r12 v13 r14 (0) 0
  ) else (
    obd2 (f_X11_totalOf S15 x5) fun r17 S17 =>
    obd2 (f_X11_got S17 x5 (-1)) fun r18 S18 =>
    chk (ixo (6 * x5) 36) <|
    obd2 (f_X11_two S18 (S18.1 6 ((6 * x5)).toNatClampNeg) r12 x3 v13) fun r20 S20 =>
    some (((r17.toInt64) * ((r18 * r14) + r20)), S20)
  )
set_option maxHeartbeats 4000000 in
set_option maxRecDepth 100000 in
theorem c_X11_goThree {l : Launch} {D : va_G} {cI cC cS : ClassId} {ad adK adV : Nat → Nat} {S S1 : St} {x1 : Int32} {x2 : Int32} {x3 : Int32} {x4 : Int32} {x5 : Int32} {r : Int64} (h : f_X11_goThree S x1 x2 x3 x4 x5 = some (r, S1)) : Kt l D (mw cI ad) (KX D (xtys cI cC cS) adK adV) yX11_goThree cX11_goThree 14 (some .long) (5) (143) [.ref (ad 0), .int x1, .int x2, .int x3, .int x4, .int x5] S (some (.long r)) S1 := by
  refine k_ent (ins := .lreturn) (st := [.long r]) (by decide +kernel) (Nat.le_of_ble_eq_true rfl) ret_l ?_
  intro p e s m args below meth c A Q C hK I hA hq ls hl
  have C : CallFix p m c cX11_goThree 14 s args TT RX11 := C
  have hx := C.1
  have hb := C.2.1
  have kx := kx_ok D (xtys cI cC cS) adK adV
  have hl : lv_has ls 14 [(0, .ref (ad 0)), (1, .int x1), (2, .int x2), (3, .int x3), (4, .int x4), (5, .int x5)] := hl
  have J_172 : ∀ (k_85 : St → Int32 → Int32 → Int32 → Int32 → Int64 → Int64 → Int32 → Option (Int64 × St)) (hk_85 : ∀ (S : St) (x3 : Int32) (x5 : Int32) (x6 : Int32) (x7 : Int32) (x8 : Int64) (x10 : Int64) (x12 : Int32), k_85 S x3 x5 x6 x7 x8 x10 x12 = some (r, S1) → ∀ (H : Heap) (locs : List Loc) (ls : Array Slot), Iv D (mw cI ad) S A s H locs → lv_has ls 14 [(0, .ref (ad 0)), (3, .int x3), (5, .int x5), (6, .int x6), (7, .int x7), (8, .long x8), (10, .long x10), (12, .int x12)] → W p l e ({ frames := 5, cells := 0, slots := 0, locals := 143 } : Room) s m args below meth c H locs 0 0 Q (F0 m 85 ls [])) (S : St) (x3 : Int32) (x5 : Int32) (x6 : Int32) (x7 : Int32) (x8 : Int64) (x12 : Int32) (t0 : Int64) (t1 : Int64) (t2 : Int64) (t4 : Int32) (t5 : Int32) (t6 : Int32), f_X11_goThree_172 k_85 S x3 x5 x6 x7 x8 x12 t0 t1 t2 t4 t5 t6 = some (r, S1) → ∀ (H : Heap) (locs : List Loc) (ls : Array Slot), Iv D (mw cI ad) S A s H locs → lv_has ls 14 [(0, .ref (ad 0)), (3, .int x3), (5, .int x5), (6, .int x6), (7, .int x7), (8, .long x8), (12, .int x12)] → W p l e ({ frames := 5, cells := 0, slots := 0, locals := 143 } : Room) s m args below meth c H locs 0 0 Q (F0 m 172 ls [.int t6, .int t5, .int t4, .ref (ad 0), .long t2, .long t1, .long t0]) := by
    intro k_85 hk_85 S x3 x5 x6 x7 x8 x12 t0 t1 t2 t4 t5 t6 h H locs ls I hl
    unfold f_X11_goThree_172 at h
    refine lv_iload hx hb dX11_goThree_172 (lv_at hl 4 rfl) ?_
    obtain ⟨r1, S1, e1, h⟩ := obd2_ex h
    refine k_V (As := [.int t4, .int t5, .int t6, .int x7]) (rest := [.long t2, .long t1, .long t0]) (st1 := [.long r1, .long t2, .long t1, .long t0]) C kx hK I hA (c_X11_two e1) ⟨Nat.le_of_ble_eq_true rfl, Nat.le_of_ble_eq_true rfl⟩ mv_X11_two lk_X11_288 0 11 (mw_0 (cI := cI) (ad := ad)) rfl rfl hl.1 rfl (Nat.le_of_ble_eq_true rfl) dX11_goThree_174 rfl (fun H locs I => ?_)
    refine lv_ladd hx hb dX11_goThree_177 ?_
    refine lv_lmul hx hb dX11_goThree_178 ?_
    refine lv_ladd hx hb dX11_goThree_179 ?_
    refine lv_topl (fun v2 ev2 => ?_)
    have h := bnd_at ev2 h
    clear ev2
    refine lv_lstore (lv' := [(10, .long v2), (0, .ref (ad 0)), (3, .int x3), (5, .int x5), (6, .int x6), (7, .int x7), (8, .long x8), (12, .int x12)]) hx hb dX11_goThree_180 hl (by decide) rfl (fun ls hl => ?_)
    obtain ⟨v3, ev3⟩ : ∃ y : Int32, y = x12 + 1 := ⟨_, rfl⟩
    have h := bnd_at ev3 h
    refine lv_iinc (v := v3) (lv' := [(12, .int v3), (10, .long v2), (0, .ref (ad 0)), (3, .int x3), (5, .int x5), (6, .int x6), (7, .int x7), (8, .long x8)]) hx hb dX11_goThree_182 hl (k := 7) rfl (by rw [ev3]; rfl) (by decide) rfl (fun ls hl => ?_)
    clear ev3
    refine lv_goto (tgt := 85) hx hb dX11_goThree_185 (by decide) ?_
    exact hk_85 _ _ _ _ _ _ _ _ h _ _ _ I (lv_sub hl [2, 3, 4, 5, 6, 7, 1, 0] rfl)
  have B_85 : ∀ (k_85 : St → Int32 → Int32 → Int32 → Int32 → Int64 → Int64 → Int32 → Option (Int64 × St)) (hk_85 : ∀ (S : St) (x3 : Int32) (x5 : Int32) (x6 : Int32) (x7 : Int32) (x8 : Int64) (x10 : Int64) (x12 : Int32), k_85 S x3 x5 x6 x7 x8 x10 x12 = some (r, S1) → ∀ (H : Heap) (locs : List Loc) (ls : Array Slot), Iv D (mw cI ad) S A s H locs → lv_has ls 14 [(0, .ref (ad 0)), (3, .int x3), (5, .int x5), (6, .int x6), (7, .int x7), (8, .long x8), (10, .long x10), (12, .int x12)] → W p l e ({ frames := 5, cells := 0, slots := 0, locals := 143 } : Room) s m args below meth c H locs 0 0 Q (F0 m 85 ls [])) (S : St) (x3 : Int32) (x5 : Int32) (x6 : Int32) (x7 : Int32) (x8 : Int64) (x10 : Int64) (x12 : Int32), f_X11_goThree_85 k_85 S x3 x5 x6 x7 x8 x10 x12 = some (r, S1) → ∀ (H : Heap) (locs : List Loc) (ls : Array Slot), Iv D (mw cI ad) S A s H locs → lv_has ls 14 [(0, .ref (ad 0)), (3, .int x3), (5, .int x5), (6, .int x6), (7, .int x7), (8, .long x8), (10, .long x10), (12, .int x12)] → W p l e ({ frames := 5, cells := 0, slots := 0, locals := 143 } : Room) s m args below meth c H locs 0 0 Q (F0 m 85 ls []) := by
    intro k_85 hk_85 S x3 x5 x6 x7 x8 x10 x12 h H locs ls I hl
    unfold f_X11_goThree_85 at h
    refine lv_iload hx hb dX11_goThree_85 (lv_at hl 7 rfl) ?_
    refine lv_aload_n hx hb dX11_goThree_87 rfl (lv_at hl 0 rfl) ?_
    refine gm_0_13 C hK I fl_X11_38 dX11_goThree_88 ?_
    refine lv_iload hx hb dX11_goThree_91 (lv_at hl 2 rfl) ?_
    obtain ⟨hv4, h⟩ := chk_ex h
    refine am_7 C hK I hv4 dX11_goThree_93 ?_
    refine lv_icmp_ge (tgt := 188) hx hb dX11_goThree_94 (by decide) (fun c5 => ?_) (fun c5 => ?_)
    · have h := ite_t c5 h
      refine lv_lload hx hb dX11_goThree_188 (lv_at hl 6 rfl) ?_
      exact rt_l hq h I dX11_goThree_190
    · have h := ite_n c5 h
      refine lv_aload_n hx hb dX11_goThree_97 rfl (lv_at hl 0 rfl) ?_
      refine lv_iload_n hx hb dX11_goThree_98 rfl (lv_at hl 1 rfl) ?_
      refine lv_iload hx hb dX11_goThree_99 (lv_at hl 2 rfl) ?_
      refine lv_iload hx hb dX11_goThree_101 (lv_at hl 7 rfl) ?_
      obtain ⟨r6, S6, e6, h⟩ := obd2_ex h
      refine k_V (As := [.int x3, .int x5, .int x12]) (rest := []) (st1 := [.int r6]) C kx hK I hA (c_X11_leftOf e6) ⟨Nat.le_of_ble_eq_true rfl, Nat.le_of_ble_eq_true rfl⟩ mv_X11_leftOf lk_X11_168 0 11 (mw_0 (cI := cI) (ad := ad)) rfl rfl hl.1 rfl (Nat.le_of_ble_eq_true rfl) dX11_goThree_103 rfl (fun H locs I => ?_)
      refine lv_istore (lv' := [(13, .int r6), (0, .ref (ad 0)), (3, .int x3), (5, .int x5), (6, .int x6), (7, .int x7), (8, .long x8), (10, .long x10), (12, .int x12)]) hx hb dX11_goThree_106 hl (by decide) rfl (fun ls hl => ?_)
      refine lv_lload hx hb dX11_goThree_108 (lv_at hl 7 rfl) ?_
      refine lv_aload_n hx hb dX11_goThree_110 rfl (lv_at hl 1 rfl) ?_
      refine gm_0_14 C hK I fl_X11_41 dX11_goThree_111 ?_
      refine lv_bipush (v := 16) hx hb dX11_goThree_114 (by decide) ?_
      refine lv_iload hx hb dX11_goThree_116 (lv_at hl 3 rfl) ?_
      refine lv_imul hx hb dX11_goThree_118 ?_
      refine lv_iconst (v := 4) hx hb dX11_goThree_119 (by decide) ?_
      refine lv_iload hx hb dX11_goThree_120 (lv_at hl 8 rfl) ?_
      refine lv_imul hx hb dX11_goThree_122 ?_
      refine lv_iadd hx hb dX11_goThree_123 ?_
      obtain ⟨hv7, h⟩ := chk_ex h
      refine am_8 C hK I hv7 dX11_goThree_124 ?_
      refine lv_i2l hx hb dX11_goThree_125 rfl ?_
      refine lv_aload_n hx hb dX11_goThree_126 rfl (lv_at hl 1 rfl) ?_
      refine lv_iload hx hb dX11_goThree_127 (lv_at hl 3 rfl) ?_
      refine lv_iload hx hb dX11_goThree_129 (lv_at hl 0 rfl) ?_
      obtain ⟨r8, S8, e8, h⟩ := obd2_ex h
      refine k_V (As := [.int x5, .int r6]) (rest := [.long (((S6.1 8 (((16 * x5) + (4 * x12))).toNatClampNeg) : Int32).toInt64), .long x10]) (st1 := [.long r8, .long (((S6.1 8 (((16 * x5) + (4 * x12))).toNatClampNeg) : Int32).toInt64), .long x10]) C kx hK I hA (c_X11_got e8) ⟨Nat.le_of_ble_eq_true rfl, Nat.le_of_ble_eq_true rfl⟩ mv_X11_got lk_X11_269 0 11 (mw_0 (cI := cI) (ad := ad)) rfl rfl hl.1 rfl (Nat.le_of_ble_eq_true rfl) dX11_goThree_131 rfl (fun H locs I => ?_)
      refine lv_lload hx hb dX11_goThree_134 (lv_at hl 6 rfl) ?_
      refine lv_lmul hx hb dX11_goThree_136 ?_
      refine lv_aload_n hx hb dX11_goThree_137 rfl (lv_at hl 1 rfl) ?_
      refine lv_aload_n hx hb dX11_goThree_138 rfl (lv_at hl 1 rfl) ?_
      refine gm_0_12 C hK I fl_X11_35 dX11_goThree_139 ?_
      refine lv_bipush (v := 6) hx hb dX11_goThree_142 (by decide) ?_
      refine lv_iload hx hb dX11_goThree_144 (lv_at hl 3 rfl) ?_
      refine lv_imul hx hb dX11_goThree_146 ?_
      obtain ⟨hv9, h⟩ := chk_ex h
      refine am_6 C hK I hv9 dX11_goThree_147 ?_
      refine lv_aload_n hx hb dX11_goThree_148 rfl (lv_at hl 1 rfl) ?_
      refine lv_iload hx hb dX11_goThree_149 (lv_at hl 4 rfl) ?_
      refine lv_iload hx hb dX11_goThree_151 (lv_at hl 3 rfl) ?_
      refine lv_iload hx hb dX11_goThree_153 (lv_at hl 8 rfl) ?_
      refine lv_iload hx hb dX11_goThree_155 (lv_at hl 0 rfl) ?_
      obtain ⟨r10, S10, e10, h⟩ := obd2_ex h
      refine k_V (As := [.int x6, .int x5, .int x12, .int r6]) (rest := [.int (S8.1 6 ((6 * x5)).toNatClampNeg), .ref (ad 0), .long (r8 * x8), .long (((S6.1 8 (((16 * x5) + (4 * x12))).toNatClampNeg) : Int32).toInt64), .long x10]) (st1 := [.int r10, .int (S8.1 6 ((6 * x5)).toNatClampNeg), .ref (ad 0), .long (r8 * x8), .long (((S6.1 8 (((16 * x5) + (4 * x12))).toNatClampNeg) : Int32).toInt64), .long x10]) C kx hK I hA (c_X11_then e10) ⟨Nat.le_of_ble_eq_true rfl, Nat.le_of_ble_eq_true rfl⟩ mv_X11_then lk_X11_280 0 11 (mw_0 (cI := cI) (ad := ad)) rfl rfl hl.1 rfl (Nat.le_of_ble_eq_true rfl) dX11_goThree_157 rfl (fun H locs I => ?_)
      refine lv_iload hx hb dX11_goThree_160 (lv_at hl 0 rfl) ?_
      refine lv_iconst (v := (-1)) hx hb dX11_goThree_162 (by decide) ?_
      refine lv_icmp_ne (tgt := 170) hx hb dX11_goThree_163 (by decide) (fun c11 => ?_) (fun c11 => ?_)
      · have h := ite_n c11 h
        refine lv_iload hx hb dX11_goThree_170 (lv_at hl 0 rfl) ?_
        exact J_172 k_85 hk_85 _ _ _ _ _ _ _ _ _ _ _ _ _ h _ _ _ I (lv_sub hl [1, 2, 3, 4, 5, 6, 8] rfl)
      · have h := ite_t c11 h
        refine lv_iload_n hx hb dX11_goThree_166 rfl (lv_at hl 2 rfl) ?_
        refine lv_goto (tgt := 172) hx hb dX11_goThree_167 (by decide) ?_
        exact J_172 k_85 hk_85 _ _ _ _ _ _ _ _ _ _ _ _ _ h _ _ _ I (lv_sub hl [1, 2, 3, 4, 5, 6, 8] rfl)
  have J_85 : ∀ (fu : Nat) (S : St) (x3 : Int32) (x5 : Int32) (x6 : Int32) (x7 : Int32) (x8 : Int64) (x10 : Int64) (x12 : Int32), l_X11_goThree_85  fu S x3 x5 x6 x7 x8 x10 x12 = some (r, S1) → ∀ (H : Heap) (locs : List Loc) (ls : Array Slot), Iv D (mw cI ad) S A s H locs → lv_has ls 14 [(0, .ref (ad 0)), (3, .int x3), (5, .int x5), (6, .int x6), (7, .int x7), (8, .long x8), (10, .long x10), (12, .int x12)] → W p l e ({ frames := 5, cells := 0, slots := 0, locals := 143 } : Room) s m args below meth c H locs 0 0 Q (F0 m 85 ls []) := by
    intro fu
    induction fu with
    | zero => intro S x3 x5 x6 x7 x8 x10 x12 h; cases h
    | succ fu ih => intro S x3 x5 x6 x7 x8 x10 x12 h; exact B_85 (l_X11_goThree_85 fu) ih S x3 x5 x6 x7 x8 x10 x12 h
  unfold f_X11_goThree at h
  refine lv_aload_n hx hb dX11_goThree_0 rfl (lv_at hl 0 rfl) ?_
  refine lv_iload_n hx hb dX11_goThree_1 rfl (lv_at hl 1 rfl) ?_
  refine lv_iload_n hx hb dX11_goThree_2 rfl (lv_at hl 2 rfl) ?_
  refine lv_iload hx hb dX11_goThree_3 (lv_at hl 5 rfl) ?_
  obtain ⟨r12, S12, e12, h⟩ := obd2_ex h
  refine k_V (As := [.int x1, .int x2, .int x5]) (rest := []) (st1 := [.int r12]) C kx hK I hA (c_X11_arrival e12) ⟨Nat.le_of_ble_eq_true rfl, Nat.le_of_ble_eq_true rfl⟩ mv_X11_arrival lk_X11_263 0 11 (mw_0 (cI := cI) (ad := ad)) rfl rfl hl.1 rfl (Nat.le_of_ble_eq_true rfl) dX11_goThree_5 rfl (fun H locs I => ?_)
  refine lv_istore (lv' := [(6, .int r12), (0, .ref (ad 0)), (1, .int x1), (2, .int x2), (3, .int x3), (4, .int x4), (5, .int x5)]) hx hb dX11_goThree_8 hl (by decide) rfl (fun ls hl => ?_)
  refine lv_iload hx hb dX11_goThree_10 (lv_at hl 5 rfl) ?_
  refine lv_iconst (v := 1) hx hb dX11_goThree_12 (by decide) ?_
  refine lv_iload hx hb dX11_goThree_13 (lv_at hl 6 rfl) ?_
  refine lv_ishl hx hb dX11_goThree_15 ?_
  refine lv_iconst (v := (-1)) hx hb dX11_goThree_16 (by decide) ?_
  refine lv_ixor hx hb dX11_goThree_17 ?_
  refine lv_iand hx hb dX11_goThree_18 ?_
  refine lv_topi (fun v13 ev13 => ?_)
  have h := bnd_at ev13 h
  clear ev13
  refine lv_istore (lv' := [(7, .int v13), (6, .int r12), (0, .ref (ad 0)), (1, .int x1), (2, .int x2), (3, .int x3), (4, .int x4), (5, .int x5)]) hx hb dX11_goThree_19 hl (by decide) rfl (fun ls hl => ?_)
  refine lv_aload_n hx hb dX11_goThree_21 rfl (lv_at hl 2 rfl) ?_
  refine lv_iload hx hb dX11_goThree_22 (lv_at hl 0 rfl) ?_
  obtain ⟨r14, S14, e14, h⟩ := obd2_ex h
  refine k_V (As := [.int v13]) (rest := []) (st1 := [.long r14]) C kx hK I hA (c_X11_totals e14) ⟨Nat.le_of_ble_eq_true rfl, Nat.le_of_ble_eq_true rfl⟩ mv_X11_totals lk_X11_273 0 11 (mw_0 (cI := cI) (ad := ad)) rfl rfl hl.1 rfl (Nat.le_of_ble_eq_true rfl) dX11_goThree_24 rfl (fun H locs I => ?_)
  refine lv_lstore (lv' := [(8, .long r14), (7, .int v13), (6, .int r12), (0, .ref (ad 0)), (1, .int x1), (2, .int x2), (3, .int x3), (4, .int x4), (5, .int x5)]) hx hb dX11_goThree_27 hl (by decide) rfl (fun ls hl => ?_)
  refine lv_aload_n hx hb dX11_goThree_29 rfl (lv_at hl 3 rfl) ?_
  refine lv_iload hx hb dX11_goThree_30 (lv_at hl 2 rfl) ?_
  refine lv_iload hx hb dX11_goThree_32 (lv_at hl 8 rfl) ?_
  obtain ⟨r15, S15, e15, h⟩ := obd2_ex h
  refine k_V (As := [.int r12, .int x5]) (rest := []) (st1 := [.int r15]) C kx hK I hA (c_X11_isLate e15) ⟨Nat.le_of_ble_eq_true rfl, Nat.le_of_ble_eq_true rfl⟩ mv_X11_isLate lk_X11_266 0 11 (mw_0 (cI := cI) (ad := ad)) rfl rfl hl.1 rfl (Nat.le_of_ble_eq_true rfl) dX11_goThree_34 rfl (fun H locs I => ?_)
  refine lv_if_eq (tgt := 79) hx hb dX11_goThree_37 (by decide) (fun c16 => ?_) (fun c16 => ?_)
  · have h := ite_t c16 h
    refine lv_lconst (v := (0)) hx hb dX11_goThree_79 (by decide) ?_
    refine lv_lstore (lv' := [(10, .long (0)), (8, .long r14), (7, .int v13), (6, .int r12), (0, .ref (ad 0)), (1, .int x1), (2, .int x2), (3, .int x3), (4, .int x4), (5, .int x5)]) hx hb dX11_goThree_80 hl (by decide) rfl (fun ls hl => ?_)
    refine lv_iconst (v := 0) hx hb dX11_goThree_82 (by decide) ?_
    refine lv_istore (lv' := [(12, .int 0), (10, .long (0)), (8, .long r14), (7, .int v13), (6, .int r12), (0, .ref (ad 0)), (1, .int x1), (2, .int x2), (3, .int x3), (4, .int x4), (5, .int x5)]) hx hb dX11_goThree_83 hl (by decide) rfl (fun ls hl => ?_)
    exact J_85 _ _ _ _ _ _ _ _ _ h _ _ _ I (lv_sub hl [5, 8, 10, 4, 3, 2, 1, 0] rfl)
  · have h := ite_n c16 h
    refine lv_aload_n hx hb dX11_goThree_40 rfl (lv_at hl 3 rfl) ?_
    refine lv_iload hx hb dX11_goThree_41 (lv_at hl 8 rfl) ?_
    obtain ⟨r17, S17, e17, h⟩ := obd2_ex h
    refine k_V (As := [.int x5]) (rest := []) (st1 := [.int r17]) C kx hK I hA (c_X11_totalOf e17) ⟨Nat.le_of_ble_eq_true rfl, Nat.le_of_ble_eq_true rfl⟩ mv_X11_totalOf lk_X11_182 0 11 (mw_0 (cI := cI) (ad := ad)) rfl rfl hl.1 rfl (Nat.le_of_ble_eq_true rfl) dX11_goThree_43 rfl (fun H locs I => ?_)
    refine lv_i2l hx hb dX11_goThree_46 rfl ?_
    refine lv_aload_n hx hb dX11_goThree_47 rfl (lv_at hl 3 rfl) ?_
    refine lv_iload hx hb dX11_goThree_48 (lv_at hl 8 rfl) ?_
    refine lv_iconst (v := (-1)) hx hb dX11_goThree_50 (by decide) ?_
    obtain ⟨r18, S18, e18, h⟩ := obd2_ex h
    refine k_V (As := [.int x5, .int (-1)]) (rest := [.long (r17.toInt64)]) (st1 := [.long r18, .long (r17.toInt64)]) C kx hK I hA (c_X11_got e18) ⟨Nat.le_of_ble_eq_true rfl, Nat.le_of_ble_eq_true rfl⟩ mv_X11_got lk_X11_269 0 11 (mw_0 (cI := cI) (ad := ad)) rfl rfl hl.1 rfl (Nat.le_of_ble_eq_true rfl) dX11_goThree_51 rfl (fun H locs I => ?_)
    refine lv_lload hx hb dX11_goThree_54 (lv_at hl 0 rfl) ?_
    refine lv_lmul hx hb dX11_goThree_56 ?_
    refine lv_aload_n hx hb dX11_goThree_57 rfl (lv_at hl 3 rfl) ?_
    refine lv_aload_n hx hb dX11_goThree_58 rfl (lv_at hl 3 rfl) ?_
    refine gm_0_12 C hK I fl_X11_35 dX11_goThree_59 ?_
    refine lv_bipush (v := 6) hx hb dX11_goThree_62 (by decide) ?_
    refine lv_iload hx hb dX11_goThree_64 (lv_at hl 8 rfl) ?_
    refine lv_imul hx hb dX11_goThree_66 ?_
    obtain ⟨hv19, h⟩ := chk_ex h
    refine am_6 C hK I hv19 dX11_goThree_67 ?_
    refine lv_iload hx hb dX11_goThree_68 (lv_at hl 2 rfl) ?_
    refine lv_iload_n hx hb dX11_goThree_70 rfl (lv_at hl 6 rfl) ?_
    refine lv_iload hx hb dX11_goThree_71 (lv_at hl 1 rfl) ?_
    obtain ⟨r20, S20, e20, h⟩ := obd2_ex h
    refine k_V (As := [.int (S18.1 6 ((6 * x5)).toNatClampNeg), .int r12, .int x3, .int v13]) (rest := [.long (r18 * r14), .long (r17.toInt64)]) (st1 := [.long r20, .long (r18 * r14), .long (r17.toInt64)]) C kx hK I hA (c_X11_two e20) ⟨Nat.le_of_ble_eq_true rfl, Nat.le_of_ble_eq_true rfl⟩ mv_X11_two lk_X11_288 0 11 (mw_0 (cI := cI) (ad := ad)) rfl rfl hl.1 rfl (Nat.le_of_ble_eq_true rfl) dX11_goThree_73 rfl (fun H locs I => ?_)
    refine lv_ladd hx hb dX11_goThree_76 ?_
    refine lv_lmul hx hb dX11_goThree_77 ?_
    exact rt_l hq h I dX11_goThree_78
theorem lk_X11_291 : Cond.methodLink RX11 291 yX11_goThree ∈ TT := tt_of 1469 (by decide +kernel) rfl
theorem mv_X11_goThree : MV yX11_goThree cX11_goThree 14 (some .long) 5 := ⟨tt_of 1472 (by decide +kernel) rfl, tt_of 1471 (by decide +kernel) rfl, tt_of 57 (by decide +kernel) rfl, tt_of 76 (by decide +kernel) rfl, ⟨by decide +kernel, by decide +kernel, by decide +kernel⟩⟩
theorem dX11_three_0 : decode cX11_three 0 = .ok (.lconst 0, 1) := by decide +kernel
theorem dX11_three_1 : decode cX11_three 1 = .ok (.lstore 5, 2) := by decide +kernel
theorem dX11_three_3 : decode cX11_three 3 = .ok (.iconst 0, 1) := by decide +kernel
theorem dX11_three_4 : decode cX11_three 4 = .ok (.istore 7, 2) := by decide +kernel
theorem dX11_three_6 : decode cX11_three 6 = .ok (.iload 7, 2) := by decide +kernel
theorem dX11_three_8 : decode cX11_three 8 = .ok (.bipush 6, 2) := by decide +kernel
theorem dX11_three_10 : decode cX11_three 10 = .ok (.if_icmp .ge 53, 3) := by decide +kernel
theorem dX11_three_13 : decode cX11_three 13 = .ok (.iload 4, 2) := by decide +kernel
theorem dX11_three_15 : decode cX11_three 15 = .ok (.iload 7, 2) := by decide +kernel
theorem dX11_three_17 : decode cX11_three 17 = .ok (.invokestatic 85, 3) := by decide +kernel
theorem dX11_three_20 : decode cX11_three 20 = .ok (.ifCond .eq 17, 3) := by decide +kernel
theorem dX11_three_23 : decode cX11_three 23 = .ok (.aload_n 0, 1) := by decide +kernel
theorem dX11_three_24 : decode cX11_three 24 = .ok (.iload_n 1, 1) := by decide +kernel
theorem dX11_three_25 : decode cX11_three 25 = .ok (.iload_n 2, 1) := by decide +kernel
theorem dX11_three_26 : decode cX11_three 26 = .ok (.iload_n 3, 1) := by decide +kernel
theorem dX11_three_27 : decode cX11_three 27 = .ok (.iload 4, 2) := by decide +kernel
theorem dX11_three_29 : decode cX11_three 29 = .ok (.iload 7, 2) := by decide +kernel
theorem dX11_three_31 : decode cX11_three 31 = .ok (.invokevirtual 291, 3) := by decide +kernel
theorem dX11_three_34 : decode cX11_three 34 = .ok (.goto 4, 3) := by decide +kernel
theorem dX11_three_37 : decode cX11_three 37 = .ok (.lconst 0, 1) := by decide +kernel
theorem dX11_three_38 : decode cX11_three 38 = .ok (.lstore 8, 2) := by decide +kernel
theorem dX11_three_40 : decode cX11_three 40 = .ok (.lload 8, 2) := by decide +kernel
theorem dX11_three_42 : decode cX11_three 42 = .ok (.lload 5, 2) := by decide +kernel
theorem dX11_three_44 : decode cX11_three 44 = .ok (.lcmp, 1) := by decide +kernel
theorem dX11_three_45 : decode cX11_three 45 = .ok (.ifCond .le 8, 3) := by decide +kernel
theorem dX11_three_48 : decode cX11_three 48 = .ok (.lload 8, 2) := by decide +kernel
theorem dX11_three_50 : decode cX11_three 50 = .ok (.goto 5, 3) := by decide +kernel
theorem dX11_three_53 : decode cX11_three 53 = .ok (.lload 5, 2) := by decide +kernel
theorem dX11_three_55 : decode cX11_three 55 = .ok (.lstore 5, 2) := by decide +kernel
theorem dX11_three_57 : decode cX11_three 57 = .ok (.iinc 7 1, 3) := by decide +kernel
theorem dX11_three_60 : decode cX11_three 60 = .ok (.goto (-54), 3) := by decide +kernel
theorem dX11_three_63 : decode cX11_three 63 = .ok (.lload 5, 2) := by decide +kernel
theorem dX11_three_65 : decode cX11_three 65 = .ok (.lreturn, 1) := by decide +kernel
def f_X11_three_55 (k_6 : St → Int32 → Int32 → Int32 → Int32 → Int64 → Int32 → Option (Int64 × St)) (S : St) (x1 : Int32) (x2 : Int32) (x3 : Int32) (x4 : Int32) (x7 : Int32) (t0 : Int64) : Option (Int64 × St) :=
  bnd (x7 + 1 : Int32) fun v1 =>
  k_6 S x1 x2 x3 x4 t0 v1
def f_X11_three_38 (k_6 : St → Int32 → Int32 → Int32 → Int32 → Int64 → Int32 → Option (Int64 × St)) (S : St) (x1 : Int32) (x2 : Int32) (x3 : Int32) (x4 : Int32) (x5 : Int64) (x7 : Int32) (t0 : Int64) : Option (Int64 × St) :=
  if (lg_cmp t0 x5) ≤ 0 then (
    f_X11_three_55 k_6 S x1 x2 x3 x4 x7 x5
  ) else (
    f_X11_three_55 k_6 S x1 x2 x3 x4 x7 t0
  )
def f_X11_three_6 (k_6 : St → Int32 → Int32 → Int32 → Int32 → Int64 → Int32 → Option (Int64 × St)) (S : St) (x1 : Int32) (x2 : Int32) (x3 : Int32) (x4 : Int32) (x5 : Int64) (x7 : Int32) : Option (Int64 × St) :=
  if 6 ≤ x7 then (
    some (x5, S)
  ) else (
    obd2 (f_X11_has S x4 x7) fun r4 S4 =>
    if r4 = 0 then (
      f_X11_three_38 k_6 S4 x1 x2 x3 x4 x5 x7 (0)
    ) else (
      obd2 (f_X11_goThree S4 x1 x2 x3 x4 x7) fun r6 S6 =>
      f_X11_three_38 k_6 S6 x1 x2 x3 x4 x5 x7 r6
    )
  )
def l_X11_three_6 : Nat → St → Int32 → Int32 → Int32 → Int32 → Int64 → Int32 → Option (Int64 × St)
  | 0, _, _, _, _, _, _, _ => none
  | fu + 1, S, x1, x2, x3, x4, x5, x7 => f_X11_three_6 (l_X11_three_6 fu) S x1 x2 x3 x4 x5 x7
def f_X11_three (S : St) (x1 : Int32) (x2 : Int32) (x3 : Int32) (x4 : Int32) : Option (Int64 × St) :=
  l_X11_three_6 FU S x1 x2 x3 x4 (0) 0
set_option maxHeartbeats 4000000 in
set_option maxRecDepth 100000 in
theorem c_X11_three {l : Launch} {D : va_G} {cI cC cS : ClassId} {ad adK adV : Nat → Nat} {S S1 : St} {x1 : Int32} {x2 : Int32} {x3 : Int32} {x4 : Int32} {r : Int64} (h : f_X11_three S x1 x2 x3 x4 = some (r, S1)) : Kt l D (mw cI ad) (KX D (xtys cI cC cS) adK adV) yX11_three cX11_three 10 (some .long) (6) (176) [.ref (ad 0), .int x1, .int x2, .int x3, .int x4] S (some (.long r)) S1 := by
  refine k_ent (ins := .lreturn) (st := [.long r]) (by decide +kernel) (Nat.le_of_ble_eq_true rfl) ret_l ?_
  intro p e s m args below meth c A Q C hK I hA hq ls hl
  have C : CallFix p m c cX11_three 10 s args TT RX11 := C
  have hx := C.1
  have hb := C.2.1
  have kx := kx_ok D (xtys cI cC cS) adK adV
  have hl : lv_has ls 10 [(0, .ref (ad 0)), (1, .int x1), (2, .int x2), (3, .int x3), (4, .int x4)] := hl
  have J_55 : ∀ (k_6 : St → Int32 → Int32 → Int32 → Int32 → Int64 → Int32 → Option (Int64 × St)) (hk_6 : ∀ (S : St) (x1 : Int32) (x2 : Int32) (x3 : Int32) (x4 : Int32) (x5 : Int64) (x7 : Int32), k_6 S x1 x2 x3 x4 x5 x7 = some (r, S1) → ∀ (H : Heap) (locs : List Loc) (ls : Array Slot), Iv D (mw cI ad) S A s H locs → lv_has ls 10 [(0, .ref (ad 0)), (1, .int x1), (2, .int x2), (3, .int x3), (4, .int x4), (5, .long x5), (7, .int x7)] → W p l e ({ frames := 6, cells := 0, slots := 0, locals := 176 } : Room) s m args below meth c H locs 0 0 Q (F0 m 6 ls [])) (S : St) (x1 : Int32) (x2 : Int32) (x3 : Int32) (x4 : Int32) (x7 : Int32) (t0 : Int64), f_X11_three_55 k_6 S x1 x2 x3 x4 x7 t0 = some (r, S1) → ∀ (H : Heap) (locs : List Loc) (ls : Array Slot), Iv D (mw cI ad) S A s H locs → lv_has ls 10 [(0, .ref (ad 0)), (1, .int x1), (2, .int x2), (3, .int x3), (4, .int x4), (7, .int x7)] → W p l e ({ frames := 6, cells := 0, slots := 0, locals := 176 } : Room) s m args below meth c H locs 0 0 Q (F0 m 55 ls [.long t0]) := by
    intro k_6 hk_6 S x1 x2 x3 x4 x7 t0 h H locs ls I hl
    unfold f_X11_three_55 at h
    refine lv_lstore (lv' := [(5, .long t0), (0, .ref (ad 0)), (1, .int x1), (2, .int x2), (3, .int x3), (4, .int x4), (7, .int x7)]) hx hb dX11_three_55 hl (by decide) rfl (fun ls hl => ?_)
    obtain ⟨v1, ev1⟩ : ∃ y : Int32, y = x7 + 1 := ⟨_, rfl⟩
    have h := bnd_at ev1 h
    refine lv_iinc (v := v1) (lv' := [(7, .int v1), (5, .long t0), (0, .ref (ad 0)), (1, .int x1), (2, .int x2), (3, .int x3), (4, .int x4)]) hx hb dX11_three_57 hl (k := 6) rfl (by rw [ev1]; rfl) (by decide) rfl (fun ls hl => ?_)
    clear ev1
    refine lv_goto (tgt := 6) hx hb dX11_three_60 (by decide) ?_
    exact hk_6 _ _ _ _ _ _ _ h _ _ _ I (lv_sub hl [2, 3, 4, 5, 6, 1, 0] rfl)
  have J_38 : ∀ (k_6 : St → Int32 → Int32 → Int32 → Int32 → Int64 → Int32 → Option (Int64 × St)) (hk_6 : ∀ (S : St) (x1 : Int32) (x2 : Int32) (x3 : Int32) (x4 : Int32) (x5 : Int64) (x7 : Int32), k_6 S x1 x2 x3 x4 x5 x7 = some (r, S1) → ∀ (H : Heap) (locs : List Loc) (ls : Array Slot), Iv D (mw cI ad) S A s H locs → lv_has ls 10 [(0, .ref (ad 0)), (1, .int x1), (2, .int x2), (3, .int x3), (4, .int x4), (5, .long x5), (7, .int x7)] → W p l e ({ frames := 6, cells := 0, slots := 0, locals := 176 } : Room) s m args below meth c H locs 0 0 Q (F0 m 6 ls [])) (S : St) (x1 : Int32) (x2 : Int32) (x3 : Int32) (x4 : Int32) (x5 : Int64) (x7 : Int32) (t0 : Int64), f_X11_three_38 k_6 S x1 x2 x3 x4 x5 x7 t0 = some (r, S1) → ∀ (H : Heap) (locs : List Loc) (ls : Array Slot), Iv D (mw cI ad) S A s H locs → lv_has ls 10 [(0, .ref (ad 0)), (1, .int x1), (2, .int x2), (3, .int x3), (4, .int x4), (5, .long x5), (7, .int x7)] → W p l e ({ frames := 6, cells := 0, slots := 0, locals := 176 } : Room) s m args below meth c H locs 0 0 Q (F0 m 38 ls [.long t0]) := by
    intro k_6 hk_6 S x1 x2 x3 x4 x5 x7 t0 h H locs ls I hl
    unfold f_X11_three_38 at h
    refine lv_lstore (lv' := [(8, .long t0), (0, .ref (ad 0)), (1, .int x1), (2, .int x2), (3, .int x3), (4, .int x4), (5, .long x5), (7, .int x7)]) hx hb dX11_three_38 hl (by decide) rfl (fun ls hl => ?_)
    refine lv_lload hx hb dX11_three_40 (lv_at hl 0 rfl) ?_
    refine lv_lload hx hb dX11_three_42 (lv_at hl 6 rfl) ?_
    refine W.lcmp hx hb dX11_three_44 ?_
    refine lv_if_le (tgt := 53) hx hb dX11_three_45 (by decide) (fun c2 => ?_) (fun c2 => ?_)
    · have h := ite_t c2 h
      refine lv_lload hx hb dX11_three_53 (lv_at hl 6 rfl) ?_
      exact J_55 k_6 hk_6 _ _ _ _ _ _ _ h _ _ _ I (lv_sub hl [1, 2, 3, 4, 5, 7] rfl)
    · have h := ite_n c2 h
      refine lv_lload hx hb dX11_three_48 (lv_at hl 0 rfl) ?_
      refine lv_goto (tgt := 55) hx hb dX11_three_50 (by decide) ?_
      exact J_55 k_6 hk_6 _ _ _ _ _ _ _ h _ _ _ I (lv_sub hl [1, 2, 3, 4, 5, 7] rfl)
  have B_6 : ∀ (k_6 : St → Int32 → Int32 → Int32 → Int32 → Int64 → Int32 → Option (Int64 × St)) (hk_6 : ∀ (S : St) (x1 : Int32) (x2 : Int32) (x3 : Int32) (x4 : Int32) (x5 : Int64) (x7 : Int32), k_6 S x1 x2 x3 x4 x5 x7 = some (r, S1) → ∀ (H : Heap) (locs : List Loc) (ls : Array Slot), Iv D (mw cI ad) S A s H locs → lv_has ls 10 [(0, .ref (ad 0)), (1, .int x1), (2, .int x2), (3, .int x3), (4, .int x4), (5, .long x5), (7, .int x7)] → W p l e ({ frames := 6, cells := 0, slots := 0, locals := 176 } : Room) s m args below meth c H locs 0 0 Q (F0 m 6 ls [])) (S : St) (x1 : Int32) (x2 : Int32) (x3 : Int32) (x4 : Int32) (x5 : Int64) (x7 : Int32), f_X11_three_6 k_6 S x1 x2 x3 x4 x5 x7 = some (r, S1) → ∀ (H : Heap) (locs : List Loc) (ls : Array Slot), Iv D (mw cI ad) S A s H locs → lv_has ls 10 [(0, .ref (ad 0)), (1, .int x1), (2, .int x2), (3, .int x3), (4, .int x4), (5, .long x5), (7, .int x7)] → W p l e ({ frames := 6, cells := 0, slots := 0, locals := 176 } : Room) s m args below meth c H locs 0 0 Q (F0 m 6 ls []) := by
    intro k_6 hk_6 S x1 x2 x3 x4 x5 x7 h H locs ls I hl
    unfold f_X11_three_6 at h
    refine lv_iload hx hb dX11_three_6 (lv_at hl 6 rfl) ?_
    refine lv_bipush (v := 6) hx hb dX11_three_8 (by decide) ?_
    refine lv_icmp_ge (tgt := 63) hx hb dX11_three_10 (by decide) (fun c3 => ?_) (fun c3 => ?_)
    · have h := ite_t c3 h
      refine lv_lload hx hb dX11_three_63 (lv_at hl 5 rfl) ?_
      exact rt_l hq h I dX11_three_65
    · have h := ite_n c3 h
      refine lv_iload hx hb dX11_three_13 (lv_at hl 4 rfl) ?_
      refine lv_iload hx hb dX11_three_15 (lv_at hl 6 rfl) ?_
      obtain ⟨r4, S4, e4, h⟩ := obd2_ex h
      refine k_S (As := [.int x4, .int x7]) (rest := []) (st1 := [.int r4]) C kx hK I hA (c_X11_has e4) ⟨Nat.le_of_ble_eq_true rfl, Nat.le_of_ble_eq_true rfl⟩ ms_X11_has lk_X11_85 rfl hl.1 rfl (Nat.le_of_ble_eq_true rfl) dX11_three_17 rfl (fun H locs I => ?_)
      refine lv_if_eq (tgt := 37) hx hb dX11_three_20 (by decide) (fun c5 => ?_) (fun c5 => ?_)
      · have h := ite_t c5 h
        refine lv_lconst (v := (0)) hx hb dX11_three_37 (by decide) ?_
        exact J_38 k_6 hk_6 _ _ _ _ _ _ _ _ h _ _ _ I (lv_sub hl [0, 1, 2, 3, 4, 5, 6] rfl)
      · have h := ite_n c5 h
        refine lv_aload_n hx hb dX11_three_23 rfl (lv_at hl 0 rfl) ?_
        refine lv_iload_n hx hb dX11_three_24 rfl (lv_at hl 1 rfl) ?_
        refine lv_iload_n hx hb dX11_three_25 rfl (lv_at hl 2 rfl) ?_
        refine lv_iload_n hx hb dX11_three_26 rfl (lv_at hl 3 rfl) ?_
        refine lv_iload hx hb dX11_three_27 (lv_at hl 4 rfl) ?_
        refine lv_iload hx hb dX11_three_29 (lv_at hl 6 rfl) ?_
        obtain ⟨r6, S6, e6, h⟩ := obd2_ex h
        refine k_V (As := [.int x1, .int x2, .int x3, .int x4, .int x7]) (rest := []) (st1 := [.long r6]) C kx hK I hA (c_X11_goThree e6) ⟨Nat.le_of_ble_eq_true rfl, Nat.le_of_ble_eq_true rfl⟩ mv_X11_goThree lk_X11_291 0 11 (mw_0 (cI := cI) (ad := ad)) rfl rfl hl.1 rfl (Nat.le_of_ble_eq_true rfl) dX11_three_31 rfl (fun H locs I => ?_)
        refine lv_goto (tgt := 38) hx hb dX11_three_34 (by decide) ?_
        exact J_38 k_6 hk_6 _ _ _ _ _ _ _ _ h _ _ _ I (lv_sub hl [0, 1, 2, 3, 4, 5, 6] rfl)
  have J_6 : ∀ (fu : Nat) (S : St) (x1 : Int32) (x2 : Int32) (x3 : Int32) (x4 : Int32) (x5 : Int64) (x7 : Int32), l_X11_three_6  fu S x1 x2 x3 x4 x5 x7 = some (r, S1) → ∀ (H : Heap) (locs : List Loc) (ls : Array Slot), Iv D (mw cI ad) S A s H locs → lv_has ls 10 [(0, .ref (ad 0)), (1, .int x1), (2, .int x2), (3, .int x3), (4, .int x4), (5, .long x5), (7, .int x7)] → W p l e ({ frames := 6, cells := 0, slots := 0, locals := 176 } : Room) s m args below meth c H locs 0 0 Q (F0 m 6 ls []) := by
    intro fu
    induction fu with
    | zero => intro S x1 x2 x3 x4 x5 x7 h; cases h
    | succ fu ih => intro S x1 x2 x3 x4 x5 x7 h; exact B_6 (l_X11_three_6 fu) ih S x1 x2 x3 x4 x5 x7 h
  unfold f_X11_three at h
  refine lv_lconst (v := (0)) hx hb dX11_three_0 (by decide) ?_
  refine lv_lstore (lv' := [(5, .long (0)), (0, .ref (ad 0)), (1, .int x1), (2, .int x2), (3, .int x3), (4, .int x4)]) hx hb dX11_three_1 hl (by decide) rfl (fun ls hl => ?_)
  refine lv_iconst (v := 0) hx hb dX11_three_3 (by decide) ?_
  refine lv_istore (lv' := [(7, .int 0), (5, .long (0)), (0, .ref (ad 0)), (1, .int x1), (2, .int x2), (3, .int x3), (4, .int x4)]) hx hb dX11_three_4 hl (by decide) rfl (fun ls hl => ?_)
  exact J_6 _ _ _ _ _ _ _ _ h _ _ _ I (lv_sub hl [2, 3, 4, 5, 6, 1, 0] rfl)
theorem lk_X11_294 : Cond.methodLink RX11 294 yX11_three ∈ TT := tt_of 1465 (by decide +kernel) rfl
theorem mv_X11_three : MV yX11_three cX11_three 10 (some .long) 4 := ⟨tt_of 1468 (by decide +kernel) rfl, tt_of 1467 (by decide +kernel) rfl, tt_of 56 (by decide +kernel) rfl, tt_of 76 (by decide +kernel) rfl, ⟨by decide +kernel, by decide +kernel, by decide +kernel⟩⟩
theorem dX11_going_0 : decode cX11_going 0 = .ok (.aload_n 0, 1) := by decide +kernel
theorem dX11_going_1 : decode cX11_going 1 = .ok (.iload_n 1, 1) := by decide +kernel
theorem dX11_going_2 : decode cX11_going 2 = .ok (.iload_n 2, 1) := by decide +kernel
theorem dX11_going_3 : decode cX11_going 3 = .ok (.iload 5, 2) := by decide +kernel
theorem dX11_going_5 : decode cX11_going 5 = .ok (.invokevirtual 263, 3) := by decide +kernel
theorem dX11_going_8 : decode cX11_going 8 = .ok (.istore 6, 2) := by decide +kernel
theorem dX11_going_10 : decode cX11_going 10 = .ok (.iload 4, 2) := by decide +kernel
theorem dX11_going_12 : decode cX11_going 12 = .ok (.iconst 1, 1) := by decide +kernel
theorem dX11_going_13 : decode cX11_going 13 = .ok (.iload 5, 2) := by decide +kernel
theorem dX11_going_15 : decode cX11_going 15 = .ok (.ishl, 1) := by decide +kernel
theorem dX11_going_16 : decode cX11_going 16 = .ok (.iconst (-1), 1) := by decide +kernel
theorem dX11_going_17 : decode cX11_going 17 = .ok (.ixor, 1) := by decide +kernel
theorem dX11_going_18 : decode cX11_going 18 = .ok (.iand, 1) := by decide +kernel
theorem dX11_going_19 : decode cX11_going 19 = .ok (.istore 7, 2) := by decide +kernel
theorem dX11_going_21 : decode cX11_going 21 = .ok (.aload_n 0, 1) := by decide +kernel
theorem dX11_going_22 : decode cX11_going 22 = .ok (.iload 7, 2) := by decide +kernel
theorem dX11_going_24 : decode cX11_going 24 = .ok (.invokevirtual 273, 3) := by decide +kernel
theorem dX11_going_27 : decode cX11_going 27 = .ok (.lstore 8, 2) := by decide +kernel
theorem dX11_going_29 : decode cX11_going 29 = .ok (.aload_n 0, 1) := by decide +kernel
theorem dX11_going_30 : decode cX11_going 30 = .ok (.iload 6, 2) := by decide +kernel
theorem dX11_going_32 : decode cX11_going 32 = .ok (.iload 5, 2) := by decide +kernel
theorem dX11_going_34 : decode cX11_going 34 = .ok (.invokevirtual 266, 3) := by decide +kernel
theorem dX11_going_37 : decode cX11_going 37 = .ok (.ifCond .eq 42, 3) := by decide +kernel
theorem dX11_going_40 : decode cX11_going 40 = .ok (.aload_n 0, 1) := by decide +kernel
theorem dX11_going_41 : decode cX11_going 41 = .ok (.iload 5, 2) := by decide +kernel
theorem dX11_going_43 : decode cX11_going 43 = .ok (.invokevirtual 182, 3) := by decide +kernel
theorem dX11_going_46 : decode cX11_going 46 = .ok (.i2l, 1) := by decide +kernel
theorem dX11_going_47 : decode cX11_going 47 = .ok (.aload_n 0, 1) := by decide +kernel
theorem dX11_going_48 : decode cX11_going 48 = .ok (.iload 5, 2) := by decide +kernel
theorem dX11_going_50 : decode cX11_going 50 = .ok (.iconst (-1), 1) := by decide +kernel
theorem dX11_going_51 : decode cX11_going 51 = .ok (.invokevirtual 269, 3) := by decide +kernel
theorem dX11_going_54 : decode cX11_going 54 = .ok (.lload 8, 2) := by decide +kernel
theorem dX11_going_56 : decode cX11_going 56 = .ok (.lmul, 1) := by decide +kernel
theorem dX11_going_57 : decode cX11_going 57 = .ok (.aload_n 0, 1) := by decide +kernel
theorem dX11_going_58 : decode cX11_going 58 = .ok (.aload_n 0, 1) := by decide +kernel
theorem dX11_going_59 : decode cX11_going 59 = .ok (.getfield 35, 3) := by decide +kernel
theorem dX11_going_62 : decode cX11_going 62 = .ok (.bipush 6, 2) := by decide +kernel
theorem dX11_going_64 : decode cX11_going 64 = .ok (.iload 5, 2) := by decide +kernel
theorem dX11_going_66 : decode cX11_going 66 = .ok (.imul, 1) := by decide +kernel
theorem dX11_going_67 : decode cX11_going 67 = .ok (.iaload, 1) := by decide +kernel
theorem dX11_going_68 : decode cX11_going 68 = .ok (.iload 6, 2) := by decide +kernel
theorem dX11_going_70 : decode cX11_going 70 = .ok (.iload_n 3, 1) := by decide +kernel
theorem dX11_going_71 : decode cX11_going 71 = .ok (.iload 7, 2) := by decide +kernel
theorem dX11_going_73 : decode cX11_going 73 = .ok (.invokevirtual 294, 3) := by decide +kernel
theorem dX11_going_76 : decode cX11_going 76 = .ok (.ladd, 1) := by decide +kernel
theorem dX11_going_77 : decode cX11_going 77 = .ok (.lmul, 1) := by decide +kernel
theorem dX11_going_78 : decode cX11_going 78 = .ok (.lreturn, 1) := by decide +kernel
theorem dX11_going_79 : decode cX11_going 79 = .ok (.lconst 0, 1) := by decide +kernel
theorem dX11_going_80 : decode cX11_going 80 = .ok (.lstore 10, 2) := by decide +kernel
theorem dX11_going_82 : decode cX11_going 82 = .ok (.iconst 0, 1) := by decide +kernel
theorem dX11_going_83 : decode cX11_going 83 = .ok (.istore 12, 2) := by decide +kernel
theorem dX11_going_85 : decode cX11_going 85 = .ok (.iload 12, 2) := by decide +kernel
theorem dX11_going_87 : decode cX11_going 87 = .ok (.aload_n 0, 1) := by decide +kernel
theorem dX11_going_88 : decode cX11_going 88 = .ok (.getfield 38, 3) := by decide +kernel
theorem dX11_going_91 : decode cX11_going 91 = .ok (.iload 5, 2) := by decide +kernel
theorem dX11_going_93 : decode cX11_going 93 = .ok (.iaload, 1) := by decide +kernel
theorem dX11_going_94 : decode cX11_going 94 = .ok (.if_icmp .ge 94, 3) := by decide +kernel
theorem dX11_going_97 : decode cX11_going 97 = .ok (.aload_n 0, 1) := by decide +kernel
theorem dX11_going_98 : decode cX11_going 98 = .ok (.iload_n 3, 1) := by decide +kernel
theorem dX11_going_99 : decode cX11_going 99 = .ok (.iload 5, 2) := by decide +kernel
theorem dX11_going_101 : decode cX11_going 101 = .ok (.iload 12, 2) := by decide +kernel
theorem dX11_going_103 : decode cX11_going 103 = .ok (.invokevirtual 168, 3) := by decide +kernel
theorem dX11_going_106 : decode cX11_going 106 = .ok (.istore 13, 2) := by decide +kernel
theorem dX11_going_108 : decode cX11_going 108 = .ok (.lload 10, 2) := by decide +kernel
theorem dX11_going_110 : decode cX11_going 110 = .ok (.aload_n 0, 1) := by decide +kernel
theorem dX11_going_111 : decode cX11_going 111 = .ok (.getfield 41, 3) := by decide +kernel
theorem dX11_going_114 : decode cX11_going 114 = .ok (.bipush 16, 2) := by decide +kernel
theorem dX11_going_116 : decode cX11_going 116 = .ok (.iload 5, 2) := by decide +kernel
theorem dX11_going_118 : decode cX11_going 118 = .ok (.imul, 1) := by decide +kernel
theorem dX11_going_119 : decode cX11_going 119 = .ok (.iconst 4, 1) := by decide +kernel
theorem dX11_going_120 : decode cX11_going 120 = .ok (.iload 12, 2) := by decide +kernel
theorem dX11_going_122 : decode cX11_going 122 = .ok (.imul, 1) := by decide +kernel
theorem dX11_going_123 : decode cX11_going 123 = .ok (.iadd, 1) := by decide +kernel
theorem dX11_going_124 : decode cX11_going 124 = .ok (.iaload, 1) := by decide +kernel
theorem dX11_going_125 : decode cX11_going 125 = .ok (.i2l, 1) := by decide +kernel
theorem dX11_going_126 : decode cX11_going 126 = .ok (.aload_n 0, 1) := by decide +kernel
theorem dX11_going_127 : decode cX11_going 127 = .ok (.iload 5, 2) := by decide +kernel
theorem dX11_going_129 : decode cX11_going 129 = .ok (.iload 13, 2) := by decide +kernel
theorem dX11_going_131 : decode cX11_going 131 = .ok (.invokevirtual 269, 3) := by decide +kernel
theorem dX11_going_134 : decode cX11_going 134 = .ok (.lload 8, 2) := by decide +kernel
theorem dX11_going_136 : decode cX11_going 136 = .ok (.lmul, 1) := by decide +kernel
theorem dX11_going_137 : decode cX11_going 137 = .ok (.aload_n 0, 1) := by decide +kernel
theorem dX11_going_138 : decode cX11_going 138 = .ok (.aload_n 0, 1) := by decide +kernel
theorem dX11_going_139 : decode cX11_going 139 = .ok (.getfield 35, 3) := by decide +kernel
theorem dX11_going_142 : decode cX11_going 142 = .ok (.bipush 6, 2) := by decide +kernel
theorem dX11_going_144 : decode cX11_going 144 = .ok (.iload 5, 2) := by decide +kernel
theorem dX11_going_146 : decode cX11_going 146 = .ok (.imul, 1) := by decide +kernel
theorem dX11_going_147 : decode cX11_going 147 = .ok (.iaload, 1) := by decide +kernel
theorem dX11_going_148 : decode cX11_going 148 = .ok (.aload_n 0, 1) := by decide +kernel
theorem dX11_going_149 : decode cX11_going 149 = .ok (.iload 6, 2) := by decide +kernel
theorem dX11_going_151 : decode cX11_going 151 = .ok (.iload 5, 2) := by decide +kernel
theorem dX11_going_153 : decode cX11_going 153 = .ok (.iload 12, 2) := by decide +kernel
theorem dX11_going_155 : decode cX11_going 155 = .ok (.iload 13, 2) := by decide +kernel
theorem dX11_going_157 : decode cX11_going 157 = .ok (.invokevirtual 280, 3) := by decide +kernel
theorem dX11_going_160 : decode cX11_going 160 = .ok (.iload 13, 2) := by decide +kernel
theorem dX11_going_162 : decode cX11_going 162 = .ok (.iconst (-1), 1) := by decide +kernel
theorem dX11_going_163 : decode cX11_going 163 = .ok (.if_icmp .ne 7, 3) := by decide +kernel
theorem dX11_going_166 : decode cX11_going 166 = .ok (.iload_n 3, 1) := by decide +kernel
theorem dX11_going_167 : decode cX11_going 167 = .ok (.goto 5, 3) := by decide +kernel
theorem dX11_going_170 : decode cX11_going 170 = .ok (.iload 13, 2) := by decide +kernel
theorem dX11_going_172 : decode cX11_going 172 = .ok (.iload 7, 2) := by decide +kernel
theorem dX11_going_174 : decode cX11_going 174 = .ok (.invokevirtual 294, 3) := by decide +kernel
theorem dX11_going_177 : decode cX11_going 177 = .ok (.ladd, 1) := by decide +kernel
theorem dX11_going_178 : decode cX11_going 178 = .ok (.lmul, 1) := by decide +kernel
theorem dX11_going_179 : decode cX11_going 179 = .ok (.ladd, 1) := by decide +kernel
theorem dX11_going_180 : decode cX11_going 180 = .ok (.lstore 10, 2) := by decide +kernel
theorem dX11_going_182 : decode cX11_going 182 = .ok (.iinc 12 1, 3) := by decide +kernel
theorem dX11_going_185 : decode cX11_going 185 = .ok (.goto (-100), 3) := by decide +kernel
theorem dX11_going_188 : decode cX11_going 188 = .ok (.lload 10, 2) := by decide +kernel
theorem dX11_going_190 : decode cX11_going 190 = .ok (.lreturn, 1) := by decide +kernel
def f_X11_going_172 (k_85 : St → Int32 → Int32 → Int32 → Int32 → Int64 → Int64 → Int32 → Option (Int64 × St)) (S : St) (x3 : Int32) (x5 : Int32) (x6 : Int32) (x7 : Int32) (x8 : Int64) (x12 : Int32) (t0 : Int64) (t1 : Int64) (t2 : Int64) (t4 : Int32) (t5 : Int32) (t6 : Int32) : Option (Int64 × St) :=
  obd2 (f_X11_three S t4 t5 t6 x7) fun r1 S1 =>
  bnd ((t0 + (t1 * (t2 + r1))) : Int64) fun v2 =>
  bnd (x12 + 1 : Int32) fun v3 =>
  k_85 S1 x3 x5 x6 x7 x8 v2 v3
def f_X11_going_85 (k_85 : St → Int32 → Int32 → Int32 → Int32 → Int64 → Int64 → Int32 → Option (Int64 × St)) (S : St) (x3 : Int32) (x5 : Int32) (x6 : Int32) (x7 : Int32) (x8 : Int64) (x10 : Int64) (x12 : Int32) : Option (Int64 × St) :=
  chk (ixo x5 6) <|
  if (S.1 7 (x5).toNatClampNeg) ≤ x12 then (
    some (x10, S)
  ) else (
    obd2 (f_X11_leftOf S x3 x5 x12) fun r6 S6 =>
    chk (ixo ((16 * x5) + (4 * x12)) 96) <|
    obd2 (f_X11_got S6 x5 r6) fun r8 S8 =>
    chk (ixo (6 * x5) 36) <|
    obd2 (f_X11_then S8 x6 x5 x12 r6) fun r10 S10 =>
    if r6 = (-1) then (
      f_X11_going_172 k_85 S10 x3 x5 x6 x7 x8 x12 x10 (((S6.1 8 (((16 * x5) + (4 * x12))).toNatClampNeg) : Int32).toInt64) (r8 * x8) (S8.1 6 ((6 * x5)).toNatClampNeg) r10 x3
    ) else (
      f_X11_going_172 k_85 S10 x3 x5 x6 x7 x8 x12 x10 (((S6.1 8 (((16 * x5) + (4 * x12))).toNatClampNeg) : Int32).toInt64) (r8 * x8) (S8.1 6 ((6 * x5)).toNatClampNeg) r10 r6
    )
  )
def l_X11_going_85 : Nat → St → Int32 → Int32 → Int32 → Int32 → Int64 → Int64 → Int32 → Option (Int64 × St)
  | 0, _, _, _, _, _, _, _, _ => none
  | fu + 1, S, x3, x5, x6, x7, x8, x10, x12 => f_X11_going_85 (l_X11_going_85 fu) S x3 x5 x6 x7 x8 x10 x12
def f_X11_going (S : St) (x1 : Int32) (x2 : Int32) (x3 : Int32) (x4 : Int32) (x5 : Int32) : Option (Int64 × St) :=
  obd2 (f_X11_arrival S x1 x2 x5) fun r12 S12 =>
  bnd ((x4 &&& (((1 : Int32) <<< (x5 &&& 31)) ^^^ (-1))) : Int32) fun v13 =>
  obd2 (f_X11_totals S12 v13) fun r14 S14 =>
  obd2 (f_X11_isLate S14 r12 x5) fun r15 S15 =>
  if r15 = 0 then (
    l_X11_going_85 FU S15 x3 x5 r12 v13 r14 (0) 0
  ) else (
    obd2 (f_X11_totalOf S15 x5) fun r17 S17 =>
    obd2 (f_X11_got S17 x5 (-1)) fun r18 S18 =>
    chk (ixo (6 * x5) 36) <|
    obd2 (f_X11_three S18 (S18.1 6 ((6 * x5)).toNatClampNeg) r12 x3 v13) fun r20 S20 =>
    some (((r17.toInt64) * ((r18 * r14) + r20)), S20)
  )
set_option maxHeartbeats 4000000 in
set_option maxRecDepth 100000 in
theorem c_X11_going {l : Launch} {D : va_G} {cI cC cS : ClassId} {ad adK adV : Nat → Nat} {S S1 : St} {x1 : Int32} {x2 : Int32} {x3 : Int32} {x4 : Int32} {x5 : Int32} {r : Int64} (h : f_X11_going S x1 x2 x3 x4 x5 = some (r, S1)) : Kt l D (mw cI ad) (KX D (xtys cI cC cS) adK adV) yX11_going cX11_going 14 (some .long) (7) (205) [.ref (ad 0), .int x1, .int x2, .int x3, .int x4, .int x5] S (some (.long r)) S1 := by
  refine k_ent (ins := .lreturn) (st := [.long r]) (by decide +kernel) (Nat.le_of_ble_eq_true rfl) ret_l ?_
  intro p e s m args below meth c A Q C hK I hA hq ls hl
  have C : CallFix p m c cX11_going 14 s args TT RX11 := C
  have hx := C.1
  have hb := C.2.1
  have kx := kx_ok D (xtys cI cC cS) adK adV
  have hl : lv_has ls 14 [(0, .ref (ad 0)), (1, .int x1), (2, .int x2), (3, .int x3), (4, .int x4), (5, .int x5)] := hl
  have J_172 : ∀ (k_85 : St → Int32 → Int32 → Int32 → Int32 → Int64 → Int64 → Int32 → Option (Int64 × St)) (hk_85 : ∀ (S : St) (x3 : Int32) (x5 : Int32) (x6 : Int32) (x7 : Int32) (x8 : Int64) (x10 : Int64) (x12 : Int32), k_85 S x3 x5 x6 x7 x8 x10 x12 = some (r, S1) → ∀ (H : Heap) (locs : List Loc) (ls : Array Slot), Iv D (mw cI ad) S A s H locs → lv_has ls 14 [(0, .ref (ad 0)), (3, .int x3), (5, .int x5), (6, .int x6), (7, .int x7), (8, .long x8), (10, .long x10), (12, .int x12)] → W p l e ({ frames := 7, cells := 0, slots := 0, locals := 205 } : Room) s m args below meth c H locs 0 0 Q (F0 m 85 ls [])) (S : St) (x3 : Int32) (x5 : Int32) (x6 : Int32) (x7 : Int32) (x8 : Int64) (x12 : Int32) (t0 : Int64) (t1 : Int64) (t2 : Int64) (t4 : Int32) (t5 : Int32) (t6 : Int32), f_X11_going_172 k_85 S x3 x5 x6 x7 x8 x12 t0 t1 t2 t4 t5 t6 = some (r, S1) → ∀ (H : Heap) (locs : List Loc) (ls : Array Slot), Iv D (mw cI ad) S A s H locs → lv_has ls 14 [(0, .ref (ad 0)), (3, .int x3), (5, .int x5), (6, .int x6), (7, .int x7), (8, .long x8), (12, .int x12)] → W p l e ({ frames := 7, cells := 0, slots := 0, locals := 205 } : Room) s m args below meth c H locs 0 0 Q (F0 m 172 ls [.int t6, .int t5, .int t4, .ref (ad 0), .long t2, .long t1, .long t0]) := by
    intro k_85 hk_85 S x3 x5 x6 x7 x8 x12 t0 t1 t2 t4 t5 t6 h H locs ls I hl
    unfold f_X11_going_172 at h
    refine lv_iload hx hb dX11_going_172 (lv_at hl 4 rfl) ?_
    obtain ⟨r1, S1, e1, h⟩ := obd2_ex h
    refine k_V (As := [.int t4, .int t5, .int t6, .int x7]) (rest := [.long t2, .long t1, .long t0]) (st1 := [.long r1, .long t2, .long t1, .long t0]) C kx hK I hA (c_X11_three e1) ⟨Nat.le_of_ble_eq_true rfl, Nat.le_of_ble_eq_true rfl⟩ mv_X11_three lk_X11_294 0 11 (mw_0 (cI := cI) (ad := ad)) rfl rfl hl.1 rfl (Nat.le_of_ble_eq_true rfl) dX11_going_174 rfl (fun H locs I => ?_)
    refine lv_ladd hx hb dX11_going_177 ?_
    refine lv_lmul hx hb dX11_going_178 ?_
    refine lv_ladd hx hb dX11_going_179 ?_
    refine lv_topl (fun v2 ev2 => ?_)
    have h := bnd_at ev2 h
    clear ev2
    refine lv_lstore (lv' := [(10, .long v2), (0, .ref (ad 0)), (3, .int x3), (5, .int x5), (6, .int x6), (7, .int x7), (8, .long x8), (12, .int x12)]) hx hb dX11_going_180 hl (by decide) rfl (fun ls hl => ?_)
    obtain ⟨v3, ev3⟩ : ∃ y : Int32, y = x12 + 1 := ⟨_, rfl⟩
    have h := bnd_at ev3 h
    refine lv_iinc (v := v3) (lv' := [(12, .int v3), (10, .long v2), (0, .ref (ad 0)), (3, .int x3), (5, .int x5), (6, .int x6), (7, .int x7), (8, .long x8)]) hx hb dX11_going_182 hl (k := 7) rfl (by rw [ev3]; rfl) (by decide) rfl (fun ls hl => ?_)
    clear ev3
    refine lv_goto (tgt := 85) hx hb dX11_going_185 (by decide) ?_
    exact hk_85 _ _ _ _ _ _ _ _ h _ _ _ I (lv_sub hl [2, 3, 4, 5, 6, 7, 1, 0] rfl)
  have B_85 : ∀ (k_85 : St → Int32 → Int32 → Int32 → Int32 → Int64 → Int64 → Int32 → Option (Int64 × St)) (hk_85 : ∀ (S : St) (x3 : Int32) (x5 : Int32) (x6 : Int32) (x7 : Int32) (x8 : Int64) (x10 : Int64) (x12 : Int32), k_85 S x3 x5 x6 x7 x8 x10 x12 = some (r, S1) → ∀ (H : Heap) (locs : List Loc) (ls : Array Slot), Iv D (mw cI ad) S A s H locs → lv_has ls 14 [(0, .ref (ad 0)), (3, .int x3), (5, .int x5), (6, .int x6), (7, .int x7), (8, .long x8), (10, .long x10), (12, .int x12)] → W p l e ({ frames := 7, cells := 0, slots := 0, locals := 205 } : Room) s m args below meth c H locs 0 0 Q (F0 m 85 ls [])) (S : St) (x3 : Int32) (x5 : Int32) (x6 : Int32) (x7 : Int32) (x8 : Int64) (x10 : Int64) (x12 : Int32), f_X11_going_85 k_85 S x3 x5 x6 x7 x8 x10 x12 = some (r, S1) → ∀ (H : Heap) (locs : List Loc) (ls : Array Slot), Iv D (mw cI ad) S A s H locs → lv_has ls 14 [(0, .ref (ad 0)), (3, .int x3), (5, .int x5), (6, .int x6), (7, .int x7), (8, .long x8), (10, .long x10), (12, .int x12)] → W p l e ({ frames := 7, cells := 0, slots := 0, locals := 205 } : Room) s m args below meth c H locs 0 0 Q (F0 m 85 ls []) := by
    intro k_85 hk_85 S x3 x5 x6 x7 x8 x10 x12 h H locs ls I hl
    unfold f_X11_going_85 at h
    refine lv_iload hx hb dX11_going_85 (lv_at hl 7 rfl) ?_
    refine lv_aload_n hx hb dX11_going_87 rfl (lv_at hl 0 rfl) ?_
    refine gm_0_13 C hK I fl_X11_38 dX11_going_88 ?_
    refine lv_iload hx hb dX11_going_91 (lv_at hl 2 rfl) ?_
    obtain ⟨hv4, h⟩ := chk_ex h
    refine am_7 C hK I hv4 dX11_going_93 ?_
    refine lv_icmp_ge (tgt := 188) hx hb dX11_going_94 (by decide) (fun c5 => ?_) (fun c5 => ?_)
    · have h := ite_t c5 h
      refine lv_lload hx hb dX11_going_188 (lv_at hl 6 rfl) ?_
      exact rt_l hq h I dX11_going_190
    · have h := ite_n c5 h
      refine lv_aload_n hx hb dX11_going_97 rfl (lv_at hl 0 rfl) ?_
      refine lv_iload_n hx hb dX11_going_98 rfl (lv_at hl 1 rfl) ?_
      refine lv_iload hx hb dX11_going_99 (lv_at hl 2 rfl) ?_
      refine lv_iload hx hb dX11_going_101 (lv_at hl 7 rfl) ?_
      obtain ⟨r6, S6, e6, h⟩ := obd2_ex h
      refine k_V (As := [.int x3, .int x5, .int x12]) (rest := []) (st1 := [.int r6]) C kx hK I hA (c_X11_leftOf e6) ⟨Nat.le_of_ble_eq_true rfl, Nat.le_of_ble_eq_true rfl⟩ mv_X11_leftOf lk_X11_168 0 11 (mw_0 (cI := cI) (ad := ad)) rfl rfl hl.1 rfl (Nat.le_of_ble_eq_true rfl) dX11_going_103 rfl (fun H locs I => ?_)
      refine lv_istore (lv' := [(13, .int r6), (0, .ref (ad 0)), (3, .int x3), (5, .int x5), (6, .int x6), (7, .int x7), (8, .long x8), (10, .long x10), (12, .int x12)]) hx hb dX11_going_106 hl (by decide) rfl (fun ls hl => ?_)
      refine lv_lload hx hb dX11_going_108 (lv_at hl 7 rfl) ?_
      refine lv_aload_n hx hb dX11_going_110 rfl (lv_at hl 1 rfl) ?_
      refine gm_0_14 C hK I fl_X11_41 dX11_going_111 ?_
      refine lv_bipush (v := 16) hx hb dX11_going_114 (by decide) ?_
      refine lv_iload hx hb dX11_going_116 (lv_at hl 3 rfl) ?_
      refine lv_imul hx hb dX11_going_118 ?_
      refine lv_iconst (v := 4) hx hb dX11_going_119 (by decide) ?_
      refine lv_iload hx hb dX11_going_120 (lv_at hl 8 rfl) ?_
      refine lv_imul hx hb dX11_going_122 ?_
      refine lv_iadd hx hb dX11_going_123 ?_
      obtain ⟨hv7, h⟩ := chk_ex h
      refine am_8 C hK I hv7 dX11_going_124 ?_
      refine lv_i2l hx hb dX11_going_125 rfl ?_
      refine lv_aload_n hx hb dX11_going_126 rfl (lv_at hl 1 rfl) ?_
      refine lv_iload hx hb dX11_going_127 (lv_at hl 3 rfl) ?_
      refine lv_iload hx hb dX11_going_129 (lv_at hl 0 rfl) ?_
      obtain ⟨r8, S8, e8, h⟩ := obd2_ex h
      refine k_V (As := [.int x5, .int r6]) (rest := [.long (((S6.1 8 (((16 * x5) + (4 * x12))).toNatClampNeg) : Int32).toInt64), .long x10]) (st1 := [.long r8, .long (((S6.1 8 (((16 * x5) + (4 * x12))).toNatClampNeg) : Int32).toInt64), .long x10]) C kx hK I hA (c_X11_got e8) ⟨Nat.le_of_ble_eq_true rfl, Nat.le_of_ble_eq_true rfl⟩ mv_X11_got lk_X11_269 0 11 (mw_0 (cI := cI) (ad := ad)) rfl rfl hl.1 rfl (Nat.le_of_ble_eq_true rfl) dX11_going_131 rfl (fun H locs I => ?_)
      refine lv_lload hx hb dX11_going_134 (lv_at hl 6 rfl) ?_
      refine lv_lmul hx hb dX11_going_136 ?_
      refine lv_aload_n hx hb dX11_going_137 rfl (lv_at hl 1 rfl) ?_
      refine lv_aload_n hx hb dX11_going_138 rfl (lv_at hl 1 rfl) ?_
      refine gm_0_12 C hK I fl_X11_35 dX11_going_139 ?_
      refine lv_bipush (v := 6) hx hb dX11_going_142 (by decide) ?_
      refine lv_iload hx hb dX11_going_144 (lv_at hl 3 rfl) ?_
      refine lv_imul hx hb dX11_going_146 ?_
      obtain ⟨hv9, h⟩ := chk_ex h
      refine am_6 C hK I hv9 dX11_going_147 ?_
      refine lv_aload_n hx hb dX11_going_148 rfl (lv_at hl 1 rfl) ?_
      refine lv_iload hx hb dX11_going_149 (lv_at hl 4 rfl) ?_
      refine lv_iload hx hb dX11_going_151 (lv_at hl 3 rfl) ?_
      refine lv_iload hx hb dX11_going_153 (lv_at hl 8 rfl) ?_
      refine lv_iload hx hb dX11_going_155 (lv_at hl 0 rfl) ?_
      obtain ⟨r10, S10, e10, h⟩ := obd2_ex h
      refine k_V (As := [.int x6, .int x5, .int x12, .int r6]) (rest := [.int (S8.1 6 ((6 * x5)).toNatClampNeg), .ref (ad 0), .long (r8 * x8), .long (((S6.1 8 (((16 * x5) + (4 * x12))).toNatClampNeg) : Int32).toInt64), .long x10]) (st1 := [.int r10, .int (S8.1 6 ((6 * x5)).toNatClampNeg), .ref (ad 0), .long (r8 * x8), .long (((S6.1 8 (((16 * x5) + (4 * x12))).toNatClampNeg) : Int32).toInt64), .long x10]) C kx hK I hA (c_X11_then e10) ⟨Nat.le_of_ble_eq_true rfl, Nat.le_of_ble_eq_true rfl⟩ mv_X11_then lk_X11_280 0 11 (mw_0 (cI := cI) (ad := ad)) rfl rfl hl.1 rfl (Nat.le_of_ble_eq_true rfl) dX11_going_157 rfl (fun H locs I => ?_)
      refine lv_iload hx hb dX11_going_160 (lv_at hl 0 rfl) ?_
      refine lv_iconst (v := (-1)) hx hb dX11_going_162 (by decide) ?_
      refine lv_icmp_ne (tgt := 170) hx hb dX11_going_163 (by decide) (fun c11 => ?_) (fun c11 => ?_)
      · have h := ite_n c11 h
        refine lv_iload hx hb dX11_going_170 (lv_at hl 0 rfl) ?_
        exact J_172 k_85 hk_85 _ _ _ _ _ _ _ _ _ _ _ _ _ h _ _ _ I (lv_sub hl [1, 2, 3, 4, 5, 6, 8] rfl)
      · have h := ite_t c11 h
        refine lv_iload_n hx hb dX11_going_166 rfl (lv_at hl 2 rfl) ?_
        refine lv_goto (tgt := 172) hx hb dX11_going_167 (by decide) ?_
        exact J_172 k_85 hk_85 _ _ _ _ _ _ _ _ _ _ _ _ _ h _ _ _ I (lv_sub hl [1, 2, 3, 4, 5, 6, 8] rfl)
  have J_85 : ∀ (fu : Nat) (S : St) (x3 : Int32) (x5 : Int32) (x6 : Int32) (x7 : Int32) (x8 : Int64) (x10 : Int64) (x12 : Int32), l_X11_going_85  fu S x3 x5 x6 x7 x8 x10 x12 = some (r, S1) → ∀ (H : Heap) (locs : List Loc) (ls : Array Slot), Iv D (mw cI ad) S A s H locs → lv_has ls 14 [(0, .ref (ad 0)), (3, .int x3), (5, .int x5), (6, .int x6), (7, .int x7), (8, .long x8), (10, .long x10), (12, .int x12)] → W p l e ({ frames := 7, cells := 0, slots := 0, locals := 205 } : Room) s m args below meth c H locs 0 0 Q (F0 m 85 ls []) := by
    intro fu
    induction fu with
    | zero => intro S x3 x5 x6 x7 x8 x10 x12 h; cases h
    | succ fu ih => intro S x3 x5 x6 x7 x8 x10 x12 h; exact B_85 (l_X11_going_85 fu) ih S x3 x5 x6 x7 x8 x10 x12 h
  unfold f_X11_going at h
  refine lv_aload_n hx hb dX11_going_0 rfl (lv_at hl 0 rfl) ?_
  refine lv_iload_n hx hb dX11_going_1 rfl (lv_at hl 1 rfl) ?_
  refine lv_iload_n hx hb dX11_going_2 rfl (lv_at hl 2 rfl) ?_
  refine lv_iload hx hb dX11_going_3 (lv_at hl 5 rfl) ?_
  obtain ⟨r12, S12, e12, h⟩ := obd2_ex h
  refine k_V (As := [.int x1, .int x2, .int x5]) (rest := []) (st1 := [.int r12]) C kx hK I hA (c_X11_arrival e12) ⟨Nat.le_of_ble_eq_true rfl, Nat.le_of_ble_eq_true rfl⟩ mv_X11_arrival lk_X11_263 0 11 (mw_0 (cI := cI) (ad := ad)) rfl rfl hl.1 rfl (Nat.le_of_ble_eq_true rfl) dX11_going_5 rfl (fun H locs I => ?_)
  refine lv_istore (lv' := [(6, .int r12), (0, .ref (ad 0)), (1, .int x1), (2, .int x2), (3, .int x3), (4, .int x4), (5, .int x5)]) hx hb dX11_going_8 hl (by decide) rfl (fun ls hl => ?_)
  refine lv_iload hx hb dX11_going_10 (lv_at hl 5 rfl) ?_
  refine lv_iconst (v := 1) hx hb dX11_going_12 (by decide) ?_
  refine lv_iload hx hb dX11_going_13 (lv_at hl 6 rfl) ?_
  refine lv_ishl hx hb dX11_going_15 ?_
  refine lv_iconst (v := (-1)) hx hb dX11_going_16 (by decide) ?_
  refine lv_ixor hx hb dX11_going_17 ?_
  refine lv_iand hx hb dX11_going_18 ?_
  refine lv_topi (fun v13 ev13 => ?_)
  have h := bnd_at ev13 h
  clear ev13
  refine lv_istore (lv' := [(7, .int v13), (6, .int r12), (0, .ref (ad 0)), (1, .int x1), (2, .int x2), (3, .int x3), (4, .int x4), (5, .int x5)]) hx hb dX11_going_19 hl (by decide) rfl (fun ls hl => ?_)
  refine lv_aload_n hx hb dX11_going_21 rfl (lv_at hl 2 rfl) ?_
  refine lv_iload hx hb dX11_going_22 (lv_at hl 0 rfl) ?_
  obtain ⟨r14, S14, e14, h⟩ := obd2_ex h
  refine k_V (As := [.int v13]) (rest := []) (st1 := [.long r14]) C kx hK I hA (c_X11_totals e14) ⟨Nat.le_of_ble_eq_true rfl, Nat.le_of_ble_eq_true rfl⟩ mv_X11_totals lk_X11_273 0 11 (mw_0 (cI := cI) (ad := ad)) rfl rfl hl.1 rfl (Nat.le_of_ble_eq_true rfl) dX11_going_24 rfl (fun H locs I => ?_)
  refine lv_lstore (lv' := [(8, .long r14), (7, .int v13), (6, .int r12), (0, .ref (ad 0)), (1, .int x1), (2, .int x2), (3, .int x3), (4, .int x4), (5, .int x5)]) hx hb dX11_going_27 hl (by decide) rfl (fun ls hl => ?_)
  refine lv_aload_n hx hb dX11_going_29 rfl (lv_at hl 3 rfl) ?_
  refine lv_iload hx hb dX11_going_30 (lv_at hl 2 rfl) ?_
  refine lv_iload hx hb dX11_going_32 (lv_at hl 8 rfl) ?_
  obtain ⟨r15, S15, e15, h⟩ := obd2_ex h
  refine k_V (As := [.int r12, .int x5]) (rest := []) (st1 := [.int r15]) C kx hK I hA (c_X11_isLate e15) ⟨Nat.le_of_ble_eq_true rfl, Nat.le_of_ble_eq_true rfl⟩ mv_X11_isLate lk_X11_266 0 11 (mw_0 (cI := cI) (ad := ad)) rfl rfl hl.1 rfl (Nat.le_of_ble_eq_true rfl) dX11_going_34 rfl (fun H locs I => ?_)
  refine lv_if_eq (tgt := 79) hx hb dX11_going_37 (by decide) (fun c16 => ?_) (fun c16 => ?_)
  · have h := ite_t c16 h
    refine lv_lconst (v := (0)) hx hb dX11_going_79 (by decide) ?_
    refine lv_lstore (lv' := [(10, .long (0)), (8, .long r14), (7, .int v13), (6, .int r12), (0, .ref (ad 0)), (1, .int x1), (2, .int x2), (3, .int x3), (4, .int x4), (5, .int x5)]) hx hb dX11_going_80 hl (by decide) rfl (fun ls hl => ?_)
    refine lv_iconst (v := 0) hx hb dX11_going_82 (by decide) ?_
    refine lv_istore (lv' := [(12, .int 0), (10, .long (0)), (8, .long r14), (7, .int v13), (6, .int r12), (0, .ref (ad 0)), (1, .int x1), (2, .int x2), (3, .int x3), (4, .int x4), (5, .int x5)]) hx hb dX11_going_83 hl (by decide) rfl (fun ls hl => ?_)
    exact J_85 _ _ _ _ _ _ _ _ _ h _ _ _ I (lv_sub hl [5, 8, 10, 4, 3, 2, 1, 0] rfl)
  · have h := ite_n c16 h
    refine lv_aload_n hx hb dX11_going_40 rfl (lv_at hl 3 rfl) ?_
    refine lv_iload hx hb dX11_going_41 (lv_at hl 8 rfl) ?_
    obtain ⟨r17, S17, e17, h⟩ := obd2_ex h
    refine k_V (As := [.int x5]) (rest := []) (st1 := [.int r17]) C kx hK I hA (c_X11_totalOf e17) ⟨Nat.le_of_ble_eq_true rfl, Nat.le_of_ble_eq_true rfl⟩ mv_X11_totalOf lk_X11_182 0 11 (mw_0 (cI := cI) (ad := ad)) rfl rfl hl.1 rfl (Nat.le_of_ble_eq_true rfl) dX11_going_43 rfl (fun H locs I => ?_)
    refine lv_i2l hx hb dX11_going_46 rfl ?_
    refine lv_aload_n hx hb dX11_going_47 rfl (lv_at hl 3 rfl) ?_
    refine lv_iload hx hb dX11_going_48 (lv_at hl 8 rfl) ?_
    refine lv_iconst (v := (-1)) hx hb dX11_going_50 (by decide) ?_
    obtain ⟨r18, S18, e18, h⟩ := obd2_ex h
    refine k_V (As := [.int x5, .int (-1)]) (rest := [.long (r17.toInt64)]) (st1 := [.long r18, .long (r17.toInt64)]) C kx hK I hA (c_X11_got e18) ⟨Nat.le_of_ble_eq_true rfl, Nat.le_of_ble_eq_true rfl⟩ mv_X11_got lk_X11_269 0 11 (mw_0 (cI := cI) (ad := ad)) rfl rfl hl.1 rfl (Nat.le_of_ble_eq_true rfl) dX11_going_51 rfl (fun H locs I => ?_)
    refine lv_lload hx hb dX11_going_54 (lv_at hl 0 rfl) ?_
    refine lv_lmul hx hb dX11_going_56 ?_
    refine lv_aload_n hx hb dX11_going_57 rfl (lv_at hl 3 rfl) ?_
    refine lv_aload_n hx hb dX11_going_58 rfl (lv_at hl 3 rfl) ?_
    refine gm_0_12 C hK I fl_X11_35 dX11_going_59 ?_
    refine lv_bipush (v := 6) hx hb dX11_going_62 (by decide) ?_
    refine lv_iload hx hb dX11_going_64 (lv_at hl 8 rfl) ?_
    refine lv_imul hx hb dX11_going_66 ?_
    obtain ⟨hv19, h⟩ := chk_ex h
    refine am_6 C hK I hv19 dX11_going_67 ?_
    refine lv_iload hx hb dX11_going_68 (lv_at hl 2 rfl) ?_
    refine lv_iload_n hx hb dX11_going_70 rfl (lv_at hl 6 rfl) ?_
    refine lv_iload hx hb dX11_going_71 (lv_at hl 1 rfl) ?_
    obtain ⟨r20, S20, e20, h⟩ := obd2_ex h
    refine k_V (As := [.int (S18.1 6 ((6 * x5)).toNatClampNeg), .int r12, .int x3, .int v13]) (rest := [.long (r18 * r14), .long (r17.toInt64)]) (st1 := [.long r20, .long (r18 * r14), .long (r17.toInt64)]) C kx hK I hA (c_X11_three e20) ⟨Nat.le_of_ble_eq_true rfl, Nat.le_of_ble_eq_true rfl⟩ mv_X11_three lk_X11_294 0 11 (mw_0 (cI := cI) (ad := ad)) rfl rfl hl.1 rfl (Nat.le_of_ble_eq_true rfl) dX11_going_73 rfl (fun H locs I => ?_)
    refine lv_ladd hx hb dX11_going_76 ?_
    refine lv_lmul hx hb dX11_going_77 ?_
    exact rt_l hq h I dX11_going_78
theorem cn_X11_297 : Cond.constantLong RX11 297 ((63)) ∈ TT := tt_of 1439 (by decide +kernel) rfl
theorem cn_X11_299 : Cond.constantLong RX11 299 ((1439)) ∈ TT := tt_of 1440 (by decide +kernel) rfl
theorem dX11_refusesNow_0 : decode cX11_refusesNow 0 = .ok (.iconst 1, 1) := by decide +kernel
theorem dX11_refusesNow_1 : decode cX11_refusesNow 1 = .ok (.istore 5, 2) := by decide +kernel
theorem dX11_refusesNow_3 : decode cX11_refusesNow 3 = .ok (.iconst 0, 1) := by decide +kernel
theorem dX11_refusesNow_4 : decode cX11_refusesNow 4 = .ok (.istore 6, 2) := by decide +kernel
theorem dX11_refusesNow_6 : decode cX11_refusesNow 6 = .ok (.iconst 0, 1) := by decide +kernel
theorem dX11_refusesNow_7 : decode cX11_refusesNow 7 = .ok (.istore 7, 2) := by decide +kernel
theorem dX11_refusesNow_9 : decode cX11_refusesNow 9 = .ok (.iload 7, 2) := by decide +kernel
theorem dX11_refusesNow_11 : decode cX11_refusesNow 11 = .ok (.bipush 6, 2) := by decide +kernel
theorem dX11_refusesNow_13 : decode cX11_refusesNow 13 = .ok (.if_icmp .ge 60, 3) := by decide +kernel
theorem dX11_refusesNow_16 : decode cX11_refusesNow 16 = .ok (.iload 5, 2) := by decide +kernel
theorem dX11_refusesNow_18 : decode cX11_refusesNow 18 = .ok (.ifCond .eq 26, 3) := by decide +kernel
theorem dX11_refusesNow_21 : decode cX11_refusesNow 21 = .ok (.iload 4, 2) := by decide +kernel
theorem dX11_refusesNow_23 : decode cX11_refusesNow 23 = .ok (.iload 7, 2) := by decide +kernel
theorem dX11_refusesNow_25 : decode cX11_refusesNow 25 = .ok (.invokestatic 85, 3) := by decide +kernel
theorem dX11_refusesNow_28 : decode cX11_refusesNow 28 = .ok (.ifCond .eq 12, 3) := by decide +kernel
theorem dX11_refusesNow_31 : decode cX11_refusesNow 31 = .ok (.aload_n 0, 1) := by decide +kernel
theorem dX11_refusesNow_32 : decode cX11_refusesNow 32 = .ok (.iload 7, 2) := by decide +kernel
theorem dX11_refusesNow_34 : decode cX11_refusesNow 34 = .ok (.invokevirtual 176, 3) := by decide +kernel
theorem dX11_refusesNow_37 : decode cX11_refusesNow 37 = .ok (.ifCond .eq 7, 3) := by decide +kernel
theorem dX11_refusesNow_40 : decode cX11_refusesNow 40 = .ok (.iconst 1, 1) := by decide +kernel
theorem dX11_refusesNow_41 : decode cX11_refusesNow 41 = .ok (.goto 4, 3) := by decide +kernel
theorem dX11_refusesNow_44 : decode cX11_refusesNow 44 = .ok (.iconst 0, 1) := by decide +kernel
theorem dX11_refusesNow_45 : decode cX11_refusesNow 45 = .ok (.istore 5, 2) := by decide +kernel
theorem dX11_refusesNow_47 : decode cX11_refusesNow 47 = .ok (.iload 6, 2) := by decide +kernel
theorem dX11_refusesNow_49 : decode cX11_refusesNow 49 = .ok (.iload 4, 2) := by decide +kernel
theorem dX11_refusesNow_51 : decode cX11_refusesNow 51 = .ok (.iload 7, 2) := by decide +kernel
theorem dX11_refusesNow_53 : decode cX11_refusesNow 53 = .ok (.invokestatic 85, 3) := by decide +kernel
theorem dX11_refusesNow_56 : decode cX11_refusesNow 56 = .ok (.ifCond .eq 7, 3) := by decide +kernel
theorem dX11_refusesNow_59 : decode cX11_refusesNow 59 = .ok (.iconst 1, 1) := by decide +kernel
theorem dX11_refusesNow_60 : decode cX11_refusesNow 60 = .ok (.goto 4, 3) := by decide +kernel
theorem dX11_refusesNow_63 : decode cX11_refusesNow 63 = .ok (.iconst 0, 1) := by decide +kernel
theorem dX11_refusesNow_64 : decode cX11_refusesNow 64 = .ok (.iadd, 1) := by decide +kernel
theorem dX11_refusesNow_65 : decode cX11_refusesNow 65 = .ok (.istore 6, 2) := by decide +kernel
theorem dX11_refusesNow_67 : decode cX11_refusesNow 67 = .ok (.iinc 7 1, 3) := by decide +kernel
theorem dX11_refusesNow_70 : decode cX11_refusesNow 70 = .ok (.goto (-61), 3) := by decide +kernel
theorem dX11_refusesNow_73 : decode cX11_refusesNow 73 = .ok (.iload_n 1, 1) := by decide +kernel
theorem dX11_refusesNow_74 : decode cX11_refusesNow 74 = .ok (.i2l, 1) := by decide +kernel
theorem dX11_refusesNow_75 : decode cX11_refusesNow 75 = .ok (.lconst 0, 1) := by decide +kernel
theorem dX11_refusesNow_76 : decode cX11_refusesNow 76 = .ok (.ldc2_w 143, 3) := by decide +kernel
theorem dX11_refusesNow_79 : decode cX11_refusesNow 79 = .ok (.invokestatic 55, 3) := by decide +kernel
theorem dX11_refusesNow_82 : decode cX11_refusesNow 82 = .ok (.ifCond .ne 6, 3) := by decide +kernel
theorem dX11_refusesNow_85 : decode cX11_refusesNow 85 = .ok (.bipush (-2), 2) := by decide +kernel
theorem dX11_refusesNow_87 : decode cX11_refusesNow 87 = .ok (.ireturn, 1) := by decide +kernel
theorem dX11_refusesNow_88 : decode cX11_refusesNow 88 = .ok (.iload 4, 2) := by decide +kernel
theorem dX11_refusesNow_90 : decode cX11_refusesNow 90 = .ok (.i2l, 1) := by decide +kernel
theorem dX11_refusesNow_91 : decode cX11_refusesNow 91 = .ok (.lconst 0, 1) := by decide +kernel
theorem dX11_refusesNow_92 : decode cX11_refusesNow 92 = .ok (.ldc2_w 297, 3) := by decide +kernel
theorem dX11_refusesNow_95 : decode cX11_refusesNow 95 = .ok (.invokestatic 55, 3) := by decide +kernel
theorem dX11_refusesNow_98 : decode cX11_refusesNow 98 = .ok (.ifCond .ne 6, 3) := by decide +kernel
theorem dX11_refusesNow_101 : decode cX11_refusesNow 101 = .ok (.bipush (-3), 2) := by decide +kernel
theorem dX11_refusesNow_103 : decode cX11_refusesNow 103 = .ok (.ireturn, 1) := by decide +kernel
theorem dX11_refusesNow_104 : decode cX11_refusesNow 104 = .ok (.iload 5, 2) := by decide +kernel
theorem dX11_refusesNow_106 : decode cX11_refusesNow 106 = .ok (.ifCond .ne 8, 3) := by decide +kernel
theorem dX11_refusesNow_109 : decode cX11_refusesNow 109 = .ok (.bipush (-2), 2) := by decide +kernel
theorem dX11_refusesNow_111 : decode cX11_refusesNow 111 = .ok (.goto 34, 3) := by decide +kernel
theorem dX11_refusesNow_114 : decode cX11_refusesNow 114 = .ok (.iload_n 2, 1) := by decide +kernel
theorem dX11_refusesNow_115 : decode cX11_refusesNow 115 = .ok (.i2l, 1) := by decide +kernel
theorem dX11_refusesNow_116 : decode cX11_refusesNow 116 = .ok (.lconst 0, 1) := by decide +kernel
theorem dX11_refusesNow_117 : decode cX11_refusesNow 117 = .ok (.ldc2_w 299, 3) := by decide +kernel
theorem dX11_refusesNow_120 : decode cX11_refusesNow 120 = .ok (.invokestatic 55, 3) := by decide +kernel
theorem dX11_refusesNow_123 : decode cX11_refusesNow 123 = .ok (.ifCond .eq 16, 3) := by decide +kernel
theorem dX11_refusesNow_126 : decode cX11_refusesNow 126 = .ok (.iload_n 3, 1) := by decide +kernel
theorem dX11_refusesNow_127 : decode cX11_refusesNow 127 = .ok (.invokestatic 159, 3) := by decide +kernel
theorem dX11_refusesNow_130 : decode cX11_refusesNow 130 = .ok (.ifCond .eq 9, 3) := by decide +kernel
theorem dX11_refusesNow_133 : decode cX11_refusesNow 133 = .ok (.iload 6, 2) := by decide +kernel
theorem dX11_refusesNow_135 : decode cX11_refusesNow 135 = .ok (.iconst 4, 1) := by decide +kernel
theorem dX11_refusesNow_136 : decode cX11_refusesNow 136 = .ok (.if_icmp .le 8, 3) := by decide +kernel
theorem dX11_refusesNow_139 : decode cX11_refusesNow 139 = .ok (.bipush (-3), 2) := by decide +kernel
theorem dX11_refusesNow_141 : decode cX11_refusesNow 141 = .ok (.goto 4, 3) := by decide +kernel
theorem dX11_refusesNow_144 : decode cX11_refusesNow 144 = .ok (.iconst 0, 1) := by decide +kernel
theorem dX11_refusesNow_145 : decode cX11_refusesNow 145 = .ok (.ireturn, 1) := by decide +kernel
def f_X11_refusesNow_139 (S : St)  : Option (Int32 × St) :=
  some ((-3), S)
def f_X11_refusesNow_64 (k_9 : St → Int32 → Int32 → Int32 → Int32 → Int32 → Int32 → Int32 → Option (Int32 × St)) (S : St) (x1 : Int32) (x2 : Int32) (x3 : Int32) (x4 : Int32) (x5 : Int32) (x7 : Int32) (t0 : Int32) (t1 : Int32) : Option (Int32 × St) :=
  bnd ((t0 + t1) : Int32) fun v1 =>
  bnd (x7 + 1 : Int32) fun v2 =>
  k_9 S x1 x2 x3 x4 x5 v1 v2
def f_X11_refusesNow_45 (k_9 : St → Int32 → Int32 → Int32 → Int32 → Int32 → Int32 → Int32 → Option (Int32 × St)) (S : St) (x1 : Int32) (x2 : Int32) (x3 : Int32) (x4 : Int32) (x6 : Int32) (x7 : Int32) (t0 : Int32) : Option (Int32 × St) :=
  obd2 (f_X11_has S x4 x7) fun r3 S3 =>
  if r3 = 0 then (
    f_X11_refusesNow_64 k_9 S3 x1 x2 x3 x4 t0 x7 x6 0
  ) else (
    f_X11_refusesNow_64 k_9 S3 x1 x2 x3 x4 t0 x7 x6 1
  )
def f_X11_refusesNow_44 (k_9 : St → Int32 → Int32 → Int32 → Int32 → Int32 → Int32 → Int32 → Option (Int32 × St)) (S : St) (x1 : Int32) (x2 : Int32) (x3 : Int32) (x4 : Int32) (x6 : Int32) (x7 : Int32) : Option (Int32 × St) :=
  f_X11_refusesNow_45 k_9 S x1 x2 x3 x4 x6 x7 0
def f_X11_refusesNow_40 (k_9 : St → Int32 → Int32 → Int32 → Int32 → Int32 → Int32 → Int32 → Option (Int32 × St)) (S : St) (x1 : Int32) (x2 : Int32) (x3 : Int32) (x4 : Int32) (x6 : Int32) (x7 : Int32) : Option (Int32 × St) :=
  f_X11_refusesNow_45 k_9 S x1 x2 x3 x4 x6 x7 1
def f_X11_refusesNow_9 (k_9 : St → Int32 → Int32 → Int32 → Int32 → Int32 → Int32 → Int32 → Option (Int32 × St)) (S : St) (x1 : Int32) (x2 : Int32) (x3 : Int32) (x4 : Int32) (x5 : Int32) (x6 : Int32) (x7 : Int32) : Option (Int32 × St) :=
  if 6 ≤ x7 then (
    obd2 (f_X11_in S (x1.toInt64) (0) (5)) fun r6 S6 =>
    if r6 = 0 then (
      some ((-2), S6)
    ) else (
      obd2 (f_X11_in S6 (x4.toInt64) (0) (63)) fun r8 S8 =>
      if r8 = 0 then (
        some ((-3), S8)
      ) else (
        if x5 = 0 then (
          some ((-2), S8)
        ) else (
          obd2 (f_X11_in S8 (x2.toInt64) (0) (1439)) fun r11 S11 =>
          if r11 = 0 then (
            f_X11_refusesNow_139 S11 
          ) else (
            obd2 (f_X11_isBag S11 x3) fun r13 S13 =>
            if r13 = 0 then (
              f_X11_refusesNow_139 S13 
            ) else (
              if x6 ≤ 4 then (
                some (0, S13)
              ) else (
                f_X11_refusesNow_139 S13 
              )
            )
          )
        )
      )
    )
  ) else (
    if x5 = 0 then (
      f_X11_refusesNow_44 k_9 S x1 x2 x3 x4 x6 x7
    ) else (
      obd2 (f_X11_has S x4 x7) fun r17 S17 =>
      if r17 = 0 then (
        f_X11_refusesNow_40 k_9 S17 x1 x2 x3 x4 x6 x7
      ) else (
        obd2 (f_X11_isUsable S17 x7) fun r19 S19 =>
        if r19 = 0 then (
          f_X11_refusesNow_44 k_9 S19 x1 x2 x3 x4 x6 x7
        ) else (
          f_X11_refusesNow_40 k_9 S19 x1 x2 x3 x4 x6 x7
        )
      )
    )
  )
def l_X11_refusesNow_9 : Nat → St → Int32 → Int32 → Int32 → Int32 → Int32 → Int32 → Int32 → Option (Int32 × St)
  | 0, _, _, _, _, _, _, _, _ => none
  | fu + 1, S, x1, x2, x3, x4, x5, x6, x7 => f_X11_refusesNow_9 (l_X11_refusesNow_9 fu) S x1 x2 x3 x4 x5 x6 x7
def f_X11_refusesNow (S : St) (x1 : Int32) (x2 : Int32) (x3 : Int32) (x4 : Int32) : Option (Int32 × St) :=
  l_X11_refusesNow_9 FU S x1 x2 x3 x4 1 0 0
set_option maxHeartbeats 4000000 in
set_option maxRecDepth 100000 in
theorem c_X11_refusesNow {l : Launch} {D : va_G} {cI cC cS : ClassId} {ad adK adV : Nat → Nat} {S S1 : St} {x1 : Int32} {x2 : Int32} {x3 : Int32} {x4 : Int32} {r : Int32} (h : f_X11_refusesNow S x1 x2 x3 x4 = some (r, S1)) : Kt l D (mw cI ad) (KX D (xtys cI cC cS) adK adV) yX11_refusesNow cX11_refusesNow 8 (some .int) (3) (67) [.ref (ad 0), .int x1, .int x2, .int x3, .int x4] S (some (.int r)) S1 := by
  refine k_ent (ins := .ireturn) (st := [.int r]) (by decide +kernel) (Nat.le_of_ble_eq_true rfl) ret_i ?_
  intro p e s m args below meth c A Q C hK I hA hq ls hl
  have C : CallFix p m c cX11_refusesNow 8 s args TT RX11 := C
  have hx := C.1
  have hb := C.2.1
  have kx := kx_ok D (xtys cI cC cS) adK adV
  have hl : lv_has ls 8 [(0, .ref (ad 0)), (1, .int x1), (2, .int x2), (3, .int x3), (4, .int x4)] := hl
  have J_139 : ∀ (S : St) , f_X11_refusesNow_139  S  = some (r, S1) → ∀ (H : Heap) (locs : List Loc) (ls : Array Slot), Iv D (mw cI ad) S A s H locs → lv_has ls 8 [] → W p l e ({ frames := 3, cells := 0, slots := 0, locals := 67 } : Room) s m args below meth c H locs 0 0 Q (F0 m 139 ls []) := by
    intro  S  h H locs ls I hl
    unfold f_X11_refusesNow_139 at h
    refine lv_bipush (v := (-3)) hx hb dX11_refusesNow_139 (by decide) ?_
    refine lv_goto (tgt := 145) hx hb dX11_refusesNow_141 (by decide) ?_
    exact rt_i hq h I dX11_refusesNow_145
  have J_64 : ∀ (k_9 : St → Int32 → Int32 → Int32 → Int32 → Int32 → Int32 → Int32 → Option (Int32 × St)) (hk_9 : ∀ (S : St) (x1 : Int32) (x2 : Int32) (x3 : Int32) (x4 : Int32) (x5 : Int32) (x6 : Int32) (x7 : Int32), k_9 S x1 x2 x3 x4 x5 x6 x7 = some (r, S1) → ∀ (H : Heap) (locs : List Loc) (ls : Array Slot), Iv D (mw cI ad) S A s H locs → lv_has ls 8 [(0, .ref (ad 0)), (1, .int x1), (2, .int x2), (3, .int x3), (4, .int x4), (5, .int x5), (6, .int x6), (7, .int x7)] → W p l e ({ frames := 3, cells := 0, slots := 0, locals := 67 } : Room) s m args below meth c H locs 0 0 Q (F0 m 9 ls [])) (S : St) (x1 : Int32) (x2 : Int32) (x3 : Int32) (x4 : Int32) (x5 : Int32) (x7 : Int32) (t0 : Int32) (t1 : Int32), f_X11_refusesNow_64 k_9 S x1 x2 x3 x4 x5 x7 t0 t1 = some (r, S1) → ∀ (H : Heap) (locs : List Loc) (ls : Array Slot), Iv D (mw cI ad) S A s H locs → lv_has ls 8 [(0, .ref (ad 0)), (1, .int x1), (2, .int x2), (3, .int x3), (4, .int x4), (5, .int x5), (7, .int x7)] → W p l e ({ frames := 3, cells := 0, slots := 0, locals := 67 } : Room) s m args below meth c H locs 0 0 Q (F0 m 64 ls [.int t1, .int t0]) := by
    intro k_9 hk_9 S x1 x2 x3 x4 x5 x7 t0 t1 h H locs ls I hl
    unfold f_X11_refusesNow_64 at h
    refine lv_iadd hx hb dX11_refusesNow_64 ?_
    refine lv_topi (fun v1 ev1 => ?_)
    have h := bnd_at ev1 h
    clear ev1
    refine lv_istore (lv' := [(6, .int v1), (0, .ref (ad 0)), (1, .int x1), (2, .int x2), (3, .int x3), (4, .int x4), (5, .int x5), (7, .int x7)]) hx hb dX11_refusesNow_65 hl (by decide) rfl (fun ls hl => ?_)
    obtain ⟨v2, ev2⟩ : ∃ y : Int32, y = x7 + 1 := ⟨_, rfl⟩
    have h := bnd_at ev2 h
    refine lv_iinc (v := v2) (lv' := [(7, .int v2), (6, .int v1), (0, .ref (ad 0)), (1, .int x1), (2, .int x2), (3, .int x3), (4, .int x4), (5, .int x5)]) hx hb dX11_refusesNow_67 hl (k := 7) rfl (by rw [ev2]; rfl) (by decide) rfl (fun ls hl => ?_)
    clear ev2
    refine lv_goto (tgt := 9) hx hb dX11_refusesNow_70 (by decide) ?_
    exact hk_9 _ _ _ _ _ _ _ _ h _ _ _ I (lv_sub hl [2, 3, 4, 5, 6, 7, 1, 0] rfl)
  have J_45 : ∀ (k_9 : St → Int32 → Int32 → Int32 → Int32 → Int32 → Int32 → Int32 → Option (Int32 × St)) (hk_9 : ∀ (S : St) (x1 : Int32) (x2 : Int32) (x3 : Int32) (x4 : Int32) (x5 : Int32) (x6 : Int32) (x7 : Int32), k_9 S x1 x2 x3 x4 x5 x6 x7 = some (r, S1) → ∀ (H : Heap) (locs : List Loc) (ls : Array Slot), Iv D (mw cI ad) S A s H locs → lv_has ls 8 [(0, .ref (ad 0)), (1, .int x1), (2, .int x2), (3, .int x3), (4, .int x4), (5, .int x5), (6, .int x6), (7, .int x7)] → W p l e ({ frames := 3, cells := 0, slots := 0, locals := 67 } : Room) s m args below meth c H locs 0 0 Q (F0 m 9 ls [])) (S : St) (x1 : Int32) (x2 : Int32) (x3 : Int32) (x4 : Int32) (x6 : Int32) (x7 : Int32) (t0 : Int32), f_X11_refusesNow_45 k_9 S x1 x2 x3 x4 x6 x7 t0 = some (r, S1) → ∀ (H : Heap) (locs : List Loc) (ls : Array Slot), Iv D (mw cI ad) S A s H locs → lv_has ls 8 [(0, .ref (ad 0)), (1, .int x1), (2, .int x2), (3, .int x3), (4, .int x4), (6, .int x6), (7, .int x7)] → W p l e ({ frames := 3, cells := 0, slots := 0, locals := 67 } : Room) s m args below meth c H locs 0 0 Q (F0 m 45 ls [.int t0]) := by
    intro k_9 hk_9 S x1 x2 x3 x4 x6 x7 t0 h H locs ls I hl
    unfold f_X11_refusesNow_45 at h
    refine lv_istore (lv' := [(5, .int t0), (0, .ref (ad 0)), (1, .int x1), (2, .int x2), (3, .int x3), (4, .int x4), (6, .int x6), (7, .int x7)]) hx hb dX11_refusesNow_45 hl (by decide) rfl (fun ls hl => ?_)
    refine lv_iload hx hb dX11_refusesNow_47 (lv_at hl 6 rfl) ?_
    refine lv_iload hx hb dX11_refusesNow_49 (lv_at hl 5 rfl) ?_
    refine lv_iload hx hb dX11_refusesNow_51 (lv_at hl 7 rfl) ?_
    obtain ⟨r3, S3, e3, h⟩ := obd2_ex h
    refine k_S (As := [.int x4, .int x7]) (rest := [.int x6]) (st1 := [.int r3, .int x6]) C kx hK I hA (c_X11_has e3) ⟨Nat.le_of_ble_eq_true rfl, Nat.le_of_ble_eq_true rfl⟩ ms_X11_has lk_X11_85 rfl hl.1 rfl (Nat.le_of_ble_eq_true rfl) dX11_refusesNow_53 rfl (fun H locs I => ?_)
    refine lv_if_eq (tgt := 63) hx hb dX11_refusesNow_56 (by decide) (fun c4 => ?_) (fun c4 => ?_)
    · have h := ite_t c4 h
      refine lv_iconst (v := 0) hx hb dX11_refusesNow_63 (by decide) ?_
      exact J_64 k_9 hk_9 _ _ _ _ _ _ _ _ _ h _ _ _ I (lv_sub hl [1, 2, 3, 4, 5, 0, 7] rfl)
    · have h := ite_n c4 h
      refine lv_iconst (v := 1) hx hb dX11_refusesNow_59 (by decide) ?_
      refine lv_goto (tgt := 64) hx hb dX11_refusesNow_60 (by decide) ?_
      exact J_64 k_9 hk_9 _ _ _ _ _ _ _ _ _ h _ _ _ I (lv_sub hl [1, 2, 3, 4, 5, 0, 7] rfl)
  have J_44 : ∀ (k_9 : St → Int32 → Int32 → Int32 → Int32 → Int32 → Int32 → Int32 → Option (Int32 × St)) (hk_9 : ∀ (S : St) (x1 : Int32) (x2 : Int32) (x3 : Int32) (x4 : Int32) (x5 : Int32) (x6 : Int32) (x7 : Int32), k_9 S x1 x2 x3 x4 x5 x6 x7 = some (r, S1) → ∀ (H : Heap) (locs : List Loc) (ls : Array Slot), Iv D (mw cI ad) S A s H locs → lv_has ls 8 [(0, .ref (ad 0)), (1, .int x1), (2, .int x2), (3, .int x3), (4, .int x4), (5, .int x5), (6, .int x6), (7, .int x7)] → W p l e ({ frames := 3, cells := 0, slots := 0, locals := 67 } : Room) s m args below meth c H locs 0 0 Q (F0 m 9 ls [])) (S : St) (x1 : Int32) (x2 : Int32) (x3 : Int32) (x4 : Int32) (x6 : Int32) (x7 : Int32), f_X11_refusesNow_44 k_9 S x1 x2 x3 x4 x6 x7 = some (r, S1) → ∀ (H : Heap) (locs : List Loc) (ls : Array Slot), Iv D (mw cI ad) S A s H locs → lv_has ls 8 [(0, .ref (ad 0)), (1, .int x1), (2, .int x2), (3, .int x3), (4, .int x4), (6, .int x6), (7, .int x7)] → W p l e ({ frames := 3, cells := 0, slots := 0, locals := 67 } : Room) s m args below meth c H locs 0 0 Q (F0 m 44 ls []) := by
    intro k_9 hk_9 S x1 x2 x3 x4 x6 x7 h H locs ls I hl
    unfold f_X11_refusesNow_44 at h
    refine lv_iconst (v := 0) hx hb dX11_refusesNow_44 (by decide) ?_
    exact J_45 k_9 hk_9 _ _ _ _ _ _ _ _ h _ _ _ I (lv_sub hl [0, 1, 2, 3, 4, 5, 6] rfl)
  have J_40 : ∀ (k_9 : St → Int32 → Int32 → Int32 → Int32 → Int32 → Int32 → Int32 → Option (Int32 × St)) (hk_9 : ∀ (S : St) (x1 : Int32) (x2 : Int32) (x3 : Int32) (x4 : Int32) (x5 : Int32) (x6 : Int32) (x7 : Int32), k_9 S x1 x2 x3 x4 x5 x6 x7 = some (r, S1) → ∀ (H : Heap) (locs : List Loc) (ls : Array Slot), Iv D (mw cI ad) S A s H locs → lv_has ls 8 [(0, .ref (ad 0)), (1, .int x1), (2, .int x2), (3, .int x3), (4, .int x4), (5, .int x5), (6, .int x6), (7, .int x7)] → W p l e ({ frames := 3, cells := 0, slots := 0, locals := 67 } : Room) s m args below meth c H locs 0 0 Q (F0 m 9 ls [])) (S : St) (x1 : Int32) (x2 : Int32) (x3 : Int32) (x4 : Int32) (x6 : Int32) (x7 : Int32), f_X11_refusesNow_40 k_9 S x1 x2 x3 x4 x6 x7 = some (r, S1) → ∀ (H : Heap) (locs : List Loc) (ls : Array Slot), Iv D (mw cI ad) S A s H locs → lv_has ls 8 [(0, .ref (ad 0)), (1, .int x1), (2, .int x2), (3, .int x3), (4, .int x4), (6, .int x6), (7, .int x7)] → W p l e ({ frames := 3, cells := 0, slots := 0, locals := 67 } : Room) s m args below meth c H locs 0 0 Q (F0 m 40 ls []) := by
    intro k_9 hk_9 S x1 x2 x3 x4 x6 x7 h H locs ls I hl
    unfold f_X11_refusesNow_40 at h
    refine lv_iconst (v := 1) hx hb dX11_refusesNow_40 (by decide) ?_
    refine lv_goto (tgt := 45) hx hb dX11_refusesNow_41 (by decide) ?_
    exact J_45 k_9 hk_9 _ _ _ _ _ _ _ _ h _ _ _ I (lv_sub hl [0, 1, 2, 3, 4, 5, 6] rfl)
  have B_9 : ∀ (k_9 : St → Int32 → Int32 → Int32 → Int32 → Int32 → Int32 → Int32 → Option (Int32 × St)) (hk_9 : ∀ (S : St) (x1 : Int32) (x2 : Int32) (x3 : Int32) (x4 : Int32) (x5 : Int32) (x6 : Int32) (x7 : Int32), k_9 S x1 x2 x3 x4 x5 x6 x7 = some (r, S1) → ∀ (H : Heap) (locs : List Loc) (ls : Array Slot), Iv D (mw cI ad) S A s H locs → lv_has ls 8 [(0, .ref (ad 0)), (1, .int x1), (2, .int x2), (3, .int x3), (4, .int x4), (5, .int x5), (6, .int x6), (7, .int x7)] → W p l e ({ frames := 3, cells := 0, slots := 0, locals := 67 } : Room) s m args below meth c H locs 0 0 Q (F0 m 9 ls [])) (S : St) (x1 : Int32) (x2 : Int32) (x3 : Int32) (x4 : Int32) (x5 : Int32) (x6 : Int32) (x7 : Int32), f_X11_refusesNow_9 k_9 S x1 x2 x3 x4 x5 x6 x7 = some (r, S1) → ∀ (H : Heap) (locs : List Loc) (ls : Array Slot), Iv D (mw cI ad) S A s H locs → lv_has ls 8 [(0, .ref (ad 0)), (1, .int x1), (2, .int x2), (3, .int x3), (4, .int x4), (5, .int x5), (6, .int x6), (7, .int x7)] → W p l e ({ frames := 3, cells := 0, slots := 0, locals := 67 } : Room) s m args below meth c H locs 0 0 Q (F0 m 9 ls []) := by
    intro k_9 hk_9 S x1 x2 x3 x4 x5 x6 x7 h H locs ls I hl
    unfold f_X11_refusesNow_9 at h
    refine lv_iload hx hb dX11_refusesNow_9 (lv_at hl 7 rfl) ?_
    refine lv_bipush (v := 6) hx hb dX11_refusesNow_11 (by decide) ?_
    refine lv_icmp_ge (tgt := 73) hx hb dX11_refusesNow_13 (by decide) (fun c5 => ?_) (fun c5 => ?_)
    · have h := ite_t c5 h
      refine lv_iload_n hx hb dX11_refusesNow_73 rfl (lv_at hl 1 rfl) ?_
      refine lv_i2l hx hb dX11_refusesNow_74 rfl ?_
      refine lv_lconst (v := (0)) hx hb dX11_refusesNow_75 (by decide) ?_
      refine lv_ldc2 (v := (5)) hx hb C.2.2.2.1 (C.2.2.2.2 _ cn_X11_143) dX11_refusesNow_76 ?_
      obtain ⟨r6, S6, e6, h⟩ := obd2_ex h
      refine k_S (As := [.long (x1.toInt64), .long (0), .long (5)]) (rest := []) (st1 := [.int r6]) C kx hK I hA (c_X11_in e6) ⟨Nat.le_of_ble_eq_true rfl, Nat.le_of_ble_eq_true rfl⟩ ms_X11_in lk_X11_55 rfl hl.1 rfl (Nat.le_of_ble_eq_true rfl) dX11_refusesNow_79 rfl (fun H locs I => ?_)
      refine lv_if_ne (tgt := 88) hx hb dX11_refusesNow_82 (by decide) (fun c7 => ?_) (fun c7 => ?_)
      · have h := ite_n c7 h
        refine lv_iload hx hb dX11_refusesNow_88 (lv_at hl 4 rfl) ?_
        refine lv_i2l hx hb dX11_refusesNow_90 rfl ?_
        refine lv_lconst (v := (0)) hx hb dX11_refusesNow_91 (by decide) ?_
        refine lv_ldc2 (v := (63)) hx hb C.2.2.2.1 (C.2.2.2.2 _ cn_X11_297) dX11_refusesNow_92 ?_
        obtain ⟨r8, S8, e8, h⟩ := obd2_ex h
        refine k_S (As := [.long (x4.toInt64), .long (0), .long (63)]) (rest := []) (st1 := [.int r8]) C kx hK I hA (c_X11_in e8) ⟨Nat.le_of_ble_eq_true rfl, Nat.le_of_ble_eq_true rfl⟩ ms_X11_in lk_X11_55 rfl hl.1 rfl (Nat.le_of_ble_eq_true rfl) dX11_refusesNow_95 rfl (fun H locs I => ?_)
        refine lv_if_ne (tgt := 104) hx hb dX11_refusesNow_98 (by decide) (fun c9 => ?_) (fun c9 => ?_)
        · have h := ite_n c9 h
          refine lv_iload hx hb dX11_refusesNow_104 (lv_at hl 5 rfl) ?_
          refine lv_if_ne (tgt := 114) hx hb dX11_refusesNow_106 (by decide) (fun c10 => ?_) (fun c10 => ?_)
          · have h := ite_n c10 h
            refine lv_iload_n hx hb dX11_refusesNow_114 rfl (lv_at hl 2 rfl) ?_
            refine lv_i2l hx hb dX11_refusesNow_115 rfl ?_
            refine lv_lconst (v := (0)) hx hb dX11_refusesNow_116 (by decide) ?_
            refine lv_ldc2 (v := (1439)) hx hb C.2.2.2.1 (C.2.2.2.2 _ cn_X11_299) dX11_refusesNow_117 ?_
            obtain ⟨r11, S11, e11, h⟩ := obd2_ex h
            refine k_S (As := [.long (x2.toInt64), .long (0), .long (1439)]) (rest := []) (st1 := [.int r11]) C kx hK I hA (c_X11_in e11) ⟨Nat.le_of_ble_eq_true rfl, Nat.le_of_ble_eq_true rfl⟩ ms_X11_in lk_X11_55 rfl hl.1 rfl (Nat.le_of_ble_eq_true rfl) dX11_refusesNow_120 rfl (fun H locs I => ?_)
            refine lv_if_eq (tgt := 139) hx hb dX11_refusesNow_123 (by decide) (fun c12 => ?_) (fun c12 => ?_)
            · have h := ite_t c12 h
              exact J_139 _  h _ _ _ I (lv_sub hl [] rfl)
            · have h := ite_n c12 h
              refine lv_iload_n hx hb dX11_refusesNow_126 rfl (lv_at hl 3 rfl) ?_
              obtain ⟨r13, S13, e13, h⟩ := obd2_ex h
              refine k_S (As := [.int x3]) (rest := []) (st1 := [.int r13]) C kx hK I hA (c_X11_isBag e13) ⟨Nat.le_of_ble_eq_true rfl, Nat.le_of_ble_eq_true rfl⟩ ms_X11_isBag lk_X11_159 rfl hl.1 rfl (Nat.le_of_ble_eq_true rfl) dX11_refusesNow_127 rfl (fun H locs I => ?_)
              refine lv_if_eq (tgt := 139) hx hb dX11_refusesNow_130 (by decide) (fun c14 => ?_) (fun c14 => ?_)
              · have h := ite_t c14 h
                exact J_139 _  h _ _ _ I (lv_sub hl [] rfl)
              · have h := ite_n c14 h
                refine lv_iload hx hb dX11_refusesNow_133 (lv_at hl 6 rfl) ?_
                refine lv_iconst (v := 4) hx hb dX11_refusesNow_135 (by decide) ?_
                refine lv_icmp_le (tgt := 144) hx hb dX11_refusesNow_136 (by decide) (fun c15 => ?_) (fun c15 => ?_)
                · have h := ite_t c15 h
                  refine lv_iconst (v := 0) hx hb dX11_refusesNow_144 (by decide) ?_
                  exact rt_i hq h I dX11_refusesNow_145
                · have h := ite_n c15 h
                  exact J_139 _  h _ _ _ I (lv_sub hl [] rfl)
          · have h := ite_t c10 h
            refine lv_bipush (v := (-2)) hx hb dX11_refusesNow_109 (by decide) ?_
            refine lv_goto (tgt := 145) hx hb dX11_refusesNow_111 (by decide) ?_
            exact rt_i hq h I dX11_refusesNow_145
        · have h := ite_t c9 h
          refine lv_bipush (v := (-3)) hx hb dX11_refusesNow_101 (by decide) ?_
          exact rt_i hq h I dX11_refusesNow_103
      · have h := ite_t c7 h
        refine lv_bipush (v := (-2)) hx hb dX11_refusesNow_85 (by decide) ?_
        exact rt_i hq h I dX11_refusesNow_87
    · have h := ite_n c5 h
      refine lv_iload hx hb dX11_refusesNow_16 (lv_at hl 5 rfl) ?_
      refine lv_if_eq (tgt := 44) hx hb dX11_refusesNow_18 (by decide) (fun c16 => ?_) (fun c16 => ?_)
      · have h := ite_t c16 h
        exact J_44 k_9 hk_9 _ _ _ _ _ _ _ h _ _ _ I (lv_sub hl [0, 1, 2, 3, 4, 6, 7] rfl)
      · have h := ite_n c16 h
        refine lv_iload hx hb dX11_refusesNow_21 (lv_at hl 4 rfl) ?_
        refine lv_iload hx hb dX11_refusesNow_23 (lv_at hl 7 rfl) ?_
        obtain ⟨r17, S17, e17, h⟩ := obd2_ex h
        refine k_S (As := [.int x4, .int x7]) (rest := []) (st1 := [.int r17]) C kx hK I hA (c_X11_has e17) ⟨Nat.le_of_ble_eq_true rfl, Nat.le_of_ble_eq_true rfl⟩ ms_X11_has lk_X11_85 rfl hl.1 rfl (Nat.le_of_ble_eq_true rfl) dX11_refusesNow_25 rfl (fun H locs I => ?_)
        refine lv_if_eq (tgt := 40) hx hb dX11_refusesNow_28 (by decide) (fun c18 => ?_) (fun c18 => ?_)
        · have h := ite_t c18 h
          exact J_40 k_9 hk_9 _ _ _ _ _ _ _ h _ _ _ I (lv_sub hl [0, 1, 2, 3, 4, 6, 7] rfl)
        · have h := ite_n c18 h
          refine lv_aload_n hx hb dX11_refusesNow_31 rfl (lv_at hl 0 rfl) ?_
          refine lv_iload hx hb dX11_refusesNow_32 (lv_at hl 7 rfl) ?_
          obtain ⟨r19, S19, e19, h⟩ := obd2_ex h
          refine k_V (As := [.int x7]) (rest := []) (st1 := [.int r19]) C kx hK I hA (c_X11_isUsable e19) ⟨Nat.le_of_ble_eq_true rfl, Nat.le_of_ble_eq_true rfl⟩ mv_X11_isUsable lk_X11_176 0 11 (mw_0 (cI := cI) (ad := ad)) rfl rfl hl.1 rfl (Nat.le_of_ble_eq_true rfl) dX11_refusesNow_34 rfl (fun H locs I => ?_)
          refine lv_if_eq (tgt := 44) hx hb dX11_refusesNow_37 (by decide) (fun c20 => ?_) (fun c20 => ?_)
          · have h := ite_t c20 h
            exact J_44 k_9 hk_9 _ _ _ _ _ _ _ h _ _ _ I (lv_sub hl [0, 1, 2, 3, 4, 6, 7] rfl)
          · have h := ite_n c20 h
            exact J_40 k_9 hk_9 _ _ _ _ _ _ _ h _ _ _ I (lv_sub hl [0, 1, 2, 3, 4, 6, 7] rfl)
  have J_9 : ∀ (fu : Nat) (S : St) (x1 : Int32) (x2 : Int32) (x3 : Int32) (x4 : Int32) (x5 : Int32) (x6 : Int32) (x7 : Int32), l_X11_refusesNow_9  fu S x1 x2 x3 x4 x5 x6 x7 = some (r, S1) → ∀ (H : Heap) (locs : List Loc) (ls : Array Slot), Iv D (mw cI ad) S A s H locs → lv_has ls 8 [(0, .ref (ad 0)), (1, .int x1), (2, .int x2), (3, .int x3), (4, .int x4), (5, .int x5), (6, .int x6), (7, .int x7)] → W p l e ({ frames := 3, cells := 0, slots := 0, locals := 67 } : Room) s m args below meth c H locs 0 0 Q (F0 m 9 ls []) := by
    intro fu
    induction fu with
    | zero => intro S x1 x2 x3 x4 x5 x6 x7 h; cases h
    | succ fu ih => intro S x1 x2 x3 x4 x5 x6 x7 h; exact B_9 (l_X11_refusesNow_9 fu) ih S x1 x2 x3 x4 x5 x6 x7 h
  unfold f_X11_refusesNow at h
  refine lv_iconst (v := 1) hx hb dX11_refusesNow_0 (by decide) ?_
  refine lv_istore (lv' := [(5, .int 1), (0, .ref (ad 0)), (1, .int x1), (2, .int x2), (3, .int x3), (4, .int x4)]) hx hb dX11_refusesNow_1 hl (by decide) rfl (fun ls hl => ?_)
  refine lv_iconst (v := 0) hx hb dX11_refusesNow_3 (by decide) ?_
  refine lv_istore (lv' := [(6, .int 0), (5, .int 1), (0, .ref (ad 0)), (1, .int x1), (2, .int x2), (3, .int x3), (4, .int x4)]) hx hb dX11_refusesNow_4 hl (by decide) rfl (fun ls hl => ?_)
  refine lv_iconst (v := 0) hx hb dX11_refusesNow_6 (by decide) ?_
  refine lv_istore (lv' := [(7, .int 0), (6, .int 0), (5, .int 1), (0, .ref (ad 0)), (1, .int x1), (2, .int x2), (3, .int x3), (4, .int x4)]) hx hb dX11_refusesNow_7 hl (by decide) rfl (fun ls hl => ?_)
  exact J_9 _ _ _ _ _ _ _ _ _ h _ _ _ I (lv_sub hl [3, 4, 5, 6, 7, 2, 1, 0] rfl)
theorem lk_X11_301 : Cond.methodLink RX11 301 yX11_going ∈ TT := tt_of 1445 (by decide +kernel) rfl
theorem mv_X11_going : MV yX11_going cX11_going 14 (some .long) 5 := ⟨tt_of 1448 (by decide +kernel) rfl, tt_of 1447 (by decide +kernel) rfl, tt_of 51 (by decide +kernel) rfl, tt_of 76 (by decide +kernel) rfl, ⟨by decide +kernel, by decide +kernel, by decide +kernel⟩⟩
theorem dX11_valueOf_0 : decode cX11_valueOf 0 = .ok (.lconst 0, 1) := by decide +kernel
theorem dX11_valueOf_1 : decode cX11_valueOf 1 = .ok (.lstore 5, 2) := by decide +kernel
theorem dX11_valueOf_3 : decode cX11_valueOf 3 = .ok (.iconst 0, 1) := by decide +kernel
theorem dX11_valueOf_4 : decode cX11_valueOf 4 = .ok (.istore 7, 2) := by decide +kernel
theorem dX11_valueOf_6 : decode cX11_valueOf 6 = .ok (.iload 7, 2) := by decide +kernel
theorem dX11_valueOf_8 : decode cX11_valueOf 8 = .ok (.bipush 6, 2) := by decide +kernel
theorem dX11_valueOf_10 : decode cX11_valueOf 10 = .ok (.if_icmp .ge 53, 3) := by decide +kernel
theorem dX11_valueOf_13 : decode cX11_valueOf 13 = .ok (.iload 4, 2) := by decide +kernel
theorem dX11_valueOf_15 : decode cX11_valueOf 15 = .ok (.iload 7, 2) := by decide +kernel
theorem dX11_valueOf_17 : decode cX11_valueOf 17 = .ok (.invokestatic 85, 3) := by decide +kernel
theorem dX11_valueOf_20 : decode cX11_valueOf 20 = .ok (.ifCond .eq 17, 3) := by decide +kernel
theorem dX11_valueOf_23 : decode cX11_valueOf 23 = .ok (.aload_n 0, 1) := by decide +kernel
theorem dX11_valueOf_24 : decode cX11_valueOf 24 = .ok (.iload_n 1, 1) := by decide +kernel
theorem dX11_valueOf_25 : decode cX11_valueOf 25 = .ok (.iload_n 2, 1) := by decide +kernel
theorem dX11_valueOf_26 : decode cX11_valueOf 26 = .ok (.iload_n 3, 1) := by decide +kernel
theorem dX11_valueOf_27 : decode cX11_valueOf 27 = .ok (.iload 4, 2) := by decide +kernel
theorem dX11_valueOf_29 : decode cX11_valueOf 29 = .ok (.iload 7, 2) := by decide +kernel
theorem dX11_valueOf_31 : decode cX11_valueOf 31 = .ok (.invokevirtual 301, 3) := by decide +kernel
theorem dX11_valueOf_34 : decode cX11_valueOf 34 = .ok (.goto 4, 3) := by decide +kernel
theorem dX11_valueOf_37 : decode cX11_valueOf 37 = .ok (.lconst 0, 1) := by decide +kernel
theorem dX11_valueOf_38 : decode cX11_valueOf 38 = .ok (.lstore 8, 2) := by decide +kernel
theorem dX11_valueOf_40 : decode cX11_valueOf 40 = .ok (.lload 8, 2) := by decide +kernel
theorem dX11_valueOf_42 : decode cX11_valueOf 42 = .ok (.lload 5, 2) := by decide +kernel
theorem dX11_valueOf_44 : decode cX11_valueOf 44 = .ok (.lcmp, 1) := by decide +kernel
theorem dX11_valueOf_45 : decode cX11_valueOf 45 = .ok (.ifCond .le 8, 3) := by decide +kernel
theorem dX11_valueOf_48 : decode cX11_valueOf 48 = .ok (.lload 8, 2) := by decide +kernel
theorem dX11_valueOf_50 : decode cX11_valueOf 50 = .ok (.goto 5, 3) := by decide +kernel
theorem dX11_valueOf_53 : decode cX11_valueOf 53 = .ok (.lload 5, 2) := by decide +kernel
theorem dX11_valueOf_55 : decode cX11_valueOf 55 = .ok (.lstore 5, 2) := by decide +kernel
theorem dX11_valueOf_57 : decode cX11_valueOf 57 = .ok (.iinc 7 1, 3) := by decide +kernel
theorem dX11_valueOf_60 : decode cX11_valueOf 60 = .ok (.goto (-54), 3) := by decide +kernel
theorem dX11_valueOf_63 : decode cX11_valueOf 63 = .ok (.lload 5, 2) := by decide +kernel
theorem dX11_valueOf_65 : decode cX11_valueOf 65 = .ok (.lreturn, 1) := by decide +kernel
def f_X11_valueOf_55 (k_6 : St → Int32 → Int32 → Int32 → Int32 → Int64 → Int32 → Option (Int64 × St)) (S : St) (x1 : Int32) (x2 : Int32) (x3 : Int32) (x4 : Int32) (x7 : Int32) (t0 : Int64) : Option (Int64 × St) :=
  bnd (x7 + 1 : Int32) fun v1 =>
  k_6 S x1 x2 x3 x4 t0 v1
def f_X11_valueOf_38 (k_6 : St → Int32 → Int32 → Int32 → Int32 → Int64 → Int32 → Option (Int64 × St)) (S : St) (x1 : Int32) (x2 : Int32) (x3 : Int32) (x4 : Int32) (x5 : Int64) (x7 : Int32) (t0 : Int64) : Option (Int64 × St) :=
  if (lg_cmp t0 x5) ≤ 0 then (
    f_X11_valueOf_55 k_6 S x1 x2 x3 x4 x7 x5
  ) else (
    f_X11_valueOf_55 k_6 S x1 x2 x3 x4 x7 t0
  )
def f_X11_valueOf_6 (k_6 : St → Int32 → Int32 → Int32 → Int32 → Int64 → Int32 → Option (Int64 × St)) (S : St) (x1 : Int32) (x2 : Int32) (x3 : Int32) (x4 : Int32) (x5 : Int64) (x7 : Int32) : Option (Int64 × St) :=
  if 6 ≤ x7 then (
    some (x5, S)
  ) else (
    obd2 (f_X11_has S x4 x7) fun r4 S4 =>
    if r4 = 0 then (
      f_X11_valueOf_38 k_6 S4 x1 x2 x3 x4 x5 x7 (0)
    ) else (
      obd2 (f_X11_going S4 x1 x2 x3 x4 x7) fun r6 S6 =>
      f_X11_valueOf_38 k_6 S6 x1 x2 x3 x4 x5 x7 r6
    )
  )
def l_X11_valueOf_6 : Nat → St → Int32 → Int32 → Int32 → Int32 → Int64 → Int32 → Option (Int64 × St)
  | 0, _, _, _, _, _, _, _ => none
  | fu + 1, S, x1, x2, x3, x4, x5, x7 => f_X11_valueOf_6 (l_X11_valueOf_6 fu) S x1 x2 x3 x4 x5 x7
def f_X11_valueOf (S : St) (x1 : Int32) (x2 : Int32) (x3 : Int32) (x4 : Int32) : Option (Int64 × St) :=
  l_X11_valueOf_6 FU S x1 x2 x3 x4 (0) 0
set_option maxHeartbeats 4000000 in
set_option maxRecDepth 100000 in
theorem c_X11_valueOf {l : Launch} {D : va_G} {cI cC cS : ClassId} {ad adK adV : Nat → Nat} {S S1 : St} {x1 : Int32} {x2 : Int32} {x3 : Int32} {x4 : Int32} {r : Int64} (h : f_X11_valueOf S x1 x2 x3 x4 = some (r, S1)) : Kt l D (mw cI ad) (KX D (xtys cI cC cS) adK adV) yX11_valueOf cX11_valueOf 10 (some .long) (8) (238) [.ref (ad 0), .int x1, .int x2, .int x3, .int x4] S (some (.long r)) S1 := by
  refine k_ent (ins := .lreturn) (st := [.long r]) (by decide +kernel) (Nat.le_of_ble_eq_true rfl) ret_l ?_
  intro p e s m args below meth c A Q C hK I hA hq ls hl
  have C : CallFix p m c cX11_valueOf 10 s args TT RX11 := C
  have hx := C.1
  have hb := C.2.1
  have kx := kx_ok D (xtys cI cC cS) adK adV
  have hl : lv_has ls 10 [(0, .ref (ad 0)), (1, .int x1), (2, .int x2), (3, .int x3), (4, .int x4)] := hl
  have J_55 : ∀ (k_6 : St → Int32 → Int32 → Int32 → Int32 → Int64 → Int32 → Option (Int64 × St)) (hk_6 : ∀ (S : St) (x1 : Int32) (x2 : Int32) (x3 : Int32) (x4 : Int32) (x5 : Int64) (x7 : Int32), k_6 S x1 x2 x3 x4 x5 x7 = some (r, S1) → ∀ (H : Heap) (locs : List Loc) (ls : Array Slot), Iv D (mw cI ad) S A s H locs → lv_has ls 10 [(0, .ref (ad 0)), (1, .int x1), (2, .int x2), (3, .int x3), (4, .int x4), (5, .long x5), (7, .int x7)] → W p l e ({ frames := 8, cells := 0, slots := 0, locals := 238 } : Room) s m args below meth c H locs 0 0 Q (F0 m 6 ls [])) (S : St) (x1 : Int32) (x2 : Int32) (x3 : Int32) (x4 : Int32) (x7 : Int32) (t0 : Int64), f_X11_valueOf_55 k_6 S x1 x2 x3 x4 x7 t0 = some (r, S1) → ∀ (H : Heap) (locs : List Loc) (ls : Array Slot), Iv D (mw cI ad) S A s H locs → lv_has ls 10 [(0, .ref (ad 0)), (1, .int x1), (2, .int x2), (3, .int x3), (4, .int x4), (7, .int x7)] → W p l e ({ frames := 8, cells := 0, slots := 0, locals := 238 } : Room) s m args below meth c H locs 0 0 Q (F0 m 55 ls [.long t0]) := by
    intro k_6 hk_6 S x1 x2 x3 x4 x7 t0 h H locs ls I hl
    unfold f_X11_valueOf_55 at h
    refine lv_lstore (lv' := [(5, .long t0), (0, .ref (ad 0)), (1, .int x1), (2, .int x2), (3, .int x3), (4, .int x4), (7, .int x7)]) hx hb dX11_valueOf_55 hl (by decide) rfl (fun ls hl => ?_)
    obtain ⟨v1, ev1⟩ : ∃ y : Int32, y = x7 + 1 := ⟨_, rfl⟩
    have h := bnd_at ev1 h
    refine lv_iinc (v := v1) (lv' := [(7, .int v1), (5, .long t0), (0, .ref (ad 0)), (1, .int x1), (2, .int x2), (3, .int x3), (4, .int x4)]) hx hb dX11_valueOf_57 hl (k := 6) rfl (by rw [ev1]; rfl) (by decide) rfl (fun ls hl => ?_)
    clear ev1
    refine lv_goto (tgt := 6) hx hb dX11_valueOf_60 (by decide) ?_
    exact hk_6 _ _ _ _ _ _ _ h _ _ _ I (lv_sub hl [2, 3, 4, 5, 6, 1, 0] rfl)
  have J_38 : ∀ (k_6 : St → Int32 → Int32 → Int32 → Int32 → Int64 → Int32 → Option (Int64 × St)) (hk_6 : ∀ (S : St) (x1 : Int32) (x2 : Int32) (x3 : Int32) (x4 : Int32) (x5 : Int64) (x7 : Int32), k_6 S x1 x2 x3 x4 x5 x7 = some (r, S1) → ∀ (H : Heap) (locs : List Loc) (ls : Array Slot), Iv D (mw cI ad) S A s H locs → lv_has ls 10 [(0, .ref (ad 0)), (1, .int x1), (2, .int x2), (3, .int x3), (4, .int x4), (5, .long x5), (7, .int x7)] → W p l e ({ frames := 8, cells := 0, slots := 0, locals := 238 } : Room) s m args below meth c H locs 0 0 Q (F0 m 6 ls [])) (S : St) (x1 : Int32) (x2 : Int32) (x3 : Int32) (x4 : Int32) (x5 : Int64) (x7 : Int32) (t0 : Int64), f_X11_valueOf_38 k_6 S x1 x2 x3 x4 x5 x7 t0 = some (r, S1) → ∀ (H : Heap) (locs : List Loc) (ls : Array Slot), Iv D (mw cI ad) S A s H locs → lv_has ls 10 [(0, .ref (ad 0)), (1, .int x1), (2, .int x2), (3, .int x3), (4, .int x4), (5, .long x5), (7, .int x7)] → W p l e ({ frames := 8, cells := 0, slots := 0, locals := 238 } : Room) s m args below meth c H locs 0 0 Q (F0 m 38 ls [.long t0]) := by
    intro k_6 hk_6 S x1 x2 x3 x4 x5 x7 t0 h H locs ls I hl
    unfold f_X11_valueOf_38 at h
    refine lv_lstore (lv' := [(8, .long t0), (0, .ref (ad 0)), (1, .int x1), (2, .int x2), (3, .int x3), (4, .int x4), (5, .long x5), (7, .int x7)]) hx hb dX11_valueOf_38 hl (by decide) rfl (fun ls hl => ?_)
    refine lv_lload hx hb dX11_valueOf_40 (lv_at hl 0 rfl) ?_
    refine lv_lload hx hb dX11_valueOf_42 (lv_at hl 6 rfl) ?_
    refine W.lcmp hx hb dX11_valueOf_44 ?_
    refine lv_if_le (tgt := 53) hx hb dX11_valueOf_45 (by decide) (fun c2 => ?_) (fun c2 => ?_)
    · have h := ite_t c2 h
      refine lv_lload hx hb dX11_valueOf_53 (lv_at hl 6 rfl) ?_
      exact J_55 k_6 hk_6 _ _ _ _ _ _ _ h _ _ _ I (lv_sub hl [1, 2, 3, 4, 5, 7] rfl)
    · have h := ite_n c2 h
      refine lv_lload hx hb dX11_valueOf_48 (lv_at hl 0 rfl) ?_
      refine lv_goto (tgt := 55) hx hb dX11_valueOf_50 (by decide) ?_
      exact J_55 k_6 hk_6 _ _ _ _ _ _ _ h _ _ _ I (lv_sub hl [1, 2, 3, 4, 5, 7] rfl)
  have B_6 : ∀ (k_6 : St → Int32 → Int32 → Int32 → Int32 → Int64 → Int32 → Option (Int64 × St)) (hk_6 : ∀ (S : St) (x1 : Int32) (x2 : Int32) (x3 : Int32) (x4 : Int32) (x5 : Int64) (x7 : Int32), k_6 S x1 x2 x3 x4 x5 x7 = some (r, S1) → ∀ (H : Heap) (locs : List Loc) (ls : Array Slot), Iv D (mw cI ad) S A s H locs → lv_has ls 10 [(0, .ref (ad 0)), (1, .int x1), (2, .int x2), (3, .int x3), (4, .int x4), (5, .long x5), (7, .int x7)] → W p l e ({ frames := 8, cells := 0, slots := 0, locals := 238 } : Room) s m args below meth c H locs 0 0 Q (F0 m 6 ls [])) (S : St) (x1 : Int32) (x2 : Int32) (x3 : Int32) (x4 : Int32) (x5 : Int64) (x7 : Int32), f_X11_valueOf_6 k_6 S x1 x2 x3 x4 x5 x7 = some (r, S1) → ∀ (H : Heap) (locs : List Loc) (ls : Array Slot), Iv D (mw cI ad) S A s H locs → lv_has ls 10 [(0, .ref (ad 0)), (1, .int x1), (2, .int x2), (3, .int x3), (4, .int x4), (5, .long x5), (7, .int x7)] → W p l e ({ frames := 8, cells := 0, slots := 0, locals := 238 } : Room) s m args below meth c H locs 0 0 Q (F0 m 6 ls []) := by
    intro k_6 hk_6 S x1 x2 x3 x4 x5 x7 h H locs ls I hl
    unfold f_X11_valueOf_6 at h
    refine lv_iload hx hb dX11_valueOf_6 (lv_at hl 6 rfl) ?_
    refine lv_bipush (v := 6) hx hb dX11_valueOf_8 (by decide) ?_
    refine lv_icmp_ge (tgt := 63) hx hb dX11_valueOf_10 (by decide) (fun c3 => ?_) (fun c3 => ?_)
    · have h := ite_t c3 h
      refine lv_lload hx hb dX11_valueOf_63 (lv_at hl 5 rfl) ?_
      exact rt_l hq h I dX11_valueOf_65
    · have h := ite_n c3 h
      refine lv_iload hx hb dX11_valueOf_13 (lv_at hl 4 rfl) ?_
      refine lv_iload hx hb dX11_valueOf_15 (lv_at hl 6 rfl) ?_
      obtain ⟨r4, S4, e4, h⟩ := obd2_ex h
      refine k_S (As := [.int x4, .int x7]) (rest := []) (st1 := [.int r4]) C kx hK I hA (c_X11_has e4) ⟨Nat.le_of_ble_eq_true rfl, Nat.le_of_ble_eq_true rfl⟩ ms_X11_has lk_X11_85 rfl hl.1 rfl (Nat.le_of_ble_eq_true rfl) dX11_valueOf_17 rfl (fun H locs I => ?_)
      refine lv_if_eq (tgt := 37) hx hb dX11_valueOf_20 (by decide) (fun c5 => ?_) (fun c5 => ?_)
      · have h := ite_t c5 h
        refine lv_lconst (v := (0)) hx hb dX11_valueOf_37 (by decide) ?_
        exact J_38 k_6 hk_6 _ _ _ _ _ _ _ _ h _ _ _ I (lv_sub hl [0, 1, 2, 3, 4, 5, 6] rfl)
      · have h := ite_n c5 h
        refine lv_aload_n hx hb dX11_valueOf_23 rfl (lv_at hl 0 rfl) ?_
        refine lv_iload_n hx hb dX11_valueOf_24 rfl (lv_at hl 1 rfl) ?_
        refine lv_iload_n hx hb dX11_valueOf_25 rfl (lv_at hl 2 rfl) ?_
        refine lv_iload_n hx hb dX11_valueOf_26 rfl (lv_at hl 3 rfl) ?_
        refine lv_iload hx hb dX11_valueOf_27 (lv_at hl 4 rfl) ?_
        refine lv_iload hx hb dX11_valueOf_29 (lv_at hl 6 rfl) ?_
        obtain ⟨r6, S6, e6, h⟩ := obd2_ex h
        refine k_V (As := [.int x1, .int x2, .int x3, .int x4, .int x7]) (rest := []) (st1 := [.long r6]) C kx hK I hA (c_X11_going e6) ⟨Nat.le_of_ble_eq_true rfl, Nat.le_of_ble_eq_true rfl⟩ mv_X11_going lk_X11_301 0 11 (mw_0 (cI := cI) (ad := ad)) rfl rfl hl.1 rfl (Nat.le_of_ble_eq_true rfl) dX11_valueOf_31 rfl (fun H locs I => ?_)
        refine lv_goto (tgt := 38) hx hb dX11_valueOf_34 (by decide) ?_
        exact J_38 k_6 hk_6 _ _ _ _ _ _ _ _ h _ _ _ I (lv_sub hl [0, 1, 2, 3, 4, 5, 6] rfl)
  have J_6 : ∀ (fu : Nat) (S : St) (x1 : Int32) (x2 : Int32) (x3 : Int32) (x4 : Int32) (x5 : Int64) (x7 : Int32), l_X11_valueOf_6  fu S x1 x2 x3 x4 x5 x7 = some (r, S1) → ∀ (H : Heap) (locs : List Loc) (ls : Array Slot), Iv D (mw cI ad) S A s H locs → lv_has ls 10 [(0, .ref (ad 0)), (1, .int x1), (2, .int x2), (3, .int x3), (4, .int x4), (5, .long x5), (7, .int x7)] → W p l e ({ frames := 8, cells := 0, slots := 0, locals := 238 } : Room) s m args below meth c H locs 0 0 Q (F0 m 6 ls []) := by
    intro fu
    induction fu with
    | zero => intro S x1 x2 x3 x4 x5 x7 h; cases h
    | succ fu ih => intro S x1 x2 x3 x4 x5 x7 h; exact B_6 (l_X11_valueOf_6 fu) ih S x1 x2 x3 x4 x5 x7 h
  unfold f_X11_valueOf at h
  refine lv_lconst (v := (0)) hx hb dX11_valueOf_0 (by decide) ?_
  refine lv_lstore (lv' := [(5, .long (0)), (0, .ref (ad 0)), (1, .int x1), (2, .int x2), (3, .int x3), (4, .int x4)]) hx hb dX11_valueOf_1 hl (by decide) rfl (fun ls hl => ?_)
  refine lv_iconst (v := 0) hx hb dX11_valueOf_3 (by decide) ?_
  refine lv_istore (lv' := [(7, .int 0), (5, .long (0)), (0, .ref (ad 0)), (1, .int x1), (2, .int x2), (3, .int x3), (4, .int x4)]) hx hb dX11_valueOf_4 hl (by decide) rfl (fun ls hl => ?_)
  exact J_6 _ _ _ _ _ _ _ _ h _ _ _ I (lv_sub hl [2, 3, 4, 5, 6, 1, 0] rfl)
theorem lk_X11_304 : Cond.methodLink RX11 304 yX11_refusesNow ∈ TT := tt_of 1435 (by decide +kernel) rfl
theorem mv_X11_refusesNow : MV yX11_refusesNow cX11_refusesNow 8 (some .int) 4 := ⟨tt_of 1438 (by decide +kernel) rfl, tt_of 1437 (by decide +kernel) rfl, tt_of 49 (by decide +kernel) rfl, tt_of 76 (by decide +kernel) rfl, ⟨by decide +kernel, by decide +kernel, by decide +kernel⟩⟩
theorem lk_X11_307 : Cond.methodLink RX11 307 yX11_valueOf ∈ TT := tt_of 1441 (by decide +kernel) rfl
theorem mv_X11_valueOf : MV yX11_valueOf cX11_valueOf 10 (some .long) 4 := ⟨tt_of 1444 (by decide +kernel) rfl, tt_of 1443 (by decide +kernel) rfl, tt_of 50 (by decide +kernel) rfl, tt_of 76 (by decide +kernel) rfl, ⟨by decide +kernel, by decide +kernel, by decide +kernel⟩⟩
theorem dX11_value_0 : decode cX11_value 0 = .ok (.aload_n 0, 1) := by decide +kernel
theorem dX11_value_1 : decode cX11_value 1 = .ok (.iload_n 1, 1) := by decide +kernel
theorem dX11_value_2 : decode cX11_value 2 = .ok (.iload_n 2, 1) := by decide +kernel
theorem dX11_value_3 : decode cX11_value 3 = .ok (.iload_n 3, 1) := by decide +kernel
theorem dX11_value_4 : decode cX11_value 4 = .ok (.iload 4, 2) := by decide +kernel
theorem dX11_value_6 : decode cX11_value 6 = .ok (.invokevirtual 304, 3) := by decide +kernel
theorem dX11_value_9 : decode cX11_value 9 = .ok (.istore 6, 2) := by decide +kernel
theorem dX11_value_11 : decode cX11_value 11 = .ok (.iload 6, 2) := by decide +kernel
theorem dX11_value_13 : decode cX11_value 13 = .ok (.ifCond .ne 11, 3) := by decide +kernel
theorem dX11_value_16 : decode cX11_value 16 = .ok (.iload 5, 2) := by decide +kernel
theorem dX11_value_18 : decode cX11_value 18 = .ok (.invokestatic 179, 3) := by decide +kernel
theorem dX11_value_21 : decode cX11_value 21 = .ok (.ifCond .ne 20, 3) := by decide +kernel
theorem dX11_value_24 : decode cX11_value 24 = .ok (.iload 6, 2) := by decide +kernel
theorem dX11_value_26 : decode cX11_value 26 = .ok (.bipush (-2), 2) := by decide +kernel
theorem dX11_value_28 : decode cX11_value 28 = .ok (.if_icmp .ne 9, 3) := by decide +kernel
theorem dX11_value_31 : decode cX11_value 31 = .ok (.ldc2_w 237, 3) := by decide +kernel
theorem dX11_value_34 : decode cX11_value 34 = .ok (.goto 6, 3) := by decide +kernel
theorem dX11_value_37 : decode cX11_value 37 = .ok (.ldc2_w 239, 3) := by decide +kernel
theorem dX11_value_40 : decode cX11_value 40 = .ok (.lreturn, 1) := by decide +kernel
theorem dX11_value_41 : decode cX11_value 41 = .ok (.aload_n 0, 1) := by decide +kernel
theorem dX11_value_42 : decode cX11_value 42 = .ok (.iload_n 1, 1) := by decide +kernel
theorem dX11_value_43 : decode cX11_value 43 = .ok (.iload_n 2, 1) := by decide +kernel
theorem dX11_value_44 : decode cX11_value 44 = .ok (.iload_n 3, 1) := by decide +kernel
theorem dX11_value_45 : decode cX11_value 45 = .ok (.iload 4, 2) := by decide +kernel
theorem dX11_value_47 : decode cX11_value 47 = .ok (.invokevirtual 307, 3) := by decide +kernel
theorem dX11_value_50 : decode cX11_value 50 = .ok (.aload_n 0, 1) := by decide +kernel
theorem dX11_value_51 : decode cX11_value 51 = .ok (.iload 4, 2) := by decide +kernel
theorem dX11_value_53 : decode cX11_value 53 = .ok (.invokevirtual 273, 3) := by decide +kernel
theorem dX11_value_56 : decode cX11_value 56 = .ok (.iload 5, 2) := by decide +kernel
theorem dX11_value_58 : decode cX11_value 58 = .ok (.invokestatic 185, 3) := by decide +kernel
theorem dX11_value_61 : decode cX11_value 61 = .ok (.lreturn, 1) := by decide +kernel
def f_X11_value_24 (S : St) (x6 : Int32) : Option (Int64 × St) :=
  if x6 = (-2) then (
    some ((-8999999999999999998), S)
  ) else (
    some ((-8999999999999999997), S)
  )
def f_X11_value (S : St) (x1 : Int32) (x2 : Int32) (x3 : Int32) (x4 : Int32) (x5 : Int32) : Option (Int64 × St) :=
  obd2 (f_X11_refusesNow S x1 x2 x3 x4) fun r2 S2 =>
  if r2 = 0 then (
    obd2 (f_X11_isPart S2 x5) fun r4 S4 =>
    if r4 = 0 then (
      f_X11_value_24 S4 r2
    ) else (
      obd2 (f_X11_valueOf S4 x1 x2 x3 x4) fun r6 S6 =>
      obd2 (f_X11_totals S6 x4) fun r7 S7 =>
      obd2 (f_X11_lowest S7 r6 r7 x5) fun r8 S8 =>
      some (r8, S8)
    )
  ) else (
    f_X11_value_24 S2 r2
  )
set_option maxHeartbeats 4000000 in
set_option maxRecDepth 100000 in
theorem c_X11_value {l : Launch} {D : va_G} {cI cC cS : ClassId} {ad adK adV : Nat → Nat} {S S1 : St} {x1 : Int32} {x2 : Int32} {x3 : Int32} {x4 : Int32} {x5 : Int32} {r : Int64} (h : f_X11_value S x1 x2 x3 x4 x5 = some (r, S1)) : Kt l D (mw cI ad) (KX D (xtys cI cC cS) adK adV) yX11_value cX11_value 7 (some .long) (9) (267) [.ref (ad 0), .int x1, .int x2, .int x3, .int x4, .int x5] S (some (.long r)) S1 := by
  refine k_ent (ins := .lreturn) (st := [.long r]) (by decide +kernel) (Nat.le_of_ble_eq_true rfl) ret_l ?_
  intro p e s m args below meth c A Q C hK I hA hq ls hl
  have C : CallFix p m c cX11_value 7 s args TT RX11 := C
  have hx := C.1
  have hb := C.2.1
  have kx := kx_ok D (xtys cI cC cS) adK adV
  have hl : lv_has ls 7 [(0, .ref (ad 0)), (1, .int x1), (2, .int x2), (3, .int x3), (4, .int x4), (5, .int x5)] := hl
  have J_24 : ∀ (S : St) (x6 : Int32), f_X11_value_24  S x6 = some (r, S1) → ∀ (H : Heap) (locs : List Loc) (ls : Array Slot), Iv D (mw cI ad) S A s H locs → lv_has ls 7 [(6, .int x6)] → W p l e ({ frames := 9, cells := 0, slots := 0, locals := 267 } : Room) s m args below meth c H locs 0 0 Q (F0 m 24 ls []) := by
    intro  S x6 h H locs ls I hl
    unfold f_X11_value_24 at h
    refine lv_iload hx hb dX11_value_24 (lv_at hl 0 rfl) ?_
    refine lv_bipush (v := (-2)) hx hb dX11_value_26 (by decide) ?_
    refine lv_icmp_ne (tgt := 37) hx hb dX11_value_28 (by decide) (fun c1 => ?_) (fun c1 => ?_)
    · have h := ite_n c1 h
      refine lv_ldc2 (v := (-8999999999999999997)) hx hb C.2.2.2.1 (C.2.2.2.2 _ cn_X11_239) dX11_value_37 ?_
      exact rt_l hq h I dX11_value_40
    · have h := ite_t c1 h
      refine lv_ldc2 (v := (-8999999999999999998)) hx hb C.2.2.2.1 (C.2.2.2.2 _ cn_X11_237) dX11_value_31 ?_
      refine lv_goto (tgt := 40) hx hb dX11_value_34 (by decide) ?_
      exact rt_l hq h I dX11_value_40
  unfold f_X11_value at h
  refine lv_aload_n hx hb dX11_value_0 rfl (lv_at hl 0 rfl) ?_
  refine lv_iload_n hx hb dX11_value_1 rfl (lv_at hl 1 rfl) ?_
  refine lv_iload_n hx hb dX11_value_2 rfl (lv_at hl 2 rfl) ?_
  refine lv_iload_n hx hb dX11_value_3 rfl (lv_at hl 3 rfl) ?_
  refine lv_iload hx hb dX11_value_4 (lv_at hl 4 rfl) ?_
  obtain ⟨r2, S2, e2, h⟩ := obd2_ex h
  refine k_V (As := [.int x1, .int x2, .int x3, .int x4]) (rest := []) (st1 := [.int r2]) C kx hK I hA (c_X11_refusesNow e2) ⟨Nat.le_of_ble_eq_true rfl, Nat.le_of_ble_eq_true rfl⟩ mv_X11_refusesNow lk_X11_304 0 11 (mw_0 (cI := cI) (ad := ad)) rfl rfl hl.1 rfl (Nat.le_of_ble_eq_true rfl) dX11_value_6 rfl (fun H locs I => ?_)
  refine lv_istore (lv' := [(6, .int r2), (0, .ref (ad 0)), (1, .int x1), (2, .int x2), (3, .int x3), (4, .int x4), (5, .int x5)]) hx hb dX11_value_9 hl (by decide) rfl (fun ls hl => ?_)
  refine lv_iload hx hb dX11_value_11 (lv_at hl 0 rfl) ?_
  refine lv_if_ne (tgt := 24) hx hb dX11_value_13 (by decide) (fun c3 => ?_) (fun c3 => ?_)
  · have h := ite_n c3 h
    exact J_24 _ _ h _ _ _ I (lv_sub hl [0] rfl)
  · have h := ite_t c3 h
    refine lv_iload hx hb dX11_value_16 (lv_at hl 6 rfl) ?_
    obtain ⟨r4, S4, e4, h⟩ := obd2_ex h
    refine k_S (As := [.int x5]) (rest := []) (st1 := [.int r4]) C kx hK I hA (c_X11_isPart e4) ⟨Nat.le_of_ble_eq_true rfl, Nat.le_of_ble_eq_true rfl⟩ ms_X11_isPart lk_X11_179 rfl hl.1 rfl (Nat.le_of_ble_eq_true rfl) dX11_value_18 rfl (fun H locs I => ?_)
    refine lv_if_ne (tgt := 41) hx hb dX11_value_21 (by decide) (fun c5 => ?_) (fun c5 => ?_)
    · have h := ite_n c5 h
      refine lv_aload_n hx hb dX11_value_41 rfl (lv_at hl 1 rfl) ?_
      refine lv_iload_n hx hb dX11_value_42 rfl (lv_at hl 2 rfl) ?_
      refine lv_iload_n hx hb dX11_value_43 rfl (lv_at hl 3 rfl) ?_
      refine lv_iload_n hx hb dX11_value_44 rfl (lv_at hl 4 rfl) ?_
      refine lv_iload hx hb dX11_value_45 (lv_at hl 5 rfl) ?_
      obtain ⟨r6, S6, e6, h⟩ := obd2_ex h
      refine k_V (As := [.int x1, .int x2, .int x3, .int x4]) (rest := []) (st1 := [.long r6]) C kx hK I hA (c_X11_valueOf e6) ⟨Nat.le_of_ble_eq_true rfl, Nat.le_of_ble_eq_true rfl⟩ mv_X11_valueOf lk_X11_307 0 11 (mw_0 (cI := cI) (ad := ad)) rfl rfl hl.1 rfl (Nat.le_of_ble_eq_true rfl) dX11_value_47 rfl (fun H locs I => ?_)
      refine lv_aload_n hx hb dX11_value_50 rfl (lv_at hl 1 rfl) ?_
      refine lv_iload hx hb dX11_value_51 (lv_at hl 5 rfl) ?_
      obtain ⟨r7, S7, e7, h⟩ := obd2_ex h
      refine k_V (As := [.int x4]) (rest := [.long r6]) (st1 := [.long r7, .long r6]) C kx hK I hA (c_X11_totals e7) ⟨Nat.le_of_ble_eq_true rfl, Nat.le_of_ble_eq_true rfl⟩ mv_X11_totals lk_X11_273 0 11 (mw_0 (cI := cI) (ad := ad)) rfl rfl hl.1 rfl (Nat.le_of_ble_eq_true rfl) dX11_value_53 rfl (fun H locs I => ?_)
      refine lv_iload hx hb dX11_value_56 (lv_at hl 6 rfl) ?_
      obtain ⟨r8, S8, e8, h⟩ := obd2_ex h
      refine k_S (As := [.long r6, .long r7, .int x5]) (rest := []) (st1 := [.long r8]) C kx hK I hA (c_X11_lowest e8) ⟨Nat.le_of_ble_eq_true rfl, Nat.le_of_ble_eq_true rfl⟩ ms_X11_lowest lk_X11_185 rfl hl.1 rfl (Nat.le_of_ble_eq_true rfl) dX11_value_58 rfl (fun H locs I => ?_)
      exact rt_l hq h I dX11_value_61
    · have h := ite_t c5 h
      exact J_24 _ _ h _ _ _ I (lv_sub hl [0] rfl)
theorem dX11_next_0 : decode cX11_next 0 = .ok (.aload_n 0, 1) := by decide +kernel
theorem dX11_next_1 : decode cX11_next 1 = .ok (.iload_n 1, 1) := by decide +kernel
theorem dX11_next_2 : decode cX11_next 2 = .ok (.iload_n 2, 1) := by decide +kernel
theorem dX11_next_3 : decode cX11_next 3 = .ok (.iload_n 3, 1) := by decide +kernel
theorem dX11_next_4 : decode cX11_next 4 = .ok (.iload 4, 2) := by decide +kernel
theorem dX11_next_6 : decode cX11_next 6 = .ok (.invokevirtual 304, 3) := by decide +kernel
theorem dX11_next_9 : decode cX11_next 9 = .ok (.istore 5, 2) := by decide +kernel
theorem dX11_next_11 : decode cX11_next 11 = .ok (.iload 5, 2) := by decide +kernel
theorem dX11_next_13 : decode cX11_next 13 = .ok (.ifCond .eq 6, 3) := by decide +kernel
theorem dX11_next_16 : decode cX11_next 16 = .ok (.iload 5, 2) := by decide +kernel
theorem dX11_next_18 : decode cX11_next 18 = .ok (.ireturn, 1) := by decide +kernel
theorem dX11_next_19 : decode cX11_next 19 = .ok (.aload_n 0, 1) := by decide +kernel
theorem dX11_next_20 : decode cX11_next 20 = .ok (.iload_n 1, 1) := by decide +kernel
theorem dX11_next_21 : decode cX11_next 21 = .ok (.iload_n 2, 1) := by decide +kernel
theorem dX11_next_22 : decode cX11_next 22 = .ok (.iload_n 3, 1) := by decide +kernel
theorem dX11_next_23 : decode cX11_next 23 = .ok (.iload 4, 2) := by decide +kernel
theorem dX11_next_25 : decode cX11_next 25 = .ok (.invokevirtual 307, 3) := by decide +kernel
theorem dX11_next_28 : decode cX11_next 28 = .ok (.lstore 6, 2) := by decide +kernel
theorem dX11_next_30 : decode cX11_next 30 = .ok (.iconst 0, 1) := by decide +kernel
theorem dX11_next_31 : decode cX11_next 31 = .ok (.istore 8, 2) := by decide +kernel
theorem dX11_next_33 : decode cX11_next 33 = .ok (.iload 8, 2) := by decide +kernel
theorem dX11_next_35 : decode cX11_next 35 = .ok (.bipush 6, 2) := by decide +kernel
theorem dX11_next_37 : decode cX11_next 37 = .ok (.if_icmp .ge 46, 3) := by decide +kernel
theorem dX11_next_40 : decode cX11_next 40 = .ok (.lload 6, 2) := by decide +kernel
theorem dX11_next_42 : decode cX11_next 42 = .ok (.lconst 0, 1) := by decide +kernel
theorem dX11_next_43 : decode cX11_next 43 = .ok (.lcmp, 1) := by decide +kernel
theorem dX11_next_44 : decode cX11_next 44 = .ok (.ifCond .le 39, 3) := by decide +kernel
theorem dX11_next_47 : decode cX11_next 47 = .ok (.iload 4, 2) := by decide +kernel
theorem dX11_next_49 : decode cX11_next 49 = .ok (.iload 8, 2) := by decide +kernel
theorem dX11_next_51 : decode cX11_next 51 = .ok (.invokestatic 85, 3) := by decide +kernel
theorem dX11_next_54 : decode cX11_next 54 = .ok (.ifCond .eq 23, 3) := by decide +kernel
theorem dX11_next_57 : decode cX11_next 57 = .ok (.aload_n 0, 1) := by decide +kernel
theorem dX11_next_58 : decode cX11_next 58 = .ok (.iload_n 1, 1) := by decide +kernel
theorem dX11_next_59 : decode cX11_next 59 = .ok (.iload_n 2, 1) := by decide +kernel
theorem dX11_next_60 : decode cX11_next 60 = .ok (.iload_n 3, 1) := by decide +kernel
theorem dX11_next_61 : decode cX11_next 61 = .ok (.iload 4, 2) := by decide +kernel
theorem dX11_next_63 : decode cX11_next 63 = .ok (.iload 8, 2) := by decide +kernel
theorem dX11_next_65 : decode cX11_next 65 = .ok (.invokevirtual 301, 3) := by decide +kernel
theorem dX11_next_68 : decode cX11_next 68 = .ok (.lload 6, 2) := by decide +kernel
theorem dX11_next_70 : decode cX11_next 70 = .ok (.lcmp, 1) := by decide +kernel
theorem dX11_next_71 : decode cX11_next 71 = .ok (.ifCond .ne 6, 3) := by decide +kernel
theorem dX11_next_74 : decode cX11_next 74 = .ok (.iload 8, 2) := by decide +kernel
theorem dX11_next_76 : decode cX11_next 76 = .ok (.ireturn, 1) := by decide +kernel
theorem dX11_next_77 : decode cX11_next 77 = .ok (.iinc 8 1, 3) := by decide +kernel
theorem dX11_next_80 : decode cX11_next 80 = .ok (.goto (-47), 3) := by decide +kernel
theorem dX11_next_83 : decode cX11_next 83 = .ok (.iconst (-1), 1) := by decide +kernel
theorem dX11_next_84 : decode cX11_next 84 = .ok (.ireturn, 1) := by decide +kernel
def f_X11_next_77 (k_33 : St → Int32 → Int32 → Int32 → Int32 → Int64 → Int32 → Option (Int32 × St)) (S : St) (x1 : Int32) (x2 : Int32) (x3 : Int32) (x4 : Int32) (x6 : Int64) (x8 : Int32) : Option (Int32 × St) :=
  bnd (x8 + 1 : Int32) fun v1 =>
  k_33 S x1 x2 x3 x4 x6 v1
def f_X11_next_33 (k_33 : St → Int32 → Int32 → Int32 → Int32 → Int64 → Int32 → Option (Int32 × St)) (S : St) (x1 : Int32) (x2 : Int32) (x3 : Int32) (x4 : Int32) (x6 : Int64) (x8 : Int32) : Option (Int32 × St) :=
  if 6 ≤ x8 then (
    some ((-1), S)
  ) else (
    if (lg_cmp x6 (0)) ≤ 0 then (
      some ((-1), S)
    ) else (
      obd2 (f_X11_has S x4 x8) fun r4 S4 =>
      if r4 = 0 then (
        f_X11_next_77 k_33 S4 x1 x2 x3 x4 x6 x8
      ) else (
        obd2 (f_X11_going S4 x1 x2 x3 x4 x8) fun r6 S6 =>
        if (lg_cmp r6 x6) = 0 then (
          some (x8, S6)
        ) else (
          f_X11_next_77 k_33 S6 x1 x2 x3 x4 x6 x8
        )
      )
    )
  )
def l_X11_next_33 : Nat → St → Int32 → Int32 → Int32 → Int32 → Int64 → Int32 → Option (Int32 × St)
  | 0, _, _, _, _, _, _, _ => none
  | fu + 1, S, x1, x2, x3, x4, x6, x8 => f_X11_next_33 (l_X11_next_33 fu) S x1 x2 x3 x4 x6 x8
def f_X11_next (S : St) (x1 : Int32) (x2 : Int32) (x3 : Int32) (x4 : Int32) : Option (Int32 × St) :=
  obd2 (f_X11_refusesNow S x1 x2 x3 x4) fun r8 S8 =>
  if r8 = 0 then (
    obd2 (f_X11_valueOf S8 x1 x2 x3 x4) fun r10 S10 =>
    l_X11_next_33 FU S10 x1 x2 x3 x4 r10 0
  ) else (
    some (r8, S8)
  )
set_option maxHeartbeats 4000000 in
set_option maxRecDepth 100000 in
theorem c_X11_next {l : Launch} {D : va_G} {cI cC cS : ClassId} {ad adK adV : Nat → Nat} {S S1 : St} {x1 : Int32} {x2 : Int32} {x3 : Int32} {x4 : Int32} {r : Int32} (h : f_X11_next S x1 x2 x3 x4 = some (r, S1)) : Kt l D (mw cI ad) (KX D (xtys cI cC cS) adK adV) yX11_next cX11_next 9 (some .int) (9) (267) [.ref (ad 0), .int x1, .int x2, .int x3, .int x4] S (some (.int r)) S1 := by
  refine k_ent (ins := .ireturn) (st := [.int r]) (by decide +kernel) (Nat.le_of_ble_eq_true rfl) ret_i ?_
  intro p e s m args below meth c A Q C hK I hA hq ls hl
  have C : CallFix p m c cX11_next 9 s args TT RX11 := C
  have hx := C.1
  have hb := C.2.1
  have kx := kx_ok D (xtys cI cC cS) adK adV
  have hl : lv_has ls 9 [(0, .ref (ad 0)), (1, .int x1), (2, .int x2), (3, .int x3), (4, .int x4)] := hl
  have J_77 : ∀ (k_33 : St → Int32 → Int32 → Int32 → Int32 → Int64 → Int32 → Option (Int32 × St)) (hk_33 : ∀ (S : St) (x1 : Int32) (x2 : Int32) (x3 : Int32) (x4 : Int32) (x6 : Int64) (x8 : Int32), k_33 S x1 x2 x3 x4 x6 x8 = some (r, S1) → ∀ (H : Heap) (locs : List Loc) (ls : Array Slot), Iv D (mw cI ad) S A s H locs → lv_has ls 9 [(0, .ref (ad 0)), (1, .int x1), (2, .int x2), (3, .int x3), (4, .int x4), (6, .long x6), (8, .int x8)] → W p l e ({ frames := 9, cells := 0, slots := 0, locals := 267 } : Room) s m args below meth c H locs 0 0 Q (F0 m 33 ls [])) (S : St) (x1 : Int32) (x2 : Int32) (x3 : Int32) (x4 : Int32) (x6 : Int64) (x8 : Int32), f_X11_next_77 k_33 S x1 x2 x3 x4 x6 x8 = some (r, S1) → ∀ (H : Heap) (locs : List Loc) (ls : Array Slot), Iv D (mw cI ad) S A s H locs → lv_has ls 9 [(0, .ref (ad 0)), (1, .int x1), (2, .int x2), (3, .int x3), (4, .int x4), (6, .long x6), (8, .int x8)] → W p l e ({ frames := 9, cells := 0, slots := 0, locals := 267 } : Room) s m args below meth c H locs 0 0 Q (F0 m 77 ls []) := by
    intro k_33 hk_33 S x1 x2 x3 x4 x6 x8 h H locs ls I hl
    unfold f_X11_next_77 at h
    obtain ⟨v1, ev1⟩ : ∃ y : Int32, y = x8 + 1 := ⟨_, rfl⟩
    have h := bnd_at ev1 h
    refine lv_iinc (v := v1) (lv' := [(8, .int v1), (0, .ref (ad 0)), (1, .int x1), (2, .int x2), (3, .int x3), (4, .int x4), (6, .long x6)]) hx hb dX11_next_77 hl (k := 6) rfl (by rw [ev1]; rfl) (by decide) rfl (fun ls hl => ?_)
    clear ev1
    refine lv_goto (tgt := 33) hx hb dX11_next_80 (by decide) ?_
    exact hk_33 _ _ _ _ _ _ _ h _ _ _ I (lv_sub hl [1, 2, 3, 4, 5, 6, 0] rfl)
  have B_33 : ∀ (k_33 : St → Int32 → Int32 → Int32 → Int32 → Int64 → Int32 → Option (Int32 × St)) (hk_33 : ∀ (S : St) (x1 : Int32) (x2 : Int32) (x3 : Int32) (x4 : Int32) (x6 : Int64) (x8 : Int32), k_33 S x1 x2 x3 x4 x6 x8 = some (r, S1) → ∀ (H : Heap) (locs : List Loc) (ls : Array Slot), Iv D (mw cI ad) S A s H locs → lv_has ls 9 [(0, .ref (ad 0)), (1, .int x1), (2, .int x2), (3, .int x3), (4, .int x4), (6, .long x6), (8, .int x8)] → W p l e ({ frames := 9, cells := 0, slots := 0, locals := 267 } : Room) s m args below meth c H locs 0 0 Q (F0 m 33 ls [])) (S : St) (x1 : Int32) (x2 : Int32) (x3 : Int32) (x4 : Int32) (x6 : Int64) (x8 : Int32), f_X11_next_33 k_33 S x1 x2 x3 x4 x6 x8 = some (r, S1) → ∀ (H : Heap) (locs : List Loc) (ls : Array Slot), Iv D (mw cI ad) S A s H locs → lv_has ls 9 [(0, .ref (ad 0)), (1, .int x1), (2, .int x2), (3, .int x3), (4, .int x4), (6, .long x6), (8, .int x8)] → W p l e ({ frames := 9, cells := 0, slots := 0, locals := 267 } : Room) s m args below meth c H locs 0 0 Q (F0 m 33 ls []) := by
    intro k_33 hk_33 S x1 x2 x3 x4 x6 x8 h H locs ls I hl
    unfold f_X11_next_33 at h
    refine lv_iload hx hb dX11_next_33 (lv_at hl 6 rfl) ?_
    refine lv_bipush (v := 6) hx hb dX11_next_35 (by decide) ?_
    refine lv_icmp_ge (tgt := 83) hx hb dX11_next_37 (by decide) (fun c2 => ?_) (fun c2 => ?_)
    · have h := ite_t c2 h
      refine lv_iconst (v := (-1)) hx hb dX11_next_83 (by decide) ?_
      exact rt_i hq h I dX11_next_84
    · have h := ite_n c2 h
      refine lv_lload hx hb dX11_next_40 (lv_at hl 5 rfl) ?_
      refine lv_lconst (v := (0)) hx hb dX11_next_42 (by decide) ?_
      refine W.lcmp hx hb dX11_next_43 ?_
      refine lv_if_le (tgt := 83) hx hb dX11_next_44 (by decide) (fun c3 => ?_) (fun c3 => ?_)
      · have h := ite_t c3 h
        refine lv_iconst (v := (-1)) hx hb dX11_next_83 (by decide) ?_
        exact rt_i hq h I dX11_next_84
      · have h := ite_n c3 h
        refine lv_iload hx hb dX11_next_47 (lv_at hl 4 rfl) ?_
        refine lv_iload hx hb dX11_next_49 (lv_at hl 6 rfl) ?_
        obtain ⟨r4, S4, e4, h⟩ := obd2_ex h
        refine k_S (As := [.int x4, .int x8]) (rest := []) (st1 := [.int r4]) C kx hK I hA (c_X11_has e4) ⟨Nat.le_of_ble_eq_true rfl, Nat.le_of_ble_eq_true rfl⟩ ms_X11_has lk_X11_85 rfl hl.1 rfl (Nat.le_of_ble_eq_true rfl) dX11_next_51 rfl (fun H locs I => ?_)
        refine lv_if_eq (tgt := 77) hx hb dX11_next_54 (by decide) (fun c5 => ?_) (fun c5 => ?_)
        · have h := ite_t c5 h
          exact J_77 k_33 hk_33 _ _ _ _ _ _ _ h _ _ _ I (lv_sub hl [0, 1, 2, 3, 4, 5, 6] rfl)
        · have h := ite_n c5 h
          refine lv_aload_n hx hb dX11_next_57 rfl (lv_at hl 0 rfl) ?_
          refine lv_iload_n hx hb dX11_next_58 rfl (lv_at hl 1 rfl) ?_
          refine lv_iload_n hx hb dX11_next_59 rfl (lv_at hl 2 rfl) ?_
          refine lv_iload_n hx hb dX11_next_60 rfl (lv_at hl 3 rfl) ?_
          refine lv_iload hx hb dX11_next_61 (lv_at hl 4 rfl) ?_
          refine lv_iload hx hb dX11_next_63 (lv_at hl 6 rfl) ?_
          obtain ⟨r6, S6, e6, h⟩ := obd2_ex h
          refine k_V (As := [.int x1, .int x2, .int x3, .int x4, .int x8]) (rest := []) (st1 := [.long r6]) C kx hK I hA (c_X11_going e6) ⟨Nat.le_of_ble_eq_true rfl, Nat.le_of_ble_eq_true rfl⟩ mv_X11_going lk_X11_301 0 11 (mw_0 (cI := cI) (ad := ad)) rfl rfl hl.1 rfl (Nat.le_of_ble_eq_true rfl) dX11_next_65 rfl (fun H locs I => ?_)
          refine lv_lload hx hb dX11_next_68 (lv_at hl 5 rfl) ?_
          refine W.lcmp hx hb dX11_next_70 ?_
          refine lv_if_ne (tgt := 77) hx hb dX11_next_71 (by decide) (fun c7 => ?_) (fun c7 => ?_)
          · have h := ite_n c7 h
            exact J_77 k_33 hk_33 _ _ _ _ _ _ _ h _ _ _ I (lv_sub hl [0, 1, 2, 3, 4, 5, 6] rfl)
          · have h := ite_t c7 h
            refine lv_iload hx hb dX11_next_74 (lv_at hl 6 rfl) ?_
            exact rt_i hq h I dX11_next_76
  have J_33 : ∀ (fu : Nat) (S : St) (x1 : Int32) (x2 : Int32) (x3 : Int32) (x4 : Int32) (x6 : Int64) (x8 : Int32), l_X11_next_33  fu S x1 x2 x3 x4 x6 x8 = some (r, S1) → ∀ (H : Heap) (locs : List Loc) (ls : Array Slot), Iv D (mw cI ad) S A s H locs → lv_has ls 9 [(0, .ref (ad 0)), (1, .int x1), (2, .int x2), (3, .int x3), (4, .int x4), (6, .long x6), (8, .int x8)] → W p l e ({ frames := 9, cells := 0, slots := 0, locals := 267 } : Room) s m args below meth c H locs 0 0 Q (F0 m 33 ls []) := by
    intro fu
    induction fu with
    | zero => intro S x1 x2 x3 x4 x6 x8 h; cases h
    | succ fu ih => intro S x1 x2 x3 x4 x6 x8 h; exact B_33 (l_X11_next_33 fu) ih S x1 x2 x3 x4 x6 x8 h
  unfold f_X11_next at h
  refine lv_aload_n hx hb dX11_next_0 rfl (lv_at hl 0 rfl) ?_
  refine lv_iload_n hx hb dX11_next_1 rfl (lv_at hl 1 rfl) ?_
  refine lv_iload_n hx hb dX11_next_2 rfl (lv_at hl 2 rfl) ?_
  refine lv_iload_n hx hb dX11_next_3 rfl (lv_at hl 3 rfl) ?_
  refine lv_iload hx hb dX11_next_4 (lv_at hl 4 rfl) ?_
  obtain ⟨r8, S8, e8, h⟩ := obd2_ex h
  refine k_V (As := [.int x1, .int x2, .int x3, .int x4]) (rest := []) (st1 := [.int r8]) C kx hK I hA (c_X11_refusesNow e8) ⟨Nat.le_of_ble_eq_true rfl, Nat.le_of_ble_eq_true rfl⟩ mv_X11_refusesNow lk_X11_304 0 11 (mw_0 (cI := cI) (ad := ad)) rfl rfl hl.1 rfl (Nat.le_of_ble_eq_true rfl) dX11_next_6 rfl (fun H locs I => ?_)
  refine lv_istore (lv' := [(5, .int r8), (0, .ref (ad 0)), (1, .int x1), (2, .int x2), (3, .int x3), (4, .int x4)]) hx hb dX11_next_9 hl (by decide) rfl (fun ls hl => ?_)
  refine lv_iload hx hb dX11_next_11 (lv_at hl 0 rfl) ?_
  refine lv_if_eq (tgt := 19) hx hb dX11_next_13 (by decide) (fun c9 => ?_) (fun c9 => ?_)
  · have h := ite_t c9 h
    refine lv_aload_n hx hb dX11_next_19 rfl (lv_at hl 1 rfl) ?_
    refine lv_iload_n hx hb dX11_next_20 rfl (lv_at hl 2 rfl) ?_
    refine lv_iload_n hx hb dX11_next_21 rfl (lv_at hl 3 rfl) ?_
    refine lv_iload_n hx hb dX11_next_22 rfl (lv_at hl 4 rfl) ?_
    refine lv_iload hx hb dX11_next_23 (lv_at hl 5 rfl) ?_
    obtain ⟨r10, S10, e10, h⟩ := obd2_ex h
    refine k_V (As := [.int x1, .int x2, .int x3, .int x4]) (rest := []) (st1 := [.long r10]) C kx hK I hA (c_X11_valueOf e10) ⟨Nat.le_of_ble_eq_true rfl, Nat.le_of_ble_eq_true rfl⟩ mv_X11_valueOf lk_X11_307 0 11 (mw_0 (cI := cI) (ad := ad)) rfl rfl hl.1 rfl (Nat.le_of_ble_eq_true rfl) dX11_next_25 rfl (fun H locs I => ?_)
    refine lv_lstore (lv' := [(6, .long r10), (5, .int r8), (0, .ref (ad 0)), (1, .int x1), (2, .int x2), (3, .int x3), (4, .int x4)]) hx hb dX11_next_28 hl (by decide) rfl (fun ls hl => ?_)
    refine lv_iconst (v := 0) hx hb dX11_next_30 (by decide) ?_
    refine lv_istore (lv' := [(8, .int 0), (6, .long r10), (5, .int r8), (0, .ref (ad 0)), (1, .int x1), (2, .int x2), (3, .int x3), (4, .int x4)]) hx hb dX11_next_31 hl (by decide) rfl (fun ls hl => ?_)
    exact J_33 _ _ _ _ _ _ _ _ h _ _ _ I (lv_sub hl [3, 4, 5, 6, 7, 1, 0] rfl)
  · have h := ite_n c9 h
    refine lv_iload hx hb dX11_next_16 (lv_at hl 0 rfl) ?_
    exact rt_i hq h I dX11_next_18
theorem dX11_stands_0 : decode cX11_stands 0 = .ok (.iload_n 1, 1) := by decide +kernel
theorem dX11_stands_1 : decode cX11_stands 1 = .ok (.invokestatic 145, 3) := by decide +kernel
theorem dX11_stands_4 : decode cX11_stands 4 = .ok (.ifCond .eq 15, 3) := by decide +kernel
theorem dX11_stands_7 : decode cX11_stands 7 = .ok (.iload_n 2, 1) := by decide +kernel
theorem dX11_stands_8 : decode cX11_stands 8 = .ok (.invokestatic 145, 3) := by decide +kernel
theorem dX11_stands_11 : decode cX11_stands 11 = .ok (.ifCond .eq 8, 3) := by decide +kernel
theorem dX11_stands_14 : decode cX11_stands 14 = .ok (.iload_n 1, 1) := by decide +kernel
theorem dX11_stands_15 : decode cX11_stands 15 = .ok (.iload_n 2, 1) := by decide +kernel
theorem dX11_stands_16 : decode cX11_stands 16 = .ok (.if_icmp .ne 6, 3) := by decide +kernel
theorem dX11_stands_19 : decode cX11_stands 19 = .ok (.bipush (-2), 2) := by decide +kernel
theorem dX11_stands_21 : decode cX11_stands 21 = .ok (.ireturn, 1) := by decide +kernel
theorem dX11_stands_22 : decode cX11_stands 22 = .ok (.iconst 1, 1) := by decide +kernel
theorem dX11_stands_23 : decode cX11_stands 23 = .ok (.istore_n 3, 1) := by decide +kernel
theorem dX11_stands_24 : decode cX11_stands 24 = .ok (.iconst 0, 1) := by decide +kernel
theorem dX11_stands_25 : decode cX11_stands 25 = .ok (.istore 4, 2) := by decide +kernel
theorem dX11_stands_27 : decode cX11_stands 27 = .ok (.iload 4, 2) := by decide +kernel
theorem dX11_stands_29 : decode cX11_stands 29 = .ok (.bipush 24, 2) := by decide +kernel
theorem dX11_stands_31 : decode cX11_stands 31 = .ok (.if_icmp .ge 83, 3) := by decide +kernel
theorem dX11_stands_34 : decode cX11_stands 34 = .ok (.aload_n 0, 1) := by decide +kernel
theorem dX11_stands_35 : decode cX11_stands 35 = .ok (.iload 4, 2) := by decide +kernel
theorem dX11_stands_37 : decode cX11_stands 37 = .ok (.iconst 4, 1) := by decide +kernel
theorem dX11_stands_38 : decode cX11_stands 38 = .ok (.idiv, 1) := by decide +kernel
theorem dX11_stands_39 : decode cX11_stands 39 = .ok (.iload 4, 2) := by decide +kernel
theorem dX11_stands_41 : decode cX11_stands 41 = .ok (.iconst 4, 1) := by decide +kernel
theorem dX11_stands_42 : decode cX11_stands 42 = .ok (.irem, 1) := by decide +kernel
theorem dX11_stands_43 : decode cX11_stands 43 = .ok (.invokevirtual 151, 3) := by decide +kernel
theorem dX11_stands_46 : decode cX11_stands 46 = .ok (.ifCond .eq 62, 3) := by decide +kernel
theorem dX11_stands_49 : decode cX11_stands 49 = .ok (.aload_n 0, 1) := by decide +kernel
theorem dX11_stands_50 : decode cX11_stands 50 = .ok (.getfield 41, 3) := by decide +kernel
theorem dX11_stands_53 : decode cX11_stands 53 = .ok (.iconst 4, 1) := by decide +kernel
theorem dX11_stands_54 : decode cX11_stands 54 = .ok (.iload 4, 2) := by decide +kernel
theorem dX11_stands_56 : decode cX11_stands 56 = .ok (.imul, 1) := by decide +kernel
theorem dX11_stands_57 : decode cX11_stands 57 = .ok (.iconst 3, 1) := by decide +kernel
theorem dX11_stands_58 : decode cX11_stands 58 = .ok (.iadd, 1) := by decide +kernel
theorem dX11_stands_59 : decode cX11_stands 59 = .ok (.iaload, 1) := by decide +kernel
theorem dX11_stands_60 : decode cX11_stands 60 = .ok (.istore 5, 2) := by decide +kernel
theorem dX11_stands_62 : decode cX11_stands 62 = .ok (.iload_n 3, 1) := by decide +kernel
theorem dX11_stands_63 : decode cX11_stands 63 = .ok (.ifCond .eq 43, 3) := by decide +kernel
theorem dX11_stands_66 : decode cX11_stands 66 = .ok (.aload_n 0, 1) := by decide +kernel
theorem dX11_stands_67 : decode cX11_stands 67 = .ok (.getfield 41, 3) := by decide +kernel
theorem dX11_stands_70 : decode cX11_stands 70 = .ok (.iconst 4, 1) := by decide +kernel
theorem dX11_stands_71 : decode cX11_stands 71 = .ok (.iload 4, 2) := by decide +kernel
theorem dX11_stands_73 : decode cX11_stands 73 = .ok (.imul, 1) := by decide +kernel
theorem dX11_stands_74 : decode cX11_stands 74 = .ok (.iconst 2, 1) := by decide +kernel
theorem dX11_stands_75 : decode cX11_stands 75 = .ok (.iadd, 1) := by decide +kernel
theorem dX11_stands_76 : decode cX11_stands 76 = .ok (.iaload, 1) := by decide +kernel
theorem dX11_stands_77 : decode cX11_stands 77 = .ok (.iload_n 2, 1) := by decide +kernel
theorem dX11_stands_78 : decode cX11_stands 78 = .ok (.invokestatic 85, 3) := by decide +kernel
theorem dX11_stands_81 : decode cX11_stands 81 = .ok (.ifCond .ne 25, 3) := by decide +kernel
theorem dX11_stands_84 : decode cX11_stands 84 = .ok (.iload 5, 2) := by decide +kernel
theorem dX11_stands_86 : decode cX11_stands 86 = .ok (.iload_n 2, 1) := by decide +kernel
theorem dX11_stands_87 : decode cX11_stands 87 = .ok (.invokestatic 85, 3) := by decide +kernel
theorem dX11_stands_90 : decode cX11_stands 90 = .ok (.ifCond .eq 12, 3) := by decide +kernel
theorem dX11_stands_93 : decode cX11_stands 93 = .ok (.iload 5, 2) := by decide +kernel
theorem dX11_stands_95 : decode cX11_stands 95 = .ok (.iload_n 1, 1) := by decide +kernel
theorem dX11_stands_96 : decode cX11_stands 96 = .ok (.invokestatic 85, 3) := by decide +kernel
theorem dX11_stands_99 : decode cX11_stands 99 = .ok (.ifCond .eq 7, 3) := by decide +kernel
theorem dX11_stands_102 : decode cX11_stands 102 = .ok (.iconst 1, 1) := by decide +kernel
theorem dX11_stands_103 : decode cX11_stands 103 = .ok (.goto 4, 3) := by decide +kernel
theorem dX11_stands_106 : decode cX11_stands 106 = .ok (.iconst 0, 1) := by decide +kernel
theorem dX11_stands_107 : decode cX11_stands 107 = .ok (.istore_n 3, 1) := by decide +kernel
theorem dX11_stands_108 : decode cX11_stands 108 = .ok (.iinc 4 1, 3) := by decide +kernel
theorem dX11_stands_111 : decode cX11_stands 111 = .ok (.goto (-84), 3) := by decide +kernel
theorem dX11_stands_114 : decode cX11_stands 114 = .ok (.iload_n 3, 1) := by decide +kernel
theorem dX11_stands_115 : decode cX11_stands 115 = .ok (.ifCond .eq 7, 3) := by decide +kernel
theorem dX11_stands_118 : decode cX11_stands 118 = .ok (.iconst 1, 1) := by decide +kernel
theorem dX11_stands_119 : decode cX11_stands 119 = .ok (.goto 4, 3) := by decide +kernel
theorem dX11_stands_122 : decode cX11_stands 122 = .ok (.iconst 0, 1) := by decide +kernel
theorem dX11_stands_123 : decode cX11_stands 123 = .ok (.ireturn, 1) := by decide +kernel
def f_X11_stands_108 (k_27 : St → Int32 → Int32 → Int32 → Int32 → Option (Int32 × St)) (S : St) (x1 : Int32) (x2 : Int32) (x3 : Int32) (x4 : Int32) : Option (Int32 × St) :=
  bnd (x4 + 1 : Int32) fun v1 =>
  k_27 S x1 x2 x3 v1
def f_X11_stands_107 (k_27 : St → Int32 → Int32 → Int32 → Int32 → Option (Int32 × St)) (S : St) (x1 : Int32) (x2 : Int32) (x4 : Int32) (t0 : Int32) : Option (Int32 × St) :=
  f_X11_stands_108 k_27 S x1 x2 t0 x4
def f_X11_stands_106 (k_27 : St → Int32 → Int32 → Int32 → Int32 → Option (Int32 × St)) (S : St) (x1 : Int32) (x2 : Int32) (x4 : Int32) : Option (Int32 × St) :=
  f_X11_stands_107 k_27 S x1 x2 x4 0
def f_X11_stands_102 (k_27 : St → Int32 → Int32 → Int32 → Int32 → Option (Int32 × St)) (S : St) (x1 : Int32) (x2 : Int32) (x4 : Int32) : Option (Int32 × St) :=
  f_X11_stands_107 k_27 S x1 x2 x4 1
def f_X11_stands_27 (k_27 : St → Int32 → Int32 → Int32 → Int32 → Option (Int32 × St)) (S : St) (x1 : Int32) (x2 : Int32) (x3 : Int32) (x4 : Int32) : Option (Int32 × St) :=
  if 24 ≤ x4 then (
    if x3 = 0 then (
      some (0, S)
    ) else (
      some (1, S)
    )
  ) else (
    obd2 (f_X11_isSort S (x4 / 4) (x4 - x4 / 4 * 4)) fun r4 S4 =>
    if r4 = 0 then (
      f_X11_stands_108 k_27 S4 x1 x2 x3 x4
    ) else (
      chk (ixo ((4 * x4) + 3) 96) <|
      bnd ((S4.1 8 (((4 * x4) + 3)).toNatClampNeg) : Int32) fun v7 =>
      if x3 = 0 then (
        f_X11_stands_106 k_27 S4 x1 x2 x4
      ) else (
        chk (ixo ((4 * x4) + 2) 96) <|
        obd2 (f_X11_has S4 (S4.1 8 (((4 * x4) + 2)).toNatClampNeg) x2) fun r10 S10 =>
        if r10 = 0 then (
          obd2 (f_X11_has S10 v7 x2) fun r12 S12 =>
          if r12 = 0 then (
            f_X11_stands_102 k_27 S12 x1 x2 x4
          ) else (
            obd2 (f_X11_has S12 v7 x1) fun r14 S14 =>
            if r14 = 0 then (
              f_X11_stands_106 k_27 S14 x1 x2 x4
            ) else (
              f_X11_stands_102 k_27 S14 x1 x2 x4
            )
          )
        ) else (
          f_X11_stands_106 k_27 S10 x1 x2 x4
        )
      )
    )
  )
def l_X11_stands_27 : Nat → St → Int32 → Int32 → Int32 → Int32 → Option (Int32 × St)
  | 0, _, _, _, _, _ => none
  | fu + 1, S, x1, x2, x3, x4 => f_X11_stands_27 (l_X11_stands_27 fu) S x1 x2 x3 x4
def f_X11_stands (S : St) (x1 : Int32) (x2 : Int32) : Option (Int32 × St) :=
  obd2 (f_X11_isThing S x1) fun r16 S16 =>
  if r16 = 0 then (
    some ((-2), S16)
  ) else (
    obd2 (f_X11_isThing S16 x2) fun r18 S18 =>
    if r18 = 0 then (
      some ((-2), S18)
    ) else (
      if x1 = x2 then (
        some ((-2), S18)
      ) else (
        l_X11_stands_27 FU S18 x1 x2 1 0
      )
    )
  )
set_option maxHeartbeats 4000000 in
set_option maxRecDepth 100000 in
theorem c_X11_stands {l : Launch} {D : va_G} {cI cC cS : ClassId} {ad adK adV : Nat → Nat} {S S1 : St} {x1 : Int32} {x2 : Int32} {r : Int32} (h : f_X11_stands S x1 x2 = some (r, S1)) : Kt l D (mw cI ad) (KX D (xtys cI cC cS) adK adV) yX11_stands cX11_stands 6 (some .int) (3) (68) [.ref (ad 0), .int x1, .int x2] S (some (.int r)) S1 := by
  refine k_ent (ins := .ireturn) (st := [.int r]) (by decide +kernel) (Nat.le_of_ble_eq_true rfl) ret_i ?_
  intro p e s m args below meth c A Q C hK I hA hq ls hl
  have C : CallFix p m c cX11_stands 6 s args TT RX11 := C
  have hx := C.1
  have hb := C.2.1
  have kx := kx_ok D (xtys cI cC cS) adK adV
  have hl : lv_has ls 6 [(0, .ref (ad 0)), (1, .int x1), (2, .int x2)] := hl
  have J_108 : ∀ (k_27 : St → Int32 → Int32 → Int32 → Int32 → Option (Int32 × St)) (hk_27 : ∀ (S : St) (x1 : Int32) (x2 : Int32) (x3 : Int32) (x4 : Int32), k_27 S x1 x2 x3 x4 = some (r, S1) → ∀ (H : Heap) (locs : List Loc) (ls : Array Slot), Iv D (mw cI ad) S A s H locs → lv_has ls 6 [(0, .ref (ad 0)), (1, .int x1), (2, .int x2), (3, .int x3), (4, .int x4)] → W p l e ({ frames := 3, cells := 0, slots := 0, locals := 68 } : Room) s m args below meth c H locs 0 0 Q (F0 m 27 ls [])) (S : St) (x1 : Int32) (x2 : Int32) (x3 : Int32) (x4 : Int32), f_X11_stands_108 k_27 S x1 x2 x3 x4 = some (r, S1) → ∀ (H : Heap) (locs : List Loc) (ls : Array Slot), Iv D (mw cI ad) S A s H locs → lv_has ls 6 [(0, .ref (ad 0)), (1, .int x1), (2, .int x2), (3, .int x3), (4, .int x4)] → W p l e ({ frames := 3, cells := 0, slots := 0, locals := 68 } : Room) s m args below meth c H locs 0 0 Q (F0 m 108 ls []) := by
    intro k_27 hk_27 S x1 x2 x3 x4 h H locs ls I hl
    unfold f_X11_stands_108 at h
    obtain ⟨v1, ev1⟩ : ∃ y : Int32, y = x4 + 1 := ⟨_, rfl⟩
    have h := bnd_at ev1 h
    refine lv_iinc (v := v1) (lv' := [(4, .int v1), (0, .ref (ad 0)), (1, .int x1), (2, .int x2), (3, .int x3)]) hx hb dX11_stands_108 hl (k := 4) rfl (by rw [ev1]; rfl) (by decide) rfl (fun ls hl => ?_)
    clear ev1
    refine lv_goto (tgt := 27) hx hb dX11_stands_111 (by decide) ?_
    exact hk_27 _ _ _ _ _ h _ _ _ I (lv_sub hl [1, 2, 3, 4, 0] rfl)
  have J_107 : ∀ (k_27 : St → Int32 → Int32 → Int32 → Int32 → Option (Int32 × St)) (hk_27 : ∀ (S : St) (x1 : Int32) (x2 : Int32) (x3 : Int32) (x4 : Int32), k_27 S x1 x2 x3 x4 = some (r, S1) → ∀ (H : Heap) (locs : List Loc) (ls : Array Slot), Iv D (mw cI ad) S A s H locs → lv_has ls 6 [(0, .ref (ad 0)), (1, .int x1), (2, .int x2), (3, .int x3), (4, .int x4)] → W p l e ({ frames := 3, cells := 0, slots := 0, locals := 68 } : Room) s m args below meth c H locs 0 0 Q (F0 m 27 ls [])) (S : St) (x1 : Int32) (x2 : Int32) (x4 : Int32) (t0 : Int32), f_X11_stands_107 k_27 S x1 x2 x4 t0 = some (r, S1) → ∀ (H : Heap) (locs : List Loc) (ls : Array Slot), Iv D (mw cI ad) S A s H locs → lv_has ls 6 [(0, .ref (ad 0)), (1, .int x1), (2, .int x2), (4, .int x4)] → W p l e ({ frames := 3, cells := 0, slots := 0, locals := 68 } : Room) s m args below meth c H locs 0 0 Q (F0 m 107 ls [.int t0]) := by
    intro k_27 hk_27 S x1 x2 x4 t0 h H locs ls I hl
    unfold f_X11_stands_107 at h
    refine lv_istore_n (lv' := [(3, .int t0), (0, .ref (ad 0)), (1, .int x1), (2, .int x2), (4, .int x4)]) hx hb dX11_stands_107 rfl hl (by decide) rfl (fun ls hl => ?_)
    exact J_108 k_27 hk_27 _ _ _ _ _ h _ _ _ I (lv_sub hl [1, 2, 3, 0, 4] rfl)
  have J_106 : ∀ (k_27 : St → Int32 → Int32 → Int32 → Int32 → Option (Int32 × St)) (hk_27 : ∀ (S : St) (x1 : Int32) (x2 : Int32) (x3 : Int32) (x4 : Int32), k_27 S x1 x2 x3 x4 = some (r, S1) → ∀ (H : Heap) (locs : List Loc) (ls : Array Slot), Iv D (mw cI ad) S A s H locs → lv_has ls 6 [(0, .ref (ad 0)), (1, .int x1), (2, .int x2), (3, .int x3), (4, .int x4)] → W p l e ({ frames := 3, cells := 0, slots := 0, locals := 68 } : Room) s m args below meth c H locs 0 0 Q (F0 m 27 ls [])) (S : St) (x1 : Int32) (x2 : Int32) (x4 : Int32), f_X11_stands_106 k_27 S x1 x2 x4 = some (r, S1) → ∀ (H : Heap) (locs : List Loc) (ls : Array Slot), Iv D (mw cI ad) S A s H locs → lv_has ls 6 [(0, .ref (ad 0)), (1, .int x1), (2, .int x2), (4, .int x4)] → W p l e ({ frames := 3, cells := 0, slots := 0, locals := 68 } : Room) s m args below meth c H locs 0 0 Q (F0 m 106 ls []) := by
    intro k_27 hk_27 S x1 x2 x4 h H locs ls I hl
    unfold f_X11_stands_106 at h
    refine lv_iconst (v := 0) hx hb dX11_stands_106 (by decide) ?_
    exact J_107 k_27 hk_27 _ _ _ _ _ h _ _ _ I (lv_sub hl [0, 1, 2, 3] rfl)
  have J_102 : ∀ (k_27 : St → Int32 → Int32 → Int32 → Int32 → Option (Int32 × St)) (hk_27 : ∀ (S : St) (x1 : Int32) (x2 : Int32) (x3 : Int32) (x4 : Int32), k_27 S x1 x2 x3 x4 = some (r, S1) → ∀ (H : Heap) (locs : List Loc) (ls : Array Slot), Iv D (mw cI ad) S A s H locs → lv_has ls 6 [(0, .ref (ad 0)), (1, .int x1), (2, .int x2), (3, .int x3), (4, .int x4)] → W p l e ({ frames := 3, cells := 0, slots := 0, locals := 68 } : Room) s m args below meth c H locs 0 0 Q (F0 m 27 ls [])) (S : St) (x1 : Int32) (x2 : Int32) (x4 : Int32), f_X11_stands_102 k_27 S x1 x2 x4 = some (r, S1) → ∀ (H : Heap) (locs : List Loc) (ls : Array Slot), Iv D (mw cI ad) S A s H locs → lv_has ls 6 [(0, .ref (ad 0)), (1, .int x1), (2, .int x2), (4, .int x4)] → W p l e ({ frames := 3, cells := 0, slots := 0, locals := 68 } : Room) s m args below meth c H locs 0 0 Q (F0 m 102 ls []) := by
    intro k_27 hk_27 S x1 x2 x4 h H locs ls I hl
    unfold f_X11_stands_102 at h
    refine lv_iconst (v := 1) hx hb dX11_stands_102 (by decide) ?_
    refine lv_goto (tgt := 107) hx hb dX11_stands_103 (by decide) ?_
    exact J_107 k_27 hk_27 _ _ _ _ _ h _ _ _ I (lv_sub hl [0, 1, 2, 3] rfl)
  have B_27 : ∀ (k_27 : St → Int32 → Int32 → Int32 → Int32 → Option (Int32 × St)) (hk_27 : ∀ (S : St) (x1 : Int32) (x2 : Int32) (x3 : Int32) (x4 : Int32), k_27 S x1 x2 x3 x4 = some (r, S1) → ∀ (H : Heap) (locs : List Loc) (ls : Array Slot), Iv D (mw cI ad) S A s H locs → lv_has ls 6 [(0, .ref (ad 0)), (1, .int x1), (2, .int x2), (3, .int x3), (4, .int x4)] → W p l e ({ frames := 3, cells := 0, slots := 0, locals := 68 } : Room) s m args below meth c H locs 0 0 Q (F0 m 27 ls [])) (S : St) (x1 : Int32) (x2 : Int32) (x3 : Int32) (x4 : Int32), f_X11_stands_27 k_27 S x1 x2 x3 x4 = some (r, S1) → ∀ (H : Heap) (locs : List Loc) (ls : Array Slot), Iv D (mw cI ad) S A s H locs → lv_has ls 6 [(0, .ref (ad 0)), (1, .int x1), (2, .int x2), (3, .int x3), (4, .int x4)] → W p l e ({ frames := 3, cells := 0, slots := 0, locals := 68 } : Room) s m args below meth c H locs 0 0 Q (F0 m 27 ls []) := by
    intro k_27 hk_27 S x1 x2 x3 x4 h H locs ls I hl
    unfold f_X11_stands_27 at h
    refine lv_iload hx hb dX11_stands_27 (lv_at hl 4 rfl) ?_
    refine lv_bipush (v := 24) hx hb dX11_stands_29 (by decide) ?_
    refine lv_icmp_ge (tgt := 114) hx hb dX11_stands_31 (by decide) (fun c2 => ?_) (fun c2 => ?_)
    · have h := ite_t c2 h
      refine lv_iload_n hx hb dX11_stands_114 rfl (lv_at hl 3 rfl) ?_
      refine lv_if_eq (tgt := 122) hx hb dX11_stands_115 (by decide) (fun c3 => ?_) (fun c3 => ?_)
      · have h := ite_t c3 h
        refine lv_iconst (v := 0) hx hb dX11_stands_122 (by decide) ?_
        exact rt_i hq h I dX11_stands_123
      · have h := ite_n c3 h
        refine lv_iconst (v := 1) hx hb dX11_stands_118 (by decide) ?_
        refine lv_goto (tgt := 123) hx hb dX11_stands_119 (by decide) ?_
        exact rt_i hq h I dX11_stands_123
    · have h := ite_n c2 h
      refine lv_aload_n hx hb dX11_stands_34 rfl (lv_at hl 0 rfl) ?_
      refine lv_iload hx hb dX11_stands_35 (lv_at hl 4 rfl) ?_
      refine lv_iconst (v := 4) hx hb dX11_stands_37 (by decide) ?_
      refine lv_idiv hx hb dX11_stands_38 (by decide) ?_
      refine lv_iload hx hb dX11_stands_39 (lv_at hl 4 rfl) ?_
      refine lv_iconst (v := 4) hx hb dX11_stands_41 (by decide) ?_
      refine lv_irem hx hb dX11_stands_42 (by decide) ?_
      obtain ⟨r4, S4, e4, h⟩ := obd2_ex h
      refine k_V (As := [.int (x4 / 4), .int (x4 - x4 / 4 * 4)]) (rest := []) (st1 := [.int r4]) C kx hK I hA (c_X11_isSort e4) ⟨Nat.le_of_ble_eq_true rfl, Nat.le_of_ble_eq_true rfl⟩ mv_X11_isSort lk_X11_151 0 11 (mw_0 (cI := cI) (ad := ad)) rfl rfl hl.1 rfl (Nat.le_of_ble_eq_true rfl) dX11_stands_43 rfl (fun H locs I => ?_)
      refine lv_if_eq (tgt := 108) hx hb dX11_stands_46 (by decide) (fun c5 => ?_) (fun c5 => ?_)
      · have h := ite_t c5 h
        exact J_108 k_27 hk_27 _ _ _ _ _ h _ _ _ I (lv_sub hl [0, 1, 2, 3, 4] rfl)
      · have h := ite_n c5 h
        refine lv_aload_n hx hb dX11_stands_49 rfl (lv_at hl 0 rfl) ?_
        refine gm_0_14 C hK I fl_X11_41 dX11_stands_50 ?_
        refine lv_iconst (v := 4) hx hb dX11_stands_53 (by decide) ?_
        refine lv_iload hx hb dX11_stands_54 (lv_at hl 4 rfl) ?_
        refine lv_imul hx hb dX11_stands_56 ?_
        refine lv_iconst (v := 3) hx hb dX11_stands_57 (by decide) ?_
        refine lv_iadd hx hb dX11_stands_58 ?_
        obtain ⟨hv6, h⟩ := chk_ex h
        refine am_8 C hK I hv6 dX11_stands_59 ?_
        refine lv_topi (fun v7 ev7 => ?_)
        have h := bnd_at ev7 h
        clear ev7
        refine lv_istore (lv' := [(5, .int v7), (0, .ref (ad 0)), (1, .int x1), (2, .int x2), (3, .int x3), (4, .int x4)]) hx hb dX11_stands_60 hl (by decide) rfl (fun ls hl => ?_)
        refine lv_iload_n hx hb dX11_stands_62 rfl (lv_at hl 4 rfl) ?_
        refine lv_if_eq (tgt := 106) hx hb dX11_stands_63 (by decide) (fun c8 => ?_) (fun c8 => ?_)
        · have h := ite_t c8 h
          exact J_106 k_27 hk_27 _ _ _ _ h _ _ _ I (lv_sub hl [1, 2, 3, 5] rfl)
        · have h := ite_n c8 h
          refine lv_aload_n hx hb dX11_stands_66 rfl (lv_at hl 1 rfl) ?_
          refine gm_0_14 C hK I fl_X11_41 dX11_stands_67 ?_
          refine lv_iconst (v := 4) hx hb dX11_stands_70 (by decide) ?_
          refine lv_iload hx hb dX11_stands_71 (lv_at hl 5 rfl) ?_
          refine lv_imul hx hb dX11_stands_73 ?_
          refine lv_iconst (v := 2) hx hb dX11_stands_74 (by decide) ?_
          refine lv_iadd hx hb dX11_stands_75 ?_
          obtain ⟨hv9, h⟩ := chk_ex h
          refine am_8 C hK I hv9 dX11_stands_76 ?_
          refine lv_iload_n hx hb dX11_stands_77 rfl (lv_at hl 3 rfl) ?_
          obtain ⟨r10, S10, e10, h⟩ := obd2_ex h
          refine k_S (As := [.int (S4.1 8 (((4 * x4) + 2)).toNatClampNeg), .int x2]) (rest := []) (st1 := [.int r10]) C kx hK I hA (c_X11_has e10) ⟨Nat.le_of_ble_eq_true rfl, Nat.le_of_ble_eq_true rfl⟩ ms_X11_has lk_X11_85 rfl hl.1 rfl (Nat.le_of_ble_eq_true rfl) dX11_stands_78 rfl (fun H locs I => ?_)
          refine lv_if_ne (tgt := 106) hx hb dX11_stands_81 (by decide) (fun c11 => ?_) (fun c11 => ?_)
          · have h := ite_n c11 h
            exact J_106 k_27 hk_27 _ _ _ _ h _ _ _ I (lv_sub hl [1, 2, 3, 5] rfl)
          · have h := ite_t c11 h
            refine lv_iload hx hb dX11_stands_84 (lv_at hl 0 rfl) ?_
            refine lv_iload_n hx hb dX11_stands_86 rfl (lv_at hl 3 rfl) ?_
            obtain ⟨r12, S12, e12, h⟩ := obd2_ex h
            refine k_S (As := [.int v7, .int x2]) (rest := []) (st1 := [.int r12]) C kx hK I hA (c_X11_has e12) ⟨Nat.le_of_ble_eq_true rfl, Nat.le_of_ble_eq_true rfl⟩ ms_X11_has lk_X11_85 rfl hl.1 rfl (Nat.le_of_ble_eq_true rfl) dX11_stands_87 rfl (fun H locs I => ?_)
            refine lv_if_eq (tgt := 102) hx hb dX11_stands_90 (by decide) (fun c13 => ?_) (fun c13 => ?_)
            · have h := ite_t c13 h
              exact J_102 k_27 hk_27 _ _ _ _ h _ _ _ I (lv_sub hl [1, 2, 3, 5] rfl)
            · have h := ite_n c13 h
              refine lv_iload hx hb dX11_stands_93 (lv_at hl 0 rfl) ?_
              refine lv_iload_n hx hb dX11_stands_95 rfl (lv_at hl 2 rfl) ?_
              obtain ⟨r14, S14, e14, h⟩ := obd2_ex h
              refine k_S (As := [.int v7, .int x1]) (rest := []) (st1 := [.int r14]) C kx hK I hA (c_X11_has e14) ⟨Nat.le_of_ble_eq_true rfl, Nat.le_of_ble_eq_true rfl⟩ ms_X11_has lk_X11_85 rfl hl.1 rfl (Nat.le_of_ble_eq_true rfl) dX11_stands_96 rfl (fun H locs I => ?_)
              refine lv_if_eq (tgt := 106) hx hb dX11_stands_99 (by decide) (fun c15 => ?_) (fun c15 => ?_)
              · have h := ite_t c15 h
                exact J_106 k_27 hk_27 _ _ _ _ h _ _ _ I (lv_sub hl [1, 2, 3, 5] rfl)
              · have h := ite_n c15 h
                exact J_102 k_27 hk_27 _ _ _ _ h _ _ _ I (lv_sub hl [1, 2, 3, 5] rfl)
  have J_27 : ∀ (fu : Nat) (S : St) (x1 : Int32) (x2 : Int32) (x3 : Int32) (x4 : Int32), l_X11_stands_27  fu S x1 x2 x3 x4 = some (r, S1) → ∀ (H : Heap) (locs : List Loc) (ls : Array Slot), Iv D (mw cI ad) S A s H locs → lv_has ls 6 [(0, .ref (ad 0)), (1, .int x1), (2, .int x2), (3, .int x3), (4, .int x4)] → W p l e ({ frames := 3, cells := 0, slots := 0, locals := 68 } : Room) s m args below meth c H locs 0 0 Q (F0 m 27 ls []) := by
    intro fu
    induction fu with
    | zero => intro S x1 x2 x3 x4 h; cases h
    | succ fu ih => intro S x1 x2 x3 x4 h; exact B_27 (l_X11_stands_27 fu) ih S x1 x2 x3 x4 h
  unfold f_X11_stands at h
  refine lv_iload_n hx hb dX11_stands_0 rfl (lv_at hl 1 rfl) ?_
  obtain ⟨r16, S16, e16, h⟩ := obd2_ex h
  refine k_S (As := [.int x1]) (rest := []) (st1 := [.int r16]) C kx hK I hA (c_X11_isThing e16) ⟨Nat.le_of_ble_eq_true rfl, Nat.le_of_ble_eq_true rfl⟩ ms_X11_isThing lk_X11_145 rfl hl.1 rfl (Nat.le_of_ble_eq_true rfl) dX11_stands_1 rfl (fun H locs I => ?_)
  refine lv_if_eq (tgt := 19) hx hb dX11_stands_4 (by decide) (fun c17 => ?_) (fun c17 => ?_)
  · have h := ite_t c17 h
    refine lv_bipush (v := (-2)) hx hb dX11_stands_19 (by decide) ?_
    exact rt_i hq h I dX11_stands_21
  · have h := ite_n c17 h
    refine lv_iload_n hx hb dX11_stands_7 rfl (lv_at hl 2 rfl) ?_
    obtain ⟨r18, S18, e18, h⟩ := obd2_ex h
    refine k_S (As := [.int x2]) (rest := []) (st1 := [.int r18]) C kx hK I hA (c_X11_isThing e18) ⟨Nat.le_of_ble_eq_true rfl, Nat.le_of_ble_eq_true rfl⟩ ms_X11_isThing lk_X11_145 rfl hl.1 rfl (Nat.le_of_ble_eq_true rfl) dX11_stands_8 rfl (fun H locs I => ?_)
    refine lv_if_eq (tgt := 19) hx hb dX11_stands_11 (by decide) (fun c19 => ?_) (fun c19 => ?_)
    · have h := ite_t c19 h
      refine lv_bipush (v := (-2)) hx hb dX11_stands_19 (by decide) ?_
      exact rt_i hq h I dX11_stands_21
    · have h := ite_n c19 h
      refine lv_iload_n hx hb dX11_stands_14 rfl (lv_at hl 1 rfl) ?_
      refine lv_iload_n hx hb dX11_stands_15 rfl (lv_at hl 2 rfl) ?_
      refine lv_icmp_ne (tgt := 22) hx hb dX11_stands_16 (by decide) (fun c20 => ?_) (fun c20 => ?_)
      · have h := ite_n c20 h
        refine lv_iconst (v := 1) hx hb dX11_stands_22 (by decide) ?_
        refine lv_istore_n (lv' := [(3, .int 1), (0, .ref (ad 0)), (1, .int x1), (2, .int x2)]) hx hb dX11_stands_23 rfl hl (by decide) rfl (fun ls hl => ?_)
        refine lv_iconst (v := 0) hx hb dX11_stands_24 (by decide) ?_
        refine lv_istore (lv' := [(4, .int 0), (3, .int 1), (0, .ref (ad 0)), (1, .int x1), (2, .int x2)]) hx hb dX11_stands_25 hl (by decide) rfl (fun ls hl => ?_)
        exact J_27 _ _ _ _ _ _ h _ _ _ I (lv_sub hl [2, 3, 4, 1, 0] rfl)
      · have h := ite_t c20 h
        refine lv_bipush (v := (-2)) hx hb dX11_stands_19 (by decide) ?_
        exact rt_i hq h I dX11_stands_21
theorem dX11_idle_0 : decode cX11_idle 0 = .ok (.iconst 0, 1) := by decide +kernel
theorem dX11_idle_1 : decode cX11_idle 1 = .ok (.istore_n 1, 1) := by decide +kernel
theorem dX11_idle_2 : decode cX11_idle 2 = .ok (.iconst 0, 1) := by decide +kernel
theorem dX11_idle_3 : decode cX11_idle 3 = .ok (.istore_n 2, 1) := by decide +kernel
theorem dX11_idle_4 : decode cX11_idle 4 = .ok (.iload_n 2, 1) := by decide +kernel
theorem dX11_idle_5 : decode cX11_idle 5 = .ok (.bipush 24, 2) := by decide +kernel
theorem dX11_idle_7 : decode cX11_idle 7 = .ok (.if_icmp .ge 50, 3) := by decide +kernel
theorem dX11_idle_10 : decode cX11_idle 10 = .ok (.iload_n 1, 1) := by decide +kernel
theorem dX11_idle_11 : decode cX11_idle 11 = .ok (.aload_n 0, 1) := by decide +kernel
theorem dX11_idle_12 : decode cX11_idle 12 = .ok (.iload_n 2, 1) := by decide +kernel
theorem dX11_idle_13 : decode cX11_idle 13 = .ok (.iconst 4, 1) := by decide +kernel
theorem dX11_idle_14 : decode cX11_idle 14 = .ok (.idiv, 1) := by decide +kernel
theorem dX11_idle_15 : decode cX11_idle 15 = .ok (.iload_n 2, 1) := by decide +kernel
theorem dX11_idle_16 : decode cX11_idle 16 = .ok (.iconst 4, 1) := by decide +kernel
theorem dX11_idle_17 : decode cX11_idle 17 = .ok (.irem, 1) := by decide +kernel
theorem dX11_idle_18 : decode cX11_idle 18 = .ok (.invokevirtual 151, 3) := by decide +kernel
theorem dX11_idle_21 : decode cX11_idle 21 = .ok (.ifCond .eq 27, 3) := by decide +kernel
theorem dX11_idle_24 : decode cX11_idle 24 = .ok (.aload_n 0, 1) := by decide +kernel
theorem dX11_idle_25 : decode cX11_idle 25 = .ok (.getfield 41, 3) := by decide +kernel
theorem dX11_idle_28 : decode cX11_idle 28 = .ok (.iconst 4, 1) := by decide +kernel
theorem dX11_idle_29 : decode cX11_idle 29 = .ok (.iload_n 2, 1) := by decide +kernel
theorem dX11_idle_30 : decode cX11_idle 30 = .ok (.imul, 1) := by decide +kernel
theorem dX11_idle_31 : decode cX11_idle 31 = .ok (.iconst 2, 1) := by decide +kernel
theorem dX11_idle_32 : decode cX11_idle 32 = .ok (.iadd, 1) := by decide +kernel
theorem dX11_idle_33 : decode cX11_idle 33 = .ok (.iaload, 1) := by decide +kernel
theorem dX11_idle_34 : decode cX11_idle 34 = .ok (.aload_n 0, 1) := by decide +kernel
theorem dX11_idle_35 : decode cX11_idle 35 = .ok (.getfield 41, 3) := by decide +kernel
theorem dX11_idle_38 : decode cX11_idle 38 = .ok (.iconst 4, 1) := by decide +kernel
theorem dX11_idle_39 : decode cX11_idle 39 = .ok (.iload_n 2, 1) := by decide +kernel
theorem dX11_idle_40 : decode cX11_idle 40 = .ok (.imul, 1) := by decide +kernel
theorem dX11_idle_41 : decode cX11_idle 41 = .ok (.iconst 3, 1) := by decide +kernel
theorem dX11_idle_42 : decode cX11_idle 42 = .ok (.iadd, 1) := by decide +kernel
theorem dX11_idle_43 : decode cX11_idle 43 = .ok (.iaload, 1) := by decide +kernel
theorem dX11_idle_44 : decode cX11_idle 44 = .ok (.ior, 1) := by decide +kernel
theorem dX11_idle_45 : decode cX11_idle 45 = .ok (.goto 4, 3) := by decide +kernel
theorem dX11_idle_48 : decode cX11_idle 48 = .ok (.iconst 0, 1) := by decide +kernel
theorem dX11_idle_49 : decode cX11_idle 49 = .ok (.ior, 1) := by decide +kernel
theorem dX11_idle_50 : decode cX11_idle 50 = .ok (.istore_n 1, 1) := by decide +kernel
theorem dX11_idle_51 : decode cX11_idle 51 = .ok (.iinc 2 1, 3) := by decide +kernel
theorem dX11_idle_54 : decode cX11_idle 54 = .ok (.goto (-50), 3) := by decide +kernel
theorem dX11_idle_57 : decode cX11_idle 57 = .ok (.sipush 255, 3) := by decide +kernel
theorem dX11_idle_60 : decode cX11_idle 60 = .ok (.iload_n 1, 1) := by decide +kernel
theorem dX11_idle_61 : decode cX11_idle 61 = .ok (.iconst (-1), 1) := by decide +kernel
theorem dX11_idle_62 : decode cX11_idle 62 = .ok (.ixor, 1) := by decide +kernel
theorem dX11_idle_63 : decode cX11_idle 63 = .ok (.iand, 1) := by decide +kernel
theorem dX11_idle_64 : decode cX11_idle 64 = .ok (.ireturn, 1) := by decide +kernel
def f_X11_idle_49 (k_4 : St → Int32 → Int32 → Option (Int32 × St)) (S : St) (x2 : Int32) (t0 : Int32) (t1 : Int32) : Option (Int32 × St) :=
  bnd ((t0 ||| t1) : Int32) fun v1 =>
  bnd (x2 + 1 : Int32) fun v2 =>
  k_4 S v1 v2
def f_X11_idle_4 (k_4 : St → Int32 → Int32 → Option (Int32 × St)) (S : St) (x1 : Int32) (x2 : Int32) : Option (Int32 × St) :=
  if 24 ≤ x2 then (
    some ((255 &&& (x1 ^^^ (-1))), S)
  ) else (
    obd2 (f_X11_isSort S (x2 / 4) (x2 - x2 / 4 * 4)) fun r4 S4 =>
    if r4 = 0 then (
      f_X11_idle_49 k_4 S4 x2 x1 0
    ) else (
      chk (ixo ((4 * x2) + 2) 96) <|
      chk (ixo ((4 * x2) + 3) 96) <|
      f_X11_idle_49 k_4 S4 x2 x1 ((S4.1 8 (((4 * x2) + 2)).toNatClampNeg) ||| (S4.1 8 (((4 * x2) + 3)).toNatClampNeg))
    )
  )
def l_X11_idle_4 : Nat → St → Int32 → Int32 → Option (Int32 × St)
  | 0, _, _, _ => none
  | fu + 1, S, x1, x2 => f_X11_idle_4 (l_X11_idle_4 fu) S x1 x2
def f_X11_idle (S : St)  : Option (Int32 × St) :=
  l_X11_idle_4 FU S 0 0
set_option maxHeartbeats 4000000 in
set_option maxRecDepth 100000 in
theorem c_X11_idle {l : Launch} {D : va_G} {cI cC cS : ClassId} {ad adK adV : Nat → Nat} {S S1 : St}  {r : Int32} (h : f_X11_idle S  = some (r, S1)) : Kt l D (mw cI ad) (KX D (xtys cI cC cS) adK adV) yX11_idle cX11_idle 3 (some .int) (3) (68) [.ref (ad 0)] S (some (.int r)) S1 := by
  refine k_ent (ins := .ireturn) (st := [.int r]) (by decide +kernel) (Nat.le_of_ble_eq_true rfl) ret_i ?_
  intro p e s m args below meth c A Q C hK I hA hq ls hl
  have C : CallFix p m c cX11_idle 3 s args TT RX11 := C
  have hx := C.1
  have hb := C.2.1
  have kx := kx_ok D (xtys cI cC cS) adK adV
  have hl : lv_has ls 3 [(0, .ref (ad 0))] := hl
  have J_49 : ∀ (k_4 : St → Int32 → Int32 → Option (Int32 × St)) (hk_4 : ∀ (S : St) (x1 : Int32) (x2 : Int32), k_4 S x1 x2 = some (r, S1) → ∀ (H : Heap) (locs : List Loc) (ls : Array Slot), Iv D (mw cI ad) S A s H locs → lv_has ls 3 [(0, .ref (ad 0)), (1, .int x1), (2, .int x2)] → W p l e ({ frames := 3, cells := 0, slots := 0, locals := 68 } : Room) s m args below meth c H locs 0 0 Q (F0 m 4 ls [])) (S : St) (x2 : Int32) (t0 : Int32) (t1 : Int32), f_X11_idle_49 k_4 S x2 t0 t1 = some (r, S1) → ∀ (H : Heap) (locs : List Loc) (ls : Array Slot), Iv D (mw cI ad) S A s H locs → lv_has ls 3 [(0, .ref (ad 0)), (2, .int x2)] → W p l e ({ frames := 3, cells := 0, slots := 0, locals := 68 } : Room) s m args below meth c H locs 0 0 Q (F0 m 49 ls [.int t1, .int t0]) := by
    intro k_4 hk_4 S x2 t0 t1 h H locs ls I hl
    unfold f_X11_idle_49 at h
    refine lv_ior hx hb dX11_idle_49 ?_
    refine lv_topi (fun v1 ev1 => ?_)
    have h := bnd_at ev1 h
    clear ev1
    refine lv_istore_n (lv' := [(1, .int v1), (0, .ref (ad 0)), (2, .int x2)]) hx hb dX11_idle_50 rfl hl (by decide) rfl (fun ls hl => ?_)
    obtain ⟨v2, ev2⟩ : ∃ y : Int32, y = x2 + 1 := ⟨_, rfl⟩
    have h := bnd_at ev2 h
    refine lv_iinc (v := v2) (lv' := [(2, .int v2), (1, .int v1), (0, .ref (ad 0))]) hx hb dX11_idle_51 hl (k := 2) rfl (by rw [ev2]; rfl) (by decide) rfl (fun ls hl => ?_)
    clear ev2
    refine lv_goto (tgt := 4) hx hb dX11_idle_54 (by decide) ?_
    exact hk_4 _ _ _ h _ _ _ I (lv_sub hl [2, 1, 0] rfl)
  have B_4 : ∀ (k_4 : St → Int32 → Int32 → Option (Int32 × St)) (hk_4 : ∀ (S : St) (x1 : Int32) (x2 : Int32), k_4 S x1 x2 = some (r, S1) → ∀ (H : Heap) (locs : List Loc) (ls : Array Slot), Iv D (mw cI ad) S A s H locs → lv_has ls 3 [(0, .ref (ad 0)), (1, .int x1), (2, .int x2)] → W p l e ({ frames := 3, cells := 0, slots := 0, locals := 68 } : Room) s m args below meth c H locs 0 0 Q (F0 m 4 ls [])) (S : St) (x1 : Int32) (x2 : Int32), f_X11_idle_4 k_4 S x1 x2 = some (r, S1) → ∀ (H : Heap) (locs : List Loc) (ls : Array Slot), Iv D (mw cI ad) S A s H locs → lv_has ls 3 [(0, .ref (ad 0)), (1, .int x1), (2, .int x2)] → W p l e ({ frames := 3, cells := 0, slots := 0, locals := 68 } : Room) s m args below meth c H locs 0 0 Q (F0 m 4 ls []) := by
    intro k_4 hk_4 S x1 x2 h H locs ls I hl
    unfold f_X11_idle_4 at h
    refine lv_iload_n hx hb dX11_idle_4 rfl (lv_at hl 2 rfl) ?_
    refine lv_bipush (v := 24) hx hb dX11_idle_5 (by decide) ?_
    refine lv_icmp_ge (tgt := 57) hx hb dX11_idle_7 (by decide) (fun c3 => ?_) (fun c3 => ?_)
    · have h := ite_t c3 h
      refine lv_sipush (v := 255) hx hb dX11_idle_57 (by decide) ?_
      refine lv_iload_n hx hb dX11_idle_60 rfl (lv_at hl 1 rfl) ?_
      refine lv_iconst (v := (-1)) hx hb dX11_idle_61 (by decide) ?_
      refine lv_ixor hx hb dX11_idle_62 ?_
      refine lv_iand hx hb dX11_idle_63 ?_
      exact rt_i hq h I dX11_idle_64
    · have h := ite_n c3 h
      refine lv_iload_n hx hb dX11_idle_10 rfl (lv_at hl 1 rfl) ?_
      refine lv_aload_n hx hb dX11_idle_11 rfl (lv_at hl 0 rfl) ?_
      refine lv_iload_n hx hb dX11_idle_12 rfl (lv_at hl 2 rfl) ?_
      refine lv_iconst (v := 4) hx hb dX11_idle_13 (by decide) ?_
      refine lv_idiv hx hb dX11_idle_14 (by decide) ?_
      refine lv_iload_n hx hb dX11_idle_15 rfl (lv_at hl 2 rfl) ?_
      refine lv_iconst (v := 4) hx hb dX11_idle_16 (by decide) ?_
      refine lv_irem hx hb dX11_idle_17 (by decide) ?_
      obtain ⟨r4, S4, e4, h⟩ := obd2_ex h
      refine k_V (As := [.int (x2 / 4), .int (x2 - x2 / 4 * 4)]) (rest := [.int x1]) (st1 := [.int r4, .int x1]) C kx hK I hA (c_X11_isSort e4) ⟨Nat.le_of_ble_eq_true rfl, Nat.le_of_ble_eq_true rfl⟩ mv_X11_isSort lk_X11_151 0 11 (mw_0 (cI := cI) (ad := ad)) rfl rfl hl.1 rfl (Nat.le_of_ble_eq_true rfl) dX11_idle_18 rfl (fun H locs I => ?_)
      refine lv_if_eq (tgt := 48) hx hb dX11_idle_21 (by decide) (fun c5 => ?_) (fun c5 => ?_)
      · have h := ite_t c5 h
        refine lv_iconst (v := 0) hx hb dX11_idle_48 (by decide) ?_
        exact J_49 k_4 hk_4 _ _ _ _ h _ _ _ I (lv_sub hl [0, 2] rfl)
      · have h := ite_n c5 h
        refine lv_aload_n hx hb dX11_idle_24 rfl (lv_at hl 0 rfl) ?_
        refine gm_0_14 C hK I fl_X11_41 dX11_idle_25 ?_
        refine lv_iconst (v := 4) hx hb dX11_idle_28 (by decide) ?_
        refine lv_iload_n hx hb dX11_idle_29 rfl (lv_at hl 2 rfl) ?_
        refine lv_imul hx hb dX11_idle_30 ?_
        refine lv_iconst (v := 2) hx hb dX11_idle_31 (by decide) ?_
        refine lv_iadd hx hb dX11_idle_32 ?_
        obtain ⟨hv6, h⟩ := chk_ex h
        refine am_8 C hK I hv6 dX11_idle_33 ?_
        refine lv_aload_n hx hb dX11_idle_34 rfl (lv_at hl 0 rfl) ?_
        refine gm_0_14 C hK I fl_X11_41 dX11_idle_35 ?_
        refine lv_iconst (v := 4) hx hb dX11_idle_38 (by decide) ?_
        refine lv_iload_n hx hb dX11_idle_39 rfl (lv_at hl 2 rfl) ?_
        refine lv_imul hx hb dX11_idle_40 ?_
        refine lv_iconst (v := 3) hx hb dX11_idle_41 (by decide) ?_
        refine lv_iadd hx hb dX11_idle_42 ?_
        obtain ⟨hv7, h⟩ := chk_ex h
        refine am_8 C hK I hv7 dX11_idle_43 ?_
        refine lv_ior hx hb dX11_idle_44 ?_
        refine lv_goto (tgt := 49) hx hb dX11_idle_45 (by decide) ?_
        exact J_49 k_4 hk_4 _ _ _ _ h _ _ _ I (lv_sub hl [0, 2] rfl)
  have J_4 : ∀ (fu : Nat) (S : St) (x1 : Int32) (x2 : Int32), l_X11_idle_4  fu S x1 x2 = some (r, S1) → ∀ (H : Heap) (locs : List Loc) (ls : Array Slot), Iv D (mw cI ad) S A s H locs → lv_has ls 3 [(0, .ref (ad 0)), (1, .int x1), (2, .int x2)] → W p l e ({ frames := 3, cells := 0, slots := 0, locals := 68 } : Room) s m args below meth c H locs 0 0 Q (F0 m 4 ls []) := by
    intro fu
    induction fu with
    | zero => intro S x1 x2 h; cases h
    | succ fu ih => intro S x1 x2 h; exact B_4 (l_X11_idle_4 fu) ih S x1 x2 h
  unfold f_X11_idle at h
  refine lv_iconst (v := 0) hx hb dX11_idle_0 (by decide) ?_
  refine lv_istore_n (lv' := [(1, .int 0), (0, .ref (ad 0))]) hx hb dX11_idle_1 rfl hl (by decide) rfl (fun ls hl => ?_)
  refine lv_iconst (v := 0) hx hb dX11_idle_2 (by decide) ?_
  refine lv_istore_n (lv' := [(2, .int 0), (1, .int 0), (0, .ref (ad 0))]) hx hb dX11_idle_3 rfl hl (by decide) rfl (fun ls hl => ?_)
  exact J_4 _ _ _ _ h _ _ _ I (lv_sub hl [2, 1, 0] rfl)
theorem fl_X11_310 : Cond.fieldLink RX11 310 RX11 "visitMany" "I" ∈ TT := tt_of 1125 (by decide +kernel) rfl
theorem fl_X11_44 : Cond.fieldLink RX11 44 RX11 "visits" "[I" ∈ TT := tt_of 1124 (by decide +kernel) rfl
theorem dX11_visit_0 : decode cX11_visit 0 = .ok (.aload_n 0, 1) := by decide +kernel
theorem dX11_visit_1 : decode cX11_visit 1 = .ok (.iload_n 1, 1) := by decide +kernel
theorem dX11_visit_2 : decode cX11_visit 2 = .ok (.iload_n 2, 1) := by decide +kernel
theorem dX11_visit_3 : decode cX11_visit 3 = .ok (.invokevirtual 151, 3) := by decide +kernel
theorem dX11_visit_6 : decode cX11_visit 6 = .ok (.ifCond .ne 6, 3) := by decide +kernel
theorem dX11_visit_9 : decode cX11_visit 9 = .ok (.bipush (-2), 2) := by decide +kernel
theorem dX11_visit_11 : decode cX11_visit 11 = .ok (.ireturn, 1) := by decide +kernel
theorem dX11_visit_12 : decode cX11_visit 12 = .ok (.iload_n 3, 1) := by decide +kernel
theorem dX11_visit_13 : decode cX11_visit 13 = .ok (.invokestatic 159, 3) := by decide +kernel
theorem dX11_visit_16 : decode cX11_visit 16 = .ok (.ifCond .ne 6, 3) := by decide +kernel
theorem dX11_visit_19 : decode cX11_visit 19 = .ok (.bipush (-3), 2) := by decide +kernel
theorem dX11_visit_21 : decode cX11_visit 21 = .ok (.ireturn, 1) := by decide +kernel
theorem dX11_visit_22 : decode cX11_visit 22 = .ok (.aload_n 0, 1) := by decide +kernel
theorem dX11_visit_23 : decode cX11_visit 23 = .ok (.getfield 310, 3) := by decide +kernel
theorem dX11_visit_26 : decode cX11_visit 26 = .ok (.bipush 16, 2) := by decide +kernel
theorem dX11_visit_28 : decode cX11_visit 28 = .ok (.if_icmp .ne 6, 3) := by decide +kernel
theorem dX11_visit_31 : decode cX11_visit 31 = .ok (.bipush (-5), 2) := by decide +kernel
theorem dX11_visit_33 : decode cX11_visit 33 = .ok (.ireturn, 1) := by decide +kernel
theorem dX11_visit_34 : decode cX11_visit 34 = .ok (.aload_n 0, 1) := by decide +kernel
theorem dX11_visit_35 : decode cX11_visit 35 = .ok (.getfield 44, 3) := by decide +kernel
theorem dX11_visit_38 : decode cX11_visit 38 = .ok (.iconst 3, 1) := by decide +kernel
theorem dX11_visit_39 : decode cX11_visit 39 = .ok (.aload_n 0, 1) := by decide +kernel
theorem dX11_visit_40 : decode cX11_visit 40 = .ok (.getfield 310, 3) := by decide +kernel
theorem dX11_visit_43 : decode cX11_visit 43 = .ok (.imul, 1) := by decide +kernel
theorem dX11_visit_44 : decode cX11_visit 44 = .ok (.aload_n 0, 1) := by decide +kernel
theorem dX11_visit_45 : decode cX11_visit 45 = .ok (.getfield 41, 3) := by decide +kernel
theorem dX11_visit_48 : decode cX11_visit 48 = .ok (.bipush 16, 2) := by decide +kernel
theorem dX11_visit_50 : decode cX11_visit 50 = .ok (.iload_n 1, 1) := by decide +kernel
theorem dX11_visit_51 : decode cX11_visit 51 = .ok (.imul, 1) := by decide +kernel
theorem dX11_visit_52 : decode cX11_visit 52 = .ok (.iconst 4, 1) := by decide +kernel
theorem dX11_visit_53 : decode cX11_visit 53 = .ok (.iload_n 2, 1) := by decide +kernel
theorem dX11_visit_54 : decode cX11_visit 54 = .ok (.imul, 1) := by decide +kernel
theorem dX11_visit_55 : decode cX11_visit 55 = .ok (.iadd, 1) := by decide +kernel
theorem dX11_visit_56 : decode cX11_visit 56 = .ok (.iconst 2, 1) := by decide +kernel
theorem dX11_visit_57 : decode cX11_visit 57 = .ok (.iadd, 1) := by decide +kernel
theorem dX11_visit_58 : decode cX11_visit 58 = .ok (.iaload, 1) := by decide +kernel
theorem dX11_visit_59 : decode cX11_visit 59 = .ok (.iastore, 1) := by decide +kernel
theorem dX11_visit_60 : decode cX11_visit 60 = .ok (.aload_n 0, 1) := by decide +kernel
theorem dX11_visit_61 : decode cX11_visit 61 = .ok (.getfield 44, 3) := by decide +kernel
theorem dX11_visit_64 : decode cX11_visit 64 = .ok (.iconst 3, 1) := by decide +kernel
theorem dX11_visit_65 : decode cX11_visit 65 = .ok (.aload_n 0, 1) := by decide +kernel
theorem dX11_visit_66 : decode cX11_visit 66 = .ok (.getfield 310, 3) := by decide +kernel
theorem dX11_visit_69 : decode cX11_visit 69 = .ok (.imul, 1) := by decide +kernel
theorem dX11_visit_70 : decode cX11_visit 70 = .ok (.iconst 1, 1) := by decide +kernel
theorem dX11_visit_71 : decode cX11_visit 71 = .ok (.iadd, 1) := by decide +kernel
theorem dX11_visit_72 : decode cX11_visit 72 = .ok (.aload_n 0, 1) := by decide +kernel
theorem dX11_visit_73 : decode cX11_visit 73 = .ok (.getfield 41, 3) := by decide +kernel
theorem dX11_visit_76 : decode cX11_visit 76 = .ok (.bipush 16, 2) := by decide +kernel
theorem dX11_visit_78 : decode cX11_visit 78 = .ok (.iload_n 1, 1) := by decide +kernel
theorem dX11_visit_79 : decode cX11_visit 79 = .ok (.imul, 1) := by decide +kernel
theorem dX11_visit_80 : decode cX11_visit 80 = .ok (.iconst 4, 1) := by decide +kernel
theorem dX11_visit_81 : decode cX11_visit 81 = .ok (.iload_n 2, 1) := by decide +kernel
theorem dX11_visit_82 : decode cX11_visit 82 = .ok (.imul, 1) := by decide +kernel
theorem dX11_visit_83 : decode cX11_visit 83 = .ok (.iadd, 1) := by decide +kernel
theorem dX11_visit_84 : decode cX11_visit 84 = .ok (.iconst 3, 1) := by decide +kernel
theorem dX11_visit_85 : decode cX11_visit 85 = .ok (.iadd, 1) := by decide +kernel
theorem dX11_visit_86 : decode cX11_visit 86 = .ok (.iaload, 1) := by decide +kernel
theorem dX11_visit_87 : decode cX11_visit 87 = .ok (.iastore, 1) := by decide +kernel
theorem dX11_visit_88 : decode cX11_visit 88 = .ok (.aload_n 0, 1) := by decide +kernel
theorem dX11_visit_89 : decode cX11_visit 89 = .ok (.getfield 44, 3) := by decide +kernel
theorem dX11_visit_92 : decode cX11_visit 92 = .ok (.iconst 3, 1) := by decide +kernel
theorem dX11_visit_93 : decode cX11_visit 93 = .ok (.aload_n 0, 1) := by decide +kernel
theorem dX11_visit_94 : decode cX11_visit 94 = .ok (.getfield 310, 3) := by decide +kernel
theorem dX11_visit_97 : decode cX11_visit 97 = .ok (.imul, 1) := by decide +kernel
theorem dX11_visit_98 : decode cX11_visit 98 = .ok (.iconst 2, 1) := by decide +kernel
theorem dX11_visit_99 : decode cX11_visit 99 = .ok (.iadd, 1) := by decide +kernel
theorem dX11_visit_100 : decode cX11_visit 100 = .ok (.iload_n 3, 1) := by decide +kernel
theorem dX11_visit_101 : decode cX11_visit 101 = .ok (.iastore, 1) := by decide +kernel
theorem dX11_visit_102 : decode cX11_visit 102 = .ok (.aload_n 0, 1) := by decide +kernel
theorem dX11_visit_103 : decode cX11_visit 103 = .ok (.dup, 1) := by decide +kernel
theorem dX11_visit_104 : decode cX11_visit 104 = .ok (.getfield 310, 3) := by decide +kernel
theorem dX11_visit_107 : decode cX11_visit 107 = .ok (.iconst 1, 1) := by decide +kernel
theorem dX11_visit_108 : decode cX11_visit 108 = .ok (.iadd, 1) := by decide +kernel
theorem dX11_visit_109 : decode cX11_visit 109 = .ok (.putfield 310, 3) := by decide +kernel
theorem dX11_visit_112 : decode cX11_visit 112 = .ok (.aload_n 0, 1) := by decide +kernel
theorem dX11_visit_113 : decode cX11_visit 113 = .ok (.getfield 310, 3) := by decide +kernel
theorem dX11_visit_116 : decode cX11_visit 116 = .ok (.ireturn, 1) := by decide +kernel
def f_X11_visit (S : St) (x1 : Int32) (x2 : Int32) (x3 : Int32) : Option (Int32 × St) :=
  obd2 (f_X11_isSort S x1 x2) fun r1 S1 =>
  if r1 = 0 then (
    some ((-2), S1)
  ) else (
    obd2 (f_X11_isBag S1 x3) fun r3 S3 =>
    if r3 = 0 then (
      some ((-3), S3)
    ) else (
      if (S3.1 0 16) = 16 then (
        some ((-5), S3)
      ) else (
        chk (ixo (((16 * x1) + (4 * x2)) + 2) 96) <|
        chk (ixo (3 * (S3.1 0 16)) 48) <|
        bnd (setI S3 9 ((3 * (S3.1 0 16))).toNatClampNeg (S3.1 8 ((((16 * x1) + (4 * x2)) + 2)).toNatClampNeg)) fun S8 =>
        chk (ixo (((16 * x1) + (4 * x2)) + 3) 96) <|
        chk (ixo ((3 * (S8.1 0 16)) + 1) 48) <|
        bnd (setI S8 9 (((3 * (S8.1 0 16)) + 1)).toNatClampNeg (S8.1 8 ((((16 * x1) + (4 * x2)) + 3)).toNatClampNeg)) fun S11 =>
        chk (ixo ((3 * (S11.1 0 16)) + 2) 48) <|
        bnd (setI S11 9 (((3 * (S11.1 0 16)) + 2)).toNatClampNeg x3) fun S13 =>
        bnd (setI S13 0 16 ((S13.1 0 16) + 1)) fun S14 =>
        some ((S14.1 0 16), S14)
      )
    )
  )
set_option maxHeartbeats 4000000 in
set_option maxRecDepth 100000 in
theorem c_X11_visit {l : Launch} {D : va_G} {cI cC cS : ClassId} {ad adK adV : Nat → Nat} {S S1 : St} {x1 : Int32} {x2 : Int32} {x3 : Int32} {r : Int32} (h : f_X11_visit S x1 x2 x3 = some (r, S1)) : Kt l D (mw cI ad) (KX D (xtys cI cC cS) adK adV) yX11_visit cX11_visit 4 (some .int) (3) (68) [.ref (ad 0), .int x1, .int x2, .int x3] S (some (.int r)) S1 := by
  refine k_ent (ins := .ireturn) (st := [.int r]) (by decide +kernel) (Nat.le_of_ble_eq_true rfl) ret_i ?_
  intro p e s m args below meth c A Q C hK I hA hq ls hl
  have C : CallFix p m c cX11_visit 4 s args TT RX11 := C
  have hx := C.1
  have hb := C.2.1
  have kx := kx_ok D (xtys cI cC cS) adK adV
  have hl : lv_has ls 4 [(0, .ref (ad 0)), (1, .int x1), (2, .int x2), (3, .int x3)] := hl
  unfold f_X11_visit at h
  refine lv_aload_n hx hb dX11_visit_0 rfl (lv_at hl 0 rfl) ?_
  refine lv_iload_n hx hb dX11_visit_1 rfl (lv_at hl 1 rfl) ?_
  refine lv_iload_n hx hb dX11_visit_2 rfl (lv_at hl 2 rfl) ?_
  obtain ⟨r1, S1, e1, h⟩ := obd2_ex h
  refine k_V (As := [.int x1, .int x2]) (rest := []) (st1 := [.int r1]) C kx hK I hA (c_X11_isSort e1) ⟨Nat.le_of_ble_eq_true rfl, Nat.le_of_ble_eq_true rfl⟩ mv_X11_isSort lk_X11_151 0 11 (mw_0 (cI := cI) (ad := ad)) rfl rfl hl.1 rfl (Nat.le_of_ble_eq_true rfl) dX11_visit_3 rfl (fun H locs I => ?_)
  refine lv_if_ne (tgt := 12) hx hb dX11_visit_6 (by decide) (fun c2 => ?_) (fun c2 => ?_)
  · have h := ite_n c2 h
    refine lv_iload_n hx hb dX11_visit_12 rfl (lv_at hl 3 rfl) ?_
    obtain ⟨r3, S3, e3, h⟩ := obd2_ex h
    refine k_S (As := [.int x3]) (rest := []) (st1 := [.int r3]) C kx hK I hA (c_X11_isBag e3) ⟨Nat.le_of_ble_eq_true rfl, Nat.le_of_ble_eq_true rfl⟩ ms_X11_isBag lk_X11_159 rfl hl.1 rfl (Nat.le_of_ble_eq_true rfl) dX11_visit_13 rfl (fun H locs I => ?_)
    refine lv_if_ne (tgt := 22) hx hb dX11_visit_16 (by decide) (fun c4 => ?_) (fun c4 => ?_)
    · have h := ite_n c4 h
      refine lv_aload_n hx hb dX11_visit_22 rfl (lv_at hl 0 rfl) ?_
      refine gm_0_16 C hK I fl_X11_310 dX11_visit_23 ?_
      refine lv_bipush (v := 16) hx hb dX11_visit_26 (by decide) ?_
      refine lv_icmp_ne (tgt := 34) hx hb dX11_visit_28 (by decide) (fun c5 => ?_) (fun c5 => ?_)
      · have h := ite_n c5 h
        refine lv_aload_n hx hb dX11_visit_34 rfl (lv_at hl 0 rfl) ?_
        refine gm_0_15 C hK I fl_X11_44 dX11_visit_35 ?_
        refine lv_iconst (v := 3) hx hb dX11_visit_38 (by decide) ?_
        refine lv_aload_n hx hb dX11_visit_39 rfl (lv_at hl 0 rfl) ?_
        refine gm_0_16 C hK I fl_X11_310 dX11_visit_40 ?_
        refine lv_imul hx hb dX11_visit_43 ?_
        refine lv_aload_n hx hb dX11_visit_44 rfl (lv_at hl 0 rfl) ?_
        refine gm_0_14 C hK I fl_X11_41 dX11_visit_45 ?_
        refine lv_bipush (v := 16) hx hb dX11_visit_48 (by decide) ?_
        refine lv_iload_n hx hb dX11_visit_50 rfl (lv_at hl 1 rfl) ?_
        refine lv_imul hx hb dX11_visit_51 ?_
        refine lv_iconst (v := 4) hx hb dX11_visit_52 (by decide) ?_
        refine lv_iload_n hx hb dX11_visit_53 rfl (lv_at hl 2 rfl) ?_
        refine lv_imul hx hb dX11_visit_54 ?_
        refine lv_iadd hx hb dX11_visit_55 ?_
        refine lv_iconst (v := 2) hx hb dX11_visit_56 (by decide) ?_
        refine lv_iadd hx hb dX11_visit_57 ?_
        obtain ⟨hv6, h⟩ := chk_ex h
        refine am_8 C hK I hv6 dX11_visit_58 ?_
        obtain ⟨hv7, h⟩ := chk_ex h
        refine bm_9 C hK I hv7 dX11_visit_59 (fun S8 eS8 H locs I => ?_)
        have h := bnd_at eS8 h
        clear eS8
        refine lv_aload_n hx hb dX11_visit_60 rfl (lv_at hl 0 rfl) ?_
        refine gm_0_15 C hK I fl_X11_44 dX11_visit_61 ?_
        refine lv_iconst (v := 3) hx hb dX11_visit_64 (by decide) ?_
        refine lv_aload_n hx hb dX11_visit_65 rfl (lv_at hl 0 rfl) ?_
        refine gm_0_16 C hK I fl_X11_310 dX11_visit_66 ?_
        refine lv_imul hx hb dX11_visit_69 ?_
        refine lv_iconst (v := 1) hx hb dX11_visit_70 (by decide) ?_
        refine lv_iadd hx hb dX11_visit_71 ?_
        refine lv_aload_n hx hb dX11_visit_72 rfl (lv_at hl 0 rfl) ?_
        refine gm_0_14 C hK I fl_X11_41 dX11_visit_73 ?_
        refine lv_bipush (v := 16) hx hb dX11_visit_76 (by decide) ?_
        refine lv_iload_n hx hb dX11_visit_78 rfl (lv_at hl 1 rfl) ?_
        refine lv_imul hx hb dX11_visit_79 ?_
        refine lv_iconst (v := 4) hx hb dX11_visit_80 (by decide) ?_
        refine lv_iload_n hx hb dX11_visit_81 rfl (lv_at hl 2 rfl) ?_
        refine lv_imul hx hb dX11_visit_82 ?_
        refine lv_iadd hx hb dX11_visit_83 ?_
        refine lv_iconst (v := 3) hx hb dX11_visit_84 (by decide) ?_
        refine lv_iadd hx hb dX11_visit_85 ?_
        obtain ⟨hv9, h⟩ := chk_ex h
        refine am_8 C hK I hv9 dX11_visit_86 ?_
        obtain ⟨hv10, h⟩ := chk_ex h
        refine bm_9 C hK I hv10 dX11_visit_87 (fun S11 eS11 H locs I => ?_)
        have h := bnd_at eS11 h
        clear eS11
        refine lv_aload_n hx hb dX11_visit_88 rfl (lv_at hl 0 rfl) ?_
        refine gm_0_15 C hK I fl_X11_44 dX11_visit_89 ?_
        refine lv_iconst (v := 3) hx hb dX11_visit_92 (by decide) ?_
        refine lv_aload_n hx hb dX11_visit_93 rfl (lv_at hl 0 rfl) ?_
        refine gm_0_16 C hK I fl_X11_310 dX11_visit_94 ?_
        refine lv_imul hx hb dX11_visit_97 ?_
        refine lv_iconst (v := 2) hx hb dX11_visit_98 (by decide) ?_
        refine lv_iadd hx hb dX11_visit_99 ?_
        refine lv_iload_n hx hb dX11_visit_100 rfl (lv_at hl 3 rfl) ?_
        obtain ⟨hv12, h⟩ := chk_ex h
        refine bm_9 C hK I hv12 dX11_visit_101 (fun S13 eS13 H locs I => ?_)
        have h := bnd_at eS13 h
        clear eS13
        refine lv_aload_n hx hb dX11_visit_102 rfl (lv_at hl 0 rfl) ?_
        refine lv_dup hx hb dX11_visit_103 rfl ?_
        refine gm_0_16 C hK I fl_X11_310 dX11_visit_104 ?_
        refine lv_iconst (v := 1) hx hb dX11_visit_107 (by decide) ?_
        refine lv_iadd hx hb dX11_visit_108 ?_
        refine pm_0_16 C hK I fl_X11_310 dX11_visit_109 (fun S14 eS14 H locs I => ?_)
        have h := bnd_at eS14 h
        clear eS14
        refine lv_aload_n hx hb dX11_visit_112 rfl (lv_at hl 0 rfl) ?_
        refine gm_0_16 C hK I fl_X11_310 dX11_visit_113 ?_
        exact rt_i hq h I dX11_visit_116
      · have h := ite_t c5 h
        refine lv_bipush (v := (-5)) hx hb dX11_visit_31 (by decide) ?_
        exact rt_i hq h I dX11_visit_33
    · have h := ite_t c4 h
      refine lv_bipush (v := (-3)) hx hb dX11_visit_19 (by decide) ?_
      exact rt_i hq h I dX11_visit_21
  · have h := ite_t c2 h
    refine lv_bipush (v := (-2)) hx hb dX11_visit_9 (by decide) ?_
    exact rt_i hq h I dX11_visit_11
theorem dX11_savedBy_0 : decode cX11_savedBy 0 = .ok (.iconst 0, 1) := by decide +kernel
theorem dX11_savedBy_1 : decode cX11_savedBy 1 = .ok (.istore_n 2, 1) := by decide +kernel
theorem dX11_savedBy_2 : decode cX11_savedBy 2 = .ok (.iconst 0, 1) := by decide +kernel
theorem dX11_savedBy_3 : decode cX11_savedBy 3 = .ok (.istore_n 3, 1) := by decide +kernel
theorem dX11_savedBy_4 : decode cX11_savedBy 4 = .ok (.iload_n 3, 1) := by decide +kernel
theorem dX11_savedBy_5 : decode cX11_savedBy 5 = .ok (.iconst 3, 1) := by decide +kernel
theorem dX11_savedBy_6 : decode cX11_savedBy 6 = .ok (.aload_n 0, 1) := by decide +kernel
theorem dX11_savedBy_7 : decode cX11_savedBy 7 = .ok (.getfield 310, 3) := by decide +kernel
theorem dX11_savedBy_10 : decode cX11_savedBy 10 = .ok (.imul, 1) := by decide +kernel
theorem dX11_savedBy_11 : decode cX11_savedBy 11 = .ok (.if_icmp .ge 73, 3) := by decide +kernel
theorem dX11_savedBy_14 : decode cX11_savedBy 14 = .ok (.aload_n 0, 1) := by decide +kernel
theorem dX11_savedBy_15 : decode cX11_savedBy 15 = .ok (.getfield 44, 3) := by decide +kernel
theorem dX11_savedBy_18 : decode cX11_savedBy 18 = .ok (.iload_n 3, 1) := by decide +kernel
theorem dX11_savedBy_19 : decode cX11_savedBy 19 = .ok (.iconst 2, 1) := by decide +kernel
theorem dX11_savedBy_20 : decode cX11_savedBy 20 = .ok (.iadd, 1) := by decide +kernel
theorem dX11_savedBy_21 : decode cX11_savedBy 21 = .ok (.iaload, 1) := by decide +kernel
theorem dX11_savedBy_22 : decode cX11_savedBy 22 = .ok (.istore 4, 2) := by decide +kernel
theorem dX11_savedBy_24 : decode cX11_savedBy 24 = .ok (.iload_n 2, 1) := by decide +kernel
theorem dX11_savedBy_25 : decode cX11_savedBy 25 = .ok (.iload 4, 2) := by decide +kernel
theorem dX11_savedBy_27 : decode cX11_savedBy 27 = .ok (.aload_n 0, 1) := by decide +kernel
theorem dX11_savedBy_28 : decode cX11_savedBy 28 = .ok (.getfield 44, 3) := by decide +kernel
theorem dX11_savedBy_31 : decode cX11_savedBy 31 = .ok (.iload_n 3, 1) := by decide +kernel
theorem dX11_savedBy_32 : decode cX11_savedBy 32 = .ok (.iaload, 1) := by decide +kernel
theorem dX11_savedBy_33 : decode cX11_savedBy 33 = .ok (.aload_n 0, 1) := by decide +kernel
theorem dX11_savedBy_34 : decode cX11_savedBy 34 = .ok (.getfield 44, 3) := by decide +kernel
theorem dX11_savedBy_37 : decode cX11_savedBy 37 = .ok (.iload_n 3, 1) := by decide +kernel
theorem dX11_savedBy_38 : decode cX11_savedBy 38 = .ok (.iconst 1, 1) := by decide +kernel
theorem dX11_savedBy_39 : decode cX11_savedBy 39 = .ok (.iadd, 1) := by decide +kernel
theorem dX11_savedBy_40 : decode cX11_savedBy 40 = .ok (.iaload, 1) := by decide +kernel
theorem dX11_savedBy_41 : decode cX11_savedBy 41 = .ok (.invokestatic 165, 3) := by decide +kernel
theorem dX11_savedBy_44 : decode cX11_savedBy 44 = .ok (.ifCond .ne 31, 3) := by decide +kernel
theorem dX11_savedBy_47 : decode cX11_savedBy 47 = .ok (.iload 4, 2) := by decide +kernel
theorem dX11_savedBy_49 : decode cX11_savedBy 49 = .ok (.iload_n 1, 1) := by decide +kernel
theorem dX11_savedBy_50 : decode cX11_savedBy 50 = .ok (.ior, 1) := by decide +kernel
theorem dX11_savedBy_51 : decode cX11_savedBy 51 = .ok (.aload_n 0, 1) := by decide +kernel
theorem dX11_savedBy_52 : decode cX11_savedBy 52 = .ok (.getfield 44, 3) := by decide +kernel
theorem dX11_savedBy_55 : decode cX11_savedBy 55 = .ok (.iload_n 3, 1) := by decide +kernel
theorem dX11_savedBy_56 : decode cX11_savedBy 56 = .ok (.iaload, 1) := by decide +kernel
theorem dX11_savedBy_57 : decode cX11_savedBy 57 = .ok (.aload_n 0, 1) := by decide +kernel
theorem dX11_savedBy_58 : decode cX11_savedBy 58 = .ok (.getfield 44, 3) := by decide +kernel
theorem dX11_savedBy_61 : decode cX11_savedBy 61 = .ok (.iload_n 3, 1) := by decide +kernel
theorem dX11_savedBy_62 : decode cX11_savedBy 62 = .ok (.iconst 1, 1) := by decide +kernel
theorem dX11_savedBy_63 : decode cX11_savedBy 63 = .ok (.iadd, 1) := by decide +kernel
theorem dX11_savedBy_64 : decode cX11_savedBy 64 = .ok (.iaload, 1) := by decide +kernel
theorem dX11_savedBy_65 : decode cX11_savedBy 65 = .ok (.invokestatic 165, 3) := by decide +kernel
theorem dX11_savedBy_68 : decode cX11_savedBy 68 = .ok (.ifCond .eq 7, 3) := by decide +kernel
theorem dX11_savedBy_71 : decode cX11_savedBy 71 = .ok (.iconst 1, 1) := by decide +kernel
theorem dX11_savedBy_72 : decode cX11_savedBy 72 = .ok (.goto 4, 3) := by decide +kernel
theorem dX11_savedBy_75 : decode cX11_savedBy 75 = .ok (.iconst 0, 1) := by decide +kernel
theorem dX11_savedBy_76 : decode cX11_savedBy 76 = .ok (.iadd, 1) := by decide +kernel
theorem dX11_savedBy_77 : decode cX11_savedBy 77 = .ok (.istore_n 2, 1) := by decide +kernel
theorem dX11_savedBy_78 : decode cX11_savedBy 78 = .ok (.iinc 3 3, 3) := by decide +kernel
theorem dX11_savedBy_81 : decode cX11_savedBy 81 = .ok (.goto (-77), 3) := by decide +kernel
theorem dX11_savedBy_84 : decode cX11_savedBy 84 = .ok (.iload_n 2, 1) := by decide +kernel
theorem dX11_savedBy_85 : decode cX11_savedBy 85 = .ok (.ireturn, 1) := by decide +kernel
def f_X11_savedBy_76 (k_4 : St → Int32 → Int32 → Int32 → Option (Int32 × St)) (S : St) (x1 : Int32) (x3 : Int32) (t0 : Int32) (t1 : Int32) : Option (Int32 × St) :=
  bnd ((t0 + t1) : Int32) fun v1 =>
  bnd (x3 + 3 : Int32) fun v2 =>
  k_4 S x1 v1 v2
def f_X11_savedBy_75 (k_4 : St → Int32 → Int32 → Int32 → Option (Int32 × St)) (S : St) (x1 : Int32) (x3 : Int32) (t0 : Int32) : Option (Int32 × St) :=
  f_X11_savedBy_76 k_4 S x1 x3 t0 0
def f_X11_savedBy_4 (k_4 : St → Int32 → Int32 → Int32 → Option (Int32 × St)) (S : St) (x1 : Int32) (x2 : Int32) (x3 : Int32) : Option (Int32 × St) :=
  if (3 * (S.1 0 16)) ≤ x3 then (
    some (x2, S)
  ) else (
    chk (ixo (x3 + 2) 48) <|
    bnd ((S.1 9 ((x3 + 2)).toNatClampNeg) : Int32) fun v5 =>
    chk (ixo x3 48) <|
    chk (ixo (x3 + 1) 48) <|
    obd2 (f_X11_fits S v5 (S.1 9 (x3).toNatClampNeg) (S.1 9 ((x3 + 1)).toNatClampNeg)) fun r8 S8 =>
    if r8 = 0 then (
      chk (ixo x3 48) <|
      chk (ixo (x3 + 1) 48) <|
      obd2 (f_X11_fits S8 (v5 ||| x1) (S8.1 9 (x3).toNatClampNeg) (S8.1 9 ((x3 + 1)).toNatClampNeg)) fun r12 S12 =>
      if r12 = 0 then (
        f_X11_savedBy_75 k_4 S12 x1 x3 x2
      ) else (
        f_X11_savedBy_76 k_4 S12 x1 x3 x2 1
      )
    ) else (
      f_X11_savedBy_75 k_4 S8 x1 x3 x2
    )
  )
def l_X11_savedBy_4 : Nat → St → Int32 → Int32 → Int32 → Option (Int32 × St)
  | 0, _, _, _, _ => none
  | fu + 1, S, x1, x2, x3 => f_X11_savedBy_4 (l_X11_savedBy_4 fu) S x1 x2 x3
def f_X11_savedBy (S : St) (x1 : Int32) : Option (Int32 × St) :=
  l_X11_savedBy_4 FU S x1 0 0
set_option maxHeartbeats 4000000 in
set_option maxRecDepth 100000 in
theorem c_X11_savedBy {l : Launch} {D : va_G} {cI cC cS : ClassId} {ad adK adV : Nat → Nat} {S S1 : St} {x1 : Int32} {r : Int32} (h : f_X11_savedBy S x1 = some (r, S1)) : Kt l D (mw cI ad) (KX D (xtys cI cC cS) adK adV) yX11_savedBy cX11_savedBy 5 (some .int) (1) (22) [.ref (ad 0), .int x1] S (some (.int r)) S1 := by
  refine k_ent (ins := .ireturn) (st := [.int r]) (by decide +kernel) (Nat.le_of_ble_eq_true rfl) ret_i ?_
  intro p e s m args below meth c A Q C hK I hA hq ls hl
  have C : CallFix p m c cX11_savedBy 5 s args TT RX11 := C
  have hx := C.1
  have hb := C.2.1
  have kx := kx_ok D (xtys cI cC cS) adK adV
  have hl : lv_has ls 5 [(0, .ref (ad 0)), (1, .int x1)] := hl
  have J_76 : ∀ (k_4 : St → Int32 → Int32 → Int32 → Option (Int32 × St)) (hk_4 : ∀ (S : St) (x1 : Int32) (x2 : Int32) (x3 : Int32), k_4 S x1 x2 x3 = some (r, S1) → ∀ (H : Heap) (locs : List Loc) (ls : Array Slot), Iv D (mw cI ad) S A s H locs → lv_has ls 5 [(0, .ref (ad 0)), (1, .int x1), (2, .int x2), (3, .int x3)] → W p l e ({ frames := 1, cells := 0, slots := 0, locals := 22 } : Room) s m args below meth c H locs 0 0 Q (F0 m 4 ls [])) (S : St) (x1 : Int32) (x3 : Int32) (t0 : Int32) (t1 : Int32), f_X11_savedBy_76 k_4 S x1 x3 t0 t1 = some (r, S1) → ∀ (H : Heap) (locs : List Loc) (ls : Array Slot), Iv D (mw cI ad) S A s H locs → lv_has ls 5 [(0, .ref (ad 0)), (1, .int x1), (3, .int x3)] → W p l e ({ frames := 1, cells := 0, slots := 0, locals := 22 } : Room) s m args below meth c H locs 0 0 Q (F0 m 76 ls [.int t1, .int t0]) := by
    intro k_4 hk_4 S x1 x3 t0 t1 h H locs ls I hl
    unfold f_X11_savedBy_76 at h
    refine lv_iadd hx hb dX11_savedBy_76 ?_
    refine lv_topi (fun v1 ev1 => ?_)
    have h := bnd_at ev1 h
    clear ev1
    refine lv_istore_n (lv' := [(2, .int v1), (0, .ref (ad 0)), (1, .int x1), (3, .int x3)]) hx hb dX11_savedBy_77 rfl hl (by decide) rfl (fun ls hl => ?_)
    obtain ⟨v2, ev2⟩ : ∃ y : Int32, y = x3 + 3 := ⟨_, rfl⟩
    have h := bnd_at ev2 h
    refine lv_iinc (v := v2) (lv' := [(3, .int v2), (2, .int v1), (0, .ref (ad 0)), (1, .int x1)]) hx hb dX11_savedBy_78 hl (k := 3) rfl (by rw [ev2]; rfl) (by decide) rfl (fun ls hl => ?_)
    clear ev2
    refine lv_goto (tgt := 4) hx hb dX11_savedBy_81 (by decide) ?_
    exact hk_4 _ _ _ _ h _ _ _ I (lv_sub hl [2, 3, 1, 0] rfl)
  have J_75 : ∀ (k_4 : St → Int32 → Int32 → Int32 → Option (Int32 × St)) (hk_4 : ∀ (S : St) (x1 : Int32) (x2 : Int32) (x3 : Int32), k_4 S x1 x2 x3 = some (r, S1) → ∀ (H : Heap) (locs : List Loc) (ls : Array Slot), Iv D (mw cI ad) S A s H locs → lv_has ls 5 [(0, .ref (ad 0)), (1, .int x1), (2, .int x2), (3, .int x3)] → W p l e ({ frames := 1, cells := 0, slots := 0, locals := 22 } : Room) s m args below meth c H locs 0 0 Q (F0 m 4 ls [])) (S : St) (x1 : Int32) (x3 : Int32) (t0 : Int32), f_X11_savedBy_75 k_4 S x1 x3 t0 = some (r, S1) → ∀ (H : Heap) (locs : List Loc) (ls : Array Slot), Iv D (mw cI ad) S A s H locs → lv_has ls 5 [(0, .ref (ad 0)), (1, .int x1), (3, .int x3)] → W p l e ({ frames := 1, cells := 0, slots := 0, locals := 22 } : Room) s m args below meth c H locs 0 0 Q (F0 m 75 ls [.int t0]) := by
    intro k_4 hk_4 S x1 x3 t0 h H locs ls I hl
    unfold f_X11_savedBy_75 at h
    refine lv_iconst (v := 0) hx hb dX11_savedBy_75 (by decide) ?_
    exact J_76 k_4 hk_4 _ _ _ _ _ h _ _ _ I (lv_sub hl [0, 1, 2] rfl)
  have B_4 : ∀ (k_4 : St → Int32 → Int32 → Int32 → Option (Int32 × St)) (hk_4 : ∀ (S : St) (x1 : Int32) (x2 : Int32) (x3 : Int32), k_4 S x1 x2 x3 = some (r, S1) → ∀ (H : Heap) (locs : List Loc) (ls : Array Slot), Iv D (mw cI ad) S A s H locs → lv_has ls 5 [(0, .ref (ad 0)), (1, .int x1), (2, .int x2), (3, .int x3)] → W p l e ({ frames := 1, cells := 0, slots := 0, locals := 22 } : Room) s m args below meth c H locs 0 0 Q (F0 m 4 ls [])) (S : St) (x1 : Int32) (x2 : Int32) (x3 : Int32), f_X11_savedBy_4 k_4 S x1 x2 x3 = some (r, S1) → ∀ (H : Heap) (locs : List Loc) (ls : Array Slot), Iv D (mw cI ad) S A s H locs → lv_has ls 5 [(0, .ref (ad 0)), (1, .int x1), (2, .int x2), (3, .int x3)] → W p l e ({ frames := 1, cells := 0, slots := 0, locals := 22 } : Room) s m args below meth c H locs 0 0 Q (F0 m 4 ls []) := by
    intro k_4 hk_4 S x1 x2 x3 h H locs ls I hl
    unfold f_X11_savedBy_4 at h
    refine lv_iload_n hx hb dX11_savedBy_4 rfl (lv_at hl 3 rfl) ?_
    refine lv_iconst (v := 3) hx hb dX11_savedBy_5 (by decide) ?_
    refine lv_aload_n hx hb dX11_savedBy_6 rfl (lv_at hl 0 rfl) ?_
    refine gm_0_16 C hK I fl_X11_310 dX11_savedBy_7 ?_
    refine lv_imul hx hb dX11_savedBy_10 ?_
    refine lv_icmp_ge (tgt := 84) hx hb dX11_savedBy_11 (by decide) (fun c3 => ?_) (fun c3 => ?_)
    · have h := ite_t c3 h
      refine lv_iload_n hx hb dX11_savedBy_84 rfl (lv_at hl 2 rfl) ?_
      exact rt_i hq h I dX11_savedBy_85
    · have h := ite_n c3 h
      refine lv_aload_n hx hb dX11_savedBy_14 rfl (lv_at hl 0 rfl) ?_
      refine gm_0_15 C hK I fl_X11_44 dX11_savedBy_15 ?_
      refine lv_iload_n hx hb dX11_savedBy_18 rfl (lv_at hl 3 rfl) ?_
      refine lv_iconst (v := 2) hx hb dX11_savedBy_19 (by decide) ?_
      refine lv_iadd hx hb dX11_savedBy_20 ?_
      obtain ⟨hv4, h⟩ := chk_ex h
      refine am_9 C hK I hv4 dX11_savedBy_21 ?_
      refine lv_topi (fun v5 ev5 => ?_)
      have h := bnd_at ev5 h
      clear ev5
      refine lv_istore (lv' := [(4, .int v5), (0, .ref (ad 0)), (1, .int x1), (2, .int x2), (3, .int x3)]) hx hb dX11_savedBy_22 hl (by decide) rfl (fun ls hl => ?_)
      refine lv_iload_n hx hb dX11_savedBy_24 rfl (lv_at hl 3 rfl) ?_
      refine lv_iload hx hb dX11_savedBy_25 (lv_at hl 0 rfl) ?_
      refine lv_aload_n hx hb dX11_savedBy_27 rfl (lv_at hl 1 rfl) ?_
      refine gm_0_15 C hK I fl_X11_44 dX11_savedBy_28 ?_
      refine lv_iload_n hx hb dX11_savedBy_31 rfl (lv_at hl 4 rfl) ?_
      obtain ⟨hv6, h⟩ := chk_ex h
      refine am_9 C hK I hv6 dX11_savedBy_32 ?_
      refine lv_aload_n hx hb dX11_savedBy_33 rfl (lv_at hl 1 rfl) ?_
      refine gm_0_15 C hK I fl_X11_44 dX11_savedBy_34 ?_
      refine lv_iload_n hx hb dX11_savedBy_37 rfl (lv_at hl 4 rfl) ?_
      refine lv_iconst (v := 1) hx hb dX11_savedBy_38 (by decide) ?_
      refine lv_iadd hx hb dX11_savedBy_39 ?_
      obtain ⟨hv7, h⟩ := chk_ex h
      refine am_9 C hK I hv7 dX11_savedBy_40 ?_
      obtain ⟨r8, S8, e8, h⟩ := obd2_ex h
      refine k_S (As := [.int v5, .int (S.1 9 (x3).toNatClampNeg), .int (S.1 9 ((x3 + 1)).toNatClampNeg)]) (rest := [.int x2]) (st1 := [.int r8, .int x2]) C kx hK I hA (c_X11_fits e8) ⟨Nat.le_of_ble_eq_true rfl, Nat.le_of_ble_eq_true rfl⟩ ms_X11_fits lk_X11_165 rfl hl.1 rfl (Nat.le_of_ble_eq_true rfl) dX11_savedBy_41 rfl (fun H locs I => ?_)
      refine lv_if_ne (tgt := 75) hx hb dX11_savedBy_44 (by decide) (fun c9 => ?_) (fun c9 => ?_)
      · have h := ite_n c9 h
        exact J_75 k_4 hk_4 _ _ _ _ h _ _ _ I (lv_sub hl [1, 2, 4] rfl)
      · have h := ite_t c9 h
        refine lv_iload hx hb dX11_savedBy_47 (lv_at hl 0 rfl) ?_
        refine lv_iload_n hx hb dX11_savedBy_49 rfl (lv_at hl 2 rfl) ?_
        refine lv_ior hx hb dX11_savedBy_50 ?_
        refine lv_aload_n hx hb dX11_savedBy_51 rfl (lv_at hl 1 rfl) ?_
        refine gm_0_15 C hK I fl_X11_44 dX11_savedBy_52 ?_
        refine lv_iload_n hx hb dX11_savedBy_55 rfl (lv_at hl 4 rfl) ?_
        obtain ⟨hv10, h⟩ := chk_ex h
        refine am_9 C hK I hv10 dX11_savedBy_56 ?_
        refine lv_aload_n hx hb dX11_savedBy_57 rfl (lv_at hl 1 rfl) ?_
        refine gm_0_15 C hK I fl_X11_44 dX11_savedBy_58 ?_
        refine lv_iload_n hx hb dX11_savedBy_61 rfl (lv_at hl 4 rfl) ?_
        refine lv_iconst (v := 1) hx hb dX11_savedBy_62 (by decide) ?_
        refine lv_iadd hx hb dX11_savedBy_63 ?_
        obtain ⟨hv11, h⟩ := chk_ex h
        refine am_9 C hK I hv11 dX11_savedBy_64 ?_
        obtain ⟨r12, S12, e12, h⟩ := obd2_ex h
        refine k_S (As := [.int (v5 ||| x1), .int (S8.1 9 (x3).toNatClampNeg), .int (S8.1 9 ((x3 + 1)).toNatClampNeg)]) (rest := [.int x2]) (st1 := [.int r12, .int x2]) C kx hK I hA (c_X11_fits e12) ⟨Nat.le_of_ble_eq_true rfl, Nat.le_of_ble_eq_true rfl⟩ ms_X11_fits lk_X11_165 rfl hl.1 rfl (Nat.le_of_ble_eq_true rfl) dX11_savedBy_65 rfl (fun H locs I => ?_)
        refine lv_if_eq (tgt := 75) hx hb dX11_savedBy_68 (by decide) (fun c13 => ?_) (fun c13 => ?_)
        · have h := ite_t c13 h
          exact J_75 k_4 hk_4 _ _ _ _ h _ _ _ I (lv_sub hl [1, 2, 4] rfl)
        · have h := ite_n c13 h
          refine lv_iconst (v := 1) hx hb dX11_savedBy_71 (by decide) ?_
          refine lv_goto (tgt := 76) hx hb dX11_savedBy_72 (by decide) ?_
          exact J_76 k_4 hk_4 _ _ _ _ _ h _ _ _ I (lv_sub hl [1, 2, 4] rfl)
  have J_4 : ∀ (fu : Nat) (S : St) (x1 : Int32) (x2 : Int32) (x3 : Int32), l_X11_savedBy_4  fu S x1 x2 x3 = some (r, S1) → ∀ (H : Heap) (locs : List Loc) (ls : Array Slot), Iv D (mw cI ad) S A s H locs → lv_has ls 5 [(0, .ref (ad 0)), (1, .int x1), (2, .int x2), (3, .int x3)] → W p l e ({ frames := 1, cells := 0, slots := 0, locals := 22 } : Room) s m args below meth c H locs 0 0 Q (F0 m 4 ls []) := by
    intro fu
    induction fu with
    | zero => intro S x1 x2 x3 h; cases h
    | succ fu ih => intro S x1 x2 x3 h; exact B_4 (l_X11_savedBy_4 fu) ih S x1 x2 x3 h
  unfold f_X11_savedBy at h
  refine lv_iconst (v := 0) hx hb dX11_savedBy_0 (by decide) ?_
  refine lv_istore_n (lv' := [(2, .int 0), (0, .ref (ad 0)), (1, .int x1)]) hx hb dX11_savedBy_1 rfl hl (by decide) rfl (fun ls hl => ?_)
  refine lv_iconst (v := 0) hx hb dX11_savedBy_2 (by decide) ?_
  refine lv_istore_n (lv' := [(3, .int 0), (2, .int 0), (0, .ref (ad 0)), (1, .int x1)]) hx hb dX11_savedBy_3 rfl hl (by decide) rfl (fun ls hl => ?_)
  exact J_4 _ _ _ _ _ h _ _ _ I (lv_sub hl [2, 3, 1, 0] rfl)
theorem lk_X11_313 : Cond.methodLink RX11 313 yX11_savedBy ∈ TT := tt_of 1509 (by decide +kernel) rfl
theorem mv_X11_savedBy : MV yX11_savedBy cX11_savedBy 5 (some .int) 1 := ⟨tt_of 1512 (by decide +kernel) rfl, tt_of 1511 (by decide +kernel) rfl, tt_of 62 (by decide +kernel) rfl, tt_of 76 (by decide +kernel) rfl, ⟨by decide +kernel, by decide +kernel, by decide +kernel⟩⟩
theorem dX11_saved_0 : decode cX11_saved 0 = .ok (.iload_n 1, 1) := by decide +kernel
theorem dX11_saved_1 : decode cX11_saved 1 = .ok (.invokestatic 159, 3) := by decide +kernel
theorem dX11_saved_4 : decode cX11_saved 4 = .ok (.ifCond .eq 11, 3) := by decide +kernel
theorem dX11_saved_7 : decode cX11_saved 7 = .ok (.aload_n 0, 1) := by decide +kernel
theorem dX11_saved_8 : decode cX11_saved 8 = .ok (.iload_n 1, 1) := by decide +kernel
theorem dX11_saved_9 : decode cX11_saved 9 = .ok (.invokevirtual 313, 3) := by decide +kernel
theorem dX11_saved_12 : decode cX11_saved 12 = .ok (.goto 5, 3) := by decide +kernel
theorem dX11_saved_15 : decode cX11_saved 15 = .ok (.bipush (-3), 2) := by decide +kernel
theorem dX11_saved_17 : decode cX11_saved 17 = .ok (.ireturn, 1) := by decide +kernel
def f_X11_saved (S : St) (x1 : Int32) : Option (Int32 × St) :=
  obd2 (f_X11_isBag S x1) fun r1 S1 =>
  if r1 = 0 then (
    some ((-3), S1)
  ) else (
    obd2 (f_X11_savedBy S1 x1) fun r3 S3 =>
    some (r3, S3)
  )
set_option maxHeartbeats 4000000 in
set_option maxRecDepth 100000 in
theorem c_X11_saved {l : Launch} {D : va_G} {cI cC cS : ClassId} {ad adK adV : Nat → Nat} {S S1 : St} {x1 : Int32} {r : Int32} (h : f_X11_saved S x1 = some (r, S1)) : Kt l D (mw cI ad) (KX D (xtys cI cC cS) adK adV) yX11_saved cX11_saved 2 (some .int) (2) (46) [.ref (ad 0), .int x1] S (some (.int r)) S1 := by
  refine k_ent (ins := .ireturn) (st := [.int r]) (by decide +kernel) (Nat.le_of_ble_eq_true rfl) ret_i ?_
  intro p e s m args below meth c A Q C hK I hA hq ls hl
  have C : CallFix p m c cX11_saved 2 s args TT RX11 := C
  have hx := C.1
  have hb := C.2.1
  have kx := kx_ok D (xtys cI cC cS) adK adV
  have hl : lv_has ls 2 [(0, .ref (ad 0)), (1, .int x1)] := hl
  unfold f_X11_saved at h
  refine lv_iload_n hx hb dX11_saved_0 rfl (lv_at hl 1 rfl) ?_
  obtain ⟨r1, S1, e1, h⟩ := obd2_ex h
  refine k_S (As := [.int x1]) (rest := []) (st1 := [.int r1]) C kx hK I hA (c_X11_isBag e1) ⟨Nat.le_of_ble_eq_true rfl, Nat.le_of_ble_eq_true rfl⟩ ms_X11_isBag lk_X11_159 rfl hl.1 rfl (Nat.le_of_ble_eq_true rfl) dX11_saved_1 rfl (fun H locs I => ?_)
  refine lv_if_eq (tgt := 15) hx hb dX11_saved_4 (by decide) (fun c2 => ?_) (fun c2 => ?_)
  · have h := ite_t c2 h
    refine lv_bipush (v := (-3)) hx hb dX11_saved_15 (by decide) ?_
    exact rt_i hq h I dX11_saved_17
  · have h := ite_n c2 h
    refine lv_aload_n hx hb dX11_saved_7 rfl (lv_at hl 0 rfl) ?_
    refine lv_iload_n hx hb dX11_saved_8 rfl (lv_at hl 1 rfl) ?_
    obtain ⟨r3, S3, e3, h⟩ := obd2_ex h
    refine k_V (As := [.int x1]) (rest := []) (st1 := [.int r3]) C kx hK I hA (c_X11_savedBy e3) ⟨Nat.le_of_ble_eq_true rfl, Nat.le_of_ble_eq_true rfl⟩ mv_X11_savedBy lk_X11_313 0 11 (mw_0 (cI := cI) (ad := ad)) rfl rfl hl.1 rfl (Nat.le_of_ble_eq_true rfl) dX11_saved_9 rfl (fun H locs I => ?_)
    refine lv_goto (tgt := 17) hx hb dX11_saved_12 (by decide) ?_
    exact rt_i hq h I dX11_saved_17
theorem dX11_many_0 : decode cX11_many 0 = .ok (.iconst 0, 1) := by decide +kernel
theorem dX11_many_1 : decode cX11_many 1 = .ok (.istore_n 1, 1) := by decide +kernel
theorem dX11_many_2 : decode cX11_many 2 = .ok (.iconst 0, 1) := by decide +kernel
theorem dX11_many_3 : decode cX11_many 3 = .ok (.istore_n 2, 1) := by decide +kernel
theorem dX11_many_4 : decode cX11_many 4 = .ok (.iload_n 2, 1) := by decide +kernel
theorem dX11_many_5 : decode cX11_many 5 = .ok (.bipush 8, 2) := by decide +kernel
theorem dX11_many_7 : decode cX11_many 7 = .ok (.if_icmp .ge 17, 3) := by decide +kernel
theorem dX11_many_10 : decode cX11_many 10 = .ok (.iload_n 1, 1) := by decide +kernel
theorem dX11_many_11 : decode cX11_many 11 = .ok (.iload_n 0, 1) := by decide +kernel
theorem dX11_many_12 : decode cX11_many 12 = .ok (.iload_n 2, 1) := by decide +kernel
theorem dX11_many_13 : decode cX11_many 13 = .ok (.ishr, 1) := by decide +kernel
theorem dX11_many_14 : decode cX11_many 14 = .ok (.iconst 1, 1) := by decide +kernel
theorem dX11_many_15 : decode cX11_many 15 = .ok (.iand, 1) := by decide +kernel
theorem dX11_many_16 : decode cX11_many 16 = .ok (.iadd, 1) := by decide +kernel
theorem dX11_many_17 : decode cX11_many 17 = .ok (.istore_n 1, 1) := by decide +kernel
theorem dX11_many_18 : decode cX11_many 18 = .ok (.iinc 2 1, 3) := by decide +kernel
theorem dX11_many_21 : decode cX11_many 21 = .ok (.goto (-17), 3) := by decide +kernel
theorem dX11_many_24 : decode cX11_many 24 = .ok (.iload_n 1, 1) := by decide +kernel
theorem dX11_many_25 : decode cX11_many 25 = .ok (.ireturn, 1) := by decide +kernel
def f_X11_many_4 (k_4 : St → Int32 → Int32 → Int32 → Option (Int32 × St)) (S : St) (x0 : Int32) (x1 : Int32) (x2 : Int32) : Option (Int32 × St) :=
  if 8 ≤ x2 then (
    some (x1, S)
  ) else (
    bnd ((x1 + ((x0 >>> (x2 &&& 31)) &&& 1)) : Int32) fun v2 =>
    bnd (x2 + 1 : Int32) fun v3 =>
    k_4 S x0 v2 v3
  )
def l_X11_many_4 : Nat → St → Int32 → Int32 → Int32 → Option (Int32 × St)
  | 0, _, _, _, _ => none
  | fu + 1, S, x0, x1, x2 => f_X11_many_4 (l_X11_many_4 fu) S x0 x1 x2
def f_X11_many (S : St) (x0 : Int32) : Option (Int32 × St) :=
  l_X11_many_4 FU S x0 0 0
set_option maxHeartbeats 4000000 in
set_option maxRecDepth 100000 in
theorem c_X11_many {l : Launch} {D : va_G} {cI cC cS : ClassId} {ad adK adV : Nat → Nat} {S S1 : St} {x0 : Int32} {r : Int32} (h : f_X11_many S x0 = some (r, S1)) : Kt l D (mw cI ad) (KX D (xtys cI cC cS) adK adV) yX11_many cX11_many 3 (some .int) (0) (0) [.int x0] S (some (.int r)) S1 := by
  refine k_ent (ins := .ireturn) (st := [.int r]) (by decide +kernel) (Nat.le_of_ble_eq_true rfl) ret_i ?_
  intro p e s m args below meth c A Q C hK I hA hq ls hl
  have C : CallFix p m c cX11_many 3 s args TT RX11 := C
  have hx := C.1
  have hb := C.2.1
  have kx := kx_ok D (xtys cI cC cS) adK adV
  have hl : lv_has ls 3 [(0, .int x0)] := hl
  have B_4 : ∀ (k_4 : St → Int32 → Int32 → Int32 → Option (Int32 × St)) (hk_4 : ∀ (S : St) (x0 : Int32) (x1 : Int32) (x2 : Int32), k_4 S x0 x1 x2 = some (r, S1) → ∀ (H : Heap) (locs : List Loc) (ls : Array Slot), Iv D (mw cI ad) S A s H locs → lv_has ls 3 [(0, .int x0), (1, .int x1), (2, .int x2)] → W p l e ({ frames := 0, cells := 0, slots := 0, locals := 0 } : Room) s m args below meth c H locs 0 0 Q (F0 m 4 ls [])) (S : St) (x0 : Int32) (x1 : Int32) (x2 : Int32), f_X11_many_4 k_4 S x0 x1 x2 = some (r, S1) → ∀ (H : Heap) (locs : List Loc) (ls : Array Slot), Iv D (mw cI ad) S A s H locs → lv_has ls 3 [(0, .int x0), (1, .int x1), (2, .int x2)] → W p l e ({ frames := 0, cells := 0, slots := 0, locals := 0 } : Room) s m args below meth c H locs 0 0 Q (F0 m 4 ls []) := by
    intro k_4 hk_4 S x0 x1 x2 h H locs ls I hl
    unfold f_X11_many_4 at h
    refine lv_iload_n hx hb dX11_many_4 rfl (lv_at hl 2 rfl) ?_
    refine lv_bipush (v := 8) hx hb dX11_many_5 (by decide) ?_
    refine lv_icmp_ge (tgt := 24) hx hb dX11_many_7 (by decide) (fun c1 => ?_) (fun c1 => ?_)
    · have h := ite_t c1 h
      refine lv_iload_n hx hb dX11_many_24 rfl (lv_at hl 1 rfl) ?_
      exact rt_i hq h I dX11_many_25
    · have h := ite_n c1 h
      refine lv_iload_n hx hb dX11_many_10 rfl (lv_at hl 1 rfl) ?_
      refine lv_iload_n hx hb dX11_many_11 rfl (lv_at hl 0 rfl) ?_
      refine lv_iload_n hx hb dX11_many_12 rfl (lv_at hl 2 rfl) ?_
      refine lv_ishr hx hb dX11_many_13 ?_
      refine lv_iconst (v := 1) hx hb dX11_many_14 (by decide) ?_
      refine lv_iand hx hb dX11_many_15 ?_
      refine lv_iadd hx hb dX11_many_16 ?_
      refine lv_topi (fun v2 ev2 => ?_)
      have h := bnd_at ev2 h
      clear ev2
      refine lv_istore_n (lv' := [(1, .int v2), (0, .int x0), (2, .int x2)]) hx hb dX11_many_17 rfl hl (by decide) rfl (fun ls hl => ?_)
      obtain ⟨v3, ev3⟩ : ∃ y : Int32, y = x2 + 1 := ⟨_, rfl⟩
      have h := bnd_at ev3 h
      refine lv_iinc (v := v3) (lv' := [(2, .int v3), (1, .int v2), (0, .int x0)]) hx hb dX11_many_18 hl (k := 2) rfl (by rw [ev3]; rfl) (by decide) rfl (fun ls hl => ?_)
      clear ev3
      refine lv_goto (tgt := 4) hx hb dX11_many_21 (by decide) ?_
      exact hk_4 _ _ _ _ h _ _ _ I (lv_sub hl [2, 1, 0] rfl)
  have J_4 : ∀ (fu : Nat) (S : St) (x0 : Int32) (x1 : Int32) (x2 : Int32), l_X11_many_4  fu S x0 x1 x2 = some (r, S1) → ∀ (H : Heap) (locs : List Loc) (ls : Array Slot), Iv D (mw cI ad) S A s H locs → lv_has ls 3 [(0, .int x0), (1, .int x1), (2, .int x2)] → W p l e ({ frames := 0, cells := 0, slots := 0, locals := 0 } : Room) s m args below meth c H locs 0 0 Q (F0 m 4 ls []) := by
    intro fu
    induction fu with
    | zero => intro S x0 x1 x2 h; cases h
    | succ fu ih => intro S x0 x1 x2 h; exact B_4 (l_X11_many_4 fu) ih S x0 x1 x2 h
  unfold f_X11_many at h
  refine lv_iconst (v := 0) hx hb dX11_many_0 (by decide) ?_
  refine lv_istore_n (lv' := [(1, .int 0), (0, .int x0)]) hx hb dX11_many_1 rfl hl (by decide) rfl (fun ls hl => ?_)
  refine lv_iconst (v := 0) hx hb dX11_many_2 (by decide) ?_
  refine lv_istore_n (lv' := [(2, .int 0), (1, .int 0), (0, .int x0)]) hx hb dX11_many_3 rfl hl (by decide) rfl (fun ls hl => ?_)
  exact J_4 _ _ _ _ _ h _ _ _ I (lv_sub hl [2, 1, 0] rfl)
theorem lk_X11_316 : Cond.methodLink RX11 316 yX11_many ∈ TT := tt_of 1517 (by decide +kernel) rfl
theorem ms_X11_many : MS yX11_many cX11_many 3 (some .int) 1 := ⟨tt_of 1519 (by decide +kernel) rfl, tt_of 1518 (by decide +kernel) rfl, tt_of 76 (by decide +kernel) rfl, ⟨by decide +kernel, by decide +kernel, by decide +kernel⟩⟩
theorem dX11_most_0 : decode cX11_most 0 = .ok (.iload_n 1, 1) := by decide +kernel
theorem dX11_most_1 : decode cX11_most 1 = .ok (.i2l, 1) := by decide +kernel
theorem dX11_most_2 : decode cX11_most 2 = .ok (.lconst 1, 1) := by decide +kernel
theorem dX11_most_3 : decode cX11_most 3 = .ok (.ldc2_w 154, 3) := by decide +kernel
theorem dX11_most_6 : decode cX11_most 6 = .ok (.invokestatic 55, 3) := by decide +kernel
theorem dX11_most_9 : decode cX11_most 9 = .ok (.ifCond .ne 6, 3) := by decide +kernel
theorem dX11_most_12 : decode cX11_most 12 = .ok (.bipush (-3), 2) := by decide +kernel
theorem dX11_most_14 : decode cX11_most 14 = .ok (.ireturn, 1) := by decide +kernel
theorem dX11_most_15 : decode cX11_most 15 = .ok (.iconst (-1), 1) := by decide +kernel
theorem dX11_most_16 : decode cX11_most 16 = .ok (.istore_n 2, 1) := by decide +kernel
theorem dX11_most_17 : decode cX11_most 17 = .ok (.iconst 0, 1) := by decide +kernel
theorem dX11_most_18 : decode cX11_most 18 = .ok (.istore_n 3, 1) := by decide +kernel
theorem dX11_most_19 : decode cX11_most 19 = .ok (.iload_n 3, 1) := by decide +kernel
theorem dX11_most_20 : decode cX11_most 20 = .ok (.sipush 256, 3) := by decide +kernel
theorem dX11_most_23 : decode cX11_most 23 = .ok (.if_icmp .ge 53, 3) := by decide +kernel
theorem dX11_most_26 : decode cX11_most 26 = .ok (.iload_n 3, 1) := by decide +kernel
theorem dX11_most_27 : decode cX11_most 27 = .ok (.invokestatic 316, 3) := by decide +kernel
theorem dX11_most_30 : decode cX11_most 30 = .ok (.iload_n 1, 1) := by decide +kernel
theorem dX11_most_31 : decode cX11_most 31 = .ok (.if_icmp .ne 25, 3) := by decide +kernel
theorem dX11_most_34 : decode cX11_most 34 = .ok (.iload_n 2, 1) := by decide +kernel
theorem dX11_most_35 : decode cX11_most 35 = .ok (.iconst (-1), 1) := by decide +kernel
theorem dX11_most_36 : decode cX11_most 36 = .ok (.if_icmp .eq 16, 3) := by decide +kernel
theorem dX11_most_39 : decode cX11_most 39 = .ok (.aload_n 0, 1) := by decide +kernel
theorem dX11_most_40 : decode cX11_most 40 = .ok (.iload_n 3, 1) := by decide +kernel
theorem dX11_most_41 : decode cX11_most 41 = .ok (.invokevirtual 313, 3) := by decide +kernel
theorem dX11_most_44 : decode cX11_most 44 = .ok (.aload_n 0, 1) := by decide +kernel
theorem dX11_most_45 : decode cX11_most 45 = .ok (.iload_n 2, 1) := by decide +kernel
theorem dX11_most_46 : decode cX11_most 46 = .ok (.invokevirtual 313, 3) := by decide +kernel
theorem dX11_most_49 : decode cX11_most 49 = .ok (.if_icmp .le 7, 3) := by decide +kernel
theorem dX11_most_52 : decode cX11_most 52 = .ok (.iconst 1, 1) := by decide +kernel
theorem dX11_most_53 : decode cX11_most 53 = .ok (.goto 4, 3) := by decide +kernel
theorem dX11_most_56 : decode cX11_most 56 = .ok (.iconst 0, 1) := by decide +kernel
theorem dX11_most_57 : decode cX11_most 57 = .ok (.istore 4, 2) := by decide +kernel
theorem dX11_most_59 : decode cX11_most 59 = .ok (.iload 4, 2) := by decide +kernel
theorem dX11_most_61 : decode cX11_most 61 = .ok (.ifCond .eq 7, 3) := by decide +kernel
theorem dX11_most_64 : decode cX11_most 64 = .ok (.iload_n 3, 1) := by decide +kernel
theorem dX11_most_65 : decode cX11_most 65 = .ok (.goto 4, 3) := by decide +kernel
theorem dX11_most_68 : decode cX11_most 68 = .ok (.iload_n 2, 1) := by decide +kernel
theorem dX11_most_69 : decode cX11_most 69 = .ok (.istore_n 2, 1) := by decide +kernel
theorem dX11_most_70 : decode cX11_most 70 = .ok (.iinc 3 1, 3) := by decide +kernel
theorem dX11_most_73 : decode cX11_most 73 = .ok (.goto (-54), 3) := by decide +kernel
theorem dX11_most_76 : decode cX11_most 76 = .ok (.iload_n 2, 1) := by decide +kernel
theorem dX11_most_77 : decode cX11_most 77 = .ok (.ireturn, 1) := by decide +kernel
def f_X11_most_69 (k_19 : St → Int32 → Int32 → Int32 → Option (Int32 × St)) (S : St) (x1 : Int32) (x3 : Int32) (t0 : Int32) : Option (Int32 × St) :=
  bnd (x3 + 1 : Int32) fun v1 =>
  k_19 S x1 t0 v1
def f_X11_most_57 (k_19 : St → Int32 → Int32 → Int32 → Option (Int32 × St)) (S : St) (x1 : Int32) (x2 : Int32) (x3 : Int32) (t0 : Int32) : Option (Int32 × St) :=
  if t0 = 0 then (
    f_X11_most_69 k_19 S x1 x3 x2
  ) else (
    f_X11_most_69 k_19 S x1 x3 x3
  )
def f_X11_most_56 (k_19 : St → Int32 → Int32 → Int32 → Option (Int32 × St)) (S : St) (x1 : Int32) (x2 : Int32) (x3 : Int32) : Option (Int32 × St) :=
  f_X11_most_57 k_19 S x1 x2 x3 0
def f_X11_most_52 (k_19 : St → Int32 → Int32 → Int32 → Option (Int32 × St)) (S : St) (x1 : Int32) (x2 : Int32) (x3 : Int32) : Option (Int32 × St) :=
  f_X11_most_57 k_19 S x1 x2 x3 1
def f_X11_most_19 (k_19 : St → Int32 → Int32 → Int32 → Option (Int32 × St)) (S : St) (x1 : Int32) (x2 : Int32) (x3 : Int32) : Option (Int32 × St) :=
  if 256 ≤ x3 then (
    some (x2, S)
  ) else (
    obd2 (f_X11_many S x3) fun r4 S4 =>
    if r4 = x1 then (
      if x2 = (-1) then (
        f_X11_most_52 k_19 S4 x1 x2 x3
      ) else (
        obd2 (f_X11_savedBy S4 x3) fun r7 S7 =>
        obd2 (f_X11_savedBy S7 x2) fun r8 S8 =>
        if r7 ≤ r8 then (
          f_X11_most_56 k_19 S8 x1 x2 x3
        ) else (
          f_X11_most_52 k_19 S8 x1 x2 x3
        )
      )
    ) else (
      f_X11_most_56 k_19 S4 x1 x2 x3
    )
  )
def l_X11_most_19 : Nat → St → Int32 → Int32 → Int32 → Option (Int32 × St)
  | 0, _, _, _, _ => none
  | fu + 1, S, x1, x2, x3 => f_X11_most_19 (l_X11_most_19 fu) S x1 x2 x3
def f_X11_most (S : St) (x1 : Int32) : Option (Int32 × St) :=
  obd2 (f_X11_in S (x1.toInt64) (1) (3)) fun r10 S10 =>
  if r10 = 0 then (
    some ((-3), S10)
  ) else (
    l_X11_most_19 FU S10 x1 (-1) 0
  )
set_option maxHeartbeats 4000000 in
set_option maxRecDepth 100000 in
theorem c_X11_most {l : Launch} {D : va_G} {cI cC cS : ClassId} {ad adK adV : Nat → Nat} {S S1 : St} {x1 : Int32} {r : Int32} (h : f_X11_most S x1 = some (r, S1)) : Kt l D (mw cI ad) (KX D (xtys cI cC cS) adK adV) yX11_most cX11_most 5 (some .int) (2) (46) [.ref (ad 0), .int x1] S (some (.int r)) S1 := by
  refine k_ent (ins := .ireturn) (st := [.int r]) (by decide +kernel) (Nat.le_of_ble_eq_true rfl) ret_i ?_
  intro p e s m args below meth c A Q C hK I hA hq ls hl
  have C : CallFix p m c cX11_most 5 s args TT RX11 := C
  have hx := C.1
  have hb := C.2.1
  have kx := kx_ok D (xtys cI cC cS) adK adV
  have hl : lv_has ls 5 [(0, .ref (ad 0)), (1, .int x1)] := hl
  have J_69 : ∀ (k_19 : St → Int32 → Int32 → Int32 → Option (Int32 × St)) (hk_19 : ∀ (S : St) (x1 : Int32) (x2 : Int32) (x3 : Int32), k_19 S x1 x2 x3 = some (r, S1) → ∀ (H : Heap) (locs : List Loc) (ls : Array Slot), Iv D (mw cI ad) S A s H locs → lv_has ls 5 [(0, .ref (ad 0)), (1, .int x1), (2, .int x2), (3, .int x3)] → W p l e ({ frames := 2, cells := 0, slots := 0, locals := 46 } : Room) s m args below meth c H locs 0 0 Q (F0 m 19 ls [])) (S : St) (x1 : Int32) (x3 : Int32) (t0 : Int32), f_X11_most_69 k_19 S x1 x3 t0 = some (r, S1) → ∀ (H : Heap) (locs : List Loc) (ls : Array Slot), Iv D (mw cI ad) S A s H locs → lv_has ls 5 [(0, .ref (ad 0)), (1, .int x1), (3, .int x3)] → W p l e ({ frames := 2, cells := 0, slots := 0, locals := 46 } : Room) s m args below meth c H locs 0 0 Q (F0 m 69 ls [.int t0]) := by
    intro k_19 hk_19 S x1 x3 t0 h H locs ls I hl
    unfold f_X11_most_69 at h
    refine lv_istore_n (lv' := [(2, .int t0), (0, .ref (ad 0)), (1, .int x1), (3, .int x3)]) hx hb dX11_most_69 rfl hl (by decide) rfl (fun ls hl => ?_)
    obtain ⟨v1, ev1⟩ : ∃ y : Int32, y = x3 + 1 := ⟨_, rfl⟩
    have h := bnd_at ev1 h
    refine lv_iinc (v := v1) (lv' := [(3, .int v1), (2, .int t0), (0, .ref (ad 0)), (1, .int x1)]) hx hb dX11_most_70 hl (k := 3) rfl (by rw [ev1]; rfl) (by decide) rfl (fun ls hl => ?_)
    clear ev1
    refine lv_goto (tgt := 19) hx hb dX11_most_73 (by decide) ?_
    exact hk_19 _ _ _ _ h _ _ _ I (lv_sub hl [2, 3, 1, 0] rfl)
  have J_57 : ∀ (k_19 : St → Int32 → Int32 → Int32 → Option (Int32 × St)) (hk_19 : ∀ (S : St) (x1 : Int32) (x2 : Int32) (x3 : Int32), k_19 S x1 x2 x3 = some (r, S1) → ∀ (H : Heap) (locs : List Loc) (ls : Array Slot), Iv D (mw cI ad) S A s H locs → lv_has ls 5 [(0, .ref (ad 0)), (1, .int x1), (2, .int x2), (3, .int x3)] → W p l e ({ frames := 2, cells := 0, slots := 0, locals := 46 } : Room) s m args below meth c H locs 0 0 Q (F0 m 19 ls [])) (S : St) (x1 : Int32) (x2 : Int32) (x3 : Int32) (t0 : Int32), f_X11_most_57 k_19 S x1 x2 x3 t0 = some (r, S1) → ∀ (H : Heap) (locs : List Loc) (ls : Array Slot), Iv D (mw cI ad) S A s H locs → lv_has ls 5 [(0, .ref (ad 0)), (1, .int x1), (2, .int x2), (3, .int x3)] → W p l e ({ frames := 2, cells := 0, slots := 0, locals := 46 } : Room) s m args below meth c H locs 0 0 Q (F0 m 57 ls [.int t0]) := by
    intro k_19 hk_19 S x1 x2 x3 t0 h H locs ls I hl
    unfold f_X11_most_57 at h
    refine lv_istore (lv' := [(4, .int t0), (0, .ref (ad 0)), (1, .int x1), (2, .int x2), (3, .int x3)]) hx hb dX11_most_57 hl (by decide) rfl (fun ls hl => ?_)
    refine lv_iload hx hb dX11_most_59 (lv_at hl 0 rfl) ?_
    refine lv_if_eq (tgt := 68) hx hb dX11_most_61 (by decide) (fun c2 => ?_) (fun c2 => ?_)
    · have h := ite_t c2 h
      refine lv_iload_n hx hb dX11_most_68 rfl (lv_at hl 3 rfl) ?_
      exact J_69 k_19 hk_19 _ _ _ _ h _ _ _ I (lv_sub hl [1, 2, 4] rfl)
    · have h := ite_n c2 h
      refine lv_iload_n hx hb dX11_most_64 rfl (lv_at hl 4 rfl) ?_
      refine lv_goto (tgt := 69) hx hb dX11_most_65 (by decide) ?_
      exact J_69 k_19 hk_19 _ _ _ _ h _ _ _ I (lv_sub hl [1, 2, 4] rfl)
  have J_56 : ∀ (k_19 : St → Int32 → Int32 → Int32 → Option (Int32 × St)) (hk_19 : ∀ (S : St) (x1 : Int32) (x2 : Int32) (x3 : Int32), k_19 S x1 x2 x3 = some (r, S1) → ∀ (H : Heap) (locs : List Loc) (ls : Array Slot), Iv D (mw cI ad) S A s H locs → lv_has ls 5 [(0, .ref (ad 0)), (1, .int x1), (2, .int x2), (3, .int x3)] → W p l e ({ frames := 2, cells := 0, slots := 0, locals := 46 } : Room) s m args below meth c H locs 0 0 Q (F0 m 19 ls [])) (S : St) (x1 : Int32) (x2 : Int32) (x3 : Int32), f_X11_most_56 k_19 S x1 x2 x3 = some (r, S1) → ∀ (H : Heap) (locs : List Loc) (ls : Array Slot), Iv D (mw cI ad) S A s H locs → lv_has ls 5 [(0, .ref (ad 0)), (1, .int x1), (2, .int x2), (3, .int x3)] → W p l e ({ frames := 2, cells := 0, slots := 0, locals := 46 } : Room) s m args below meth c H locs 0 0 Q (F0 m 56 ls []) := by
    intro k_19 hk_19 S x1 x2 x3 h H locs ls I hl
    unfold f_X11_most_56 at h
    refine lv_iconst (v := 0) hx hb dX11_most_56 (by decide) ?_
    exact J_57 k_19 hk_19 _ _ _ _ _ h _ _ _ I (lv_sub hl [0, 1, 2, 3] rfl)
  have J_52 : ∀ (k_19 : St → Int32 → Int32 → Int32 → Option (Int32 × St)) (hk_19 : ∀ (S : St) (x1 : Int32) (x2 : Int32) (x3 : Int32), k_19 S x1 x2 x3 = some (r, S1) → ∀ (H : Heap) (locs : List Loc) (ls : Array Slot), Iv D (mw cI ad) S A s H locs → lv_has ls 5 [(0, .ref (ad 0)), (1, .int x1), (2, .int x2), (3, .int x3)] → W p l e ({ frames := 2, cells := 0, slots := 0, locals := 46 } : Room) s m args below meth c H locs 0 0 Q (F0 m 19 ls [])) (S : St) (x1 : Int32) (x2 : Int32) (x3 : Int32), f_X11_most_52 k_19 S x1 x2 x3 = some (r, S1) → ∀ (H : Heap) (locs : List Loc) (ls : Array Slot), Iv D (mw cI ad) S A s H locs → lv_has ls 5 [(0, .ref (ad 0)), (1, .int x1), (2, .int x2), (3, .int x3)] → W p l e ({ frames := 2, cells := 0, slots := 0, locals := 46 } : Room) s m args below meth c H locs 0 0 Q (F0 m 52 ls []) := by
    intro k_19 hk_19 S x1 x2 x3 h H locs ls I hl
    unfold f_X11_most_52 at h
    refine lv_iconst (v := 1) hx hb dX11_most_52 (by decide) ?_
    refine lv_goto (tgt := 57) hx hb dX11_most_53 (by decide) ?_
    exact J_57 k_19 hk_19 _ _ _ _ _ h _ _ _ I (lv_sub hl [0, 1, 2, 3] rfl)
  have B_19 : ∀ (k_19 : St → Int32 → Int32 → Int32 → Option (Int32 × St)) (hk_19 : ∀ (S : St) (x1 : Int32) (x2 : Int32) (x3 : Int32), k_19 S x1 x2 x3 = some (r, S1) → ∀ (H : Heap) (locs : List Loc) (ls : Array Slot), Iv D (mw cI ad) S A s H locs → lv_has ls 5 [(0, .ref (ad 0)), (1, .int x1), (2, .int x2), (3, .int x3)] → W p l e ({ frames := 2, cells := 0, slots := 0, locals := 46 } : Room) s m args below meth c H locs 0 0 Q (F0 m 19 ls [])) (S : St) (x1 : Int32) (x2 : Int32) (x3 : Int32), f_X11_most_19 k_19 S x1 x2 x3 = some (r, S1) → ∀ (H : Heap) (locs : List Loc) (ls : Array Slot), Iv D (mw cI ad) S A s H locs → lv_has ls 5 [(0, .ref (ad 0)), (1, .int x1), (2, .int x2), (3, .int x3)] → W p l e ({ frames := 2, cells := 0, slots := 0, locals := 46 } : Room) s m args below meth c H locs 0 0 Q (F0 m 19 ls []) := by
    intro k_19 hk_19 S x1 x2 x3 h H locs ls I hl
    unfold f_X11_most_19 at h
    refine lv_iload_n hx hb dX11_most_19 rfl (lv_at hl 3 rfl) ?_
    refine lv_sipush (v := 256) hx hb dX11_most_20 (by decide) ?_
    refine lv_icmp_ge (tgt := 76) hx hb dX11_most_23 (by decide) (fun c3 => ?_) (fun c3 => ?_)
    · have h := ite_t c3 h
      refine lv_iload_n hx hb dX11_most_76 rfl (lv_at hl 2 rfl) ?_
      exact rt_i hq h I dX11_most_77
    · have h := ite_n c3 h
      refine lv_iload_n hx hb dX11_most_26 rfl (lv_at hl 3 rfl) ?_
      obtain ⟨r4, S4, e4, h⟩ := obd2_ex h
      refine k_S (As := [.int x3]) (rest := []) (st1 := [.int r4]) C kx hK I hA (c_X11_many e4) ⟨Nat.le_of_ble_eq_true rfl, Nat.le_of_ble_eq_true rfl⟩ ms_X11_many lk_X11_316 rfl hl.1 rfl (Nat.le_of_ble_eq_true rfl) dX11_most_27 rfl (fun H locs I => ?_)
      refine lv_iload_n hx hb dX11_most_30 rfl (lv_at hl 1 rfl) ?_
      refine lv_icmp_ne (tgt := 56) hx hb dX11_most_31 (by decide) (fun c5 => ?_) (fun c5 => ?_)
      · have h := ite_n c5 h
        exact J_56 k_19 hk_19 _ _ _ _ h _ _ _ I (lv_sub hl [0, 1, 2, 3] rfl)
      · have h := ite_t c5 h
        refine lv_iload_n hx hb dX11_most_34 rfl (lv_at hl 2 rfl) ?_
        refine lv_iconst (v := (-1)) hx hb dX11_most_35 (by decide) ?_
        refine lv_icmp_eq (tgt := 52) hx hb dX11_most_36 (by decide) (fun c6 => ?_) (fun c6 => ?_)
        · have h := ite_t c6 h
          exact J_52 k_19 hk_19 _ _ _ _ h _ _ _ I (lv_sub hl [0, 1, 2, 3] rfl)
        · have h := ite_n c6 h
          refine lv_aload_n hx hb dX11_most_39 rfl (lv_at hl 0 rfl) ?_
          refine lv_iload_n hx hb dX11_most_40 rfl (lv_at hl 3 rfl) ?_
          obtain ⟨r7, S7, e7, h⟩ := obd2_ex h
          refine k_V (As := [.int x3]) (rest := []) (st1 := [.int r7]) C kx hK I hA (c_X11_savedBy e7) ⟨Nat.le_of_ble_eq_true rfl, Nat.le_of_ble_eq_true rfl⟩ mv_X11_savedBy lk_X11_313 0 11 (mw_0 (cI := cI) (ad := ad)) rfl rfl hl.1 rfl (Nat.le_of_ble_eq_true rfl) dX11_most_41 rfl (fun H locs I => ?_)
          refine lv_aload_n hx hb dX11_most_44 rfl (lv_at hl 0 rfl) ?_
          refine lv_iload_n hx hb dX11_most_45 rfl (lv_at hl 2 rfl) ?_
          obtain ⟨r8, S8, e8, h⟩ := obd2_ex h
          refine k_V (As := [.int x2]) (rest := [.int r7]) (st1 := [.int r8, .int r7]) C kx hK I hA (c_X11_savedBy e8) ⟨Nat.le_of_ble_eq_true rfl, Nat.le_of_ble_eq_true rfl⟩ mv_X11_savedBy lk_X11_313 0 11 (mw_0 (cI := cI) (ad := ad)) rfl rfl hl.1 rfl (Nat.le_of_ble_eq_true rfl) dX11_most_46 rfl (fun H locs I => ?_)
          refine lv_icmp_le (tgt := 56) hx hb dX11_most_49 (by decide) (fun c9 => ?_) (fun c9 => ?_)
          · have h := ite_t c9 h
            exact J_56 k_19 hk_19 _ _ _ _ h _ _ _ I (lv_sub hl [0, 1, 2, 3] rfl)
          · have h := ite_n c9 h
            exact J_52 k_19 hk_19 _ _ _ _ h _ _ _ I (lv_sub hl [0, 1, 2, 3] rfl)
  have J_19 : ∀ (fu : Nat) (S : St) (x1 : Int32) (x2 : Int32) (x3 : Int32), l_X11_most_19  fu S x1 x2 x3 = some (r, S1) → ∀ (H : Heap) (locs : List Loc) (ls : Array Slot), Iv D (mw cI ad) S A s H locs → lv_has ls 5 [(0, .ref (ad 0)), (1, .int x1), (2, .int x2), (3, .int x3)] → W p l e ({ frames := 2, cells := 0, slots := 0, locals := 46 } : Room) s m args below meth c H locs 0 0 Q (F0 m 19 ls []) := by
    intro fu
    induction fu with
    | zero => intro S x1 x2 x3 h; cases h
    | succ fu ih => intro S x1 x2 x3 h; exact B_19 (l_X11_most_19 fu) ih S x1 x2 x3 h
  unfold f_X11_most at h
  refine lv_iload_n hx hb dX11_most_0 rfl (lv_at hl 1 rfl) ?_
  refine lv_i2l hx hb dX11_most_1 rfl ?_
  refine lv_lconst (v := (1)) hx hb dX11_most_2 (by decide) ?_
  refine lv_ldc2 (v := (3)) hx hb C.2.2.2.1 (C.2.2.2.2 _ cn_X11_154) dX11_most_3 ?_
  obtain ⟨r10, S10, e10, h⟩ := obd2_ex h
  refine k_S (As := [.long (x1.toInt64), .long (1), .long (3)]) (rest := []) (st1 := [.int r10]) C kx hK I hA (c_X11_in e10) ⟨Nat.le_of_ble_eq_true rfl, Nat.le_of_ble_eq_true rfl⟩ ms_X11_in lk_X11_55 rfl hl.1 rfl (Nat.le_of_ble_eq_true rfl) dX11_most_6 rfl (fun H locs I => ?_)
  refine lv_if_ne (tgt := 15) hx hb dX11_most_9 (by decide) (fun c11 => ?_) (fun c11 => ?_)
  · have h := ite_n c11 h
    refine lv_iconst (v := (-1)) hx hb dX11_most_15 (by decide) ?_
    refine lv_istore_n (lv' := [(2, .int (-1)), (0, .ref (ad 0)), (1, .int x1)]) hx hb dX11_most_16 rfl hl (by decide) rfl (fun ls hl => ?_)
    refine lv_iconst (v := 0) hx hb dX11_most_17 (by decide) ?_
    refine lv_istore_n (lv' := [(3, .int 0), (2, .int (-1)), (0, .ref (ad 0)), (1, .int x1)]) hx hb dX11_most_18 rfl hl (by decide) rfl (fun ls hl => ?_)
    exact J_19 _ _ _ _ _ h _ _ _ I (lv_sub hl [2, 3, 1, 0] rfl)
  · have h := ite_t c11 h
    refine lv_bipush (v := (-3)) hx hb dX11_most_12 (by decide) ?_
    exact rt_i hq h I dX11_most_14
theorem dX11_doesFor_0 : decode cX11_doesFor 0 = .ok (.iconst 0, 1) := by decide +kernel
theorem dX11_doesFor_1 : decode cX11_doesFor 1 = .ok (.istore_n 2, 1) := by decide +kernel
theorem dX11_doesFor_2 : decode cX11_doesFor 2 = .ok (.iconst 0, 1) := by decide +kernel
theorem dX11_doesFor_3 : decode cX11_doesFor 3 = .ok (.istore_n 3, 1) := by decide +kernel
theorem dX11_doesFor_4 : decode cX11_doesFor 4 = .ok (.iload_n 3, 1) := by decide +kernel
theorem dX11_doesFor_5 : decode cX11_doesFor 5 = .ok (.iconst 3, 1) := by decide +kernel
theorem dX11_doesFor_6 : decode cX11_doesFor 6 = .ok (.aload_n 0, 1) := by decide +kernel
theorem dX11_doesFor_7 : decode cX11_doesFor 7 = .ok (.getfield 310, 3) := by decide +kernel
theorem dX11_doesFor_10 : decode cX11_doesFor 10 = .ok (.imul, 1) := by decide +kernel
theorem dX11_doesFor_11 : decode cX11_doesFor 11 = .ok (.if_icmp .ge 38, 3) := by decide +kernel
theorem dX11_doesFor_14 : decode cX11_doesFor 14 = .ok (.iload_n 2, 1) := by decide +kernel
theorem dX11_doesFor_15 : decode cX11_doesFor 15 = .ok (.iload_n 1, 1) := by decide +kernel
theorem dX11_doesFor_16 : decode cX11_doesFor 16 = .ok (.aload_n 0, 1) := by decide +kernel
theorem dX11_doesFor_17 : decode cX11_doesFor 17 = .ok (.getfield 44, 3) := by decide +kernel
theorem dX11_doesFor_20 : decode cX11_doesFor 20 = .ok (.iload_n 3, 1) := by decide +kernel
theorem dX11_doesFor_21 : decode cX11_doesFor 21 = .ok (.iaload, 1) := by decide +kernel
theorem dX11_doesFor_22 : decode cX11_doesFor 22 = .ok (.aload_n 0, 1) := by decide +kernel
theorem dX11_doesFor_23 : decode cX11_doesFor 23 = .ok (.getfield 44, 3) := by decide +kernel
theorem dX11_doesFor_26 : decode cX11_doesFor 26 = .ok (.iload_n 3, 1) := by decide +kernel
theorem dX11_doesFor_27 : decode cX11_doesFor 27 = .ok (.iconst 1, 1) := by decide +kernel
theorem dX11_doesFor_28 : decode cX11_doesFor 28 = .ok (.iadd, 1) := by decide +kernel
theorem dX11_doesFor_29 : decode cX11_doesFor 29 = .ok (.iaload, 1) := by decide +kernel
theorem dX11_doesFor_30 : decode cX11_doesFor 30 = .ok (.invokestatic 165, 3) := by decide +kernel
theorem dX11_doesFor_33 : decode cX11_doesFor 33 = .ok (.ifCond .eq 7, 3) := by decide +kernel
theorem dX11_doesFor_36 : decode cX11_doesFor 36 = .ok (.iconst 1, 1) := by decide +kernel
theorem dX11_doesFor_37 : decode cX11_doesFor 37 = .ok (.goto 4, 3) := by decide +kernel
theorem dX11_doesFor_40 : decode cX11_doesFor 40 = .ok (.iconst 0, 1) := by decide +kernel
theorem dX11_doesFor_41 : decode cX11_doesFor 41 = .ok (.iadd, 1) := by decide +kernel
theorem dX11_doesFor_42 : decode cX11_doesFor 42 = .ok (.istore_n 2, 1) := by decide +kernel
theorem dX11_doesFor_43 : decode cX11_doesFor 43 = .ok (.iinc 3 3, 3) := by decide +kernel
theorem dX11_doesFor_46 : decode cX11_doesFor 46 = .ok (.goto (-42), 3) := by decide +kernel
theorem dX11_doesFor_49 : decode cX11_doesFor 49 = .ok (.iload_n 2, 1) := by decide +kernel
theorem dX11_doesFor_50 : decode cX11_doesFor 50 = .ok (.ireturn, 1) := by decide +kernel
def f_X11_doesFor_41 (k_4 : St → Int32 → Int32 → Int32 → Option (Int32 × St)) (S : St) (x1 : Int32) (x3 : Int32) (t0 : Int32) (t1 : Int32) : Option (Int32 × St) :=
  bnd ((t0 + t1) : Int32) fun v1 =>
  bnd (x3 + 3 : Int32) fun v2 =>
  k_4 S x1 v1 v2
def f_X11_doesFor_4 (k_4 : St → Int32 → Int32 → Int32 → Option (Int32 × St)) (S : St) (x1 : Int32) (x2 : Int32) (x3 : Int32) : Option (Int32 × St) :=
  if (3 * (S.1 0 16)) ≤ x3 then (
    some (x2, S)
  ) else (
    chk (ixo x3 48) <|
    chk (ixo (x3 + 1) 48) <|
    obd2 (f_X11_fits S x1 (S.1 9 (x3).toNatClampNeg) (S.1 9 ((x3 + 1)).toNatClampNeg)) fun r6 S6 =>
    if r6 = 0 then (
      f_X11_doesFor_41 k_4 S6 x1 x3 x2 0
    ) else (
      f_X11_doesFor_41 k_4 S6 x1 x3 x2 1
    )
  )
def l_X11_doesFor_4 : Nat → St → Int32 → Int32 → Int32 → Option (Int32 × St)
  | 0, _, _, _, _ => none
  | fu + 1, S, x1, x2, x3 => f_X11_doesFor_4 (l_X11_doesFor_4 fu) S x1 x2 x3
def f_X11_doesFor (S : St) (x1 : Int32) : Option (Int32 × St) :=
  l_X11_doesFor_4 FU S x1 0 0
set_option maxHeartbeats 4000000 in
set_option maxRecDepth 100000 in
theorem c_X11_doesFor {l : Launch} {D : va_G} {cI cC cS : ClassId} {ad adK adV : Nat → Nat} {S S1 : St} {x1 : Int32} {r : Int32} (h : f_X11_doesFor S x1 = some (r, S1)) : Kt l D (mw cI ad) (KX D (xtys cI cC cS) adK adV) yX11_doesFor cX11_doesFor 4 (some .int) (1) (22) [.ref (ad 0), .int x1] S (some (.int r)) S1 := by
  refine k_ent (ins := .ireturn) (st := [.int r]) (by decide +kernel) (Nat.le_of_ble_eq_true rfl) ret_i ?_
  intro p e s m args below meth c A Q C hK I hA hq ls hl
  have C : CallFix p m c cX11_doesFor 4 s args TT RX11 := C
  have hx := C.1
  have hb := C.2.1
  have kx := kx_ok D (xtys cI cC cS) adK adV
  have hl : lv_has ls 4 [(0, .ref (ad 0)), (1, .int x1)] := hl
  have J_41 : ∀ (k_4 : St → Int32 → Int32 → Int32 → Option (Int32 × St)) (hk_4 : ∀ (S : St) (x1 : Int32) (x2 : Int32) (x3 : Int32), k_4 S x1 x2 x3 = some (r, S1) → ∀ (H : Heap) (locs : List Loc) (ls : Array Slot), Iv D (mw cI ad) S A s H locs → lv_has ls 4 [(0, .ref (ad 0)), (1, .int x1), (2, .int x2), (3, .int x3)] → W p l e ({ frames := 1, cells := 0, slots := 0, locals := 22 } : Room) s m args below meth c H locs 0 0 Q (F0 m 4 ls [])) (S : St) (x1 : Int32) (x3 : Int32) (t0 : Int32) (t1 : Int32), f_X11_doesFor_41 k_4 S x1 x3 t0 t1 = some (r, S1) → ∀ (H : Heap) (locs : List Loc) (ls : Array Slot), Iv D (mw cI ad) S A s H locs → lv_has ls 4 [(0, .ref (ad 0)), (1, .int x1), (3, .int x3)] → W p l e ({ frames := 1, cells := 0, slots := 0, locals := 22 } : Room) s m args below meth c H locs 0 0 Q (F0 m 41 ls [.int t1, .int t0]) := by
    intro k_4 hk_4 S x1 x3 t0 t1 h H locs ls I hl
    unfold f_X11_doesFor_41 at h
    refine lv_iadd hx hb dX11_doesFor_41 ?_
    refine lv_topi (fun v1 ev1 => ?_)
    have h := bnd_at ev1 h
    clear ev1
    refine lv_istore_n (lv' := [(2, .int v1), (0, .ref (ad 0)), (1, .int x1), (3, .int x3)]) hx hb dX11_doesFor_42 rfl hl (by decide) rfl (fun ls hl => ?_)
    obtain ⟨v2, ev2⟩ : ∃ y : Int32, y = x3 + 3 := ⟨_, rfl⟩
    have h := bnd_at ev2 h
    refine lv_iinc (v := v2) (lv' := [(3, .int v2), (2, .int v1), (0, .ref (ad 0)), (1, .int x1)]) hx hb dX11_doesFor_43 hl (k := 3) rfl (by rw [ev2]; rfl) (by decide) rfl (fun ls hl => ?_)
    clear ev2
    refine lv_goto (tgt := 4) hx hb dX11_doesFor_46 (by decide) ?_
    exact hk_4 _ _ _ _ h _ _ _ I (lv_sub hl [2, 3, 1, 0] rfl)
  have B_4 : ∀ (k_4 : St → Int32 → Int32 → Int32 → Option (Int32 × St)) (hk_4 : ∀ (S : St) (x1 : Int32) (x2 : Int32) (x3 : Int32), k_4 S x1 x2 x3 = some (r, S1) → ∀ (H : Heap) (locs : List Loc) (ls : Array Slot), Iv D (mw cI ad) S A s H locs → lv_has ls 4 [(0, .ref (ad 0)), (1, .int x1), (2, .int x2), (3, .int x3)] → W p l e ({ frames := 1, cells := 0, slots := 0, locals := 22 } : Room) s m args below meth c H locs 0 0 Q (F0 m 4 ls [])) (S : St) (x1 : Int32) (x2 : Int32) (x3 : Int32), f_X11_doesFor_4 k_4 S x1 x2 x3 = some (r, S1) → ∀ (H : Heap) (locs : List Loc) (ls : Array Slot), Iv D (mw cI ad) S A s H locs → lv_has ls 4 [(0, .ref (ad 0)), (1, .int x1), (2, .int x2), (3, .int x3)] → W p l e ({ frames := 1, cells := 0, slots := 0, locals := 22 } : Room) s m args below meth c H locs 0 0 Q (F0 m 4 ls []) := by
    intro k_4 hk_4 S x1 x2 x3 h H locs ls I hl
    unfold f_X11_doesFor_4 at h
    refine lv_iload_n hx hb dX11_doesFor_4 rfl (lv_at hl 3 rfl) ?_
    refine lv_iconst (v := 3) hx hb dX11_doesFor_5 (by decide) ?_
    refine lv_aload_n hx hb dX11_doesFor_6 rfl (lv_at hl 0 rfl) ?_
    refine gm_0_16 C hK I fl_X11_310 dX11_doesFor_7 ?_
    refine lv_imul hx hb dX11_doesFor_10 ?_
    refine lv_icmp_ge (tgt := 49) hx hb dX11_doesFor_11 (by decide) (fun c3 => ?_) (fun c3 => ?_)
    · have h := ite_t c3 h
      refine lv_iload_n hx hb dX11_doesFor_49 rfl (lv_at hl 2 rfl) ?_
      exact rt_i hq h I dX11_doesFor_50
    · have h := ite_n c3 h
      refine lv_iload_n hx hb dX11_doesFor_14 rfl (lv_at hl 2 rfl) ?_
      refine lv_iload_n hx hb dX11_doesFor_15 rfl (lv_at hl 1 rfl) ?_
      refine lv_aload_n hx hb dX11_doesFor_16 rfl (lv_at hl 0 rfl) ?_
      refine gm_0_15 C hK I fl_X11_44 dX11_doesFor_17 ?_
      refine lv_iload_n hx hb dX11_doesFor_20 rfl (lv_at hl 3 rfl) ?_
      obtain ⟨hv4, h⟩ := chk_ex h
      refine am_9 C hK I hv4 dX11_doesFor_21 ?_
      refine lv_aload_n hx hb dX11_doesFor_22 rfl (lv_at hl 0 rfl) ?_
      refine gm_0_15 C hK I fl_X11_44 dX11_doesFor_23 ?_
      refine lv_iload_n hx hb dX11_doesFor_26 rfl (lv_at hl 3 rfl) ?_
      refine lv_iconst (v := 1) hx hb dX11_doesFor_27 (by decide) ?_
      refine lv_iadd hx hb dX11_doesFor_28 ?_
      obtain ⟨hv5, h⟩ := chk_ex h
      refine am_9 C hK I hv5 dX11_doesFor_29 ?_
      obtain ⟨r6, S6, e6, h⟩ := obd2_ex h
      refine k_S (As := [.int x1, .int (S.1 9 (x3).toNatClampNeg), .int (S.1 9 ((x3 + 1)).toNatClampNeg)]) (rest := [.int x2]) (st1 := [.int r6, .int x2]) C kx hK I hA (c_X11_fits e6) ⟨Nat.le_of_ble_eq_true rfl, Nat.le_of_ble_eq_true rfl⟩ ms_X11_fits lk_X11_165 rfl hl.1 rfl (Nat.le_of_ble_eq_true rfl) dX11_doesFor_30 rfl (fun H locs I => ?_)
      refine lv_if_eq (tgt := 40) hx hb dX11_doesFor_33 (by decide) (fun c7 => ?_) (fun c7 => ?_)
      · have h := ite_t c7 h
        refine lv_iconst (v := 0) hx hb dX11_doesFor_40 (by decide) ?_
        exact J_41 k_4 hk_4 _ _ _ _ _ h _ _ _ I (lv_sub hl [0, 1, 3] rfl)
      · have h := ite_n c7 h
        refine lv_iconst (v := 1) hx hb dX11_doesFor_36 (by decide) ?_
        refine lv_goto (tgt := 41) hx hb dX11_doesFor_37 (by decide) ?_
        exact J_41 k_4 hk_4 _ _ _ _ _ h _ _ _ I (lv_sub hl [0, 1, 3] rfl)
  have J_4 : ∀ (fu : Nat) (S : St) (x1 : Int32) (x2 : Int32) (x3 : Int32), l_X11_doesFor_4  fu S x1 x2 x3 = some (r, S1) → ∀ (H : Heap) (locs : List Loc) (ls : Array Slot), Iv D (mw cI ad) S A s H locs → lv_has ls 4 [(0, .ref (ad 0)), (1, .int x1), (2, .int x2), (3, .int x3)] → W p l e ({ frames := 1, cells := 0, slots := 0, locals := 22 } : Room) s m args below meth c H locs 0 0 Q (F0 m 4 ls []) := by
    intro fu
    induction fu with
    | zero => intro S x1 x2 x3 h; cases h
    | succ fu ih => intro S x1 x2 x3 h; exact B_4 (l_X11_doesFor_4 fu) ih S x1 x2 x3 h
  unfold f_X11_doesFor at h
  refine lv_iconst (v := 0) hx hb dX11_doesFor_0 (by decide) ?_
  refine lv_istore_n (lv' := [(2, .int 0), (0, .ref (ad 0)), (1, .int x1)]) hx hb dX11_doesFor_1 rfl hl (by decide) rfl (fun ls hl => ?_)
  refine lv_iconst (v := 0) hx hb dX11_doesFor_2 (by decide) ?_
  refine lv_istore_n (lv' := [(3, .int 0), (2, .int 0), (0, .ref (ad 0)), (1, .int x1)]) hx hb dX11_doesFor_3 rfl hl (by decide) rfl (fun ls hl => ?_)
  exact J_4 _ _ _ _ _ h _ _ _ I (lv_sub hl [2, 3, 1, 0] rfl)
theorem lk_X11_319 : Cond.methodLink RX11 319 yX11_doesFor ∈ TT := tt_of 1524 (by decide +kernel) rfl
theorem mv_X11_doesFor : MV yX11_doesFor cX11_doesFor 4 (some .int) 1 := ⟨tt_of 1527 (by decide +kernel) rfl, tt_of 1526 (by decide +kernel) rfl, tt_of 63 (by decide +kernel) rfl, tt_of 76 (by decide +kernel) rfl, ⟨by decide +kernel, by decide +kernel, by decide +kernel⟩⟩
theorem dX11_box_0 : decode cX11_box 0 = .ok (.iload_n 1, 1) := by decide +kernel
theorem dX11_box_1 : decode cX11_box 1 = .ok (.i2l, 1) := by decide +kernel
theorem dX11_box_2 : decode cX11_box 2 = .ok (.lconst 0, 1) := by decide +kernel
theorem dX11_box_3 : decode cX11_box 3 = .ok (.lconst 1, 1) := by decide +kernel
theorem dX11_box_4 : decode cX11_box 4 = .ok (.invokestatic 55, 3) := by decide +kernel
theorem dX11_box_7 : decode cX11_box 7 = .ok (.ifCond .ne 6, 3) := by decide +kernel
theorem dX11_box_10 : decode cX11_box 10 = .ok (.bipush (-3), 2) := by decide +kernel
theorem dX11_box_12 : decode cX11_box 12 = .ok (.ireturn, 1) := by decide +kernel
theorem dX11_box_13 : decode cX11_box 13 = .ok (.iconst 0, 1) := by decide +kernel
theorem dX11_box_14 : decode cX11_box 14 = .ok (.istore_n 2, 1) := by decide +kernel
theorem dX11_box_15 : decode cX11_box 15 = .ok (.iconst 1, 1) := by decide +kernel
theorem dX11_box_16 : decode cX11_box 16 = .ok (.istore_n 3, 1) := by decide +kernel
theorem dX11_box_17 : decode cX11_box 17 = .ok (.iload_n 3, 1) := by decide +kernel
theorem dX11_box_18 : decode cX11_box 18 = .ok (.sipush 256, 3) := by decide +kernel
theorem dX11_box_21 : decode cX11_box 21 = .ok (.if_icmp .ge 59, 3) := by decide +kernel
theorem dX11_box_24 : decode cX11_box 24 = .ok (.aload_n 0, 1) := by decide +kernel
theorem dX11_box_25 : decode cX11_box 25 = .ok (.iload_n 3, 1) := by decide +kernel
theorem dX11_box_26 : decode cX11_box 26 = .ok (.invokevirtual 162, 3) := by decide +kernel
theorem dX11_box_29 : decode cX11_box 29 = .ok (.ifCond .eq 45, 3) := by decide +kernel
theorem dX11_box_32 : decode cX11_box 32 = .ok (.aload_n 0, 1) := by decide +kernel
theorem dX11_box_33 : decode cX11_box 33 = .ok (.iload_n 3, 1) := by decide +kernel
theorem dX11_box_34 : decode cX11_box 34 = .ok (.invokevirtual 319, 3) := by decide +kernel
theorem dX11_box_37 : decode cX11_box 37 = .ok (.aload_n 0, 1) := by decide +kernel
theorem dX11_box_38 : decode cX11_box 38 = .ok (.iload_n 2, 1) := by decide +kernel
theorem dX11_box_39 : decode cX11_box 39 = .ok (.invokevirtual 319, 3) := by decide +kernel
theorem dX11_box_42 : decode cX11_box 42 = .ok (.isub, 1) := by decide +kernel
theorem dX11_box_43 : decode cX11_box 43 = .ok (.istore 4, 2) := by decide +kernel
theorem dX11_box_45 : decode cX11_box 45 = .ok (.iload 4, 2) := by decide +kernel
theorem dX11_box_47 : decode cX11_box 47 = .ok (.ifCond .gt 21, 3) := by decide +kernel
theorem dX11_box_50 : decode cX11_box 50 = .ok (.iload 4, 2) := by decide +kernel
theorem dX11_box_52 : decode cX11_box 52 = .ok (.ifCond .ne 20, 3) := by decide +kernel
theorem dX11_box_55 : decode cX11_box 55 = .ok (.aload_n 0, 1) := by decide +kernel
theorem dX11_box_56 : decode cX11_box 56 = .ok (.iload_n 3, 1) := by decide +kernel
theorem dX11_box_57 : decode cX11_box 57 = .ok (.invokevirtual 156, 3) := by decide +kernel
theorem dX11_box_60 : decode cX11_box 60 = .ok (.aload_n 0, 1) := by decide +kernel
theorem dX11_box_61 : decode cX11_box 61 = .ok (.iload_n 2, 1) := by decide +kernel
theorem dX11_box_62 : decode cX11_box 62 = .ok (.invokevirtual 156, 3) := by decide +kernel
theorem dX11_box_65 : decode cX11_box 65 = .ok (.if_icmp .ge 7, 3) := by decide +kernel
theorem dX11_box_68 : decode cX11_box 68 = .ok (.iload_n 3, 1) := by decide +kernel
theorem dX11_box_69 : decode cX11_box 69 = .ok (.goto 4, 3) := by decide +kernel
theorem dX11_box_72 : decode cX11_box 72 = .ok (.iload_n 2, 1) := by decide +kernel
theorem dX11_box_73 : decode cX11_box 73 = .ok (.istore_n 2, 1) := by decide +kernel
theorem dX11_box_74 : decode cX11_box 74 = .ok (.iinc 3 1, 3) := by decide +kernel
theorem dX11_box_77 : decode cX11_box 77 = .ok (.goto (-60), 3) := by decide +kernel
theorem dX11_box_80 : decode cX11_box 80 = .ok (.iload_n 1, 1) := by decide +kernel
theorem dX11_box_81 : decode cX11_box 81 = .ok (.ifCond .ne 7, 3) := by decide +kernel
theorem dX11_box_84 : decode cX11_box 84 = .ok (.iload_n 2, 1) := by decide +kernel
theorem dX11_box_85 : decode cX11_box 85 = .ok (.goto 8, 3) := by decide +kernel
theorem dX11_box_88 : decode cX11_box 88 = .ok (.aload_n 0, 1) := by decide +kernel
theorem dX11_box_89 : decode cX11_box 89 = .ok (.iload_n 2, 1) := by decide +kernel
theorem dX11_box_90 : decode cX11_box 90 = .ok (.invokevirtual 319, 3) := by decide +kernel
theorem dX11_box_93 : decode cX11_box 93 = .ok (.ireturn, 1) := by decide +kernel
def f_X11_box_74 (k_17 : St → Int32 → Int32 → Int32 → Option (Int32 × St)) (S : St) (x1 : Int32) (x2 : Int32) (x3 : Int32) : Option (Int32 × St) :=
  bnd (x3 + 1 : Int32) fun v1 =>
  k_17 S x1 x2 v1
def f_X11_box_73 (k_17 : St → Int32 → Int32 → Int32 → Option (Int32 × St)) (S : St) (x1 : Int32) (x3 : Int32) (t0 : Int32) : Option (Int32 × St) :=
  f_X11_box_74 k_17 S x1 t0 x3
def f_X11_box_68 (k_17 : St → Int32 → Int32 → Int32 → Option (Int32 × St)) (S : St) (x1 : Int32) (x3 : Int32) : Option (Int32 × St) :=
  f_X11_box_73 k_17 S x1 x3 x3
def f_X11_box_72 (k_17 : St → Int32 → Int32 → Int32 → Option (Int32 × St)) (S : St) (x1 : Int32) (x2 : Int32) (x3 : Int32) : Option (Int32 × St) :=
  f_X11_box_73 k_17 S x1 x3 x2
def f_X11_box_17 (k_17 : St → Int32 → Int32 → Int32 → Option (Int32 × St)) (S : St) (x1 : Int32) (x2 : Int32) (x3 : Int32) : Option (Int32 × St) :=
  if 256 ≤ x3 then (
    if x1 = 0 then (
      some (x2, S)
    ) else (
      obd2 (f_X11_doesFor S x2) fun r4 S4 =>
      some (r4, S4)
    )
  ) else (
    obd2 (f_X11_mayBe S x3) fun r5 S5 =>
    if r5 = 0 then (
      f_X11_box_74 k_17 S5 x1 x2 x3
    ) else (
      obd2 (f_X11_doesFor S5 x3) fun r7 S7 =>
      obd2 (f_X11_doesFor S7 x2) fun r8 S8 =>
      bnd ((r7 - r8) : Int32) fun v9 =>
      if 0 < v9 then (
        f_X11_box_68 k_17 S8 x1 x3
      ) else (
        if v9 = 0 then (
          obd2 (f_X11_weight S8 x3) fun r12 S12 =>
          obd2 (f_X11_weight S12 x2) fun r13 S13 =>
          if r13 ≤ r12 then (
            f_X11_box_72 k_17 S13 x1 x2 x3
          ) else (
            f_X11_box_68 k_17 S13 x1 x3
          )
        ) else (
          f_X11_box_72 k_17 S8 x1 x2 x3
        )
      )
    )
  )
def l_X11_box_17 : Nat → St → Int32 → Int32 → Int32 → Option (Int32 × St)
  | 0, _, _, _, _ => none
  | fu + 1, S, x1, x2, x3 => f_X11_box_17 (l_X11_box_17 fu) S x1 x2 x3
def f_X11_box (S : St) (x1 : Int32) : Option (Int32 × St) :=
  obd2 (f_X11_in S (x1.toInt64) (0) (1)) fun r15 S15 =>
  if r15 = 0 then (
    some ((-3), S15)
  ) else (
    l_X11_box_17 FU S15 x1 0 1
  )
set_option maxHeartbeats 4000000 in
set_option maxRecDepth 100000 in
theorem c_X11_box {l : Launch} {D : va_G} {cI cC cS : ClassId} {ad adK adV : Nat → Nat} {S S1 : St} {x1 : Int32} {r : Int32} (h : f_X11_box S x1 = some (r, S1)) : Kt l D (mw cI ad) (KX D (xtys cI cC cS) adK adV) yX11_box cX11_box 5 (some .int) (3) (67) [.ref (ad 0), .int x1] S (some (.int r)) S1 := by
  refine k_ent (ins := .ireturn) (st := [.int r]) (by decide +kernel) (Nat.le_of_ble_eq_true rfl) ret_i ?_
  intro p e s m args below meth c A Q C hK I hA hq ls hl
  have C : CallFix p m c cX11_box 5 s args TT RX11 := C
  have hx := C.1
  have hb := C.2.1
  have kx := kx_ok D (xtys cI cC cS) adK adV
  have hl : lv_has ls 5 [(0, .ref (ad 0)), (1, .int x1)] := hl
  have J_74 : ∀ (k_17 : St → Int32 → Int32 → Int32 → Option (Int32 × St)) (hk_17 : ∀ (S : St) (x1 : Int32) (x2 : Int32) (x3 : Int32), k_17 S x1 x2 x3 = some (r, S1) → ∀ (H : Heap) (locs : List Loc) (ls : Array Slot), Iv D (mw cI ad) S A s H locs → lv_has ls 5 [(0, .ref (ad 0)), (1, .int x1), (2, .int x2), (3, .int x3)] → W p l e ({ frames := 3, cells := 0, slots := 0, locals := 67 } : Room) s m args below meth c H locs 0 0 Q (F0 m 17 ls [])) (S : St) (x1 : Int32) (x2 : Int32) (x3 : Int32), f_X11_box_74 k_17 S x1 x2 x3 = some (r, S1) → ∀ (H : Heap) (locs : List Loc) (ls : Array Slot), Iv D (mw cI ad) S A s H locs → lv_has ls 5 [(0, .ref (ad 0)), (1, .int x1), (2, .int x2), (3, .int x3)] → W p l e ({ frames := 3, cells := 0, slots := 0, locals := 67 } : Room) s m args below meth c H locs 0 0 Q (F0 m 74 ls []) := by
    intro k_17 hk_17 S x1 x2 x3 h H locs ls I hl
    unfold f_X11_box_74 at h
    obtain ⟨v1, ev1⟩ : ∃ y : Int32, y = x3 + 1 := ⟨_, rfl⟩
    have h := bnd_at ev1 h
    refine lv_iinc (v := v1) (lv' := [(3, .int v1), (0, .ref (ad 0)), (1, .int x1), (2, .int x2)]) hx hb dX11_box_74 hl (k := 3) rfl (by rw [ev1]; rfl) (by decide) rfl (fun ls hl => ?_)
    clear ev1
    refine lv_goto (tgt := 17) hx hb dX11_box_77 (by decide) ?_
    exact hk_17 _ _ _ _ h _ _ _ I (lv_sub hl [1, 2, 3, 0] rfl)
  have J_73 : ∀ (k_17 : St → Int32 → Int32 → Int32 → Option (Int32 × St)) (hk_17 : ∀ (S : St) (x1 : Int32) (x2 : Int32) (x3 : Int32), k_17 S x1 x2 x3 = some (r, S1) → ∀ (H : Heap) (locs : List Loc) (ls : Array Slot), Iv D (mw cI ad) S A s H locs → lv_has ls 5 [(0, .ref (ad 0)), (1, .int x1), (2, .int x2), (3, .int x3)] → W p l e ({ frames := 3, cells := 0, slots := 0, locals := 67 } : Room) s m args below meth c H locs 0 0 Q (F0 m 17 ls [])) (S : St) (x1 : Int32) (x3 : Int32) (t0 : Int32), f_X11_box_73 k_17 S x1 x3 t0 = some (r, S1) → ∀ (H : Heap) (locs : List Loc) (ls : Array Slot), Iv D (mw cI ad) S A s H locs → lv_has ls 5 [(0, .ref (ad 0)), (1, .int x1), (3, .int x3)] → W p l e ({ frames := 3, cells := 0, slots := 0, locals := 67 } : Room) s m args below meth c H locs 0 0 Q (F0 m 73 ls [.int t0]) := by
    intro k_17 hk_17 S x1 x3 t0 h H locs ls I hl
    unfold f_X11_box_73 at h
    refine lv_istore_n (lv' := [(2, .int t0), (0, .ref (ad 0)), (1, .int x1), (3, .int x3)]) hx hb dX11_box_73 rfl hl (by decide) rfl (fun ls hl => ?_)
    exact J_74 k_17 hk_17 _ _ _ _ h _ _ _ I (lv_sub hl [1, 2, 0, 3] rfl)
  have J_68 : ∀ (k_17 : St → Int32 → Int32 → Int32 → Option (Int32 × St)) (hk_17 : ∀ (S : St) (x1 : Int32) (x2 : Int32) (x3 : Int32), k_17 S x1 x2 x3 = some (r, S1) → ∀ (H : Heap) (locs : List Loc) (ls : Array Slot), Iv D (mw cI ad) S A s H locs → lv_has ls 5 [(0, .ref (ad 0)), (1, .int x1), (2, .int x2), (3, .int x3)] → W p l e ({ frames := 3, cells := 0, slots := 0, locals := 67 } : Room) s m args below meth c H locs 0 0 Q (F0 m 17 ls [])) (S : St) (x1 : Int32) (x3 : Int32), f_X11_box_68 k_17 S x1 x3 = some (r, S1) → ∀ (H : Heap) (locs : List Loc) (ls : Array Slot), Iv D (mw cI ad) S A s H locs → lv_has ls 5 [(0, .ref (ad 0)), (1, .int x1), (3, .int x3)] → W p l e ({ frames := 3, cells := 0, slots := 0, locals := 67 } : Room) s m args below meth c H locs 0 0 Q (F0 m 68 ls []) := by
    intro k_17 hk_17 S x1 x3 h H locs ls I hl
    unfold f_X11_box_68 at h
    refine lv_iload_n hx hb dX11_box_68 rfl (lv_at hl 2 rfl) ?_
    refine lv_goto (tgt := 73) hx hb dX11_box_69 (by decide) ?_
    exact J_73 k_17 hk_17 _ _ _ _ h _ _ _ I (lv_sub hl [0, 1, 2] rfl)
  have J_72 : ∀ (k_17 : St → Int32 → Int32 → Int32 → Option (Int32 × St)) (hk_17 : ∀ (S : St) (x1 : Int32) (x2 : Int32) (x3 : Int32), k_17 S x1 x2 x3 = some (r, S1) → ∀ (H : Heap) (locs : List Loc) (ls : Array Slot), Iv D (mw cI ad) S A s H locs → lv_has ls 5 [(0, .ref (ad 0)), (1, .int x1), (2, .int x2), (3, .int x3)] → W p l e ({ frames := 3, cells := 0, slots := 0, locals := 67 } : Room) s m args below meth c H locs 0 0 Q (F0 m 17 ls [])) (S : St) (x1 : Int32) (x2 : Int32) (x3 : Int32), f_X11_box_72 k_17 S x1 x2 x3 = some (r, S1) → ∀ (H : Heap) (locs : List Loc) (ls : Array Slot), Iv D (mw cI ad) S A s H locs → lv_has ls 5 [(0, .ref (ad 0)), (1, .int x1), (2, .int x2), (3, .int x3)] → W p l e ({ frames := 3, cells := 0, slots := 0, locals := 67 } : Room) s m args below meth c H locs 0 0 Q (F0 m 72 ls []) := by
    intro k_17 hk_17 S x1 x2 x3 h H locs ls I hl
    unfold f_X11_box_72 at h
    refine lv_iload_n hx hb dX11_box_72 rfl (lv_at hl 2 rfl) ?_
    exact J_73 k_17 hk_17 _ _ _ _ h _ _ _ I (lv_sub hl [0, 1, 3] rfl)
  have B_17 : ∀ (k_17 : St → Int32 → Int32 → Int32 → Option (Int32 × St)) (hk_17 : ∀ (S : St) (x1 : Int32) (x2 : Int32) (x3 : Int32), k_17 S x1 x2 x3 = some (r, S1) → ∀ (H : Heap) (locs : List Loc) (ls : Array Slot), Iv D (mw cI ad) S A s H locs → lv_has ls 5 [(0, .ref (ad 0)), (1, .int x1), (2, .int x2), (3, .int x3)] → W p l e ({ frames := 3, cells := 0, slots := 0, locals := 67 } : Room) s m args below meth c H locs 0 0 Q (F0 m 17 ls [])) (S : St) (x1 : Int32) (x2 : Int32) (x3 : Int32), f_X11_box_17 k_17 S x1 x2 x3 = some (r, S1) → ∀ (H : Heap) (locs : List Loc) (ls : Array Slot), Iv D (mw cI ad) S A s H locs → lv_has ls 5 [(0, .ref (ad 0)), (1, .int x1), (2, .int x2), (3, .int x3)] → W p l e ({ frames := 3, cells := 0, slots := 0, locals := 67 } : Room) s m args below meth c H locs 0 0 Q (F0 m 17 ls []) := by
    intro k_17 hk_17 S x1 x2 x3 h H locs ls I hl
    unfold f_X11_box_17 at h
    refine lv_iload_n hx hb dX11_box_17 rfl (lv_at hl 3 rfl) ?_
    refine lv_sipush (v := 256) hx hb dX11_box_18 (by decide) ?_
    refine lv_icmp_ge (tgt := 80) hx hb dX11_box_21 (by decide) (fun c2 => ?_) (fun c2 => ?_)
    · have h := ite_t c2 h
      refine lv_iload_n hx hb dX11_box_80 rfl (lv_at hl 1 rfl) ?_
      refine lv_if_ne (tgt := 88) hx hb dX11_box_81 (by decide) (fun c3 => ?_) (fun c3 => ?_)
      · have h := ite_n c3 h
        refine lv_aload_n hx hb dX11_box_88 rfl (lv_at hl 0 rfl) ?_
        refine lv_iload_n hx hb dX11_box_89 rfl (lv_at hl 2 rfl) ?_
        obtain ⟨r4, S4, e4, h⟩ := obd2_ex h
        refine k_V (As := [.int x2]) (rest := []) (st1 := [.int r4]) C kx hK I hA (c_X11_doesFor e4) ⟨Nat.le_of_ble_eq_true rfl, Nat.le_of_ble_eq_true rfl⟩ mv_X11_doesFor lk_X11_319 0 11 (mw_0 (cI := cI) (ad := ad)) rfl rfl hl.1 rfl (Nat.le_of_ble_eq_true rfl) dX11_box_90 rfl (fun H locs I => ?_)
        exact rt_i hq h I dX11_box_93
      · have h := ite_t c3 h
        refine lv_iload_n hx hb dX11_box_84 rfl (lv_at hl 2 rfl) ?_
        refine lv_goto (tgt := 93) hx hb dX11_box_85 (by decide) ?_
        exact rt_i hq h I dX11_box_93
    · have h := ite_n c2 h
      refine lv_aload_n hx hb dX11_box_24 rfl (lv_at hl 0 rfl) ?_
      refine lv_iload_n hx hb dX11_box_25 rfl (lv_at hl 3 rfl) ?_
      obtain ⟨r5, S5, e5, h⟩ := obd2_ex h
      refine k_V (As := [.int x3]) (rest := []) (st1 := [.int r5]) C kx hK I hA (c_X11_mayBe e5) ⟨Nat.le_of_ble_eq_true rfl, Nat.le_of_ble_eq_true rfl⟩ mv_X11_mayBe lk_X11_162 0 11 (mw_0 (cI := cI) (ad := ad)) rfl rfl hl.1 rfl (Nat.le_of_ble_eq_true rfl) dX11_box_26 rfl (fun H locs I => ?_)
      refine lv_if_eq (tgt := 74) hx hb dX11_box_29 (by decide) (fun c6 => ?_) (fun c6 => ?_)
      · have h := ite_t c6 h
        exact J_74 k_17 hk_17 _ _ _ _ h _ _ _ I (lv_sub hl [0, 1, 2, 3] rfl)
      · have h := ite_n c6 h
        refine lv_aload_n hx hb dX11_box_32 rfl (lv_at hl 0 rfl) ?_
        refine lv_iload_n hx hb dX11_box_33 rfl (lv_at hl 3 rfl) ?_
        obtain ⟨r7, S7, e7, h⟩ := obd2_ex h
        refine k_V (As := [.int x3]) (rest := []) (st1 := [.int r7]) C kx hK I hA (c_X11_doesFor e7) ⟨Nat.le_of_ble_eq_true rfl, Nat.le_of_ble_eq_true rfl⟩ mv_X11_doesFor lk_X11_319 0 11 (mw_0 (cI := cI) (ad := ad)) rfl rfl hl.1 rfl (Nat.le_of_ble_eq_true rfl) dX11_box_34 rfl (fun H locs I => ?_)
        refine lv_aload_n hx hb dX11_box_37 rfl (lv_at hl 0 rfl) ?_
        refine lv_iload_n hx hb dX11_box_38 rfl (lv_at hl 2 rfl) ?_
        obtain ⟨r8, S8, e8, h⟩ := obd2_ex h
        refine k_V (As := [.int x2]) (rest := [.int r7]) (st1 := [.int r8, .int r7]) C kx hK I hA (c_X11_doesFor e8) ⟨Nat.le_of_ble_eq_true rfl, Nat.le_of_ble_eq_true rfl⟩ mv_X11_doesFor lk_X11_319 0 11 (mw_0 (cI := cI) (ad := ad)) rfl rfl hl.1 rfl (Nat.le_of_ble_eq_true rfl) dX11_box_39 rfl (fun H locs I => ?_)
        refine lv_isub hx hb dX11_box_42 ?_
        refine lv_topi (fun v9 ev9 => ?_)
        have h := bnd_at ev9 h
        clear ev9
        refine lv_istore (lv' := [(4, .int v9), (0, .ref (ad 0)), (1, .int x1), (2, .int x2), (3, .int x3)]) hx hb dX11_box_43 hl (by decide) rfl (fun ls hl => ?_)
        refine lv_iload hx hb dX11_box_45 (lv_at hl 0 rfl) ?_
        refine lv_if_gt (tgt := 68) hx hb dX11_box_47 (by decide) (fun c10 => ?_) (fun c10 => ?_)
        · have h := ite_t c10 h
          exact J_68 k_17 hk_17 _ _ _ h _ _ _ I (lv_sub hl [1, 2, 4] rfl)
        · have h := ite_n c10 h
          refine lv_iload hx hb dX11_box_50 (lv_at hl 0 rfl) ?_
          refine lv_if_ne (tgt := 72) hx hb dX11_box_52 (by decide) (fun c11 => ?_) (fun c11 => ?_)
          · have h := ite_n c11 h
            exact J_72 k_17 hk_17 _ _ _ _ h _ _ _ I (lv_sub hl [1, 2, 3, 4] rfl)
          · have h := ite_t c11 h
            refine lv_aload_n hx hb dX11_box_55 rfl (lv_at hl 1 rfl) ?_
            refine lv_iload_n hx hb dX11_box_56 rfl (lv_at hl 4 rfl) ?_
            obtain ⟨r12, S12, e12, h⟩ := obd2_ex h
            refine k_V (As := [.int x3]) (rest := []) (st1 := [.int r12]) C kx hK I hA (c_X11_weight e12) ⟨Nat.le_of_ble_eq_true rfl, Nat.le_of_ble_eq_true rfl⟩ mv_X11_weight lk_X11_156 0 11 (mw_0 (cI := cI) (ad := ad)) rfl rfl hl.1 rfl (Nat.le_of_ble_eq_true rfl) dX11_box_57 rfl (fun H locs I => ?_)
            refine lv_aload_n hx hb dX11_box_60 rfl (lv_at hl 1 rfl) ?_
            refine lv_iload_n hx hb dX11_box_61 rfl (lv_at hl 3 rfl) ?_
            obtain ⟨r13, S13, e13, h⟩ := obd2_ex h
            refine k_V (As := [.int x2]) (rest := [.int r12]) (st1 := [.int r13, .int r12]) C kx hK I hA (c_X11_weight e13) ⟨Nat.le_of_ble_eq_true rfl, Nat.le_of_ble_eq_true rfl⟩ mv_X11_weight lk_X11_156 0 11 (mw_0 (cI := cI) (ad := ad)) rfl rfl hl.1 rfl (Nat.le_of_ble_eq_true rfl) dX11_box_62 rfl (fun H locs I => ?_)
            refine lv_icmp_ge (tgt := 72) hx hb dX11_box_65 (by decide) (fun c14 => ?_) (fun c14 => ?_)
            · have h := ite_t c14 h
              exact J_72 k_17 hk_17 _ _ _ _ h _ _ _ I (lv_sub hl [1, 2, 3, 4] rfl)
            · have h := ite_n c14 h
              exact J_68 k_17 hk_17 _ _ _ h _ _ _ I (lv_sub hl [1, 2, 4] rfl)
  have J_17 : ∀ (fu : Nat) (S : St) (x1 : Int32) (x2 : Int32) (x3 : Int32), l_X11_box_17  fu S x1 x2 x3 = some (r, S1) → ∀ (H : Heap) (locs : List Loc) (ls : Array Slot), Iv D (mw cI ad) S A s H locs → lv_has ls 5 [(0, .ref (ad 0)), (1, .int x1), (2, .int x2), (3, .int x3)] → W p l e ({ frames := 3, cells := 0, slots := 0, locals := 67 } : Room) s m args below meth c H locs 0 0 Q (F0 m 17 ls []) := by
    intro fu
    induction fu with
    | zero => intro S x1 x2 x3 h; cases h
    | succ fu ih => intro S x1 x2 x3 h; exact B_17 (l_X11_box_17 fu) ih S x1 x2 x3 h
  unfold f_X11_box at h
  refine lv_iload_n hx hb dX11_box_0 rfl (lv_at hl 1 rfl) ?_
  refine lv_i2l hx hb dX11_box_1 rfl ?_
  refine lv_lconst (v := (0)) hx hb dX11_box_2 (by decide) ?_
  refine lv_lconst (v := (1)) hx hb dX11_box_3 (by decide) ?_
  obtain ⟨r15, S15, e15, h⟩ := obd2_ex h
  refine k_S (As := [.long (x1.toInt64), .long (0), .long (1)]) (rest := []) (st1 := [.int r15]) C kx hK I hA (c_X11_in e15) ⟨Nat.le_of_ble_eq_true rfl, Nat.le_of_ble_eq_true rfl⟩ ms_X11_in lk_X11_55 rfl hl.1 rfl (Nat.le_of_ble_eq_true rfl) dX11_box_4 rfl (fun H locs I => ?_)
  refine lv_if_ne (tgt := 13) hx hb dX11_box_7 (by decide) (fun c16 => ?_) (fun c16 => ?_)
  · have h := ite_n c16 h
    refine lv_iconst (v := 0) hx hb dX11_box_13 (by decide) ?_
    refine lv_istore_n (lv' := [(2, .int 0), (0, .ref (ad 0)), (1, .int x1)]) hx hb dX11_box_14 rfl hl (by decide) rfl (fun ls hl => ?_)
    refine lv_iconst (v := 1) hx hb dX11_box_15 (by decide) ?_
    refine lv_istore_n (lv' := [(3, .int 1), (2, .int 0), (0, .ref (ad 0)), (1, .int x1)]) hx hb dX11_box_16 rfl hl (by decide) rfl (fun ls hl => ?_)
    exact J_17 _ _ _ _ _ h _ _ _ I (lv_sub hl [2, 3, 1, 0] rfl)
  · have h := ite_t c16 h
    refine lv_bipush (v := (-3)) hx hb dX11_box_10 (by decide) ?_
    exact rt_i hq h I dX11_box_12
theorem cn_X11_322 : Cond.constantLong RX11 322 ((65535)) ∈ TT := tt_of 1532 (by decide +kernel) rfl
theorem dX11_run_0 : decode cX11_run 0 = .ok (.aload_n 0, 1) := by decide +kernel
theorem dX11_run_1 : decode cX11_run 1 = .ok (.iload_n 2, 1) := by decide +kernel
theorem dX11_run_2 : decode cX11_run 2 = .ok (.iload_n 3, 1) := by decide +kernel
theorem dX11_run_3 : decode cX11_run 3 = .ok (.iload 4, 2) := by decide +kernel
theorem dX11_run_5 : decode cX11_run 5 = .ok (.invokevirtual 234, 3) := by decide +kernel
theorem dX11_run_8 : decode cX11_run 8 = .ok (.istore 6, 2) := by decide +kernel
theorem dX11_run_10 : decode cX11_run 10 = .ok (.iload 6, 2) := by decide +kernel
theorem dX11_run_12 : decode cX11_run 12 = .ok (.ifCond .eq 6, 3) := by decide +kernel
theorem dX11_run_15 : decode cX11_run 15 = .ok (.iload 6, 2) := by decide +kernel
theorem dX11_run_17 : decode cX11_run 17 = .ok (.ireturn, 1) := by decide +kernel
theorem dX11_run_18 : decode cX11_run 18 = .ok (.iload_n 1, 1) := by decide +kernel
theorem dX11_run_19 : decode cX11_run 19 = .ok (.i2l, 1) := by decide +kernel
theorem dX11_run_20 : decode cX11_run 20 = .ok (.lconst 0, 1) := by decide +kernel
theorem dX11_run_21 : decode cX11_run 21 = .ok (.ldc2_w 322, 3) := by decide +kernel
theorem dX11_run_24 : decode cX11_run 24 = .ok (.invokestatic 55, 3) := by decide +kernel
theorem dX11_run_27 : decode cX11_run 27 = .ok (.ifCond .eq 16, 3) := by decide +kernel
theorem dX11_run_30 : decode cX11_run 30 = .ok (.iload 5, 2) := by decide +kernel
theorem dX11_run_32 : decode cX11_run 32 = .ok (.i2l, 1) := by decide +kernel
theorem dX11_run_33 : decode cX11_run 33 = .ok (.lconst 0, 1) := by decide +kernel
theorem dX11_run_34 : decode cX11_run 34 = .ok (.ldc2_w 154, 3) := by decide +kernel
theorem dX11_run_37 : decode cX11_run 37 = .ok (.invokestatic 55, 3) := by decide +kernel
theorem dX11_run_40 : decode cX11_run 40 = .ok (.ifCond .ne 6, 3) := by decide +kernel
theorem dX11_run_43 : decode cX11_run 43 = .ok (.bipush (-3), 2) := by decide +kernel
theorem dX11_run_45 : decode cX11_run 45 = .ok (.ireturn, 1) := by decide +kernel
theorem dX11_run_46 : decode cX11_run 46 = .ok (.aload_n 0, 1) := by decide +kernel
theorem dX11_run_47 : decode cX11_run 47 = .ok (.iload_n 3, 1) := by decide +kernel
theorem dX11_run_48 : decode cX11_run 48 = .ok (.iload 4, 2) := by decide +kernel
theorem dX11_run_50 : decode cX11_run 50 = .ok (.invokevirtual 241, 3) := by decide +kernel
theorem dX11_run_53 : decode cX11_run 53 = .ok (.aload_n 0, 1) := by decide +kernel
theorem dX11_run_54 : decode cX11_run 54 = .ok (.iconst 0, 1) := by decide +kernel
theorem dX11_run_55 : decode cX11_run 55 = .ok (.invokevirtual 224, 3) := by decide +kernel
theorem dX11_run_58 : decode cX11_run 58 = .ok (.aload_n 0, 1) := by decide +kernel
theorem dX11_run_59 : decode cX11_run 59 = .ok (.iload_n 2, 1) := by decide +kernel
theorem dX11_run_60 : decode cX11_run 60 = .ok (.iload_n 1, 1) := by decide +kernel
theorem dX11_run_61 : decode cX11_run 61 = .ok (.invokevirtual 227, 3) := by decide +kernel
theorem dX11_run_64 : decode cX11_run 64 = .ok (.iload 5, 2) := by decide +kernel
theorem dX11_run_66 : decode cX11_run 66 = .ok (.ifCond .ne 14, 3) := by decide +kernel
theorem dX11_run_69 : decode cX11_run 69 = .ok (.aload_n 0, 1) := by decide +kernel
theorem dX11_run_70 : decode cX11_run 70 = .ok (.getfield 209, 3) := by decide +kernel
theorem dX11_run_73 : decode cX11_run 73 = .ok (.sipush 1000, 3) := by decide +kernel
theorem dX11_run_76 : decode cX11_run 76 = .ok (.iadd, 1) := by decide +kernel
theorem dX11_run_77 : decode cX11_run 77 = .ok (.goto 33, 3) := by decide +kernel
theorem dX11_run_80 : decode cX11_run 80 = .ok (.iload 5, 2) := by decide +kernel
theorem dX11_run_82 : decode cX11_run 82 = .ok (.iconst 1, 1) := by decide +kernel
theorem dX11_run_83 : decode cX11_run 83 = .ok (.if_icmp .ne 10, 3) := by decide +kernel
theorem dX11_run_86 : decode cX11_run 86 = .ok (.aload_n 0, 1) := by decide +kernel
theorem dX11_run_87 : decode cX11_run 87 = .ok (.getfield 203, 3) := by decide +kernel
theorem dX11_run_90 : decode cX11_run 90 = .ok (.goto 20, 3) := by decide +kernel
theorem dX11_run_93 : decode cX11_run 93 = .ok (.iload 5, 2) := by decide +kernel
theorem dX11_run_95 : decode cX11_run 95 = .ok (.iconst 2, 1) := by decide +kernel
theorem dX11_run_96 : decode cX11_run 96 = .ok (.if_icmp .ne 10, 3) := by decide +kernel
theorem dX11_run_99 : decode cX11_run 99 = .ok (.aload_n 0, 1) := by decide +kernel
theorem dX11_run_100 : decode cX11_run 100 = .ok (.getfield 212, 3) := by decide +kernel
theorem dX11_run_103 : decode cX11_run 103 = .ok (.goto 7, 3) := by decide +kernel
theorem dX11_run_106 : decode cX11_run 106 = .ok (.aload_n 0, 1) := by decide +kernel
theorem dX11_run_107 : decode cX11_run 107 = .ok (.getfield 206, 3) := by decide +kernel
theorem dX11_run_110 : decode cX11_run 110 = .ok (.ireturn, 1) := by decide +kernel
def f_X11_run (S : St) (x1 : Int32) (x2 : Int32) (x3 : Int32) (x4 : Int32) (x5 : Int32) : Option (Int32 × St) :=
  obd2 (f_X11_refusesBag S x2 x3 x4) fun r1 S1 =>
  if r1 = 0 then (
    obd2 (f_X11_in S1 (x1.toInt64) (0) (65535)) fun r3 S3 =>
    if r3 = 0 then (
      some ((-3), S3)
    ) else (
      obd2 (f_X11_in S3 (x5.toInt64) (0) (3)) fun r5 S5 =>
      if r5 = 0 then (
        some ((-3), S5)
      ) else (
        obd (f_X11_layRow S5 x3 x4) fun S7 =>
        obd (f_X11_layChosen S7 0) fun S8 =>
        obd (f_X11_go S8 x2 x1) fun S9 =>
        if x5 = 0 then (
          some (((S9.1 0 25) + 1000), S9)
        ) else (
          if x5 = 1 then (
            some ((S9.1 0 27), S9)
          ) else (
            if x5 = 2 then (
              some ((S9.1 0 28), S9)
            ) else (
              some ((S9.1 0 29), S9)
            )
          )
        )
      )
    )
  ) else (
    some (r1, S1)
  )
set_option maxHeartbeats 4000000 in
set_option maxRecDepth 100000 in
theorem c_X11_run {l : Launch} {D : va_G} {cI cC cS : ClassId} {ad adK adV : Nat → Nat} {S S1 : St} {x1 : Int32} {x2 : Int32} {x3 : Int32} {x4 : Int32} {x5 : Int32} {r : Int32} (h : f_X11_run S x1 x2 x3 x4 x5 = some (r, S1)) : Kt l D (mw cI ad) (KX D (xtys cI cC cS) adK adV) yX11_run cX11_run 7 (some .int) (5) (117) [.ref (ad 0), .int x1, .int x2, .int x3, .int x4, .int x5] S (some (.int r)) S1 := by
  refine k_ent (ins := .ireturn) (st := [.int r]) (by decide +kernel) (Nat.le_of_ble_eq_true rfl) ret_i ?_
  intro p e s m args below meth c A Q C hK I hA hq ls hl
  have C : CallFix p m c cX11_run 7 s args TT RX11 := C
  have hx := C.1
  have hb := C.2.1
  have kx := kx_ok D (xtys cI cC cS) adK adV
  have hl : lv_has ls 7 [(0, .ref (ad 0)), (1, .int x1), (2, .int x2), (3, .int x3), (4, .int x4), (5, .int x5)] := hl
  unfold f_X11_run at h
  refine lv_aload_n hx hb dX11_run_0 rfl (lv_at hl 0 rfl) ?_
  refine lv_iload_n hx hb dX11_run_1 rfl (lv_at hl 2 rfl) ?_
  refine lv_iload_n hx hb dX11_run_2 rfl (lv_at hl 3 rfl) ?_
  refine lv_iload hx hb dX11_run_3 (lv_at hl 4 rfl) ?_
  obtain ⟨r1, S1, e1, h⟩ := obd2_ex h
  refine k_V (As := [.int x2, .int x3, .int x4]) (rest := []) (st1 := [.int r1]) C kx hK I hA (c_X11_refusesBag e1) ⟨Nat.le_of_ble_eq_true rfl, Nat.le_of_ble_eq_true rfl⟩ mv_X11_refusesBag lk_X11_234 0 11 (mw_0 (cI := cI) (ad := ad)) rfl rfl hl.1 rfl (Nat.le_of_ble_eq_true rfl) dX11_run_5 rfl (fun H locs I => ?_)
  refine lv_istore (lv' := [(6, .int r1), (0, .ref (ad 0)), (1, .int x1), (2, .int x2), (3, .int x3), (4, .int x4), (5, .int x5)]) hx hb dX11_run_8 hl (by decide) rfl (fun ls hl => ?_)
  refine lv_iload hx hb dX11_run_10 (lv_at hl 0 rfl) ?_
  refine lv_if_eq (tgt := 18) hx hb dX11_run_12 (by decide) (fun c2 => ?_) (fun c2 => ?_)
  · have h := ite_t c2 h
    refine lv_iload_n hx hb dX11_run_18 rfl (lv_at hl 2 rfl) ?_
    refine lv_i2l hx hb dX11_run_19 rfl ?_
    refine lv_lconst (v := (0)) hx hb dX11_run_20 (by decide) ?_
    refine lv_ldc2 (v := (65535)) hx hb C.2.2.2.1 (C.2.2.2.2 _ cn_X11_322) dX11_run_21 ?_
    obtain ⟨r3, S3, e3, h⟩ := obd2_ex h
    refine k_S (As := [.long (x1.toInt64), .long (0), .long (65535)]) (rest := []) (st1 := [.int r3]) C kx hK I hA (c_X11_in e3) ⟨Nat.le_of_ble_eq_true rfl, Nat.le_of_ble_eq_true rfl⟩ ms_X11_in lk_X11_55 rfl hl.1 rfl (Nat.le_of_ble_eq_true rfl) dX11_run_24 rfl (fun H locs I => ?_)
    refine lv_if_eq (tgt := 43) hx hb dX11_run_27 (by decide) (fun c4 => ?_) (fun c4 => ?_)
    · have h := ite_t c4 h
      refine lv_bipush (v := (-3)) hx hb dX11_run_43 (by decide) ?_
      exact rt_i hq h I dX11_run_45
    · have h := ite_n c4 h
      refine lv_iload hx hb dX11_run_30 (lv_at hl 6 rfl) ?_
      refine lv_i2l hx hb dX11_run_32 rfl ?_
      refine lv_lconst (v := (0)) hx hb dX11_run_33 (by decide) ?_
      refine lv_ldc2 (v := (3)) hx hb C.2.2.2.1 (C.2.2.2.2 _ cn_X11_154) dX11_run_34 ?_
      obtain ⟨r5, S5, e5, h⟩ := obd2_ex h
      refine k_S (As := [.long (x5.toInt64), .long (0), .long (3)]) (rest := []) (st1 := [.int r5]) C kx hK I hA (c_X11_in e5) ⟨Nat.le_of_ble_eq_true rfl, Nat.le_of_ble_eq_true rfl⟩ ms_X11_in lk_X11_55 rfl hl.1 rfl (Nat.le_of_ble_eq_true rfl) dX11_run_37 rfl (fun H locs I => ?_)
      refine lv_if_ne (tgt := 46) hx hb dX11_run_40 (by decide) (fun c6 => ?_) (fun c6 => ?_)
      · have h := ite_n c6 h
        refine lv_aload_n hx hb dX11_run_46 rfl (lv_at hl 1 rfl) ?_
        refine lv_iload_n hx hb dX11_run_47 rfl (lv_at hl 4 rfl) ?_
        refine lv_iload hx hb dX11_run_48 (lv_at hl 5 rfl) ?_
        obtain ⟨S7, e7, h⟩ := obd_ex h
        refine k_V (As := [.int x3, .int x4]) (rest := []) (st1 := []) C kx hK I hA (c_X11_layRow e7) ⟨Nat.le_of_ble_eq_true rfl, Nat.le_of_ble_eq_true rfl⟩ mv_X11_layRow lk_X11_241 0 11 (mw_0 (cI := cI) (ad := ad)) rfl rfl hl.1 rfl (Nat.le_of_ble_eq_true rfl) dX11_run_50 rfl (fun H locs I => ?_)
        refine lv_aload_n hx hb dX11_run_53 rfl (lv_at hl 1 rfl) ?_
        refine lv_iconst (v := 0) hx hb dX11_run_54 (by decide) ?_
        obtain ⟨S8, e8, h⟩ := obd_ex h
        refine k_V (As := [.int 0]) (rest := []) (st1 := []) C kx hK I hA (c_X11_layChosen e8) ⟨Nat.le_of_ble_eq_true rfl, Nat.le_of_ble_eq_true rfl⟩ mv_X11_layChosen lk_X11_224 0 11 (mw_0 (cI := cI) (ad := ad)) rfl rfl hl.1 rfl (Nat.le_of_ble_eq_true rfl) dX11_run_55 rfl (fun H locs I => ?_)
        refine lv_aload_n hx hb dX11_run_58 rfl (lv_at hl 1 rfl) ?_
        refine lv_iload_n hx hb dX11_run_59 rfl (lv_at hl 3 rfl) ?_
        refine lv_iload_n hx hb dX11_run_60 rfl (lv_at hl 2 rfl) ?_
        obtain ⟨S9, e9, h⟩ := obd_ex h
        refine k_V (As := [.int x2, .int x1]) (rest := []) (st1 := []) C kx hK I hA (c_X11_go e9) ⟨Nat.le_of_ble_eq_true rfl, Nat.le_of_ble_eq_true rfl⟩ mv_X11_go lk_X11_227 0 11 (mw_0 (cI := cI) (ad := ad)) rfl rfl hl.1 rfl (Nat.le_of_ble_eq_true rfl) dX11_run_61 rfl (fun H locs I => ?_)
        refine lv_iload hx hb dX11_run_64 (lv_at hl 6 rfl) ?_
        refine lv_if_ne (tgt := 80) hx hb dX11_run_66 (by decide) (fun c10 => ?_) (fun c10 => ?_)
        · have h := ite_n c10 h
          refine lv_iload hx hb dX11_run_80 (lv_at hl 6 rfl) ?_
          refine lv_iconst (v := 1) hx hb dX11_run_82 (by decide) ?_
          refine lv_icmp_ne (tgt := 93) hx hb dX11_run_83 (by decide) (fun c11 => ?_) (fun c11 => ?_)
          · have h := ite_n c11 h
            refine lv_iload hx hb dX11_run_93 (lv_at hl 6 rfl) ?_
            refine lv_iconst (v := 2) hx hb dX11_run_95 (by decide) ?_
            refine lv_icmp_ne (tgt := 106) hx hb dX11_run_96 (by decide) (fun c12 => ?_) (fun c12 => ?_)
            · have h := ite_n c12 h
              refine lv_aload_n hx hb dX11_run_106 rfl (lv_at hl 1 rfl) ?_
              refine gm_0_29 C hK I fl_X11_206 dX11_run_107 ?_
              exact rt_i hq h I dX11_run_110
            · have h := ite_t c12 h
              refine lv_aload_n hx hb dX11_run_99 rfl (lv_at hl 1 rfl) ?_
              refine gm_0_28 C hK I fl_X11_212 dX11_run_100 ?_
              refine lv_goto (tgt := 110) hx hb dX11_run_103 (by decide) ?_
              exact rt_i hq h I dX11_run_110
          · have h := ite_t c11 h
            refine lv_aload_n hx hb dX11_run_86 rfl (lv_at hl 1 rfl) ?_
            refine gm_0_27 C hK I fl_X11_203 dX11_run_87 ?_
            refine lv_goto (tgt := 110) hx hb dX11_run_90 (by decide) ?_
            exact rt_i hq h I dX11_run_110
        · have h := ite_t c10 h
          refine lv_aload_n hx hb dX11_run_69 rfl (lv_at hl 1 rfl) ?_
          refine gm_0_25 C hK I fl_X11_209 dX11_run_70 ?_
          refine lv_sipush (v := 1000) hx hb dX11_run_73 (by decide) ?_
          refine lv_iadd hx hb dX11_run_76 ?_
          refine lv_goto (tgt := 110) hx hb dX11_run_77 (by decide) ?_
          exact rt_i hq h I dX11_run_110
      · have h := ite_t c6 h
        refine lv_bipush (v := (-3)) hx hb dX11_run_43 (by decide) ?_
        exact rt_i hq h I dX11_run_45
  · have h := ite_n c2 h
    refine lv_iload hx hb dX11_run_15 (lv_at hl 0 rfl) ?_
    exact rt_i hq h I dX11_run_17
theorem dX11_count_0 : decode cX11_count 0 = .ok (.iconst 0, 1) := by decide +kernel
theorem dX11_count_1 : decode cX11_count 1 = .ok (.istore_n 2, 1) := by decide +kernel
theorem dX11_count_2 : decode cX11_count 2 = .ok (.iconst 0, 1) := by decide +kernel
theorem dX11_count_3 : decode cX11_count 3 = .ok (.istore_n 3, 1) := by decide +kernel
theorem dX11_count_4 : decode cX11_count 4 = .ok (.iload_n 3, 1) := by decide +kernel
theorem dX11_count_5 : decode cX11_count 5 = .ok (.bipush 6, 2) := by decide +kernel
theorem dX11_count_7 : decode cX11_count 7 = .ok (.if_icmp .ge 20, 3) := by decide +kernel
theorem dX11_count_10 : decode cX11_count 10 = .ok (.iload_n 2, 1) := by decide +kernel
theorem dX11_count_11 : decode cX11_count 11 = .ok (.aload_n 0, 1) := by decide +kernel
theorem dX11_count_12 : decode cX11_count 12 = .ok (.getfield 133, 3) := by decide +kernel
theorem dX11_count_15 : decode cX11_count 15 = .ok (.iload_n 3, 1) := by decide +kernel
theorem dX11_count_16 : decode cX11_count 16 = .ok (.ishr, 1) := by decide +kernel
theorem dX11_count_17 : decode cX11_count 17 = .ok (.iconst 1, 1) := by decide +kernel
theorem dX11_count_18 : decode cX11_count 18 = .ok (.iand, 1) := by decide +kernel
theorem dX11_count_19 : decode cX11_count 19 = .ok (.iadd, 1) := by decide +kernel
theorem dX11_count_20 : decode cX11_count 20 = .ok (.istore_n 2, 1) := by decide +kernel
theorem dX11_count_21 : decode cX11_count 21 = .ok (.iinc 3 1, 3) := by decide +kernel
theorem dX11_count_24 : decode cX11_count 24 = .ok (.goto (-20), 3) := by decide +kernel
theorem dX11_count_27 : decode cX11_count 27 = .ok (.iload_n 1, 1) := by decide +kernel
theorem dX11_count_28 : decode cX11_count 28 = .ok (.tableswitch 67 0 5 #[40, 42, 47, 52, 57, 62], 40) := by decide +kernel
theorem dX11_count_68 : decode cX11_count 68 = .ok (.iload_n 2, 1) := by decide +kernel
theorem dX11_count_69 : decode cX11_count 69 = .ok (.ireturn, 1) := by decide +kernel
theorem dX11_count_70 : decode cX11_count 70 = .ok (.aload_n 0, 1) := by decide +kernel
theorem dX11_count_71 : decode cX11_count 71 = .ok (.getfield 59, 3) := by decide +kernel
theorem dX11_count_74 : decode cX11_count 74 = .ok (.ireturn, 1) := by decide +kernel
theorem dX11_count_75 : decode cX11_count 75 = .ok (.aload_n 0, 1) := by decide +kernel
theorem dX11_count_76 : decode cX11_count 76 = .ok (.getfield 310, 3) := by decide +kernel
theorem dX11_count_79 : decode cX11_count 79 = .ok (.ireturn, 1) := by decide +kernel
theorem dX11_count_80 : decode cX11_count 80 = .ok (.aload_n 0, 1) := by decide +kernel
theorem dX11_count_81 : decode cX11_count 81 = .ok (.getfield 22, 3) := by decide +kernel
theorem dX11_count_84 : decode cX11_count 84 = .ok (.ireturn, 1) := by decide +kernel
theorem dX11_count_85 : decode cX11_count 85 = .ok (.aload_n 0, 1) := by decide +kernel
theorem dX11_count_86 : decode cX11_count 86 = .ok (.getfield 26, 3) := by decide +kernel
theorem dX11_count_89 : decode cX11_count 89 = .ok (.ireturn, 1) := by decide +kernel
theorem dX11_count_90 : decode cX11_count 90 = .ok (.aload_n 0, 1) := by decide +kernel
theorem dX11_count_91 : decode cX11_count 91 = .ok (.getfield 29, 3) := by decide +kernel
theorem dX11_count_94 : decode cX11_count 94 = .ok (.ireturn, 1) := by decide +kernel
theorem dX11_count_95 : decode cX11_count 95 = .ok (.bipush (-3), 2) := by decide +kernel
theorem dX11_count_97 : decode cX11_count 97 = .ok (.ireturn, 1) := by decide +kernel
def f_X11_count_4 (k_4 : St → Int32 → Int32 → Int32 → Option (Int32 × St)) (S : St) (x1 : Int32) (x2 : Int32) (x3 : Int32) : Option (Int32 × St) :=
  if 6 ≤ x3 then (
    if x1 = 0 then (
      some (x2, S)
    ) else (
      if x1 = 1 then (
        some ((S.1 0 1), S)
      ) else (
        if x1 = 2 then (
          some ((S.1 0 16), S)
        ) else (
          if x1 = 3 then (
            some ((S.1 0 7), S)
          ) else (
            if x1 = 4 then (
              some ((S.1 0 8), S)
            ) else (
              if x1 = 5 then (
                some ((S.1 0 9), S)
              ) else (
                some ((-3), S)
    ))))))
  ) else (
    bnd ((x2 + (((S.1 0 11) >>> (x3 &&& 31)) &&& 1)) : Int32) fun v8 =>
    bnd (x3 + 1 : Int32) fun v9 =>
    k_4 S x1 v8 v9
  )
def l_X11_count_4 : Nat → St → Int32 → Int32 → Int32 → Option (Int32 × St)
  | 0, _, _, _, _ => none
  | fu + 1, S, x1, x2, x3 => f_X11_count_4 (l_X11_count_4 fu) S x1 x2 x3
def f_X11_count (S : St) (x1 : Int32) : Option (Int32 × St) :=
  l_X11_count_4 FU S x1 0 0
set_option maxHeartbeats 4000000 in
set_option maxRecDepth 100000 in
theorem c_X11_count {l : Launch} {D : va_G} {cI cC cS : ClassId} {ad adK adV : Nat → Nat} {S S1 : St} {x1 : Int32} {r : Int32} (h : f_X11_count S x1 = some (r, S1)) : Kt l D (mw cI ad) (KX D (xtys cI cC cS) adK adV) yX11_count cX11_count 4 (some .int) (0) (0) [.ref (ad 0), .int x1] S (some (.int r)) S1 := by
  refine k_ent (ins := .ireturn) (st := [.int r]) (by decide +kernel) (Nat.le_of_ble_eq_true rfl) ret_i ?_
  intro p e s m args below meth c A Q C hK I hA hq ls hl
  have C : CallFix p m c cX11_count 4 s args TT RX11 := C
  have hx := C.1
  have hb := C.2.1
  have kx := kx_ok D (xtys cI cC cS) adK adV
  have hl : lv_has ls 4 [(0, .ref (ad 0)), (1, .int x1)] := hl
  have B_4 : ∀ (k_4 : St → Int32 → Int32 → Int32 → Option (Int32 × St)) (hk_4 : ∀ (S : St) (x1 : Int32) (x2 : Int32) (x3 : Int32), k_4 S x1 x2 x3 = some (r, S1) → ∀ (H : Heap) (locs : List Loc) (ls : Array Slot), Iv D (mw cI ad) S A s H locs → lv_has ls 4 [(0, .ref (ad 0)), (1, .int x1), (2, .int x2), (3, .int x3)] → W p l e ({ frames := 0, cells := 0, slots := 0, locals := 0 } : Room) s m args below meth c H locs 0 0 Q (F0 m 4 ls [])) (S : St) (x1 : Int32) (x2 : Int32) (x3 : Int32), f_X11_count_4 k_4 S x1 x2 x3 = some (r, S1) → ∀ (H : Heap) (locs : List Loc) (ls : Array Slot), Iv D (mw cI ad) S A s H locs → lv_has ls 4 [(0, .ref (ad 0)), (1, .int x1), (2, .int x2), (3, .int x3)] → W p l e ({ frames := 0, cells := 0, slots := 0, locals := 0 } : Room) s m args below meth c H locs 0 0 Q (F0 m 4 ls []) := by
    intro k_4 hk_4 S x1 x2 x3 h H locs ls I hl
    unfold f_X11_count_4 at h
    refine lv_iload_n hx hb dX11_count_4 rfl (lv_at hl 3 rfl) ?_
    refine lv_bipush (v := 6) hx hb dX11_count_5 (by decide) ?_
    refine lv_icmp_ge (tgt := 27) hx hb dX11_count_7 (by decide) (fun c1 => ?_) (fun c1 => ?_)
    · have h := ite_t c1 h
      refine lv_iload_n hx hb dX11_count_27 rfl (lv_at hl 1 rfl) ?_
      rcases Decidable.em (x1 = 0) with c2 | c2
      · have h := ite_t c2 h
        rw [c2]
        refine lv_tableIn (x := 0) (off := 40) (tgt := 68) hx hb dX11_count_28 (by decide) (by decide) (by decide) (by decide) ?_
        refine lv_iload_n hx hb dX11_count_68 rfl (lv_at hl 2 rfl) ?_
        exact rt_i hq h I dX11_count_69
      · have h := ite_n c2 h
        rcases Decidable.em (x1 = 1) with c3 | c3
        · have h := ite_t c3 h
          rw [c3]
          refine lv_tableIn (x := 1) (off := 42) (tgt := 70) hx hb dX11_count_28 (by decide) (by decide) (by decide) (by decide) ?_
          refine lv_aload_n hx hb dX11_count_70 rfl (lv_at hl 0 rfl) ?_
          refine gm_0_1 C hK I fl_X11_59 dX11_count_71 ?_
          exact rt_i hq h I dX11_count_74
        · have h := ite_n c3 h
          rcases Decidable.em (x1 = 2) with c4 | c4
          · have h := ite_t c4 h
            rw [c4]
            refine lv_tableIn (x := 2) (off := 47) (tgt := 75) hx hb dX11_count_28 (by decide) (by decide) (by decide) (by decide) ?_
            refine lv_aload_n hx hb dX11_count_75 rfl (lv_at hl 0 rfl) ?_
            refine gm_0_16 C hK I fl_X11_310 dX11_count_76 ?_
            exact rt_i hq h I dX11_count_79
          · have h := ite_n c4 h
            rcases Decidable.em (x1 = 3) with c5 | c5
            · have h := ite_t c5 h
              rw [c5]
              refine lv_tableIn (x := 3) (off := 52) (tgt := 80) hx hb dX11_count_28 (by decide) (by decide) (by decide) (by decide) ?_
              refine lv_aload_n hx hb dX11_count_80 rfl (lv_at hl 0 rfl) ?_
              refine gm_0_7 C hK I fl_X11_22 dX11_count_81 ?_
              exact rt_i hq h I dX11_count_84
            · have h := ite_n c5 h
              rcases Decidable.em (x1 = 4) with c6 | c6
              · have h := ite_t c6 h
                rw [c6]
                refine lv_tableIn (x := 4) (off := 57) (tgt := 85) hx hb dX11_count_28 (by decide) (by decide) (by decide) (by decide) ?_
                refine lv_aload_n hx hb dX11_count_85 rfl (lv_at hl 0 rfl) ?_
                refine gm_0_8 C hK I fl_X11_26 dX11_count_86 ?_
                exact rt_i hq h I dX11_count_89
              · have h := ite_n c6 h
                rcases Decidable.em (x1 = 5) with c7 | c7
                · have h := ite_t c7 h
                  rw [c7]
                  refine lv_tableIn (x := 5) (off := 62) (tgt := 90) hx hb dX11_count_28 (by decide) (by decide) (by decide) (by decide) ?_
                  refine lv_aload_n hx hb dX11_count_90 rfl (lv_at hl 0 rfl) ?_
                  refine gm_0_9 C hK I fl_X11_29 dX11_count_91 ?_
                  exact rt_i hq h I dX11_count_94
                · have h := ite_n c7 h
                  refine lv_tableOut (tgt := 95) hx hb dX11_count_28 (by have := lv_neT (k := 0) (a := 0) c2 (by decide); have := lv_neT (k := 1) (a := 1) c3 (by decide); have := lv_neT (k := 2) (a := 2) c4 (by decide); have := lv_neT (k := 3) (a := 3) c5 (by decide); have := lv_neT (k := 4) (a := 4) c6 (by decide); have := lv_neT (k := 5) (a := 5) c7 (by decide); omega) (by decide) ?_
                  refine lv_bipush (v := (-3)) hx hb dX11_count_95 (by decide) ?_
                  exact rt_i hq h I dX11_count_97
    · have h := ite_n c1 h
      refine lv_iload_n hx hb dX11_count_10 rfl (lv_at hl 2 rfl) ?_
      refine lv_aload_n hx hb dX11_count_11 rfl (lv_at hl 0 rfl) ?_
      refine gm_0_11 C hK I fl_X11_133 dX11_count_12 ?_
      refine lv_iload_n hx hb dX11_count_15 rfl (lv_at hl 3 rfl) ?_
      refine lv_ishr hx hb dX11_count_16 ?_
      refine lv_iconst (v := 1) hx hb dX11_count_17 (by decide) ?_
      refine lv_iand hx hb dX11_count_18 ?_
      refine lv_iadd hx hb dX11_count_19 ?_
      refine lv_topi (fun v8 ev8 => ?_)
      have h := bnd_at ev8 h
      clear ev8
      refine lv_istore_n (lv' := [(2, .int v8), (0, .ref (ad 0)), (1, .int x1), (3, .int x3)]) hx hb dX11_count_20 rfl hl (by decide) rfl (fun ls hl => ?_)
      obtain ⟨v9, ev9⟩ : ∃ y : Int32, y = x3 + 1 := ⟨_, rfl⟩
      have h := bnd_at ev9 h
      refine lv_iinc (v := v9) (lv' := [(3, .int v9), (2, .int v8), (0, .ref (ad 0)), (1, .int x1)]) hx hb dX11_count_21 hl (k := 3) rfl (by rw [ev9]; rfl) (by decide) rfl (fun ls hl => ?_)
      clear ev9
      refine lv_goto (tgt := 4) hx hb dX11_count_24 (by decide) ?_
      exact hk_4 _ _ _ _ h _ _ _ I (lv_sub hl [2, 3, 1, 0] rfl)
  have J_4 : ∀ (fu : Nat) (S : St) (x1 : Int32) (x2 : Int32) (x3 : Int32), l_X11_count_4  fu S x1 x2 x3 = some (r, S1) → ∀ (H : Heap) (locs : List Loc) (ls : Array Slot), Iv D (mw cI ad) S A s H locs → lv_has ls 4 [(0, .ref (ad 0)), (1, .int x1), (2, .int x2), (3, .int x3)] → W p l e ({ frames := 0, cells := 0, slots := 0, locals := 0 } : Room) s m args below meth c H locs 0 0 Q (F0 m 4 ls []) := by
    intro fu
    induction fu with
    | zero => intro S x1 x2 x3 h; cases h
    | succ fu ih => intro S x1 x2 x3 h; exact B_4 (l_X11_count_4 fu) ih S x1 x2 x3 h
  unfold f_X11_count at h
  refine lv_iconst (v := 0) hx hb dX11_count_0 (by decide) ?_
  refine lv_istore_n (lv' := [(2, .int 0), (0, .ref (ad 0)), (1, .int x1)]) hx hb dX11_count_1 rfl hl (by decide) rfl (fun ls hl => ?_)
  refine lv_iconst (v := 0) hx hb dX11_count_2 (by decide) ?_
  refine lv_istore_n (lv' := [(3, .int 0), (2, .int 0), (0, .ref (ad 0)), (1, .int x1)]) hx hb dX11_count_3 rfl hl (by decide) rfl (fun ls hl => ?_)
  exact J_4 _ _ _ _ _ h _ _ _ I (lv_sub hl [2, 3, 1, 0] rfl)
