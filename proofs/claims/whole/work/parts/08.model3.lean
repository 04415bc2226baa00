theorem dX11_doneOf_0 : decode cX11_doneOf 0 = .ok (.lconst 0, 1) := by decide +kernel
theorem dX11_doneOf_1 : decode cX11_doneOf 1 = .ok (.lstore_n 2, 1) := by decide +kernel
theorem dX11_doneOf_2 : decode cX11_doneOf 2 = .ok (.iconst 0, 1) := by decide +kernel
theorem dX11_doneOf_3 : decode cX11_doneOf 3 = .ok (.istore 4, 2) := by decide +kernel
theorem dX11_doneOf_5 : decode cX11_doneOf 5 = .ok (.iload 4, 2) := by decide +kernel
theorem dX11_doneOf_7 : decode cX11_doneOf 7 = .ok (.aload_n 0, 1) := by decide +kernel
theorem dX11_doneOf_8 : decode cX11_doneOf 8 = .ok (.getfield 194, 3) := by decide +kernel
theorem dX11_doneOf_11 : decode cX11_doneOf 11 = .ok (.if_icmp .ge 39, 3) := by decide +kernel
theorem dX11_doneOf_14 : decode cX11_doneOf 14 = .ok (.aload_n 0, 1) := by decide +kernel
theorem dX11_doneOf_15 : decode cX11_doneOf 15 = .ok (.iload 4, 2) := by decide +kernel
theorem dX11_doneOf_17 : decode cX11_doneOf 17 = .ok (.invokevirtual 224, 3) := by decide +kernel
theorem dX11_doneOf_20 : decode cX11_doneOf 20 = .ok (.aload_n 0, 1) := by decide +kernel
theorem dX11_doneOf_21 : decode cX11_doneOf 21 = .ok (.iload_n 1, 1) := by decide +kernel
theorem dX11_doneOf_22 : decode cX11_doneOf 22 = .ok (.iconst (-1), 1) := by decide +kernel
theorem dX11_doneOf_23 : decode cX11_doneOf 23 = .ok (.invokevirtual 227, 3) := by decide +kernel
theorem dX11_doneOf_26 : decode cX11_doneOf 26 = .ok (.lload_n 2, 1) := by decide +kernel
theorem dX11_doneOf_27 : decode cX11_doneOf 27 = .ok (.aload_n 0, 1) := by decide +kernel
theorem dX11_doneOf_28 : decode cX11_doneOf 28 = .ok (.getfield 215, 3) := by decide +kernel
theorem dX11_doneOf_31 : decode cX11_doneOf 31 = .ok (.ifCond .eq 10, 3) := by decide +kernel
theorem dX11_doneOf_34 : decode cX11_doneOf 34 = .ok (.aload_n 0, 1) := by decide +kernel
theorem dX11_doneOf_35 : decode cX11_doneOf 35 = .ok (.getfield 201, 3) := by decide +kernel
theorem dX11_doneOf_38 : decode cX11_doneOf 38 = .ok (.goto 4, 3) := by decide +kernel
theorem dX11_doneOf_41 : decode cX11_doneOf 41 = .ok (.lconst 0, 1) := by decide +kernel
theorem dX11_doneOf_42 : decode cX11_doneOf 42 = .ok (.ladd, 1) := by decide +kernel
theorem dX11_doneOf_43 : decode cX11_doneOf 43 = .ok (.lstore_n 2, 1) := by decide +kernel
theorem dX11_doneOf_44 : decode cX11_doneOf 44 = .ok (.iinc 4 1, 3) := by decide +kernel
theorem dX11_doneOf_47 : decode cX11_doneOf 47 = .ok (.goto (-42), 3) := by decide +kernel
theorem dX11_doneOf_50 : decode cX11_doneOf 50 = .ok (.lload_n 2, 1) := by decide +kernel
theorem dX11_doneOf_51 : decode cX11_doneOf 51 = .ok (.lreturn, 1) := by decide +kernel
def f_X11_doneOf_42 (k_5 : St → Int32 → Int64 → Int32 → Option (Int64 × St)) (S : St) (x1 : Int32) (x4 : Int32) (t0 : Int64) (t1 : Int64) : Option (Int64 × St) :=
  bnd ((t0 + t1) : Int64) fun v1 =>
  bnd (x4 + 1 : Int32) fun v2 =>
  k_5 S x1 v1 v2
def f_X11_doneOf_5 (k_5 : St → Int32 → Int64 → Int32 → Option (Int64 × St)) (S : St) (x1 : Int32) (x2 : Int64) (x4 : Int32) : Option (Int64 × St) :=
  if (S.1 0 22) ≤ x4 then (
    some (x2, S)
  ) else (
    obd (f_X11_layChosen S x4) fun S4 =>
    obd (f_X11_go S4 x1 (-1)) fun S5 =>
    if (S5.1 0 26) = 0 then (
      f_X11_doneOf_42 k_5 S5 x1 x4 x2 (0)
    ) else (
      f_X11_doneOf_42 k_5 S5 x1 x4 x2 (S5.2.1 0 24)
    )
  )
def l_X11_doneOf_5 : Nat → St → Int32 → Int64 → Int32 → Option (Int64 × St)
  | 0, _, _, _, _ => none
  | fu + 1, S, x1, x2, x4 => f_X11_doneOf_5 (l_X11_doneOf_5 fu) S x1 x2 x4
def f_X11_doneOf (S : St) (x1 : Int32) : Option (Int64 × St) :=
  l_X11_doneOf_5 FU S x1 (0) 0
set_option maxHeartbeats 4000000 in
set_option maxRecDepth 100000 in
theorem c_X11_doneOf {l : Launch} {D : va_G} {cI cC cS : ClassId} {ad adK adV : Nat → Nat} {S S1 : St} {x1 : Int32} {r : Int64} (h : f_X11_doneOf S x1 = some (r, S1)) : Kt l D (mw cI ad) (KX D (xtys cI cC cS) adK adV) yX11_doneOf cX11_doneOf 5 (some .long) (3) (81) [.ref (ad 0), .int x1] S (some (.long r)) S1 := by
  refine k_ent (ins := .lreturn) (st := [.long r]) (by decide +kernel) (Nat.le_of_ble_eq_true rfl) ret_l ?_
  intro p e s m args below meth c A Q C hK I hA hq ls hl
  have C : CallFix p m c cX11_doneOf 5 s args TT RX11 := C
  have hx := C.1
  have hb := C.2.1
  have kx := kx_ok D (xtys cI cC cS) adK adV
  have hl : lv_has ls 5 [(0, .ref (ad 0)), (1, .int x1)] := hl
  have J_42 : ∀ (k_5 : St → Int32 → Int64 → Int32 → Option (Int64 × St)) (hk_5 : ∀ (S : St) (x1 : Int32) (x2 : Int64) (x4 : Int32), k_5 S x1 x2 x4 = some (r, S1) → ∀ (H : Heap) (locs : List Loc) (ls : Array Slot), Iv D (mw cI ad) S A s H locs → lv_has ls 5 [(0, .ref (ad 0)), (1, .int x1), (2, .long x2), (4, .int x4)] → W p l e ({ frames := 3, cells := 0, slots := 0, locals := 81 } : Room) s m args below meth c H locs 0 0 Q (F0 m 5 ls [])) (S : St) (x1 : Int32) (x4 : Int32) (t0 : Int64) (t1 : Int64), f_X11_doneOf_42 k_5 S x1 x4 t0 t1 = some (r, S1) → ∀ (H : Heap) (locs : List Loc) (ls : Array Slot), Iv D (mw cI ad) S A s H locs → lv_has ls 5 [(0, .ref (ad 0)), (1, .int x1), (4, .int x4)] → W p l e ({ frames := 3, cells := 0, slots := 0, locals := 81 } : Room) s m args below meth c H locs 0 0 Q (F0 m 42 ls [.long t1, .long t0]) := by
    intro k_5 hk_5 S x1 x4 t0 t1 h H locs ls I hl
    unfold f_X11_doneOf_42 at h
    refine lv_ladd hx hb dX11_doneOf_42 ?_
    refine lv_topl (fun v1 ev1 => ?_)
    have h := bnd_at ev1 h
    clear ev1
    refine lv_lstore_n (lv' := [(2, .long v1), (0, .ref (ad 0)), (1, .int x1), (4, .int x4)]) hx hb dX11_doneOf_43 rfl hl (by decide) rfl (fun ls hl => ?_)
    obtain ⟨v2, ev2⟩ : ∃ y : Int32, y = x4 + 1 := ⟨_, rfl⟩
    have h := bnd_at ev2 h
    refine lv_iinc (v := v2) (lv' := [(4, .int v2), (2, .long v1), (0, .ref (ad 0)), (1, .int x1)]) hx hb dX11_doneOf_44 hl (k := 3) rfl (by rw [ev2]; rfl) (by decide) rfl (fun ls hl => ?_)
    clear ev2
    refine lv_goto (tgt := 5) hx hb dX11_doneOf_47 (by decide) ?_
    exact hk_5 _ _ _ _ h _ _ _ I (lv_sub hl [2, 3, 1, 0] rfl)
  have B_5 : ∀ (k_5 : St → Int32 → Int64 → Int32 → Option (Int64 × St)) (hk_5 : ∀ (S : St) (x1 : Int32) (x2 : Int64) (x4 : Int32), k_5 S x1 x2 x4 = some (r, S1) → ∀ (H : Heap) (locs : List Loc) (ls : Array Slot), Iv D (mw cI ad) S A s H locs → lv_has ls 5 [(0, .ref (ad 0)), (1, .int x1), (2, .long x2), (4, .int x4)] → W p l e ({ frames := 3, cells := 0, slots := 0, locals := 81 } : Room) s m args below meth c H locs 0 0 Q (F0 m 5 ls [])) (S : St) (x1 : Int32) (x2 : Int64) (x4 : Int32), f_X11_doneOf_5 k_5 S x1 x2 x4 = some (r, S1) → ∀ (H : Heap) (locs : List Loc) (ls : Array Slot), Iv D (mw cI ad) S A s H locs → lv_has ls 5 [(0, .ref (ad 0)), (1, .int x1), (2, .long x2), (4, .int x4)] → W p l e ({ frames := 3, cells := 0, slots := 0, locals := 81 } : Room) s m args below meth c H locs 0 0 Q (F0 m 5 ls []) := by
    intro k_5 hk_5 S x1 x2 x4 h H locs ls I hl
    unfold f_X11_doneOf_5 at h
    refine lv_iload hx hb dX11_doneOf_5 (lv_at hl 3 rfl) ?_
    refine lv_aload_n hx hb dX11_doneOf_7 rfl (lv_at hl 0 rfl) ?_
    refine gm_0_22 C hK I fl_X11_194 dX11_doneOf_8 ?_
    refine lv_icmp_ge (tgt := 50) hx hb dX11_doneOf_11 (by decide) (fun c3 => ?_) (fun c3 => ?_)
    · have h := ite_t c3 h
      refine lv_lload_n hx hb dX11_doneOf_50 rfl (lv_at hl 2 rfl) ?_
      exact rt_l hq h I dX11_doneOf_51
    · have h := ite_n c3 h
      refine lv_aload_n hx hb dX11_doneOf_14 rfl (lv_at hl 0 rfl) ?_
      refine lv_iload hx hb dX11_doneOf_15 (lv_at hl 3 rfl) ?_
      obtain ⟨S4, e4, h⟩ := obd_ex h
      refine k_V (As := [.int x4]) (rest := []) (st1 := []) C kx hK I hA (c_X11_layChosen e4) ⟨Nat.le_of_ble_eq_true rfl, Nat.le_of_ble_eq_true rfl⟩ mv_X11_layChosen lk_X11_224 0 11 (mw_0 (cI := cI) (ad := ad)) rfl rfl hl.1 rfl (Nat.le_of_ble_eq_true rfl) dX11_doneOf_17 rfl (fun H locs I => ?_)
      refine lv_aload_n hx hb dX11_doneOf_20 rfl (lv_at hl 0 rfl) ?_
      refine lv_iload_n hx hb dX11_doneOf_21 rfl (lv_at hl 1 rfl) ?_
      refine lv_iconst (v := (-1)) hx hb dX11_doneOf_22 (by decide) ?_
      obtain ⟨S5, e5, h⟩ := obd_ex h
      refine k_V (As := [.int x1, .int (-1)]) (rest := []) (st1 := []) C kx hK I hA (c_X11_go e5) ⟨Nat.le_of_ble_eq_true rfl, Nat.le_of_ble_eq_true rfl⟩ mv_X11_go lk_X11_227 0 11 (mw_0 (cI := cI) (ad := ad)) rfl rfl hl.1 rfl (Nat.le_of_ble_eq_true rfl) dX11_doneOf_23 rfl (fun H locs I => ?_)
      refine lv_lload_n hx hb dX11_doneOf_26 rfl (lv_at hl 2 rfl) ?_
      refine lv_aload_n hx hb dX11_doneOf_27 rfl (lv_at hl 0 rfl) ?_
      refine gm_0_26 C hK I fl_X11_215 dX11_doneOf_28 ?_
      refine lv_if_eq (tgt := 41) hx hb dX11_doneOf_31 (by decide) (fun c6 => ?_) (fun c6 => ?_)
      · have h := ite_t c6 h
        refine lv_lconst (v := (0)) hx hb dX11_doneOf_41 (by decide) ?_
        exact J_42 k_5 hk_5 _ _ _ _ _ h _ _ _ I (lv_sub hl [0, 1, 3] rfl)
      · have h := ite_n c6 h
        refine lv_aload_n hx hb dX11_doneOf_34 rfl (lv_at hl 0 rfl) ?_
        refine gm_0_24 C hK I fl_X11_201 dX11_doneOf_35 ?_
        refine lv_goto (tgt := 42) hx hb dX11_doneOf_38 (by decide) ?_
        exact J_42 k_5 hk_5 _ _ _ _ _ h _ _ _ I (lv_sub hl [0, 1, 3] rfl)
  have J_5 : ∀ (fu : Nat) (S : St) (x1 : Int32) (x2 : Int64) (x4 : Int32), l_X11_doneOf_5  fu S x1 x2 x4 = some (r, S1) → ∀ (H : Heap) (locs : List Loc) (ls : Array Slot), Iv D (mw cI ad) S A s H locs → lv_has ls 5 [(0, .ref (ad 0)), (1, .int x1), (2, .long x2), (4, .int x4)] → W p l e ({ frames := 3, cells := 0, slots := 0, locals := 81 } : Room) s m args below meth c H locs 0 0 Q (F0 m 5 ls []) := by
    intro fu
    induction fu with
    | zero => intro S x1 x2 x4 h; cases h
    | succ fu ih => intro S x1 x2 x4 h; exact B_5 (l_X11_doneOf_5 fu) ih S x1 x2 x4 h
  unfold f_X11_doneOf at h
  refine lv_lconst (v := (0)) hx hb dX11_doneOf_0 (by decide) ?_
  refine lv_lstore_n (lv' := [(2, .long (0)), (0, .ref (ad 0)), (1, .int x1)]) hx hb dX11_doneOf_1 rfl hl (by decide) rfl (fun ls hl => ?_)
  refine lv_iconst (v := 0) hx hb dX11_doneOf_2 (by decide) ?_
  refine lv_istore (lv' := [(4, .int 0), (2, .long (0)), (0, .ref (ad 0)), (1, .int x1)]) hx hb dX11_doneOf_3 hl (by decide) rfl (fun ls hl => ?_)
  exact J_5 _ _ _ _ _ h _ _ _ I (lv_sub hl [2, 3, 1, 0] rfl)
theorem lk_X11_231 : Cond.methodLink RX11 231 yX11_refuses ∈ TT := tt_of 1367 (by decide +kernel) rfl
theorem mv_X11_refuses : MV yX11_refuses cX11_refuses 7 (some .int) 2 := ⟨tt_of 1370 (by decide +kernel) rfl, tt_of 1369 (by decide +kernel) rfl, tt_of 41 (by decide +kernel) rfl, tt_of 76 (by decide +kernel) rfl, ⟨by decide +kernel, by decide +kernel, by decide +kernel⟩⟩
theorem dX11_refusesBag_0 : decode cX11_refusesBag 0 = .ok (.aload_n 0, 1) := by decide +kernel
theorem dX11_refusesBag_1 : decode cX11_refusesBag 1 = .ok (.iload_n 2, 1) := by decide +kernel
theorem dX11_refusesBag_2 : decode cX11_refusesBag 2 = .ok (.iload_n 3, 1) := by decide +kernel
theorem dX11_refusesBag_3 : decode cX11_refusesBag 3 = .ok (.invokevirtual 231, 3) := by decide +kernel
theorem dX11_refusesBag_6 : decode cX11_refusesBag 6 = .ok (.istore 4, 2) := by decide +kernel
theorem dX11_refusesBag_8 : decode cX11_refusesBag 8 = .ok (.iload 4, 2) := by decide +kernel
theorem dX11_refusesBag_10 : decode cX11_refusesBag 10 = .ok (.ifCond .ne 10, 3) := by decide +kernel
theorem dX11_refusesBag_13 : decode cX11_refusesBag 13 = .ok (.iload_n 1, 1) := by decide +kernel
theorem dX11_refusesBag_14 : decode cX11_refusesBag 14 = .ok (.invokestatic 159, 3) := by decide +kernel
theorem dX11_refusesBag_17 : decode cX11_refusesBag 17 = .ok (.ifCond .eq 8, 3) := by decide +kernel
theorem dX11_refusesBag_20 : decode cX11_refusesBag 20 = .ok (.iload 4, 2) := by decide +kernel
theorem dX11_refusesBag_22 : decode cX11_refusesBag 22 = .ok (.goto 5, 3) := by decide +kernel
theorem dX11_refusesBag_25 : decode cX11_refusesBag 25 = .ok (.bipush (-3), 2) := by decide +kernel
theorem dX11_refusesBag_27 : decode cX11_refusesBag 27 = .ok (.ireturn, 1) := by decide +kernel
def f_X11_refusesBag_20 (S : St) (x4 : Int32) : Option (Int32 × St) :=
  some (x4, S)
def f_X11_refusesBag (S : St) (x1 : Int32) (x2 : Int32) (x3 : Int32) : Option (Int32 × St) :=
  obd2 (f_X11_refuses S x2 x3) fun r1 S1 =>
  if r1 = 0 then (
    obd2 (f_X11_isBag S1 x1) fun r3 S3 =>
    if r3 = 0 then (
      some ((-3), S3)
    ) else (
      f_X11_refusesBag_20 S3 r1
    )
  ) else (
    f_X11_refusesBag_20 S1 r1
  )
set_option maxHeartbeats 4000000 in
set_option maxRecDepth 100000 in
theorem c_X11_refusesBag {l : Launch} {D : va_G} {cI cC cS : ClassId} {ad adK adV : Nat → Nat} {S S1 : St} {x1 : Int32} {x2 : Int32} {x3 : Int32} {r : Int32} (h : f_X11_refusesBag S x1 x2 x3 = some (r, S1)) : Kt l D (mw cI ad) (KX D (xtys cI cC cS) adK adV) yX11_refusesBag cX11_refusesBag 5 (some .int) (4) (93) [.ref (ad 0), .int x1, .int x2, .int x3] S (some (.int r)) S1 := by
  refine k_ent (ins := .ireturn) (st := [.int r]) (by decide +kernel) (Nat.le_of_ble_eq_true rfl) ret_i ?_
  intro p e s m args below meth c A Q C hK I hA hq ls hl
  have C : CallFix p m c cX11_refusesBag 5 s args TT RX11 := C
  have hx := C.1
  have hb := C.2.1
  have kx := kx_ok D (xtys cI cC cS) adK adV
  have hl : lv_has ls 5 [(0, .ref (ad 0)), (1, .int x1), (2, .int x2), (3, .int x3)] := hl
  have J_20 : ∀ (S : St) (x4 : Int32), f_X11_refusesBag_20  S x4 = some (r, S1) → ∀ (H : Heap) (locs : List Loc) (ls : Array Slot), Iv D (mw cI ad) S A s H locs → lv_has ls 5 [(4, .int x4)] → W p l e ({ frames := 4, cells := 0, slots := 0, locals := 93 } : Room) s m args below meth c H locs 0 0 Q (F0 m 20 ls []) := by
    intro  S x4 h H locs ls I hl
    unfold f_X11_refusesBag_20 at h
    refine lv_iload hx hb dX11_refusesBag_20 (lv_at hl 0 rfl) ?_
    refine lv_goto (tgt := 27) hx hb dX11_refusesBag_22 (by decide) ?_
    exact rt_i hq h I dX11_refusesBag_27
  unfold f_X11_refusesBag at h
  refine lv_aload_n hx hb dX11_refusesBag_0 rfl (lv_at hl 0 rfl) ?_
  refine lv_iload_n hx hb dX11_refusesBag_1 rfl (lv_at hl 2 rfl) ?_
  refine lv_iload_n hx hb dX11_refusesBag_2 rfl (lv_at hl 3 rfl) ?_
  obtain ⟨r1, S1, e1, h⟩ := obd2_ex h
  refine k_V (As := [.int x2, .int x3]) (rest := []) (st1 := [.int r1]) C kx hK I hA (c_X11_refuses e1) ⟨Nat.le_of_ble_eq_true rfl, Nat.le_of_ble_eq_true rfl⟩ mv_X11_refuses lk_X11_231 0 11 (mw_0 (cI := cI) (ad := ad)) rfl rfl hl.1 rfl (Nat.le_of_ble_eq_true rfl) dX11_refusesBag_3 rfl (fun H locs I => ?_)
  refine lv_istore (lv' := [(4, .int r1), (0, .ref (ad 0)), (1, .int x1), (2, .int x2), (3, .int x3)]) hx hb dX11_refusesBag_6 hl (by decide) rfl (fun ls hl => ?_)
  refine lv_iload hx hb dX11_refusesBag_8 (lv_at hl 0 rfl) ?_
  refine lv_if_ne (tgt := 20) hx hb dX11_refusesBag_10 (by decide) (fun c2 => ?_) (fun c2 => ?_)
  · have h := ite_n c2 h
    exact J_20 _ _ h _ _ _ I (lv_sub hl [0] rfl)
  · have h := ite_t c2 h
    refine lv_iload_n hx hb dX11_refusesBag_13 rfl (lv_at hl 2 rfl) ?_
    obtain ⟨r3, S3, e3, h⟩ := obd2_ex h
    refine k_S (As := [.int x1]) (rest := []) (st1 := [.int r3]) C kx hK I hA (c_X11_isBag e3) ⟨Nat.le_of_ble_eq_true rfl, Nat.le_of_ble_eq_true rfl⟩ ms_X11_isBag lk_X11_159 rfl hl.1 rfl (Nat.le_of_ble_eq_true rfl) dX11_refusesBag_14 rfl (fun H locs I => ?_)
    refine lv_if_eq (tgt := 25) hx hb dX11_refusesBag_17 (by decide) (fun c4 => ?_) (fun c4 => ?_)
    · have h := ite_t c4 h
      refine lv_bipush (v := (-3)) hx hb dX11_refusesBag_25 (by decide) ?_
      exact rt_i hq h I dX11_refusesBag_27
    · have h := ite_n c4 h
      exact J_20 _ _ h _ _ _ I (lv_sub hl [0] rfl)
theorem cn_X11_239 : Cond.constantLong RX11 239 ((-8999999999999999997)) ∈ TT := tt_of 1373 (by decide +kernel) rfl
theorem cn_X11_237 : Cond.constantLong RX11 237 ((-8999999999999999998)) ∈ TT := tt_of 1372 (by decide +kernel) rfl
theorem lk_X11_234 : Cond.methodLink RX11 234 yX11_refusesBag ∈ TT := tt_of 1363 (by decide +kernel) rfl
theorem mv_X11_refusesBag : MV yX11_refusesBag cX11_refusesBag 5 (some .int) 3 := ⟨tt_of 1366 (by decide +kernel) rfl, tt_of 1365 (by decide +kernel) rfl, tt_of 40 (by decide +kernel) rfl, tt_of 76 (by decide +kernel) rfl, ⟨by decide +kernel, by decide +kernel, by decide +kernel⟩⟩
theorem lk_X11_241 : Cond.methodLink RX11 241 yX11_layRow ∈ TT := tt_of 1374 (by decide +kernel) rfl
theorem mv_X11_layRow : MV yX11_layRow cX11_layRow 5 none 2 := ⟨tt_of 1377 (by decide +kernel) rfl, tt_of 1376 (by decide +kernel) rfl, tt_of 42 (by decide +kernel) rfl, tt_of 76 (by decide +kernel) rfl, ⟨by decide +kernel, by decide +kernel, by decide +kernel⟩⟩
theorem lk_X11_244 : Cond.methodLink RX11 244 yX11_meanOf ∈ TT := tt_of 1378 (by decide +kernel) rfl
theorem mv_X11_meanOf : MV yX11_meanOf cX11_meanOf 7 (some .long) 3 := ⟨tt_of 1381 (by decide +kernel) rfl, tt_of 1380 (by decide +kernel) rfl, tt_of 43 (by decide +kernel) rfl, tt_of 76 (by decide +kernel) rfl, ⟨by decide +kernel, by decide +kernel, by decide +kernel⟩⟩
theorem dX11_mean_0 : decode cX11_mean 0 = .ok (.aload_n 0, 1) := by decide +kernel
theorem dX11_mean_1 : decode cX11_mean 1 = .ok (.iload_n 1, 1) := by decide +kernel
theorem dX11_mean_2 : decode cX11_mean 2 = .ok (.iload_n 2, 1) := by decide +kernel
theorem dX11_mean_3 : decode cX11_mean 3 = .ok (.iload_n 3, 1) := by decide +kernel
theorem dX11_mean_4 : decode cX11_mean 4 = .ok (.invokevirtual 234, 3) := by decide +kernel
theorem dX11_mean_7 : decode cX11_mean 7 = .ok (.istore 5, 2) := by decide +kernel
theorem dX11_mean_9 : decode cX11_mean 9 = .ok (.iload 5, 2) := by decide +kernel
theorem dX11_mean_11 : decode cX11_mean 11 = .ok (.ifCond .ne 11, 3) := by decide +kernel
theorem dX11_mean_14 : decode cX11_mean 14 = .ok (.iload 4, 2) := by decide +kernel
theorem dX11_mean_16 : decode cX11_mean 16 = .ok (.invokestatic 179, 3) := by decide +kernel
theorem dX11_mean_19 : decode cX11_mean 19 = .ok (.ifCond .ne 20, 3) := by decide +kernel
theorem dX11_mean_22 : decode cX11_mean 22 = .ok (.iload 5, 2) := by decide +kernel
theorem dX11_mean_24 : decode cX11_mean 24 = .ok (.bipush (-2), 2) := by decide +kernel
theorem dX11_mean_26 : decode cX11_mean 26 = .ok (.if_icmp .ne 9, 3) := by decide +kernel
theorem dX11_mean_29 : decode cX11_mean 29 = .ok (.ldc2_w 237, 3) := by decide +kernel
theorem dX11_mean_32 : decode cX11_mean 32 = .ok (.goto 6, 3) := by decide +kernel
theorem dX11_mean_35 : decode cX11_mean 35 = .ok (.ldc2_w 239, 3) := by decide +kernel
theorem dX11_mean_38 : decode cX11_mean 38 = .ok (.lreturn, 1) := by decide +kernel
theorem dX11_mean_39 : decode cX11_mean 39 = .ok (.aload_n 0, 1) := by decide +kernel
theorem dX11_mean_40 : decode cX11_mean 40 = .ok (.iload_n 2, 1) := by decide +kernel
theorem dX11_mean_41 : decode cX11_mean 41 = .ok (.iload_n 3, 1) := by decide +kernel
theorem dX11_mean_42 : decode cX11_mean 42 = .ok (.invokevirtual 241, 3) := by decide +kernel
theorem dX11_mean_45 : decode cX11_mean 45 = .ok (.aload_n 0, 1) := by decide +kernel
theorem dX11_mean_46 : decode cX11_mean 46 = .ok (.iload_n 1, 1) := by decide +kernel
theorem dX11_mean_47 : decode cX11_mean 47 = .ok (.iconst (-1), 1) := by decide +kernel
theorem dX11_mean_48 : decode cX11_mean 48 = .ok (.iconst 0, 1) := by decide +kernel
theorem dX11_mean_49 : decode cX11_mean 49 = .ok (.invokevirtual 244, 3) := by decide +kernel
theorem dX11_mean_52 : decode cX11_mean 52 = .ok (.aload_n 0, 1) := by decide +kernel
theorem dX11_mean_53 : decode cX11_mean 53 = .ok (.getfield 197, 3) := by decide +kernel
theorem dX11_mean_56 : decode cX11_mean 56 = .ok (.iload 4, 2) := by decide +kernel
theorem dX11_mean_58 : decode cX11_mean 58 = .ok (.invokestatic 185, 3) := by decide +kernel
theorem dX11_mean_61 : decode cX11_mean 61 = .ok (.lreturn, 1) := by decide +kernel
def f_X11_mean_22 (S : St) (x5 : Int32) : Option (Int64 × St) :=
  if x5 = (-2) then (
    some ((-8999999999999999998), S)
  ) else (
    some ((-8999999999999999997), S)
  )
def f_X11_mean (S : St) (x1 : Int32) (x2 : Int32) (x3 : Int32) (x4 : Int32) : Option (Int64 × St) :=
  obd2 (f_X11_refusesBag S x1 x2 x3) fun r2 S2 =>
  if r2 = 0 then (
    obd2 (f_X11_isPart S2 x4) fun r4 S4 =>
    if r4 = 0 then (
      f_X11_mean_22 S4 r2
    ) else (
      obd (f_X11_layRow S4 x2 x3) fun S6 =>
      obd2 (f_X11_meanOf S6 x1 (-1) 0) fun r7 S7 =>
      obd2 (f_X11_lowest S7 r7 (S7.2.1 0 23) x4) fun r8 S8 =>
      some (r8, S8)
    )
  ) else (
    f_X11_mean_22 S2 r2
  )
set_option maxHeartbeats 4000000 in
set_option maxRecDepth 100000 in
theorem c_X11_mean {l : Launch} {D : va_G} {cI cC cS : ClassId} {ad adK adV : Nat → Nat} {S S1 : St} {x1 : Int32} {x2 : Int32} {x3 : Int32} {x4 : Int32} {r : Int64} (h : f_X11_mean S x1 x2 x3 x4 = some (r, S1)) : Kt l D (mw cI ad) (KX D (xtys cI cC cS) adK adV) yX11_mean cX11_mean 6 (some .long) (5) (117) [.ref (ad 0), .int x1, .int x2, .int x3, .int x4] S (some (.long r)) S1 := by
  refine k_ent (ins := .lreturn) (st := [.long r]) (by decide +kernel) (Nat.le_of_ble_eq_true rfl) ret_l ?_
  intro p e s m args below meth c A Q C hK I hA hq ls hl
  have C : CallFix p m c cX11_mean 6 s args TT RX11 := C
  have hx := C.1
  have hb := C.2.1
  have kx := kx_ok D (xtys cI cC cS) adK adV
  have hl : lv_has ls 6 [(0, .ref (ad 0)), (1, .int x1), (2, .int x2), (3, .int x3), (4, .int x4)] := hl
  have J_22 : ∀ (S : St) (x5 : Int32), f_X11_mean_22  S x5 = some (r, S1) → ∀ (H : Heap) (locs : List Loc) (ls : Array Slot), Iv D (mw cI ad) S A s H locs → lv_has ls 6 [(5, .int x5)] → W p l e ({ frames := 5, cells := 0, slots := 0, locals := 117 } : Room) s m args below meth c H locs 0 0 Q (F0 m 22 ls []) := by
    intro  S x5 h H locs ls I hl
    unfold f_X11_mean_22 at h
    refine lv_iload hx hb dX11_mean_22 (lv_at hl 0 rfl) ?_
    refine lv_bipush (v := (-2)) hx hb dX11_mean_24 (by decide) ?_
    refine lv_icmp_ne (tgt := 35) hx hb dX11_mean_26 (by decide) (fun c1 => ?_) (fun c1 => ?_)
    · have h := ite_n c1 h
      refine lv_ldc2 (v := (-8999999999999999997)) hx hb C.2.2.2.1 (C.2.2.2.2 _ cn_X11_239) dX11_mean_35 ?_
      exact rt_l hq h I dX11_mean_38
    · have h := ite_t c1 h
      refine lv_ldc2 (v := (-8999999999999999998)) hx hb C.2.2.2.1 (C.2.2.2.2 _ cn_X11_237) dX11_mean_29 ?_
      refine lv_goto (tgt := 38) hx hb dX11_mean_32 (by decide) ?_
      exact rt_l hq h I dX11_mean_38
  unfold f_X11_mean at h
  refine lv_aload_n hx hb dX11_mean_0 rfl (lv_at hl 0 rfl) ?_
  refine lv_iload_n hx hb dX11_mean_1 rfl (lv_at hl 1 rfl) ?_
  refine lv_iload_n hx hb dX11_mean_2 rfl (lv_at hl 2 rfl) ?_
  refine lv_iload_n hx hb dX11_mean_3 rfl (lv_at hl 3 rfl) ?_
  obtain ⟨r2, S2, e2, h⟩ := obd2_ex h
  refine k_V (As := [.int x1, .int x2, .int x3]) (rest := []) (st1 := [.int r2]) C kx hK I hA (c_X11_refusesBag e2) ⟨Nat.le_of_ble_eq_true rfl, Nat.le_of_ble_eq_true rfl⟩ mv_X11_refusesBag lk_X11_234 0 11 (mw_0 (cI := cI) (ad := ad)) rfl rfl hl.1 rfl (Nat.le_of_ble_eq_true rfl) dX11_mean_4 rfl (fun H locs I => ?_)
  refine lv_istore (lv' := [(5, .int r2), (0, .ref (ad 0)), (1, .int x1), (2, .int x2), (3, .int x3), (4, .int x4)]) hx hb dX11_mean_7 hl (by decide) rfl (fun ls hl => ?_)
  refine lv_iload hx hb dX11_mean_9 (lv_at hl 0 rfl) ?_
  refine lv_if_ne (tgt := 22) hx hb dX11_mean_11 (by decide) (fun c3 => ?_) (fun c3 => ?_)
  · have h := ite_n c3 h
    exact J_22 _ _ h _ _ _ I (lv_sub hl [0] rfl)
  · have h := ite_t c3 h
    refine lv_iload hx hb dX11_mean_14 (lv_at hl 5 rfl) ?_
    obtain ⟨r4, S4, e4, h⟩ := obd2_ex h
    refine k_S (As := [.int x4]) (rest := []) (st1 := [.int r4]) C kx hK I hA (c_X11_isPart e4) ⟨Nat.le_of_ble_eq_true rfl, Nat.le_of_ble_eq_true rfl⟩ ms_X11_isPart lk_X11_179 rfl hl.1 rfl (Nat.le_of_ble_eq_true rfl) dX11_mean_16 rfl (fun H locs I => ?_)
    refine lv_if_ne (tgt := 39) hx hb dX11_mean_19 (by decide) (fun c5 => ?_) (fun c5 => ?_)
    · have h := ite_n c5 h
      refine lv_aload_n hx hb dX11_mean_39 rfl (lv_at hl 1 rfl) ?_
      refine lv_iload_n hx hb dX11_mean_40 rfl (lv_at hl 3 rfl) ?_
      refine lv_iload_n hx hb dX11_mean_41 rfl (lv_at hl 4 rfl) ?_
      obtain ⟨S6, e6, h⟩ := obd_ex h
      refine k_V (As := [.int x2, .int x3]) (rest := []) (st1 := []) C kx hK I hA (c_X11_layRow e6) ⟨Nat.le_of_ble_eq_true rfl, Nat.le_of_ble_eq_true rfl⟩ mv_X11_layRow lk_X11_241 0 11 (mw_0 (cI := cI) (ad := ad)) rfl rfl hl.1 rfl (Nat.le_of_ble_eq_true rfl) dX11_mean_42 rfl (fun H locs I => ?_)
      refine lv_aload_n hx hb dX11_mean_45 rfl (lv_at hl 1 rfl) ?_
      refine lv_iload_n hx hb dX11_mean_46 rfl (lv_at hl 2 rfl) ?_
      refine lv_iconst (v := (-1)) hx hb dX11_mean_47 (by decide) ?_
      refine lv_iconst (v := 0) hx hb dX11_mean_48 (by decide) ?_
      obtain ⟨r7, S7, e7, h⟩ := obd2_ex h
      refine k_V (As := [.int x1, .int (-1), .int 0]) (rest := []) (st1 := [.long r7]) C kx hK I hA (c_X11_meanOf e7) ⟨Nat.le_of_ble_eq_true rfl, Nat.le_of_ble_eq_true rfl⟩ mv_X11_meanOf lk_X11_244 0 11 (mw_0 (cI := cI) (ad := ad)) rfl rfl hl.1 rfl (Nat.le_of_ble_eq_true rfl) dX11_mean_49 rfl (fun H locs I => ?_)
      refine lv_aload_n hx hb dX11_mean_52 rfl (lv_at hl 1 rfl) ?_
      refine gm_0_23 C hK I fl_X11_197 dX11_mean_53 ?_
      refine lv_iload hx hb dX11_mean_56 (lv_at hl 5 rfl) ?_
      obtain ⟨r8, S8, e8, h⟩ := obd2_ex h
      refine k_S (As := [.long r7, .long (S7.2.1 0 23), .int x4]) (rest := []) (st1 := [.long r8]) C kx hK I hA (c_X11_lowest e8) ⟨Nat.le_of_ble_eq_true rfl, Nat.le_of_ble_eq_true rfl⟩ ms_X11_lowest lk_X11_185 rfl hl.1 rfl (Nat.le_of_ble_eq_true rfl) dX11_mean_58 rfl (fun H locs I => ?_)
      exact rt_l hq h I dX11_mean_61
    · have h := ite_t c5 h
      exact J_22 _ _ h _ _ _ I (lv_sub hl [0] rfl)
theorem cn_X11_250 : Cond.constantLong RX11 250 ((-3)) ∈ TT := tt_of 1400 (by decide +kernel) rfl
theorem cn_X11_248 : Cond.constantLong RX11 248 ((-2)) ∈ TT := tt_of 1399 (by decide +kernel) rfl
theorem lk_X11_252 : Cond.methodLink RX11 252 yX11_doneOf ∈ TT := tt_of 1401 (by decide +kernel) rfl
theorem mv_X11_doneOf : MV yX11_doneOf cX11_doneOf 5 (some .long) 1 := ⟨tt_of 1404 (by decide +kernel) rfl, tt_of 1403 (by decide +kernel) rfl, tt_of 47 (by decide +kernel) rfl, tt_of 76 (by decide +kernel) rfl, ⟨by decide +kernel, by decide +kernel, by decide +kernel⟩⟩
theorem dX11_all_0 : decode cX11_all 0 = .ok (.aload_n 0, 1) := by decide +kernel
theorem dX11_all_1 : decode cX11_all 1 = .ok (.iload_n 1, 1) := by decide +kernel
theorem dX11_all_2 : decode cX11_all 2 = .ok (.iload_n 2, 1) := by decide +kernel
theorem dX11_all_3 : decode cX11_all 3 = .ok (.iload_n 3, 1) := by decide +kernel
theorem dX11_all_4 : decode cX11_all 4 = .ok (.invokevirtual 234, 3) := by decide +kernel
theorem dX11_all_7 : decode cX11_all 7 = .ok (.istore 5, 2) := by decide +kernel
theorem dX11_all_9 : decode cX11_all 9 = .ok (.iload 5, 2) := by decide +kernel
theorem dX11_all_11 : decode cX11_all 11 = .ok (.ifCond .ne 11, 3) := by decide +kernel
theorem dX11_all_14 : decode cX11_all 14 = .ok (.iload 4, 2) := by decide +kernel
theorem dX11_all_16 : decode cX11_all 16 = .ok (.invokestatic 179, 3) := by decide +kernel
theorem dX11_all_19 : decode cX11_all 19 = .ok (.ifCond .ne 20, 3) := by decide +kernel
theorem dX11_all_22 : decode cX11_all 22 = .ok (.iload 5, 2) := by decide +kernel
theorem dX11_all_24 : decode cX11_all 24 = .ok (.bipush (-2), 2) := by decide +kernel
theorem dX11_all_26 : decode cX11_all 26 = .ok (.if_icmp .ne 9, 3) := by decide +kernel
theorem dX11_all_29 : decode cX11_all 29 = .ok (.ldc2_w 248, 3) := by decide +kernel
theorem dX11_all_32 : decode cX11_all 32 = .ok (.goto 6, 3) := by decide +kernel
theorem dX11_all_35 : decode cX11_all 35 = .ok (.ldc2_w 250, 3) := by decide +kernel
theorem dX11_all_38 : decode cX11_all 38 = .ok (.lreturn, 1) := by decide +kernel
theorem dX11_all_39 : decode cX11_all 39 = .ok (.aload_n 0, 1) := by decide +kernel
theorem dX11_all_40 : decode cX11_all 40 = .ok (.iload_n 2, 1) := by decide +kernel
theorem dX11_all_41 : decode cX11_all 41 = .ok (.iload_n 3, 1) := by decide +kernel
theorem dX11_all_42 : decode cX11_all 42 = .ok (.invokevirtual 241, 3) := by decide +kernel
theorem dX11_all_45 : decode cX11_all 45 = .ok (.aload_n 0, 1) := by decide +kernel
theorem dX11_all_46 : decode cX11_all 46 = .ok (.iload_n 1, 1) := by decide +kernel
theorem dX11_all_47 : decode cX11_all 47 = .ok (.invokevirtual 252, 3) := by decide +kernel
theorem dX11_all_50 : decode cX11_all 50 = .ok (.aload_n 0, 1) := by decide +kernel
theorem dX11_all_51 : decode cX11_all 51 = .ok (.getfield 197, 3) := by decide +kernel
theorem dX11_all_54 : decode cX11_all 54 = .ok (.iload 4, 2) := by decide +kernel
theorem dX11_all_56 : decode cX11_all 56 = .ok (.invokestatic 185, 3) := by decide +kernel
theorem dX11_all_59 : decode cX11_all 59 = .ok (.lreturn, 1) := by decide +kernel
def f_X11_all_22 (S : St) (x5 : Int32) : Option (Int64 × St) :=
  if x5 = (-2) then (
    some ((-2), S)
  ) else (
    some ((-3), S)
  )
def f_X11_all (S : St) (x1 : Int32) (x2 : Int32) (x3 : Int32) (x4 : Int32) : Option (Int64 × St) :=
  obd2 (f_X11_refusesBag S x1 x2 x3) fun r2 S2 =>
  if r2 = 0 then (
    obd2 (f_X11_isPart S2 x4) fun r4 S4 =>
    if r4 = 0 then (
      f_X11_all_22 S4 r2
    ) else (
      obd (f_X11_layRow S4 x2 x3) fun S6 =>
      obd2 (f_X11_doneOf S6 x1) fun r7 S7 =>
      obd2 (f_X11_lowest S7 r7 (S7.2.1 0 23) x4) fun r8 S8 =>
      some (r8, S8)
    )
  ) else (
    f_X11_all_22 S2 r2
  )
set_option maxHeartbeats 4000000 in
set_option maxRecDepth 100000 in
theorem c_X11_all {l : Launch} {D : va_G} {cI cC cS : ClassId} {ad adK adV : Nat → Nat} {S S1 : St} {x1 : Int32} {x2 : Int32} {x3 : Int32} {x4 : Int32} {r : Int64} (h : f_X11_all S x1 x2 x3 x4 = some (r, S1)) : Kt l D (mw cI ad) (KX D (xtys cI cC cS) adK adV) yX11_all cX11_all 6 (some .long) (5) (117) [.ref (ad 0), .int x1, .int x2, .int x3, .int x4] S (some (.long r)) S1 := by
  refine k_ent (ins := .lreturn) (st := [.long r]) (by decide +kernel) (Nat.le_of_ble_eq_true rfl) ret_l ?_
  intro p e s m args below meth c A Q C hK I hA hq ls hl
  have C : CallFix p m c cX11_all 6 s args TT RX11 := C
  have hx := C.1
  have hb := C.2.1
  have kx := kx_ok D (xtys cI cC cS) adK adV
  have hl : lv_has ls 6 [(0, .ref (ad 0)), (1, .int x1), (2, .int x2), (3, .int x3), (4, .int x4)] := hl
  have J_22 : ∀ (S : St) (x5 : Int32), f_X11_all_22  S x5 = some (r, S1) → ∀ (H : Heap) (locs : List Loc) (ls : Array Slot), Iv D (mw cI ad) S A s H locs → lv_has ls 6 [(5, .int x5)] → W p l e ({ frames := 5, cells := 0, slots := 0, locals := 117 } : Room) s m args below meth c H locs 0 0 Q (F0 m 22 ls []) := by
    intro  S x5 h H locs ls I hl
    unfold f_X11_all_22 at h
    refine lv_iload hx hb dX11_all_22 (lv_at hl 0 rfl) ?_
    refine lv_bipush (v := (-2)) hx hb dX11_all_24 (by decide) ?_
    refine lv_icmp_ne (tgt := 35) hx hb dX11_all_26 (by decide) (fun c1 => ?_) (fun c1 => ?_)
    · have h := ite_n c1 h
      refine lv_ldc2 (v := (-3)) hx hb C.2.2.2.1 (C.2.2.2.2 _ cn_X11_250) dX11_all_35 ?_
      exact rt_l hq h I dX11_all_38
    · have h := ite_t c1 h
      refine lv_ldc2 (v := (-2)) hx hb C.2.2.2.1 (C.2.2.2.2 _ cn_X11_248) dX11_all_29 ?_
      refine lv_goto (tgt := 38) hx hb dX11_all_32 (by decide) ?_
      exact rt_l hq h I dX11_all_38
  unfold f_X11_all at h
  refine lv_aload_n hx hb dX11_all_0 rfl (lv_at hl 0 rfl) ?_
  refine lv_iload_n hx hb dX11_all_1 rfl (lv_at hl 1 rfl) ?_
  refine lv_iload_n hx hb dX11_all_2 rfl (lv_at hl 2 rfl) ?_
  refine lv_iload_n hx hb dX11_all_3 rfl (lv_at hl 3 rfl) ?_
  obtain ⟨r2, S2, e2, h⟩ := obd2_ex h
  refine k_V (As := [.int x1, .int x2, .int x3]) (rest := []) (st1 := [.int r2]) C kx hK I hA (c_X11_refusesBag e2) ⟨Nat.le_of_ble_eq_true rfl, Nat.le_of_ble_eq_true rfl⟩ mv_X11_refusesBag lk_X11_234 0 11 (mw_0 (cI := cI) (ad := ad)) rfl rfl hl.1 rfl (Nat.le_of_ble_eq_true rfl) dX11_all_4 rfl (fun H locs I => ?_)
  refine lv_istore (lv' := [(5, .int r2), (0, .ref (ad 0)), (1, .int x1), (2, .int x2), (3, .int x3), (4, .int x4)]) hx hb dX11_all_7 hl (by decide) rfl (fun ls hl => ?_)
  refine lv_iload hx hb dX11_all_9 (lv_at hl 0 rfl) ?_
  refine lv_if_ne (tgt := 22) hx hb dX11_all_11 (by decide) (fun c3 => ?_) (fun c3 => ?_)
  · have h := ite_n c3 h
    exact J_22 _ _ h _ _ _ I (lv_sub hl [0] rfl)
  · have h := ite_t c3 h
    refine lv_iload hx hb dX11_all_14 (lv_at hl 5 rfl) ?_
    obtain ⟨r4, S4, e4, h⟩ := obd2_ex h
    refine k_S (As := [.int x4]) (rest := []) (st1 := [.int r4]) C kx hK I hA (c_X11_isPart e4) ⟨Nat.le_of_ble_eq_true rfl, Nat.le_of_ble_eq_true rfl⟩ ms_X11_isPart lk_X11_179 rfl hl.1 rfl (Nat.le_of_ble_eq_true rfl) dX11_all_16 rfl (fun H locs I => ?_)
    refine lv_if_ne (tgt := 39) hx hb dX11_all_19 (by decide) (fun c5 => ?_) (fun c5 => ?_)
    · have h := ite_n c5 h
      refine lv_aload_n hx hb dX11_all_39 rfl (lv_at hl 1 rfl) ?_
      refine lv_iload_n hx hb dX11_all_40 rfl (lv_at hl 3 rfl) ?_
      refine lv_iload_n hx hb dX11_all_41 rfl (lv_at hl 4 rfl) ?_
      obtain ⟨S6, e6, h⟩ := obd_ex h
      refine k_V (As := [.int x2, .int x3]) (rest := []) (st1 := []) C kx hK I hA (c_X11_layRow e6) ⟨Nat.le_of_ble_eq_true rfl, Nat.le_of_ble_eq_true rfl⟩ mv_X11_layRow lk_X11_241 0 11 (mw_0 (cI := cI) (ad := ad)) rfl rfl hl.1 rfl (Nat.le_of_ble_eq_true rfl) dX11_all_42 rfl (fun H locs I => ?_)
      refine lv_aload_n hx hb dX11_all_45 rfl (lv_at hl 1 rfl) ?_
      refine lv_iload_n hx hb dX11_all_46 rfl (lv_at hl 2 rfl) ?_
      obtain ⟨r7, S7, e7, h⟩ := obd2_ex h
      refine k_V (As := [.int x1]) (rest := []) (st1 := [.long r7]) C kx hK I hA (c_X11_doneOf e7) ⟨Nat.le_of_ble_eq_true rfl, Nat.le_of_ble_eq_true rfl⟩ mv_X11_doneOf lk_X11_252 0 11 (mw_0 (cI := cI) (ad := ad)) rfl rfl hl.1 rfl (Nat.le_of_ble_eq_true rfl) dX11_all_47 rfl (fun H locs I => ?_)
      refine lv_aload_n hx hb dX11_all_50 rfl (lv_at hl 1 rfl) ?_
      refine gm_0_23 C hK I fl_X11_197 dX11_all_51 ?_
      refine lv_iload hx hb dX11_all_54 (lv_at hl 5 rfl) ?_
      obtain ⟨r8, S8, e8, h⟩ := obd2_ex h
      refine k_S (As := [.long r7, .long (S7.2.1 0 23), .int x4]) (rest := []) (st1 := [.long r8]) C kx hK I hA (c_X11_lowest e8) ⟨Nat.le_of_ble_eq_true rfl, Nat.le_of_ble_eq_true rfl⟩ ms_X11_lowest lk_X11_185 rfl hl.1 rfl (Nat.le_of_ble_eq_true rfl) dX11_all_56 rfl (fun H locs I => ?_)
      exact rt_l hq h I dX11_all_59
    · have h := ite_t c5 h
      exact J_22 _ _ h _ _ _ I (lv_sub hl [0] rfl)
theorem dX11_end_0 : decode cX11_end 0 = .ok (.aload_n 0, 1) := by decide +kernel
theorem dX11_end_1 : decode cX11_end 1 = .ok (.iload_n 1, 1) := by decide +kernel
theorem dX11_end_2 : decode cX11_end 2 = .ok (.iload_n 2, 1) := by decide +kernel
theorem dX11_end_3 : decode cX11_end 3 = .ok (.iload_n 3, 1) := by decide +kernel
theorem dX11_end_4 : decode cX11_end 4 = .ok (.invokevirtual 234, 3) := by decide +kernel
theorem dX11_end_7 : decode cX11_end 7 = .ok (.istore 4, 2) := by decide +kernel
theorem dX11_end_9 : decode cX11_end 9 = .ok (.iload 4, 2) := by decide +kernel
theorem dX11_end_11 : decode cX11_end 11 = .ok (.ifCond .eq 6, 3) := by decide +kernel
theorem dX11_end_14 : decode cX11_end 14 = .ok (.iload 4, 2) := by decide +kernel
theorem dX11_end_16 : decode cX11_end 16 = .ok (.ireturn, 1) := by decide +kernel
theorem dX11_end_17 : decode cX11_end 17 = .ok (.aload_n 0, 1) := by decide +kernel
theorem dX11_end_18 : decode cX11_end 18 = .ok (.iload_n 2, 1) := by decide +kernel
theorem dX11_end_19 : decode cX11_end 19 = .ok (.iload_n 3, 1) := by decide +kernel
theorem dX11_end_20 : decode cX11_end 20 = .ok (.invokevirtual 241, 3) := by decide +kernel
theorem dX11_end_23 : decode cX11_end 23 = .ok (.iconst 0, 1) := by decide +kernel
theorem dX11_end_24 : decode cX11_end 24 = .ok (.istore 5, 2) := by decide +kernel
theorem dX11_end_26 : decode cX11_end 26 = .ok (.iconst 0, 1) := by decide +kernel
theorem dX11_end_27 : decode cX11_end 27 = .ok (.istore 6, 2) := by decide +kernel
theorem dX11_end_29 : decode cX11_end 29 = .ok (.iload 6, 2) := by decide +kernel
theorem dX11_end_31 : decode cX11_end 31 = .ok (.aload_n 0, 1) := by decide +kernel
theorem dX11_end_32 : decode cX11_end 32 = .ok (.getfield 194, 3) := by decide +kernel
theorem dX11_end_35 : decode cX11_end 35 = .ok (.if_icmp .ge 41, 3) := by decide +kernel
theorem dX11_end_38 : decode cX11_end 38 = .ok (.aload_n 0, 1) := by decide +kernel
theorem dX11_end_39 : decode cX11_end 39 = .ok (.iload 6, 2) := by decide +kernel
theorem dX11_end_41 : decode cX11_end 41 = .ok (.invokevirtual 224, 3) := by decide +kernel
theorem dX11_end_44 : decode cX11_end 44 = .ok (.aload_n 0, 1) := by decide +kernel
theorem dX11_end_45 : decode cX11_end 45 = .ok (.iload_n 1, 1) := by decide +kernel
theorem dX11_end_46 : decode cX11_end 46 = .ok (.iconst (-1), 1) := by decide +kernel
theorem dX11_end_47 : decode cX11_end 47 = .ok (.invokevirtual 227, 3) := by decide +kernel
theorem dX11_end_50 : decode cX11_end 50 = .ok (.aload_n 0, 1) := by decide +kernel
theorem dX11_end_51 : decode cX11_end 51 = .ok (.getfield 203, 3) := by decide +kernel
theorem dX11_end_54 : decode cX11_end 54 = .ok (.iload 5, 2) := by decide +kernel
theorem dX11_end_56 : decode cX11_end 56 = .ok (.if_icmp .le 10, 3) := by decide +kernel
theorem dX11_end_59 : decode cX11_end 59 = .ok (.aload_n 0, 1) := by decide +kernel
theorem dX11_end_60 : decode cX11_end 60 = .ok (.getfield 203, 3) := by decide +kernel
theorem dX11_end_63 : decode cX11_end 63 = .ok (.goto 5, 3) := by decide +kernel
theorem dX11_end_66 : decode cX11_end 66 = .ok (.iload 5, 2) := by decide +kernel
theorem dX11_end_68 : decode cX11_end 68 = .ok (.istore 5, 2) := by decide +kernel
theorem dX11_end_70 : decode cX11_end 70 = .ok (.iinc 6 1, 3) := by decide +kernel
theorem dX11_end_73 : decode cX11_end 73 = .ok (.goto (-44), 3) := by decide +kernel
theorem dX11_end_76 : decode cX11_end 76 = .ok (.iload 5, 2) := by decide +kernel
theorem dX11_end_78 : decode cX11_end 78 = .ok (.ireturn, 1) := by decide +kernel
def f_X11_end_68 (k_29 : St → Int32 → Int32 → Int32 → Option (Int32 × St)) (S : St) (x1 : Int32) (x6 : Int32) (t0 : Int32) : Option (Int32 × St) :=
  bnd (x6 + 1 : Int32) fun v1 =>
  k_29 S x1 t0 v1
def f_X11_end_29 (k_29 : St → Int32 → Int32 → Int32 → Option (Int32 × St)) (S : St) (x1 : Int32) (x5 : Int32) (x6 : Int32) : Option (Int32 × St) :=
  if (S.1 0 22) ≤ x6 then (
    some (x5, S)
  ) else (
    obd (f_X11_layChosen S x6) fun S3 =>
    obd (f_X11_go S3 x1 (-1)) fun S4 =>
    if (S4.1 0 27) ≤ x5 then (
      f_X11_end_68 k_29 S4 x1 x6 x5
    ) else (
      f_X11_end_68 k_29 S4 x1 x6 (S4.1 0 27)
    )
  )
def l_X11_end_29 : Nat → St → Int32 → Int32 → Int32 → Option (Int32 × St)
  | 0, _, _, _, _ => none
  | fu + 1, S, x1, x5, x6 => f_X11_end_29 (l_X11_end_29 fu) S x1 x5 x6
def f_X11_end (S : St) (x1 : Int32) (x2 : Int32) (x3 : Int32) : Option (Int32 × St) :=
  obd2 (f_X11_refusesBag S x1 x2 x3) fun r6 S6 =>
  if r6 = 0 then (
    obd (f_X11_layRow S6 x2 x3) fun S8 =>
    l_X11_end_29 FU S8 x1 0 0
  ) else (
    some (r6, S6)
  )
set_option maxHeartbeats 4000000 in
set_option maxRecDepth 100000 in
theorem c_X11_end {l : Launch} {D : va_G} {cI cC cS : ClassId} {ad adK adV : Nat → Nat} {S S1 : St} {x1 : Int32} {x2 : Int32} {x3 : Int32} {r : Int32} (h : f_X11_end S x1 x2 x3 = some (r, S1)) : Kt l D (mw cI ad) (KX D (xtys cI cC cS) adK adV) yX11_end cX11_end 7 (some .int) (5) (117) [.ref (ad 0), .int x1, .int x2, .int x3] S (some (.int r)) S1 := by
  refine k_ent (ins := .ireturn) (st := [.int r]) (by decide +kernel) (Nat.le_of_ble_eq_true rfl) ret_i ?_
  intro p e s m args below meth c A Q C hK I hA hq ls hl
  have C : CallFix p m c cX11_end 7 s args TT RX11 := C
  have hx := C.1
  have hb := C.2.1
  have kx := kx_ok D (xtys cI cC cS) adK adV
  have hl : lv_has ls 7 [(0, .ref (ad 0)), (1, .int x1), (2, .int x2), (3, .int x3)] := hl
  have J_68 : ∀ (k_29 : St → Int32 → Int32 → Int32 → Option (Int32 × St)) (hk_29 : ∀ (S : St) (x1 : Int32) (x5 : Int32) (x6 : Int32), k_29 S x1 x5 x6 = some (r, S1) → ∀ (H : Heap) (locs : List Loc) (ls : Array Slot), Iv D (mw cI ad) S A s H locs → lv_has ls 7 [(0, .ref (ad 0)), (1, .int x1), (5, .int x5), (6, .int x6)] → W p l e ({ frames := 5, cells := 0, slots := 0, locals := 117 } : Room) s m args below meth c H locs 0 0 Q (F0 m 29 ls [])) (S : St) (x1 : Int32) (x6 : Int32) (t0 : Int32), f_X11_end_68 k_29 S x1 x6 t0 = some (r, S1) → ∀ (H : Heap) (locs : List Loc) (ls : Array Slot), Iv D (mw cI ad) S A s H locs → lv_has ls 7 [(0, .ref (ad 0)), (1, .int x1), (6, .int x6)] → W p l e ({ frames := 5, cells := 0, slots := 0, locals := 117 } : Room) s m args below meth c H locs 0 0 Q (F0 m 68 ls [.int t0]) := by
    intro k_29 hk_29 S x1 x6 t0 h H locs ls I hl
    unfold f_X11_end_68 at h
    refine lv_istore (lv' := [(5, .int t0), (0, .ref (ad 0)), (1, .int x1), (6, .int x6)]) hx hb dX11_end_68 hl (by decide) rfl (fun ls hl => ?_)
    obtain ⟨v1, ev1⟩ : ∃ y : Int32, y = x6 + 1 := ⟨_, rfl⟩
    have h := bnd_at ev1 h
    refine lv_iinc (v := v1) (lv' := [(6, .int v1), (5, .int t0), (0, .ref (ad 0)), (1, .int x1)]) hx hb dX11_end_70 hl (k := 3) rfl (by rw [ev1]; rfl) (by decide) rfl (fun ls hl => ?_)
    clear ev1
    refine lv_goto (tgt := 29) hx hb dX11_end_73 (by decide) ?_
    exact hk_29 _ _ _ _ h _ _ _ I (lv_sub hl [2, 3, 1, 0] rfl)
  have B_29 : ∀ (k_29 : St → Int32 → Int32 → Int32 → Option (Int32 × St)) (hk_29 : ∀ (S : St) (x1 : Int32) (x5 : Int32) (x6 : Int32), k_29 S x1 x5 x6 = some (r, S1) → ∀ (H : Heap) (locs : List Loc) (ls : Array Slot), Iv D (mw cI ad) S A s H locs → lv_has ls 7 [(0, .ref (ad 0)), (1, .int x1), (5, .int x5), (6, .int x6)] → W p l e ({ frames := 5, cells := 0, slots := 0, locals := 117 } : Room) s m args below meth c H locs 0 0 Q (F0 m 29 ls [])) (S : St) (x1 : Int32) (x5 : Int32) (x6 : Int32), f_X11_end_29 k_29 S x1 x5 x6 = some (r, S1) → ∀ (H : Heap) (locs : List Loc) (ls : Array Slot), Iv D (mw cI ad) S A s H locs → lv_has ls 7 [(0, .ref (ad 0)), (1, .int x1), (5, .int x5), (6, .int x6)] → W p l e ({ frames := 5, cells := 0, slots := 0, locals := 117 } : Room) s m args below meth c H locs 0 0 Q (F0 m 29 ls []) := by
    intro k_29 hk_29 S x1 x5 x6 h H locs ls I hl
    unfold f_X11_end_29 at h
    refine lv_iload hx hb dX11_end_29 (lv_at hl 3 rfl) ?_
    refine lv_aload_n hx hb dX11_end_31 rfl (lv_at hl 0 rfl) ?_
    refine gm_0_22 C hK I fl_X11_194 dX11_end_32 ?_
    refine lv_icmp_ge (tgt := 76) hx hb dX11_end_35 (by decide) (fun c2 => ?_) (fun c2 => ?_)
    · have h := ite_t c2 h
      refine lv_iload hx hb dX11_end_76 (lv_at hl 2 rfl) ?_
      exact rt_i hq h I dX11_end_78
    · have h := ite_n c2 h
      refine lv_aload_n hx hb dX11_end_38 rfl (lv_at hl 0 rfl) ?_
      refine lv_iload hx hb dX11_end_39 (lv_at hl 3 rfl) ?_
      obtain ⟨S3, e3, h⟩ := obd_ex h
      refine k_V (As := [.int x6]) (rest := []) (st1 := []) C kx hK I hA (c_X11_layChosen e3) ⟨Nat.le_of_ble_eq_true rfl, Nat.le_of_ble_eq_true rfl⟩ mv_X11_layChosen lk_X11_224 0 11 (mw_0 (cI := cI) (ad := ad)) rfl rfl hl.1 rfl (Nat.le_of_ble_eq_true rfl) dX11_end_41 rfl (fun H locs I => ?_)
      refine lv_aload_n hx hb dX11_end_44 rfl (lv_at hl 0 rfl) ?_
      refine lv_iload_n hx hb dX11_end_45 rfl (lv_at hl 1 rfl) ?_
      refine lv_iconst (v := (-1)) hx hb dX11_end_46 (by decide) ?_
      obtain ⟨S4, e4, h⟩ := obd_ex h
      refine k_V (As := [.int x1, .int (-1)]) (rest := []) (st1 := []) C kx hK I hA (c_X11_go e4) ⟨Nat.le_of_ble_eq_true rfl, Nat.le_of_ble_eq_true rfl⟩ mv_X11_go lk_X11_227 0 11 (mw_0 (cI := cI) (ad := ad)) rfl rfl hl.1 rfl (Nat.le_of_ble_eq_true rfl) dX11_end_47 rfl (fun H locs I => ?_)
      refine lv_aload_n hx hb dX11_end_50 rfl (lv_at hl 0 rfl) ?_
      refine gm_0_27 C hK I fl_X11_203 dX11_end_51 ?_
      refine lv_iload hx hb dX11_end_54 (lv_at hl 2 rfl) ?_
      refine lv_icmp_le (tgt := 66) hx hb dX11_end_56 (by decide) (fun c5 => ?_) (fun c5 => ?_)
      · have h := ite_t c5 h
        refine lv_iload hx hb dX11_end_66 (lv_at hl 2 rfl) ?_
        exact J_68 k_29 hk_29 _ _ _ _ h _ _ _ I (lv_sub hl [0, 1, 3] rfl)
      · have h := ite_n c5 h
        refine lv_aload_n hx hb dX11_end_59 rfl (lv_at hl 0 rfl) ?_
        refine gm_0_27 C hK I fl_X11_203 dX11_end_60 ?_
        refine lv_goto (tgt := 68) hx hb dX11_end_63 (by decide) ?_
        exact J_68 k_29 hk_29 _ _ _ _ h _ _ _ I (lv_sub hl [0, 1, 3] rfl)
  have J_29 : ∀ (fu : Nat) (S : St) (x1 : Int32) (x5 : Int32) (x6 : Int32), l_X11_end_29  fu S x1 x5 x6 = some (r, S1) → ∀ (H : Heap) (locs : List Loc) (ls : Array Slot), Iv D (mw cI ad) S A s H locs → lv_has ls 7 [(0, .ref (ad 0)), (1, .int x1), (5, .int x5), (6, .int x6)] → W p l e ({ frames := 5, cells := 0, slots := 0, locals := 117 } : Room) s m args below meth c H locs 0 0 Q (F0 m 29 ls []) := by
    intro fu
    induction fu with
    | zero => intro S x1 x5 x6 h; cases h
    | succ fu ih => intro S x1 x5 x6 h; exact B_29 (l_X11_end_29 fu) ih S x1 x5 x6 h
  unfold f_X11_end at h
  refine lv_aload_n hx hb dX11_end_0 rfl (lv_at hl 0 rfl) ?_
  refine lv_iload_n hx hb dX11_end_1 rfl (lv_at hl 1 rfl) ?_
  refine lv_iload_n hx hb dX11_end_2 rfl (lv_at hl 2 rfl) ?_
  refine lv_iload_n hx hb dX11_end_3 rfl (lv_at hl 3 rfl) ?_
  obtain ⟨r6, S6, e6, h⟩ := obd2_ex h
  refine k_V (As := [.int x1, .int x2, .int x3]) (rest := []) (st1 := [.int r6]) C kx hK I hA (c_X11_refusesBag e6) ⟨Nat.le_of_ble_eq_true rfl, Nat.le_of_ble_eq_true rfl⟩ mv_X11_refusesBag lk_X11_234 0 11 (mw_0 (cI := cI) (ad := ad)) rfl rfl hl.1 rfl (Nat.le_of_ble_eq_true rfl) dX11_end_4 rfl (fun H locs I => ?_)
  refine lv_istore (lv' := [(4, .int r6), (0, .ref (ad 0)), (1, .int x1), (2, .int x2), (3, .int x3)]) hx hb dX11_end_7 hl (by decide) rfl (fun ls hl => ?_)
  refine lv_iload hx hb dX11_end_9 (lv_at hl 0 rfl) ?_
  refine lv_if_eq (tgt := 17) hx hb dX11_end_11 (by decide) (fun c7 => ?_) (fun c7 => ?_)
  · have h := ite_t c7 h
    refine lv_aload_n hx hb dX11_end_17 rfl (lv_at hl 1 rfl) ?_
    refine lv_iload_n hx hb dX11_end_18 rfl (lv_at hl 3 rfl) ?_
    refine lv_iload_n hx hb dX11_end_19 rfl (lv_at hl 4 rfl) ?_
    obtain ⟨S8, e8, h⟩ := obd_ex h
    refine k_V (As := [.int x2, .int x3]) (rest := []) (st1 := []) C kx hK I hA (c_X11_layRow e8) ⟨Nat.le_of_ble_eq_true rfl, Nat.le_of_ble_eq_true rfl⟩ mv_X11_layRow lk_X11_241 0 11 (mw_0 (cI := cI) (ad := ad)) rfl rfl hl.1 rfl (Nat.le_of_ble_eq_true rfl) dX11_end_20 rfl (fun H locs I => ?_)
    refine lv_iconst (v := 0) hx hb dX11_end_23 (by decide) ?_
    refine lv_istore (lv' := [(5, .int 0), (4, .int r6), (0, .ref (ad 0)), (1, .int x1), (2, .int x2), (3, .int x3)]) hx hb dX11_end_24 hl (by decide) rfl (fun ls hl => ?_)
    refine lv_iconst (v := 0) hx hb dX11_end_26 (by decide) ?_
    refine lv_istore (lv' := [(6, .int 0), (5, .int 0), (4, .int r6), (0, .ref (ad 0)), (1, .int x1), (2, .int x2), (3, .int x3)]) hx hb dX11_end_27 hl (by decide) rfl (fun ls hl => ?_)
    exact J_29 _ _ _ _ _ h _ _ _ I (lv_sub hl [3, 4, 1, 0] rfl)
  · have h := ite_n c7 h
    refine lv_iload hx hb dX11_end_14 (lv_at hl 0 rfl) ?_
    exact rt_i hq h I dX11_end_16
theorem dX11_bestBag_0 : decode cX11_bestBag 0 = .ok (.iconst (-1), 1) := by decide +kernel
theorem dX11_bestBag_1 : decode cX11_bestBag 1 = .ok (.istore_n 1, 1) := by decide +kernel
theorem dX11_bestBag_2 : decode cX11_bestBag 2 = .ok (.lconst 0, 1) := by decide +kernel
theorem dX11_bestBag_3 : decode cX11_bestBag 3 = .ok (.lstore_n 2, 1) := by decide +kernel
theorem dX11_bestBag_4 : decode cX11_bestBag 4 = .ok (.iconst 0, 1) := by decide +kernel
theorem dX11_bestBag_5 : decode cX11_bestBag 5 = .ok (.istore 4, 2) := by decide +kernel
theorem dX11_bestBag_7 : decode cX11_bestBag 7 = .ok (.iload 4, 2) := by decide +kernel
theorem dX11_bestBag_9 : decode cX11_bestBag 9 = .ok (.sipush 256, 3) := by decide +kernel
theorem dX11_bestBag_12 : decode cX11_bestBag 12 = .ok (.if_icmp .ge 71, 3) := by decide +kernel
theorem dX11_bestBag_15 : decode cX11_bestBag 15 = .ok (.aload_n 0, 1) := by decide +kernel
theorem dX11_bestBag_16 : decode cX11_bestBag 16 = .ok (.iload 4, 2) := by decide +kernel
theorem dX11_bestBag_18 : decode cX11_bestBag 18 = .ok (.invokevirtual 162, 3) := by decide +kernel
theorem dX11_bestBag_21 : decode cX11_bestBag 21 = .ok (.ifCond .eq 56, 3) := by decide +kernel
theorem dX11_bestBag_24 : decode cX11_bestBag 24 = .ok (.aload_n 0, 1) := by decide +kernel
theorem dX11_bestBag_25 : decode cX11_bestBag 25 = .ok (.iload 4, 2) := by decide +kernel
theorem dX11_bestBag_27 : decode cX11_bestBag 27 = .ok (.iconst (-1), 1) := by decide +kernel
theorem dX11_bestBag_28 : decode cX11_bestBag 28 = .ok (.iconst 0, 1) := by decide +kernel
theorem dX11_bestBag_29 : decode cX11_bestBag 29 = .ok (.invokevirtual 244, 3) := by decide +kernel
theorem dX11_bestBag_32 : decode cX11_bestBag 32 = .ok (.lstore 5, 2) := by decide +kernel
theorem dX11_bestBag_34 : decode cX11_bestBag 34 = .ok (.iload_n 1, 1) := by decide +kernel
theorem dX11_bestBag_35 : decode cX11_bestBag 35 = .ok (.iconst (-1), 1) := by decide +kernel
theorem dX11_bestBag_36 : decode cX11_bestBag 36 = .ok (.if_icmp .eq 10, 3) := by decide +kernel
theorem dX11_bestBag_39 : decode cX11_bestBag 39 = .ok (.lload 5, 2) := by decide +kernel
theorem dX11_bestBag_41 : decode cX11_bestBag 41 = .ok (.lload_n 2, 1) := by decide +kernel
theorem dX11_bestBag_42 : decode cX11_bestBag 42 = .ok (.lcmp, 1) := by decide +kernel
theorem dX11_bestBag_43 : decode cX11_bestBag 43 = .ok (.ifCond .le 7, 3) := by decide +kernel
theorem dX11_bestBag_46 : decode cX11_bestBag 46 = .ok (.iconst 1, 1) := by decide +kernel
theorem dX11_bestBag_47 : decode cX11_bestBag 47 = .ok (.goto 4, 3) := by decide +kernel
theorem dX11_bestBag_50 : decode cX11_bestBag 50 = .ok (.iconst 0, 1) := by decide +kernel
theorem dX11_bestBag_51 : decode cX11_bestBag 51 = .ok (.istore 7, 2) := by decide +kernel
theorem dX11_bestBag_53 : decode cX11_bestBag 53 = .ok (.iload 7, 2) := by decide +kernel
theorem dX11_bestBag_55 : decode cX11_bestBag 55 = .ok (.ifCond .eq 8, 3) := by decide +kernel
theorem dX11_bestBag_58 : decode cX11_bestBag 58 = .ok (.iload 4, 2) := by decide +kernel
theorem dX11_bestBag_60 : decode cX11_bestBag 60 = .ok (.goto 4, 3) := by decide +kernel
theorem dX11_bestBag_63 : decode cX11_bestBag 63 = .ok (.iload_n 1, 1) := by decide +kernel
theorem dX11_bestBag_64 : decode cX11_bestBag 64 = .ok (.istore_n 1, 1) := by decide +kernel
theorem dX11_bestBag_65 : decode cX11_bestBag 65 = .ok (.iload 7, 2) := by decide +kernel
theorem dX11_bestBag_67 : decode cX11_bestBag 67 = .ok (.ifCond .eq 8, 3) := by decide +kernel
theorem dX11_bestBag_70 : decode cX11_bestBag 70 = .ok (.lload 5, 2) := by decide +kernel
theorem dX11_bestBag_72 : decode cX11_bestBag 72 = .ok (.goto 4, 3) := by decide +kernel
theorem dX11_bestBag_75 : decode cX11_bestBag 75 = .ok (.lload_n 2, 1) := by decide +kernel
theorem dX11_bestBag_76 : decode cX11_bestBag 76 = .ok (.lstore_n 2, 1) := by decide +kernel
theorem dX11_bestBag_77 : decode cX11_bestBag 77 = .ok (.iinc 4 1, 3) := by decide +kernel
theorem dX11_bestBag_80 : decode cX11_bestBag 80 = .ok (.goto (-73), 3) := by decide +kernel
theorem dX11_bestBag_83 : decode cX11_bestBag 83 = .ok (.iload_n 1, 1) := by decide +kernel
theorem dX11_bestBag_84 : decode cX11_bestBag 84 = .ok (.ireturn, 1) := by decide +kernel
def f_X11_bestBag_77 (k_7 : St → Int32 → Int64 → Int32 → Option (Int32 × St)) (S : St) (x1 : Int32) (x2 : Int64) (x4 : Int32) : Option (Int32 × St) :=
  bnd (x4 + 1 : Int32) fun v1 =>
  k_7 S x1 x2 v1
def f_X11_bestBag_76 (k_7 : St → Int32 → Int64 → Int32 → Option (Int32 × St)) (S : St) (x1 : Int32) (x4 : Int32) (t0 : Int64) : Option (Int32 × St) :=
  f_X11_bestBag_77 k_7 S x1 t0 x4
def f_X11_bestBag_64 (k_7 : St → Int32 → Int64 → Int32 → Option (Int32 × St)) (S : St) (x2 : Int64) (x4 : Int32) (x5 : Int64) (x7 : Int32) (t0 : Int32) : Option (Int32 × St) :=
  if x7 = 0 then (
    f_X11_bestBag_76 k_7 S t0 x4 x2
  ) else (
    f_X11_bestBag_76 k_7 S t0 x4 x5
  )
def f_X11_bestBag_51 (k_7 : St → Int32 → Int64 → Int32 → Option (Int32 × St)) (S : St) (x1 : Int32) (x2 : Int64) (x4 : Int32) (x5 : Int64) (t0 : Int32) : Option (Int32 × St) :=
  if t0 = 0 then (
    f_X11_bestBag_64 k_7 S x2 x4 x5 t0 x1
  ) else (
    f_X11_bestBag_64 k_7 S x2 x4 x5 t0 x4
  )
def f_X11_bestBag_46 (k_7 : St → Int32 → Int64 → Int32 → Option (Int32 × St)) (S : St) (x1 : Int32) (x2 : Int64) (x4 : Int32) (x5 : Int64) : Option (Int32 × St) :=
  f_X11_bestBag_51 k_7 S x1 x2 x4 x5 1
def f_X11_bestBag_7 (k_7 : St → Int32 → Int64 → Int32 → Option (Int32 × St)) (S : St) (x1 : Int32) (x2 : Int64) (x4 : Int32) : Option (Int32 × St) :=
  if 256 ≤ x4 then (
    some (x1, S)
  ) else (
    obd2 (f_X11_mayBe S x4) fun r5 S5 =>
    if r5 = 0 then (
      f_X11_bestBag_77 k_7 S5 x1 x2 x4
    ) else (
      obd2 (f_X11_meanOf S5 x4 (-1) 0) fun r7 S7 =>
      if x1 = (-1) then (
        f_X11_bestBag_46 k_7 S7 x1 x2 x4 r7
      ) else (
        if (lg_cmp r7 x2) ≤ 0 then (
          f_X11_bestBag_51 k_7 S7 x1 x2 x4 r7 0
        ) else (
          f_X11_bestBag_46 k_7 S7 x1 x2 x4 r7
        )
      )
    )
  )
def l_X11_bestBag_7 : Nat → St → Int32 → Int64 → Int32 → Option (Int32 × St)
  | 0, _, _, _, _ => none
  | fu + 1, S, x1, x2, x4 => f_X11_bestBag_7 (l_X11_bestBag_7 fu) S x1 x2 x4
def f_X11_bestBag (S : St)  : Option (Int32 × St) :=
  l_X11_bestBag_7 FU S (-1) (0) 0
set_option maxHeartbeats 4000000 in
set_option maxRecDepth 100000 in
theorem c_X11_bestBag {l : Launch} {D : va_G} {cI cC cS : ClassId} {ad adK adV : Nat → Nat} {S S1 : St}  {r : Int32} (h : f_X11_bestBag S  = some (r, S1)) : Kt l D (mw cI ad) (KX D (xtys cI cC cS) adK adV) yX11_bestBag cX11_bestBag 8 (some .int) (4) (107) [.ref (ad 0)] S (some (.int r)) S1 := by
  refine k_ent (ins := .ireturn) (st := [.int r]) (by decide +kernel) (Nat.le_of_ble_eq_true rfl) ret_i ?_
  intro p e s m args below meth c A Q C hK I hA hq ls hl
  have C : CallFix p m c cX11_bestBag 8 s args TT RX11 := C
  have hx := C.1
  have hb := C.2.1
  have kx := kx_ok D (xtys cI cC cS) adK adV
  have hl : lv_has ls 8 [(0, .ref (ad 0))] := hl
  have J_77 : ∀ (k_7 : St → Int32 → Int64 → Int32 → Option (Int32 × St)) (hk_7 : ∀ (S : St) (x1 : Int32) (x2 : Int64) (x4 : Int32), k_7 S x1 x2 x4 = some (r, S1) → ∀ (H : Heap) (locs : List Loc) (ls : Array Slot), Iv D (mw cI ad) S A s H locs → lv_has ls 8 [(0, .ref (ad 0)), (1, .int x1), (2, .long x2), (4, .int x4)] → W p l e ({ frames := 4, cells := 0, slots := 0, locals := 107 } : Room) s m args below meth c H locs 0 0 Q (F0 m 7 ls [])) (S : St) (x1 : Int32) (x2 : Int64) (x4 : Int32), f_X11_bestBag_77 k_7 S x1 x2 x4 = some (r, S1) → ∀ (H : Heap) (locs : List Loc) (ls : Array Slot), Iv D (mw cI ad) S A s H locs → lv_has ls 8 [(0, .ref (ad 0)), (1, .int x1), (2, .long x2), (4, .int x4)] → W p l e ({ frames := 4, cells := 0, slots := 0, locals := 107 } : Room) s m args below meth c H locs 0 0 Q (F0 m 77 ls []) := by
    intro k_7 hk_7 S x1 x2 x4 h H locs ls I hl
    unfold f_X11_bestBag_77 at h
    obtain ⟨v1, ev1⟩ : ∃ y : Int32, y = x4 + 1 := ⟨_, rfl⟩
    have h := bnd_at ev1 h
    refine lv_iinc (v := v1) (lv' := [(4, .int v1), (0, .ref (ad 0)), (1, .int x1), (2, .long x2)]) hx hb dX11_bestBag_77 hl (k := 3) rfl (by rw [ev1]; rfl) (by decide) rfl (fun ls hl => ?_)
    clear ev1
    refine lv_goto (tgt := 7) hx hb dX11_bestBag_80 (by decide) ?_
    exact hk_7 _ _ _ _ h _ _ _ I (lv_sub hl [1, 2, 3, 0] rfl)
  have J_76 : ∀ (k_7 : St → Int32 → Int64 → Int32 → Option (Int32 × St)) (hk_7 : ∀ (S : St) (x1 : Int32) (x2 : Int64) (x4 : Int32), k_7 S x1 x2 x4 = some (r, S1) → ∀ (H : Heap) (locs : List Loc) (ls : Array Slot), Iv D (mw cI ad) S A s H locs → lv_has ls 8 [(0, .ref (ad 0)), (1, .int x1), (2, .long x2), (4, .int x4)] → W p l e ({ frames := 4, cells := 0, slots := 0, locals := 107 } : Room) s m args below meth c H locs 0 0 Q (F0 m 7 ls [])) (S : St) (x1 : Int32) (x4 : Int32) (t0 : Int64), f_X11_bestBag_76 k_7 S x1 x4 t0 = some (r, S1) → ∀ (H : Heap) (locs : List Loc) (ls : Array Slot), Iv D (mw cI ad) S A s H locs → lv_has ls 8 [(0, .ref (ad 0)), (1, .int x1), (4, .int x4)] → W p l e ({ frames := 4, cells := 0, slots := 0, locals := 107 } : Room) s m args below meth c H locs 0 0 Q (F0 m 76 ls [.long t0]) := by
    intro k_7 hk_7 S x1 x4 t0 h H locs ls I hl
    unfold f_X11_bestBag_76 at h
    refine lv_lstore_n (lv' := [(2, .long t0), (0, .ref (ad 0)), (1, .int x1), (4, .int x4)]) hx hb dX11_bestBag_76 rfl hl (by decide) rfl (fun ls hl => ?_)
    exact J_77 k_7 hk_7 _ _ _ _ h _ _ _ I (lv_sub hl [1, 2, 0, 3] rfl)
  have J_64 : ∀ (k_7 : St → Int32 → Int64 → Int32 → Option (Int32 × St)) (hk_7 : ∀ (S : St) (x1 : Int32) (x2 : Int64) (x4 : Int32), k_7 S x1 x2 x4 = some (r, S1) → ∀ (H : Heap) (locs : List Loc) (ls : Array Slot), Iv D (mw cI ad) S A s H locs → lv_has ls 8 [(0, .ref (ad 0)), (1, .int x1), (2, .long x2), (4, .int x4)] → W p l e ({ frames := 4, cells := 0, slots := 0, locals := 107 } : Room) s m args below meth c H locs 0 0 Q (F0 m 7 ls [])) (S : St) (x2 : Int64) (x4 : Int32) (x5 : Int64) (x7 : Int32) (t0 : Int32), f_X11_bestBag_64 k_7 S x2 x4 x5 x7 t0 = some (r, S1) → ∀ (H : Heap) (locs : List Loc) (ls : Array Slot), Iv D (mw cI ad) S A s H locs → lv_has ls 8 [(0, .ref (ad 0)), (2, .long x2), (4, .int x4), (5, .long x5), (7, .int x7)] → W p l e ({ frames := 4, cells := 0, slots := 0, locals := 107 } : Room) s m args below meth c H locs 0 0 Q (F0 m 64 ls [.int t0]) := by
    intro k_7 hk_7 S x2 x4 x5 x7 t0 h H locs ls I hl
    unfold f_X11_bestBag_64 at h
    refine lv_istore_n (lv' := [(1, .int t0), (0, .ref (ad 0)), (2, .long x2), (4, .int x4), (5, .long x5), (7, .int x7)]) hx hb dX11_bestBag_64 rfl hl (by decide) rfl (fun ls hl => ?_)
    refine lv_iload hx hb dX11_bestBag_65 (lv_at hl 5 rfl) ?_
    refine lv_if_eq (tgt := 75) hx hb dX11_bestBag_67 (by decide) (fun c2 => ?_) (fun c2 => ?_)
    · have h := ite_t c2 h
      refine lv_lload_n hx hb dX11_bestBag_75 rfl (lv_at hl 2 rfl) ?_
      exact J_76 k_7 hk_7 _ _ _ _ h _ _ _ I (lv_sub hl [1, 0, 3] rfl)
    · have h := ite_n c2 h
      refine lv_lload hx hb dX11_bestBag_70 (lv_at hl 4 rfl) ?_
      refine lv_goto (tgt := 76) hx hb dX11_bestBag_72 (by decide) ?_
      exact J_76 k_7 hk_7 _ _ _ _ h _ _ _ I (lv_sub hl [1, 0, 3] rfl)
  have J_51 : ∀ (k_7 : St → Int32 → Int64 → Int32 → Option (Int32 × St)) (hk_7 : ∀ (S : St) (x1 : Int32) (x2 : Int64) (x4 : Int32), k_7 S x1 x2 x4 = some (r, S1) → ∀ (H : Heap) (locs : List Loc) (ls : Array Slot), Iv D (mw cI ad) S A s H locs → lv_has ls 8 [(0, .ref (ad 0)), (1, .int x1), (2, .long x2), (4, .int x4)] → W p l e ({ frames := 4, cells := 0, slots := 0, locals := 107 } : Room) s m args below meth c H locs 0 0 Q (F0 m 7 ls [])) (S : St) (x1 : Int32) (x2 : Int64) (x4 : Int32) (x5 : Int64) (t0 : Int32), f_X11_bestBag_51 k_7 S x1 x2 x4 x5 t0 = some (r, S1) → ∀ (H : Heap) (locs : List Loc) (ls : Array Slot), Iv D (mw cI ad) S A s H locs → lv_has ls 8 [(0, .ref (ad 0)), (1, .int x1), (2, .long x2), (4, .int x4), (5, .long x5)] → W p l e ({ frames := 4, cells := 0, slots := 0, locals := 107 } : Room) s m args below meth c H locs 0 0 Q (F0 m 51 ls [.int t0]) := by
    intro k_7 hk_7 S x1 x2 x4 x5 t0 h H locs ls I hl
    unfold f_X11_bestBag_51 at h
    refine lv_istore (lv' := [(7, .int t0), (0, .ref (ad 0)), (1, .int x1), (2, .long x2), (4, .int x4), (5, .long x5)]) hx hb dX11_bestBag_51 hl (by decide) rfl (fun ls hl => ?_)
    refine lv_iload hx hb dX11_bestBag_53 (lv_at hl 0 rfl) ?_
    refine lv_if_eq (tgt := 63) hx hb dX11_bestBag_55 (by decide) (fun c3 => ?_) (fun c3 => ?_)
    · have h := ite_t c3 h
      refine lv_iload_n hx hb dX11_bestBag_63 rfl (lv_at hl 2 rfl) ?_
      exact J_64 k_7 hk_7 _ _ _ _ _ _ h _ _ _ I (lv_sub hl [1, 3, 4, 5, 0] rfl)
    · have h := ite_n c3 h
      refine lv_iload hx hb dX11_bestBag_58 (lv_at hl 4 rfl) ?_
      refine lv_goto (tgt := 64) hx hb dX11_bestBag_60 (by decide) ?_
      exact J_64 k_7 hk_7 _ _ _ _ _ _ h _ _ _ I (lv_sub hl [1, 3, 4, 5, 0] rfl)
  have J_46 : ∀ (k_7 : St → Int32 → Int64 → Int32 → Option (Int32 × St)) (hk_7 : ∀ (S : St) (x1 : Int32) (x2 : Int64) (x4 : Int32), k_7 S x1 x2 x4 = some (r, S1) → ∀ (H : Heap) (locs : List Loc) (ls : Array Slot), Iv D (mw cI ad) S A s H locs → lv_has ls 8 [(0, .ref (ad 0)), (1, .int x1), (2, .long x2), (4, .int x4)] → W p l e ({ frames := 4, cells := 0, slots := 0, locals := 107 } : Room) s m args below meth c H locs 0 0 Q (F0 m 7 ls [])) (S : St) (x1 : Int32) (x2 : Int64) (x4 : Int32) (x5 : Int64), f_X11_bestBag_46 k_7 S x1 x2 x4 x5 = some (r, S1) → ∀ (H : Heap) (locs : List Loc) (ls : Array Slot), Iv D (mw cI ad) S A s H locs → lv_has ls 8 [(0, .ref (ad 0)), (1, .int x1), (2, .long x2), (4, .int x4), (5, .long x5)] → W p l e ({ frames := 4, cells := 0, slots := 0, locals := 107 } : Room) s m args below meth c H locs 0 0 Q (F0 m 46 ls []) := by
    intro k_7 hk_7 S x1 x2 x4 x5 h H locs ls I hl
    unfold f_X11_bestBag_46 at h
    refine lv_iconst (v := 1) hx hb dX11_bestBag_46 (by decide) ?_
    refine lv_goto (tgt := 51) hx hb dX11_bestBag_47 (by decide) ?_
    exact J_51 k_7 hk_7 _ _ _ _ _ _ h _ _ _ I (lv_sub hl [0, 1, 2, 3, 4] rfl)
  have B_7 : ∀ (k_7 : St → Int32 → Int64 → Int32 → Option (Int32 × St)) (hk_7 : ∀ (S : St) (x1 : Int32) (x2 : Int64) (x4 : Int32), k_7 S x1 x2 x4 = some (r, S1) → ∀ (H : Heap) (locs : List Loc) (ls : Array Slot), Iv D (mw cI ad) S A s H locs → lv_has ls 8 [(0, .ref (ad 0)), (1, .int x1), (2, .long x2), (4, .int x4)] → W p l e ({ frames := 4, cells := 0, slots := 0, locals := 107 } : Room) s m args below meth c H locs 0 0 Q (F0 m 7 ls [])) (S : St) (x1 : Int32) (x2 : Int64) (x4 : Int32), f_X11_bestBag_7 k_7 S x1 x2 x4 = some (r, S1) → ∀ (H : Heap) (locs : List Loc) (ls : Array Slot), Iv D (mw cI ad) S A s H locs → lv_has ls 8 [(0, .ref (ad 0)), (1, .int x1), (2, .long x2), (4, .int x4)] → W p l e ({ frames := 4, cells := 0, slots := 0, locals := 107 } : Room) s m args below meth c H locs 0 0 Q (F0 m 7 ls []) := by
    intro k_7 hk_7 S x1 x2 x4 h H locs ls I hl
    unfold f_X11_bestBag_7 at h
    refine lv_iload hx hb dX11_bestBag_7 (lv_at hl 3 rfl) ?_
    refine lv_sipush (v := 256) hx hb dX11_bestBag_9 (by decide) ?_
    refine lv_icmp_ge (tgt := 83) hx hb dX11_bestBag_12 (by decide) (fun c4 => ?_) (fun c4 => ?_)
    · have h := ite_t c4 h
      refine lv_iload_n hx hb dX11_bestBag_83 rfl (lv_at hl 1 rfl) ?_
      exact rt_i hq h I dX11_bestBag_84
    · have h := ite_n c4 h
      refine lv_aload_n hx hb dX11_bestBag_15 rfl (lv_at hl 0 rfl) ?_
      refine lv_iload hx hb dX11_bestBag_16 (lv_at hl 3 rfl) ?_
      obtain ⟨r5, S5, e5, h⟩ := obd2_ex h
      refine k_V (As := [.int x4]) (rest := []) (st1 := [.int r5]) C kx hK I hA (c_X11_mayBe e5) ⟨Nat.le_of_ble_eq_true rfl, Nat.le_of_ble_eq_true rfl⟩ mv_X11_mayBe lk_X11_162 0 11 (mw_0 (cI := cI) (ad := ad)) rfl rfl hl.1 rfl (Nat.le_of_ble_eq_true rfl) dX11_bestBag_18 rfl (fun H locs I => ?_)
      refine lv_if_eq (tgt := 77) hx hb dX11_bestBag_21 (by decide) (fun c6 => ?_) (fun c6 => ?_)
      · have h := ite_t c6 h
        exact J_77 k_7 hk_7 _ _ _ _ h _ _ _ I (lv_sub hl [0, 1, 2, 3] rfl)
      · have h := ite_n c6 h
        refine lv_aload_n hx hb dX11_bestBag_24 rfl (lv_at hl 0 rfl) ?_
        refine lv_iload hx hb dX11_bestBag_25 (lv_at hl 3 rfl) ?_
        refine lv_iconst (v := (-1)) hx hb dX11_bestBag_27 (by decide) ?_
        refine lv_iconst (v := 0) hx hb dX11_bestBag_28 (by decide) ?_
        obtain ⟨r7, S7, e7, h⟩ := obd2_ex h
        refine k_V (As := [.int x4, .int (-1), .int 0]) (rest := []) (st1 := [.long r7]) C kx hK I hA (c_X11_meanOf e7) ⟨Nat.le_of_ble_eq_true rfl, Nat.le_of_ble_eq_true rfl⟩ mv_X11_meanOf lk_X11_244 0 11 (mw_0 (cI := cI) (ad := ad)) rfl rfl hl.1 rfl (Nat.le_of_ble_eq_true rfl) dX11_bestBag_29 rfl (fun H locs I => ?_)
        refine lv_lstore (lv' := [(5, .long r7), (0, .ref (ad 0)), (1, .int x1), (2, .long x2), (4, .int x4)]) hx hb dX11_bestBag_32 hl (by decide) rfl (fun ls hl => ?_)
        refine lv_iload_n hx hb dX11_bestBag_34 rfl (lv_at hl 2 rfl) ?_
        refine lv_iconst (v := (-1)) hx hb dX11_bestBag_35 (by decide) ?_
        refine lv_icmp_eq (tgt := 46) hx hb dX11_bestBag_36 (by decide) (fun c8 => ?_) (fun c8 => ?_)
        · have h := ite_t c8 h
          exact J_46 k_7 hk_7 _ _ _ _ _ h _ _ _ I (lv_sub hl [1, 2, 3, 4, 0] rfl)
        · have h := ite_n c8 h
          refine lv_lload hx hb dX11_bestBag_39 (lv_at hl 0 rfl) ?_
          refine lv_lload_n hx hb dX11_bestBag_41 rfl (lv_at hl 3 rfl) ?_
          refine W.lcmp hx hb dX11_bestBag_42 ?_
          refine lv_if_le (tgt := 50) hx hb dX11_bestBag_43 (by decide) (fun c9 => ?_) (fun c9 => ?_)
          · have h := ite_t c9 h
            refine lv_iconst (v := 0) hx hb dX11_bestBag_50 (by decide) ?_
            exact J_51 k_7 hk_7 _ _ _ _ _ _ h _ _ _ I (lv_sub hl [1, 2, 3, 4, 0] rfl)
          · have h := ite_n c9 h
            exact J_46 k_7 hk_7 _ _ _ _ _ h _ _ _ I (lv_sub hl [1, 2, 3, 4, 0] rfl)
  have J_7 : ∀ (fu : Nat) (S : St) (x1 : Int32) (x2 : Int64) (x4 : Int32), l_X11_bestBag_7  fu S x1 x2 x4 = some (r, S1) → ∀ (H : Heap) (locs : List Loc) (ls : Array Slot), Iv D (mw cI ad) S A s H locs → lv_has ls 8 [(0, .ref (ad 0)), (1, .int x1), (2, .long x2), (4, .int x4)] → W p l e ({ frames := 4, cells := 0, slots := 0, locals := 107 } : Room) s m args below meth c H locs 0 0 Q (F0 m 7 ls []) := by
    intro fu
    induction fu with
    | zero => intro S x1 x2 x4 h; cases h
    | succ fu ih => intro S x1 x2 x4 h; exact B_7 (l_X11_bestBag_7 fu) ih S x1 x2 x4 h
  unfold f_X11_bestBag at h
  refine lv_iconst (v := (-1)) hx hb dX11_bestBag_0 (by decide) ?_
  refine lv_istore_n (lv' := [(1, .int (-1)), (0, .ref (ad 0))]) hx hb dX11_bestBag_1 rfl hl (by decide) rfl (fun ls hl => ?_)
  refine lv_lconst (v := (0)) hx hb dX11_bestBag_2 (by decide) ?_
  refine lv_lstore_n (lv' := [(2, .long (0)), (1, .int (-1)), (0, .ref (ad 0))]) hx hb dX11_bestBag_3 rfl hl (by decide) rfl (fun ls hl => ?_)
  refine lv_iconst (v := 0) hx hb dX11_bestBag_4 (by decide) ?_
  refine lv_istore (lv' := [(4, .int 0), (2, .long (0)), (1, .int (-1)), (0, .ref (ad 0))]) hx hb dX11_bestBag_5 hl (by decide) rfl (fun ls hl => ?_)
  exact J_7 _ _ _ _ _ h _ _ _ I (lv_sub hl [3, 2, 1, 0] rfl)
theorem lk_X11_256 : Cond.methodLink RX11 256 yX11_bestBag ∈ TT := tt_of 1413 (by decide +kernel) rfl
theorem mv_X11_bestBag : MV yX11_bestBag cX11_bestBag 8 (some .int) 0 := ⟨tt_of 1416 (by decide +kernel) rfl, tt_of 1415 (by decide +kernel) rfl, tt_of 48 (by decide +kernel) rfl, tt_of 76 (by decide +kernel) rfl, ⟨by decide +kernel, by decide +kernel, by decide +kernel⟩⟩
theorem dX11_best_0 : decode cX11_best 0 = .ok (.aload_n 0, 1) := by decide +kernel
theorem dX11_best_1 : decode cX11_best 1 = .ok (.iload_n 1, 1) := by decide +kernel
theorem dX11_best_2 : decode cX11_best 2 = .ok (.iload_n 2, 1) := by decide +kernel
theorem dX11_best_3 : decode cX11_best 3 = .ok (.invokevirtual 231, 3) := by decide +kernel
theorem dX11_best_6 : decode cX11_best 6 = .ok (.istore_n 3, 1) := by decide +kernel
theorem dX11_best_7 : decode cX11_best 7 = .ok (.iload_n 3, 1) := by decide +kernel
theorem dX11_best_8 : decode cX11_best 8 = .ok (.ifCond .eq 5, 3) := by decide +kernel
theorem dX11_best_11 : decode cX11_best 11 = .ok (.iload_n 3, 1) := by decide +kernel
theorem dX11_best_12 : decode cX11_best 12 = .ok (.ireturn, 1) := by decide +kernel
theorem dX11_best_13 : decode cX11_best 13 = .ok (.aload_n 0, 1) := by decide +kernel
theorem dX11_best_14 : decode cX11_best 14 = .ok (.iload_n 1, 1) := by decide +kernel
theorem dX11_best_15 : decode cX11_best 15 = .ok (.iload_n 2, 1) := by decide +kernel
theorem dX11_best_16 : decode cX11_best 16 = .ok (.invokevirtual 241, 3) := by decide +kernel
theorem dX11_best_19 : decode cX11_best 19 = .ok (.aload_n 0, 1) := by decide +kernel
theorem dX11_best_20 : decode cX11_best 20 = .ok (.invokevirtual 256, 3) := by decide +kernel
theorem dX11_best_23 : decode cX11_best 23 = .ok (.ireturn, 1) := by decide +kernel
def f_X11_best (S : St) (x1 : Int32) (x2 : Int32) : Option (Int32 × St) :=
  obd2 (f_X11_refuses S x1 x2) fun r1 S1 =>
  if r1 = 0 then (
    obd (f_X11_layRow S1 x1 x2) fun S3 =>
    obd2 (f_X11_bestBag S3 ) fun r4 S4 =>
    some (r4, S4)
  ) else (
    some (r1, S1)
  )
set_option maxHeartbeats 4000000 in
set_option maxRecDepth 100000 in
theorem c_X11_best {l : Launch} {D : va_G} {cI cC cS : ClassId} {ad adK adV : Nat → Nat} {S S1 : St} {x1 : Int32} {x2 : Int32} {r : Int32} (h : f_X11_best S x1 x2 = some (r, S1)) : Kt l D (mw cI ad) (KX D (xtys cI cC cS) adK adV) yX11_best cX11_best 4 (some .int) (5) (134) [.ref (ad 0), .int x1, .int x2] S (some (.int r)) S1 := by
  refine k_ent (ins := .ireturn) (st := [.int r]) (by decide +kernel) (Nat.le_of_ble_eq_true rfl) ret_i ?_
  intro p e s m args below meth c A Q C hK I hA hq ls hl
  have C : CallFix p m c cX11_best 4 s args TT RX11 := C
  have hx := C.1
  have hb := C.2.1
  have kx := kx_ok D (xtys cI cC cS) adK adV
  have hl : lv_has ls 4 [(0, .ref (ad 0)), (1, .int x1), (2, .int x2)] := hl
  unfold f_X11_best at h
  refine lv_aload_n hx hb dX11_best_0 rfl (lv_at hl 0 rfl) ?_
  refine lv_iload_n hx hb dX11_best_1 rfl (lv_at hl 1 rfl) ?_
  refine lv_iload_n hx hb dX11_best_2 rfl (lv_at hl 2 rfl) ?_
  obtain ⟨r1, S1, e1, h⟩ := obd2_ex h
  refine k_V (As := [.int x1, .int x2]) (rest := []) (st1 := [.int r1]) C kx hK I hA (c_X11_refuses e1) ⟨Nat.le_of_ble_eq_true rfl, Nat.le_of_ble_eq_true rfl⟩ mv_X11_refuses lk_X11_231 0 11 (mw_0 (cI := cI) (ad := ad)) rfl rfl hl.1 rfl (Nat.le_of_ble_eq_true rfl) dX11_best_3 rfl (fun H locs I => ?_)
  refine lv_istore_n (lv' := [(3, .int r1), (0, .ref (ad 0)), (1, .int x1), (2, .int x2)]) hx hb dX11_best_6 rfl hl (by decide) rfl (fun ls hl => ?_)
  refine lv_iload_n hx hb dX11_best_7 rfl (lv_at hl 0 rfl) ?_
  refine lv_if_eq (tgt := 13) hx hb dX11_best_8 (by decide) (fun c2 => ?_) (fun c2 => ?_)
  · have h := ite_t c2 h
    refine lv_aload_n hx hb dX11_best_13 rfl (lv_at hl 1 rfl) ?_
    refine lv_iload_n hx hb dX11_best_14 rfl (lv_at hl 2 rfl) ?_
    refine lv_iload_n hx hb dX11_best_15 rfl (lv_at hl 3 rfl) ?_
    obtain ⟨S3, e3, h⟩ := obd_ex h
    refine k_V (As := [.int x1, .int x2]) (rest := []) (st1 := []) C kx hK I hA (c_X11_layRow e3) ⟨Nat.le_of_ble_eq_true rfl, Nat.le_of_ble_eq_true rfl⟩ mv_X11_layRow lk_X11_241 0 11 (mw_0 (cI := cI) (ad := ad)) rfl rfl hl.1 rfl (Nat.le_of_ble_eq_true rfl) dX11_best_16 rfl (fun H locs I => ?_)
    refine lv_aload_n hx hb dX11_best_19 rfl (lv_at hl 1 rfl) ?_
    obtain ⟨r4, S4, e4, h⟩ := obd2_ex h
    refine k_V (As := []) (rest := []) (st1 := [.int r4]) C kx hK I hA (c_X11_bestBag e4) ⟨Nat.le_of_ble_eq_true rfl, Nat.le_of_ble_eq_true rfl⟩ mv_X11_bestBag lk_X11_256 0 11 (mw_0 (cI := cI) (ad := ad)) rfl rfl hl.1 rfl (Nat.le_of_ble_eq_true rfl) dX11_best_20 rfl (fun H locs I => ?_)
    exact rt_i hq h I dX11_best_23
  · have h := ite_n c2 h
    refine lv_iload_n hx hb dX11_best_11 rfl (lv_at hl 0 rfl) ?_
    exact rt_i hq h I dX11_best_12
theorem cn_X11_259 : Cond.constantLong RX11 259 ((99)) ∈ TT := tt_of 1421 (by decide +kernel) rfl
theorem dX11_sure_0 : decode cX11_sure 0 = .ok (.aload_n 0, 1) := by decide +kernel
theorem dX11_sure_1 : decode cX11_sure 1 = .ok (.iload_n 1, 1) := by decide +kernel
theorem dX11_sure_2 : decode cX11_sure 2 = .ok (.iload_n 2, 1) := by decide +kernel
theorem dX11_sure_3 : decode cX11_sure 3 = .ok (.invokevirtual 231, 3) := by decide +kernel
theorem dX11_sure_6 : decode cX11_sure 6 = .ok (.istore 5, 2) := by decide +kernel
theorem dX11_sure_8 : decode cX11_sure 8 = .ok (.iload 5, 2) := by decide +kernel
theorem dX11_sure_10 : decode cX11_sure 10 = .ok (.ifCond .eq 6, 3) := by decide +kernel
theorem dX11_sure_13 : decode cX11_sure 13 = .ok (.iload 5, 2) := by decide +kernel
theorem dX11_sure_15 : decode cX11_sure 15 = .ok (.ireturn, 1) := by decide +kernel
theorem dX11_sure_16 : decode cX11_sure 16 = .ok (.iload 4, 2) := by decide +kernel
theorem dX11_sure_18 : decode cX11_sure 18 = .ok (.i2l, 1) := by decide +kernel
theorem dX11_sure_19 : decode cX11_sure 19 = .ok (.lconst 1, 1) := by decide +kernel
theorem dX11_sure_20 : decode cX11_sure 20 = .ok (.ldc2_w 259, 3) := by decide +kernel
theorem dX11_sure_23 : decode cX11_sure 23 = .ok (.invokestatic 55, 3) := by decide +kernel
theorem dX11_sure_26 : decode cX11_sure 26 = .ok (.ifCond .eq 15, 3) := by decide +kernel
theorem dX11_sure_29 : decode cX11_sure 29 = .ok (.iload_n 3, 1) := by decide +kernel
theorem dX11_sure_30 : decode cX11_sure 30 = .ok (.i2l, 1) := by decide +kernel
theorem dX11_sure_31 : decode cX11_sure 31 = .ok (.lconst 0, 1) := by decide +kernel
theorem dX11_sure_32 : decode cX11_sure 32 = .ok (.iload 4, 2) := by decide +kernel
theorem dX11_sure_34 : decode cX11_sure 34 = .ok (.i2l, 1) := by decide +kernel
theorem dX11_sure_35 : decode cX11_sure 35 = .ok (.invokestatic 55, 3) := by decide +kernel
theorem dX11_sure_38 : decode cX11_sure 38 = .ok (.ifCond .ne 6, 3) := by decide +kernel
theorem dX11_sure_41 : decode cX11_sure 41 = .ok (.bipush (-3), 2) := by decide +kernel
theorem dX11_sure_43 : decode cX11_sure 43 = .ok (.ireturn, 1) := by decide +kernel
theorem dX11_sure_44 : decode cX11_sure 44 = .ok (.aload_n 0, 1) := by decide +kernel
theorem dX11_sure_45 : decode cX11_sure 45 = .ok (.iload_n 1, 1) := by decide +kernel
theorem dX11_sure_46 : decode cX11_sure 46 = .ok (.iload_n 2, 1) := by decide +kernel
theorem dX11_sure_47 : decode cX11_sure 47 = .ok (.invokevirtual 241, 3) := by decide +kernel
theorem dX11_sure_50 : decode cX11_sure 50 = .ok (.iconst (-1), 1) := by decide +kernel
theorem dX11_sure_51 : decode cX11_sure 51 = .ok (.istore 6, 2) := by decide +kernel
theorem dX11_sure_53 : decode cX11_sure 53 = .ok (.iconst 0, 1) := by decide +kernel
theorem dX11_sure_54 : decode cX11_sure 54 = .ok (.istore 7, 2) := by decide +kernel
theorem dX11_sure_56 : decode cX11_sure 56 = .ok (.iload 7, 2) := by decide +kernel
theorem dX11_sure_58 : decode cX11_sure 58 = .ok (.sipush 256, 3) := by decide +kernel
theorem dX11_sure_61 : decode cX11_sure 61 = .ok (.if_icmp .ge 81, 3) := by decide +kernel
theorem dX11_sure_64 : decode cX11_sure 64 = .ok (.aload_n 0, 1) := by decide +kernel
theorem dX11_sure_65 : decode cX11_sure 65 = .ok (.iload 7, 2) := by decide +kernel
theorem dX11_sure_67 : decode cX11_sure 67 = .ok (.invokevirtual 162, 3) := by decide +kernel
theorem dX11_sure_70 : decode cX11_sure 70 = .ok (.ifCond .eq 28, 3) := by decide +kernel
theorem dX11_sure_73 : decode cX11_sure 73 = .ok (.iload 6, 2) := by decide +kernel
theorem dX11_sure_75 : decode cX11_sure 75 = .ok (.iconst (-1), 1) := by decide +kernel
theorem dX11_sure_76 : decode cX11_sure 76 = .ok (.if_icmp .eq 18, 3) := by decide +kernel
theorem dX11_sure_79 : decode cX11_sure 79 = .ok (.aload_n 0, 1) := by decide +kernel
theorem dX11_sure_80 : decode cX11_sure 80 = .ok (.iload 7, 2) := by decide +kernel
theorem dX11_sure_82 : decode cX11_sure 82 = .ok (.invokevirtual 156, 3) := by decide +kernel
theorem dX11_sure_85 : decode cX11_sure 85 = .ok (.aload_n 0, 1) := by decide +kernel
theorem dX11_sure_86 : decode cX11_sure 86 = .ok (.iload 6, 2) := by decide +kernel
theorem dX11_sure_88 : decode cX11_sure 88 = .ok (.invokevirtual 156, 3) := by decide +kernel
theorem dX11_sure_91 : decode cX11_sure 91 = .ok (.if_icmp .ge 7, 3) := by decide +kernel
theorem dX11_sure_94 : decode cX11_sure 94 = .ok (.iconst 1, 1) := by decide +kernel
theorem dX11_sure_95 : decode cX11_sure 95 = .ok (.goto 4, 3) := by decide +kernel
theorem dX11_sure_98 : decode cX11_sure 98 = .ok (.iconst 0, 1) := by decide +kernel
theorem dX11_sure_99 : decode cX11_sure 99 = .ok (.istore 8, 2) := by decide +kernel
theorem dX11_sure_101 : decode cX11_sure 101 = .ok (.iload 8, 2) := by decide +kernel
theorem dX11_sure_103 : decode cX11_sure 103 = .ok (.ifCond .eq 29, 3) := by decide +kernel
theorem dX11_sure_106 : decode cX11_sure 106 = .ok (.aload_n 0, 1) := by decide +kernel
theorem dX11_sure_107 : decode cX11_sure 107 = .ok (.iload 7, 2) := by decide +kernel
theorem dX11_sure_109 : decode cX11_sure 109 = .ok (.invokevirtual 252, 3) := by decide +kernel
theorem dX11_sure_112 : decode cX11_sure 112 = .ok (.iload 4, 2) := by decide +kernel
theorem dX11_sure_114 : decode cX11_sure 114 = .ok (.i2l, 1) := by decide +kernel
theorem dX11_sure_115 : decode cX11_sure 115 = .ok (.lmul, 1) := by decide +kernel
theorem dX11_sure_116 : decode cX11_sure 116 = .ok (.aload_n 0, 1) := by decide +kernel
theorem dX11_sure_117 : decode cX11_sure 117 = .ok (.getfield 197, 3) := by decide +kernel
theorem dX11_sure_120 : decode cX11_sure 120 = .ok (.iload_n 3, 1) := by decide +kernel
theorem dX11_sure_121 : decode cX11_sure 121 = .ok (.i2l, 1) := by decide +kernel
theorem dX11_sure_122 : decode cX11_sure 122 = .ok (.lmul, 1) := by decide +kernel
theorem dX11_sure_123 : decode cX11_sure 123 = .ok (.lcmp, 1) := by decide +kernel
theorem dX11_sure_124 : decode cX11_sure 124 = .ok (.ifCond .lt 8, 3) := by decide +kernel
theorem dX11_sure_127 : decode cX11_sure 127 = .ok (.iload 7, 2) := by decide +kernel
theorem dX11_sure_129 : decode cX11_sure 129 = .ok (.goto 5, 3) := by decide +kernel
theorem dX11_sure_132 : decode cX11_sure 132 = .ok (.iload 6, 2) := by decide +kernel
theorem dX11_sure_134 : decode cX11_sure 134 = .ok (.istore 6, 2) := by decide +kernel
theorem dX11_sure_136 : decode cX11_sure 136 = .ok (.iinc 7 1, 3) := by decide +kernel
theorem dX11_sure_139 : decode cX11_sure 139 = .ok (.goto (-83), 3) := by decide +kernel
theorem dX11_sure_142 : decode cX11_sure 142 = .ok (.iload 6, 2) := by decide +kernel
theorem dX11_sure_144 : decode cX11_sure 144 = .ok (.ireturn, 1) := by decide +kernel
def f_X11_sure_134 (k_56 : St → Int32 → Int32 → Int32 → Int32 → Option (Int32 × St)) (S : St) (x3 : Int32) (x4 : Int32) (x7 : Int32) (t0 : Int32) : Option (Int32 × St) :=
  bnd (x7 + 1 : Int32) fun v1 =>
  k_56 S x3 x4 t0 v1
def f_X11_sure_132 (k_56 : St → Int32 → Int32 → Int32 → Int32 → Option (Int32 × St)) (S : St) (x3 : Int32) (x4 : Int32) (x6 : Int32) (x7 : Int32) : Option (Int32 × St) :=
  f_X11_sure_134 k_56 S x3 x4 x7 x6
def f_X11_sure_99 (k_56 : St → Int32 → Int32 → Int32 → Int32 → Option (Int32 × St)) (S : St) (x3 : Int32) (x4 : Int32) (x6 : Int32) (x7 : Int32) (t0 : Int32) : Option (Int32 × St) :=
  if t0 = 0 then (
    f_X11_sure_132 k_56 S x3 x4 x6 x7
  ) else (
    obd2 (f_X11_doneOf S x7) fun r3 S3 =>
    if (lg_cmp (r3 * (x4.toInt64)) ((S3.2.1 0 23) * (x3.toInt64))) < 0 then (
      f_X11_sure_132 k_56 S3 x3 x4 x6 x7
    ) else (
      f_X11_sure_134 k_56 S3 x3 x4 x7 x7
    )
  )
def f_X11_sure_98 (k_56 : St → Int32 → Int32 → Int32 → Int32 → Option (Int32 × St)) (S : St) (x3 : Int32) (x4 : Int32) (x6 : Int32) (x7 : Int32) : Option (Int32 × St) :=
  f_X11_sure_99 k_56 S x3 x4 x6 x7 0
def f_X11_sure_94 (k_56 : St → Int32 → Int32 → Int32 → Int32 → Option (Int32 × St)) (S : St) (x3 : Int32) (x4 : Int32) (x6 : Int32) (x7 : Int32) : Option (Int32 × St) :=
  f_X11_sure_99 k_56 S x3 x4 x6 x7 1
def f_X11_sure_56 (k_56 : St → Int32 → Int32 → Int32 → Int32 → Option (Int32 × St)) (S : St) (x3 : Int32) (x4 : Int32) (x6 : Int32) (x7 : Int32) : Option (Int32 × St) :=
  if 256 ≤ x7 then (
    some (x6, S)
  ) else (
    obd2 (f_X11_mayBe S x7) fun r6 S6 =>
    if r6 = 0 then (
      f_X11_sure_98 k_56 S6 x3 x4 x6 x7
    ) else (
      if x6 = (-1) then (
        f_X11_sure_94 k_56 S6 x3 x4 x6 x7
      ) else (
        obd2 (f_X11_weight S6 x7) fun r9 S9 =>
        obd2 (f_X11_weight S9 x6) fun r10 S10 =>
        if r10 ≤ r9 then (
          f_X11_sure_98 k_56 S10 x3 x4 x6 x7
        ) else (
          f_X11_sure_94 k_56 S10 x3 x4 x6 x7
        )
      )
    )
  )
def l_X11_sure_56 : Nat → St → Int32 → Int32 → Int32 → Int32 → Option (Int32 × St)
  | 0, _, _, _, _, _ => none
  | fu + 1, S, x3, x4, x6, x7 => f_X11_sure_56 (l_X11_sure_56 fu) S x3 x4 x6 x7
def f_X11_sure (S : St) (x1 : Int32) (x2 : Int32) (x3 : Int32) (x4 : Int32) : Option (Int32 × St) :=
  obd2 (f_X11_refuses S x1 x2) fun r12 S12 =>
  if r12 = 0 then (
    obd2 (f_X11_in S12 (x4.toInt64) (1) (99)) fun r14 S14 =>
    if r14 = 0 then (
      some ((-3), S14)
    ) else (
      obd2 (f_X11_in S14 (x3.toInt64) (0) (x4.toInt64)) fun r16 S16 =>
      if r16 = 0 then (
        some ((-3), S16)
      ) else (
        obd (f_X11_layRow S16 x1 x2) fun S18 =>
        l_X11_sure_56 FU S18 x3 x4 (-1) 0
      )
    )
  ) else (
    some (r12, S12)
  )
set_option maxHeartbeats 4000000 in
set_option maxRecDepth 100000 in
theorem c_X11_sure {l : Launch} {D : va_G} {cI cC cS : ClassId} {ad adK adV : Nat → Nat} {S S1 : St} {x1 : Int32} {x2 : Int32} {x3 : Int32} {x4 : Int32} {r : Int32} (h : f_X11_sure S x1 x2 x3 x4 = some (r, S1)) : Kt l D (mw cI ad) (KX D (xtys cI cC cS) adK adV) yX11_sure cX11_sure 9 (some .int) (4) (105) [.ref (ad 0), .int x1, .int x2, .int x3, .int x4] S (some (.int r)) S1 := by
  refine k_ent (ins := .ireturn) (st := [.int r]) (by decide +kernel) (Nat.le_of_ble_eq_true rfl) ret_i ?_
  intro p e s m args below meth c A Q C hK I hA hq ls hl
  have C : CallFix p m c cX11_sure 9 s args TT RX11 := C
  have hx := C.1
  have hb := C.2.1
  have kx := kx_ok D (xtys cI cC cS) adK adV
  have hl : lv_has ls 9 [(0, .ref (ad 0)), (1, .int x1), (2, .int x2), (3, .int x3), (4, .int x4)] := hl
  have J_134 : ∀ (k_56 : St → Int32 → Int32 → Int32 → Int32 → Option (Int32 × St)) (hk_56 : ∀ (S : St) (x3 : Int32) (x4 : Int32) (x6 : Int32) (x7 : Int32), k_56 S x3 x4 x6 x7 = some (r, S1) → ∀ (H : Heap) (locs : List Loc) (ls : Array Slot), Iv D (mw cI ad) S A s H locs → lv_has ls 9 [(0, .ref (ad 0)), (3, .int x3), (4, .int x4), (6, .int x6), (7, .int x7)] → W p l e ({ frames := 4, cells := 0, slots := 0, locals := 105 } : Room) s m args below meth c H locs 0 0 Q (F0 m 56 ls [])) (S : St) (x3 : Int32) (x4 : Int32) (x7 : Int32) (t0 : Int32), f_X11_sure_134 k_56 S x3 x4 x7 t0 = some (r, S1) → ∀ (H : Heap) (locs : List Loc) (ls : Array Slot), Iv D (mw cI ad) S A s H locs → lv_has ls 9 [(0, .ref (ad 0)), (3, .int x3), (4, .int x4), (7, .int x7)] → W p l e ({ frames := 4, cells := 0, slots := 0, locals := 105 } : Room) s m args below meth c H locs 0 0 Q (F0 m 134 ls [.int t0]) := by
    intro k_56 hk_56 S x3 x4 x7 t0 h H locs ls I hl
    unfold f_X11_sure_134 at h
    refine lv_istore (lv' := [(6, .int t0), (0, .ref (ad 0)), (3, .int x3), (4, .int x4), (7, .int x7)]) hx hb dX11_sure_134 hl (by decide) rfl (fun ls hl => ?_)
    obtain ⟨v1, ev1⟩ : ∃ y : Int32, y = x7 + 1 := ⟨_, rfl⟩
    have h := bnd_at ev1 h
    refine lv_iinc (v := v1) (lv' := [(7, .int v1), (6, .int t0), (0, .ref (ad 0)), (3, .int x3), (4, .int x4)]) hx hb dX11_sure_136 hl (k := 4) rfl (by rw [ev1]; rfl) (by decide) rfl (fun ls hl => ?_)
    clear ev1
    refine lv_goto (tgt := 56) hx hb dX11_sure_139 (by decide) ?_
    exact hk_56 _ _ _ _ _ h _ _ _ I (lv_sub hl [2, 3, 4, 1, 0] rfl)
  have J_132 : ∀ (k_56 : St → Int32 → Int32 → Int32 → Int32 → Option (Int32 × St)) (hk_56 : ∀ (S : St) (x3 : Int32) (x4 : Int32) (x6 : Int32) (x7 : Int32), k_56 S x3 x4 x6 x7 = some (r, S1) → ∀ (H : Heap) (locs : List Loc) (ls : Array Slot), Iv D (mw cI ad) S A s H locs → lv_has ls 9 [(0, .ref (ad 0)), (3, .int x3), (4, .int x4), (6, .int x6), (7, .int x7)] → W p l e ({ frames := 4, cells := 0, slots := 0, locals := 105 } : Room) s m args below meth c H locs 0 0 Q (F0 m 56 ls [])) (S : St) (x3 : Int32) (x4 : Int32) (x6 : Int32) (x7 : Int32), f_X11_sure_132 k_56 S x3 x4 x6 x7 = some (r, S1) → ∀ (H : Heap) (locs : List Loc) (ls : Array Slot), Iv D (mw cI ad) S A s H locs → lv_has ls 9 [(0, .ref (ad 0)), (3, .int x3), (4, .int x4), (6, .int x6), (7, .int x7)] → W p l e ({ frames := 4, cells := 0, slots := 0, locals := 105 } : Room) s m args below meth c H locs 0 0 Q (F0 m 132 ls []) := by
    intro k_56 hk_56 S x3 x4 x6 x7 h H locs ls I hl
    unfold f_X11_sure_132 at h
    refine lv_iload hx hb dX11_sure_132 (lv_at hl 3 rfl) ?_
    exact J_134 k_56 hk_56 _ _ _ _ _ h _ _ _ I (lv_sub hl [0, 1, 2, 4] rfl)
  have J_99 : ∀ (k_56 : St → Int32 → Int32 → Int32 → Int32 → Option (Int32 × St)) (hk_56 : ∀ (S : St) (x3 : Int32) (x4 : Int32) (x6 : Int32) (x7 : Int32), k_56 S x3 x4 x6 x7 = some (r, S1) → ∀ (H : Heap) (locs : List Loc) (ls : Array Slot), Iv D (mw cI ad) S A s H locs → lv_has ls 9 [(0, .ref (ad 0)), (3, .int x3), (4, .int x4), (6, .int x6), (7, .int x7)] → W p l e ({ frames := 4, cells := 0, slots := 0, locals := 105 } : Room) s m args below meth c H locs 0 0 Q (F0 m 56 ls [])) (S : St) (x3 : Int32) (x4 : Int32) (x6 : Int32) (x7 : Int32) (t0 : Int32), f_X11_sure_99 k_56 S x3 x4 x6 x7 t0 = some (r, S1) → ∀ (H : Heap) (locs : List Loc) (ls : Array Slot), Iv D (mw cI ad) S A s H locs → lv_has ls 9 [(0, .ref (ad 0)), (3, .int x3), (4, .int x4), (6, .int x6), (7, .int x7)] → W p l e ({ frames := 4, cells := 0, slots := 0, locals := 105 } : Room) s m args below meth c H locs 0 0 Q (F0 m 99 ls [.int t0]) := by
    intro k_56 hk_56 S x3 x4 x6 x7 t0 h H locs ls I hl
    unfold f_X11_sure_99 at h
    refine lv_istore (lv' := [(8, .int t0), (0, .ref (ad 0)), (3, .int x3), (4, .int x4), (6, .int x6), (7, .int x7)]) hx hb dX11_sure_99 hl (by decide) rfl (fun ls hl => ?_)
    refine lv_iload hx hb dX11_sure_101 (lv_at hl 0 rfl) ?_
    refine lv_if_eq (tgt := 132) hx hb dX11_sure_103 (by decide) (fun c2 => ?_) (fun c2 => ?_)
    · have h := ite_t c2 h
      exact J_132 k_56 hk_56 _ _ _ _ _ h _ _ _ I (lv_sub hl [1, 2, 3, 4, 5] rfl)
    · have h := ite_n c2 h
      refine lv_aload_n hx hb dX11_sure_106 rfl (lv_at hl 1 rfl) ?_
      refine lv_iload hx hb dX11_sure_107 (lv_at hl 5 rfl) ?_
      obtain ⟨r3, S3, e3, h⟩ := obd2_ex h
      refine k_V (As := [.int x7]) (rest := []) (st1 := [.long r3]) C kx hK I hA (c_X11_doneOf e3) ⟨Nat.le_of_ble_eq_true rfl, Nat.le_of_ble_eq_true rfl⟩ mv_X11_doneOf lk_X11_252 0 11 (mw_0 (cI := cI) (ad := ad)) rfl rfl hl.1 rfl (Nat.le_of_ble_eq_true rfl) dX11_sure_109 rfl (fun H locs I => ?_)
      refine lv_iload hx hb dX11_sure_112 (lv_at hl 3 rfl) ?_
      refine lv_i2l hx hb dX11_sure_114 rfl ?_
      refine lv_lmul hx hb dX11_sure_115 ?_
      refine lv_aload_n hx hb dX11_sure_116 rfl (lv_at hl 1 rfl) ?_
      refine gm_0_23 C hK I fl_X11_197 dX11_sure_117 ?_
      refine lv_iload_n hx hb dX11_sure_120 rfl (lv_at hl 2 rfl) ?_
      refine lv_i2l hx hb dX11_sure_121 rfl ?_
      refine lv_lmul hx hb dX11_sure_122 ?_
      refine W.lcmp hx hb dX11_sure_123 ?_
      refine lv_if_lt (tgt := 132) hx hb dX11_sure_124 (by decide) (fun c4 => ?_) (fun c4 => ?_)
      · have h := ite_t c4 h
        exact J_132 k_56 hk_56 _ _ _ _ _ h _ _ _ I (lv_sub hl [1, 2, 3, 4, 5] rfl)
      · have h := ite_n c4 h
        refine lv_iload hx hb dX11_sure_127 (lv_at hl 5 rfl) ?_
        refine lv_goto (tgt := 134) hx hb dX11_sure_129 (by decide) ?_
        exact J_134 k_56 hk_56 _ _ _ _ _ h _ _ _ I (lv_sub hl [1, 2, 3, 5] rfl)
  have J_98 : ∀ (k_56 : St → Int32 → Int32 → Int32 → Int32 → Option (Int32 × St)) (hk_56 : ∀ (S : St) (x3 : Int32) (x4 : Int32) (x6 : Int32) (x7 : Int32), k_56 S x3 x4 x6 x7 = some (r, S1) → ∀ (H : Heap) (locs : List Loc) (ls : Array Slot), Iv D (mw cI ad) S A s H locs → lv_has ls 9 [(0, .ref (ad 0)), (3, .int x3), (4, .int x4), (6, .int x6), (7, .int x7)] → W p l e ({ frames := 4, cells := 0, slots := 0, locals := 105 } : Room) s m args below meth c H locs 0 0 Q (F0 m 56 ls [])) (S : St) (x3 : Int32) (x4 : Int32) (x6 : Int32) (x7 : Int32), f_X11_sure_98 k_56 S x3 x4 x6 x7 = some (r, S1) → ∀ (H : Heap) (locs : List Loc) (ls : Array Slot), Iv D (mw cI ad) S A s H locs → lv_has ls 9 [(0, .ref (ad 0)), (3, .int x3), (4, .int x4), (6, .int x6), (7, .int x7)] → W p l e ({ frames := 4, cells := 0, slots := 0, locals := 105 } : Room) s m args below meth c H locs 0 0 Q (F0 m 98 ls []) := by
    intro k_56 hk_56 S x3 x4 x6 x7 h H locs ls I hl
    unfold f_X11_sure_98 at h
    refine lv_iconst (v := 0) hx hb dX11_sure_98 (by decide) ?_
    exact J_99 k_56 hk_56 _ _ _ _ _ _ h _ _ _ I (lv_sub hl [0, 1, 2, 3, 4] rfl)
  have J_94 : ∀ (k_56 : St → Int32 → Int32 → Int32 → Int32 → Option (Int32 × St)) (hk_56 : ∀ (S : St) (x3 : Int32) (x4 : Int32) (x6 : Int32) (x7 : Int32), k_56 S x3 x4 x6 x7 = some (r, S1) → ∀ (H : Heap) (locs : List Loc) (ls : Array Slot), Iv D (mw cI ad) S A s H locs → lv_has ls 9 [(0, .ref (ad 0)), (3, .int x3), (4, .int x4), (6, .int x6), (7, .int x7)] → W p l e ({ frames := 4, cells := 0, slots := 0, locals := 105 } : Room) s m args below meth c H locs 0 0 Q (F0 m 56 ls [])) (S : St) (x3 : Int32) (x4 : Int32) (x6 : Int32) (x7 : Int32), f_X11_sure_94 k_56 S x3 x4 x6 x7 = some (r, S1) → ∀ (H : Heap) (locs : List Loc) (ls : Array Slot), Iv D (mw cI ad) S A s H locs → lv_has ls 9 [(0, .ref (ad 0)), (3, .int x3), (4, .int x4), (6, .int x6), (7, .int x7)] → W p l e ({ frames := 4, cells := 0, slots := 0, locals := 105 } : Room) s m args below meth c H locs 0 0 Q (F0 m 94 ls []) := by
    intro k_56 hk_56 S x3 x4 x6 x7 h H locs ls I hl
    unfold f_X11_sure_94 at h
    refine lv_iconst (v := 1) hx hb dX11_sure_94 (by decide) ?_
    refine lv_goto (tgt := 99) hx hb dX11_sure_95 (by decide) ?_
    exact J_99 k_56 hk_56 _ _ _ _ _ _ h _ _ _ I (lv_sub hl [0, 1, 2, 3, 4] rfl)
  have B_56 : ∀ (k_56 : St → Int32 → Int32 → Int32 → Int32 → Option (Int32 × St)) (hk_56 : ∀ (S : St) (x3 : Int32) (x4 : Int32) (x6 : Int32) (x7 : Int32), k_56 S x3 x4 x6 x7 = some (r, S1) → ∀ (H : Heap) (locs : List Loc) (ls : Array Slot), Iv D (mw cI ad) S A s H locs → lv_has ls 9 [(0, .ref (ad 0)), (3, .int x3), (4, .int x4), (6, .int x6), (7, .int x7)] → W p l e ({ frames := 4, cells := 0, slots := 0, locals := 105 } : Room) s m args below meth c H locs 0 0 Q (F0 m 56 ls [])) (S : St) (x3 : Int32) (x4 : Int32) (x6 : Int32) (x7 : Int32), f_X11_sure_56 k_56 S x3 x4 x6 x7 = some (r, S1) → ∀ (H : Heap) (locs : List Loc) (ls : Array Slot), Iv D (mw cI ad) S A s H locs → lv_has ls 9 [(0, .ref (ad 0)), (3, .int x3), (4, .int x4), (6, .int x6), (7, .int x7)] → W p l e ({ frames := 4, cells := 0, slots := 0, locals := 105 } : Room) s m args below meth c H locs 0 0 Q (F0 m 56 ls []) := by
    intro k_56 hk_56 S x3 x4 x6 x7 h H locs ls I hl
    unfold f_X11_sure_56 at h
    refine lv_iload hx hb dX11_sure_56 (lv_at hl 4 rfl) ?_
    refine lv_sipush (v := 256) hx hb dX11_sure_58 (by decide) ?_
    refine lv_icmp_ge (tgt := 142) hx hb dX11_sure_61 (by decide) (fun c5 => ?_) (fun c5 => ?_)
    · have h := ite_t c5 h
      refine lv_iload hx hb dX11_sure_142 (lv_at hl 3 rfl) ?_
      exact rt_i hq h I dX11_sure_144
    · have h := ite_n c5 h
      refine lv_aload_n hx hb dX11_sure_64 rfl (lv_at hl 0 rfl) ?_
      refine lv_iload hx hb dX11_sure_65 (lv_at hl 4 rfl) ?_
      obtain ⟨r6, S6, e6, h⟩ := obd2_ex h
      refine k_V (As := [.int x7]) (rest := []) (st1 := [.int r6]) C kx hK I hA (c_X11_mayBe e6) ⟨Nat.le_of_ble_eq_true rfl, Nat.le_of_ble_eq_true rfl⟩ mv_X11_mayBe lk_X11_162 0 11 (mw_0 (cI := cI) (ad := ad)) rfl rfl hl.1 rfl (Nat.le_of_ble_eq_true rfl) dX11_sure_67 rfl (fun H locs I => ?_)
      refine lv_if_eq (tgt := 98) hx hb dX11_sure_70 (by decide) (fun c7 => ?_) (fun c7 => ?_)
      · have h := ite_t c7 h
        exact J_98 k_56 hk_56 _ _ _ _ _ h _ _ _ I (lv_sub hl [0, 1, 2, 3, 4] rfl)
      · have h := ite_n c7 h
        refine lv_iload hx hb dX11_sure_73 (lv_at hl 3 rfl) ?_
        refine lv_iconst (v := (-1)) hx hb dX11_sure_75 (by decide) ?_
        refine lv_icmp_eq (tgt := 94) hx hb dX11_sure_76 (by decide) (fun c8 => ?_) (fun c8 => ?_)
        · have h := ite_t c8 h
          exact J_94 k_56 hk_56 _ _ _ _ _ h _ _ _ I (lv_sub hl [0, 1, 2, 3, 4] rfl)
        · have h := ite_n c8 h
          refine lv_aload_n hx hb dX11_sure_79 rfl (lv_at hl 0 rfl) ?_
          refine lv_iload hx hb dX11_sure_80 (lv_at hl 4 rfl) ?_
          obtain ⟨r9, S9, e9, h⟩ := obd2_ex h
          refine k_V (As := [.int x7]) (rest := []) (st1 := [.int r9]) C kx hK I hA (c_X11_weight e9) ⟨Nat.le_of_ble_eq_true rfl, Nat.le_of_ble_eq_true rfl⟩ mv_X11_weight lk_X11_156 0 11 (mw_0 (cI := cI) (ad := ad)) rfl rfl hl.1 rfl (Nat.le_of_ble_eq_true rfl) dX11_sure_82 rfl (fun H locs I => ?_)
          refine lv_aload_n hx hb dX11_sure_85 rfl (lv_at hl 0 rfl) ?_
          refine lv_iload hx hb dX11_sure_86 (lv_at hl 3 rfl) ?_
          obtain ⟨r10, S10, e10, h⟩ := obd2_ex h
          refine k_V (As := [.int x6]) (rest := [.int r9]) (st1 := [.int r10, .int r9]) C kx hK I hA (c_X11_weight e10) ⟨Nat.le_of_ble_eq_true rfl, Nat.le_of_ble_eq_true rfl⟩ mv_X11_weight lk_X11_156 0 11 (mw_0 (cI := cI) (ad := ad)) rfl rfl hl.1 rfl (Nat.le_of_ble_eq_true rfl) dX11_sure_88 rfl (fun H locs I => ?_)
          refine lv_icmp_ge (tgt := 98) hx hb dX11_sure_91 (by decide) (fun c11 => ?_) (fun c11 => ?_)
          · have h := ite_t c11 h
            exact J_98 k_56 hk_56 _ _ _ _ _ h _ _ _ I (lv_sub hl [0, 1, 2, 3, 4] rfl)
          · have h := ite_n c11 h
            exact J_94 k_56 hk_56 _ _ _ _ _ h _ _ _ I (lv_sub hl [0, 1, 2, 3, 4] rfl)
  have J_56 : ∀ (fu : Nat) (S : St) (x3 : Int32) (x4 : Int32) (x6 : Int32) (x7 : Int32), l_X11_sure_56  fu S x3 x4 x6 x7 = some (r, S1) → ∀ (H : Heap) (locs : List Loc) (ls : Array Slot), Iv D (mw cI ad) S A s H locs → lv_has ls 9 [(0, .ref (ad 0)), (3, .int x3), (4, .int x4), (6, .int x6), (7, .int x7)] → W p l e ({ frames := 4, cells := 0, slots := 0, locals := 105 } : Room) s m args below meth c H locs 0 0 Q (F0 m 56 ls []) := by
    intro fu
    induction fu with
    | zero => intro S x3 x4 x6 x7 h; cases h
    | succ fu ih => intro S x3 x4 x6 x7 h; exact B_56 (l_X11_sure_56 fu) ih S x3 x4 x6 x7 h
  unfold f_X11_sure at h
  refine lv_aload_n hx hb dX11_sure_0 rfl (lv_at hl 0 rfl) ?_
  refine lv_iload_n hx hb dX11_sure_1 rfl (lv_at hl 1 rfl) ?_
  refine lv_iload_n hx hb dX11_sure_2 rfl (lv_at hl 2 rfl) ?_
  obtain ⟨r12, S12, e12, h⟩ := obd2_ex h
  refine k_V (As := [.int x1, .int x2]) (rest := []) (st1 := [.int r12]) C kx hK I hA (c_X11_refuses e12) ⟨Nat.le_of_ble_eq_true rfl, Nat.le_of_ble_eq_true rfl⟩ mv_X11_refuses lk_X11_231 0 11 (mw_0 (cI := cI) (ad := ad)) rfl rfl hl.1 rfl (Nat.le_of_ble_eq_true rfl) dX11_sure_3 rfl (fun H locs I => ?_)
  refine lv_istore (lv' := [(5, .int r12), (0, .ref (ad 0)), (1, .int x1), (2, .int x2), (3, .int x3), (4, .int x4)]) hx hb dX11_sure_6 hl (by decide) rfl (fun ls hl => ?_)
  refine lv_iload hx hb dX11_sure_8 (lv_at hl 0 rfl) ?_
  refine lv_if_eq (tgt := 16) hx hb dX11_sure_10 (by decide) (fun c13 => ?_) (fun c13 => ?_)
  · have h := ite_t c13 h
    refine lv_iload hx hb dX11_sure_16 (lv_at hl 5 rfl) ?_
    refine lv_i2l hx hb dX11_sure_18 rfl ?_
    refine lv_lconst (v := (1)) hx hb dX11_sure_19 (by decide) ?_
    refine lv_ldc2 (v := (99)) hx hb C.2.2.2.1 (C.2.2.2.2 _ cn_X11_259) dX11_sure_20 ?_
    obtain ⟨r14, S14, e14, h⟩ := obd2_ex h
    refine k_S (As := [.long (x4.toInt64), .long (1), .long (99)]) (rest := []) (st1 := [.int r14]) C kx hK I hA (c_X11_in e14) ⟨Nat.le_of_ble_eq_true rfl, Nat.le_of_ble_eq_true rfl⟩ ms_X11_in lk_X11_55 rfl hl.1 rfl (Nat.le_of_ble_eq_true rfl) dX11_sure_23 rfl (fun H locs I => ?_)
    refine lv_if_eq (tgt := 41) hx hb dX11_sure_26 (by decide) (fun c15 => ?_) (fun c15 => ?_)
    · have h := ite_t c15 h
      refine lv_bipush (v := (-3)) hx hb dX11_sure_41 (by decide) ?_
      exact rt_i hq h I dX11_sure_43
    · have h := ite_n c15 h
      refine lv_iload_n hx hb dX11_sure_29 rfl (lv_at hl 4 rfl) ?_
      refine lv_i2l hx hb dX11_sure_30 rfl ?_
      refine lv_lconst (v := (0)) hx hb dX11_sure_31 (by decide) ?_
      refine lv_iload hx hb dX11_sure_32 (lv_at hl 5 rfl) ?_
      refine lv_i2l hx hb dX11_sure_34 rfl ?_
      obtain ⟨r16, S16, e16, h⟩ := obd2_ex h
      refine k_S (As := [.long (x3.toInt64), .long (0), .long (x4.toInt64)]) (rest := []) (st1 := [.int r16]) C kx hK I hA (c_X11_in e16) ⟨Nat.le_of_ble_eq_true rfl, Nat.le_of_ble_eq_true rfl⟩ ms_X11_in lk_X11_55 rfl hl.1 rfl (Nat.le_of_ble_eq_true rfl) dX11_sure_35 rfl (fun H locs I => ?_)
      refine lv_if_ne (tgt := 44) hx hb dX11_sure_38 (by decide) (fun c17 => ?_) (fun c17 => ?_)
      · have h := ite_n c17 h
        refine lv_aload_n hx hb dX11_sure_44 rfl (lv_at hl 1 rfl) ?_
        refine lv_iload_n hx hb dX11_sure_45 rfl (lv_at hl 2 rfl) ?_
        refine lv_iload_n hx hb dX11_sure_46 rfl (lv_at hl 3 rfl) ?_
        obtain ⟨S18, e18, h⟩ := obd_ex h
        refine k_V (As := [.int x1, .int x2]) (rest := []) (st1 := []) C kx hK I hA (c_X11_layRow e18) ⟨Nat.le_of_ble_eq_true rfl, Nat.le_of_ble_eq_true rfl⟩ mv_X11_layRow lk_X11_241 0 11 (mw_0 (cI := cI) (ad := ad)) rfl rfl hl.1 rfl (Nat.le_of_ble_eq_true rfl) dX11_sure_47 rfl (fun H locs I => ?_)
        refine lv_iconst (v := (-1)) hx hb dX11_sure_50 (by decide) ?_
        refine lv_istore (lv' := [(6, .int (-1)), (5, .int r12), (0, .ref (ad 0)), (1, .int x1), (2, .int x2), (3, .int x3), (4, .int x4)]) hx hb dX11_sure_51 hl (by decide) rfl (fun ls hl => ?_)
        refine lv_iconst (v := 0) hx hb dX11_sure_53 (by decide) ?_
        refine lv_istore (lv' := [(7, .int 0), (6, .int (-1)), (5, .int r12), (0, .ref (ad 0)), (1, .int x1), (2, .int x2), (3, .int x3), (4, .int x4)]) hx hb dX11_sure_54 hl (by decide) rfl (fun ls hl => ?_)
        exact J_56 _ _ _ _ _ _ h _ _ _ I (lv_sub hl [3, 6, 7, 1, 0] rfl)
      · have h := ite_t c17 h
        refine lv_bipush (v := (-3)) hx hb dX11_sure_41 (by decide) ?_
        exact rt_i hq h I dX11_sure_43
  · have h := ite_n c13 h
    refine lv_iload hx hb dX11_sure_13 (lv_at hl 0 rfl) ?_
    exact rt_i hq h I dX11_sure_15
theorem cn_X11_261 : Cond.constantLong RX11 261 ((-9000000000000000000)) ∈ TT := tt_of 1426 (by decide +kernel) rfl
theorem dX11_know_0 : decode cX11_know 0 = .ok (.aload_n 0, 1) := by decide +kernel
theorem dX11_know_1 : decode cX11_know 1 = .ok (.iload_n 1, 1) := by decide +kernel
theorem dX11_know_2 : decode cX11_know 2 = .ok (.iload_n 2, 1) := by decide +kernel
theorem dX11_know_3 : decode cX11_know 3 = .ok (.invokevirtual 231, 3) := by decide +kernel
theorem dX11_know_6 : decode cX11_know 6 = .ok (.istore 5, 2) := by decide +kernel
theorem dX11_know_8 : decode cX11_know 8 = .ok (.iload_n 2, 1) := by decide +kernel
theorem dX11_know_9 : decode cX11_know 9 = .ok (.i2l, 1) := by decide +kernel
theorem dX11_know_10 : decode cX11_know 10 = .ok (.lconst 1, 1) := by decide +kernel
theorem dX11_know_11 : decode cX11_know 11 = .ok (.ldc2_w 189, 3) := by decide +kernel
theorem dX11_know_14 : decode cX11_know 14 = .ok (.invokestatic 55, 3) := by decide +kernel
theorem dX11_know_17 : decode cX11_know 17 = .ok (.ifCond .ne 7, 3) := by decide +kernel
theorem dX11_know_20 : decode cX11_know 20 = .ok (.ldc2_w 239, 3) := by decide +kernel
theorem dX11_know_23 : decode cX11_know 23 = .ok (.lreturn, 1) := by decide +kernel
theorem dX11_know_24 : decode cX11_know 24 = .ok (.iconst (-1), 1) := by decide +kernel
theorem dX11_know_25 : decode cX11_know 25 = .ok (.istore 6, 2) := by decide +kernel
theorem dX11_know_27 : decode cX11_know 27 = .ok (.iconst 0, 1) := by decide +kernel
theorem dX11_know_28 : decode cX11_know 28 = .ok (.istore 7, 2) := by decide +kernel
theorem dX11_know_30 : decode cX11_know 30 = .ok (.iload 7, 2) := by decide +kernel
theorem dX11_know_32 : decode cX11_know 32 = .ok (.iload_n 2, 1) := by decide +kernel
theorem dX11_know_33 : decode cX11_know 33 = .ok (.if_icmp .ge 37, 3) := by decide +kernel
theorem dX11_know_36 : decode cX11_know 36 = .ok (.iload_n 3, 1) := by decide +kernel
theorem dX11_know_37 : decode cX11_know 37 = .ok (.bipush 6, 2) := by decide +kernel
theorem dX11_know_39 : decode cX11_know 39 = .ok (.if_icmp .eq 21, 3) := by decide +kernel
theorem dX11_know_42 : decode cX11_know 42 = .ok (.iload_n 1, 1) := by decide +kernel
theorem dX11_know_43 : decode cX11_know 43 = .ok (.iconst 4, 1) := by decide +kernel
theorem dX11_know_44 : decode cX11_know 44 = .ok (.iload 7, 2) := by decide +kernel
theorem dX11_know_46 : decode cX11_know 46 = .ok (.imul, 1) := by decide +kernel
theorem dX11_know_47 : decode cX11_know 47 = .ok (.ishr, 1) := by decide +kernel
theorem dX11_know_48 : decode cX11_know 48 = .ok (.bipush 15, 2) := by decide +kernel
theorem dX11_know_50 : decode cX11_know 50 = .ok (.iand, 1) := by decide +kernel
theorem dX11_know_51 : decode cX11_know 51 = .ok (.iload_n 3, 1) := by decide +kernel
theorem dX11_know_52 : decode cX11_know 52 = .ok (.if_icmp .ne 8, 3) := by decide +kernel
theorem dX11_know_55 : decode cX11_know 55 = .ok (.iload 7, 2) := by decide +kernel
theorem dX11_know_57 : decode cX11_know 57 = .ok (.goto 5, 3) := by decide +kernel
theorem dX11_know_60 : decode cX11_know 60 = .ok (.iload 6, 2) := by decide +kernel
theorem dX11_know_62 : decode cX11_know 62 = .ok (.istore 6, 2) := by decide +kernel
theorem dX11_know_64 : decode cX11_know 64 = .ok (.iinc 7 1, 3) := by decide +kernel
theorem dX11_know_67 : decode cX11_know 67 = .ok (.goto (-37), 3) := by decide +kernel
theorem dX11_know_70 : decode cX11_know 70 = .ok (.iload 5, 2) := by decide +kernel
theorem dX11_know_72 : decode cX11_know 72 = .ok (.bipush (-2), 2) := by decide +kernel
theorem dX11_know_74 : decode cX11_know 74 = .ok (.if_icmp .eq 9, 3) := by decide +kernel
theorem dX11_know_77 : decode cX11_know 77 = .ok (.iload 6, 2) := by decide +kernel
theorem dX11_know_79 : decode cX11_know 79 = .ok (.iconst (-1), 1) := by decide +kernel
theorem dX11_know_80 : decode cX11_know 80 = .ok (.if_icmp .ne 7, 3) := by decide +kernel
theorem dX11_know_83 : decode cX11_know 83 = .ok (.ldc2_w 237, 3) := by decide +kernel
theorem dX11_know_86 : decode cX11_know 86 = .ok (.lreturn, 1) := by decide +kernel
theorem dX11_know_87 : decode cX11_know 87 = .ok (.iload 5, 2) := by decide +kernel
theorem dX11_know_89 : decode cX11_know 89 = .ok (.ifCond .ne 11, 3) := by decide +kernel
theorem dX11_know_92 : decode cX11_know 92 = .ok (.iload 4, 2) := by decide +kernel
theorem dX11_know_94 : decode cX11_know 94 = .ok (.invokestatic 179, 3) := by decide +kernel
theorem dX11_know_97 : decode cX11_know 97 = .ok (.ifCond .ne 7, 3) := by decide +kernel
theorem dX11_know_100 : decode cX11_know 100 = .ok (.ldc2_w 239, 3) := by decide +kernel
theorem dX11_know_103 : decode cX11_know 103 = .ok (.lreturn, 1) := by decide +kernel
theorem dX11_know_104 : decode cX11_know 104 = .ok (.aload_n 0, 1) := by decide +kernel
theorem dX11_know_105 : decode cX11_know 105 = .ok (.iload_n 1, 1) := by decide +kernel
theorem dX11_know_106 : decode cX11_know 106 = .ok (.iload_n 2, 1) := by decide +kernel
theorem dX11_know_107 : decode cX11_know 107 = .ok (.invokevirtual 241, 3) := by decide +kernel
theorem dX11_know_110 : decode cX11_know 110 = .ok (.aload_n 0, 1) := by decide +kernel
theorem dX11_know_111 : decode cX11_know 111 = .ok (.aload_n 0, 1) := by decide +kernel
theorem dX11_know_112 : decode cX11_know 112 = .ok (.invokevirtual 256, 3) := by decide +kernel
theorem dX11_know_115 : decode cX11_know 115 = .ok (.iconst (-1), 1) := by decide +kernel
theorem dX11_know_116 : decode cX11_know 116 = .ok (.iconst 0, 1) := by decide +kernel
theorem dX11_know_117 : decode cX11_know 117 = .ok (.invokevirtual 244, 3) := by decide +kernel
theorem dX11_know_120 : decode cX11_know 120 = .ok (.lneg, 1) := by decide +kernel
theorem dX11_know_121 : decode cX11_know 121 = .ok (.lstore 7, 2) := by decide +kernel
theorem dX11_know_123 : decode cX11_know 123 = .ok (.iconst 0, 1) := by decide +kernel
theorem dX11_know_124 : decode cX11_know 124 = .ok (.istore 9, 2) := by decide +kernel
theorem dX11_know_126 : decode cX11_know 126 = .ok (.iload 9, 2) := by decide +kernel
theorem dX11_know_128 : decode cX11_know 128 = .ok (.aload_n 0, 1) := by decide +kernel
theorem dX11_know_129 : decode cX11_know 129 = .ok (.getfield 38, 3) := by decide +kernel
theorem dX11_know_132 : decode cX11_know 132 = .ok (.iload_n 3, 1) := by decide +kernel
theorem dX11_know_133 : decode cX11_know 133 = .ok (.iaload, 1) := by decide +kernel
theorem dX11_know_134 : decode cX11_know 134 = .ok (.if_icmp .ge 82, 3) := by decide +kernel
theorem dX11_know_137 : decode cX11_know 137 = .ok (.ldc2_w 261, 3) := by decide +kernel
theorem dX11_know_140 : decode cX11_know 140 = .ok (.lstore 10, 2) := by decide +kernel
theorem dX11_know_142 : decode cX11_know 142 = .ok (.iconst 0, 1) := by decide +kernel
theorem dX11_know_143 : decode cX11_know 143 = .ok (.istore 12, 2) := by decide +kernel
theorem dX11_know_145 : decode cX11_know 145 = .ok (.iload 12, 2) := by decide +kernel
theorem dX11_know_147 : decode cX11_know 147 = .ok (.sipush 256, 3) := by decide +kernel
theorem dX11_know_150 : decode cX11_know 150 = .ok (.if_icmp .ge 53, 3) := by decide +kernel
theorem dX11_know_153 : decode cX11_know 153 = .ok (.aload_n 0, 1) := by decide +kernel
theorem dX11_know_154 : decode cX11_know 154 = .ok (.iload 12, 2) := by decide +kernel
theorem dX11_know_156 : decode cX11_know 156 = .ok (.invokevirtual 162, 3) := by decide +kernel
theorem dX11_know_159 : decode cX11_know 159 = .ok (.ifCond .eq 16, 3) := by decide +kernel
theorem dX11_know_162 : decode cX11_know 162 = .ok (.aload_n 0, 1) := by decide +kernel
theorem dX11_know_163 : decode cX11_know 163 = .ok (.iload 12, 2) := by decide +kernel
theorem dX11_know_165 : decode cX11_know 165 = .ok (.iload 6, 2) := by decide +kernel
theorem dX11_know_167 : decode cX11_know 167 = .ok (.iload 9, 2) := by decide +kernel
theorem dX11_know_169 : decode cX11_know 169 = .ok (.invokevirtual 244, 3) := by decide +kernel
theorem dX11_know_172 : decode cX11_know 172 = .ok (.goto 6, 3) := by decide +kernel
theorem dX11_know_175 : decode cX11_know 175 = .ok (.ldc2_w 261, 3) := by decide +kernel
theorem dX11_know_178 : decode cX11_know 178 = .ok (.lstore 13, 2) := by decide +kernel
theorem dX11_know_180 : decode cX11_know 180 = .ok (.lload 13, 2) := by decide +kernel
theorem dX11_know_182 : decode cX11_know 182 = .ok (.lload 10, 2) := by decide +kernel
theorem dX11_know_184 : decode cX11_know 184 = .ok (.lcmp, 1) := by decide +kernel
theorem dX11_know_185 : decode cX11_know 185 = .ok (.ifCond .le 8, 3) := by decide +kernel
theorem dX11_know_188 : decode cX11_know 188 = .ok (.lload 13, 2) := by decide +kernel
theorem dX11_know_190 : decode cX11_know 190 = .ok (.goto 5, 3) := by decide +kernel
theorem dX11_know_193 : decode cX11_know 193 = .ok (.lload 10, 2) := by decide +kernel
theorem dX11_know_195 : decode cX11_know 195 = .ok (.lstore 10, 2) := by decide +kernel
theorem dX11_know_197 : decode cX11_know 197 = .ok (.iinc 12 1, 3) := by decide +kernel
theorem dX11_know_200 : decode cX11_know 200 = .ok (.goto (-55), 3) := by decide +kernel
theorem dX11_know_203 : decode cX11_know 203 = .ok (.lload 7, 2) := by decide +kernel
theorem dX11_know_205 : decode cX11_know 205 = .ok (.lload 10, 2) := by decide +kernel
theorem dX11_know_207 : decode cX11_know 207 = .ok (.ladd, 1) := by decide +kernel
theorem dX11_know_208 : decode cX11_know 208 = .ok (.lstore 7, 2) := by decide +kernel
theorem dX11_know_210 : decode cX11_know 210 = .ok (.iinc 9 1, 3) := by decide +kernel
theorem dX11_know_213 : decode cX11_know 213 = .ok (.goto (-87), 3) := by decide +kernel
theorem dX11_know_216 : decode cX11_know 216 = .ok (.lload 7, 2) := by decide +kernel
theorem dX11_know_218 : decode cX11_know 218 = .ok (.aload_n 0, 1) := by decide +kernel
theorem dX11_know_219 : decode cX11_know 219 = .ok (.getfield 197, 3) := by decide +kernel
theorem dX11_know_222 : decode cX11_know 222 = .ok (.iload 4, 2) := by decide +kernel
theorem dX11_know_224 : decode cX11_know 224 = .ok (.invokestatic 185, 3) := by decide +kernel
theorem dX11_know_227 : decode cX11_know 227 = .ok (.lreturn, 1) := by decide +kernel
def f_X11_know_83 (S : St)  : Option (Int64 × St) :=
  some ((-8999999999999999998), S)
def f_X11_know_100 (S : St)  : Option (Int64 × St) :=
  some ((-8999999999999999997), S)
def f_X11_know_195 (k_126 : St → Int32 → Int32 → Int32 → Int64 → Int32 → Option (Int64 × St)) (k_145 : St → Int32 → Int32 → Int32 → Int64 → Int32 → Int64 → Int32 → Option (Int64 × St)) (S : St) (x3 : Int32) (x4 : Int32) (x6 : Int32) (x7 : Int64) (x9 : Int32) (x12 : Int32) (t0 : Int64) : Option (Int64 × St) :=
  bnd (x12 + 1 : Int32) fun v1 =>
  k_145 S x3 x4 x6 x7 x9 t0 v1
def f_X11_know_178 (k_126 : St → Int32 → Int32 → Int32 → Int64 → Int32 → Option (Int64 × St)) (k_145 : St → Int32 → Int32 → Int32 → Int64 → Int32 → Int64 → Int32 → Option (Int64 × St)) (S : St) (x3 : Int32) (x4 : Int32) (x6 : Int32) (x7 : Int64) (x9 : Int32) (x10 : Int64) (x12 : Int32) (t0 : Int64) : Option (Int64 × St) :=
  if (lg_cmp t0 x10) ≤ 0 then (
    f_X11_know_195 k_126 k_145 S x3 x4 x6 x7 x9 x12 x10
  ) else (
    f_X11_know_195 k_126 k_145 S x3 x4 x6 x7 x9 x12 t0
  )
def f_X11_know_145 (k_126 : St → Int32 → Int32 → Int32 → Int64 → Int32 → Option (Int64 × St)) (k_145 : St → Int32 → Int32 → Int32 → Int64 → Int32 → Int64 → Int32 → Option (Int64 × St)) (S : St) (x3 : Int32) (x4 : Int32) (x6 : Int32) (x7 : Int64) (x9 : Int32) (x10 : Int64) (x12 : Int32) : Option (Int64 × St) :=
  if 256 ≤ x12 then (
    bnd ((x7 + x10) : Int64) fun v4 =>
    bnd (x9 + 1 : Int32) fun v5 =>
    k_126 S x3 x4 x6 v4 v5
  ) else (
    obd2 (f_X11_mayBe S x12) fun r6 S6 =>
    if r6 = 0 then (
      f_X11_know_178 k_126 k_145 S6 x3 x4 x6 x7 x9 x10 x12 (-9000000000000000000)
    ) else (
      obd2 (f_X11_meanOf S6 x12 x6 x9) fun r8 S8 =>
      f_X11_know_178 k_126 k_145 S8 x3 x4 x6 x7 x9 x10 x12 r8
    )
  )
def l_X11_know_145 (k_126 : St → Int32 → Int32 → Int32 → Int64 → Int32 → Option (Int64 × St)) : Nat → St → Int32 → Int32 → Int32 → Int64 → Int32 → Int64 → Int32 → Option (Int64 × St)
  | 0, _, _, _, _, _, _, _, _ => none
  | fu + 1, S, x3, x4, x6, x7, x9, x10, x12 => f_X11_know_145 k_126 (l_X11_know_145 k_126 fu) S x3 x4 x6 x7 x9 x10 x12
def f_X11_know_126 (k_126 : St → Int32 → Int32 → Int32 → Int64 → Int32 → Option (Int64 × St)) (S : St) (x3 : Int32) (x4 : Int32) (x6 : Int32) (x7 : Int64) (x9 : Int32) : Option (Int64 × St) :=
  chk (ixo x3 6) <|
  if (S.1 7 (x3).toNatClampNeg) ≤ x9 then (
    obd2 (f_X11_lowest S x7 (S.2.1 0 23) x4) fun r11 S11 =>
    some (r11, S11)
  ) else (
    l_X11_know_145 k_126 FU S x3 x4 x6 x7 x9 (-9000000000000000000) 0
  )
def l_X11_know_126 : Nat → St → Int32 → Int32 → Int32 → Int64 → Int32 → Option (Int64 × St)
  | 0, _, _, _, _, _, _ => none
  | fu + 1, S, x3, x4, x6, x7, x9 => f_X11_know_126 (l_X11_know_126 fu) S x3 x4 x6 x7 x9
def f_X11_know_62 (k_30 : St → Int32 → Int32 → Int32 → Int32 → Int32 → Int32 → Int32 → Option (Int64 × St)) (S : St) (x1 : Int32) (x2 : Int32) (x3 : Int32) (x4 : Int32) (x5 : Int32) (x7 : Int32) (t0 : Int32) : Option (Int64 × St) :=
  bnd (x7 + 1 : Int32) fun v12 =>
  k_30 S x1 x2 x3 x4 x5 t0 v12
def f_X11_know_60 (k_30 : St → Int32 → Int32 → Int32 → Int32 → Int32 → Int32 → Int32 → Option (Int64 × St)) (S : St) (x1 : Int32) (x2 : Int32) (x3 : Int32) (x4 : Int32) (x5 : Int32) (x6 : Int32) (x7 : Int32) : Option (Int64 × St) :=
  f_X11_know_62 k_30 S x1 x2 x3 x4 x5 x7 x6
def f_X11_know_30 (k_30 : St → Int32 → Int32 → Int32 → Int32 → Int32 → Int32 → Int32 → Option (Int64 × St)) (S : St) (x1 : Int32) (x2 : Int32) (x3 : Int32) (x4 : Int32) (x5 : Int32) (x6 : Int32) (x7 : Int32) : Option (Int64 × St) :=
  if x2 ≤ x7 then (
    if x5 = (-2) then (
      f_X11_know_83 S 
    ) else (
      if x6 = (-1) then (
        f_X11_know_83 S 
      ) else (
        if x5 = 0 then (
          obd2 (f_X11_isPart S x4) fun r17 S17 =>
          if r17 = 0 then (
            f_X11_know_100 S17 
          ) else (
            obd (f_X11_layRow S17 x1 x2) fun S19 =>
            obd2 (f_X11_bestBag S19 ) fun r20 S20 =>
            obd2 (f_X11_meanOf S20 r20 (-1) 0) fun r21 S21 =>
            bnd ((-r21) : Int64) fun v22 =>
            l_X11_know_126 FU S21 x3 x4 x6 v22 0
          )
        ) else (
          f_X11_know_100 S 
        )
      )
    )
  ) else (
    if x3 = 6 then (
      f_X11_know_60 k_30 S x1 x2 x3 x4 x5 x6 x7
    ) else (
      if ((x1 >>> ((4 * x7) &&& 31)) &&& 15) = x3 then (
        f_X11_know_62 k_30 S x1 x2 x3 x4 x5 x7 x7
      ) else (
        f_X11_know_60 k_30 S x1 x2 x3 x4 x5 x6 x7
      )
    )
  )
def l_X11_know_30 : Nat → St → Int32 → Int32 → Int32 → Int32 → Int32 → Int32 → Int32 → Option (Int64 × St)
  | 0, _, _, _, _, _, _, _, _ => none
  | fu + 1, S, x1, x2, x3, x4, x5, x6, x7 => f_X11_know_30 (l_X11_know_30 fu) S x1 x2 x3 x4 x5 x6 x7
def f_X11_know (S : St) (x1 : Int32) (x2 : Int32) (x3 : Int32) (x4 : Int32) : Option (Int64 × St) :=
  obd2 (f_X11_refuses S x1 x2) fun r25 S25 =>
  obd2 (f_X11_in S25 (x2.toInt64) (1) (6)) fun r26 S26 =>
  if r26 = 0 then (
    some ((-8999999999999999997), S26)
  ) else (
    l_X11_know_30 FU S26 x1 x2 x3 x4 r25 (-1) 0
  )
set_option maxHeartbeats 4000000 in
set_option maxRecDepth 100000 in
theorem c_X11_know {l : Launch} {D : va_G} {cI cC cS : ClassId} {ad adK adV : Nat → Nat} {S S1 : St} {x1 : Int32} {x2 : Int32} {x3 : Int32} {x4 : Int32} {r : Int64} (h : f_X11_know S x1 x2 x3 x4 = some (r, S1)) : Kt l D (mw cI ad) (KX D (xtys cI cC cS) adK adV) yX11_know cX11_know 15 (some .long) (5) (134) [.ref (ad 0), .int x1, .int x2, .int x3, .int x4] S (some (.long r)) S1 := by
  refine k_ent (ins := .lreturn) (st := [.long r]) (by decide +kernel) (Nat.le_of_ble_eq_true rfl) ret_l ?_
  intro p e s m args below meth c A Q C hK I hA hq ls hl
  have C : CallFix p m c cX11_know 15 s args TT RX11 := C
  have hx := C.1
  have hb := C.2.1
  have kx := kx_ok D (xtys cI cC cS) adK adV
  have hl : lv_has ls 15 [(0, .ref (ad 0)), (1, .int x1), (2, .int x2), (3, .int x3), (4, .int x4)] := hl
  have J_83 : ∀ (S : St) , f_X11_know_83  S  = some (r, S1) → ∀ (H : Heap) (locs : List Loc) (ls : Array Slot), Iv D (mw cI ad) S A s H locs → lv_has ls 15 [] → W p l e ({ frames := 5, cells := 0, slots := 0, locals := 134 } : Room) s m args below meth c H locs 0 0 Q (F0 m 83 ls []) := by
    intro  S  h H locs ls I hl
    unfold f_X11_know_83 at h
    refine lv_ldc2 (v := (-8999999999999999998)) hx hb C.2.2.2.1 (C.2.2.2.2 _ cn_X11_237) dX11_know_83 ?_
    exact rt_l hq h I dX11_know_86
  have J_100 : ∀ (S : St) , f_X11_know_100  S  = some (r, S1) → ∀ (H : Heap) (locs : List Loc) (ls : Array Slot), Iv D (mw cI ad) S A s H locs → lv_has ls 15 [] → W p l e ({ frames := 5, cells := 0, slots := 0, locals := 134 } : Room) s m args below meth c H locs 0 0 Q (F0 m 100 ls []) := by
    intro  S  h H locs ls I hl
    unfold f_X11_know_100 at h
    refine lv_ldc2 (v := (-8999999999999999997)) hx hb C.2.2.2.1 (C.2.2.2.2 _ cn_X11_239) dX11_know_100 ?_
    exact rt_l hq h I dX11_know_103
  have J_195 : ∀ (k_126 : St → Int32 → Int32 → Int32 → Int64 → Int32 → Option (Int64 × St)) (hk_126 : ∀ (S : St) (x3 : Int32) (x4 : Int32) (x6 : Int32) (x7 : Int64) (x9 : Int32), k_126 S x3 x4 x6 x7 x9 = some (r, S1) → ∀ (H : Heap) (locs : List Loc) (ls : Array Slot), Iv D (mw cI ad) S A s H locs → lv_has ls 15 [(0, .ref (ad 0)), (3, .int x3), (4, .int x4), (6, .int x6), (7, .long x7), (9, .int x9)] → W p l e ({ frames := 5, cells := 0, slots := 0, locals := 134 } : Room) s m args below meth c H locs 0 0 Q (F0 m 126 ls [])) (k_145 : St → Int32 → Int32 → Int32 → Int64 → Int32 → Int64 → Int32 → Option (Int64 × St)) (hk_145 : ∀ (S : St) (x3 : Int32) (x4 : Int32) (x6 : Int32) (x7 : Int64) (x9 : Int32) (x10 : Int64) (x12 : Int32), k_145 S x3 x4 x6 x7 x9 x10 x12 = some (r, S1) → ∀ (H : Heap) (locs : List Loc) (ls : Array Slot), Iv D (mw cI ad) S A s H locs → lv_has ls 15 [(0, .ref (ad 0)), (3, .int x3), (4, .int x4), (6, .int x6), (7, .long x7), (9, .int x9), (10, .long x10), (12, .int x12)] → W p l e ({ frames := 5, cells := 0, slots := 0, locals := 134 } : Room) s m args below meth c H locs 0 0 Q (F0 m 145 ls [])) (S : St) (x3 : Int32) (x4 : Int32) (x6 : Int32) (x7 : Int64) (x9 : Int32) (x12 : Int32) (t0 : Int64), f_X11_know_195 k_126 k_145 S x3 x4 x6 x7 x9 x12 t0 = some (r, S1) → ∀ (H : Heap) (locs : List Loc) (ls : Array Slot), Iv D (mw cI ad) S A s H locs → lv_has ls 15 [(0, .ref (ad 0)), (3, .int x3), (4, .int x4), (6, .int x6), (7, .long x7), (9, .int x9), (12, .int x12)] → W p l e ({ frames := 5, cells := 0, slots := 0, locals := 134 } : Room) s m args below meth c H locs 0 0 Q (F0 m 195 ls [.long t0]) := by
    intro k_126 hk_126 k_145 hk_145 S x3 x4 x6 x7 x9 x12 t0 h H locs ls I hl
    unfold f_X11_know_195 at h
    refine lv_lstore (lv' := [(10, .long t0), (0, .ref (ad 0)), (3, .int x3), (4, .int x4), (6, .int x6), (7, .long x7), (9, .int x9), (12, .int x12)]) hx hb dX11_know_195 hl (by decide) rfl (fun ls hl => ?_)
    obtain ⟨v1, ev1⟩ : ∃ y : Int32, y = x12 + 1 := ⟨_, rfl⟩
    have h := bnd_at ev1 h
    refine lv_iinc (v := v1) (lv' := [(12, .int v1), (10, .long t0), (0, .ref (ad 0)), (3, .int x3), (4, .int x4), (6, .int x6), (7, .long x7), (9, .int x9)]) hx hb dX11_know_197 hl (k := 7) rfl (by rw [ev1]; rfl) (by decide) rfl (fun ls hl => ?_)
    clear ev1
    refine lv_goto (tgt := 145) hx hb dX11_know_200 (by decide) ?_
    exact hk_145 _ _ _ _ _ _ _ _ h _ _ _ I (lv_sub hl [2, 3, 4, 5, 6, 7, 1, 0] rfl)
  have J_178 : ∀ (k_126 : St → Int32 → Int32 → Int32 → Int64 → Int32 → Option (Int64 × St)) (hk_126 : ∀ (S : St) (x3 : Int32) (x4 : Int32) (x6 : Int32) (x7 : Int64) (x9 : Int32), k_126 S x3 x4 x6 x7 x9 = some (r, S1) → ∀ (H : Heap) (locs : List Loc) (ls : Array Slot), Iv D (mw cI ad) S A s H locs → lv_has ls 15 [(0, .ref (ad 0)), (3, .int x3), (4, .int x4), (6, .int x6), (7, .long x7), (9, .int x9)] → W p l e ({ frames := 5, cells := 0, slots := 0, locals := 134 } : Room) s m args below meth c H locs 0 0 Q (F0 m 126 ls [])) (k_145 : St → Int32 → Int32 → Int32 → Int64 → Int32 → Int64 → Int32 → Option (Int64 × St)) (hk_145 : ∀ (S : St) (x3 : Int32) (x4 : Int32) (x6 : Int32) (x7 : Int64) (x9 : Int32) (x10 : Int64) (x12 : Int32), k_145 S x3 x4 x6 x7 x9 x10 x12 = some (r, S1) → ∀ (H : Heap) (locs : List Loc) (ls : Array Slot), Iv D (mw cI ad) S A s H locs → lv_has ls 15 [(0, .ref (ad 0)), (3, .int x3), (4, .int x4), (6, .int x6), (7, .long x7), (9, .int x9), (10, .long x10), (12, .int x12)] → W p l e ({ frames := 5, cells := 0, slots := 0, locals := 134 } : Room) s m args below meth c H locs 0 0 Q (F0 m 145 ls [])) (S : St) (x3 : Int32) (x4 : Int32) (x6 : Int32) (x7 : Int64) (x9 : Int32) (x10 : Int64) (x12 : Int32) (t0 : Int64), f_X11_know_178 k_126 k_145 S x3 x4 x6 x7 x9 x10 x12 t0 = some (r, S1) → ∀ (H : Heap) (locs : List Loc) (ls : Array Slot), Iv D (mw cI ad) S A s H locs → lv_has ls 15 [(0, .ref (ad 0)), (3, .int x3), (4, .int x4), (6, .int x6), (7, .long x7), (9, .int x9), (10, .long x10), (12, .int x12)] → W p l e ({ frames := 5, cells := 0, slots := 0, locals := 134 } : Room) s m args below meth c H locs 0 0 Q (F0 m 178 ls [.long t0]) := by
    intro k_126 hk_126 k_145 hk_145 S x3 x4 x6 x7 x9 x10 x12 t0 h H locs ls I hl
    unfold f_X11_know_178 at h
    refine lv_lstore (lv' := [(13, .long t0), (0, .ref (ad 0)), (3, .int x3), (4, .int x4), (6, .int x6), (7, .long x7), (9, .int x9), (10, .long x10), (12, .int x12)]) hx hb dX11_know_178 hl (by decide) rfl (fun ls hl => ?_)
    refine lv_lload hx hb dX11_know_180 (lv_at hl 0 rfl) ?_
    refine lv_lload hx hb dX11_know_182 (lv_at hl 7 rfl) ?_
    refine W.lcmp hx hb dX11_know_184 ?_
    refine lv_if_le (tgt := 193) hx hb dX11_know_185 (by decide) (fun c2 => ?_) (fun c2 => ?_)
    · have h := ite_t c2 h
      refine lv_lload hx hb dX11_know_193 (lv_at hl 7 rfl) ?_
      exact J_195 k_126 hk_126 k_145 hk_145 _ _ _ _ _ _ _ _ h _ _ _ I (lv_sub hl [1, 2, 3, 4, 5, 6, 8] rfl)
    · have h := ite_n c2 h
      refine lv_lload hx hb dX11_know_188 (lv_at hl 0 rfl) ?_
      refine lv_goto (tgt := 195) hx hb dX11_know_190 (by decide) ?_
      exact J_195 k_126 hk_126 k_145 hk_145 _ _ _ _ _ _ _ _ h _ _ _ I (lv_sub hl [1, 2, 3, 4, 5, 6, 8] rfl)
  have B_145 : ∀ (k_126 : St → Int32 → Int32 → Int32 → Int64 → Int32 → Option (Int64 × St)) (hk_126 : ∀ (S : St) (x3 : Int32) (x4 : Int32) (x6 : Int32) (x7 : Int64) (x9 : Int32), k_126 S x3 x4 x6 x7 x9 = some (r, S1) → ∀ (H : Heap) (locs : List Loc) (ls : Array Slot), Iv D (mw cI ad) S A s H locs → lv_has ls 15 [(0, .ref (ad 0)), (3, .int x3), (4, .int x4), (6, .int x6), (7, .long x7), (9, .int x9)] → W p l e ({ frames := 5, cells := 0, slots := 0, locals := 134 } : Room) s m args below meth c H locs 0 0 Q (F0 m 126 ls [])) (k_145 : St → Int32 → Int32 → Int32 → Int64 → Int32 → Int64 → Int32 → Option (Int64 × St)) (hk_145 : ∀ (S : St) (x3 : Int32) (x4 : Int32) (x6 : Int32) (x7 : Int64) (x9 : Int32) (x10 : Int64) (x12 : Int32), k_145 S x3 x4 x6 x7 x9 x10 x12 = some (r, S1) → ∀ (H : Heap) (locs : List Loc) (ls : Array Slot), Iv D (mw cI ad) S A s H locs → lv_has ls 15 [(0, .ref (ad 0)), (3, .int x3), (4, .int x4), (6, .int x6), (7, .long x7), (9, .int x9), (10, .long x10), (12, .int x12)] → W p l e ({ frames := 5, cells := 0, slots := 0, locals := 134 } : Room) s m args below meth c H locs 0 0 Q (F0 m 145 ls [])) (S : St) (x3 : Int32) (x4 : Int32) (x6 : Int32) (x7 : Int64) (x9 : Int32) (x10 : Int64) (x12 : Int32), f_X11_know_145 k_126 k_145 S x3 x4 x6 x7 x9 x10 x12 = some (r, S1) → ∀ (H : Heap) (locs : List Loc) (ls : Array Slot), Iv D (mw cI ad) S A s H locs → lv_has ls 15 [(0, .ref (ad 0)), (3, .int x3), (4, .int x4), (6, .int x6), (7, .long x7), (9, .int x9), (10, .long x10), (12, .int x12)] → W p l e ({ frames := 5, cells := 0, slots := 0, locals := 134 } : Room) s m args below meth c H locs 0 0 Q (F0 m 145 ls []) := by
    intro k_126 hk_126 k_145 hk_145 S x3 x4 x6 x7 x9 x10 x12 h H locs ls I hl
    unfold f_X11_know_145 at h
    refine lv_iload hx hb dX11_know_145 (lv_at hl 7 rfl) ?_
    refine lv_sipush (v := 256) hx hb dX11_know_147 (by decide) ?_
    refine lv_icmp_ge (tgt := 203) hx hb dX11_know_150 (by decide) (fun c3 => ?_) (fun c3 => ?_)
    · have h := ite_t c3 h
      refine lv_lload hx hb dX11_know_203 (lv_at hl 4 rfl) ?_
      refine lv_lload hx hb dX11_know_205 (lv_at hl 6 rfl) ?_
      refine lv_ladd hx hb dX11_know_207 ?_
      refine lv_topl (fun v4 ev4 => ?_)
      have h := bnd_at ev4 h
      clear ev4
      refine lv_lstore (lv' := [(7, .long v4), (0, .ref (ad 0)), (3, .int x3), (4, .int x4), (6, .int x6), (9, .int x9), (10, .long x10), (12, .int x12)]) hx hb dX11_know_208 hl (by decide) rfl (fun ls hl => ?_)
      obtain ⟨v5, ev5⟩ : ∃ y : Int32, y = x9 + 1 := ⟨_, rfl⟩
      have h := bnd_at ev5 h
      refine lv_iinc (v := v5) (lv' := [(9, .int v5), (7, .long v4), (0, .ref (ad 0)), (3, .int x3), (4, .int x4), (6, .int x6), (10, .long x10), (12, .int x12)]) hx hb dX11_know_210 hl (k := 5) rfl (by rw [ev5]; rfl) (by decide) rfl (fun ls hl => ?_)
      clear ev5
      refine lv_goto (tgt := 126) hx hb dX11_know_213 (by decide) ?_
      exact hk_126 _ _ _ _ _ _ h _ _ _ I (lv_sub hl [2, 3, 4, 5, 1, 0] rfl)
    · have h := ite_n c3 h
      refine lv_aload_n hx hb dX11_know_153 rfl (lv_at hl 0 rfl) ?_
      refine lv_iload hx hb dX11_know_154 (lv_at hl 7 rfl) ?_
      obtain ⟨r6, S6, e6, h⟩ := obd2_ex h
      refine k_V (As := [.int x12]) (rest := []) (st1 := [.int r6]) C kx hK I hA (c_X11_mayBe e6) ⟨Nat.le_of_ble_eq_true rfl, Nat.le_of_ble_eq_true rfl⟩ mv_X11_mayBe lk_X11_162 0 11 (mw_0 (cI := cI) (ad := ad)) rfl rfl hl.1 rfl (Nat.le_of_ble_eq_true rfl) dX11_know_156 rfl (fun H locs I => ?_)
      refine lv_if_eq (tgt := 175) hx hb dX11_know_159 (by decide) (fun c7 => ?_) (fun c7 => ?_)
      · have h := ite_t c7 h
        refine lv_ldc2 (v := (-9000000000000000000)) hx hb C.2.2.2.1 (C.2.2.2.2 _ cn_X11_261) dX11_know_175 ?_
        exact J_178 k_126 hk_126 k_145 hk_145 _ _ _ _ _ _ _ _ _ h _ _ _ I (lv_sub hl [0, 1, 2, 3, 4, 5, 6, 7] rfl)
      · have h := ite_n c7 h
        refine lv_aload_n hx hb dX11_know_162 rfl (lv_at hl 0 rfl) ?_
        refine lv_iload hx hb dX11_know_163 (lv_at hl 7 rfl) ?_
        refine lv_iload hx hb dX11_know_165 (lv_at hl 3 rfl) ?_
        refine lv_iload hx hb dX11_know_167 (lv_at hl 5 rfl) ?_
        obtain ⟨r8, S8, e8, h⟩ := obd2_ex h
        refine k_V (As := [.int x12, .int x6, .int x9]) (rest := []) (st1 := [.long r8]) C kx hK I hA (c_X11_meanOf e8) ⟨Nat.le_of_ble_eq_true rfl, Nat.le_of_ble_eq_true rfl⟩ mv_X11_meanOf lk_X11_244 0 11 (mw_0 (cI := cI) (ad := ad)) rfl rfl hl.1 rfl (Nat.le_of_ble_eq_true rfl) dX11_know_169 rfl (fun H locs I => ?_)
        refine lv_goto (tgt := 178) hx hb dX11_know_172 (by decide) ?_
        exact J_178 k_126 hk_126 k_145 hk_145 _ _ _ _ _ _ _ _ _ h _ _ _ I (lv_sub hl [0, 1, 2, 3, 4, 5, 6, 7] rfl)
  have J_145 : ∀ (k_126 : St → Int32 → Int32 → Int32 → Int64 → Int32 → Option (Int64 × St)) (hk_126 : ∀ (S : St) (x3 : Int32) (x4 : Int32) (x6 : Int32) (x7 : Int64) (x9 : Int32), k_126 S x3 x4 x6 x7 x9 = some (r, S1) → ∀ (H : Heap) (locs : List Loc) (ls : Array Slot), Iv D (mw cI ad) S A s H locs → lv_has ls 15 [(0, .ref (ad 0)), (3, .int x3), (4, .int x4), (6, .int x6), (7, .long x7), (9, .int x9)] → W p l e ({ frames := 5, cells := 0, slots := 0, locals := 134 } : Room) s m args below meth c H locs 0 0 Q (F0 m 126 ls [])) (fu : Nat) (S : St) (x3 : Int32) (x4 : Int32) (x6 : Int32) (x7 : Int64) (x9 : Int32) (x10 : Int64) (x12 : Int32), l_X11_know_145 k_126  fu S x3 x4 x6 x7 x9 x10 x12 = some (r, S1) → ∀ (H : Heap) (locs : List Loc) (ls : Array Slot), Iv D (mw cI ad) S A s H locs → lv_has ls 15 [(0, .ref (ad 0)), (3, .int x3), (4, .int x4), (6, .int x6), (7, .long x7), (9, .int x9), (10, .long x10), (12, .int x12)] → W p l e ({ frames := 5, cells := 0, slots := 0, locals := 134 } : Room) s m args below meth c H locs 0 0 Q (F0 m 145 ls []) := by
    intro k_126 hk_126 fu
    induction fu with
    | zero => intro S x3 x4 x6 x7 x9 x10 x12 h; cases h
    | succ fu ih => intro S x3 x4 x6 x7 x9 x10 x12 h; exact B_145 k_126 hk_126 (l_X11_know_145 k_126 fu) ih S x3 x4 x6 x7 x9 x10 x12 h
  have B_126 : ∀ (k_126 : St → Int32 → Int32 → Int32 → Int64 → Int32 → Option (Int64 × St)) (hk_126 : ∀ (S : St) (x3 : Int32) (x4 : Int32) (x6 : Int32) (x7 : Int64) (x9 : Int32), k_126 S x3 x4 x6 x7 x9 = some (r, S1) → ∀ (H : Heap) (locs : List Loc) (ls : Array Slot), Iv D (mw cI ad) S A s H locs → lv_has ls 15 [(0, .ref (ad 0)), (3, .int x3), (4, .int x4), (6, .int x6), (7, .long x7), (9, .int x9)] → W p l e ({ frames := 5, cells := 0, slots := 0, locals := 134 } : Room) s m args below meth c H locs 0 0 Q (F0 m 126 ls [])) (S : St) (x3 : Int32) (x4 : Int32) (x6 : Int32) (x7 : Int64) (x9 : Int32), f_X11_know_126 k_126 S x3 x4 x6 x7 x9 = some (r, S1) → ∀ (H : Heap) (locs : List Loc) (ls : Array Slot), Iv D (mw cI ad) S A s H locs → lv_has ls 15 [(0, .ref (ad 0)), (3, .int x3), (4, .int x4), (6, .int x6), (7, .long x7), (9, .int x9)] → W p l e ({ frames := 5, cells := 0, slots := 0, locals := 134 } : Room) s m args below meth c H locs 0 0 Q (F0 m 126 ls []) := by
    intro k_126 hk_126 S x3 x4 x6 x7 x9 h H locs ls I hl
    unfold f_X11_know_126 at h
    refine lv_iload hx hb dX11_know_126 (lv_at hl 5 rfl) ?_
    refine lv_aload_n hx hb dX11_know_128 rfl (lv_at hl 0 rfl) ?_
    refine gm_0_13 C hK I fl_X11_38 dX11_know_129 ?_
    refine lv_iload_n hx hb dX11_know_132 rfl (lv_at hl 1 rfl) ?_
    obtain ⟨hv9, h⟩ := chk_ex h
    refine am_7 C hK I hv9 dX11_know_133 ?_
    refine lv_icmp_ge (tgt := 216) hx hb dX11_know_134 (by decide) (fun c10 => ?_) (fun c10 => ?_)
    · have h := ite_t c10 h
      refine lv_lload hx hb dX11_know_216 (lv_at hl 4 rfl) ?_
      refine lv_aload_n hx hb dX11_know_218 rfl (lv_at hl 0 rfl) ?_
      refine gm_0_23 C hK I fl_X11_197 dX11_know_219 ?_
      refine lv_iload hx hb dX11_know_222 (lv_at hl 2 rfl) ?_
      obtain ⟨r11, S11, e11, h⟩ := obd2_ex h
      refine k_S (As := [.long x7, .long (S.2.1 0 23), .int x4]) (rest := []) (st1 := [.long r11]) C kx hK I hA (c_X11_lowest e11) ⟨Nat.le_of_ble_eq_true rfl, Nat.le_of_ble_eq_true rfl⟩ ms_X11_lowest lk_X11_185 rfl hl.1 rfl (Nat.le_of_ble_eq_true rfl) dX11_know_224 rfl (fun H locs I => ?_)
      exact rt_l hq h I dX11_know_227
    · have h := ite_n c10 h
      refine lv_ldc2 (v := (-9000000000000000000)) hx hb C.2.2.2.1 (C.2.2.2.2 _ cn_X11_261) dX11_know_137 ?_
      refine lv_lstore (lv' := [(10, .long (-9000000000000000000)), (0, .ref (ad 0)), (3, .int x3), (4, .int x4), (6, .int x6), (7, .long x7), (9, .int x9)]) hx hb dX11_know_140 hl (by decide) rfl (fun ls hl => ?_)
      refine lv_iconst (v := 0) hx hb dX11_know_142 (by decide) ?_
      refine lv_istore (lv' := [(12, .int 0), (10, .long (-9000000000000000000)), (0, .ref (ad 0)), (3, .int x3), (4, .int x4), (6, .int x6), (7, .long x7), (9, .int x9)]) hx hb dX11_know_143 hl (by decide) rfl (fun ls hl => ?_)
      exact J_145 k_126 hk_126 _ _ _ _ _ _ _ _ _ h _ _ _ I (lv_sub hl [2, 3, 4, 5, 6, 7, 1, 0] rfl)
  have J_126 : ∀ (fu : Nat) (S : St) (x3 : Int32) (x4 : Int32) (x6 : Int32) (x7 : Int64) (x9 : Int32), l_X11_know_126  fu S x3 x4 x6 x7 x9 = some (r, S1) → ∀ (H : Heap) (locs : List Loc) (ls : Array Slot), Iv D (mw cI ad) S A s H locs → lv_has ls 15 [(0, .ref (ad 0)), (3, .int x3), (4, .int x4), (6, .int x6), (7, .long x7), (9, .int x9)] → W p l e ({ frames := 5, cells := 0, slots := 0, locals := 134 } : Room) s m args below meth c H locs 0 0 Q (F0 m 126 ls []) := by
    intro fu
    induction fu with
    | zero => intro S x3 x4 x6 x7 x9 h; cases h
    | succ fu ih => intro S x3 x4 x6 x7 x9 h; exact B_126 (l_X11_know_126 fu) ih S x3 x4 x6 x7 x9 h
  have J_62 : ∀ (k_30 : St → Int32 → Int32 → Int32 → Int32 → Int32 → Int32 → Int32 → Option (Int64 × St)) (hk_30 : ∀ (S : St) (x1 : Int32) (x2 : Int32) (x3 : Int32) (x4 : Int32) (x5 : Int32) (x6 : Int32) (x7 : Int32), k_30 S x1 x2 x3 x4 x5 x6 x7 = some (r, S1) → ∀ (H : Heap) (locs : List Loc) (ls : Array Slot), Iv D (mw cI ad) S A s H locs → lv_has ls 15 [(0, .ref (ad 0)), (1, .int x1), (2, .int x2), (3, .int x3), (4, .int x4), (5, .int x5), (6, .int x6), (7, .int x7)] → W p l e ({ frames := 5, cells := 0, slots := 0, locals := 134 } : Room) s m args below meth c H locs 0 0 Q (F0 m 30 ls [])) (S : St) (x1 : Int32) (x2 : Int32) (x3 : Int32) (x4 : Int32) (x5 : Int32) (x7 : Int32) (t0 : Int32), f_X11_know_62 k_30 S x1 x2 x3 x4 x5 x7 t0 = some (r, S1) → ∀ (H : Heap) (locs : List Loc) (ls : Array Slot), Iv D (mw cI ad) S A s H locs → lv_has ls 15 [(0, .ref (ad 0)), (1, .int x1), (2, .int x2), (3, .int x3), (4, .int x4), (5, .int x5), (7, .int x7)] → W p l e ({ frames := 5, cells := 0, slots := 0, locals := 134 } : Room) s m args below meth c H locs 0 0 Q (F0 m 62 ls [.int t0]) := by
    intro k_30 hk_30 S x1 x2 x3 x4 x5 x7 t0 h H locs ls I hl
    unfold f_X11_know_62 at h
    refine lv_istore (lv' := [(6, .int t0), (0, .ref (ad 0)), (1, .int x1), (2, .int x2), (3, .int x3), (4, .int x4), (5, .int x5), (7, .int x7)]) hx hb dX11_know_62 hl (by decide) rfl (fun ls hl => ?_)
    obtain ⟨v12, ev12⟩ : ∃ y : Int32, y = x7 + 1 := ⟨_, rfl⟩
    have h := bnd_at ev12 h
    refine lv_iinc (v := v12) (lv' := [(7, .int v12), (6, .int t0), (0, .ref (ad 0)), (1, .int x1), (2, .int x2), (3, .int x3), (4, .int x4), (5, .int x5)]) hx hb dX11_know_64 hl (k := 7) rfl (by rw [ev12]; rfl) (by decide) rfl (fun ls hl => ?_)
    clear ev12
    refine lv_goto (tgt := 30) hx hb dX11_know_67 (by decide) ?_
    exact hk_30 _ _ _ _ _ _ _ _ h _ _ _ I (lv_sub hl [2, 3, 4, 5, 6, 7, 1, 0] rfl)
  have J_60 : ∀ (k_30 : St → Int32 → Int32 → Int32 → Int32 → Int32 → Int32 → Int32 → Option (Int64 × St)) (hk_30 : ∀ (S : St) (x1 : Int32) (x2 : Int32) (x3 : Int32) (x4 : Int32) (x5 : Int32) (x6 : Int32) (x7 : Int32), k_30 S x1 x2 x3 x4 x5 x6 x7 = some (r, S1) → ∀ (H : Heap) (locs : List Loc) (ls : Array Slot), Iv D (mw cI ad) S A s H locs → lv_has ls 15 [(0, .ref (ad 0)), (1, .int x1), (2, .int x2), (3, .int x3), (4, .int x4), (5, .int x5), (6, .int x6), (7, .int x7)] → W p l e ({ frames := 5, cells := 0, slots := 0, locals := 134 } : Room) s m args below meth c H locs 0 0 Q (F0 m 30 ls [])) (S : St) (x1 : Int32) (x2 : Int32) (x3 : Int32) (x4 : Int32) (x5 : Int32) (x6 : Int32) (x7 : Int32), f_X11_know_60 k_30 S x1 x2 x3 x4 x5 x6 x7 = some (r, S1) → ∀ (H : Heap) (locs : List Loc) (ls : Array Slot), Iv D (mw cI ad) S A s H locs → lv_has ls 15 [(0, .ref (ad 0)), (1, .int x1), (2, .int x2), (3, .int x3), (4, .int x4), (5, .int x5), (6, .int x6), (7, .int x7)] → W p l e ({ frames := 5, cells := 0, slots := 0, locals := 134 } : Room) s m args below meth c H locs 0 0 Q (F0 m 60 ls []) := by
    intro k_30 hk_30 S x1 x2 x3 x4 x5 x6 x7 h H locs ls I hl
    unfold f_X11_know_60 at h
    refine lv_iload hx hb dX11_know_60 (lv_at hl 6 rfl) ?_
    exact J_62 k_30 hk_30 _ _ _ _ _ _ _ _ h _ _ _ I (lv_sub hl [0, 1, 2, 3, 4, 5, 7] rfl)
  have B_30 : ∀ (k_30 : St → Int32 → Int32 → Int32 → Int32 → Int32 → Int32 → Int32 → Option (Int64 × St)) (hk_30 : ∀ (S : St) (x1 : Int32) (x2 : Int32) (x3 : Int32) (x4 : Int32) (x5 : Int32) (x6 : Int32) (x7 : Int32), k_30 S x1 x2 x3 x4 x5 x6 x7 = some (r, S1) → ∀ (H : Heap) (locs : List Loc) (ls : Array Slot), Iv D (mw cI ad) S A s H locs → lv_has ls 15 [(0, .ref (ad 0)), (1, .int x1), (2, .int x2), (3, .int x3), (4, .int x4), (5, .int x5), (6, .int x6), (7, .int x7)] → W p l e ({ frames := 5, cells := 0, slots := 0, locals := 134 } : Room) s m args below meth c H locs 0 0 Q (F0 m 30 ls [])) (S : St) (x1 : Int32) (x2 : Int32) (x3 : Int32) (x4 : Int32) (x5 : Int32) (x6 : Int32) (x7 : Int32), f_X11_know_30 k_30 S x1 x2 x3 x4 x5 x6 x7 = some (r, S1) → ∀ (H : Heap) (locs : List Loc) (ls : Array Slot), Iv D (mw cI ad) S A s H locs → lv_has ls 15 [(0, .ref (ad 0)), (1, .int x1), (2, .int x2), (3, .int x3), (4, .int x4), (5, .int x5), (6, .int x6), (7, .int x7)] → W p l e ({ frames := 5, cells := 0, slots := 0, locals := 134 } : Room) s m args below meth c H locs 0 0 Q (F0 m 30 ls []) := by
    intro k_30 hk_30 S x1 x2 x3 x4 x5 x6 x7 h H locs ls I hl
    unfold f_X11_know_30 at h
    refine lv_iload hx hb dX11_know_30 (lv_at hl 7 rfl) ?_
    refine lv_iload_n hx hb dX11_know_32 rfl (lv_at hl 2 rfl) ?_
    refine lv_icmp_ge (tgt := 70) hx hb dX11_know_33 (by decide) (fun c13 => ?_) (fun c13 => ?_)
    · have h := ite_t c13 h
      refine lv_iload hx hb dX11_know_70 (lv_at hl 5 rfl) ?_
      refine lv_bipush (v := (-2)) hx hb dX11_know_72 (by decide) ?_
      refine lv_icmp_eq (tgt := 83) hx hb dX11_know_74 (by decide) (fun c14 => ?_) (fun c14 => ?_)
      · have h := ite_t c14 h
        exact J_83 _  h _ _ _ I (lv_sub hl [] rfl)
      · have h := ite_n c14 h
        refine lv_iload hx hb dX11_know_77 (lv_at hl 6 rfl) ?_
        refine lv_iconst (v := (-1)) hx hb dX11_know_79 (by decide) ?_
        refine lv_icmp_ne (tgt := 87) hx hb dX11_know_80 (by decide) (fun c15 => ?_) (fun c15 => ?_)
        · have h := ite_n c15 h
          refine lv_iload hx hb dX11_know_87 (lv_at hl 5 rfl) ?_
          refine lv_if_ne (tgt := 100) hx hb dX11_know_89 (by decide) (fun c16 => ?_) (fun c16 => ?_)
          · have h := ite_n c16 h
            exact J_100 _  h _ _ _ I (lv_sub hl [] rfl)
          · have h := ite_t c16 h
            refine lv_iload hx hb dX11_know_92 (lv_at hl 4 rfl) ?_
            obtain ⟨r17, S17, e17, h⟩ := obd2_ex h
            refine k_S (As := [.int x4]) (rest := []) (st1 := [.int r17]) C kx hK I hA (c_X11_isPart e17) ⟨Nat.le_of_ble_eq_true rfl, Nat.le_of_ble_eq_true rfl⟩ ms_X11_isPart lk_X11_179 rfl hl.1 rfl (Nat.le_of_ble_eq_true rfl) dX11_know_94 rfl (fun H locs I => ?_)
            refine lv_if_ne (tgt := 104) hx hb dX11_know_97 (by decide) (fun c18 => ?_) (fun c18 => ?_)
            · have h := ite_n c18 h
              refine lv_aload_n hx hb dX11_know_104 rfl (lv_at hl 0 rfl) ?_
              refine lv_iload_n hx hb dX11_know_105 rfl (lv_at hl 1 rfl) ?_
              refine lv_iload_n hx hb dX11_know_106 rfl (lv_at hl 2 rfl) ?_
              obtain ⟨S19, e19, h⟩ := obd_ex h
              refine k_V (As := [.int x1, .int x2]) (rest := []) (st1 := []) C kx hK I hA (c_X11_layRow e19) ⟨Nat.le_of_ble_eq_true rfl, Nat.le_of_ble_eq_true rfl⟩ mv_X11_layRow lk_X11_241 0 11 (mw_0 (cI := cI) (ad := ad)) rfl rfl hl.1 rfl (Nat.le_of_ble_eq_true rfl) dX11_know_107 rfl (fun H locs I => ?_)
              refine lv_aload_n hx hb dX11_know_110 rfl (lv_at hl 0 rfl) ?_
              refine lv_aload_n hx hb dX11_know_111 rfl (lv_at hl 0 rfl) ?_
              obtain ⟨r20, S20, e20, h⟩ := obd2_ex h
              refine k_V (As := []) (rest := [.ref (ad 0)]) (st1 := [.int r20, .ref (ad 0)]) C kx hK I hA (c_X11_bestBag e20) ⟨Nat.le_of_ble_eq_true rfl, Nat.le_of_ble_eq_true rfl⟩ mv_X11_bestBag lk_X11_256 0 11 (mw_0 (cI := cI) (ad := ad)) rfl rfl hl.1 rfl (Nat.le_of_ble_eq_true rfl) dX11_know_112 rfl (fun H locs I => ?_)
              refine lv_iconst (v := (-1)) hx hb dX11_know_115 (by decide) ?_
              refine lv_iconst (v := 0) hx hb dX11_know_116 (by decide) ?_
              obtain ⟨r21, S21, e21, h⟩ := obd2_ex h
              refine k_V (As := [.int r20, .int (-1), .int 0]) (rest := []) (st1 := [.long r21]) C kx hK I hA (c_X11_meanOf e21) ⟨Nat.le_of_ble_eq_true rfl, Nat.le_of_ble_eq_true rfl⟩ mv_X11_meanOf lk_X11_244 0 11 (mw_0 (cI := cI) (ad := ad)) rfl rfl hl.1 rfl (Nat.le_of_ble_eq_true rfl) dX11_know_117 rfl (fun H locs I => ?_)
              refine lv_lneg hx hb dX11_know_120 ?_
              refine lv_topl (fun v22 ev22 => ?_)
              have h := bnd_at ev22 h
              clear ev22
              refine lv_lstore (lv' := [(7, .long v22), (0, .ref (ad 0)), (1, .int x1), (2, .int x2), (3, .int x3), (4, .int x4), (5, .int x5), (6, .int x6)]) hx hb dX11_know_121 hl (by decide) rfl (fun ls hl => ?_)
              refine lv_iconst (v := 0) hx hb dX11_know_123 (by decide) ?_
              refine lv_istore (lv' := [(9, .int 0), (7, .long v22), (0, .ref (ad 0)), (1, .int x1), (2, .int x2), (3, .int x3), (4, .int x4), (5, .int x5), (6, .int x6)]) hx hb dX11_know_124 hl (by decide) rfl (fun ls hl => ?_)
              exact J_126 _ _ _ _ _ _ _ h _ _ _ I (lv_sub hl [2, 5, 6, 8, 1, 0] rfl)
            · have h := ite_t c18 h
              exact J_100 _  h _ _ _ I (lv_sub hl [] rfl)
        · have h := ite_t c15 h
          exact J_83 _  h _ _ _ I (lv_sub hl [] rfl)
    · have h := ite_n c13 h
      refine lv_iload_n hx hb dX11_know_36 rfl (lv_at hl 3 rfl) ?_
      refine lv_bipush (v := 6) hx hb dX11_know_37 (by decide) ?_
      refine lv_icmp_eq (tgt := 60) hx hb dX11_know_39 (by decide) (fun c23 => ?_) (fun c23 => ?_)
      · have h := ite_t c23 h
        exact J_60 k_30 hk_30 _ _ _ _ _ _ _ _ h _ _ _ I (lv_sub hl [0, 1, 2, 3, 4, 5, 6, 7] rfl)
      · have h := ite_n c23 h
        refine lv_iload_n hx hb dX11_know_42 rfl (lv_at hl 1 rfl) ?_
        refine lv_iconst (v := 4) hx hb dX11_know_43 (by decide) ?_
        refine lv_iload hx hb dX11_know_44 (lv_at hl 7 rfl) ?_
        refine lv_imul hx hb dX11_know_46 ?_
        refine lv_ishr hx hb dX11_know_47 ?_
        refine lv_bipush (v := 15) hx hb dX11_know_48 (by decide) ?_
        refine lv_iand hx hb dX11_know_50 ?_
        refine lv_iload_n hx hb dX11_know_51 rfl (lv_at hl 3 rfl) ?_
        refine lv_icmp_ne (tgt := 60) hx hb dX11_know_52 (by decide) (fun c24 => ?_) (fun c24 => ?_)
        · have h := ite_n c24 h
          exact J_60 k_30 hk_30 _ _ _ _ _ _ _ _ h _ _ _ I (lv_sub hl [0, 1, 2, 3, 4, 5, 6, 7] rfl)
        · have h := ite_t c24 h
          refine lv_iload hx hb dX11_know_55 (lv_at hl 7 rfl) ?_
          refine lv_goto (tgt := 62) hx hb dX11_know_57 (by decide) ?_
          exact J_62 k_30 hk_30 _ _ _ _ _ _ _ _ h _ _ _ I (lv_sub hl [0, 1, 2, 3, 4, 5, 7] rfl)
  have J_30 : ∀ (fu : Nat) (S : St) (x1 : Int32) (x2 : Int32) (x3 : Int32) (x4 : Int32) (x5 : Int32) (x6 : Int32) (x7 : Int32), l_X11_know_30  fu S x1 x2 x3 x4 x5 x6 x7 = some (r, S1) → ∀ (H : Heap) (locs : List Loc) (ls : Array Slot), Iv D (mw cI ad) S A s H locs → lv_has ls 15 [(0, .ref (ad 0)), (1, .int x1), (2, .int x2), (3, .int x3), (4, .int x4), (5, .int x5), (6, .int x6), (7, .int x7)] → W p l e ({ frames := 5, cells := 0, slots := 0, locals := 134 } : Room) s m args below meth c H locs 0 0 Q (F0 m 30 ls []) := by
    intro fu
    induction fu with
    | zero => intro S x1 x2 x3 x4 x5 x6 x7 h; cases h
    | succ fu ih => intro S x1 x2 x3 x4 x5 x6 x7 h; exact B_30 (l_X11_know_30 fu) ih S x1 x2 x3 x4 x5 x6 x7 h
  unfold f_X11_know at h
  refine lv_aload_n hx hb dX11_know_0 rfl (lv_at hl 0 rfl) ?_
  refine lv_iload_n hx hb dX11_know_1 rfl (lv_at hl 1 rfl) ?_
  refine lv_iload_n hx hb dX11_know_2 rfl (lv_at hl 2 rfl) ?_
  obtain ⟨r25, S25, e25, h⟩ := obd2_ex h
  refine k_V (As := [.int x1, .int x2]) (rest := []) (st1 := [.int r25]) C kx hK I hA (c_X11_refuses e25) ⟨Nat.le_of_ble_eq_true rfl, Nat.le_of_ble_eq_true rfl⟩ mv_X11_refuses lk_X11_231 0 11 (mw_0 (cI := cI) (ad := ad)) rfl rfl hl.1 rfl (Nat.le_of_ble_eq_true rfl) dX11_know_3 rfl (fun H locs I => ?_)
  refine lv_istore (lv' := [(5, .int r25), (0, .ref (ad 0)), (1, .int x1), (2, .int x2), (3, .int x3), (4, .int x4)]) hx hb dX11_know_6 hl (by decide) rfl (fun ls hl => ?_)
  refine lv_iload_n hx hb dX11_know_8 rfl (lv_at hl 3 rfl) ?_
  refine lv_i2l hx hb dX11_know_9 rfl ?_
  refine lv_lconst (v := (1)) hx hb dX11_know_10 (by decide) ?_
  refine lv_ldc2 (v := (6)) hx hb C.2.2.2.1 (C.2.2.2.2 _ cn_X11_189) dX11_know_11 ?_
  obtain ⟨r26, S26, e26, h⟩ := obd2_ex h
  refine k_S (As := [.long (x2.toInt64), .long (1), .long (6)]) (rest := []) (st1 := [.int r26]) C kx hK I hA (c_X11_in e26) ⟨Nat.le_of_ble_eq_true rfl, Nat.le_of_ble_eq_true rfl⟩ ms_X11_in lk_X11_55 rfl hl.1 rfl (Nat.le_of_ble_eq_true rfl) dX11_know_14 rfl (fun H locs I => ?_)
  refine lv_if_ne (tgt := 24) hx hb dX11_know_17 (by decide) (fun c27 => ?_) (fun c27 => ?_)
  · have h := ite_n c27 h
    refine lv_iconst (v := (-1)) hx hb dX11_know_24 (by decide) ?_
    refine lv_istore (lv' := [(6, .int (-1)), (5, .int r25), (0, .ref (ad 0)), (1, .int x1), (2, .int x2), (3, .int x3), (4, .int x4)]) hx hb dX11_know_25 hl (by decide) rfl (fun ls hl => ?_)
    refine lv_iconst (v := 0) hx hb dX11_know_27 (by decide) ?_
    refine lv_istore (lv' := [(7, .int 0), (6, .int (-1)), (5, .int r25), (0, .ref (ad 0)), (1, .int x1), (2, .int x2), (3, .int x3), (4, .int x4)]) hx hb dX11_know_28 hl (by decide) rfl (fun ls hl => ?_)
    exact J_30 _ _ _ _ _ _ _ _ _ h _ _ _ I (lv_sub hl [3, 4, 5, 6, 7, 2, 1, 0] rfl)
  · have h := ite_t c27 h
    refine lv_ldc2 (v := (-8999999999999999997)) hx hb C.2.2.2.1 (C.2.2.2.2 _ cn_X11_239) dX11_know_20 ?_
    exact rt_l hq h I dX11_know_23
theorem dX11_both_0 : decode cX11_both 0 = .ok (.iload_n 1, 1) := by decide +kernel
theorem dX11_both_1 : decode cX11_both 1 = .ok (.i2l, 1) := by decide +kernel
theorem dX11_both_2 : decode cX11_both 2 = .ok (.lconst 1, 1) := by decide +kernel
theorem dX11_both_3 : decode cX11_both 3 = .ok (.ldc2_w 154, 3) := by decide +kernel
theorem dX11_both_6 : decode cX11_both 6 = .ok (.invokestatic 55, 3) := by decide +kernel
theorem dX11_both_9 : decode cX11_both 9 = .ok (.ifCond .eq 13, 3) := by decide +kernel
theorem dX11_both_12 : decode cX11_both 12 = .ok (.iload_n 2, 1) := by decide +kernel
theorem dX11_both_13 : decode cX11_both 13 = .ok (.i2l, 1) := by decide +kernel
theorem dX11_both_14 : decode cX11_both 14 = .ok (.lconst 0, 1) := by decide +kernel
theorem dX11_both_15 : decode cX11_both 15 = .ok (.lconst 1, 1) := by decide +kernel
theorem dX11_both_16 : decode cX11_both 16 = .ok (.invokestatic 55, 3) := by decide +kernel
theorem dX11_both_19 : decode cX11_both 19 = .ok (.ifCond .ne 6, 3) := by decide +kernel
theorem dX11_both_22 : decode cX11_both 22 = .ok (.bipush (-3), 2) := by decide +kernel
theorem dX11_both_24 : decode cX11_both 24 = .ok (.ireturn, 1) := by decide +kernel
theorem dX11_both_25 : decode cX11_both 25 = .ok (.iconst (-1), 1) := by decide +kernel
theorem dX11_both_26 : decode cX11_both 26 = .ok (.istore_n 3, 1) := by decide +kernel
theorem dX11_both_27 : decode cX11_both 27 = .ok (.iconst (-1), 1) := by decide +kernel
theorem dX11_both_28 : decode cX11_both 28 = .ok (.istore 4, 2) := by decide +kernel
theorem dX11_both_30 : decode cX11_both 30 = .ok (.lconst 0, 1) := by decide +kernel
theorem dX11_both_31 : decode cX11_both 31 = .ok (.lstore 5, 2) := by decide +kernel
theorem dX11_both_33 : decode cX11_both 33 = .ok (.lconst 1, 1) := by decide +kernel
theorem dX11_both_34 : decode cX11_both 34 = .ok (.lstore 7, 2) := by decide +kernel
theorem dX11_both_36 : decode cX11_both 36 = .ok (.iload_n 1, 1) := by decide +kernel
theorem dX11_both_37 : decode cX11_both 37 = .ok (.iconst 1, 1) := by decide +kernel
theorem dX11_both_38 : decode cX11_both 38 = .ok (.if_icmp .ne 8, 3) := by decide +kernel
theorem dX11_both_41 : decode cX11_both 41 = .ok (.bipush 6, 2) := by decide +kernel
theorem dX11_both_43 : decode cX11_both 43 = .ok (.goto 16, 3) := by decide +kernel
theorem dX11_both_46 : decode cX11_both 46 = .ok (.iload_n 1, 1) := by decide +kernel
theorem dX11_both_47 : decode cX11_both 47 = .ok (.iconst 2, 1) := by decide +kernel
theorem dX11_both_48 : decode cX11_both 48 = .ok (.if_icmp .ne 8, 3) := by decide +kernel
theorem dX11_both_51 : decode cX11_both 51 = .ok (.bipush 36, 2) := by decide +kernel
theorem dX11_both_53 : decode cX11_both 53 = .ok (.goto 6, 3) := by decide +kernel
theorem dX11_both_56 : decode cX11_both 56 = .ok (.sipush 216, 3) := by decide +kernel
theorem dX11_both_59 : decode cX11_both 59 = .ok (.istore 9, 2) := by decide +kernel
theorem dX11_both_61 : decode cX11_both 61 = .ok (.iconst 0, 1) := by decide +kernel
theorem dX11_both_62 : decode cX11_both 62 = .ok (.istore 10, 2) := by decide +kernel
theorem dX11_both_64 : decode cX11_both 64 = .ok (.iload 10, 2) := by decide +kernel
theorem dX11_both_66 : decode cX11_both 66 = .ok (.iload 9, 2) := by decide +kernel
theorem dX11_both_68 : decode cX11_both 68 = .ok (.if_icmp .ge 184, 3) := by decide +kernel
theorem dX11_both_71 : decode cX11_both 71 = .ok (.iload_n 1, 1) := by decide +kernel
theorem dX11_both_72 : decode cX11_both 72 = .ok (.iconst 1, 1) := by decide +kernel
theorem dX11_both_73 : decode cX11_both 73 = .ok (.if_icmp .ne 8, 3) := by decide +kernel
theorem dX11_both_76 : decode cX11_both 76 = .ok (.iload 10, 2) := by decide +kernel
theorem dX11_both_78 : decode cX11_both 78 = .ok (.goto 49, 3) := by decide +kernel
theorem dX11_both_81 : decode cX11_both 81 = .ok (.iload_n 1, 1) := by decide +kernel
theorem dX11_both_82 : decode cX11_both 82 = .ok (.iconst 2, 1) := by decide +kernel
theorem dX11_both_83 : decode cX11_both 83 = .ok (.if_icmp .ne 19, 3) := by decide +kernel
theorem dX11_both_86 : decode cX11_both 86 = .ok (.iload 10, 2) := by decide +kernel
theorem dX11_both_88 : decode cX11_both 88 = .ok (.bipush 6, 2) := by decide +kernel
theorem dX11_both_90 : decode cX11_both 90 = .ok (.idiv, 1) := by decide +kernel
theorem dX11_both_91 : decode cX11_both 91 = .ok (.iload 10, 2) := by decide +kernel
theorem dX11_both_93 : decode cX11_both 93 = .ok (.bipush 6, 2) := by decide +kernel
theorem dX11_both_95 : decode cX11_both 95 = .ok (.irem, 1) := by decide +kernel
theorem dX11_both_96 : decode cX11_both 96 = .ok (.iconst 4, 1) := by decide +kernel
theorem dX11_both_97 : decode cX11_both 97 = .ok (.ishl, 1) := by decide +kernel
theorem dX11_both_98 : decode cX11_both 98 = .ok (.ior, 1) := by decide +kernel
theorem dX11_both_99 : decode cX11_both 99 = .ok (.goto 28, 3) := by decide +kernel
theorem dX11_both_102 : decode cX11_both 102 = .ok (.iload 10, 2) := by decide +kernel
theorem dX11_both_104 : decode cX11_both 104 = .ok (.bipush 36, 2) := by decide +kernel
theorem dX11_both_106 : decode cX11_both 106 = .ok (.idiv, 1) := by decide +kernel
theorem dX11_both_107 : decode cX11_both 107 = .ok (.iload 10, 2) := by decide +kernel
theorem dX11_both_109 : decode cX11_both 109 = .ok (.bipush 6, 2) := by decide +kernel
theorem dX11_both_111 : decode cX11_both 111 = .ok (.idiv, 1) := by decide +kernel
theorem dX11_both_112 : decode cX11_both 112 = .ok (.bipush 6, 2) := by decide +kernel
theorem dX11_both_114 : decode cX11_both 114 = .ok (.irem, 1) := by decide +kernel
theorem dX11_both_115 : decode cX11_both 115 = .ok (.iconst 4, 1) := by decide +kernel
theorem dX11_both_116 : decode cX11_both 116 = .ok (.ishl, 1) := by decide +kernel
theorem dX11_both_117 : decode cX11_both 117 = .ok (.ior, 1) := by decide +kernel
theorem dX11_both_118 : decode cX11_both 118 = .ok (.iload 10, 2) := by decide +kernel
theorem dX11_both_120 : decode cX11_both 120 = .ok (.bipush 6, 2) := by decide +kernel
theorem dX11_both_122 : decode cX11_both 122 = .ok (.irem, 1) := by decide +kernel
theorem dX11_both_123 : decode cX11_both 123 = .ok (.bipush 8, 2) := by decide +kernel
theorem dX11_both_125 : decode cX11_both 125 = .ok (.ishl, 1) := by decide +kernel
theorem dX11_both_126 : decode cX11_both 126 = .ok (.ior, 1) := by decide +kernel
theorem dX11_both_127 : decode cX11_both 127 = .ok (.istore 11, 2) := by decide +kernel
theorem dX11_both_129 : decode cX11_both 129 = .ok (.aload_n 0, 1) := by decide +kernel
theorem dX11_both_130 : decode cX11_both 130 = .ok (.iload 11, 2) := by decide +kernel
theorem dX11_both_132 : decode cX11_both 132 = .ok (.iload_n 1, 1) := by decide +kernel
theorem dX11_both_133 : decode cX11_both 133 = .ok (.invokevirtual 231, 3) := by decide +kernel
theorem dX11_both_136 : decode cX11_both 136 = .ok (.ifCond .ne 110, 3) := by decide +kernel
theorem dX11_both_139 : decode cX11_both 139 = .ok (.aload_n 0, 1) := by decide +kernel
theorem dX11_both_140 : decode cX11_both 140 = .ok (.iload 11, 2) := by decide +kernel
theorem dX11_both_142 : decode cX11_both 142 = .ok (.iload_n 1, 1) := by decide +kernel
theorem dX11_both_143 : decode cX11_both 143 = .ok (.invokevirtual 241, 3) := by decide +kernel
theorem dX11_both_146 : decode cX11_both 146 = .ok (.aload_n 0, 1) := by decide +kernel
theorem dX11_both_147 : decode cX11_both 147 = .ok (.invokevirtual 256, 3) := by decide +kernel
theorem dX11_both_150 : decode cX11_both 150 = .ok (.istore 12, 2) := by decide +kernel
theorem dX11_both_152 : decode cX11_both 152 = .ok (.aload_n 0, 1) := by decide +kernel
theorem dX11_both_153 : decode cX11_both 153 = .ok (.iload 12, 2) := by decide +kernel
theorem dX11_both_155 : decode cX11_both 155 = .ok (.iconst (-1), 1) := by decide +kernel
theorem dX11_both_156 : decode cX11_both 156 = .ok (.iconst 0, 1) := by decide +kernel
theorem dX11_both_157 : decode cX11_both 157 = .ok (.invokevirtual 244, 3) := by decide +kernel
theorem dX11_both_160 : decode cX11_both 160 = .ok (.lstore 13, 2) := by decide +kernel
theorem dX11_both_162 : decode cX11_both 162 = .ok (.iload_n 3, 1) := by decide +kernel
theorem dX11_both_163 : decode cX11_both 163 = .ok (.iconst (-1), 1) := by decide +kernel
theorem dX11_both_164 : decode cX11_both 164 = .ok (.if_icmp .eq 19, 3) := by decide +kernel
theorem dX11_both_167 : decode cX11_both 167 = .ok (.lload 13, 2) := by decide +kernel
theorem dX11_both_169 : decode cX11_both 169 = .ok (.lload 7, 2) := by decide +kernel
theorem dX11_both_171 : decode cX11_both 171 = .ok (.lmul, 1) := by decide +kernel
theorem dX11_both_172 : decode cX11_both 172 = .ok (.lload 5, 2) := by decide +kernel
theorem dX11_both_174 : decode cX11_both 174 = .ok (.aload_n 0, 1) := by decide +kernel
theorem dX11_both_175 : decode cX11_both 175 = .ok (.getfield 197, 3) := by decide +kernel
theorem dX11_both_178 : decode cX11_both 178 = .ok (.lmul, 1) := by decide +kernel
theorem dX11_both_179 : decode cX11_both 179 = .ok (.lcmp, 1) := by decide +kernel
theorem dX11_both_180 : decode cX11_both 180 = .ok (.ifCond .le 7, 3) := by decide +kernel
theorem dX11_both_183 : decode cX11_both 183 = .ok (.iconst 1, 1) := by decide +kernel
theorem dX11_both_184 : decode cX11_both 184 = .ok (.goto 4, 3) := by decide +kernel
theorem dX11_both_187 : decode cX11_both 187 = .ok (.iconst 0, 1) := by decide +kernel
theorem dX11_both_188 : decode cX11_both 188 = .ok (.istore 15, 2) := by decide +kernel
theorem dX11_both_190 : decode cX11_both 190 = .ok (.iload 15, 2) := by decide +kernel
theorem dX11_both_192 : decode cX11_both 192 = .ok (.ifCond .eq 8, 3) := by decide +kernel
theorem dX11_both_195 : decode cX11_both 195 = .ok (.iload 11, 2) := by decide +kernel
theorem dX11_both_197 : decode cX11_both 197 = .ok (.goto 4, 3) := by decide +kernel
theorem dX11_both_200 : decode cX11_both 200 = .ok (.iload_n 3, 1) := by decide +kernel
theorem dX11_both_201 : decode cX11_both 201 = .ok (.istore_n 3, 1) := by decide +kernel
theorem dX11_both_202 : decode cX11_both 202 = .ok (.iload 15, 2) := by decide +kernel
theorem dX11_both_204 : decode cX11_both 204 = .ok (.ifCond .eq 8, 3) := by decide +kernel
theorem dX11_both_207 : decode cX11_both 207 = .ok (.iload 12, 2) := by decide +kernel
theorem dX11_both_209 : decode cX11_both 209 = .ok (.goto 5, 3) := by decide +kernel
theorem dX11_both_212 : decode cX11_both 212 = .ok (.iload 4, 2) := by decide +kernel
theorem dX11_both_214 : decode cX11_both 214 = .ok (.istore 4, 2) := by decide +kernel
theorem dX11_both_216 : decode cX11_both 216 = .ok (.iload 15, 2) := by decide +kernel
theorem dX11_both_218 : decode cX11_both 218 = .ok (.ifCond .eq 8, 3) := by decide +kernel
theorem dX11_both_221 : decode cX11_both 221 = .ok (.lload 13, 2) := by decide +kernel
theorem dX11_both_223 : decode cX11_both 223 = .ok (.goto 5, 3) := by decide +kernel
theorem dX11_both_226 : decode cX11_both 226 = .ok (.lload 5, 2) := by decide +kernel
theorem dX11_both_228 : decode cX11_both 228 = .ok (.lstore 5, 2) := by decide +kernel
theorem dX11_both_230 : decode cX11_both 230 = .ok (.iload 15, 2) := by decide +kernel
theorem dX11_both_232 : decode cX11_both 232 = .ok (.ifCond .eq 10, 3) := by decide +kernel
theorem dX11_both_235 : decode cX11_both 235 = .ok (.aload_n 0, 1) := by decide +kernel
theorem dX11_both_236 : decode cX11_both 236 = .ok (.getfield 197, 3) := by decide +kernel
theorem dX11_both_239 : decode cX11_both 239 = .ok (.goto 5, 3) := by decide +kernel
theorem dX11_both_242 : decode cX11_both 242 = .ok (.lload 7, 2) := by decide +kernel
theorem dX11_both_244 : decode cX11_both 244 = .ok (.lstore 7, 2) := by decide +kernel
theorem dX11_both_246 : decode cX11_both 246 = .ok (.iinc 10 1, 3) := by decide +kernel
theorem dX11_both_249 : decode cX11_both 249 = .ok (.goto (-185), 3) := by decide +kernel
theorem dX11_both_252 : decode cX11_both 252 = .ok (.iload_n 2, 1) := by decide +kernel
theorem dX11_both_253 : decode cX11_both 253 = .ok (.ifCond .ne 7, 3) := by decide +kernel
theorem dX11_both_256 : decode cX11_both 256 = .ok (.iload_n 3, 1) := by decide +kernel
theorem dX11_both_257 : decode cX11_both 257 = .ok (.goto 5, 3) := by decide +kernel
theorem dX11_both_260 : decode cX11_both 260 = .ok (.iload 4, 2) := by decide +kernel
theorem dX11_both_262 : decode cX11_both 262 = .ok (.ireturn, 1) := by decide +kernel
def f_X11_both_246 (k_64 : St → Int32 → Int32 → Int32 → Int32 → Int64 → Int64 → Int32 → Int32 → Option (Int32 × St)) (S : St) (x1 : Int32) (x2 : Int32) (x3 : Int32) (x4 : Int32) (x5 : Int64) (x7 : Int64) (x9 : Int32) (x10 : Int32) : Option (Int32 × St) :=
  bnd (x10 + 1 : Int32) fun v1 =>
  k_64 S x1 x2 x3 x4 x5 x7 x9 v1
def f_X11_both_244 (k_64 : St → Int32 → Int32 → Int32 → Int32 → Int64 → Int64 → Int32 → Int32 → Option (Int32 × St)) (S : St) (x1 : Int32) (x2 : Int32) (x3 : Int32) (x4 : Int32) (x5 : Int64) (x9 : Int32) (x10 : Int32) (t0 : Int64) : Option (Int32 × St) :=
  f_X11_both_246 k_64 S x1 x2 x3 x4 x5 t0 x9 x10
def f_X11_both_228 (k_64 : St → Int32 → Int32 → Int32 → Int32 → Int64 → Int64 → Int32 → Int32 → Option (Int32 × St)) (S : St) (x1 : Int32) (x2 : Int32) (x3 : Int32) (x4 : Int32) (x7 : Int64) (x9 : Int32) (x10 : Int32) (x15 : Int32) (t0 : Int64) : Option (Int32 × St) :=
  if x15 = 0 then (
    f_X11_both_244 k_64 S x1 x2 x3 x4 t0 x9 x10 x7
  ) else (
    f_X11_both_244 k_64 S x1 x2 x3 x4 t0 x9 x10 (S.2.1 0 23)
  )
def f_X11_both_214 (k_64 : St → Int32 → Int32 → Int32 → Int32 → Int64 → Int64 → Int32 → Int32 → Option (Int32 × St)) (S : St) (x1 : Int32) (x2 : Int32) (x3 : Int32) (x5 : Int64) (x7 : Int64) (x9 : Int32) (x10 : Int32) (x13 : Int64) (x15 : Int32) (t0 : Int32) : Option (Int32 × St) :=
  if x15 = 0 then (
    f_X11_both_228 k_64 S x1 x2 x3 t0 x7 x9 x10 x15 x5
  ) else (
    f_X11_both_228 k_64 S x1 x2 x3 t0 x7 x9 x10 x15 x13
  )
def f_X11_both_201 (k_64 : St → Int32 → Int32 → Int32 → Int32 → Int64 → Int64 → Int32 → Int32 → Option (Int32 × St)) (S : St) (x1 : Int32) (x2 : Int32) (x4 : Int32) (x5 : Int64) (x7 : Int64) (x9 : Int32) (x10 : Int32) (x12 : Int32) (x13 : Int64) (x15 : Int32) (t0 : Int32) : Option (Int32 × St) :=
  if x15 = 0 then (
    f_X11_both_214 k_64 S x1 x2 t0 x5 x7 x9 x10 x13 x15 x4
  ) else (
    f_X11_both_214 k_64 S x1 x2 t0 x5 x7 x9 x10 x13 x15 x12
  )
def f_X11_both_188 (k_64 : St → Int32 → Int32 → Int32 → Int32 → Int64 → Int64 → Int32 → Int32 → Option (Int32 × St)) (S : St) (x1 : Int32) (x2 : Int32) (x3 : Int32) (x4 : Int32) (x5 : Int64) (x7 : Int64) (x9 : Int32) (x10 : Int32) (x11 : Int32) (x12 : Int32) (x13 : Int64) (t0 : Int32) : Option (Int32 × St) :=
  if t0 = 0 then (
    f_X11_both_201 k_64 S x1 x2 x4 x5 x7 x9 x10 x12 x13 t0 x3
  ) else (
    f_X11_both_201 k_64 S x1 x2 x4 x5 x7 x9 x10 x12 x13 t0 x11
  )
def f_X11_both_183 (k_64 : St → Int32 → Int32 → Int32 → Int32 → Int64 → Int64 → Int32 → Int32 → Option (Int32 × St)) (S : St) (x1 : Int32) (x2 : Int32) (x3 : Int32) (x4 : Int32) (x5 : Int64) (x7 : Int64) (x9 : Int32) (x10 : Int32) (x11 : Int32) (x12 : Int32) (x13 : Int64) : Option (Int32 × St) :=
  f_X11_both_188 k_64 S x1 x2 x3 x4 x5 x7 x9 x10 x11 x12 x13 1
def f_X11_both_127 (k_64 : St → Int32 → Int32 → Int32 → Int32 → Int64 → Int64 → Int32 → Int32 → Option (Int32 × St)) (S : St) (x1 : Int32) (x2 : Int32) (x3 : Int32) (x4 : Int32) (x5 : Int64) (x7 : Int64) (x9 : Int32) (x10 : Int32) (t0 : Int32) : Option (Int32 × St) :=
  obd2 (f_X11_refuses S t0 x1) fun r6 S6 =>
  if r6 = 0 then (
    obd (f_X11_layRow S6 t0 x1) fun S8 =>
    obd2 (f_X11_bestBag S8 ) fun r9 S9 =>
    obd2 (f_X11_meanOf S9 r9 (-1) 0) fun r10 S10 =>
    if x3 = (-1) then (
      f_X11_both_183 k_64 S10 x1 x2 x3 x4 x5 x7 x9 x10 t0 r9 r10
    ) else (
      if (lg_cmp (r10 * x7) (x5 * (S10.2.1 0 23))) ≤ 0 then (
        f_X11_both_188 k_64 S10 x1 x2 x3 x4 x5 x7 x9 x10 t0 r9 r10 0
      ) else (
        f_X11_both_183 k_64 S10 x1 x2 x3 x4 x5 x7 x9 x10 t0 r9 r10
      )
    )
  ) else (
    f_X11_both_246 k_64 S6 x1 x2 x3 x4 x5 x7 x9 x10
  )
def f_X11_both_64 (k_64 : St → Int32 → Int32 → Int32 → Int32 → Int64 → Int64 → Int32 → Int32 → Option (Int32 × St)) (S : St) (x1 : Int32) (x2 : Int32) (x3 : Int32) (x4 : Int32) (x5 : Int64) (x7 : Int64) (x9 : Int32) (x10 : Int32) : Option (Int32 × St) :=
  if x9 ≤ x10 then (
    if x2 = 0 then (
      some (x3, S)
    ) else (
      some (x4, S)
    )
  ) else (
    if x1 = 1 then (
      f_X11_both_127 k_64 S x1 x2 x3 x4 x5 x7 x9 x10 x10
    ) else (
      if x1 = 2 then (
        f_X11_both_127 k_64 S x1 x2 x3 x4 x5 x7 x9 x10 ((x10 / 6) ||| ((x10 - x10 / 6 * 6) <<< ((4 : Int32) &&& 31)))
      ) else (
        f_X11_both_127 k_64 S x1 x2 x3 x4 x5 x7 x9 x10 (((x10 / 36) ||| (((x10 / 6) - (x10 / 6) / 6 * 6) <<< ((4 : Int32) &&& 31))) ||| ((x10 - x10 / 6 * 6) <<< ((8 : Int32) &&& 31)))
      )
    )
  )
def l_X11_both_64 : Nat → St → Int32 → Int32 → Int32 → Int32 → Int64 → Int64 → Int32 → Int32 → Option (Int32 × St)
  | 0, _, _, _, _, _, _, _, _, _ => none
  | fu + 1, S, x1, x2, x3, x4, x5, x7, x9, x10 => f_X11_both_64 (l_X11_both_64 fu) S x1 x2 x3 x4 x5 x7 x9 x10
def f_X11_both_59 (S : St) (x1 : Int32) (x2 : Int32) (x3 : Int32) (x4 : Int32) (x5 : Int64) (x7 : Int64) (t0 : Int32) : Option (Int32 × St) :=
  l_X11_both_64 FU S x1 x2 x3 x4 x5 x7 t0 0
def f_X11_both (S : St) (x1 : Int32) (x2 : Int32) : Option (Int32 × St) :=
  obd2 (f_X11_in S (x1.toInt64) (1) (3)) fun r17 S17 =>
  if r17 = 0 then (
    some ((-3), S17)
  ) else (
    obd2 (f_X11_in S17 (x2.toInt64) (0) (1)) fun r19 S19 =>
    if r19 = 0 then (
      some ((-3), S19)
    ) else (
      if x1 = 1 then (
        f_X11_both_59 S19 x1 x2 (-1) (-1) (0) (1) 6
      ) else (
        if x1 = 2 then (
          f_X11_both_59 S19 x1 x2 (-1) (-1) (0) (1) 36
        ) else (
          f_X11_both_59 S19 x1 x2 (-1) (-1) (0) (1) 216
        )
      )
    )
  )
set_option maxHeartbeats 4000000 in
set_option maxRecDepth 100000 in
theorem c_X11_both {l : Launch} {D : va_G} {cI cC cS : ClassId} {ad adK adV : Nat → Nat} {S S1 : St} {x1 : Int32} {x2 : Int32} {r : Int32} (h : f_X11_both S x1 x2 = some (r, S1)) : Kt l D (mw cI ad) (KX D (xtys cI cC cS) adK adV) yX11_both cX11_both 16 (some .int) (5) (134) [.ref (ad 0), .int x1, .int x2] S (some (.int r)) S1 := by
  refine k_ent (ins := .ireturn) (st := [.int r]) (by decide +kernel) (Nat.le_of_ble_eq_true rfl) ret_i ?_
  intro p e s m args below meth c A Q C hK I hA hq ls hl
  have C : CallFix p m c cX11_both 16 s args TT RX11 := C
  have hx := C.1
  have hb := C.2.1
  have kx := kx_ok D (xtys cI cC cS) adK adV
  have hl : lv_has ls 16 [(0, .ref (ad 0)), (1, .int x1), (2, .int x2)] := hl
  have J_246 : ∀ (k_64 : St → Int32 → Int32 → Int32 → Int32 → Int64 → Int64 → Int32 → Int32 → Option (Int32 × St)) (hk_64 : ∀ (S : St) (x1 : Int32) (x2 : Int32) (x3 : Int32) (x4 : Int32) (x5 : Int64) (x7 : Int64) (x9 : Int32) (x10 : Int32), k_64 S x1 x2 x3 x4 x5 x7 x9 x10 = some (r, S1) → ∀ (H : Heap) (locs : List Loc) (ls : Array Slot), Iv D (mw cI ad) S A s H locs → lv_has ls 16 [(0, .ref (ad 0)), (1, .int x1), (2, .int x2), (3, .int x3), (4, .int x4), (5, .long x5), (7, .long x7), (9, .int x9), (10, .int x10)] → W p l e ({ frames := 5, cells := 0, slots := 0, locals := 134 } : Room) s m args below meth c H locs 0 0 Q (F0 m 64 ls [])) (S : St) (x1 : Int32) (x2 : Int32) (x3 : Int32) (x4 : Int32) (x5 : Int64) (x7 : Int64) (x9 : Int32) (x10 : Int32), f_X11_both_246 k_64 S x1 x2 x3 x4 x5 x7 x9 x10 = some (r, S1) → ∀ (H : Heap) (locs : List Loc) (ls : Array Slot), Iv D (mw cI ad) S A s H locs → lv_has ls 16 [(0, .ref (ad 0)), (1, .int x1), (2, .int x2), (3, .int x3), (4, .int x4), (5, .long x5), (7, .long x7), (9, .int x9), (10, .int x10)] → W p l e ({ frames := 5, cells := 0, slots := 0, locals := 134 } : Room) s m args below meth c H locs 0 0 Q (F0 m 246 ls []) := by
    intro k_64 hk_64 S x1 x2 x3 x4 x5 x7 x9 x10 h H locs ls I hl
    unfold f_X11_both_246 at h
    obtain ⟨v1, ev1⟩ : ∃ y : Int32, y = x10 + 1 := ⟨_, rfl⟩
    have h := bnd_at ev1 h
    refine lv_iinc (v := v1) (lv' := [(10, .int v1), (0, .ref (ad 0)), (1, .int x1), (2, .int x2), (3, .int x3), (4, .int x4), (5, .long x5), (7, .long x7), (9, .int x9)]) hx hb dX11_both_246 hl (k := 8) rfl (by rw [ev1]; rfl) (by decide) rfl (fun ls hl => ?_)
    clear ev1
    refine lv_goto (tgt := 64) hx hb dX11_both_249 (by decide) ?_
    exact hk_64 _ _ _ _ _ _ _ _ _ h _ _ _ I (lv_sub hl [1, 2, 3, 4, 5, 6, 7, 8, 0] rfl)
  have J_244 : ∀ (k_64 : St → Int32 → Int32 → Int32 → Int32 → Int64 → Int64 → Int32 → Int32 → Option (Int32 × St)) (hk_64 : ∀ (S : St) (x1 : Int32) (x2 : Int32) (x3 : Int32) (x4 : Int32) (x5 : Int64) (x7 : Int64) (x9 : Int32) (x10 : Int32), k_64 S x1 x2 x3 x4 x5 x7 x9 x10 = some (r, S1) → ∀ (H : Heap) (locs : List Loc) (ls : Array Slot), Iv D (mw cI ad) S A s H locs → lv_has ls 16 [(0, .ref (ad 0)), (1, .int x1), (2, .int x2), (3, .int x3), (4, .int x4), (5, .long x5), (7, .long x7), (9, .int x9), (10, .int x10)] → W p l e ({ frames := 5, cells := 0, slots := 0, locals := 134 } : Room) s m args below meth c H locs 0 0 Q (F0 m 64 ls [])) (S : St) (x1 : Int32) (x2 : Int32) (x3 : Int32) (x4 : Int32) (x5 : Int64) (x9 : Int32) (x10 : Int32) (t0 : Int64), f_X11_both_244 k_64 S x1 x2 x3 x4 x5 x9 x10 t0 = some (r, S1) → ∀ (H : Heap) (locs : List Loc) (ls : Array Slot), Iv D (mw cI ad) S A s H locs → lv_has ls 16 [(0, .ref (ad 0)), (1, .int x1), (2, .int x2), (3, .int x3), (4, .int x4), (5, .long x5), (9, .int x9), (10, .int x10)] → W p l e ({ frames := 5, cells := 0, slots := 0, locals := 134 } : Room) s m args below meth c H locs 0 0 Q (F0 m 244 ls [.long t0]) := by
    intro k_64 hk_64 S x1 x2 x3 x4 x5 x9 x10 t0 h H locs ls I hl
    unfold f_X11_both_244 at h
    refine lv_lstore (lv' := [(7, .long t0), (0, .ref (ad 0)), (1, .int x1), (2, .int x2), (3, .int x3), (4, .int x4), (5, .long x5), (9, .int x9), (10, .int x10)]) hx hb dX11_both_244 hl (by decide) rfl (fun ls hl => ?_)
    exact J_246 k_64 hk_64 _ _ _ _ _ _ _ _ _ h _ _ _ I (lv_sub hl [1, 2, 3, 4, 5, 6, 0, 7, 8] rfl)
  have J_228 : ∀ (k_64 : St → Int32 → Int32 → Int32 → Int32 → Int64 → Int64 → Int32 → Int32 → Option (Int32 × St)) (hk_64 : ∀ (S : St) (x1 : Int32) (x2 : Int32) (x3 : Int32) (x4 : Int32) (x5 : Int64) (x7 : Int64) (x9 : Int32) (x10 : Int32), k_64 S x1 x2 x3 x4 x5 x7 x9 x10 = some (r, S1) → ∀ (H : Heap) (locs : List Loc) (ls : Array Slot), Iv D (mw cI ad) S A s H locs → lv_has ls 16 [(0, .ref (ad 0)), (1, .int x1), (2, .int x2), (3, .int x3), (4, .int x4), (5, .long x5), (7, .long x7), (9, .int x9), (10, .int x10)] → W p l e ({ frames := 5, cells := 0, slots := 0, locals := 134 } : Room) s m args below meth c H locs 0 0 Q (F0 m 64 ls [])) (S : St) (x1 : Int32) (x2 : Int32) (x3 : Int32) (x4 : Int32) (x7 : Int64) (x9 : Int32) (x10 : Int32) (x15 : Int32) (t0 : Int64), f_X11_both_228 k_64 S x1 x2 x3 x4 x7 x9 x10 x15 t0 = some (r, S1) → ∀ (H : Heap) (locs : List Loc) (ls : Array Slot), Iv D (mw cI ad) S A s H locs → lv_has ls 16 [(0, .ref (ad 0)), (1, .int x1), (2, .int x2), (3, .int x3), (4, .int x4), (7, .long x7), (9, .int x9), (10, .int x10), (15, .int x15)] → W p l e ({ frames := 5, cells := 0, slots := 0, locals := 134 } : Room) s m args below meth c H locs 0 0 Q (F0 m 228 ls [.long t0]) := by
    intro k_64 hk_64 S x1 x2 x3 x4 x7 x9 x10 x15 t0 h H locs ls I hl
    unfold f_X11_both_228 at h
    refine lv_lstore (lv' := [(5, .long t0), (0, .ref (ad 0)), (1, .int x1), (2, .int x2), (3, .int x3), (4, .int x4), (7, .long x7), (9, .int x9), (10, .int x10), (15, .int x15)]) hx hb dX11_both_228 hl (by decide) rfl (fun ls hl => ?_)
    refine lv_iload hx hb dX11_both_230 (lv_at hl 9 rfl) ?_
    refine lv_if_eq (tgt := 242) hx hb dX11_both_232 (by decide) (fun c2 => ?_) (fun c2 => ?_)
    · have h := ite_t c2 h
      refine lv_lload hx hb dX11_both_242 (lv_at hl 6 rfl) ?_
      exact J_244 k_64 hk_64 _ _ _ _ _ _ _ _ _ h _ _ _ I (lv_sub hl [1, 2, 3, 4, 5, 0, 7, 8] rfl)
    · have h := ite_n c2 h
      refine lv_aload_n hx hb dX11_both_235 rfl (lv_at hl 1 rfl) ?_
      refine gm_0_23 C hK I fl_X11_197 dX11_both_236 ?_
      refine lv_goto (tgt := 244) hx hb dX11_both_239 (by decide) ?_
      exact J_244 k_64 hk_64 _ _ _ _ _ _ _ _ _ h _ _ _ I (lv_sub hl [1, 2, 3, 4, 5, 0, 7, 8] rfl)
  have J_214 : ∀ (k_64 : St → Int32 → Int32 → Int32 → Int32 → Int64 → Int64 → Int32 → Int32 → Option (Int32 × St)) (hk_64 : ∀ (S : St) (x1 : Int32) (x2 : Int32) (x3 : Int32) (x4 : Int32) (x5 : Int64) (x7 : Int64) (x9 : Int32) (x10 : Int32), k_64 S x1 x2 x3 x4 x5 x7 x9 x10 = some (r, S1) → ∀ (H : Heap) (locs : List Loc) (ls : Array Slot), Iv D (mw cI ad) S A s H locs → lv_has ls 16 [(0, .ref (ad 0)), (1, .int x1), (2, .int x2), (3, .int x3), (4, .int x4), (5, .long x5), (7, .long x7), (9, .int x9), (10, .int x10)] → W p l e ({ frames := 5, cells := 0, slots := 0, locals := 134 } : Room) s m args below meth c H locs 0 0 Q (F0 m 64 ls [])) (S : St) (x1 : Int32) (x2 : Int32) (x3 : Int32) (x5 : Int64) (x7 : Int64) (x9 : Int32) (x10 : Int32) (x13 : Int64) (x15 : Int32) (t0 : Int32), f_X11_both_214 k_64 S x1 x2 x3 x5 x7 x9 x10 x13 x15 t0 = some (r, S1) → ∀ (H : Heap) (locs : List Loc) (ls : Array Slot), Iv D (mw cI ad) S A s H locs → lv_has ls 16 [(0, .ref (ad 0)), (1, .int x1), (2, .int x2), (3, .int x3), (5, .long x5), (7, .long x7), (9, .int x9), (10, .int x10), (13, .long x13), (15, .int x15)] → W p l e ({ frames := 5, cells := 0, slots := 0, locals := 134 } : Room) s m args below meth c H locs 0 0 Q (F0 m 214 ls [.int t0]) := by
    intro k_64 hk_64 S x1 x2 x3 x5 x7 x9 x10 x13 x15 t0 h H locs ls I hl
    unfold f_X11_both_214 at h
    refine lv_istore (lv' := [(4, .int t0), (0, .ref (ad 0)), (1, .int x1), (2, .int x2), (3, .int x3), (5, .long x5), (7, .long x7), (9, .int x9), (10, .int x10), (13, .long x13), (15, .int x15)]) hx hb dX11_both_214 hl (by decide) rfl (fun ls hl => ?_)
    refine lv_iload hx hb dX11_both_216 (lv_at hl 10 rfl) ?_
    refine lv_if_eq (tgt := 226) hx hb dX11_both_218 (by decide) (fun c3 => ?_) (fun c3 => ?_)
    · have h := ite_t c3 h
      refine lv_lload hx hb dX11_both_226 (lv_at hl 5 rfl) ?_
      exact J_228 k_64 hk_64 _ _ _ _ _ _ _ _ _ _ h _ _ _ I (lv_sub hl [1, 2, 3, 4, 0, 6, 7, 8, 10] rfl)
    · have h := ite_n c3 h
      refine lv_lload hx hb dX11_both_221 (lv_at hl 9 rfl) ?_
      refine lv_goto (tgt := 228) hx hb dX11_both_223 (by decide) ?_
      exact J_228 k_64 hk_64 _ _ _ _ _ _ _ _ _ _ h _ _ _ I (lv_sub hl [1, 2, 3, 4, 0, 6, 7, 8, 10] rfl)
  have J_201 : ∀ (k_64 : St → Int32 → Int32 → Int32 → Int32 → Int64 → Int64 → Int32 → Int32 → Option (Int32 × St)) (hk_64 : ∀ (S : St) (x1 : Int32) (x2 : Int32) (x3 : Int32) (x4 : Int32) (x5 : Int64) (x7 : Int64) (x9 : Int32) (x10 : Int32), k_64 S x1 x2 x3 x4 x5 x7 x9 x10 = some (r, S1) → ∀ (H : Heap) (locs : List Loc) (ls : Array Slot), Iv D (mw cI ad) S A s H locs → lv_has ls 16 [(0, .ref (ad 0)), (1, .int x1), (2, .int x2), (3, .int x3), (4, .int x4), (5, .long x5), (7, .long x7), (9, .int x9), (10, .int x10)] → W p l e ({ frames := 5, cells := 0, slots := 0, locals := 134 } : Room) s m args below meth c H locs 0 0 Q (F0 m 64 ls [])) (S : St) (x1 : Int32) (x2 : Int32) (x4 : Int32) (x5 : Int64) (x7 : Int64) (x9 : Int32) (x10 : Int32) (x12 : Int32) (x13 : Int64) (x15 : Int32) (t0 : Int32), f_X11_both_201 k_64 S x1 x2 x4 x5 x7 x9 x10 x12 x13 x15 t0 = some (r, S1) → ∀ (H : Heap) (locs : List Loc) (ls : Array Slot), Iv D (mw cI ad) S A s H locs → lv_has ls 16 [(0, .ref (ad 0)), (1, .int x1), (2, .int x2), (4, .int x4), (5, .long x5), (7, .long x7), (9, .int x9), (10, .int x10), (12, .int x12), (13, .long x13), (15, .int x15)] → W p l e ({ frames := 5, cells := 0, slots := 0, locals := 134 } : Room) s m args below meth c H locs 0 0 Q (F0 m 201 ls [.int t0]) := by
    intro k_64 hk_64 S x1 x2 x4 x5 x7 x9 x10 x12 x13 x15 t0 h H locs ls I hl
    unfold f_X11_both_201 at h
    refine lv_istore_n (lv' := [(3, .int t0), (0, .ref (ad 0)), (1, .int x1), (2, .int x2), (4, .int x4), (5, .long x5), (7, .long x7), (9, .int x9), (10, .int x10), (12, .int x12), (13, .long x13), (15, .int x15)]) hx hb dX11_both_201 rfl hl (by decide) rfl (fun ls hl => ?_)
    refine lv_iload hx hb dX11_both_202 (lv_at hl 11 rfl) ?_
    refine lv_if_eq (tgt := 212) hx hb dX11_both_204 (by decide) (fun c4 => ?_) (fun c4 => ?_)
    · have h := ite_t c4 h
      refine lv_iload hx hb dX11_both_212 (lv_at hl 4 rfl) ?_
      exact J_214 k_64 hk_64 _ _ _ _ _ _ _ _ _ _ _ h _ _ _ I (lv_sub hl [1, 2, 3, 0, 5, 6, 7, 8, 10, 11] rfl)
    · have h := ite_n c4 h
      refine lv_iload hx hb dX11_both_207 (lv_at hl 9 rfl) ?_
      refine lv_goto (tgt := 214) hx hb dX11_both_209 (by decide) ?_
      exact J_214 k_64 hk_64 _ _ _ _ _ _ _ _ _ _ _ h _ _ _ I (lv_sub hl [1, 2, 3, 0, 5, 6, 7, 8, 10, 11] rfl)
  have J_188 : ∀ (k_64 : St → Int32 → Int32 → Int32 → Int32 → Int64 → Int64 → Int32 → Int32 → Option (Int32 × St)) (hk_64 : ∀ (S : St) (x1 : Int32) (x2 : Int32) (x3 : Int32) (x4 : Int32) (x5 : Int64) (x7 : Int64) (x9 : Int32) (x10 : Int32), k_64 S x1 x2 x3 x4 x5 x7 x9 x10 = some (r, S1) → ∀ (H : Heap) (locs : List Loc) (ls : Array Slot), Iv D (mw cI ad) S A s H locs → lv_has ls 16 [(0, .ref (ad 0)), (1, .int x1), (2, .int x2), (3, .int x3), (4, .int x4), (5, .long x5), (7, .long x7), (9, .int x9), (10, .int x10)] → W p l e ({ frames := 5, cells := 0, slots := 0, locals := 134 } : Room) s m args below meth c H locs 0 0 Q (F0 m 64 ls [])) (S : St) (x1 : Int32) (x2 : Int32) (x3 : Int32) (x4 : Int32) (x5 : Int64) (x7 : Int64) (x9 : Int32) (x10 : Int32) (x11 : Int32) (x12 : Int32) (x13 : Int64) (t0 : Int32), f_X11_both_188 k_64 S x1 x2 x3 x4 x5 x7 x9 x10 x11 x12 x13 t0 = some (r, S1) → ∀ (H : Heap) (locs : List Loc) (ls : Array Slot), Iv D (mw cI ad) S A s H locs → lv_has ls 16 [(0, .ref (ad 0)), (1, .int x1), (2, .int x2), (3, .int x3), (4, .int x4), (5, .long x5), (7, .long x7), (9, .int x9), (10, .int x10), (11, .int x11), (12, .int x12), (13, .long x13)] → W p l e ({ frames := 5, cells := 0, slots := 0, locals := 134 } : Room) s m args below meth c H locs 0 0 Q (F0 m 188 ls [.int t0]) := by
    intro k_64 hk_64 S x1 x2 x3 x4 x5 x7 x9 x10 x11 x12 x13 t0 h H locs ls I hl
    unfold f_X11_both_188 at h
    refine lv_istore (lv' := [(15, .int t0), (0, .ref (ad 0)), (1, .int x1), (2, .int x2), (3, .int x3), (4, .int x4), (5, .long x5), (7, .long x7), (9, .int x9), (10, .int x10), (11, .int x11), (12, .int x12), (13, .long x13)]) hx hb dX11_both_188 hl (by decide) rfl (fun ls hl => ?_)
    refine lv_iload hx hb dX11_both_190 (lv_at hl 0 rfl) ?_
    refine lv_if_eq (tgt := 200) hx hb dX11_both_192 (by decide) (fun c5 => ?_) (fun c5 => ?_)
    · have h := ite_t c5 h
      refine lv_iload_n hx hb dX11_both_200 rfl (lv_at hl 4 rfl) ?_
      exact J_201 k_64 hk_64 _ _ _ _ _ _ _ _ _ _ _ _ h _ _ _ I (lv_sub hl [1, 2, 3, 5, 6, 7, 8, 9, 11, 12, 0] rfl)
    · have h := ite_n c5 h
      refine lv_iload hx hb dX11_both_195 (lv_at hl 10 rfl) ?_
      refine lv_goto (tgt := 201) hx hb dX11_both_197 (by decide) ?_
      exact J_201 k_64 hk_64 _ _ _ _ _ _ _ _ _ _ _ _ h _ _ _ I (lv_sub hl [1, 2, 3, 5, 6, 7, 8, 9, 11, 12, 0] rfl)
  have J_183 : ∀ (k_64 : St → Int32 → Int32 → Int32 → Int32 → Int64 → Int64 → Int32 → Int32 → Option (Int32 × St)) (hk_64 : ∀ (S : St) (x1 : Int32) (x2 : Int32) (x3 : Int32) (x4 : Int32) (x5 : Int64) (x7 : Int64) (x9 : Int32) (x10 : Int32), k_64 S x1 x2 x3 x4 x5 x7 x9 x10 = some (r, S1) → ∀ (H : Heap) (locs : List Loc) (ls : Array Slot), Iv D (mw cI ad) S A s H locs → lv_has ls 16 [(0, .ref (ad 0)), (1, .int x1), (2, .int x2), (3, .int x3), (4, .int x4), (5, .long x5), (7, .long x7), (9, .int x9), (10, .int x10)] → W p l e ({ frames := 5, cells := 0, slots := 0, locals := 134 } : Room) s m args below meth c H locs 0 0 Q (F0 m 64 ls [])) (S : St) (x1 : Int32) (x2 : Int32) (x3 : Int32) (x4 : Int32) (x5 : Int64) (x7 : Int64) (x9 : Int32) (x10 : Int32) (x11 : Int32) (x12 : Int32) (x13 : Int64), f_X11_both_183 k_64 S x1 x2 x3 x4 x5 x7 x9 x10 x11 x12 x13 = some (r, S1) → ∀ (H : Heap) (locs : List Loc) (ls : Array Slot), Iv D (mw cI ad) S A s H locs → lv_has ls 16 [(0, .ref (ad 0)), (1, .int x1), (2, .int x2), (3, .int x3), (4, .int x4), (5, .long x5), (7, .long x7), (9, .int x9), (10, .int x10), (11, .int x11), (12, .int x12), (13, .long x13)] → W p l e ({ frames := 5, cells := 0, slots := 0, locals := 134 } : Room) s m args below meth c H locs 0 0 Q (F0 m 183 ls []) := by
    intro k_64 hk_64 S x1 x2 x3 x4 x5 x7 x9 x10 x11 x12 x13 h H locs ls I hl
    unfold f_X11_both_183 at h
    refine lv_iconst (v := 1) hx hb dX11_both_183 (by decide) ?_
    refine lv_goto (tgt := 188) hx hb dX11_both_184 (by decide) ?_
    exact J_188 k_64 hk_64 _ _ _ _ _ _ _ _ _ _ _ _ _ h _ _ _ I (lv_sub hl [0, 1, 2, 3, 4, 5, 6, 7, 8, 9, 10, 11] rfl)
  have J_127 : ∀ (k_64 : St → Int32 → Int32 → Int32 → Int32 → Int64 → Int64 → Int32 → Int32 → Option (Int32 × St)) (hk_64 : ∀ (S : St) (x1 : Int32) (x2 : Int32) (x3 : Int32) (x4 : Int32) (x5 : Int64) (x7 : Int64) (x9 : Int32) (x10 : Int32), k_64 S x1 x2 x3 x4 x5 x7 x9 x10 = some (r, S1) → ∀ (H : Heap) (locs : List Loc) (ls : Array Slot), Iv D (mw cI ad) S A s H locs → lv_has ls 16 [(0, .ref (ad 0)), (1, .int x1), (2, .int x2), (3, .int x3), (4, .int x4), (5, .long x5), (7, .long x7), (9, .int x9), (10, .int x10)] → W p l e ({ frames := 5, cells := 0, slots := 0, locals := 134 } : Room) s m args below meth c H locs 0 0 Q (F0 m 64 ls [])) (S : St) (x1 : Int32) (x2 : Int32) (x3 : Int32) (x4 : Int32) (x5 : Int64) (x7 : Int64) (x9 : Int32) (x10 : Int32) (t0 : Int32), f_X11_both_127 k_64 S x1 x2 x3 x4 x5 x7 x9 x10 t0 = some (r, S1) → ∀ (H : Heap) (locs : List Loc) (ls : Array Slot), Iv D (mw cI ad) S A s H locs → lv_has ls 16 [(0, .ref (ad 0)), (1, .int x1), (2, .int x2), (3, .int x3), (4, .int x4), (5, .long x5), (7, .long x7), (9, .int x9), (10, .int x10)] → W p l e ({ frames := 5, cells := 0, slots := 0, locals := 134 } : Room) s m args below meth c H locs 0 0 Q (F0 m 127 ls [.int t0]) := by
    intro k_64 hk_64 S x1 x2 x3 x4 x5 x7 x9 x10 t0 h H locs ls I hl
    unfold f_X11_both_127 at h
    refine lv_istore (lv' := [(11, .int t0), (0, .ref (ad 0)), (1, .int x1), (2, .int x2), (3, .int x3), (4, .int x4), (5, .long x5), (7, .long x7), (9, .int x9), (10, .int x10)]) hx hb dX11_both_127 hl (by decide) rfl (fun ls hl => ?_)
    refine lv_aload_n hx hb dX11_both_129 rfl (lv_at hl 1 rfl) ?_
    refine lv_iload hx hb dX11_both_130 (lv_at hl 0 rfl) ?_
    refine lv_iload_n hx hb dX11_both_132 rfl (lv_at hl 2 rfl) ?_
    obtain ⟨r6, S6, e6, h⟩ := obd2_ex h
    refine k_V (As := [.int t0, .int x1]) (rest := []) (st1 := [.int r6]) C kx hK I hA (c_X11_refuses e6) ⟨Nat.le_of_ble_eq_true rfl, Nat.le_of_ble_eq_true rfl⟩ mv_X11_refuses lk_X11_231 0 11 (mw_0 (cI := cI) (ad := ad)) rfl rfl hl.1 rfl (Nat.le_of_ble_eq_true rfl) dX11_both_133 rfl (fun H locs I => ?_)
    refine lv_if_ne (tgt := 246) hx hb dX11_both_136 (by decide) (fun c7 => ?_) (fun c7 => ?_)
    · have h := ite_n c7 h
      exact J_246 k_64 hk_64 _ _ _ _ _ _ _ _ _ h _ _ _ I (lv_sub hl [1, 2, 3, 4, 5, 6, 7, 8, 9] rfl)
    · have h := ite_t c7 h
      refine lv_aload_n hx hb dX11_both_139 rfl (lv_at hl 1 rfl) ?_
      refine lv_iload hx hb dX11_both_140 (lv_at hl 0 rfl) ?_
      refine lv_iload_n hx hb dX11_both_142 rfl (lv_at hl 2 rfl) ?_
      obtain ⟨S8, e8, h⟩ := obd_ex h
      refine k_V (As := [.int t0, .int x1]) (rest := []) (st1 := []) C kx hK I hA (c_X11_layRow e8) ⟨Nat.le_of_ble_eq_true rfl, Nat.le_of_ble_eq_true rfl⟩ mv_X11_layRow lk_X11_241 0 11 (mw_0 (cI := cI) (ad := ad)) rfl rfl hl.1 rfl (Nat.le_of_ble_eq_true rfl) dX11_both_143 rfl (fun H locs I => ?_)
      refine lv_aload_n hx hb dX11_both_146 rfl (lv_at hl 1 rfl) ?_
      obtain ⟨r9, S9, e9, h⟩ := obd2_ex h
      refine k_V (As := []) (rest := []) (st1 := [.int r9]) C kx hK I hA (c_X11_bestBag e9) ⟨Nat.le_of_ble_eq_true rfl, Nat.le_of_ble_eq_true rfl⟩ mv_X11_bestBag lk_X11_256 0 11 (mw_0 (cI := cI) (ad := ad)) rfl rfl hl.1 rfl (Nat.le_of_ble_eq_true rfl) dX11_both_147 rfl (fun H locs I => ?_)
      refine lv_istore (lv' := [(12, .int r9), (11, .int t0), (0, .ref (ad 0)), (1, .int x1), (2, .int x2), (3, .int x3), (4, .int x4), (5, .long x5), (7, .long x7), (9, .int x9), (10, .int x10)]) hx hb dX11_both_150 hl (by decide) rfl (fun ls hl => ?_)
      refine lv_aload_n hx hb dX11_both_152 rfl (lv_at hl 2 rfl) ?_
      refine lv_iload hx hb dX11_both_153 (lv_at hl 0 rfl) ?_
      refine lv_iconst (v := (-1)) hx hb dX11_both_155 (by decide) ?_
      refine lv_iconst (v := 0) hx hb dX11_both_156 (by decide) ?_
      obtain ⟨r10, S10, e10, h⟩ := obd2_ex h
      refine k_V (As := [.int r9, .int (-1), .int 0]) (rest := []) (st1 := [.long r10]) C kx hK I hA (c_X11_meanOf e10) ⟨Nat.le_of_ble_eq_true rfl, Nat.le_of_ble_eq_true rfl⟩ mv_X11_meanOf lk_X11_244 0 11 (mw_0 (cI := cI) (ad := ad)) rfl rfl hl.1 rfl (Nat.le_of_ble_eq_true rfl) dX11_both_157 rfl (fun H locs I => ?_)
      refine lv_lstore (lv' := [(13, .long r10), (12, .int r9), (11, .int t0), (0, .ref (ad 0)), (1, .int x1), (2, .int x2), (3, .int x3), (4, .int x4), (5, .long x5), (7, .long x7), (9, .int x9), (10, .int x10)]) hx hb dX11_both_160 hl (by decide) rfl (fun ls hl => ?_)
      refine lv_iload_n hx hb dX11_both_162 rfl (lv_at hl 6 rfl) ?_
      refine lv_iconst (v := (-1)) hx hb dX11_both_163 (by decide) ?_
      refine lv_icmp_eq (tgt := 183) hx hb dX11_both_164 (by decide) (fun c11 => ?_) (fun c11 => ?_)
      · have h := ite_t c11 h
        exact J_183 k_64 hk_64 _ _ _ _ _ _ _ _ _ _ _ _ h _ _ _ I (lv_sub hl [3, 4, 5, 6, 7, 8, 9, 10, 11, 2, 1, 0] rfl)
      · have h := ite_n c11 h
        refine lv_lload hx hb dX11_both_167 (lv_at hl 0 rfl) ?_
        refine lv_lload hx hb dX11_both_169 (lv_at hl 9 rfl) ?_
        refine lv_lmul hx hb dX11_both_171 ?_
        refine lv_lload hx hb dX11_both_172 (lv_at hl 8 rfl) ?_
        refine lv_aload_n hx hb dX11_both_174 rfl (lv_at hl 3 rfl) ?_
        refine gm_0_23 C hK I fl_X11_197 dX11_both_175 ?_
        refine lv_lmul hx hb dX11_both_178 ?_
        refine W.lcmp hx hb dX11_both_179 ?_
        refine lv_if_le (tgt := 187) hx hb dX11_both_180 (by decide) (fun c12 => ?_) (fun c12 => ?_)
        · have h := ite_t c12 h
          refine lv_iconst (v := 0) hx hb dX11_both_187 (by decide) ?_
          exact J_188 k_64 hk_64 _ _ _ _ _ _ _ _ _ _ _ _ _ h _ _ _ I (lv_sub hl [3, 4, 5, 6, 7, 8, 9, 10, 11, 2, 1, 0] rfl)
        · have h := ite_n c12 h
          exact J_183 k_64 hk_64 _ _ _ _ _ _ _ _ _ _ _ _ h _ _ _ I (lv_sub hl [3, 4, 5, 6, 7, 8, 9, 10, 11, 2, 1, 0] rfl)
  have B_64 : ∀ (k_64 : St → Int32 → Int32 → Int32 → Int32 → Int64 → Int64 → Int32 → Int32 → Option (Int32 × St)) (hk_64 : ∀ (S : St) (x1 : Int32) (x2 : Int32) (x3 : Int32) (x4 : Int32) (x5 : Int64) (x7 : Int64) (x9 : Int32) (x10 : Int32), k_64 S x1 x2 x3 x4 x5 x7 x9 x10 = some (r, S1) → ∀ (H : Heap) (locs : List Loc) (ls : Array Slot), Iv D (mw cI ad) S A s H locs → lv_has ls 16 [(0, .ref (ad 0)), (1, .int x1), (2, .int x2), (3, .int x3), (4, .int x4), (5, .long x5), (7, .long x7), (9, .int x9), (10, .int x10)] → W p l e ({ frames := 5, cells := 0, slots := 0, locals := 134 } : Room) s m args below meth c H locs 0 0 Q (F0 m 64 ls [])) (S : St) (x1 : Int32) (x2 : Int32) (x3 : Int32) (x4 : Int32) (x5 : Int64) (x7 : Int64) (x9 : Int32) (x10 : Int32), f_X11_both_64 k_64 S x1 x2 x3 x4 x5 x7 x9 x10 = some (r, S1) → ∀ (H : Heap) (locs : List Loc) (ls : Array Slot), Iv D (mw cI ad) S A s H locs → lv_has ls 16 [(0, .ref (ad 0)), (1, .int x1), (2, .int x2), (3, .int x3), (4, .int x4), (5, .long x5), (7, .long x7), (9, .int x9), (10, .int x10)] → W p l e ({ frames := 5, cells := 0, slots := 0, locals := 134 } : Room) s m args below meth c H locs 0 0 Q (F0 m 64 ls []) := by
    intro k_64 hk_64 S x1 x2 x3 x4 x5 x7 x9 x10 h H locs ls I hl
    unfold f_X11_both_64 at h
    refine lv_iload hx hb dX11_both_64 (lv_at hl 8 rfl) ?_
    refine lv_iload hx hb dX11_both_66 (lv_at hl 7 rfl) ?_
    refine lv_icmp_ge (tgt := 252) hx hb dX11_both_68 (by decide) (fun c13 => ?_) (fun c13 => ?_)
    · have h := ite_t c13 h
      refine lv_iload_n hx hb dX11_both_252 rfl (lv_at hl 2 rfl) ?_
      refine lv_if_ne (tgt := 260) hx hb dX11_both_253 (by decide) (fun c14 => ?_) (fun c14 => ?_)
      · have h := ite_n c14 h
        refine lv_iload hx hb dX11_both_260 (lv_at hl 4 rfl) ?_
        exact rt_i hq h I dX11_both_262
      · have h := ite_t c14 h
        refine lv_iload_n hx hb dX11_both_256 rfl (lv_at hl 3 rfl) ?_
        refine lv_goto (tgt := 262) hx hb dX11_both_257 (by decide) ?_
        exact rt_i hq h I dX11_both_262
    · have h := ite_n c13 h
      refine lv_iload_n hx hb dX11_both_71 rfl (lv_at hl 1 rfl) ?_
      refine lv_iconst (v := 1) hx hb dX11_both_72 (by decide) ?_
      refine lv_icmp_ne (tgt := 81) hx hb dX11_both_73 (by decide) (fun c15 => ?_) (fun c15 => ?_)
      · have h := ite_n c15 h
        refine lv_iload_n hx hb dX11_both_81 rfl (lv_at hl 1 rfl) ?_
        refine lv_iconst (v := 2) hx hb dX11_both_82 (by decide) ?_
        refine lv_icmp_ne (tgt := 102) hx hb dX11_both_83 (by decide) (fun c16 => ?_) (fun c16 => ?_)
        · have h := ite_n c16 h
          refine lv_iload hx hb dX11_both_102 (lv_at hl 8 rfl) ?_
          refine lv_bipush (v := 36) hx hb dX11_both_104 (by decide) ?_
          refine lv_idiv hx hb dX11_both_106 (by decide) ?_
          refine lv_iload hx hb dX11_both_107 (lv_at hl 8 rfl) ?_
          refine lv_bipush (v := 6) hx hb dX11_both_109 (by decide) ?_
          refine lv_idiv hx hb dX11_both_111 (by decide) ?_
          refine lv_bipush (v := 6) hx hb dX11_both_112 (by decide) ?_
          refine lv_irem hx hb dX11_both_114 (by decide) ?_
          refine lv_iconst (v := 4) hx hb dX11_both_115 (by decide) ?_
          refine lv_ishl hx hb dX11_both_116 ?_
          refine lv_ior hx hb dX11_both_117 ?_
          refine lv_iload hx hb dX11_both_118 (lv_at hl 8 rfl) ?_
          refine lv_bipush (v := 6) hx hb dX11_both_120 (by decide) ?_
          refine lv_irem hx hb dX11_both_122 (by decide) ?_
          refine lv_bipush (v := 8) hx hb dX11_both_123 (by decide) ?_
          refine lv_ishl hx hb dX11_both_125 ?_
          refine lv_ior hx hb dX11_both_126 ?_
          exact J_127 k_64 hk_64 _ _ _ _ _ _ _ _ _ _ h _ _ _ I (lv_sub hl [0, 1, 2, 3, 4, 5, 6, 7, 8] rfl)
        · have h := ite_t c16 h
          refine lv_iload hx hb dX11_both_86 (lv_at hl 8 rfl) ?_
          refine lv_bipush (v := 6) hx hb dX11_both_88 (by decide) ?_
          refine lv_idiv hx hb dX11_both_90 (by decide) ?_
          refine lv_iload hx hb dX11_both_91 (lv_at hl 8 rfl) ?_
          refine lv_bipush (v := 6) hx hb dX11_both_93 (by decide) ?_
          refine lv_irem hx hb dX11_both_95 (by decide) ?_
          refine lv_iconst (v := 4) hx hb dX11_both_96 (by decide) ?_
          refine lv_ishl hx hb dX11_both_97 ?_
          refine lv_ior hx hb dX11_both_98 ?_
          refine lv_goto (tgt := 127) hx hb dX11_both_99 (by decide) ?_
          exact J_127 k_64 hk_64 _ _ _ _ _ _ _ _ _ _ h _ _ _ I (lv_sub hl [0, 1, 2, 3, 4, 5, 6, 7, 8] rfl)
      · have h := ite_t c15 h
        refine lv_iload hx hb dX11_both_76 (lv_at hl 8 rfl) ?_
        refine lv_goto (tgt := 127) hx hb dX11_both_78 (by decide) ?_
        exact J_127 k_64 hk_64 _ _ _ _ _ _ _ _ _ _ h _ _ _ I (lv_sub hl [0, 1, 2, 3, 4, 5, 6, 7, 8] rfl)
  have J_64 : ∀ (fu : Nat) (S : St) (x1 : Int32) (x2 : Int32) (x3 : Int32) (x4 : Int32) (x5 : Int64) (x7 : Int64) (x9 : Int32) (x10 : Int32), l_X11_both_64  fu S x1 x2 x3 x4 x5 x7 x9 x10 = some (r, S1) → ∀ (H : Heap) (locs : List Loc) (ls : Array Slot), Iv D (mw cI ad) S A s H locs → lv_has ls 16 [(0, .ref (ad 0)), (1, .int x1), (2, .int x2), (3, .int x3), (4, .int x4), (5, .long x5), (7, .long x7), (9, .int x9), (10, .int x10)] → W p l e ({ frames := 5, cells := 0, slots := 0, locals := 134 } : Room) s m args below meth c H locs 0 0 Q (F0 m 64 ls []) := by
    intro fu
    induction fu with
    | zero => intro S x1 x2 x3 x4 x5 x7 x9 x10 h; cases h
    | succ fu ih => intro S x1 x2 x3 x4 x5 x7 x9 x10 h; exact B_64 (l_X11_both_64 fu) ih S x1 x2 x3 x4 x5 x7 x9 x10 h
  have J_59 : ∀ (S : St) (x1 : Int32) (x2 : Int32) (x3 : Int32) (x4 : Int32) (x5 : Int64) (x7 : Int64) (t0 : Int32), f_X11_both_59  S x1 x2 x3 x4 x5 x7 t0 = some (r, S1) → ∀ (H : Heap) (locs : List Loc) (ls : Array Slot), Iv D (mw cI ad) S A s H locs → lv_has ls 16 [(0, .ref (ad 0)), (1, .int x1), (2, .int x2), (3, .int x3), (4, .int x4), (5, .long x5), (7, .long x7)] → W p l e ({ frames := 5, cells := 0, slots := 0, locals := 134 } : Room) s m args below meth c H locs 0 0 Q (F0 m 59 ls [.int t0]) := by
    intro  S x1 x2 x3 x4 x5 x7 t0 h H locs ls I hl
    unfold f_X11_both_59 at h
    refine lv_istore (lv' := [(9, .int t0), (0, .ref (ad 0)), (1, .int x1), (2, .int x2), (3, .int x3), (4, .int x4), (5, .long x5), (7, .long x7)]) hx hb dX11_both_59 hl (by decide) rfl (fun ls hl => ?_)
    refine lv_iconst (v := 0) hx hb dX11_both_61 (by decide) ?_
    refine lv_istore (lv' := [(10, .int 0), (9, .int t0), (0, .ref (ad 0)), (1, .int x1), (2, .int x2), (3, .int x3), (4, .int x4), (5, .long x5), (7, .long x7)]) hx hb dX11_both_62 hl (by decide) rfl (fun ls hl => ?_)
    exact J_64 _ _ _ _ _ _ _ _ _ _ h _ _ _ I (lv_sub hl [2, 3, 4, 5, 6, 7, 8, 1, 0] rfl)
  unfold f_X11_both at h
  refine lv_iload_n hx hb dX11_both_0 rfl (lv_at hl 1 rfl) ?_
  refine lv_i2l hx hb dX11_both_1 rfl ?_
  refine lv_lconst (v := (1)) hx hb dX11_both_2 (by decide) ?_
  refine lv_ldc2 (v := (3)) hx hb C.2.2.2.1 (C.2.2.2.2 _ cn_X11_154) dX11_both_3 ?_
  obtain ⟨r17, S17, e17, h⟩ := obd2_ex h
  refine k_S (As := [.long (x1.toInt64), .long (1), .long (3)]) (rest := []) (st1 := [.int r17]) C kx hK I hA (c_X11_in e17) ⟨Nat.le_of_ble_eq_true rfl, Nat.le_of_ble_eq_true rfl⟩ ms_X11_in lk_X11_55 rfl hl.1 rfl (Nat.le_of_ble_eq_true rfl) dX11_both_6 rfl (fun H locs I => ?_)
  refine lv_if_eq (tgt := 22) hx hb dX11_both_9 (by decide) (fun c18 => ?_) (fun c18 => ?_)
  · have h := ite_t c18 h
    refine lv_bipush (v := (-3)) hx hb dX11_both_22 (by decide) ?_
    exact rt_i hq h I dX11_both_24
  · have h := ite_n c18 h
    refine lv_iload_n hx hb dX11_both_12 rfl (lv_at hl 2 rfl) ?_
    refine lv_i2l hx hb dX11_both_13 rfl ?_
    refine lv_lconst (v := (0)) hx hb dX11_both_14 (by decide) ?_
    refine lv_lconst (v := (1)) hx hb dX11_both_15 (by decide) ?_
    obtain ⟨r19, S19, e19, h⟩ := obd2_ex h
    refine k_S (As := [.long (x2.toInt64), .long (0), .long (1)]) (rest := []) (st1 := [.int r19]) C kx hK I hA (c_X11_in e19) ⟨Nat.le_of_ble_eq_true rfl, Nat.le_of_ble_eq_true rfl⟩ ms_X11_in lk_X11_55 rfl hl.1 rfl (Nat.le_of_ble_eq_true rfl) dX11_both_16 rfl (fun H locs I => ?_)
    refine lv_if_ne (tgt := 25) hx hb dX11_both_19 (by decide) (fun c20 => ?_) (fun c20 => ?_)
    · have h := ite_n c20 h
      refine lv_iconst (v := (-1)) hx hb dX11_both_25 (by decide) ?_
      refine lv_istore_n (lv' := [(3, .int (-1)), (0, .ref (ad 0)), (1, .int x1), (2, .int x2)]) hx hb dX11_both_26 rfl hl (by decide) rfl (fun ls hl => ?_)
      refine lv_iconst (v := (-1)) hx hb dX11_both_27 (by decide) ?_
      refine lv_istore (lv' := [(4, .int (-1)), (3, .int (-1)), (0, .ref (ad 0)), (1, .int x1), (2, .int x2)]) hx hb dX11_both_28 hl (by decide) rfl (fun ls hl => ?_)
      refine lv_lconst (v := (0)) hx hb dX11_both_30 (by decide) ?_
      refine lv_lstore (lv' := [(5, .long (0)), (4, .int (-1)), (3, .int (-1)), (0, .ref (ad 0)), (1, .int x1), (2, .int x2)]) hx hb dX11_both_31 hl (by decide) rfl (fun ls hl => ?_)
      refine lv_lconst (v := (1)) hx hb dX11_both_33 (by decide) ?_
      refine lv_lstore (lv' := [(7, .long (1)), (5, .long (0)), (4, .int (-1)), (3, .int (-1)), (0, .ref (ad 0)), (1, .int x1), (2, .int x2)]) hx hb dX11_both_34 hl (by decide) rfl (fun ls hl => ?_)
      refine lv_iload_n hx hb dX11_both_36 rfl (lv_at hl 5 rfl) ?_
      refine lv_iconst (v := 1) hx hb dX11_both_37 (by decide) ?_
      refine lv_icmp_ne (tgt := 46) hx hb dX11_both_38 (by decide) (fun c21 => ?_) (fun c21 => ?_)
      · have h := ite_n c21 h
        refine lv_iload_n hx hb dX11_both_46 rfl (lv_at hl 5 rfl) ?_
        refine lv_iconst (v := 2) hx hb dX11_both_47 (by decide) ?_
        refine lv_icmp_ne (tgt := 56) hx hb dX11_both_48 (by decide) (fun c22 => ?_) (fun c22 => ?_)
        · have h := ite_n c22 h
          refine lv_sipush (v := 216) hx hb dX11_both_56 (by decide) ?_
          exact J_59 _ _ _ _ _ _ _ _ h _ _ _ I (lv_sub hl [4, 5, 6, 3, 2, 1, 0] rfl)
        · have h := ite_t c22 h
          refine lv_bipush (v := 36) hx hb dX11_both_51 (by decide) ?_
          refine lv_goto (tgt := 59) hx hb dX11_both_53 (by decide) ?_
          exact J_59 _ _ _ _ _ _ _ _ h _ _ _ I (lv_sub hl [4, 5, 6, 3, 2, 1, 0] rfl)
      · have h := ite_t c21 h
        refine lv_bipush (v := 6) hx hb dX11_both_41 (by decide) ?_
        refine lv_goto (tgt := 59) hx hb dX11_both_43 (by decide) ?_
        exact J_59 _ _ _ _ _ _ _ _ h _ _ _ I (lv_sub hl [4, 5, 6, 3, 2, 1, 0] rfl)
    · have h := ite_t c20 h
      refine lv_bipush (v := (-3)) hx hb dX11_both_22 (by decide) ?_
      exact rt_i hq h I dX11_both_24
