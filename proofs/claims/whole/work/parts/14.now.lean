theorem fl_X3_15 : Cond.fieldLink RX3 15 RX3 "first" "I" ∈ TT := tt_of 350 (by decide +kernel) rfl
theorem dX3_first_0 : decode cX3_first 0 = .ok (.aload_n 0, 1) := by decide +kernel
theorem dX3_first_1 : decode cX3_first 1 = .ok (.getfield 15, 3) := by decide +kernel
theorem dX3_first_4 : decode cX3_first 4 = .ok (.ireturn, 1) := by decide +kernel
def f_X3_first (S : St)  : Option (Int32 × St) :=
  some ((S.1 7 1), S)
set_option maxHeartbeats 4000000 in
set_option maxRecDepth 100000 in
theorem c_X3_first {l : Launch} {D : va_G} {cI cC cS : ClassId} {ad adK adV : Nat → Nat} {S S1 : St}  {r : Int32} (h : f_X3_first S  = some (r, S1)) : Kt l D (xw cI cC cS ad) (KX D (xtys cI cC cS) adK adV) yX3_first cX3_first 1 (some .int) (0) (0) [.ref (ad 7)] S (some (.int r)) S1 := by
  refine k_ent (ins := .ireturn) (st := [.int r]) (by decide +kernel) (Nat.le_of_ble_eq_true rfl) ret_i ?_
  intro p e s m args below meth c A Q C hK I hA hq ls hl
  have C : CallFix p m c cX3_first 1 s args TT RX3 := C
  have hx := C.1
  have hb := C.2.1
  have kx := kx_ok D (xtys cI cC cS) adK adV
  have hl : lv_has ls 1 [(0, .ref (ad 7))] := hl
  unfold f_X3_first at h
  refine lv_aload_n hx hb dX3_first_0 rfl (lv_at hl 0 rfl) ?_
  refine gx_7_1 C hK I fl_X3_15 dX3_first_1 ?_
  exact rt_i hq h I dX3_first_4
theorem fl_X3_19 : Cond.fieldLink RX3 19 RX3 "worth" "J" ∈ TT := tt_of 351 (by decide +kernel) rfl
theorem dX3_worth_0 : decode cX3_worth 0 = .ok (.aload_n 0, 1) := by decide +kernel
theorem dX3_worth_1 : decode cX3_worth 1 = .ok (.getfield 19, 3) := by decide +kernel
theorem dX3_worth_4 : decode cX3_worth 4 = .ok (.lreturn, 1) := by decide +kernel
def f_X3_worth (S : St)  : Option (Int64 × St) :=
  some ((S.2.1 7 2), S)
set_option maxHeartbeats 4000000 in
set_option maxRecDepth 100000 in
theorem c_X3_worth {l : Launch} {D : va_G} {cI cC cS : ClassId} {ad adK adV : Nat → Nat} {S S1 : St}  {r : Int64} (h : f_X3_worth S  = some (r, S1)) : Kt l D (xw cI cC cS ad) (KX D (xtys cI cC cS) adK adV) yX3_worth cX3_worth 1 (some .long) (0) (0) [.ref (ad 7)] S (some (.long r)) S1 := by
  refine k_ent (ins := .lreturn) (st := [.long r]) (by decide +kernel) (Nat.le_of_ble_eq_true rfl) ret_l ?_
  intro p e s m args below meth c A Q C hK I hA hq ls hl
  have C : CallFix p m c cX3_worth 1 s args TT RX3 := C
  have hx := C.1
  have hb := C.2.1
  have kx := kx_ok D (xtys cI cC cS) adK adV
  have hl : lv_has ls 1 [(0, .ref (ad 7))] := hl
  unfold f_X3_worth at h
  refine lv_aload_n hx hb dX3_worth_0 rfl (lv_at hl 0 rfl) ?_
  refine gx_7_2 C hK I fl_X3_19 dX3_worth_1 ?_
  exact rt_l hq h I dX3_worth_4
theorem fl_X3_23 : Cond.fieldLink RX3 23 RX3 "scale" "J" ∈ TT := tt_of 352 (by decide +kernel) rfl
theorem dX3_scale_0 : decode cX3_scale 0 = .ok (.aload_n 0, 1) := by decide +kernel
theorem dX3_scale_1 : decode cX3_scale 1 = .ok (.getfield 23, 3) := by decide +kernel
theorem dX3_scale_4 : decode cX3_scale 4 = .ok (.lreturn, 1) := by decide +kernel
def f_X3_scale (S : St)  : Option (Int64 × St) :=
  some ((S.2.1 7 3), S)
set_option maxHeartbeats 4000000 in
set_option maxRecDepth 100000 in
theorem c_X3_scale {l : Launch} {D : va_G} {cI cC cS : ClassId} {ad adK adV : Nat → Nat} {S S1 : St}  {r : Int64} (h : f_X3_scale S  = some (r, S1)) : Kt l D (xw cI cC cS ad) (KX D (xtys cI cC cS) adK adV) yX3_scale cX3_scale 1 (some .long) (0) (0) [.ref (ad 7)] S (some (.long r)) S1 := by
  refine k_ent (ins := .lreturn) (st := [.long r]) (by decide +kernel) (Nat.le_of_ble_eq_true rfl) ret_l ?_
  intro p e s m args below meth c A Q C hK I hA hq ls hl
  have C : CallFix p m c cX3_scale 1 s args TT RX3 := C
  have hx := C.1
  have hb := C.2.1
  have kx := kx_ok D (xtys cI cC cS) adK adV
  have hl : lv_has ls 1 [(0, .ref (ad 7))] := hl
  unfold f_X3_scale at h
  refine lv_aload_n hx hb dX3_scale_0 rfl (lv_at hl 0 rfl) ?_
  refine gx_7_3 C hK I fl_X3_23 dX3_scale_1 ?_
  exact rt_l hq h I dX3_scale_4
theorem lk_X3_34 : Cond.methodLink RX3 34 yX4_callWithSorts ∈ TT := tt_of 951 (by decide +kernel) rfl
theorem lk_X3_40 : Cond.methodLink RX3 40 yX1_likely ∈ TT := tt_of 952 (by decide +kernel) rfl
theorem dX3_scaleOf_0 : decode cX3_scaleOf 0 = .ok (.lconst 1, 1) := by decide +kernel
theorem dX3_scaleOf_1 : decode cX3_scaleOf 1 = .ok (.lstore_n 2, 1) := by decide +kernel
theorem dX3_scaleOf_2 : decode cX3_scaleOf 2 = .ok (.iconst 0, 1) := by decide +kernel
theorem dX3_scaleOf_3 : decode cX3_scaleOf 3 = .ok (.istore 4, 2) := by decide +kernel
theorem dX3_scaleOf_5 : decode cX3_scaleOf 5 = .ok (.iload 4, 2) := by decide +kernel
theorem dX3_scaleOf_7 : decode cX3_scaleOf 7 = .ok (.bipush 6, 2) := by decide +kernel
theorem dX3_scaleOf_9 : decode cX3_scaleOf 9 = .ok (.if_icmp .ge 41, 3) := by decide +kernel
theorem dX3_scaleOf_12 : decode cX3_scaleOf 12 = .ok (.aload_n 0, 1) := by decide +kernel
theorem dX3_scaleOf_13 : decode cX3_scaleOf 13 = .ok (.iload 4, 2) := by decide +kernel
theorem dX3_scaleOf_15 : decode cX3_scaleOf 15 = .ok (.invokevirtual 34, 3) := by decide +kernel
theorem dX3_scaleOf_18 : decode cX3_scaleOf 18 = .ok (.astore 5, 2) := by decide +kernel
theorem dX3_scaleOf_20 : decode cX3_scaleOf 20 = .ok (.aload 5, 2) := by decide +kernel
theorem dX3_scaleOf_22 : decode cX3_scaleOf 22 = .ok (.ifnull 22, 3) := by decide +kernel
theorem dX3_scaleOf_25 : decode cX3_scaleOf 25 = .ok (.iload_n 1, 1) := by decide +kernel
theorem dX3_scaleOf_26 : decode cX3_scaleOf 26 = .ok (.iload 4, 2) := by decide +kernel
theorem dX3_scaleOf_28 : decode cX3_scaleOf 28 = .ok (.ishr, 1) := by decide +kernel
theorem dX3_scaleOf_29 : decode cX3_scaleOf 29 = .ok (.iconst 1, 1) := by decide +kernel
theorem dX3_scaleOf_30 : decode cX3_scaleOf 30 = .ok (.iand, 1) := by decide +kernel
theorem dX3_scaleOf_31 : decode cX3_scaleOf 31 = .ok (.iconst 1, 1) := by decide +kernel
theorem dX3_scaleOf_32 : decode cX3_scaleOf 32 = .ok (.if_icmp .ne 12, 3) := by decide +kernel
theorem dX3_scaleOf_35 : decode cX3_scaleOf 35 = .ok (.lload_n 2, 1) := by decide +kernel
theorem dX3_scaleOf_36 : decode cX3_scaleOf 36 = .ok (.aload 5, 2) := by decide +kernel
theorem dX3_scaleOf_38 : decode cX3_scaleOf 38 = .ok (.invokevirtual 40, 3) := by decide +kernel
theorem dX3_scaleOf_41 : decode cX3_scaleOf 41 = .ok (.i2l, 1) := by decide +kernel
theorem dX3_scaleOf_42 : decode cX3_scaleOf 42 = .ok (.lmul, 1) := by decide +kernel
theorem dX3_scaleOf_43 : decode cX3_scaleOf 43 = .ok (.lstore_n 2, 1) := by decide +kernel
theorem dX3_scaleOf_44 : decode cX3_scaleOf 44 = .ok (.iinc 4 1, 3) := by decide +kernel
theorem dX3_scaleOf_47 : decode cX3_scaleOf 47 = .ok (.goto (-42), 3) := by decide +kernel
theorem dX3_scaleOf_50 : decode cX3_scaleOf 50 = .ok (.lload_n 2, 1) := by decide +kernel
theorem dX3_scaleOf_51 : decode cX3_scaleOf 51 = .ok (.lreturn, 1) := by decide +kernel
def f_X3_scaleOf_44 (k_5 : St → Int32 → Int64 → Int32 → Option (Int64 × St)) (S : St) (x1 : Int32) (x2 : Int64) (x4 : Int32) : Option (Int64 × St) :=
  bnd (x4 + 1 : Int32) fun v1 =>
  k_5 S x1 x2 v1
def f_X3_scaleOf_5 (k_5 : St → Int32 → Int64 → Int32 → Option (Int64 × St)) (S : St) (x1 : Int32) (x2 : Int64) (x4 : Int32) : Option (Int64 × St) :=
  if 6 ≤ x4 then (
    some (x2, S)
  ) else (
    obd2 (f_X4_callWithSorts S x4) fun r3 S3 =>
    oel r3 (
      f_X3_scaleOf_44 k_5 S3 x1 x2 x4
    ) fun v4 =>
      if ((x1 >>> (x4 &&& 31)) &&& 1) = 1 then (
        obd2 (f_X1_likely S3 v4) fun r6 S6 =>
        bnd ((x2 * (r6.toInt64)) : Int64) fun v7 =>
        f_X3_scaleOf_44 k_5 S6 x1 v7 x4
      ) else (
        f_X3_scaleOf_44 k_5 S3 x1 x2 x4
      )
  )
def l_X3_scaleOf_5 : Nat → St → Int32 → Int64 → Int32 → Option (Int64 × St)
  | 0, _, _, _, _ => none
  | fu + 1, S, x1, x2, x4 => f_X3_scaleOf_5 (l_X3_scaleOf_5 fu) S x1 x2 x4
def f_X3_scaleOf (S : St) (x1 : Int32) : Option (Int64 × St) :=
  l_X3_scaleOf_5 FU S x1 (1) 0
set_option maxHeartbeats 4000000 in
set_option maxRecDepth 100000 in
theorem c_X3_scaleOf {l : Launch} {D : va_G} {cI cC cS : ClassId} {ad adK adV : Nat → Nat} {S S1 : St} {x1 : Int32} {r : Int64} (h : f_X3_scaleOf S x1 = some (r, S1)) : Kt l D (xw cI cC cS ad) (KX D (xtys cI cC cS) adK adV) yX3_scaleOf cX3_scaleOf 6 (some .long) (3) (65) [.ref (ad 3), .int x1] S (some (.long r)) S1 := by
  refine k_ent (ins := .lreturn) (st := [.long r]) (by decide +kernel) (Nat.le_of_ble_eq_true rfl) ret_l ?_
  intro p e s m args below meth c A Q C hK I hA hq ls hl
  have C : CallFix p m c cX3_scaleOf 6 s args TT RX3 := C
  have hx := C.1
  have hb := C.2.1
  have kx := kx_ok D (xtys cI cC cS) adK adV
  have hl : lv_has ls 6 [(0, .ref (ad 3)), (1, .int x1)] := hl
  have J_44 : ∀ (k_5 : St → Int32 → Int64 → Int32 → Option (Int64 × St)) (hk_5 : ∀ (S : St) (x1 : Int32) (x2 : Int64) (x4 : Int32), k_5 S x1 x2 x4 = some (r, S1) → ∀ (H : Heap) (locs : List Loc) (ls : Array Slot), Iv D (xw cI cC cS ad) S A s H locs → lv_has ls 6 [(0, .ref (ad 3)), (1, .int x1), (2, .long x2), (4, .int x4)] → W p l e ({ frames := 3, cells := 0, slots := 0, locals := 65 } : Room) s m args below meth c H locs 0 0 Q (F0 m 5 ls [])) (S : St) (x1 : Int32) (x2 : Int64) (x4 : Int32), f_X3_scaleOf_44 k_5 S x1 x2 x4 = some (r, S1) → ∀ (H : Heap) (locs : List Loc) (ls : Array Slot), Iv D (xw cI cC cS ad) S A s H locs → lv_has ls 6 [(0, .ref (ad 3)), (1, .int x1), (2, .long x2), (4, .int x4)] → W p l e ({ frames := 3, cells := 0, slots := 0, locals := 65 } : Room) s m args below meth c H locs 0 0 Q (F0 m 44 ls []) := by
    intro k_5 hk_5 S x1 x2 x4 h H locs ls I hl
    unfold f_X3_scaleOf_44 at h
    obtain ⟨v1, ev1⟩ : ∃ y : Int32, y = x4 + 1 := ⟨_, rfl⟩
    have h := bnd_at ev1 h
    refine lv_iinc (v := v1) (lv' := [(4, .int v1), (0, .ref (ad 3)), (1, .int x1), (2, .long x2)]) hx hb dX3_scaleOf_44 hl (k := 3) rfl (by rw [ev1]; rfl) (by decide) rfl (fun ls hl => ?_)
    clear ev1
    refine lv_goto (tgt := 5) hx hb dX3_scaleOf_47 (by decide) ?_
    exact hk_5 _ _ _ _ h _ _ _ I (lv_sub hl [1, 2, 3, 0] rfl)
  have B_5 : ∀ (k_5 : St → Int32 → Int64 → Int32 → Option (Int64 × St)) (hk_5 : ∀ (S : St) (x1 : Int32) (x2 : Int64) (x4 : Int32), k_5 S x1 x2 x4 = some (r, S1) → ∀ (H : Heap) (locs : List Loc) (ls : Array Slot), Iv D (xw cI cC cS ad) S A s H locs → lv_has ls 6 [(0, .ref (ad 3)), (1, .int x1), (2, .long x2), (4, .int x4)] → W p l e ({ frames := 3, cells := 0, slots := 0, locals := 65 } : Room) s m args below meth c H locs 0 0 Q (F0 m 5 ls [])) (S : St) (x1 : Int32) (x2 : Int64) (x4 : Int32), f_X3_scaleOf_5 k_5 S x1 x2 x4 = some (r, S1) → ∀ (H : Heap) (locs : List Loc) (ls : Array Slot), Iv D (xw cI cC cS ad) S A s H locs → lv_has ls 6 [(0, .ref (ad 3)), (1, .int x1), (2, .long x2), (4, .int x4)] → W p l e ({ frames := 3, cells := 0, slots := 0, locals := 65 } : Room) s m args below meth c H locs 0 0 Q (F0 m 5 ls []) := by
    intro k_5 hk_5 S x1 x2 x4 h H locs ls I hl
    unfold f_X3_scaleOf_5 at h
    refine lv_iload hx hb dX3_scaleOf_5 (lv_at hl 3 rfl) ?_
    refine lv_bipush (v := 6) hx hb dX3_scaleOf_7 (by decide) ?_
    refine lv_icmp_ge (tgt := 50) hx hb dX3_scaleOf_9 (by decide) (fun c2 => ?_) (fun c2 => ?_)
    · have h := ite_t c2 h
      refine lv_lload_n hx hb dX3_scaleOf_50 rfl (lv_at hl 2 rfl) ?_
      exact rt_l hq h I dX3_scaleOf_51
    · have h := ite_n c2 h
      refine lv_aload_n hx hb dX3_scaleOf_12 rfl (lv_at hl 0 rfl) ?_
      refine lv_iload hx hb dX3_scaleOf_13 (lv_at hl 3 rfl) ?_
      obtain ⟨r3, S3, e3, h⟩ := obd2_ex h
      refine k_V (As := [.int x4]) (rest := []) (st1 := [rC ad r3]) C kx hK I hA (c_X4_callWithSorts e3) ⟨Nat.le_of_ble_eq_true rfl, Nat.le_of_ble_eq_true rfl⟩ mv_X4_callWithSorts lk_X3_34 3 4 (xw_3 (cI := cI) (ad := ad) (cC := cC) (cS := cS)) rfl rfl hl.1 rfl (Nat.le_of_ble_eq_true rfl) dX3_scaleOf_15 rfl (fun H locs I => ?_)
      refine k_astore _ (lv' := [(5, rC ad r3), (0, .ref (ad 3)), (1, .int x1), (2, .long x2), (4, .int x4)]) hx hb dX3_scaleOf_18 rfl hl (by decide) rfl (fun ls hl => ?_)
      refine k_aload _ hx hb dX3_scaleOf_20 rfl (lv_at hl 0 rfl) ?_
      refine k_ifn hx hb dX3_scaleOf_22 (tgt := 44) (by decide) (fun ho => ?_) (fun v4 ho => ?_)
      · subst ho
        have h := oel_n h
        have hl : lv_has ls 6 [(5, .null), (0, .ref (ad 3)), (1, .int x1), (2, .long x2), (4, .int x4)] := hl
        exact J_44 k_5 hk_5 _ _ _ _ h _ _ _ I (lv_sub hl [1, 2, 3, 4] rfl)
      · subst ho
        have h := oel_s h
        have hl : lv_has ls 6 [(5, .ref (ad (21 + v4.val))), (0, .ref (ad 3)), (1, .int x1), (2, .long x2), (4, .int x4)] := hl
        refine lv_iload_n hx hb dX3_scaleOf_25 rfl (lv_at hl 2 rfl) ?_
        refine lv_iload hx hb dX3_scaleOf_26 (lv_at hl 4 rfl) ?_
        refine lv_ishr hx hb dX3_scaleOf_28 ?_
        refine lv_iconst (v := 1) hx hb dX3_scaleOf_29 (by decide) ?_
        refine lv_iand hx hb dX3_scaleOf_30 ?_
        refine lv_iconst (v := 1) hx hb dX3_scaleOf_31 (by decide) ?_
        refine lv_icmp_ne (tgt := 44) hx hb dX3_scaleOf_32 (by decide) (fun c5 => ?_) (fun c5 => ?_)
        · have h := ite_n c5 h
          exact J_44 k_5 hk_5 _ _ _ _ h _ _ _ I (lv_sub hl [1, 2, 3, 4] rfl)
        · have h := ite_t c5 h
          refine lv_lload_n hx hb dX3_scaleOf_35 rfl (lv_at hl 3 rfl) ?_
          refine lv_aload hx hb dX3_scaleOf_36 (lv_at hl 0 rfl) ?_
          obtain ⟨r6, S6, e6, h⟩ := obd2_ex h
          refine k_V (As := []) (rest := [.long x2]) (st1 := [.int r6, .long x2]) C kx hK I hA (c_X1_likely e6) ⟨Nat.le_of_ble_eq_true rfl, Nat.le_of_ble_eq_true rfl⟩ mv_X1_likely lk_X3_40 (21 + v4.val) 1 (xw_C (cI := cI) (cC := cC) (cS := cS) (ad := ad) v4) rfl rfl hl.1 rfl (Nat.le_of_ble_eq_true rfl) dX3_scaleOf_38 rfl (fun H locs I => ?_)
          refine lv_i2l hx hb dX3_scaleOf_41 rfl ?_
          refine lv_lmul hx hb dX3_scaleOf_42 ?_
          refine lv_topl (fun v7 ev7 => ?_)
          have h := bnd_at ev7 h
          clear ev7
          refine lv_lstore_n (lv' := [(2, .long v7), (5, .ref (ad (21 + v4.val))), (0, .ref (ad 3)), (1, .int x1), (4, .int x4)]) hx hb dX3_scaleOf_43 rfl hl (by decide) rfl (fun ls hl => ?_)
          exact J_44 k_5 hk_5 _ _ _ _ h _ _ _ I (lv_sub hl [2, 3, 0, 4] rfl)
  have J_5 : ∀ (fu : Nat) (S : St) (x1 : Int32) (x2 : Int64) (x4 : Int32), l_X3_scaleOf_5  fu S x1 x2 x4 = some (r, S1) → ∀ (H : Heap) (locs : List Loc) (ls : Array Slot), Iv D (xw cI cC cS ad) S A s H locs → lv_has ls 6 [(0, .ref (ad 3)), (1, .int x1), (2, .long x2), (4, .int x4)] → W p l e ({ frames := 3, cells := 0, slots := 0, locals := 65 } : Room) s m args below meth c H locs 0 0 Q (F0 m 5 ls []) := by
    intro fu
    induction fu with
    | zero => intro S x1 x2 x4 h; cases h
    | succ fu ih => intro S x1 x2 x4 h; exact B_5 (l_X3_scaleOf_5 fu) ih S x1 x2 x4 h
  unfold f_X3_scaleOf at h
  refine lv_lconst (v := (1)) hx hb dX3_scaleOf_0 (by decide) ?_
  refine lv_lstore_n (lv' := [(2, .long (1)), (0, .ref (ad 3)), (1, .int x1)]) hx hb dX3_scaleOf_1 rfl hl (by decide) rfl (fun ls hl => ?_)
  refine lv_iconst (v := 0) hx hb dX3_scaleOf_2 (by decide) ?_
  refine lv_istore (lv' := [(4, .int 0), (2, .long (1)), (0, .ref (ad 3)), (1, .int x1)]) hx hb dX3_scaleOf_3 hl (by decide) rfl (fun ls hl => ?_)
  exact J_5 _ _ _ _ _ h _ _ _ I (lv_sub hl [2, 3, 1, 0] rfl)
theorem lk_X3_30 : Cond.methodLink RX3 30 yX3_going ∈ TT := tt_of 953 (by decide +kernel) rfl
theorem ms_X3_going : MS yX3_going cX3_going 18 (some .long) 6 := ⟨tt_of 955 (by decide +kernel) rfl, tt_of 954 (by decide +kernel) rfl, tt_of 74 (by decide +kernel) rfl, ⟨by decide +kernel, by decide +kernel, by decide +kernel⟩⟩
theorem lk_X3_52 : Cond.methodLink RX3 52 yJ9_max_f86c9 ∈ TT := tt_of 962 (by decide +kernel) rfl
theorem ms_J9_max_f86c9 : MS yJ9_max_f86c9 cJ9_max_f86c9 4 (some .long) 2 := ⟨tt_of 964 (by decide +kernel) rfl, tt_of 963 (by decide +kernel) rfl, tt_of 77 (by decide +kernel) rfl, ⟨by decide +kernel, by decide +kernel, by decide +kernel⟩⟩
theorem lk_X3_46 : Cond.methodLink RX3 46 yJ6_bitCount_0f7a4 ∈ TT := tt_of 961 (by decide +kernel) rfl
theorem dX3_bestLeft_0 : decode cX3_bestLeft 0 = .ok (.lconst 0, 1) := by decide +kernel
theorem dX3_bestLeft_1 : decode cX3_bestLeft 1 = .ok (.lstore 5, 2) := by decide +kernel
theorem dX3_bestLeft_3 : decode cX3_bestLeft 3 = .ok (.iload 4, 2) := by decide +kernel
theorem dX3_bestLeft_5 : decode cX3_bestLeft 5 = .ok (.invokestatic 46, 3) := by decide +kernel
theorem dX3_bestLeft_8 : decode cX3_bestLeft 8 = .ok (.iconst 4, 1) := by decide +kernel
theorem dX3_bestLeft_9 : decode cX3_bestLeft 9 = .ok (.if_icmp .le 6, 3) := by decide +kernel
theorem dX3_bestLeft_12 : decode cX3_bestLeft 12 = .ok (.lload 5, 2) := by decide +kernel
theorem dX3_bestLeft_14 : decode cX3_bestLeft 14 = .ok (.lreturn, 1) := by decide +kernel
theorem dX3_bestLeft_15 : decode cX3_bestLeft 15 = .ok (.iconst 0, 1) := by decide +kernel
theorem dX3_bestLeft_16 : decode cX3_bestLeft 16 = .ok (.istore 7, 2) := by decide +kernel
theorem dX3_bestLeft_18 : decode cX3_bestLeft 18 = .ok (.iload 7, 2) := by decide +kernel
theorem dX3_bestLeft_20 : decode cX3_bestLeft 20 = .ok (.bipush 6, 2) := by decide +kernel
theorem dX3_bestLeft_22 : decode cX3_bestLeft 22 = .ok (.if_icmp .ge 38, 3) := by decide +kernel
theorem dX3_bestLeft_25 : decode cX3_bestLeft 25 = .ok (.iload 4, 2) := by decide +kernel
theorem dX3_bestLeft_27 : decode cX3_bestLeft 27 = .ok (.iload 7, 2) := by decide +kernel
theorem dX3_bestLeft_29 : decode cX3_bestLeft 29 = .ok (.ishr, 1) := by decide +kernel
theorem dX3_bestLeft_30 : decode cX3_bestLeft 30 = .ok (.iconst 1, 1) := by decide +kernel
theorem dX3_bestLeft_31 : decode cX3_bestLeft 31 = .ok (.iand, 1) := by decide +kernel
theorem dX3_bestLeft_32 : decode cX3_bestLeft 32 = .ok (.iconst 1, 1) := by decide +kernel
theorem dX3_bestLeft_33 : decode cX3_bestLeft 33 = .ok (.if_icmp .ne 21, 3) := by decide +kernel
theorem dX3_bestLeft_36 : decode cX3_bestLeft 36 = .ok (.lload 5, 2) := by decide +kernel
theorem dX3_bestLeft_38 : decode cX3_bestLeft 38 = .ok (.aload_n 0, 1) := by decide +kernel
theorem dX3_bestLeft_39 : decode cX3_bestLeft 39 = .ok (.iload 7, 2) := by decide +kernel
theorem dX3_bestLeft_41 : decode cX3_bestLeft 41 = .ok (.iload_n 1, 1) := by decide +kernel
theorem dX3_bestLeft_42 : decode cX3_bestLeft 42 = .ok (.iload_n 2, 1) := by decide +kernel
theorem dX3_bestLeft_43 : decode cX3_bestLeft 43 = .ok (.iload_n 3, 1) := by decide +kernel
theorem dX3_bestLeft_44 : decode cX3_bestLeft 44 = .ok (.iload 4, 2) := by decide +kernel
theorem dX3_bestLeft_46 : decode cX3_bestLeft 46 = .ok (.invokestatic 30, 3) := by decide +kernel
theorem dX3_bestLeft_49 : decode cX3_bestLeft 49 = .ok (.invokestatic 52, 3) := by decide +kernel
theorem dX3_bestLeft_52 : decode cX3_bestLeft 52 = .ok (.lstore 5, 2) := by decide +kernel
theorem dX3_bestLeft_54 : decode cX3_bestLeft 54 = .ok (.iinc 7 1, 3) := by decide +kernel
theorem dX3_bestLeft_57 : decode cX3_bestLeft 57 = .ok (.goto (-39), 3) := by decide +kernel
theorem dX3_bestLeft_60 : decode cX3_bestLeft 60 = .ok (.lload 5, 2) := by decide +kernel
theorem dX3_bestLeft_62 : decode cX3_bestLeft 62 = .ok (.lreturn, 1) := by decide +kernel
def f_X3_bestLeft_54 (rec : St → Int32 → Int32 → Int32 → Int32 → Int32 → Option (Int64 × St)) (k_18 : St → Int32 → Int32 → Int32 → Int32 → Int64 → Int32 → Option (Int64 × St)) (S : St) (x1 : Int32) (x2 : Int32) (x3 : Int32) (x4 : Int32) (x5 : Int64) (x7 : Int32) : Option (Int64 × St) :=
  bnd (x7 + 1 : Int32) fun v1 =>
  k_18 S x1 x2 x3 x4 x5 v1
def f_X3_bestLeft_18 (rec : St → Int32 → Int32 → Int32 → Int32 → Int32 → Option (Int64 × St)) (k_18 : St → Int32 → Int32 → Int32 → Int32 → Int64 → Int32 → Option (Int64 × St)) (S : St) (x1 : Int32) (x2 : Int32) (x3 : Int32) (x4 : Int32) (x5 : Int64) (x7 : Int32) : Option (Int64 × St) :=
  if 6 ≤ x7 then (
    some (x5, S)
  ) else (
    if ((x4 >>> (x7 &&& 31)) &&& 1) = 1 then (
      obd2 (rec S x7 x1 x2 x3 x4) fun r4 S4 =>
      bnd (if r4 < x5 then x5 else r4 : Int64) fun v5 =>
      f_X3_bestLeft_54 rec k_18 S4 x1 x2 x3 x4 v5 x7
    ) else (
      f_X3_bestLeft_54 rec k_18 S x1 x2 x3 x4 x5 x7
    )
  )
def l_X3_bestLeft_18 (rec : St → Int32 → Int32 → Int32 → Int32 → Int32 → Option (Int64 × St)) : Nat → St → Int32 → Int32 → Int32 → Int32 → Int64 → Int32 → Option (Int64 × St)
  | 0, _, _, _, _, _, _, _ => none
  | fu + 1, S, x1, x2, x3, x4, x5, x7 => f_X3_bestLeft_18 rec (l_X3_bestLeft_18 rec fu) S x1 x2 x3 x4 x5 x7
def f_X3_bestLeft (rec : St → Int32 → Int32 → Int32 → Int32 → Int32 → Option (Int64 × St)) (S : St) (x1 : Int32) (x2 : Int32) (x3 : Int32) (x4 : Int32) : Option (Int64 × St) :=
  obd2 (f_J6_bitCount_0f7a4 S x4) fun r6 S6 =>
  if r6 ≤ 4 then (
    l_X3_bestLeft_18 rec FU S6 x1 x2 x3 x4 (0) 0
  ) else (
    some ((0), S6)
  )
set_option maxHeartbeats 4000000 in
set_option maxRecDepth 100000 in
theorem c_X3_bestLeft {l : Launch} {D : va_G} {cI cC cS : ClassId} {ad adK adV : Nat → Nat} (fr lo : Nat) (rec : St → Int32 → Int32 → Int32 → Int32 → Int32 → Option (Int64 × St)) (hrec : ∀ {S S1 : St} {x1 : Int32} {x2 : Int32} {x3 : Int32} {x4 : Int32} {x5 : Int32} {r : Int64}, rec S x1 x2 x3 x4 x5 = some (r, S1) → Kt l D (xw cI cC cS ad) (KX D (xtys cI cC cS) adK adV) yX3_going cX3_going 18 (some .long) fr lo [.ref (ad 3), .int x1, .int x2, .int x3, .int x4, .int x5] S (some (.long r)) S1) {S S1 : St} {x1 : Int32} {x2 : Int32} {x3 : Int32} {x4 : Int32} {r : Int64} (h : f_X3_bestLeft rec S x1 x2 x3 x4 = some (r, S1)) : Kt l D (xw cI cC cS ad) (KX D (xtys cI cC cS) adK adV) yX3_bestLeft cX3_bestLeft 8 (some .long) (fr + 1) (lo + 37) [.ref (ad 3), .int x1, .int x2, .int x3, .int x4] S (some (.long r)) S1 := by
  refine k_ent (ins := .lreturn) (st := [.long r]) (by decide +kernel) (Nat.le_of_ble_eq_true rfl) ret_l ?_
  intro p e s m args below meth c A Q C hK I hA hq ls hl
  have C : CallFix p m c cX3_bestLeft 8 s args TT RX3 := C
  have hx := C.1
  have hb := C.2.1
  have kx := kx_ok D (xtys cI cC cS) adK adV
  have hl : lv_has ls 8 [(0, .ref (ad 3)), (1, .int x1), (2, .int x2), (3, .int x3), (4, .int x4)] := hl
  have J_54 : ∀ (k_18 : St → Int32 → Int32 → Int32 → Int32 → Int64 → Int32 → Option (Int64 × St)) (hk_18 : ∀ (S : St) (x1 : Int32) (x2 : Int32) (x3 : Int32) (x4 : Int32) (x5 : Int64) (x7 : Int32), k_18 S x1 x2 x3 x4 x5 x7 = some (r, S1) → ∀ (H : Heap) (locs : List Loc) (ls : Array Slot), Iv D (xw cI cC cS ad) S A s H locs → lv_has ls 8 [(0, .ref (ad 3)), (1, .int x1), (2, .int x2), (3, .int x3), (4, .int x4), (5, .long x5), (7, .int x7)] → W p l e ({ frames := fr + 1, cells := 0, slots := 0, locals := lo + 37 } : Room) s m args below meth c H locs 0 0 Q (F0 m 18 ls [])) (S : St) (x1 : Int32) (x2 : Int32) (x3 : Int32) (x4 : Int32) (x5 : Int64) (x7 : Int32), f_X3_bestLeft_54 rec k_18 S x1 x2 x3 x4 x5 x7 = some (r, S1) → ∀ (H : Heap) (locs : List Loc) (ls : Array Slot), Iv D (xw cI cC cS ad) S A s H locs → lv_has ls 8 [(0, .ref (ad 3)), (1, .int x1), (2, .int x2), (3, .int x3), (4, .int x4), (5, .long x5), (7, .int x7)] → W p l e ({ frames := fr + 1, cells := 0, slots := 0, locals := lo + 37 } : Room) s m args below meth c H locs 0 0 Q (F0 m 54 ls []) := by
    intro k_18 hk_18 S x1 x2 x3 x4 x5 x7 h H locs ls I hl
    unfold f_X3_bestLeft_54 at h
    obtain ⟨v1, ev1⟩ : ∃ y : Int32, y = x7 + 1 := ⟨_, rfl⟩
    have h := bnd_at ev1 h
    refine lv_iinc (v := v1) (lv' := [(7, .int v1), (0, .ref (ad 3)), (1, .int x1), (2, .int x2), (3, .int x3), (4, .int x4), (5, .long x5)]) hx hb dX3_bestLeft_54 hl (k := 6) rfl (by rw [ev1]; rfl) (by decide) rfl (fun ls hl => ?_)
    clear ev1
    refine lv_goto (tgt := 18) hx hb dX3_bestLeft_57 (by decide) ?_
    exact hk_18 _ _ _ _ _ _ _ h _ _ _ I (lv_sub hl [1, 2, 3, 4, 5, 6, 0] rfl)
  have B_18 : ∀ (k_18 : St → Int32 → Int32 → Int32 → Int32 → Int64 → Int32 → Option (Int64 × St)) (hk_18 : ∀ (S : St) (x1 : Int32) (x2 : Int32) (x3 : Int32) (x4 : Int32) (x5 : Int64) (x7 : Int32), k_18 S x1 x2 x3 x4 x5 x7 = some (r, S1) → ∀ (H : Heap) (locs : List Loc) (ls : Array Slot), Iv D (xw cI cC cS ad) S A s H locs → lv_has ls 8 [(0, .ref (ad 3)), (1, .int x1), (2, .int x2), (3, .int x3), (4, .int x4), (5, .long x5), (7, .int x7)] → W p l e ({ frames := fr + 1, cells := 0, slots := 0, locals := lo + 37 } : Room) s m args below meth c H locs 0 0 Q (F0 m 18 ls [])) (S : St) (x1 : Int32) (x2 : Int32) (x3 : Int32) (x4 : Int32) (x5 : Int64) (x7 : Int32), f_X3_bestLeft_18 rec k_18 S x1 x2 x3 x4 x5 x7 = some (r, S1) → ∀ (H : Heap) (locs : List Loc) (ls : Array Slot), Iv D (xw cI cC cS ad) S A s H locs → lv_has ls 8 [(0, .ref (ad 3)), (1, .int x1), (2, .int x2), (3, .int x3), (4, .int x4), (5, .long x5), (7, .int x7)] → W p l e ({ frames := fr + 1, cells := 0, slots := 0, locals := lo + 37 } : Room) s m args below meth c H locs 0 0 Q (F0 m 18 ls []) := by
    intro k_18 hk_18 S x1 x2 x3 x4 x5 x7 h H locs ls I hl
    unfold f_X3_bestLeft_18 at h
    refine lv_iload hx hb dX3_bestLeft_18 (lv_at hl 6 rfl) ?_
    refine lv_bipush (v := 6) hx hb dX3_bestLeft_20 (by decide) ?_
    refine lv_icmp_ge (tgt := 60) hx hb dX3_bestLeft_22 (by decide) (fun c2 => ?_) (fun c2 => ?_)
    · have h := ite_t c2 h
      refine lv_lload hx hb dX3_bestLeft_60 (lv_at hl 5 rfl) ?_
      exact rt_l hq h I dX3_bestLeft_62
    · have h := ite_n c2 h
      refine lv_iload hx hb dX3_bestLeft_25 (lv_at hl 4 rfl) ?_
      refine lv_iload hx hb dX3_bestLeft_27 (lv_at hl 6 rfl) ?_
      refine lv_ishr hx hb dX3_bestLeft_29 ?_
      refine lv_iconst (v := 1) hx hb dX3_bestLeft_30 (by decide) ?_
      refine lv_iand hx hb dX3_bestLeft_31 ?_
      refine lv_iconst (v := 1) hx hb dX3_bestLeft_32 (by decide) ?_
      refine lv_icmp_ne (tgt := 54) hx hb dX3_bestLeft_33 (by decide) (fun c3 => ?_) (fun c3 => ?_)
      · have h := ite_n c3 h
        exact J_54 k_18 hk_18 _ _ _ _ _ _ _ h _ _ _ I (lv_sub hl [0, 1, 2, 3, 4, 5, 6] rfl)
      · have h := ite_t c3 h
        refine lv_lload hx hb dX3_bestLeft_36 (lv_at hl 5 rfl) ?_
        refine lv_aload_n hx hb dX3_bestLeft_38 rfl (lv_at hl 0 rfl) ?_
        refine lv_iload hx hb dX3_bestLeft_39 (lv_at hl 6 rfl) ?_
        refine lv_iload_n hx hb dX3_bestLeft_41 rfl (lv_at hl 1 rfl) ?_
        refine lv_iload_n hx hb dX3_bestLeft_42 rfl (lv_at hl 2 rfl) ?_
        refine lv_iload_n hx hb dX3_bestLeft_43 rfl (lv_at hl 3 rfl) ?_
        refine lv_iload hx hb dX3_bestLeft_44 (lv_at hl 4 rfl) ?_
        obtain ⟨r4, S4, e4, h⟩ := obd2_ex h
        refine k_S (As := [.ref (ad 3), .int x7, .int x1, .int x2, .int x3, .int x4]) (rest := [.long x5]) (st1 := [.long r4, .long x5]) C kx hK I hA (hrec e4) ⟨show fr + 1 ≤ fr + 1 by omega, show 8 + (18 + 11) + (lo) ≤ lo + 37 by omega⟩ ms_X3_going lk_X3_30 rfl hl.1 rfl (Nat.le_of_ble_eq_true rfl) dX3_bestLeft_46 rfl (fun H locs I => ?_)
        refine va_mmax_long (rest := []) hx hb (C.2.2.1.trans hl.1.symm) C.2.2.2.1 (C.2.2.2.2 _ lk_X3_52) (C.2.2.2.2 _ ms_J9_max_f86c9.2.1) (C.2.2.2.2 _ ms_J9_max_f86c9.2.2.1) (C.2.2.2.2 _ ms_J9_max_f86c9.1) (by show 1 ≤ fr + 1; omega) (by show 0 + 15 ≤ lo + 37; omega) (Nat.zero_le _) (Nat.zero_le _) dX3_bestLeft_49 ?_
        refine lv_topl (fun v5 ev5 => ?_)
        have h := bnd_at ev5 h
        clear ev5
        refine lv_lstore (lv' := [(5, .long v5), (0, .ref (ad 3)), (1, .int x1), (2, .int x2), (3, .int x3), (4, .int x4), (7, .int x7)]) hx hb dX3_bestLeft_52 hl (by decide) rfl (fun ls hl => ?_)
        exact J_54 k_18 hk_18 _ _ _ _ _ _ _ h _ _ _ I (lv_sub hl [1, 2, 3, 4, 5, 0, 6] rfl)
  have J_18 : ∀ (fu : Nat) (S : St) (x1 : Int32) (x2 : Int32) (x3 : Int32) (x4 : Int32) (x5 : Int64) (x7 : Int32), l_X3_bestLeft_18 rec  fu S x1 x2 x3 x4 x5 x7 = some (r, S1) → ∀ (H : Heap) (locs : List Loc) (ls : Array Slot), Iv D (xw cI cC cS ad) S A s H locs → lv_has ls 8 [(0, .ref (ad 3)), (1, .int x1), (2, .int x2), (3, .int x3), (4, .int x4), (5, .long x5), (7, .int x7)] → W p l e ({ frames := fr + 1, cells := 0, slots := 0, locals := lo + 37 } : Room) s m args below meth c H locs 0 0 Q (F0 m 18 ls []) := by
    intro fu
    induction fu with
    | zero => intro S x1 x2 x3 x4 x5 x7 h; cases h
    | succ fu ih => intro S x1 x2 x3 x4 x5 x7 h; exact B_18 (l_X3_bestLeft_18 rec fu) ih S x1 x2 x3 x4 x5 x7 h
  unfold f_X3_bestLeft at h
  refine lv_lconst (v := (0)) hx hb dX3_bestLeft_0 (by decide) ?_
  refine lv_lstore (lv' := [(5, .long (0)), (0, .ref (ad 3)), (1, .int x1), (2, .int x2), (3, .int x3), (4, .int x4)]) hx hb dX3_bestLeft_1 hl (by decide) rfl (fun ls hl => ?_)
  refine lv_iload hx hb dX3_bestLeft_3 (lv_at hl 5 rfl) ?_
  obtain ⟨r6, S6, e6, h⟩ := obd2_ex h
  refine k_S (As := [.int x4]) (rest := []) (st1 := [.int r6]) C kx hK I hA (c_J6_bitCount_0f7a4 e6) ⟨show 0 + 1 ≤ fr + 1 by omega, show 8 + (1 + 11) + (0) ≤ lo + 37 by omega⟩ ms_J6_bitCount_0f7a4 lk_X3_46 rfl hl.1 rfl (Nat.le_of_ble_eq_true rfl) dX3_bestLeft_5 rfl (fun H locs I => ?_)
  refine lv_iconst (v := 4) hx hb dX3_bestLeft_8 (by decide) ?_
  refine lv_icmp_le (tgt := 15) hx hb dX3_bestLeft_9 (by decide) (fun c7 => ?_) (fun c7 => ?_)
  · have h := ite_t c7 h
    refine lv_iconst (v := 0) hx hb dX3_bestLeft_15 (by decide) ?_
    refine lv_istore (lv' := [(7, .int 0), (5, .long (0)), (0, .ref (ad 3)), (1, .int x1), (2, .int x2), (3, .int x3), (4, .int x4)]) hx hb dX3_bestLeft_16 hl (by decide) rfl (fun ls hl => ?_)
    exact J_18 _ _ _ _ _ _ _ _ h _ _ _ I (lv_sub hl [2, 3, 4, 5, 6, 1, 0] rfl)
  · have h := ite_n c7 h
    refine lv_lload hx hb dX3_bestLeft_12 (lv_at hl 0 rfl) ?_
    exact rt_l hq h I dX3_bestLeft_14
theorem lk_X3_79 : Cond.methodLink RX3 79 yX1_sorts ∈ TT := tt_of 966 (by decide +kernel) rfl
theorem fl_X3_58 : Cond.fieldLinkNest RX3 58 RX1 "place" "I" "CarryUp" ∈ NN := nn_of 189 (by decide +kernel) rfl
theorem fl_X3_101 : Cond.fieldLinkNest RX3 101 RX1 "look" "I" "CarryUp" ∈ NN := nn_of 204 (by decide +kernel) rfl
theorem lk_X3_69 : Cond.methodLink RX3 69 yX3_bestLeft ∈ TT := tt_of 958 (by decide +kernel) rfl
theorem ms_X3_bestLeft : MS yX3_bestLeft cX3_bestLeft 8 (some .long) 5 := ⟨tt_of 960 (by decide +kernel) rfl, tt_of 959 (by decide +kernel) rfl, tt_of 74 (by decide +kernel) rfl, ⟨by decide +kernel, by decide +kernel, by decide +kernel⟩⟩
theorem fl_X3_73 : Cond.fieldLinkNest RX3 73 RX1 "again" "I" "CarryUp" ∈ NN := nn_of 200 (by decide +kernel) rfl
theorem lk_X3_82 : Cond.methodLink RX3 82 yX1_sortTold ∈ TT := tt_of 967 (by decide +kernel) rfl
theorem lk_X3_86 : Cond.methodLink RX3 86 yX4_tools ∈ TT := tt_of 968 (by decide +kernel) rfl
theorem lk_X3_89 : Cond.methodLink RX3 89 yX7_left ∈ TT := tt_of 969 (by decide +kernel) rfl
theorem fl_X3_94 : Cond.fieldLinkNest RX3 94 RX7 "likely" "I" "CarryUp" ∈ NN := nn_of 157 (by decide +kernel) rfl
theorem fl_X3_96 : Cond.fieldLinkNest RX3 96 RX1 "worth" "I" "CarryUp" ∈ NN := nn_of 196 (by decide +kernel) rfl
theorem fl_X3_98 : Cond.fieldLinkNest RX3 98 RX7 "minutes" "I" "CarryUp" ∈ NN := nn_of 161 (by decide +kernel) rfl
theorem lk_X3_26 : Cond.methodLink RX3 26 yX3_scaleOf ∈ TT := tt_of 948 (by decide +kernel) rfl
theorem ms_X3_scaleOf : MS yX3_scaleOf cX3_scaleOf 6 (some .long) 2 := ⟨tt_of 950 (by decide +kernel) rfl, tt_of 949 (by decide +kernel) rfl, tt_of 74 (by decide +kernel) rfl, ⟨by decide +kernel, by decide +kernel, by decide +kernel⟩⟩
theorem lk_X3_61 : Cond.methodLink RX3 61 yX4_wayBetween ∈ TT := tt_of 956 (by decide +kernel) rfl
theorem lk_X3_65 : Cond.methodLink RX3 65 yX1_lateAt ∈ TT := tt_of 957 (by decide +kernel) rfl
theorem lk_X3_76 : Cond.methodLink RX3 76 yX1_startedAt ∈ TT := tt_of 965 (by decide +kernel) rfl
theorem dX3_going_0 : decode cX3_going 0 = .ok (.aload_n 0, 1) := by decide +kernel
theorem dX3_going_1 : decode cX3_going 1 = .ok (.iload_n 1, 1) := by decide +kernel
theorem dX3_going_2 : decode cX3_going 2 = .ok (.invokevirtual 34, 3) := by decide +kernel
theorem dX3_going_5 : decode cX3_going 5 = .ok (.astore 6, 2) := by decide +kernel
theorem dX3_going_7 : decode cX3_going 7 = .ok (.iload 5, 2) := by decide +kernel
theorem dX3_going_9 : decode cX3_going 9 = .ok (.iconst 1, 1) := by decide +kernel
theorem dX3_going_10 : decode cX3_going 10 = .ok (.iload_n 1, 1) := by decide +kernel
theorem dX3_going_11 : decode cX3_going 11 = .ok (.ishl, 1) := by decide +kernel
theorem dX3_going_12 : decode cX3_going 12 = .ok (.iconst (-1), 1) := by decide +kernel
theorem dX3_going_13 : decode cX3_going 13 = .ok (.ixor, 1) := by decide +kernel
theorem dX3_going_14 : decode cX3_going 14 = .ok (.iand, 1) := by decide +kernel
theorem dX3_going_15 : decode cX3_going 15 = .ok (.istore 7, 2) := by decide +kernel
theorem dX3_going_17 : decode cX3_going 17 = .ok (.aload 6, 2) := by decide +kernel
theorem dX3_going_19 : decode cX3_going 19 = .ok (.ifnull 10, 3) := by decide +kernel
theorem dX3_going_22 : decode cX3_going 22 = .ok (.iload 7, 2) := by decide +kernel
theorem dX3_going_24 : decode cX3_going 24 = .ok (.iload 5, 2) := by decide +kernel
theorem dX3_going_26 : decode cX3_going 26 = .ok (.if_icmp .ne 5, 3) := by decide +kernel
theorem dX3_going_29 : decode cX3_going 29 = .ok (.lconst 0, 1) := by decide +kernel
theorem dX3_going_30 : decode cX3_going 30 = .ok (.lreturn, 1) := by decide +kernel
theorem dX3_going_31 : decode cX3_going 31 = .ok (.aload_n 0, 1) := by decide +kernel
theorem dX3_going_32 : decode cX3_going 32 = .ok (.iload 7, 2) := by decide +kernel
theorem dX3_going_34 : decode cX3_going 34 = .ok (.invokestatic 26, 3) := by decide +kernel
theorem dX3_going_37 : decode cX3_going 37 = .ok (.lstore 8, 2) := by decide +kernel
theorem dX3_going_39 : decode cX3_going 39 = .ok (.iload_n 3, 1) := by decide +kernel
theorem dX3_going_40 : decode cX3_going 40 = .ok (.aload_n 0, 1) := by decide +kernel
theorem dX3_going_41 : decode cX3_going 41 = .ok (.iload_n 2, 1) := by decide +kernel
theorem dX3_going_42 : decode cX3_going 42 = .ok (.aload 6, 2) := by decide +kernel
theorem dX3_going_44 : decode cX3_going 44 = .ok (.getfield 58, 3) := by decide +kernel
theorem dX3_going_47 : decode cX3_going 47 = .ok (.invokevirtual 61, 3) := by decide +kernel
theorem dX3_going_50 : decode cX3_going 50 = .ok (.iadd, 1) := by decide +kernel
theorem dX3_going_51 : decode cX3_going 51 = .ok (.istore 10, 2) := by decide +kernel
theorem dX3_going_53 : decode cX3_going 53 = .ok (.aload 6, 2) := by decide +kernel
theorem dX3_going_55 : decode cX3_going 55 = .ok (.iload 10, 2) := by decide +kernel
theorem dX3_going_57 : decode cX3_going 57 = .ok (.invokevirtual 65, 3) := by decide +kernel
theorem dX3_going_60 : decode cX3_going 60 = .ok (.ifCond .eq 36, 3) := by decide +kernel
theorem dX3_going_63 : decode cX3_going 63 = .ok (.aload 6, 2) := by decide +kernel
theorem dX3_going_65 : decode cX3_going 65 = .ok (.invokevirtual 40, 3) := by decide +kernel
theorem dX3_going_68 : decode cX3_going 68 = .ok (.i2l, 1) := by decide +kernel
theorem dX3_going_69 : decode cX3_going 69 = .ok (.aload_n 0, 1) := by decide +kernel
theorem dX3_going_70 : decode cX3_going 70 = .ok (.aload 6, 2) := by decide +kernel
theorem dX3_going_72 : decode cX3_going 72 = .ok (.getfield 58, 3) := by decide +kernel
theorem dX3_going_75 : decode cX3_going 75 = .ok (.iload 10, 2) := by decide +kernel
theorem dX3_going_77 : decode cX3_going 77 = .ok (.iload 4, 2) := by decide +kernel
theorem dX3_going_79 : decode cX3_going 79 = .ok (.iload 7, 2) := by decide +kernel
theorem dX3_going_81 : decode cX3_going 81 = .ok (.invokestatic 69, 3) := by decide +kernel
theorem dX3_going_84 : decode cX3_going 84 = .ok (.aload 6, 2) := by decide +kernel
theorem dX3_going_86 : decode cX3_going 86 = .ok (.getfield 73, 3) := by decide +kernel
theorem dX3_going_89 : decode cX3_going 89 = .ok (.i2l, 1) := by decide +kernel
theorem dX3_going_90 : decode cX3_going 90 = .ok (.lload 8, 2) := by decide +kernel
theorem dX3_going_92 : decode cX3_going 92 = .ok (.lmul, 1) := by decide +kernel
theorem dX3_going_93 : decode cX3_going 93 = .ok (.lsub, 1) := by decide +kernel
theorem dX3_going_94 : decode cX3_going 94 = .ok (.lmul, 1) := by decide +kernel
theorem dX3_going_95 : decode cX3_going 95 = .ok (.lreturn, 1) := by decide +kernel
theorem dX3_going_96 : decode cX3_going 96 = .ok (.aload 6, 2) := by decide +kernel
theorem dX3_going_98 : decode cX3_going 98 = .ok (.iload 10, 2) := by decide +kernel
theorem dX3_going_100 : decode cX3_going 100 = .ok (.invokevirtual 76, 3) := by decide +kernel
theorem dX3_going_103 : decode cX3_going 103 = .ok (.istore 11, 2) := by decide +kernel
theorem dX3_going_105 : decode cX3_going 105 = .ok (.iconst 0, 1) := by decide +kernel
theorem dX3_going_106 : decode cX3_going 106 = .ok (.istore 12, 2) := by decide +kernel
theorem dX3_going_108 : decode cX3_going 108 = .ok (.lconst 0, 1) := by decide +kernel
theorem dX3_going_109 : decode cX3_going 109 = .ok (.lstore 13, 2) := by decide +kernel
theorem dX3_going_111 : decode cX3_going 111 = .ok (.iconst 0, 1) := by decide +kernel
theorem dX3_going_112 : decode cX3_going 112 = .ok (.istore 15, 2) := by decide +kernel
theorem dX3_going_114 : decode cX3_going 114 = .ok (.iload 15, 2) := by decide +kernel
theorem dX3_going_116 : decode cX3_going 116 = .ok (.aload 6, 2) := by decide +kernel
theorem dX3_going_118 : decode cX3_going 118 = .ok (.invokevirtual 79, 3) := by decide +kernel
theorem dX3_going_121 : decode cX3_going 121 = .ok (.if_icmp .ge 101, 3) := by decide +kernel
theorem dX3_going_124 : decode cX3_going 124 = .ok (.aload 6, 2) := by decide +kernel
theorem dX3_going_126 : decode cX3_going 126 = .ok (.iload 15, 2) := by decide +kernel
theorem dX3_going_128 : decode cX3_going 128 = .ok (.invokevirtual 82, 3) := by decide +kernel
theorem dX3_going_131 : decode cX3_going 131 = .ok (.astore 16, 2) := by decide +kernel
theorem dX3_going_133 : decode cX3_going 133 = .ok (.aload 16, 2) := by decide +kernel
theorem dX3_going_135 : decode cX3_going 135 = .ok (.ifnonnull 6, 3) := by decide +kernel
theorem dX3_going_138 : decode cX3_going 138 = .ok (.goto 78, 3) := by decide +kernel
theorem dX3_going_141 : decode cX3_going 141 = .ok (.aload 16, 2) := by decide +kernel
theorem dX3_going_143 : decode cX3_going 143 = .ok (.iload 4, 2) := by decide +kernel
theorem dX3_going_145 : decode cX3_going 145 = .ok (.aload_n 0, 1) := by decide +kernel
theorem dX3_going_146 : decode cX3_going 146 = .ok (.invokevirtual 86, 3) := by decide +kernel
theorem dX3_going_149 : decode cX3_going 149 = .ok (.invokevirtual 89, 3) := by decide +kernel
theorem dX3_going_152 : decode cX3_going 152 = .ok (.istore 17, 2) := by decide +kernel
theorem dX3_going_154 : decode cX3_going 154 = .ok (.iload 17, 2) := by decide +kernel
theorem dX3_going_156 : decode cX3_going 156 = .ok (.iconst (-1), 1) := by decide +kernel
theorem dX3_going_157 : decode cX3_going 157 = .ok (.if_icmp .ne 16, 3) := by decide +kernel
theorem dX3_going_160 : decode cX3_going 160 = .ok (.iload 12, 2) := by decide +kernel
theorem dX3_going_162 : decode cX3_going 162 = .ok (.aload 16, 2) := by decide +kernel
theorem dX3_going_164 : decode cX3_going 164 = .ok (.getfield 94, 3) := by decide +kernel
theorem dX3_going_167 : decode cX3_going 167 = .ok (.iadd, 1) := by decide +kernel
theorem dX3_going_168 : decode cX3_going 168 = .ok (.istore 12, 2) := by decide +kernel
theorem dX3_going_170 : decode cX3_going 170 = .ok (.goto 46, 3) := by decide +kernel
theorem dX3_going_173 : decode cX3_going 173 = .ok (.lload 13, 2) := by decide +kernel
theorem dX3_going_175 : decode cX3_going 175 = .ok (.aload 16, 2) := by decide +kernel
theorem dX3_going_177 : decode cX3_going 177 = .ok (.getfield 94, 3) := by decide +kernel
theorem dX3_going_180 : decode cX3_going 180 = .ok (.i2l, 1) := by decide +kernel
theorem dX3_going_181 : decode cX3_going 181 = .ok (.aload 6, 2) := by decide +kernel
theorem dX3_going_183 : decode cX3_going 183 = .ok (.getfield 96, 3) := by decide +kernel
theorem dX3_going_186 : decode cX3_going 186 = .ok (.i2l, 1) := by decide +kernel
theorem dX3_going_187 : decode cX3_going 187 = .ok (.lload 8, 2) := by decide +kernel
theorem dX3_going_189 : decode cX3_going 189 = .ok (.lmul, 1) := by decide +kernel
theorem dX3_going_190 : decode cX3_going 190 = .ok (.aload_n 0, 1) := by decide +kernel
theorem dX3_going_191 : decode cX3_going 191 = .ok (.aload 6, 2) := by decide +kernel
theorem dX3_going_193 : decode cX3_going 193 = .ok (.getfield 58, 3) := by decide +kernel
theorem dX3_going_196 : decode cX3_going 196 = .ok (.iload 11, 2) := by decide +kernel
theorem dX3_going_198 : decode cX3_going 198 = .ok (.aload 16, 2) := by decide +kernel
theorem dX3_going_200 : decode cX3_going 200 = .ok (.getfield 98, 3) := by decide +kernel
theorem dX3_going_203 : decode cX3_going 203 = .ok (.iadd, 1) := by decide +kernel
theorem dX3_going_204 : decode cX3_going 204 = .ok (.iload 17, 2) := by decide +kernel
theorem dX3_going_206 : decode cX3_going 206 = .ok (.iload 7, 2) := by decide +kernel
theorem dX3_going_208 : decode cX3_going 208 = .ok (.invokestatic 69, 3) := by decide +kernel
theorem dX3_going_211 : decode cX3_going 211 = .ok (.ladd, 1) := by decide +kernel
theorem dX3_going_212 : decode cX3_going 212 = .ok (.lmul, 1) := by decide +kernel
theorem dX3_going_213 : decode cX3_going 213 = .ok (.ladd, 1) := by decide +kernel
theorem dX3_going_214 : decode cX3_going 214 = .ok (.lstore 13, 2) := by decide +kernel
theorem dX3_going_216 : decode cX3_going 216 = .ok (.iinc 15 1, 3) := by decide +kernel
theorem dX3_going_219 : decode cX3_going 219 = .ok (.goto (-105), 3) := by decide +kernel
theorem dX3_going_222 : decode cX3_going 222 = .ok (.iload 12, 2) := by decide +kernel
theorem dX3_going_224 : decode cX3_going 224 = .ok (.ifCond .ne 6, 3) := by decide +kernel
theorem dX3_going_227 : decode cX3_going 227 = .ok (.lload 13, 2) := by decide +kernel
theorem dX3_going_229 : decode cX3_going 229 = .ok (.lreturn, 1) := by decide +kernel
theorem dX3_going_230 : decode cX3_going 230 = .ok (.lload 13, 2) := by decide +kernel
theorem dX3_going_232 : decode cX3_going 232 = .ok (.iload 12, 2) := by decide +kernel
theorem dX3_going_234 : decode cX3_going 234 = .ok (.i2l, 1) := by decide +kernel
theorem dX3_going_235 : decode cX3_going 235 = .ok (.aload_n 0, 1) := by decide +kernel
theorem dX3_going_236 : decode cX3_going 236 = .ok (.aload 6, 2) := by decide +kernel
theorem dX3_going_238 : decode cX3_going 238 = .ok (.getfield 58, 3) := by decide +kernel
theorem dX3_going_241 : decode cX3_going 241 = .ok (.iload 11, 2) := by decide +kernel
theorem dX3_going_243 : decode cX3_going 243 = .ok (.aload 6, 2) := by decide +kernel
theorem dX3_going_245 : decode cX3_going 245 = .ok (.getfield 101, 3) := by decide +kernel
theorem dX3_going_248 : decode cX3_going 248 = .ok (.iadd, 1) := by decide +kernel
theorem dX3_going_249 : decode cX3_going 249 = .ok (.iload 4, 2) := by decide +kernel
theorem dX3_going_251 : decode cX3_going 251 = .ok (.iload 7, 2) := by decide +kernel
theorem dX3_going_253 : decode cX3_going 253 = .ok (.invokestatic 69, 3) := by decide +kernel
theorem dX3_going_256 : decode cX3_going 256 = .ok (.aload 6, 2) := by decide +kernel
theorem dX3_going_258 : decode cX3_going 258 = .ok (.getfield 73, 3) := by decide +kernel
theorem dX3_going_261 : decode cX3_going 261 = .ok (.i2l, 1) := by decide +kernel
theorem dX3_going_262 : decode cX3_going 262 = .ok (.lload 8, 2) := by decide +kernel
theorem dX3_going_264 : decode cX3_going 264 = .ok (.lmul, 1) := by decide +kernel
theorem dX3_going_265 : decode cX3_going 265 = .ok (.lsub, 1) := by decide +kernel
theorem dX3_going_266 : decode cX3_going 266 = .ok (.lmul, 1) := by decide +kernel
theorem dX3_going_267 : decode cX3_going 267 = .ok (.ladd, 1) := by decide +kernel
theorem dX3_going_268 : decode cX3_going 268 = .ok (.lreturn, 1) := by decide +kernel
def f_X3_going_29 (rec : St → Int32 → Int32 → Int32 → Int32 → Int32 → Option (Int64 × St)) (S : St)  : Option (Int64 × St) :=
  some ((0), S)
def f_X3_going_216 (rec : St → Int32 → Int32 → Int32 → Int32 → Int32 → Option (Int64 × St)) (k_114 : St → Int32 → Fin 6 → Int32 → Int64 → Int32 → Int32 → Int64 → Int32 → Option (Int64 × St)) (S : St) (x4 : Int32) (x6 : Fin 6) (x7 : Int32) (x8 : Int64) (x11 : Int32) (x12 : Int32) (x13 : Int64) (x15 : Int32) : Option (Int64 × St) :=
  bnd (x15 + 1 : Int32) fun v1 =>
  k_114 S x4 x6 x7 x8 x11 x12 x13 v1
def f_X3_going_114 (rec : St → Int32 → Int32 → Int32 → Int32 → Int32 → Option (Int64 × St)) (k_114 : St → Int32 → Fin 6 → Int32 → Int64 → Int32 → Int32 → Int64 → Int32 → Option (Int64 × St)) (S : St) (x4 : Int32) (x6 : Fin 6) (x7 : Int32) (x8 : Int64) (x11 : Int32) (x12 : Int32) (x13 : Int64) (x15 : Int32) : Option (Int64 × St) :=
  obd2 (f_X1_sorts S x6) fun r2 S2 =>
  if r2 ≤ x15 then (
    if x12 = 0 then (
      some (x13, S2)
    ) else (
      obd2 (f_X3_bestLeft rec S2 (S2.1 (21 + x6.val) 4) (x11 + (S2.1 (21 + x6.val) 9)) x4 x7) fun r5 S5 =>
      some ((x13 + ((x12.toInt64) * (r5 - ((((S5.1 (21 + x6.val) 8) : Int32).toInt64) * x8)))), S5)
    )
  ) else (
    obd2 (f_X1_sortTold S2 x6 x15) fun r6 S6 =>
    oel r6 (
      f_X3_going_216 rec k_114 S6 x4 x6 x7 x8 x11 x12 x13 x15
    ) fun v7 =>
      obd2 (f_X4_tools S6 ) fun r8 S8 =>
      obd2 (f_X7_left S8 v7 x4 r8) fun r9 S9 =>
      if r9 = (-1) then (
        bnd ((x12 + (S9.1 (33 + v7.val) 0)) : Int32) fun v13 =>
        f_X3_going_216 rec k_114 S9 x4 x6 x7 x8 x11 v13 x13 x15
      ) else (
        obd2 (f_X3_bestLeft rec S9 (S9.1 (21 + x6.val) 4) (x11 + (S9.1 (33 + v7.val) 1)) r9 x7) fun r11 S11 =>
        bnd ((x13 + ((((S9.1 (33 + v7.val) 0) : Int32).toInt64) * (((((S9.1 (21 + x6.val) 7) : Int32).toInt64) * x8) + r11))) : Int64) fun v12 =>
        f_X3_going_216 rec k_114 S11 x4 x6 x7 x8 x11 x12 v12 x15
      )
  )
def l_X3_going_114 (rec : St → Int32 → Int32 → Int32 → Int32 → Int32 → Option (Int64 × St)) : Nat → St → Int32 → Fin 6 → Int32 → Int64 → Int32 → Int32 → Int64 → Int32 → Option (Int64 × St)
  | 0, _, _, _, _, _, _, _, _, _ => none
  | fu + 1, S, x4, x6, x7, x8, x11, x12, x13, x15 => f_X3_going_114 rec (l_X3_going_114 rec fu) S x4 x6 x7 x8 x11 x12 x13 x15
def f_X3_going (rec : St → Int32 → Int32 → Int32 → Int32 → Int32 → Option (Int64 × St)) (S : St) (x1 : Int32) (x2 : Int32) (x3 : Int32) (x4 : Int32) (x5 : Int32) : Option (Int64 × St) :=
  obd2 (f_X4_callWithSorts S x1) fun r14 S14 =>
  bnd ((x5 &&& (((1 : Int32) <<< (x1 &&& 31)) ^^^ (-1))) : Int32) fun v15 =>
  oel r14 (
    f_X3_going_29 rec S14 
  ) fun v16 =>
    if v15 = x5 then (
      f_X3_going_29 rec S14 
    ) else (
      obd2 (f_X3_scaleOf S14 v15) fun r18 S18 =>
      obd2 (f_X4_wayBetween S18 x2 (S18.1 (21 + v16.val) 4)) fun r19 S19 =>
      bnd ((x3 + r19) : Int32) fun v20 =>
      obd2 (f_X1_lateAt S19 v16 v20) fun r21 S21 =>
      if r21 = 0 then (
        obd2 (f_X1_startedAt S21 v16 v20) fun r23 S23 =>
        l_X3_going_114 rec FU S23 x4 v16 v15 r18 r23 0 (0) 0
      ) else (
        obd2 (f_X1_likely S21 v16) fun r24 S24 =>
        obd2 (f_X3_bestLeft rec S24 (S24.1 (21 + v16.val) 4) v20 x4 v15) fun r25 S25 =>
        some (((r24.toInt64) * (r25 - ((((S25.1 (21 + v16.val) 8) : Int32).toInt64) * r18))), S25)
      )
    )
set_option maxHeartbeats 4000000 in
set_option maxRecDepth 100000 in
theorem c_X3_going {l : Launch} {D : va_G} {cI cC cS : ClassId} {ad adK adV : Nat → Nat} (fr lo : Nat) (rec : St → Int32 → Int32 → Int32 → Int32 → Int32 → Option (Int64 × St)) (hrec : ∀ {S S1 : St} {x1 : Int32} {x2 : Int32} {x3 : Int32} {x4 : Int32} {x5 : Int32} {r : Int64}, rec S x1 x2 x3 x4 x5 = some (r, S1) → Kt l D (xw cI cC cS ad) (KX D (xtys cI cC cS) adK adV) yX3_going cX3_going 18 (some .long) fr lo [.ref (ad 3), .int x1, .int x2, .int x3, .int x4, .int x5] S (some (.long r)) S1) {S S1 : St} {x1 : Int32} {x2 : Int32} {x3 : Int32} {x4 : Int32} {x5 : Int32} {r : Int64} (h : f_X3_going rec S x1 x2 x3 x4 x5 = some (r, S1)) : Kt l D (xw cI cC cS ad) (KX D (xtys cI cC cS) adK adV) yX3_going cX3_going 18 (some .long) (fr + 4) (lo + 90) [.ref (ad 3), .int x1, .int x2, .int x3, .int x4, .int x5] S (some (.long r)) S1 := by
  refine k_ent (ins := .lreturn) (st := [.long r]) (by decide +kernel) (Nat.le_of_ble_eq_true rfl) ret_l ?_
  intro p e s m args below meth c A Q C hK I hA hq ls hl
  have C : CallFix p m c cX3_going 18 s args TT RX3 := C
  have hx := C.1
  have hb := C.2.1
  have kx := kx_ok D (xtys cI cC cS) adK adV
  have hl : lv_has ls 18 [(0, .ref (ad 3)), (1, .int x1), (2, .int x2), (3, .int x3), (4, .int x4), (5, .int x5)] := hl
  have J_29 : ∀ (S : St) , f_X3_going_29 rec  S  = some (r, S1) → ∀ (H : Heap) (locs : List Loc) (ls : Array Slot), Iv D (xw cI cC cS ad) S A s H locs → lv_has ls 18 [] → W p l e ({ frames := fr + 4, cells := 0, slots := 0, locals := lo + 90 } : Room) s m args below meth c H locs 0 0 Q (F0 m 29 ls []) := by
    intro  S  h H locs ls I hl
    unfold f_X3_going_29 at h
    refine lv_lconst (v := (0)) hx hb dX3_going_29 (by decide) ?_
    exact rt_l hq h I dX3_going_30
  have J_216 : ∀ (k_114 : St → Int32 → Fin 6 → Int32 → Int64 → Int32 → Int32 → Int64 → Int32 → Option (Int64 × St)) (hk_114 : ∀ (S : St) (x4 : Int32) (x6 : Fin 6) (x7 : Int32) (x8 : Int64) (x11 : Int32) (x12 : Int32) (x13 : Int64) (x15 : Int32), k_114 S x4 x6 x7 x8 x11 x12 x13 x15 = some (r, S1) → ∀ (H : Heap) (locs : List Loc) (ls : Array Slot), Iv D (xw cI cC cS ad) S A s H locs → lv_has ls 18 [(0, .ref (ad 3)), (4, .int x4), (6, .ref (ad (21 + x6.val))), (7, .int x7), (8, .long x8), (11, .int x11), (12, .int x12), (13, .long x13), (15, .int x15)] → W p l e ({ frames := fr + 4, cells := 0, slots := 0, locals := lo + 90 } : Room) s m args below meth c H locs 0 0 Q (F0 m 114 ls [])) (S : St) (x4 : Int32) (x6 : Fin 6) (x7 : Int32) (x8 : Int64) (x11 : Int32) (x12 : Int32) (x13 : Int64) (x15 : Int32), f_X3_going_216 rec k_114 S x4 x6 x7 x8 x11 x12 x13 x15 = some (r, S1) → ∀ (H : Heap) (locs : List Loc) (ls : Array Slot), Iv D (xw cI cC cS ad) S A s H locs → lv_has ls 18 [(0, .ref (ad 3)), (4, .int x4), (6, .ref (ad (21 + x6.val))), (7, .int x7), (8, .long x8), (11, .int x11), (12, .int x12), (13, .long x13), (15, .int x15)] → W p l e ({ frames := fr + 4, cells := 0, slots := 0, locals := lo + 90 } : Room) s m args below meth c H locs 0 0 Q (F0 m 216 ls []) := by
    intro k_114 hk_114 S x4 x6 x7 x8 x11 x12 x13 x15 h H locs ls I hl
    unfold f_X3_going_216 at h
    obtain ⟨v1, ev1⟩ : ∃ y : Int32, y = x15 + 1 := ⟨_, rfl⟩
    have h := bnd_at ev1 h
    refine lv_iinc (v := v1) (lv' := [(15, .int v1), (0, .ref (ad 3)), (4, .int x4), (6, .ref (ad (21 + x6.val))), (7, .int x7), (8, .long x8), (11, .int x11), (12, .int x12), (13, .long x13)]) hx hb dX3_going_216 hl (k := 8) rfl (by rw [ev1]; rfl) (by decide) rfl (fun ls hl => ?_)
    clear ev1
    refine lv_goto (tgt := 114) hx hb dX3_going_219 (by decide) ?_
    exact hk_114 _ _ _ _ _ _ _ _ _ h _ _ _ I (lv_sub hl [1, 2, 3, 4, 5, 6, 7, 8, 0] rfl)
  have B_114 : ∀ (k_114 : St → Int32 → Fin 6 → Int32 → Int64 → Int32 → Int32 → Int64 → Int32 → Option (Int64 × St)) (hk_114 : ∀ (S : St) (x4 : Int32) (x6 : Fin 6) (x7 : Int32) (x8 : Int64) (x11 : Int32) (x12 : Int32) (x13 : Int64) (x15 : Int32), k_114 S x4 x6 x7 x8 x11 x12 x13 x15 = some (r, S1) → ∀ (H : Heap) (locs : List Loc) (ls : Array Slot), Iv D (xw cI cC cS ad) S A s H locs → lv_has ls 18 [(0, .ref (ad 3)), (4, .int x4), (6, .ref (ad (21 + x6.val))), (7, .int x7), (8, .long x8), (11, .int x11), (12, .int x12), (13, .long x13), (15, .int x15)] → W p l e ({ frames := fr + 4, cells := 0, slots := 0, locals := lo + 90 } : Room) s m args below meth c H locs 0 0 Q (F0 m 114 ls [])) (S : St) (x4 : Int32) (x6 : Fin 6) (x7 : Int32) (x8 : Int64) (x11 : Int32) (x12 : Int32) (x13 : Int64) (x15 : Int32), f_X3_going_114 rec k_114 S x4 x6 x7 x8 x11 x12 x13 x15 = some (r, S1) → ∀ (H : Heap) (locs : List Loc) (ls : Array Slot), Iv D (xw cI cC cS ad) S A s H locs → lv_has ls 18 [(0, .ref (ad 3)), (4, .int x4), (6, .ref (ad (21 + x6.val))), (7, .int x7), (8, .long x8), (11, .int x11), (12, .int x12), (13, .long x13), (15, .int x15)] → W p l e ({ frames := fr + 4, cells := 0, slots := 0, locals := lo + 90 } : Room) s m args below meth c H locs 0 0 Q (F0 m 114 ls []) := by
    intro k_114 hk_114 S x4 x6 x7 x8 x11 x12 x13 x15 h H locs ls I hl
    unfold f_X3_going_114 at h
    refine lv_iload hx hb dX3_going_114 (lv_at hl 8 rfl) ?_
    refine lv_aload hx hb dX3_going_116 (lv_at hl 2 rfl) ?_
    obtain ⟨r2, S2, e2, h⟩ := obd2_ex h
    refine k_V (As := []) (rest := [.int x15]) (st1 := [.int r2, .int x15]) C kx hK I hA (c_X1_sorts e2) ⟨show 0 + 1 ≤ fr + 4 by omega, show 8 + (1 + 11) + (0) ≤ lo + 90 by omega⟩ mv_X1_sorts lk_X3_79 (21 + x6.val) 1 (xw_C (cI := cI) (cC := cC) (cS := cS) (ad := ad) x6) rfl rfl hl.1 rfl (Nat.le_of_ble_eq_true rfl) dX3_going_118 rfl (fun H locs I => ?_)
    refine lv_icmp_ge (tgt := 222) hx hb dX3_going_121 (by decide) (fun c3 => ?_) (fun c3 => ?_)
    · have h := ite_t c3 h
      refine lv_iload hx hb dX3_going_222 (lv_at hl 6 rfl) ?_
      refine lv_if_ne (tgt := 230) hx hb dX3_going_224 (by decide) (fun c4 => ?_) (fun c4 => ?_)
      · have h := ite_n c4 h
        refine lv_lload hx hb dX3_going_230 (lv_at hl 7 rfl) ?_
        refine lv_iload hx hb dX3_going_232 (lv_at hl 6 rfl) ?_
        refine lv_i2l hx hb dX3_going_234 rfl ?_
        refine lv_aload_n hx hb dX3_going_235 rfl (lv_at hl 0 rfl) ?_
        refine lv_aload hx hb dX3_going_236 (lv_at hl 2 rfl) ?_
        refine gxN_C_4 C hK I fl_X3_58 dX3_going_238 ?_
        refine lv_iload hx hb dX3_going_241 (lv_at hl 5 rfl) ?_
        refine lv_aload hx hb dX3_going_243 (lv_at hl 2 rfl) ?_
        refine gxN_C_9 C hK I fl_X3_101 dX3_going_245 ?_
        refine lv_iadd hx hb dX3_going_248 ?_
        refine lv_iload hx hb dX3_going_249 (lv_at hl 1 rfl) ?_
        refine lv_iload hx hb dX3_going_251 (lv_at hl 3 rfl) ?_
        obtain ⟨r5, S5, e5, h⟩ := obd2_ex h
        refine k_S (As := [.ref (ad 3), .int (S2.1 (21 + x6.val) 4), .int (x11 + (S2.1 (21 + x6.val) 9)), .int x4, .int x7]) (rest := [.long (x12.toInt64), .long x13]) (st1 := [.long r5, .long (x12.toInt64), .long x13]) C kx hK I hA (c_X3_bestLeft fr lo rec hrec e5) ⟨show fr + 1 + 1 ≤ fr + 4 by omega, show 8 + (8 + 11) + (lo + 37) ≤ lo + 90 by omega⟩ ms_X3_bestLeft lk_X3_69 rfl hl.1 rfl (Nat.le_of_ble_eq_true rfl) dX3_going_253 rfl (fun H locs I => ?_)
        refine lv_aload hx hb dX3_going_256 (lv_at hl 2 rfl) ?_
        refine gxN_C_8 C hK I fl_X3_73 dX3_going_258 ?_
        refine lv_i2l hx hb dX3_going_261 rfl ?_
        refine lv_lload hx hb dX3_going_262 (lv_at hl 4 rfl) ?_
        refine lv_lmul hx hb dX3_going_264 ?_
        refine lv_lsub hx hb dX3_going_265 ?_
        refine lv_lmul hx hb dX3_going_266 ?_
        refine lv_ladd hx hb dX3_going_267 ?_
        exact rt_l hq h I dX3_going_268
      · have h := ite_t c4 h
        refine lv_lload hx hb dX3_going_227 (lv_at hl 7 rfl) ?_
        exact rt_l hq h I dX3_going_229
    · have h := ite_n c3 h
      refine lv_aload hx hb dX3_going_124 (lv_at hl 2 rfl) ?_
      refine lv_iload hx hb dX3_going_126 (lv_at hl 8 rfl) ?_
      obtain ⟨r6, S6, e6, h⟩ := obd2_ex h
      refine k_V (As := [.int x15]) (rest := []) (st1 := [rS ad r6]) C kx hK I hA (c_X1_sortTold e6) ⟨show 0 + 1 ≤ fr + 4 by omega, show 8 + (2 + 11) + (0) ≤ lo + 90 by omega⟩ mv_X1_sortTold lk_X3_82 (21 + x6.val) 1 (xw_C (cI := cI) (cC := cC) (cS := cS) (ad := ad) x6) rfl rfl hl.1 rfl (Nat.le_of_ble_eq_true rfl) dX3_going_128 rfl (fun H locs I => ?_)
      refine k_astore _ (lv' := [(16, rS ad r6), (0, .ref (ad 3)), (4, .int x4), (6, .ref (ad (21 + x6.val))), (7, .int x7), (8, .long x8), (11, .int x11), (12, .int x12), (13, .long x13), (15, .int x15)]) hx hb dX3_going_131 rfl hl (by decide) rfl (fun ls hl => ?_)
      refine k_aload _ hx hb dX3_going_133 rfl (lv_at hl 0 rfl) ?_
      refine k_ifnn hx hb dX3_going_135 (tgt := 141) (by decide) (fun v7 ho => ?_) (fun ho => ?_)
      · subst ho
        have h := oel_s h
        have hl : lv_has ls 18 [(16, .ref (ad (33 + v7.val))), (0, .ref (ad 3)), (4, .int x4), (6, .ref (ad (21 + x6.val))), (7, .int x7), (8, .long x8), (11, .int x11), (12, .int x12), (13, .long x13), (15, .int x15)] := hl
        refine lv_aload hx hb dX3_going_141 (lv_at hl 0 rfl) ?_
        refine lv_iload hx hb dX3_going_143 (lv_at hl 2 rfl) ?_
        refine lv_aload_n hx hb dX3_going_145 rfl (lv_at hl 1 rfl) ?_
        obtain ⟨r8, S8, e8, h⟩ := obd2_ex h
        refine k_V (As := []) (rest := [.int x4, .ref (ad (33 + v7.val))]) (st1 := [.int r8, .int x4, .ref (ad (33 + v7.val))]) C kx hK I hA (c_X4_tools e8) ⟨show 0 + 1 ≤ fr + 4 by omega, show 8 + (1 + 11) + (0) ≤ lo + 90 by omega⟩ mv_X4_tools lk_X3_86 3 4 (xw_3 (cI := cI) (ad := ad) (cC := cC) (cS := cS)) rfl rfl hl.1 rfl (Nat.le_of_ble_eq_true rfl) dX3_going_146 rfl (fun H locs I => ?_)
        obtain ⟨r9, S9, e9, h⟩ := obd2_ex h
        refine k_V (As := [.int x4, .int r8]) (rest := []) (st1 := [.int r9]) C kx hK I hA (c_X7_left e9) ⟨show 1 + 1 ≤ fr + 4 by omega, show 8 + (4 + 11) + (22) ≤ lo + 90 by omega⟩ mv_X7_left lk_X3_89 (33 + v7.val) 7 (xw_S (cI := cI) (cC := cC) (cS := cS) (ad := ad) v7) rfl rfl hl.1 rfl (Nat.le_of_ble_eq_true rfl) dX3_going_149 rfl (fun H locs I => ?_)
        refine lv_istore (lv' := [(17, .int r9), (16, .ref (ad (33 + v7.val))), (0, .ref (ad 3)), (4, .int x4), (6, .ref (ad (21 + x6.val))), (7, .int x7), (8, .long x8), (11, .int x11), (12, .int x12), (13, .long x13), (15, .int x15)]) hx hb dX3_going_152 hl (by decide) rfl (fun ls hl => ?_)
        refine lv_iload hx hb dX3_going_154 (lv_at hl 0 rfl) ?_
        refine lv_iconst (v := (-1)) hx hb dX3_going_156 (by decide) ?_
        refine lv_icmp_ne (tgt := 173) hx hb dX3_going_157 (by decide) (fun c10 => ?_) (fun c10 => ?_)
        · have h := ite_n c10 h
          refine lv_lload hx hb dX3_going_173 (lv_at hl 9 rfl) ?_
          refine lv_aload hx hb dX3_going_175 (lv_at hl 1 rfl) ?_
          refine gxN_S_0 C hK I fl_X3_94 dX3_going_177 ?_
          refine lv_i2l hx hb dX3_going_180 rfl ?_
          refine lv_aload hx hb dX3_going_181 (lv_at hl 4 rfl) ?_
          refine gxN_C_7 C hK I fl_X3_96 dX3_going_183 ?_
          refine lv_i2l hx hb dX3_going_186 rfl ?_
          refine lv_lload hx hb dX3_going_187 (lv_at hl 6 rfl) ?_
          refine lv_lmul hx hb dX3_going_189 ?_
          refine lv_aload_n hx hb dX3_going_190 rfl (lv_at hl 2 rfl) ?_
          refine lv_aload hx hb dX3_going_191 (lv_at hl 4 rfl) ?_
          refine gxN_C_4 C hK I fl_X3_58 dX3_going_193 ?_
          refine lv_iload hx hb dX3_going_196 (lv_at hl 7 rfl) ?_
          refine lv_aload hx hb dX3_going_198 (lv_at hl 1 rfl) ?_
          refine gxN_S_1 C hK I fl_X3_98 dX3_going_200 ?_
          refine lv_iadd hx hb dX3_going_203 ?_
          refine lv_iload hx hb dX3_going_204 (lv_at hl 0 rfl) ?_
          refine lv_iload hx hb dX3_going_206 (lv_at hl 5 rfl) ?_
          obtain ⟨r11, S11, e11, h⟩ := obd2_ex h
          refine k_S (As := [.ref (ad 3), .int (S9.1 (21 + x6.val) 4), .int (x11 + (S9.1 (33 + v7.val) 1)), .int r9, .int x7]) (rest := [.long ((((S9.1 (21 + x6.val) 7) : Int32).toInt64) * x8), .long (((S9.1 (33 + v7.val) 0) : Int32).toInt64), .long x13]) (st1 := [.long r11, .long ((((S9.1 (21 + x6.val) 7) : Int32).toInt64) * x8), .long (((S9.1 (33 + v7.val) 0) : Int32).toInt64), .long x13]) C kx hK I hA (c_X3_bestLeft fr lo rec hrec e11) ⟨show fr + 1 + 1 ≤ fr + 4 by omega, show 8 + (8 + 11) + (lo + 37) ≤ lo + 90 by omega⟩ ms_X3_bestLeft lk_X3_69 rfl hl.1 rfl (Nat.le_of_ble_eq_true rfl) dX3_going_208 rfl (fun H locs I => ?_)
          refine lv_ladd hx hb dX3_going_211 ?_
          refine lv_lmul hx hb dX3_going_212 ?_
          refine lv_ladd hx hb dX3_going_213 ?_
          refine lv_topl (fun v12 ev12 => ?_)
          have h := bnd_at ev12 h
          clear ev12
          refine lv_lstore (lv' := [(13, .long v12), (17, .int r9), (16, .ref (ad (33 + v7.val))), (0, .ref (ad 3)), (4, .int x4), (6, .ref (ad (21 + x6.val))), (7, .int x7), (8, .long x8), (11, .int x11), (12, .int x12), (15, .int x15)]) hx hb dX3_going_214 hl (by decide) rfl (fun ls hl => ?_)
          exact J_216 k_114 hk_114 _ _ _ _ _ _ _ _ _ h _ _ _ I (lv_sub hl [3, 4, 5, 6, 7, 8, 9, 0, 10] rfl)
        · have h := ite_t c10 h
          refine lv_iload hx hb dX3_going_160 (lv_at hl 8 rfl) ?_
          refine lv_aload hx hb dX3_going_162 (lv_at hl 1 rfl) ?_
          refine gxN_S_0 C hK I fl_X3_94 dX3_going_164 ?_
          refine lv_iadd hx hb dX3_going_167 ?_
          refine lv_topi (fun v13 ev13 => ?_)
          have h := bnd_at ev13 h
          clear ev13
          refine lv_istore (lv' := [(12, .int v13), (17, .int r9), (16, .ref (ad (33 + v7.val))), (0, .ref (ad 3)), (4, .int x4), (6, .ref (ad (21 + x6.val))), (7, .int x7), (8, .long x8), (11, .int x11), (13, .long x13), (15, .int x15)]) hx hb dX3_going_168 hl (by decide) rfl (fun ls hl => ?_)
          refine lv_goto (tgt := 216) hx hb dX3_going_170 (by decide) ?_
          exact J_216 k_114 hk_114 _ _ _ _ _ _ _ _ _ h _ _ _ I (lv_sub hl [3, 4, 5, 6, 7, 8, 0, 9, 10] rfl)
      · subst ho
        have h := oel_n h
        have hl : lv_has ls 18 [(16, .null), (0, .ref (ad 3)), (4, .int x4), (6, .ref (ad (21 + x6.val))), (7, .int x7), (8, .long x8), (11, .int x11), (12, .int x12), (13, .long x13), (15, .int x15)] := hl
        refine lv_goto (tgt := 216) hx hb dX3_going_138 (by decide) ?_
        exact J_216 k_114 hk_114 _ _ _ _ _ _ _ _ _ h _ _ _ I (lv_sub hl [1, 2, 3, 4, 5, 6, 7, 8, 9] rfl)
  have J_114 : ∀ (fu : Nat) (S : St) (x4 : Int32) (x6 : Fin 6) (x7 : Int32) (x8 : Int64) (x11 : Int32) (x12 : Int32) (x13 : Int64) (x15 : Int32), l_X3_going_114 rec  fu S x4 x6 x7 x8 x11 x12 x13 x15 = some (r, S1) → ∀ (H : Heap) (locs : List Loc) (ls : Array Slot), Iv D (xw cI cC cS ad) S A s H locs → lv_has ls 18 [(0, .ref (ad 3)), (4, .int x4), (6, .ref (ad (21 + x6.val))), (7, .int x7), (8, .long x8), (11, .int x11), (12, .int x12), (13, .long x13), (15, .int x15)] → W p l e ({ frames := fr + 4, cells := 0, slots := 0, locals := lo + 90 } : Room) s m args below meth c H locs 0 0 Q (F0 m 114 ls []) := by
    intro fu
    induction fu with
    | zero => intro S x4 x6 x7 x8 x11 x12 x13 x15 h; cases h
    | succ fu ih => intro S x4 x6 x7 x8 x11 x12 x13 x15 h; exact B_114 (l_X3_going_114 rec fu) ih S x4 x6 x7 x8 x11 x12 x13 x15 h
  unfold f_X3_going at h
  refine lv_aload_n hx hb dX3_going_0 rfl (lv_at hl 0 rfl) ?_
  refine lv_iload_n hx hb dX3_going_1 rfl (lv_at hl 1 rfl) ?_
  obtain ⟨r14, S14, e14, h⟩ := obd2_ex h
  refine k_V (As := [.int x1]) (rest := []) (st1 := [rC ad r14]) C kx hK I hA (c_X4_callWithSorts e14) ⟨show 2 + 1 ≤ fr + 4 by omega, show 8 + (3 + 11) + (43) ≤ lo + 90 by omega⟩ mv_X4_callWithSorts lk_X3_34 3 4 (xw_3 (cI := cI) (ad := ad) (cC := cC) (cS := cS)) rfl rfl hl.1 rfl (Nat.le_of_ble_eq_true rfl) dX3_going_2 rfl (fun H locs I => ?_)
  refine k_astore _ (lv' := [(6, rC ad r14), (0, .ref (ad 3)), (1, .int x1), (2, .int x2), (3, .int x3), (4, .int x4), (5, .int x5)]) hx hb dX3_going_5 rfl hl (by decide) rfl (fun ls hl => ?_)
  refine lv_iload hx hb dX3_going_7 (lv_at hl 6 rfl) ?_
  refine lv_iconst (v := 1) hx hb dX3_going_9 (by decide) ?_
  refine lv_iload_n hx hb dX3_going_10 rfl (lv_at hl 2 rfl) ?_
  refine lv_ishl hx hb dX3_going_11 ?_
  refine lv_iconst (v := (-1)) hx hb dX3_going_12 (by decide) ?_
  refine lv_ixor hx hb dX3_going_13 ?_
  refine lv_iand hx hb dX3_going_14 ?_
  refine lv_topi (fun v15 ev15 => ?_)
  have h := bnd_at ev15 h
  clear ev15
  refine lv_istore (lv' := [(7, .int v15), (6, rC ad r14), (0, .ref (ad 3)), (1, .int x1), (2, .int x2), (3, .int x3), (4, .int x4), (5, .int x5)]) hx hb dX3_going_15 hl (by decide) (by first | rfl | (simp [cat_rC, cat_rS]; done) | (simp [cat_rC, cat_rS]; rfl)) (fun ls hl => ?_)
  refine k_aload _ hx hb dX3_going_17 rfl (lv_at hl 1 rfl) ?_
  refine k_ifn hx hb dX3_going_19 (tgt := 29) (by decide) (fun ho => ?_) (fun v16 ho => ?_)
  · subst ho
    have h := oel_n h
    have hl : lv_has ls 18 [(7, .int v15), (6, .null), (0, .ref (ad 3)), (1, .int x1), (2, .int x2), (3, .int x3), (4, .int x4), (5, .int x5)] := hl
    exact J_29 _  h _ _ _ I (lv_sub hl [] rfl)
  · subst ho
    have h := oel_s h
    have hl : lv_has ls 18 [(7, .int v15), (6, .ref (ad (21 + v16.val))), (0, .ref (ad 3)), (1, .int x1), (2, .int x2), (3, .int x3), (4, .int x4), (5, .int x5)] := hl
    refine lv_iload hx hb dX3_going_22 (lv_at hl 0 rfl) ?_
    refine lv_iload hx hb dX3_going_24 (lv_at hl 7 rfl) ?_
    refine lv_icmp_ne (tgt := 31) hx hb dX3_going_26 (by decide) (fun c17 => ?_) (fun c17 => ?_)
    · have h := ite_n c17 h
      refine lv_aload_n hx hb dX3_going_31 rfl (lv_at hl 2 rfl) ?_
      refine lv_iload hx hb dX3_going_32 (lv_at hl 0 rfl) ?_
      obtain ⟨r18, S18, e18, h⟩ := obd2_ex h
      refine k_S (As := [.ref (ad 3), .int v15]) (rest := []) (st1 := [.long r18]) C kx hK I hA (c_X3_scaleOf e18) ⟨show 3 + 1 ≤ fr + 4 by omega, show 8 + (6 + 11) + (65) ≤ lo + 90 by omega⟩ ms_X3_scaleOf lk_X3_26 rfl hl.1 rfl (Nat.le_of_ble_eq_true rfl) dX3_going_34 rfl (fun H locs I => ?_)
      refine lv_lstore (lv' := [(8, .long r18), (7, .int v15), (6, .ref (ad (21 + v16.val))), (0, .ref (ad 3)), (1, .int x1), (2, .int x2), (3, .int x3), (4, .int x4), (5, .int x5)]) hx hb dX3_going_37 hl (by decide) rfl (fun ls hl => ?_)
      refine lv_iload_n hx hb dX3_going_39 rfl (lv_at hl 6 rfl) ?_
      refine lv_aload_n hx hb dX3_going_40 rfl (lv_at hl 3 rfl) ?_
      refine lv_iload_n hx hb dX3_going_41 rfl (lv_at hl 5 rfl) ?_
      refine lv_aload hx hb dX3_going_42 (lv_at hl 2 rfl) ?_
      refine gxN_C_4 C hK I fl_X3_58 dX3_going_44 ?_
      obtain ⟨r19, S19, e19, h⟩ := obd2_ex h
      refine k_V (As := [.int x2, .int (S18.1 (21 + v16.val) 4)]) (rest := [.int x3]) (st1 := [.int r19, .int x3]) C kx hK I hA (c_X4_wayBetween e19) ⟨show 1 + 1 ≤ fr + 4 by omega, show 8 + (3 + 11) + (21) ≤ lo + 90 by omega⟩ mv_X4_wayBetween lk_X3_61 3 4 (xw_3 (cI := cI) (ad := ad) (cC := cC) (cS := cS)) rfl rfl hl.1 rfl (Nat.le_of_ble_eq_true rfl) dX3_going_47 rfl (fun H locs I => ?_)
      refine lv_iadd hx hb dX3_going_50 ?_
      refine lv_topi (fun v20 ev20 => ?_)
      have h := bnd_at ev20 h
      clear ev20
      refine lv_istore (lv' := [(10, .int v20), (8, .long r18), (7, .int v15), (6, .ref (ad (21 + v16.val))), (0, .ref (ad 3)), (1, .int x1), (2, .int x2), (3, .int x3), (4, .int x4), (5, .int x5)]) hx hb dX3_going_51 hl (by decide) rfl (fun ls hl => ?_)
      refine lv_aload hx hb dX3_going_53 (lv_at hl 3 rfl) ?_
      refine lv_iload hx hb dX3_going_55 (lv_at hl 0 rfl) ?_
      obtain ⟨r21, S21, e21, h⟩ := obd2_ex h
      refine k_V (As := [.int v20]) (rest := []) (st1 := [.int r21]) C kx hK I hA (c_X1_lateAt e21) ⟨show 0 + 1 ≤ fr + 4 by omega, show 8 + (2 + 11) + (0) ≤ lo + 90 by omega⟩ mv_X1_lateAt lk_X3_65 (21 + v16.val) 1 (xw_C (cI := cI) (cC := cC) (cS := cS) (ad := ad) v16) rfl rfl hl.1 rfl (Nat.le_of_ble_eq_true rfl) dX3_going_57 rfl (fun H locs I => ?_)
      refine lv_if_eq (tgt := 96) hx hb dX3_going_60 (by decide) (fun c22 => ?_) (fun c22 => ?_)
      · have h := ite_t c22 h
        refine lv_aload hx hb dX3_going_96 (lv_at hl 3 rfl) ?_
        refine lv_iload hx hb dX3_going_98 (lv_at hl 0 rfl) ?_
        obtain ⟨r23, S23, e23, h⟩ := obd2_ex h
        refine k_V (As := [.int v20]) (rest := []) (st1 := [.int r23]) C kx hK I hA (c_X1_startedAt e23) ⟨show 1 + 1 ≤ fr + 4 by omega, show 8 + (2 + 11) + (23) ≤ lo + 90 by omega⟩ mv_X1_startedAt lk_X3_76 (21 + v16.val) 1 (xw_C (cI := cI) (cC := cC) (cS := cS) (ad := ad) v16) rfl rfl hl.1 rfl (Nat.le_of_ble_eq_true rfl) dX3_going_100 rfl (fun H locs I => ?_)
        refine lv_istore (lv' := [(11, .int r23), (10, .int v20), (8, .long r18), (7, .int v15), (6, .ref (ad (21 + v16.val))), (0, .ref (ad 3)), (1, .int x1), (2, .int x2), (3, .int x3), (4, .int x4), (5, .int x5)]) hx hb dX3_going_103 hl (by decide) rfl (fun ls hl => ?_)
        refine lv_iconst (v := 0) hx hb dX3_going_105 (by decide) ?_
        refine lv_istore (lv' := [(12, .int 0), (11, .int r23), (10, .int v20), (8, .long r18), (7, .int v15), (6, .ref (ad (21 + v16.val))), (0, .ref (ad 3)), (1, .int x1), (2, .int x2), (3, .int x3), (4, .int x4), (5, .int x5)]) hx hb dX3_going_106 hl (by decide) rfl (fun ls hl => ?_)
        refine lv_lconst (v := (0)) hx hb dX3_going_108 (by decide) ?_
        refine lv_lstore (lv' := [(13, .long (0)), (12, .int 0), (11, .int r23), (10, .int v20), (8, .long r18), (7, .int v15), (6, .ref (ad (21 + v16.val))), (0, .ref (ad 3)), (1, .int x1), (2, .int x2), (3, .int x3), (4, .int x4), (5, .int x5)]) hx hb dX3_going_109 hl (by decide) rfl (fun ls hl => ?_)
        refine lv_iconst (v := 0) hx hb dX3_going_111 (by decide) ?_
        refine lv_istore (lv' := [(15, .int 0), (13, .long (0)), (12, .int 0), (11, .int r23), (10, .int v20), (8, .long r18), (7, .int v15), (6, .ref (ad (21 + v16.val))), (0, .ref (ad 3)), (1, .int x1), (2, .int x2), (3, .int x3), (4, .int x4), (5, .int x5)]) hx hb dX3_going_112 hl (by decide) rfl (fun ls hl => ?_)
        exact J_114 _ _ _ _ _ _ _ _ _ _ h _ _ _ I (lv_sub hl [8, 12, 7, 6, 5, 3, 2, 1, 0] rfl)
      · have h := ite_n c22 h
        refine lv_aload hx hb dX3_going_63 (lv_at hl 3 rfl) ?_
        obtain ⟨r24, S24, e24, h⟩ := obd2_ex h
        refine k_V (As := []) (rest := []) (st1 := [.int r24]) C kx hK I hA (c_X1_likely e24) ⟨show 0 + 1 ≤ fr + 4 by omega, show 8 + (1 + 11) + (0) ≤ lo + 90 by omega⟩ mv_X1_likely lk_X3_40 (21 + v16.val) 1 (xw_C (cI := cI) (cC := cC) (cS := cS) (ad := ad) v16) rfl rfl hl.1 rfl (Nat.le_of_ble_eq_true rfl) dX3_going_65 rfl (fun H locs I => ?_)
        refine lv_i2l hx hb dX3_going_68 rfl ?_
        refine lv_aload_n hx hb dX3_going_69 rfl (lv_at hl 4 rfl) ?_
        refine lv_aload hx hb dX3_going_70 (lv_at hl 3 rfl) ?_
        refine gxN_C_4 C hK I fl_X3_58 dX3_going_72 ?_
        refine lv_iload hx hb dX3_going_75 (lv_at hl 0 rfl) ?_
        refine lv_iload hx hb dX3_going_77 (lv_at hl 8 rfl) ?_
        refine lv_iload hx hb dX3_going_79 (lv_at hl 2 rfl) ?_
        obtain ⟨r25, S25, e25, h⟩ := obd2_ex h
        refine k_S (As := [.ref (ad 3), .int (S24.1 (21 + v16.val) 4), .int v20, .int x4, .int v15]) (rest := [.long (r24.toInt64)]) (st1 := [.long r25, .long (r24.toInt64)]) C kx hK I hA (c_X3_bestLeft fr lo rec hrec e25) ⟨show fr + 1 + 1 ≤ fr + 4 by omega, show 8 + (8 + 11) + (lo + 37) ≤ lo + 90 by omega⟩ ms_X3_bestLeft lk_X3_69 rfl hl.1 rfl (Nat.le_of_ble_eq_true rfl) dX3_going_81 rfl (fun H locs I => ?_)
        refine lv_aload hx hb dX3_going_84 (lv_at hl 3 rfl) ?_
        refine gxN_C_8 C hK I fl_X3_73 dX3_going_86 ?_
        refine lv_i2l hx hb dX3_going_89 rfl ?_
        refine lv_lload hx hb dX3_going_90 (lv_at hl 1 rfl) ?_
        refine lv_lmul hx hb dX3_going_92 ?_
        refine lv_lsub hx hb dX3_going_93 ?_
        refine lv_lmul hx hb dX3_going_94 ?_
        exact rt_l hq h I dX3_going_95
    · have h := ite_t c17 h
      exact J_29 _  h _ _ _ I (lv_sub hl [] rfl)
def g_X3_going : Nat → St → Int32 → Int32 → Int32 → Int32 → Int32 → Option (Int64 × St)
  | 0, _, _, _, _, _, _ => none
  | d + 1, S, x1, x2, x3, x4, x5 => f_X3_going (g_X3_going d) S x1 x2 x3 x4 x5
theorem cg_X3_going {l : Launch} {D : va_G} {cI cC cS : ClassId} {ad adK adV : Nat → Nat} (d : Nat) : ∀ {S S1 : St} {x1 : Int32} {x2 : Int32} {x3 : Int32} {x4 : Int32} {x5 : Int32} {r : Int64}, g_X3_going d S x1 x2 x3 x4 x5 = some (r, S1) → Kt l D (xw cI cC cS ad) (KX D (xtys cI cC cS) adK adV) yX3_going cX3_going 18 (some .long) (4 * d) (90 * d) [.ref (ad 3), .int x1, .int x2, .int x3, .int x4, .int x5] S (some (.long r)) S1 := by
  induction d with
  | zero => intro S S1 x1 x2 x3 x4 x5 r h; cases h
  | succ d ih => intro S S1 x1 x2 x3 x4 x5 r h; exact c_X3_going (4 * d) (90 * d) (g_X3_going d) ih h
theorem fl_X2_23 : Cond.fieldLink RX2 23 RX2 "bag" "I" ∈ TT := tt_of 324 (by decide +kernel) rfl
theorem dX2_bag_0 : decode cX2_bag 0 = .ok (.aload_n 0, 1) := by decide +kernel
theorem dX2_bag_1 : decode cX2_bag 1 = .ok (.getfield 23, 3) := by decide +kernel
theorem dX2_bag_4 : decode cX2_bag 4 = .ok (.ireturn, 1) := by decide +kernel
def f_X2_bag (S : St)  : Option (Int32 × St) :=
  some ((S.1 6 3), S)
set_option maxHeartbeats 4000000 in
set_option maxRecDepth 100000 in
theorem c_X2_bag {l : Launch} {D : va_G} {cI cC cS : ClassId} {ad adK adV : Nat → Nat} {S S1 : St}  {r : Int32} (h : f_X2_bag S  = some (r, S1)) : Kt l D (xw cI cC cS ad) (KX D (xtys cI cC cS) adK adV) yX2_bag cX2_bag 1 (some .int) (0) (0) [.ref (ad 6)] S (some (.int r)) S1 := by
  refine k_ent (ins := .ireturn) (st := [.int r]) (by decide +kernel) (Nat.le_of_ble_eq_true rfl) ret_i ?_
  intro p e s m args below meth c A Q C hK I hA hq ls hl
  have C : CallFix p m c cX2_bag 1 s args TT RX2 := C
  have hx := C.1
  have hb := C.2.1
  have kx := kx_ok D (xtys cI cC cS) adK adV
  have hl : lv_has ls 1 [(0, .ref (ad 6))] := hl
  unfold f_X2_bag at h
  refine lv_aload_n hx hb dX2_bag_0 rfl (lv_at hl 0 rfl) ?_
  refine gx_6_3 C hK I fl_X2_23 dX2_bag_1 ?_
  exact rt_i hq h I dX2_bag_4
theorem fl_X2_27 : Cond.fieldLink RX2 27 RX2 "row" "I" ∈ TT := tt_of 325 (by decide +kernel) rfl
theorem dX2_row_0 : decode cX2_row 0 = .ok (.aload_n 0, 1) := by decide +kernel
theorem dX2_row_1 : decode cX2_row 1 = .ok (.getfield 27, 3) := by decide +kernel
theorem dX2_row_4 : decode cX2_row 4 = .ok (.ireturn, 1) := by decide +kernel
def f_X2_row (S : St)  : Option (Int32 × St) :=
  some ((S.1 6 4), S)
set_option maxHeartbeats 4000000 in
set_option maxRecDepth 100000 in
theorem c_X2_row {l : Launch} {D : va_G} {cI cC cS : ClassId} {ad adK adV : Nat → Nat} {S S1 : St}  {r : Int32} (h : f_X2_row S  = some (r, S1)) : Kt l D (xw cI cC cS ad) (KX D (xtys cI cC cS) adK adV) yX2_row cX2_row 1 (some .int) (0) (0) [.ref (ad 6)] S (some (.int r)) S1 := by
  refine k_ent (ins := .ireturn) (st := [.int r]) (by decide +kernel) (Nat.le_of_ble_eq_true rfl) ret_i ?_
  intro p e s m args below meth c A Q C hK I hA hq ls hl
  have C : CallFix p m c cX2_row 1 s args TT RX2 := C
  have hx := C.1
  have hb := C.2.1
  have kx := kx_ok D (xtys cI cC cS) adK adV
  have hl : lv_has ls 1 [(0, .ref (ad 6))] := hl
  unfold f_X2_row at h
  refine lv_aload_n hx hb dX2_row_0 rfl (lv_at hl 0 rfl) ?_
  refine gx_6_4 C hK I fl_X2_27 dX2_row_1 ?_
  exact rt_i hq h I dX2_row_4
theorem fl_X2_30 : Cond.fieldLink RX2 30 RX2 "scale" "J" ∈ TT := tt_of 327 (by decide +kernel) rfl
theorem dX2_scale_0 : decode cX2_scale 0 = .ok (.aload_n 0, 1) := by decide +kernel
theorem dX2_scale_1 : decode cX2_scale 1 = .ok (.getfield 30, 3) := by decide +kernel
theorem dX2_scale_4 : decode cX2_scale 4 = .ok (.lreturn, 1) := by decide +kernel
def f_X2_scale (S : St)  : Option (Int64 × St) :=
  some ((S.2.1 6 6), S)
set_option maxHeartbeats 4000000 in
set_option maxRecDepth 100000 in
theorem c_X2_scale {l : Launch} {D : va_G} {cI cC cS : ClassId} {ad adK adV : Nat → Nat} {S S1 : St}  {r : Int64} (h : f_X2_scale S  = some (r, S1)) : Kt l D (xw cI cC cS ad) (KX D (xtys cI cC cS) adK adV) yX2_scale cX2_scale 1 (some .long) (0) (0) [.ref (ad 6)] S (some (.long r)) S1 := by
  refine k_ent (ins := .lreturn) (st := [.long r]) (by decide +kernel) (Nat.le_of_ble_eq_true rfl) ret_l ?_
  intro p e s m args below meth c A Q C hK I hA hq ls hl
  have C : CallFix p m c cX2_scale 1 s args TT RX2 := C
  have hx := C.1
  have hb := C.2.1
  have kx := kx_ok D (xtys cI cC cS) adK adV
  have hl : lv_has ls 1 [(0, .ref (ad 6))] := hl
  unfold f_X2_scale at h
  refine lv_aload_n hx hb dX2_scale_0 rfl (lv_at hl 0 rfl) ?_
  refine gx_6_6 C hK I fl_X2_30 dX2_scale_1 ?_
  exact rt_l hq h I dX2_scale_4
theorem fl_X2_9 : Cond.fieldLink RX2 9 RX2 "plan" "LCarryUp$Plan;" ∈ TT := tt_of 321 (by decide +kernel) rfl
theorem lk_X2_34 : Cond.methodLink RX2 34 yX4_mayBe ∈ TT := tt_of 871 (by decide +kernel) rfl
theorem dX2_isWorthATry_0 : decode cX2_isWorthATry 0 = .ok (.iload_n 1, 1) := by decide +kernel
theorem dX2_isWorthATry_1 : decode cX2_isWorthATry 1 = .ok (.iload_n 2, 1) := by decide +kernel
theorem dX2_isWorthATry_2 : decode cX2_isWorthATry 2 = .ok (.iconst (-1), 1) := by decide +kernel
theorem dX2_isWorthATry_3 : decode cX2_isWorthATry 3 = .ok (.ixor, 1) := by decide +kernel
theorem dX2_isWorthATry_4 : decode cX2_isWorthATry 4 = .ok (.iand, 1) := by decide +kernel
theorem dX2_isWorthATry_5 : decode cX2_isWorthATry 5 = .ok (.ifCond .ne 18, 3) := by decide +kernel
theorem dX2_isWorthATry_8 : decode cX2_isWorthATry 8 = .ok (.aload_n 0, 1) := by decide +kernel
theorem dX2_isWorthATry_9 : decode cX2_isWorthATry 9 = .ok (.getfield 9, 3) := by decide +kernel
theorem dX2_isWorthATry_12 : decode cX2_isWorthATry 12 = .ok (.iload_n 1, 1) := by decide +kernel
theorem dX2_isWorthATry_13 : decode cX2_isWorthATry 13 = .ok (.invokevirtual 34, 3) := by decide +kernel
theorem dX2_isWorthATry_16 : decode cX2_isWorthATry 16 = .ok (.ifCond .eq 7, 3) := by decide +kernel
theorem dX2_isWorthATry_19 : decode cX2_isWorthATry 19 = .ok (.iconst 1, 1) := by decide +kernel
theorem dX2_isWorthATry_20 : decode cX2_isWorthATry 20 = .ok (.goto 4, 3) := by decide +kernel
theorem dX2_isWorthATry_23 : decode cX2_isWorthATry 23 = .ok (.iconst 0, 1) := by decide +kernel
theorem dX2_isWorthATry_24 : decode cX2_isWorthATry 24 = .ok (.ireturn, 1) := by decide +kernel
def f_X2_isWorthATry (S : St) (x1 : Int32) (x2 : Int32) : Option (Int32 × St) :=
  if (x1 &&& (x2 ^^^ (-1))) = 0 then (
    obd2 (f_X4_mayBe S x1) fun r2 S2 =>
    if r2 = 0 then (
      some (0, S2)
    ) else (
      some (1, S2)
    )
  ) else (
    some (0, S)
  )
set_option maxHeartbeats 4000000 in
set_option maxRecDepth 100000 in
theorem c_X2_isWorthATry {l : Launch} {D : va_G} {cI cC cS : ClassId} {ad adK adV : Nat → Nat} {S S1 : St} {x1 : Int32} {x2 : Int32} {r : Int32} (h : f_X2_isWorthATry S x1 x2 = some (r, S1)) : Kt l D (xw cI cC cS ad) (KX D (xtys cI cC cS) adK adV) yX2_isWorthATry cX2_isWorthATry 3 (some .boolean) (3) (67) [.ref (ad 6), .int x1, .int x2] S (some (.int r)) S1 := by
  refine k_entz (by decide +kernel) (Nat.le_of_ble_eq_true rfl) ?_
  intro p e s m args below meth c A Q C hK I hA hq ls hl
  have C : CallFix p m c cX2_isWorthATry 3 s args TT RX2 := C
  have hx := C.1
  have hb := C.2.1
  have kx := kx_ok D (xtys cI cC cS) adK adV
  have hl : lv_has ls 3 [(0, .ref (ad 6)), (1, .int x1), (2, .int x2)] := hl
  unfold f_X2_isWorthATry at h
  refine lv_iload_n hx hb dX2_isWorthATry_0 rfl (lv_at hl 1 rfl) ?_
  refine lv_iload_n hx hb dX2_isWorthATry_1 rfl (lv_at hl 2 rfl) ?_
  refine lv_iconst (v := (-1)) hx hb dX2_isWorthATry_2 (by decide) ?_
  refine lv_ixor hx hb dX2_isWorthATry_3 ?_
  refine lv_iand hx hb dX2_isWorthATry_4 ?_
  refine lv_if_ne (tgt := 23) hx hb dX2_isWorthATry_5 (by decide) (fun c1 => ?_) (fun c1 => ?_)
  · have h := ite_n c1 h
    refine lv_iconst (v := 0) hx hb dX2_isWorthATry_23 (by decide) ?_
    exact rt_z (Or.inl rfl) hq h I dX2_isWorthATry_24
  · have h := ite_t c1 h
    refine lv_aload_n hx hb dX2_isWorthATry_8 rfl (lv_at hl 0 rfl) ?_
    refine gx_6_0 C hK I fl_X2_9 dX2_isWorthATry_9 ?_
    refine lv_iload_n hx hb dX2_isWorthATry_12 rfl (lv_at hl 1 rfl) ?_
    obtain ⟨r2, S2, e2, h⟩ := obd2_ex h
    refine k_V (As := [.int x1]) (rest := []) (st1 := [.int r2]) C kx hK I hA (c_X4_mayBe e2) ⟨Nat.le_of_ble_eq_true rfl, Nat.le_of_ble_eq_true rfl⟩ mv_X4_mayBe lk_X2_34 3 4 (xw_3 (cI := cI) (ad := ad) (cC := cC) (cS := cS)) rfl rfl hl.1 rfl (Nat.le_of_ble_eq_true rfl) dX2_isWorthATry_13 rfl (fun H locs I => ?_)
    refine lv_if_eq (tgt := 23) hx hb dX2_isWorthATry_16 (by decide) (fun c3 => ?_) (fun c3 => ?_)
    · have h := ite_t c3 h
      refine lv_iconst (v := 0) hx hb dX2_isWorthATry_23 (by decide) ?_
      exact rt_z (Or.inl rfl) hq h I dX2_isWorthATry_24
    · have h := ite_n c3 h
      refine lv_iconst (v := 1) hx hb dX2_isWorthATry_19 (by decide) ?_
      refine lv_goto (tgt := 24) hx hb dX2_isWorthATry_20 (by decide) ?_
      exact rt_z (Or.inr rfl) hq h I dX2_isWorthATry_24
theorem fl_X2_19 : Cond.fieldLink RX2 19 RX2 "walk" "LCarryUp$Walk;" ∈ TT := tt_of 323 (by decide +kernel) rfl
theorem lk_X2_56 : Cond.methodLink RX2 56 yX9_sum ∈ TT := tt_of 873 (by decide +kernel) rfl
theorem mv_X9_sum : MV yX9_sum cX9_sum 1 (some .long) 0 := ⟨tt_of 826 (by decide +kernel) rfl, tt_of 824 (by decide +kernel) rfl, tt_of 825 (by decide +kernel) rfl, tt_of 72 (by decide +kernel) rfl, ⟨by decide +kernel, by decide +kernel, by decide +kernel⟩⟩
theorem fl_X2_60 : Cond.fieldLink RX2 60 RX2 "sum" "J" ∈ TT := tt_of 326 (by decide +kernel) rfl
theorem lk_X2_62 : Cond.methodLink RX2 62 yX9_scale ∈ TT := tt_of 874 (by decide +kernel) rfl
theorem mv_X9_scale : MV yX9_scale cX9_scale 1 (some .long) 0 := ⟨tt_of 830 (by decide +kernel) rfl, tt_of 828 (by decide +kernel) rfl, tt_of 829 (by decide +kernel) rfl, tt_of 72 (by decide +kernel) rfl, ⟨by decide +kernel, by decide +kernel, by decide +kernel⟩⟩
theorem lk_X2_46 : Cond.methodLink RX2 46 yX2_isWorthATry ∈ TT := tt_of 867 (by decide +kernel) rfl
theorem mv_X2_isWorthATry : MV yX2_isWorthATry cX2_isWorthATry 3 (some .boolean) 2 := ⟨tt_of 870 (by decide +kernel) rfl, tt_of 869 (by decide +kernel) rfl, tt_of 19 (by decide +kernel) rfl, tt_of 73 (by decide +kernel) rfl, ⟨by decide +kernel, by decide +kernel, by decide +kernel⟩⟩
theorem lk_X2_50 : Cond.methodLink RX2 50 yX9_take ∈ TT := tt_of 872 (by decide +kernel) rfl
theorem mv_X9_take : MV yX9_take cX9_take 3 none 1 := ⟨tt_of 772 (by decide +kernel) rfl, tt_of 770 (by decide +kernel) rfl, tt_of 771 (by decide +kernel) rfl, tt_of 72 (by decide +kernel) rfl, ⟨by decide +kernel, by decide +kernel, by decide +kernel⟩⟩
theorem fl_X2_15 : Cond.fieldLink RX2 15 RX2 "rows" "LCarryUp$Row;" ∈ TT := tt_of 322 (by decide +kernel) rfl
theorem lk_X2_40 : Cond.methodLink RX2 40 yX6_wanted ∈ TT := tt_of 855 (by decide +kernel) rfl
theorem mv_X6_wanted : MV yX6_wanted cX6_wanted 4 (some .int) 0 := ⟨tt_of 858 (by decide +kernel) rfl, tt_of 856 (by decide +kernel) rfl, tt_of 857 (by decide +kernel) rfl, tt_of 71 (by decide +kernel) rfl, ⟨by decide +kernel, by decide +kernel, by decide +kernel⟩⟩
theorem dX2_findBest_0 : decode cX2_findBest 0 = .ok (.aload_n 0, 1) := by decide +kernel
theorem dX2_findBest_1 : decode cX2_findBest 1 = .ok (.getfield 15, 3) := by decide +kernel
theorem dX2_findBest_4 : decode cX2_findBest 4 = .ok (.invokevirtual 40, 3) := by decide +kernel
theorem dX2_findBest_7 : decode cX2_findBest 7 = .ok (.istore_n 1, 1) := by decide +kernel
theorem dX2_findBest_8 : decode cX2_findBest 8 = .ok (.aload_n 0, 1) := by decide +kernel
theorem dX2_findBest_9 : decode cX2_findBest 9 = .ok (.iconst (-1), 1) := by decide +kernel
theorem dX2_findBest_10 : decode cX2_findBest 10 = .ok (.putfield 23, 3) := by decide +kernel
theorem dX2_findBest_13 : decode cX2_findBest 13 = .ok (.iconst 0, 1) := by decide +kernel
theorem dX2_findBest_14 : decode cX2_findBest 14 = .ok (.istore_n 2, 1) := by decide +kernel
theorem dX2_findBest_15 : decode cX2_findBest 15 = .ok (.iload_n 2, 1) := by decide +kernel
theorem dX2_findBest_16 : decode cX2_findBest 16 = .ok (.sipush 256, 3) := by decide +kernel
theorem dX2_findBest_19 : decode cX2_findBest 19 = .ok (.if_icmp .ge 79, 3) := by decide +kernel
theorem dX2_findBest_22 : decode cX2_findBest 22 = .ok (.aload_n 0, 1) := by decide +kernel
theorem dX2_findBest_23 : decode cX2_findBest 23 = .ok (.iload_n 2, 1) := by decide +kernel
theorem dX2_findBest_24 : decode cX2_findBest 24 = .ok (.iload_n 1, 1) := by decide +kernel
theorem dX2_findBest_25 : decode cX2_findBest 25 = .ok (.invokevirtual 46, 3) := by decide +kernel
theorem dX2_findBest_28 : decode cX2_findBest 28 = .ok (.ifCond .ne 6, 3) := by decide +kernel
theorem dX2_findBest_31 : decode cX2_findBest 31 = .ok (.goto 61, 3) := by decide +kernel
theorem dX2_findBest_34 : decode cX2_findBest 34 = .ok (.aload_n 0, 1) := by decide +kernel
theorem dX2_findBest_35 : decode cX2_findBest 35 = .ok (.getfield 19, 3) := by decide +kernel
theorem dX2_findBest_38 : decode cX2_findBest 38 = .ok (.iload_n 2, 1) := by decide +kernel
theorem dX2_findBest_39 : decode cX2_findBest 39 = .ok (.invokevirtual 50, 3) := by decide +kernel
theorem dX2_findBest_42 : decode cX2_findBest 42 = .ok (.aload_n 0, 1) := by decide +kernel
theorem dX2_findBest_43 : decode cX2_findBest 43 = .ok (.getfield 23, 3) := by decide +kernel
theorem dX2_findBest_46 : decode cX2_findBest 46 = .ok (.iconst (-1), 1) := by decide +kernel
theorem dX2_findBest_47 : decode cX2_findBest 47 = .ok (.if_icmp .eq 18, 3) := by decide +kernel
theorem dX2_findBest_50 : decode cX2_findBest 50 = .ok (.aload_n 0, 1) := by decide +kernel
theorem dX2_findBest_51 : decode cX2_findBest 51 = .ok (.getfield 19, 3) := by decide +kernel
theorem dX2_findBest_54 : decode cX2_findBest 54 = .ok (.invokevirtual 56, 3) := by decide +kernel
theorem dX2_findBest_57 : decode cX2_findBest 57 = .ok (.aload_n 0, 1) := by decide +kernel
theorem dX2_findBest_58 : decode cX2_findBest 58 = .ok (.getfield 60, 3) := by decide +kernel
theorem dX2_findBest_61 : decode cX2_findBest 61 = .ok (.lcmp, 1) := by decide +kernel
theorem dX2_findBest_62 : decode cX2_findBest 62 = .ok (.ifCond .le 30, 3) := by decide +kernel
theorem dX2_findBest_65 : decode cX2_findBest 65 = .ok (.aload_n 0, 1) := by decide +kernel
theorem dX2_findBest_66 : decode cX2_findBest 66 = .ok (.iload_n 2, 1) := by decide +kernel
theorem dX2_findBest_67 : decode cX2_findBest 67 = .ok (.putfield 23, 3) := by decide +kernel
theorem dX2_findBest_70 : decode cX2_findBest 70 = .ok (.aload_n 0, 1) := by decide +kernel
theorem dX2_findBest_71 : decode cX2_findBest 71 = .ok (.aload_n 0, 1) := by decide +kernel
theorem dX2_findBest_72 : decode cX2_findBest 72 = .ok (.getfield 19, 3) := by decide +kernel
theorem dX2_findBest_75 : decode cX2_findBest 75 = .ok (.invokevirtual 56, 3) := by decide +kernel
theorem dX2_findBest_78 : decode cX2_findBest 78 = .ok (.putfield 60, 3) := by decide +kernel
theorem dX2_findBest_81 : decode cX2_findBest 81 = .ok (.aload_n 0, 1) := by decide +kernel
theorem dX2_findBest_82 : decode cX2_findBest 82 = .ok (.aload_n 0, 1) := by decide +kernel
theorem dX2_findBest_83 : decode cX2_findBest 83 = .ok (.getfield 19, 3) := by decide +kernel
theorem dX2_findBest_86 : decode cX2_findBest 86 = .ok (.invokevirtual 62, 3) := by decide +kernel
theorem dX2_findBest_89 : decode cX2_findBest 89 = .ok (.putfield 30, 3) := by decide +kernel
theorem dX2_findBest_92 : decode cX2_findBest 92 = .ok (.iinc 2 1, 3) := by decide +kernel
theorem dX2_findBest_95 : decode cX2_findBest 95 = .ok (.goto (-80), 3) := by decide +kernel
theorem dX2_findBest_98 : decode cX2_findBest 98 = .ok (.return_, 1) := by decide +kernel
def f_X2_findBest_92 (k_15 : St → Int32 → Int32 → Option St) (S : St) (x1 : Int32) (x2 : Int32) : Option St :=
  bnd (x2 + 1 : Int32) fun v1 =>
  k_15 S x1 v1
def f_X2_findBest_65 (k_15 : St → Int32 → Int32 → Option St) (S : St) (x1 : Int32) (x2 : Int32) : Option St :=
  bnd (setI S 6 3 x2) fun S2 =>
  obd2 (f_X9_sum S2 ) fun r3 S3 =>
  bnd (setL S3 6 5 r3) fun S4 =>
  obd2 (f_X9_scale S4 ) fun r5 S5 =>
  bnd (setL S5 6 6 r5) fun S6 =>
  f_X2_findBest_92 k_15 S6 x1 x2
def f_X2_findBest_15 (k_15 : St → Int32 → Int32 → Option St) (S : St) (x1 : Int32) (x2 : Int32) : Option St :=
  if 256 ≤ x2 then (
    some S
  ) else (
    obd2 (f_X2_isWorthATry S x2 x1) fun r8 S8 =>
    if r8 = 0 then (
      f_X2_findBest_92 k_15 S8 x1 x2
    ) else (
      obd (f_X9_take S8 x2) fun S10 =>
      if (S10.1 6 3) = (-1) then (
        f_X2_findBest_65 k_15 S10 x1 x2
      ) else (
        obd2 (f_X9_sum S10 ) fun r12 S12 =>
        if (lg_cmp r12 (S12.2.1 6 5)) ≤ 0 then (
          f_X2_findBest_92 k_15 S12 x1 x2
        ) else (
          f_X2_findBest_65 k_15 S12 x1 x2
        )
      )
    )
  )
def l_X2_findBest_15 : Nat → St → Int32 → Int32 → Option St
  | 0, _, _, _ => none
  | fu + 1, S, x1, x2 => f_X2_findBest_15 (l_X2_findBest_15 fu) S x1 x2
def f_X2_findBest (S : St)  : Option St :=
  obd2 (f_X6_wanted S ) fun r14 S14 =>
  bnd (setI S14 6 3 (-1)) fun S15 =>
  l_X2_findBest_15 FU S15 r14 0
set_option maxHeartbeats 4000000 in
set_option maxRecDepth 100000 in
theorem c_X2_findBest {l : Launch} {D : va_G} {cI cC cS : ClassId} {ad adK adV : Nat → Nat} {S S1 : St}  (h : f_X2_findBest S  = some S1) : Kt l D (xw cI cC cS ad) (KX D (xtys cI cC cS) adK adV) yX2_findBest cX2_findBest 3 none (18) (441) [.ref (ad 6)] S (none) S1 := by
  refine k_ent (ins := .return_) (st := []) (by decide +kernel) (Nat.le_of_ble_eq_true rfl) ret_v ?_
  intro p e s m args below meth c A Q C hK I hA hq ls hl
  have C : CallFix p m c cX2_findBest 3 s args TT RX2 := C
  have hx := C.1
  have hb := C.2.1
  have kx := kx_ok D (xtys cI cC cS) adK adV
  have hl : lv_has ls 3 [(0, .ref (ad 6))] := hl
  have J_92 : ∀ (k_15 : St → Int32 → Int32 → Option St) (hk_15 : ∀ (S : St) (x1 : Int32) (x2 : Int32), k_15 S x1 x2 = some S1 → ∀ (H : Heap) (locs : List Loc) (ls : Array Slot), Iv D (xw cI cC cS ad) S A s H locs → lv_has ls 3 [(0, .ref (ad 6)), (1, .int x1), (2, .int x2)] → W p l e ({ frames := 18, cells := 0, slots := 0, locals := 441 } : Room) s m args below meth c H locs 0 0 Q (F0 m 15 ls [])) (S : St) (x1 : Int32) (x2 : Int32), f_X2_findBest_92 k_15 S x1 x2 = some S1 → ∀ (H : Heap) (locs : List Loc) (ls : Array Slot), Iv D (xw cI cC cS ad) S A s H locs → lv_has ls 3 [(0, .ref (ad 6)), (1, .int x1), (2, .int x2)] → W p l e ({ frames := 18, cells := 0, slots := 0, locals := 441 } : Room) s m args below meth c H locs 0 0 Q (F0 m 92 ls []) := by
    intro k_15 hk_15 S x1 x2 h H locs ls I hl
    unfold f_X2_findBest_92 at h
    obtain ⟨v1, ev1⟩ : ∃ y : Int32, y = x2 + 1 := ⟨_, rfl⟩
    have h := bnd_at ev1 h
    refine lv_iinc (v := v1) (lv' := [(2, .int v1), (0, .ref (ad 6)), (1, .int x1)]) hx hb dX2_findBest_92 hl (k := 2) rfl (by rw [ev1]; rfl) (by decide) rfl (fun ls hl => ?_)
    clear ev1
    refine lv_goto (tgt := 15) hx hb dX2_findBest_95 (by decide) ?_
    exact hk_15 _ _ _ h _ _ _ I (lv_sub hl [1, 2, 0] rfl)
  have J_65 : ∀ (k_15 : St → Int32 → Int32 → Option St) (hk_15 : ∀ (S : St) (x1 : Int32) (x2 : Int32), k_15 S x1 x2 = some S1 → ∀ (H : Heap) (locs : List Loc) (ls : Array Slot), Iv D (xw cI cC cS ad) S A s H locs → lv_has ls 3 [(0, .ref (ad 6)), (1, .int x1), (2, .int x2)] → W p l e ({ frames := 18, cells := 0, slots := 0, locals := 441 } : Room) s m args below meth c H locs 0 0 Q (F0 m 15 ls [])) (S : St) (x1 : Int32) (x2 : Int32), f_X2_findBest_65 k_15 S x1 x2 = some S1 → ∀ (H : Heap) (locs : List Loc) (ls : Array Slot), Iv D (xw cI cC cS ad) S A s H locs → lv_has ls 3 [(0, .ref (ad 6)), (1, .int x1), (2, .int x2)] → W p l e ({ frames := 18, cells := 0, slots := 0, locals := 441 } : Room) s m args below meth c H locs 0 0 Q (F0 m 65 ls []) := by
    intro k_15 hk_15 S x1 x2 h H locs ls I hl
    unfold f_X2_findBest_65 at h
    refine lv_aload_n hx hb dX2_findBest_65 rfl (lv_at hl 0 rfl) ?_
    refine lv_iload_n hx hb dX2_findBest_66 rfl (lv_at hl 2 rfl) ?_
    refine px_6_3 C hK I fl_X2_23 dX2_findBest_67 (fun S2 eS2 H locs I => ?_)
    have h := bnd_at eS2 h
    clear eS2
    refine lv_aload_n hx hb dX2_findBest_70 rfl (lv_at hl 0 rfl) ?_
    refine lv_aload_n hx hb dX2_findBest_71 rfl (lv_at hl 0 rfl) ?_
    refine gx_6_2 C hK I fl_X2_19 dX2_findBest_72 ?_
    obtain ⟨r3, S3, e3, h⟩ := obd2_ex h
    refine k_V (As := []) (rest := [.ref (ad 6)]) (st1 := [.long r3, .ref (ad 6)]) C kx hK I hA (c_X9_sum e3) ⟨Nat.le_of_ble_eq_true rfl, Nat.le_of_ble_eq_true rfl⟩ mv_X9_sum lk_X2_56 5 9 (xw_5 (cI := cI) (ad := ad) (cC := cC) (cS := cS)) rfl rfl hl.1 rfl (Nat.le_of_ble_eq_true rfl) dX2_findBest_75 rfl (fun H locs I => ?_)
    refine px_6_5 C hK I fl_X2_60 dX2_findBest_78 (fun S4 eS4 H locs I => ?_)
    have h := bnd_at eS4 h
    clear eS4
    refine lv_aload_n hx hb dX2_findBest_81 rfl (lv_at hl 0 rfl) ?_
    refine lv_aload_n hx hb dX2_findBest_82 rfl (lv_at hl 0 rfl) ?_
    refine gx_6_2 C hK I fl_X2_19 dX2_findBest_83 ?_
    obtain ⟨r5, S5, e5, h⟩ := obd2_ex h
    refine k_V (As := []) (rest := [.ref (ad 6)]) (st1 := [.long r5, .ref (ad 6)]) C kx hK I hA (c_X9_scale e5) ⟨Nat.le_of_ble_eq_true rfl, Nat.le_of_ble_eq_true rfl⟩ mv_X9_scale lk_X2_62 5 9 (xw_5 (cI := cI) (ad := ad) (cC := cC) (cS := cS)) rfl rfl hl.1 rfl (Nat.le_of_ble_eq_true rfl) dX2_findBest_86 rfl (fun H locs I => ?_)
    refine px_6_6 C hK I fl_X2_30 dX2_findBest_89 (fun S6 eS6 H locs I => ?_)
    have h := bnd_at eS6 h
    clear eS6
    exact J_92 k_15 hk_15 _ _ _ h _ _ _ I (lv_sub hl [0, 1, 2] rfl)
  have B_15 : ∀ (k_15 : St → Int32 → Int32 → Option St) (hk_15 : ∀ (S : St) (x1 : Int32) (x2 : Int32), k_15 S x1 x2 = some S1 → ∀ (H : Heap) (locs : List Loc) (ls : Array Slot), Iv D (xw cI cC cS ad) S A s H locs → lv_has ls 3 [(0, .ref (ad 6)), (1, .int x1), (2, .int x2)] → W p l e ({ frames := 18, cells := 0, slots := 0, locals := 441 } : Room) s m args below meth c H locs 0 0 Q (F0 m 15 ls [])) (S : St) (x1 : Int32) (x2 : Int32), f_X2_findBest_15 k_15 S x1 x2 = some S1 → ∀ (H : Heap) (locs : List Loc) (ls : Array Slot), Iv D (xw cI cC cS ad) S A s H locs → lv_has ls 3 [(0, .ref (ad 6)), (1, .int x1), (2, .int x2)] → W p l e ({ frames := 18, cells := 0, slots := 0, locals := 441 } : Room) s m args below meth c H locs 0 0 Q (F0 m 15 ls []) := by
    intro k_15 hk_15 S x1 x2 h H locs ls I hl
    unfold f_X2_findBest_15 at h
    refine lv_iload_n hx hb dX2_findBest_15 rfl (lv_at hl 2 rfl) ?_
    refine lv_sipush (v := 256) hx hb dX2_findBest_16 (by decide) ?_
    refine lv_icmp_ge (tgt := 98) hx hb dX2_findBest_19 (by decide) (fun c7 => ?_) (fun c7 => ?_)
    · have h := ite_t c7 h
      exact rt_v hq h I dX2_findBest_98
    · have h := ite_n c7 h
      refine lv_aload_n hx hb dX2_findBest_22 rfl (lv_at hl 0 rfl) ?_
      refine lv_iload_n hx hb dX2_findBest_23 rfl (lv_at hl 2 rfl) ?_
      refine lv_iload_n hx hb dX2_findBest_24 rfl (lv_at hl 1 rfl) ?_
      obtain ⟨r8, S8, e8, h⟩ := obd2_ex h
      refine k_V (As := [.int x2, .int x1]) (rest := []) (st1 := [.int r8]) C kx hK I hA (c_X2_isWorthATry e8) ⟨Nat.le_of_ble_eq_true rfl, Nat.le_of_ble_eq_true rfl⟩ mv_X2_isWorthATry lk_X2_46 6 2 (xw_6 (cI := cI) (ad := ad) (cC := cC) (cS := cS)) rfl rfl hl.1 rfl (Nat.le_of_ble_eq_true rfl) dX2_findBest_25 rfl (fun H locs I => ?_)
      refine lv_if_ne (tgt := 34) hx hb dX2_findBest_28 (by decide) (fun c9 => ?_) (fun c9 => ?_)
      · have h := ite_n c9 h
        refine lv_aload_n hx hb dX2_findBest_34 rfl (lv_at hl 0 rfl) ?_
        refine gx_6_2 C hK I fl_X2_19 dX2_findBest_35 ?_
        refine lv_iload_n hx hb dX2_findBest_38 rfl (lv_at hl 2 rfl) ?_
        obtain ⟨S10, e10, h⟩ := obd_ex h
        refine k_V (As := [.int x2]) (rest := []) (st1 := []) C kx hK I hA (c_X9_take e10) ⟨Nat.le_of_ble_eq_true rfl, Nat.le_of_ble_eq_true rfl⟩ mv_X9_take lk_X2_50 5 9 (xw_5 (cI := cI) (ad := ad) (cC := cC) (cS := cS)) rfl rfl hl.1 rfl (Nat.le_of_ble_eq_true rfl) dX2_findBest_39 rfl (fun H locs I => ?_)
        refine lv_aload_n hx hb dX2_findBest_42 rfl (lv_at hl 0 rfl) ?_
        refine gx_6_3 C hK I fl_X2_23 dX2_findBest_43 ?_
        refine lv_iconst (v := (-1)) hx hb dX2_findBest_46 (by decide) ?_
        refine lv_icmp_eq (tgt := 65) hx hb dX2_findBest_47 (by decide) (fun c11 => ?_) (fun c11 => ?_)
        · have h := ite_t c11 h
          exact J_65 k_15 hk_15 _ _ _ h _ _ _ I (lv_sub hl [0, 1, 2] rfl)
        · have h := ite_n c11 h
          refine lv_aload_n hx hb dX2_findBest_50 rfl (lv_at hl 0 rfl) ?_
          refine gx_6_2 C hK I fl_X2_19 dX2_findBest_51 ?_
          obtain ⟨r12, S12, e12, h⟩ := obd2_ex h
          refine k_V (As := []) (rest := []) (st1 := [.long r12]) C kx hK I hA (c_X9_sum e12) ⟨Nat.le_of_ble_eq_true rfl, Nat.le_of_ble_eq_true rfl⟩ mv_X9_sum lk_X2_56 5 9 (xw_5 (cI := cI) (ad := ad) (cC := cC) (cS := cS)) rfl rfl hl.1 rfl (Nat.le_of_ble_eq_true rfl) dX2_findBest_54 rfl (fun H locs I => ?_)
          refine lv_aload_n hx hb dX2_findBest_57 rfl (lv_at hl 0 rfl) ?_
          refine gx_6_5 C hK I fl_X2_60 dX2_findBest_58 ?_
          refine W.lcmp hx hb dX2_findBest_61 ?_
          refine lv_if_le (tgt := 92) hx hb dX2_findBest_62 (by decide) (fun c13 => ?_) (fun c13 => ?_)
          · have h := ite_t c13 h
            exact J_92 k_15 hk_15 _ _ _ h _ _ _ I (lv_sub hl [0, 1, 2] rfl)
          · have h := ite_n c13 h
            exact J_65 k_15 hk_15 _ _ _ h _ _ _ I (lv_sub hl [0, 1, 2] rfl)
      · have h := ite_t c9 h
        refine lv_goto (tgt := 92) hx hb dX2_findBest_31 (by decide) ?_
        exact J_92 k_15 hk_15 _ _ _ h _ _ _ I (lv_sub hl [0, 1, 2] rfl)
  have J_15 : ∀ (fu : Nat) (S : St) (x1 : Int32) (x2 : Int32), l_X2_findBest_15  fu S x1 x2 = some S1 → ∀ (H : Heap) (locs : List Loc) (ls : Array Slot), Iv D (xw cI cC cS ad) S A s H locs → lv_has ls 3 [(0, .ref (ad 6)), (1, .int x1), (2, .int x2)] → W p l e ({ frames := 18, cells := 0, slots := 0, locals := 441 } : Room) s m args below meth c H locs 0 0 Q (F0 m 15 ls []) := by
    intro fu
    induction fu with
    | zero => intro S x1 x2 h; cases h
    | succ fu ih => intro S x1 x2 h; exact B_15 (l_X2_findBest_15 fu) ih S x1 x2 h
  unfold f_X2_findBest at h
  refine lv_aload_n hx hb dX2_findBest_0 rfl (lv_at hl 0 rfl) ?_
  refine gx_6_1 C hK I fl_X2_15 dX2_findBest_1 ?_
  obtain ⟨r14, S14, e14, h⟩ := obd2_ex h
  refine k_V (As := []) (rest := []) (st1 := [.int r14]) C kx hK I hA (c_X6_wanted e14) ⟨Nat.le_of_ble_eq_true rfl, Nat.le_of_ble_eq_true rfl⟩ mv_X6_wanted lk_X2_40 4 6 (xw_4 (cI := cI) (ad := ad) (cC := cC) (cS := cS)) rfl rfl hl.1 rfl (Nat.le_of_ble_eq_true rfl) dX2_findBest_4 rfl (fun H locs I => ?_)
  refine lv_istore_n (lv' := [(1, .int r14), (0, .ref (ad 6))]) hx hb dX2_findBest_7 rfl hl (by decide) rfl (fun ls hl => ?_)
  refine lv_aload_n hx hb dX2_findBest_8 rfl (lv_at hl 1 rfl) ?_
  refine lv_iconst (v := (-1)) hx hb dX2_findBest_9 (by decide) ?_
  refine px_6_3 C hK I fl_X2_23 dX2_findBest_10 (fun S15 eS15 H locs I => ?_)
  have h := bnd_at eS15 h
  clear eS15
  refine lv_iconst (v := 0) hx hb dX2_findBest_13 (by decide) ?_
  refine lv_istore_n (lv' := [(2, .int 0), (1, .int r14), (0, .ref (ad 6))]) hx hb dX2_findBest_14 rfl hl (by decide) rfl (fun ls hl => ?_)
  exact J_15 _ _ _ _ h _ _ _ I (lv_sub hl [2, 1, 0] rfl)
theorem lk_X2_68 : Cond.methodLink RX2 68 yX9_allDone ∈ TT := tt_of 888 (by decide +kernel) rfl
theorem mv_X9_allDone : MV yX9_allDone cX9_allDone 1 (some .long) 0 := ⟨tt_of 838 (by decide +kernel) rfl, tt_of 836 (by decide +kernel) rfl, tt_of 837 (by decide +kernel) rfl, tt_of 72 (by decide +kernel) rfl, ⟨by decide +kernel, by decide +kernel, by decide +kernel⟩⟩
theorem lk_X2_64 : Cond.methodLink RX2 64 yX4_weightOf ∈ TT := tt_of 887 (by decide +kernel) rfl
theorem dX2_findSure_0 : decode cX2_findSure 0 = .ok (.aload_n 0, 1) := by decide +kernel
theorem dX2_findSure_1 : decode cX2_findSure 1 = .ok (.getfield 15, 3) := by decide +kernel
theorem dX2_findSure_4 : decode cX2_findSure 4 = .ok (.invokevirtual 40, 3) := by decide +kernel
theorem dX2_findSure_7 : decode cX2_findSure 7 = .ok (.istore_n 3, 1) := by decide +kernel
theorem dX2_findSure_8 : decode cX2_findSure 8 = .ok (.iconst (-1), 1) := by decide +kernel
theorem dX2_findSure_9 : decode cX2_findSure 9 = .ok (.istore 4, 2) := by decide +kernel
theorem dX2_findSure_11 : decode cX2_findSure 11 = .ok (.iconst 0, 1) := by decide +kernel
theorem dX2_findSure_12 : decode cX2_findSure 12 = .ok (.istore 5, 2) := by decide +kernel
theorem dX2_findSure_14 : decode cX2_findSure 14 = .ok (.iload 5, 2) := by decide +kernel
theorem dX2_findSure_16 : decode cX2_findSure 16 = .ok (.sipush 256, 3) := by decide +kernel
theorem dX2_findSure_19 : decode cX2_findSure 19 = .ok (.if_icmp .ge 89, 3) := by decide +kernel
theorem dX2_findSure_22 : decode cX2_findSure 22 = .ok (.aload_n 0, 1) := by decide +kernel
theorem dX2_findSure_23 : decode cX2_findSure 23 = .ok (.iload 5, 2) := by decide +kernel
theorem dX2_findSure_25 : decode cX2_findSure 25 = .ok (.iload_n 3, 1) := by decide +kernel
theorem dX2_findSure_26 : decode cX2_findSure 26 = .ok (.invokevirtual 46, 3) := by decide +kernel
theorem dX2_findSure_29 : decode cX2_findSure 29 = .ok (.ifCond .ne 6, 3) := by decide +kernel
theorem dX2_findSure_32 : decode cX2_findSure 32 = .ok (.goto 70, 3) := by decide +kernel
theorem dX2_findSure_35 : decode cX2_findSure 35 = .ok (.iload 4, 2) := by decide +kernel
theorem dX2_findSure_37 : decode cX2_findSure 37 = .ok (.iconst (-1), 1) := by decide +kernel
theorem dX2_findSure_38 : decode cX2_findSure 38 = .ok (.if_icmp .eq 27, 3) := by decide +kernel
theorem dX2_findSure_41 : decode cX2_findSure 41 = .ok (.aload_n 0, 1) := by decide +kernel
theorem dX2_findSure_42 : decode cX2_findSure 42 = .ok (.getfield 9, 3) := by decide +kernel
theorem dX2_findSure_45 : decode cX2_findSure 45 = .ok (.iload 5, 2) := by decide +kernel
theorem dX2_findSure_47 : decode cX2_findSure 47 = .ok (.invokevirtual 64, 3) := by decide +kernel
theorem dX2_findSure_50 : decode cX2_findSure 50 = .ok (.aload_n 0, 1) := by decide +kernel
theorem dX2_findSure_51 : decode cX2_findSure 51 = .ok (.getfield 9, 3) := by decide +kernel
theorem dX2_findSure_54 : decode cX2_findSure 54 = .ok (.iload 4, 2) := by decide +kernel
theorem dX2_findSure_56 : decode cX2_findSure 56 = .ok (.invokevirtual 64, 3) := by decide +kernel
theorem dX2_findSure_59 : decode cX2_findSure 59 = .ok (.if_icmp .lt 6, 3) := by decide +kernel
theorem dX2_findSure_62 : decode cX2_findSure 62 = .ok (.goto 40, 3) := by decide +kernel
theorem dX2_findSure_65 : decode cX2_findSure 65 = .ok (.aload_n 0, 1) := by decide +kernel
theorem dX2_findSure_66 : decode cX2_findSure 66 = .ok (.getfield 19, 3) := by decide +kernel
theorem dX2_findSure_69 : decode cX2_findSure 69 = .ok (.iload 5, 2) := by decide +kernel
theorem dX2_findSure_71 : decode cX2_findSure 71 = .ok (.invokevirtual 50, 3) := by decide +kernel
theorem dX2_findSure_74 : decode cX2_findSure 74 = .ok (.aload_n 0, 1) := by decide +kernel
theorem dX2_findSure_75 : decode cX2_findSure 75 = .ok (.getfield 19, 3) := by decide +kernel
theorem dX2_findSure_78 : decode cX2_findSure 78 = .ok (.invokevirtual 68, 3) := by decide +kernel
theorem dX2_findSure_81 : decode cX2_findSure 81 = .ok (.iload_n 2, 1) := by decide +kernel
theorem dX2_findSure_82 : decode cX2_findSure 82 = .ok (.i2l, 1) := by decide +kernel
theorem dX2_findSure_83 : decode cX2_findSure 83 = .ok (.lmul, 1) := by decide +kernel
theorem dX2_findSure_84 : decode cX2_findSure 84 = .ok (.aload_n 0, 1) := by decide +kernel
theorem dX2_findSure_85 : decode cX2_findSure 85 = .ok (.getfield 19, 3) := by decide +kernel
theorem dX2_findSure_88 : decode cX2_findSure 88 = .ok (.invokevirtual 62, 3) := by decide +kernel
theorem dX2_findSure_91 : decode cX2_findSure 91 = .ok (.iload_n 1, 1) := by decide +kernel
theorem dX2_findSure_92 : decode cX2_findSure 92 = .ok (.i2l, 1) := by decide +kernel
theorem dX2_findSure_93 : decode cX2_findSure 93 = .ok (.lmul, 1) := by decide +kernel
theorem dX2_findSure_94 : decode cX2_findSure 94 = .ok (.lcmp, 1) := by decide +kernel
theorem dX2_findSure_95 : decode cX2_findSure 95 = .ok (.ifCond .lt 7, 3) := by decide +kernel
theorem dX2_findSure_98 : decode cX2_findSure 98 = .ok (.iload 5, 2) := by decide +kernel
theorem dX2_findSure_100 : decode cX2_findSure 100 = .ok (.istore 4, 2) := by decide +kernel
theorem dX2_findSure_102 : decode cX2_findSure 102 = .ok (.iinc 5 1, 3) := by decide +kernel
theorem dX2_findSure_105 : decode cX2_findSure 105 = .ok (.goto (-91), 3) := by decide +kernel
theorem dX2_findSure_108 : decode cX2_findSure 108 = .ok (.iload 4, 2) := by decide +kernel
theorem dX2_findSure_110 : decode cX2_findSure 110 = .ok (.ireturn, 1) := by decide +kernel
def f_X2_findSure_102 (k_14 : St → Int32 → Int32 → Int32 → Int32 → Int32 → Option (Int32 × St)) (S : St) (x1 : Int32) (x2 : Int32) (x3 : Int32) (x4 : Int32) (x5 : Int32) : Option (Int32 × St) :=
  bnd (x5 + 1 : Int32) fun v1 =>
  k_14 S x1 x2 x3 x4 v1
def f_X2_findSure_65 (k_14 : St → Int32 → Int32 → Int32 → Int32 → Int32 → Option (Int32 × St)) (S : St) (x1 : Int32) (x2 : Int32) (x3 : Int32) (x4 : Int32) (x5 : Int32) : Option (Int32 × St) :=
  obd (f_X9_take S x5) fun S2 =>
  obd2 (f_X9_allDone S2 ) fun r3 S3 =>
  obd2 (f_X9_scale S3 ) fun r4 S4 =>
  if (lg_cmp (r3 * (x2.toInt64)) (r4 * (x1.toInt64))) < 0 then (
    f_X2_findSure_102 k_14 S4 x1 x2 x3 x4 x5
  ) else (
    f_X2_findSure_102 k_14 S4 x1 x2 x3 x5 x5
  )
def f_X2_findSure_14 (k_14 : St → Int32 → Int32 → Int32 → Int32 → Int32 → Option (Int32 × St)) (S : St) (x1 : Int32) (x2 : Int32) (x3 : Int32) (x4 : Int32) (x5 : Int32) : Option (Int32 × St) :=
  if 256 ≤ x5 then (
    some (x4, S)
  ) else (
    obd2 (f_X2_isWorthATry S x5 x3) fun r7 S7 =>
    if r7 = 0 then (
      f_X2_findSure_102 k_14 S7 x1 x2 x3 x4 x5
    ) else (
      if x4 = (-1) then (
        f_X2_findSure_65 k_14 S7 x1 x2 x3 x4 x5
      ) else (
        obd2 (f_X4_weightOf S7 x5) fun r10 S10 =>
        obd2 (f_X4_weightOf S10 x4) fun r11 S11 =>
        if r10 < r11 then (
          f_X2_findSure_65 k_14 S11 x1 x2 x3 x4 x5
        ) else (
          f_X2_findSure_102 k_14 S11 x1 x2 x3 x4 x5
        )
      )
    )
  )
def l_X2_findSure_14 : Nat → St → Int32 → Int32 → Int32 → Int32 → Int32 → Option (Int32 × St)
  | 0, _, _, _, _, _, _ => none
  | fu + 1, S, x1, x2, x3, x4, x5 => f_X2_findSure_14 (l_X2_findSure_14 fu) S x1 x2 x3 x4 x5
def f_X2_findSure (S : St) (x1 : Int32) (x2 : Int32) : Option (Int32 × St) :=
  obd2 (f_X6_wanted S ) fun r13 S13 =>
  l_X2_findSure_14 FU S13 x1 x2 r13 (-1) 0
set_option maxHeartbeats 4000000 in
set_option maxRecDepth 100000 in
theorem c_X2_findSure {l : Launch} {D : va_G} {cI cC cS : ClassId} {ad adK adV : Nat → Nat} {S S1 : St} {x1 : Int32} {x2 : Int32} {r : Int32} (h : f_X2_findSure S x1 x2 = some (r, S1)) : Kt l D (xw cI cC cS ad) (KX D (xtys cI cC cS) adK adV) yX2_findSure cX2_findSure 6 (some .int) (18) (441) [.ref (ad 6), .int x1, .int x2] S (some (.int r)) S1 := by
  refine k_ent (ins := .ireturn) (st := [.int r]) (by decide +kernel) (Nat.le_of_ble_eq_true rfl) ret_i ?_
  intro p e s m args below meth c A Q C hK I hA hq ls hl
  have C : CallFix p m c cX2_findSure 6 s args TT RX2 := C
  have hx := C.1
  have hb := C.2.1
  have kx := kx_ok D (xtys cI cC cS) adK adV
  have hl : lv_has ls 6 [(0, .ref (ad 6)), (1, .int x1), (2, .int x2)] := hl
  have J_102 : ∀ (k_14 : St → Int32 → Int32 → Int32 → Int32 → Int32 → Option (Int32 × St)) (hk_14 : ∀ (S : St) (x1 : Int32) (x2 : Int32) (x3 : Int32) (x4 : Int32) (x5 : Int32), k_14 S x1 x2 x3 x4 x5 = some (r, S1) → ∀ (H : Heap) (locs : List Loc) (ls : Array Slot), Iv D (xw cI cC cS ad) S A s H locs → lv_has ls 6 [(0, .ref (ad 6)), (1, .int x1), (2, .int x2), (3, .int x3), (4, .int x4), (5, .int x5)] → W p l e ({ frames := 18, cells := 0, slots := 0, locals := 441 } : Room) s m args below meth c H locs 0 0 Q (F0 m 14 ls [])) (S : St) (x1 : Int32) (x2 : Int32) (x3 : Int32) (x4 : Int32) (x5 : Int32), f_X2_findSure_102 k_14 S x1 x2 x3 x4 x5 = some (r, S1) → ∀ (H : Heap) (locs : List Loc) (ls : Array Slot), Iv D (xw cI cC cS ad) S A s H locs → lv_has ls 6 [(0, .ref (ad 6)), (1, .int x1), (2, .int x2), (3, .int x3), (4, .int x4), (5, .int x5)] → W p l e ({ frames := 18, cells := 0, slots := 0, locals := 441 } : Room) s m args below meth c H locs 0 0 Q (F0 m 102 ls []) := by
    intro k_14 hk_14 S x1 x2 x3 x4 x5 h H locs ls I hl
    unfold f_X2_findSure_102 at h
    obtain ⟨v1, ev1⟩ : ∃ y : Int32, y = x5 + 1 := ⟨_, rfl⟩
    have h := bnd_at ev1 h
    refine lv_iinc (v := v1) (lv' := [(5, .int v1), (0, .ref (ad 6)), (1, .int x1), (2, .int x2), (3, .int x3), (4, .int x4)]) hx hb dX2_findSure_102 hl (k := 5) rfl (by rw [ev1]; rfl) (by decide) rfl (fun ls hl => ?_)
    clear ev1
    refine lv_goto (tgt := 14) hx hb dX2_findSure_105 (by decide) ?_
    exact hk_14 _ _ _ _ _ _ h _ _ _ I (lv_sub hl [1, 2, 3, 4, 5, 0] rfl)
  have J_65 : ∀ (k_14 : St → Int32 → Int32 → Int32 → Int32 → Int32 → Option (Int32 × St)) (hk_14 : ∀ (S : St) (x1 : Int32) (x2 : Int32) (x3 : Int32) (x4 : Int32) (x5 : Int32), k_14 S x1 x2 x3 x4 x5 = some (r, S1) → ∀ (H : Heap) (locs : List Loc) (ls : Array Slot), Iv D (xw cI cC cS ad) S A s H locs → lv_has ls 6 [(0, .ref (ad 6)), (1, .int x1), (2, .int x2), (3, .int x3), (4, .int x4), (5, .int x5)] → W p l e ({ frames := 18, cells := 0, slots := 0, locals := 441 } : Room) s m args below meth c H locs 0 0 Q (F0 m 14 ls [])) (S : St) (x1 : Int32) (x2 : Int32) (x3 : Int32) (x4 : Int32) (x5 : Int32), f_X2_findSure_65 k_14 S x1 x2 x3 x4 x5 = some (r, S1) → ∀ (H : Heap) (locs : List Loc) (ls : Array Slot), Iv D (xw cI cC cS ad) S A s H locs → lv_has ls 6 [(0, .ref (ad 6)), (1, .int x1), (2, .int x2), (3, .int x3), (4, .int x4), (5, .int x5)] → W p l e ({ frames := 18, cells := 0, slots := 0, locals := 441 } : Room) s m args below meth c H locs 0 0 Q (F0 m 65 ls []) := by
    intro k_14 hk_14 S x1 x2 x3 x4 x5 h H locs ls I hl
    unfold f_X2_findSure_65 at h
    refine lv_aload_n hx hb dX2_findSure_65 rfl (lv_at hl 0 rfl) ?_
    refine gx_6_2 C hK I fl_X2_19 dX2_findSure_66 ?_
    refine lv_iload hx hb dX2_findSure_69 (lv_at hl 5 rfl) ?_
    obtain ⟨S2, e2, h⟩ := obd_ex h
    refine k_V (As := [.int x5]) (rest := []) (st1 := []) C kx hK I hA (c_X9_take e2) ⟨Nat.le_of_ble_eq_true rfl, Nat.le_of_ble_eq_true rfl⟩ mv_X9_take lk_X2_50 5 9 (xw_5 (cI := cI) (ad := ad) (cC := cC) (cS := cS)) rfl rfl hl.1 rfl (Nat.le_of_ble_eq_true rfl) dX2_findSure_71 rfl (fun H locs I => ?_)
    refine lv_aload_n hx hb dX2_findSure_74 rfl (lv_at hl 0 rfl) ?_
    refine gx_6_2 C hK I fl_X2_19 dX2_findSure_75 ?_
    obtain ⟨r3, S3, e3, h⟩ := obd2_ex h
    refine k_V (As := []) (rest := []) (st1 := [.long r3]) C kx hK I hA (c_X9_allDone e3) ⟨Nat.le_of_ble_eq_true rfl, Nat.le_of_ble_eq_true rfl⟩ mv_X9_allDone lk_X2_68 5 9 (xw_5 (cI := cI) (ad := ad) (cC := cC) (cS := cS)) rfl rfl hl.1 rfl (Nat.le_of_ble_eq_true rfl) dX2_findSure_78 rfl (fun H locs I => ?_)
    refine lv_iload_n hx hb dX2_findSure_81 rfl (lv_at hl 2 rfl) ?_
    refine lv_i2l hx hb dX2_findSure_82 rfl ?_
    refine lv_lmul hx hb dX2_findSure_83 ?_
    refine lv_aload_n hx hb dX2_findSure_84 rfl (lv_at hl 0 rfl) ?_
    refine gx_6_2 C hK I fl_X2_19 dX2_findSure_85 ?_
    obtain ⟨r4, S4, e4, h⟩ := obd2_ex h
    refine k_V (As := []) (rest := [.long (r3 * (x2.toInt64))]) (st1 := [.long r4, .long (r3 * (x2.toInt64))]) C kx hK I hA (c_X9_scale e4) ⟨Nat.le_of_ble_eq_true rfl, Nat.le_of_ble_eq_true rfl⟩ mv_X9_scale lk_X2_62 5 9 (xw_5 (cI := cI) (ad := ad) (cC := cC) (cS := cS)) rfl rfl hl.1 rfl (Nat.le_of_ble_eq_true rfl) dX2_findSure_88 rfl (fun H locs I => ?_)
    refine lv_iload_n hx hb dX2_findSure_91 rfl (lv_at hl 1 rfl) ?_
    refine lv_i2l hx hb dX2_findSure_92 rfl ?_
    refine lv_lmul hx hb dX2_findSure_93 ?_
    refine W.lcmp hx hb dX2_findSure_94 ?_
    refine lv_if_lt (tgt := 102) hx hb dX2_findSure_95 (by decide) (fun c5 => ?_) (fun c5 => ?_)
    · have h := ite_t c5 h
      exact J_102 k_14 hk_14 _ _ _ _ _ _ h _ _ _ I (lv_sub hl [0, 1, 2, 3, 4, 5] rfl)
    · have h := ite_n c5 h
      refine lv_iload hx hb dX2_findSure_98 (lv_at hl 5 rfl) ?_
      refine lv_istore (lv' := [(4, .int x5), (0, .ref (ad 6)), (1, .int x1), (2, .int x2), (3, .int x3), (5, .int x5)]) hx hb dX2_findSure_100 hl (by decide) rfl (fun ls hl => ?_)
      exact J_102 k_14 hk_14 _ _ _ _ _ _ h _ _ _ I (lv_sub hl [1, 2, 3, 4, 0, 5] rfl)
  have B_14 : ∀ (k_14 : St → Int32 → Int32 → Int32 → Int32 → Int32 → Option (Int32 × St)) (hk_14 : ∀ (S : St) (x1 : Int32) (x2 : Int32) (x3 : Int32) (x4 : Int32) (x5 : Int32), k_14 S x1 x2 x3 x4 x5 = some (r, S1) → ∀ (H : Heap) (locs : List Loc) (ls : Array Slot), Iv D (xw cI cC cS ad) S A s H locs → lv_has ls 6 [(0, .ref (ad 6)), (1, .int x1), (2, .int x2), (3, .int x3), (4, .int x4), (5, .int x5)] → W p l e ({ frames := 18, cells := 0, slots := 0, locals := 441 } : Room) s m args below meth c H locs 0 0 Q (F0 m 14 ls [])) (S : St) (x1 : Int32) (x2 : Int32) (x3 : Int32) (x4 : Int32) (x5 : Int32), f_X2_findSure_14 k_14 S x1 x2 x3 x4 x5 = some (r, S1) → ∀ (H : Heap) (locs : List Loc) (ls : Array Slot), Iv D (xw cI cC cS ad) S A s H locs → lv_has ls 6 [(0, .ref (ad 6)), (1, .int x1), (2, .int x2), (3, .int x3), (4, .int x4), (5, .int x5)] → W p l e ({ frames := 18, cells := 0, slots := 0, locals := 441 } : Room) s m args below meth c H locs 0 0 Q (F0 m 14 ls []) := by
    intro k_14 hk_14 S x1 x2 x3 x4 x5 h H locs ls I hl
    unfold f_X2_findSure_14 at h
    refine lv_iload hx hb dX2_findSure_14 (lv_at hl 5 rfl) ?_
    refine lv_sipush (v := 256) hx hb dX2_findSure_16 (by decide) ?_
    refine lv_icmp_ge (tgt := 108) hx hb dX2_findSure_19 (by decide) (fun c6 => ?_) (fun c6 => ?_)
    · have h := ite_t c6 h
      refine lv_iload hx hb dX2_findSure_108 (lv_at hl 4 rfl) ?_
      exact rt_i hq h I dX2_findSure_110
    · have h := ite_n c6 h
      refine lv_aload_n hx hb dX2_findSure_22 rfl (lv_at hl 0 rfl) ?_
      refine lv_iload hx hb dX2_findSure_23 (lv_at hl 5 rfl) ?_
      refine lv_iload_n hx hb dX2_findSure_25 rfl (lv_at hl 3 rfl) ?_
      obtain ⟨r7, S7, e7, h⟩ := obd2_ex h
      refine k_V (As := [.int x5, .int x3]) (rest := []) (st1 := [.int r7]) C kx hK I hA (c_X2_isWorthATry e7) ⟨Nat.le_of_ble_eq_true rfl, Nat.le_of_ble_eq_true rfl⟩ mv_X2_isWorthATry lk_X2_46 6 2 (xw_6 (cI := cI) (ad := ad) (cC := cC) (cS := cS)) rfl rfl hl.1 rfl (Nat.le_of_ble_eq_true rfl) dX2_findSure_26 rfl (fun H locs I => ?_)
      refine lv_if_ne (tgt := 35) hx hb dX2_findSure_29 (by decide) (fun c8 => ?_) (fun c8 => ?_)
      · have h := ite_n c8 h
        refine lv_iload hx hb dX2_findSure_35 (lv_at hl 4 rfl) ?_
        refine lv_iconst (v := (-1)) hx hb dX2_findSure_37 (by decide) ?_
        refine lv_icmp_eq (tgt := 65) hx hb dX2_findSure_38 (by decide) (fun c9 => ?_) (fun c9 => ?_)
        · have h := ite_t c9 h
          exact J_65 k_14 hk_14 _ _ _ _ _ _ h _ _ _ I (lv_sub hl [0, 1, 2, 3, 4, 5] rfl)
        · have h := ite_n c9 h
          refine lv_aload_n hx hb dX2_findSure_41 rfl (lv_at hl 0 rfl) ?_
          refine gx_6_0 C hK I fl_X2_9 dX2_findSure_42 ?_
          refine lv_iload hx hb dX2_findSure_45 (lv_at hl 5 rfl) ?_
          obtain ⟨r10, S10, e10, h⟩ := obd2_ex h
          refine k_V (As := [.int x5]) (rest := []) (st1 := [.int r10]) C kx hK I hA (c_X4_weightOf e10) ⟨Nat.le_of_ble_eq_true rfl, Nat.le_of_ble_eq_true rfl⟩ mv_X4_weightOf lk_X2_64 3 4 (xw_3 (cI := cI) (ad := ad) (cC := cC) (cS := cS)) rfl rfl hl.1 rfl (Nat.le_of_ble_eq_true rfl) dX2_findSure_47 rfl (fun H locs I => ?_)
          refine lv_aload_n hx hb dX2_findSure_50 rfl (lv_at hl 0 rfl) ?_
          refine gx_6_0 C hK I fl_X2_9 dX2_findSure_51 ?_
          refine lv_iload hx hb dX2_findSure_54 (lv_at hl 4 rfl) ?_
          obtain ⟨r11, S11, e11, h⟩ := obd2_ex h
          refine k_V (As := [.int x4]) (rest := [.int r10]) (st1 := [.int r11, .int r10]) C kx hK I hA (c_X4_weightOf e11) ⟨Nat.le_of_ble_eq_true rfl, Nat.le_of_ble_eq_true rfl⟩ mv_X4_weightOf lk_X2_64 3 4 (xw_3 (cI := cI) (ad := ad) (cC := cC) (cS := cS)) rfl rfl hl.1 rfl (Nat.le_of_ble_eq_true rfl) dX2_findSure_56 rfl (fun H locs I => ?_)
          refine lv_icmp_lt (tgt := 65) hx hb dX2_findSure_59 (by decide) (fun c12 => ?_) (fun c12 => ?_)
          · have h := ite_t c12 h
            exact J_65 k_14 hk_14 _ _ _ _ _ _ h _ _ _ I (lv_sub hl [0, 1, 2, 3, 4, 5] rfl)
          · have h := ite_n c12 h
            refine lv_goto (tgt := 102) hx hb dX2_findSure_62 (by decide) ?_
            exact J_102 k_14 hk_14 _ _ _ _ _ _ h _ _ _ I (lv_sub hl [0, 1, 2, 3, 4, 5] rfl)
      · have h := ite_t c8 h
        refine lv_goto (tgt := 102) hx hb dX2_findSure_32 (by decide) ?_
        exact J_102 k_14 hk_14 _ _ _ _ _ _ h _ _ _ I (lv_sub hl [0, 1, 2, 3, 4, 5] rfl)
  have J_14 : ∀ (fu : Nat) (S : St) (x1 : Int32) (x2 : Int32) (x3 : Int32) (x4 : Int32) (x5 : Int32), l_X2_findSure_14  fu S x1 x2 x3 x4 x5 = some (r, S1) → ∀ (H : Heap) (locs : List Loc) (ls : Array Slot), Iv D (xw cI cC cS ad) S A s H locs → lv_has ls 6 [(0, .ref (ad 6)), (1, .int x1), (2, .int x2), (3, .int x3), (4, .int x4), (5, .int x5)] → W p l e ({ frames := 18, cells := 0, slots := 0, locals := 441 } : Room) s m args below meth c H locs 0 0 Q (F0 m 14 ls []) := by
    intro fu
    induction fu with
    | zero => intro S x1 x2 x3 x4 x5 h; cases h
    | succ fu ih => intro S x1 x2 x3 x4 x5 h; exact B_14 (l_X2_findSure_14 fu) ih S x1 x2 x3 x4 x5 h
  unfold f_X2_findSure at h
  refine lv_aload_n hx hb dX2_findSure_0 rfl (lv_at hl 0 rfl) ?_
  refine gx_6_1 C hK I fl_X2_15 dX2_findSure_1 ?_
  obtain ⟨r13, S13, e13, h⟩ := obd2_ex h
  refine k_V (As := []) (rest := []) (st1 := [.int r13]) C kx hK I hA (c_X6_wanted e13) ⟨Nat.le_of_ble_eq_true rfl, Nat.le_of_ble_eq_true rfl⟩ mv_X6_wanted lk_X2_40 4 6 (xw_4 (cI := cI) (ad := ad) (cC := cC) (cS := cS)) rfl rfl hl.1 rfl (Nat.le_of_ble_eq_true rfl) dX2_findSure_4 rfl (fun H locs I => ?_)
  refine lv_istore_n (lv' := [(3, .int r13), (0, .ref (ad 6)), (1, .int x1), (2, .int x2)]) hx hb dX2_findSure_7 rfl hl (by decide) rfl (fun ls hl => ?_)
  refine lv_iconst (v := (-1)) hx hb dX2_findSure_8 (by decide) ?_
  refine lv_istore (lv' := [(4, .int (-1)), (3, .int r13), (0, .ref (ad 6)), (1, .int x1), (2, .int x2)]) hx hb dX2_findSure_9 hl (by decide) rfl (fun ls hl => ?_)
  refine lv_iconst (v := 0) hx hb dX2_findSure_11 (by decide) ?_
  refine lv_istore (lv' := [(5, .int 0), (4, .int (-1)), (3, .int r13), (0, .ref (ad 6)), (1, .int x1), (2, .int x2)]) hx hb dX2_findSure_12 hl (by decide) rfl (fun ls hl => ?_)
  exact J_14 _ _ _ _ _ _ _ h _ _ _ I (lv_sub hl [3, 4, 5, 2, 1, 0] rfl)
theorem lk_X2_96 : Cond.methodLink RX2 96 yX6_forget ∈ TT := tt_of 908 (by decide +kernel) rfl
theorem lk_X2_88 : Cond.methodLink RX2 88 yX2_findBest ∈ TT := tt_of 907 (by decide +kernel) rfl
theorem mv_X2_findBest : MV yX2_findBest cX2_findBest 3 none 0 := ⟨tt_of 854 (by decide +kernel) rfl, tt_of 852 (by decide +kernel) rfl, tt_of 853 (by decide +kernel) rfl, tt_of 73 (by decide +kernel) rfl, ⟨by decide +kernel, by decide +kernel, by decide +kernel⟩⟩
theorem lk_X2_80 : Cond.methodLink RX2 80 yX4_sortTold ∈ TT := tt_of 905 (by decide +kernel) rfl
theorem lk_X2_84 : Cond.methodLink RX2 84 yX6_assume ∈ TT := tt_of 906 (by decide +kernel) rfl
theorem fl_X2_91 : Cond.fieldLinkNest RX2 91 RX7 "likely" "I" "CarryUp" ∈ NN := nn_of 156 (by decide +kernel) rfl
theorem lk_X2_71 : Cond.methodLink RX2 71 yX4_callWithSorts ∈ TT := tt_of 903 (by decide +kernel) rfl
theorem lk_X2_75 : Cond.methodLink RX2 75 yX1_sorts ∈ TT := tt_of 904 (by decide +kernel) rfl
theorem dX2_gainByKnowing_0 : decode cX2_gainByKnowing 0 = .ok (.aload_n 0, 1) := by decide +kernel
theorem dX2_gainByKnowing_1 : decode cX2_gainByKnowing 1 = .ok (.getfield 9, 3) := by decide +kernel
theorem dX2_gainByKnowing_4 : decode cX2_gainByKnowing 4 = .ok (.iload_n 1, 1) := by decide +kernel
theorem dX2_gainByKnowing_5 : decode cX2_gainByKnowing 5 = .ok (.invokevirtual 71, 3) := by decide +kernel
theorem dX2_gainByKnowing_8 : decode cX2_gainByKnowing 8 = .ok (.astore_n 2, 1) := by decide +kernel
theorem dX2_gainByKnowing_9 : decode cX2_gainByKnowing 9 = .ok (.aload_n 2, 1) := by decide +kernel
theorem dX2_gainByKnowing_10 : decode cX2_gainByKnowing 10 = .ok (.ifnonnull 7, 3) := by decide +kernel
theorem dX2_gainByKnowing_13 : decode cX2_gainByKnowing 13 = .ok (.iconst 0, 1) := by decide +kernel
theorem dX2_gainByKnowing_14 : decode cX2_gainByKnowing 14 = .ok (.goto 7, 3) := by decide +kernel
theorem dX2_gainByKnowing_17 : decode cX2_gainByKnowing 17 = .ok (.aload_n 2, 1) := by decide +kernel
theorem dX2_gainByKnowing_18 : decode cX2_gainByKnowing 18 = .ok (.invokevirtual 75, 3) := by decide +kernel
theorem dX2_gainByKnowing_21 : decode cX2_gainByKnowing 21 = .ok (.istore_n 3, 1) := by decide +kernel
theorem dX2_gainByKnowing_22 : decode cX2_gainByKnowing 22 = .ok (.lconst 0, 1) := by decide +kernel
theorem dX2_gainByKnowing_23 : decode cX2_gainByKnowing 23 = .ok (.lstore 4, 2) := by decide +kernel
theorem dX2_gainByKnowing_25 : decode cX2_gainByKnowing 25 = .ok (.iconst 0, 1) := by decide +kernel
theorem dX2_gainByKnowing_26 : decode cX2_gainByKnowing 26 = .ok (.istore 6, 2) := by decide +kernel
theorem dX2_gainByKnowing_28 : decode cX2_gainByKnowing 28 = .ok (.iload 6, 2) := by decide +kernel
theorem dX2_gainByKnowing_30 : decode cX2_gainByKnowing 30 = .ok (.iload_n 3, 1) := by decide +kernel
theorem dX2_gainByKnowing_31 : decode cX2_gainByKnowing 31 = .ok (.if_icmp .ge 56, 3) := by decide +kernel
theorem dX2_gainByKnowing_34 : decode cX2_gainByKnowing 34 = .ok (.aload_n 0, 1) := by decide +kernel
theorem dX2_gainByKnowing_35 : decode cX2_gainByKnowing 35 = .ok (.getfield 9, 3) := by decide +kernel
theorem dX2_gainByKnowing_38 : decode cX2_gainByKnowing 38 = .ok (.iload_n 1, 1) := by decide +kernel
theorem dX2_gainByKnowing_39 : decode cX2_gainByKnowing 39 = .ok (.iload 6, 2) := by decide +kernel
theorem dX2_gainByKnowing_41 : decode cX2_gainByKnowing 41 = .ok (.invokevirtual 80, 3) := by decide +kernel
theorem dX2_gainByKnowing_44 : decode cX2_gainByKnowing 44 = .ok (.astore 7, 2) := by decide +kernel
theorem dX2_gainByKnowing_46 : decode cX2_gainByKnowing 46 = .ok (.aload_n 0, 1) := by decide +kernel
theorem dX2_gainByKnowing_47 : decode cX2_gainByKnowing 47 = .ok (.getfield 15, 3) := by decide +kernel
theorem dX2_gainByKnowing_50 : decode cX2_gainByKnowing 50 = .ok (.iload_n 1, 1) := by decide +kernel
theorem dX2_gainByKnowing_51 : decode cX2_gainByKnowing 51 = .ok (.iload 6, 2) := by decide +kernel
theorem dX2_gainByKnowing_53 : decode cX2_gainByKnowing 53 = .ok (.invokevirtual 84, 3) := by decide +kernel
theorem dX2_gainByKnowing_56 : decode cX2_gainByKnowing 56 = .ok (.aload_n 0, 1) := by decide +kernel
theorem dX2_gainByKnowing_57 : decode cX2_gainByKnowing 57 = .ok (.invokevirtual 88, 3) := by decide +kernel
theorem dX2_gainByKnowing_60 : decode cX2_gainByKnowing 60 = .ok (.aload 7, 2) := by decide +kernel
theorem dX2_gainByKnowing_62 : decode cX2_gainByKnowing 62 = .ok (.ifnull 19, 3) := by decide +kernel
theorem dX2_gainByKnowing_65 : decode cX2_gainByKnowing 65 = .ok (.lload 4, 2) := by decide +kernel
theorem dX2_gainByKnowing_67 : decode cX2_gainByKnowing 67 = .ok (.aload_n 0, 1) := by decide +kernel
theorem dX2_gainByKnowing_68 : decode cX2_gainByKnowing 68 = .ok (.getfield 60, 3) := by decide +kernel
theorem dX2_gainByKnowing_71 : decode cX2_gainByKnowing 71 = .ok (.aload 7, 2) := by decide +kernel
theorem dX2_gainByKnowing_73 : decode cX2_gainByKnowing 73 = .ok (.getfield 91, 3) := by decide +kernel
theorem dX2_gainByKnowing_76 : decode cX2_gainByKnowing 76 = .ok (.i2l, 1) := by decide +kernel
theorem dX2_gainByKnowing_77 : decode cX2_gainByKnowing 77 = .ok (.lmul, 1) := by decide +kernel
theorem dX2_gainByKnowing_78 : decode cX2_gainByKnowing 78 = .ok (.ladd, 1) := by decide +kernel
theorem dX2_gainByKnowing_79 : decode cX2_gainByKnowing 79 = .ok (.lstore 4, 2) := by decide +kernel
theorem dX2_gainByKnowing_81 : decode cX2_gainByKnowing 81 = .ok (.iinc 6 1, 3) := by decide +kernel
theorem dX2_gainByKnowing_84 : decode cX2_gainByKnowing 84 = .ok (.goto (-56), 3) := by decide +kernel
theorem dX2_gainByKnowing_87 : decode cX2_gainByKnowing 87 = .ok (.aload_n 0, 1) := by decide +kernel
theorem dX2_gainByKnowing_88 : decode cX2_gainByKnowing 88 = .ok (.getfield 15, 3) := by decide +kernel
theorem dX2_gainByKnowing_91 : decode cX2_gainByKnowing 91 = .ok (.invokevirtual 96, 3) := by decide +kernel
theorem dX2_gainByKnowing_94 : decode cX2_gainByKnowing 94 = .ok (.aload_n 0, 1) := by decide +kernel
theorem dX2_gainByKnowing_95 : decode cX2_gainByKnowing 95 = .ok (.invokevirtual 88, 3) := by decide +kernel
theorem dX2_gainByKnowing_98 : decode cX2_gainByKnowing 98 = .ok (.lload 4, 2) := by decide +kernel
theorem dX2_gainByKnowing_100 : decode cX2_gainByKnowing 100 = .ok (.aload_n 0, 1) := by decide +kernel
theorem dX2_gainByKnowing_101 : decode cX2_gainByKnowing 101 = .ok (.getfield 60, 3) := by decide +kernel
theorem dX2_gainByKnowing_104 : decode cX2_gainByKnowing 104 = .ok (.lsub, 1) := by decide +kernel
theorem dX2_gainByKnowing_105 : decode cX2_gainByKnowing 105 = .ok (.lreturn, 1) := by decide +kernel
def f_X2_gainByKnowing_81 (k_28 : St → Int32 → Int32 → Int64 → Int32 → Option (Int64 × St)) (S : St) (x1 : Int32) (x3 : Int32) (x4 : Int64) (x6 : Int32) : Option (Int64 × St) :=
  bnd (x6 + 1 : Int32) fun v1 =>
  k_28 S x1 x3 x4 v1
def f_X2_gainByKnowing_28 (k_28 : St → Int32 → Int32 → Int64 → Int32 → Option (Int64 × St)) (S : St) (x1 : Int32) (x3 : Int32) (x4 : Int64) (x6 : Int32) : Option (Int64 × St) :=
  if x3 ≤ x6 then (
    obd (f_X6_forget S ) fun S3 =>
    obd (f_X2_findBest S3 ) fun S4 =>
    some ((x4 - (S4.2.1 6 5)), S4)
  ) else (
    obd2 (f_X4_sortTold S x1 x6) fun r5 S5 =>
    obd (f_X6_assume S5 x1 x6) fun S6 =>
    obd (f_X2_findBest S6 ) fun S7 =>
    oel r5 (
      f_X2_gainByKnowing_81 k_28 S7 x1 x3 x4 x6
    ) fun v8 =>
      bnd ((x4 + ((S7.2.1 6 5) * (((S7.1 (33 + v8.val) 0) : Int32).toInt64))) : Int64) fun v9 =>
      f_X2_gainByKnowing_81 k_28 S7 x1 x3 v9 x6
  )
def l_X2_gainByKnowing_28 : Nat → St → Int32 → Int32 → Int64 → Int32 → Option (Int64 × St)
  | 0, _, _, _, _, _ => none
  | fu + 1, S, x1, x3, x4, x6 => f_X2_gainByKnowing_28 (l_X2_gainByKnowing_28 fu) S x1 x3 x4 x6
def f_X2_gainByKnowing_21 (S : St) (x1 : Int32) (t0 : Int32) : Option (Int64 × St) :=
  l_X2_gainByKnowing_28 FU S x1 t0 (0) 0
def f_X2_gainByKnowing (S : St) (x1 : Int32) : Option (Int64 × St) :=
  obd2 (f_X4_callWithSorts S x1) fun r10 S10 =>
  oel r10 (
    f_X2_gainByKnowing_21 S10 x1 0
  ) fun v11 =>
    obd2 (f_X1_sorts S10 v11) fun r12 S12 =>
    f_X2_gainByKnowing_21 S12 x1 r12
set_option maxHeartbeats 4000000 in
set_option maxRecDepth 100000 in
theorem c_X2_gainByKnowing {l : Launch} {D : va_G} {cI cC cS : ClassId} {ad adK adV : Nat → Nat} {S S1 : St} {x1 : Int32} {r : Int64} (h : f_X2_gainByKnowing S x1 = some (r, S1)) : Kt l D (xw cI cC cS ad) (KX D (xtys cI cC cS) adK adV) yX2_gainByKnowing cX2_gainByKnowing 8 (some .long) (19) (463) [.ref (ad 6), .int x1] S (some (.long r)) S1 := by
  refine k_ent (ins := .lreturn) (st := [.long r]) (by decide +kernel) (Nat.le_of_ble_eq_true rfl) ret_l ?_
  intro p e s m args below meth c A Q C hK I hA hq ls hl
  have C : CallFix p m c cX2_gainByKnowing 8 s args TT RX2 := C
  have hx := C.1
  have hb := C.2.1
  have kx := kx_ok D (xtys cI cC cS) adK adV
  have hl : lv_has ls 8 [(0, .ref (ad 6)), (1, .int x1)] := hl
  have J_81 : ∀ (k_28 : St → Int32 → Int32 → Int64 → Int32 → Option (Int64 × St)) (hk_28 : ∀ (S : St) (x1 : Int32) (x3 : Int32) (x4 : Int64) (x6 : Int32), k_28 S x1 x3 x4 x6 = some (r, S1) → ∀ (H : Heap) (locs : List Loc) (ls : Array Slot), Iv D (xw cI cC cS ad) S A s H locs → lv_has ls 8 [(0, .ref (ad 6)), (1, .int x1), (3, .int x3), (4, .long x4), (6, .int x6)] → W p l e ({ frames := 19, cells := 0, slots := 0, locals := 463 } : Room) s m args below meth c H locs 0 0 Q (F0 m 28 ls [])) (S : St) (x1 : Int32) (x3 : Int32) (x4 : Int64) (x6 : Int32), f_X2_gainByKnowing_81 k_28 S x1 x3 x4 x6 = some (r, S1) → ∀ (H : Heap) (locs : List Loc) (ls : Array Slot), Iv D (xw cI cC cS ad) S A s H locs → lv_has ls 8 [(0, .ref (ad 6)), (1, .int x1), (3, .int x3), (4, .long x4), (6, .int x6)] → W p l e ({ frames := 19, cells := 0, slots := 0, locals := 463 } : Room) s m args below meth c H locs 0 0 Q (F0 m 81 ls []) := by
    intro k_28 hk_28 S x1 x3 x4 x6 h H locs ls I hl
    unfold f_X2_gainByKnowing_81 at h
    obtain ⟨v1, ev1⟩ : ∃ y : Int32, y = x6 + 1 := ⟨_, rfl⟩
    have h := bnd_at ev1 h
    refine lv_iinc (v := v1) (lv' := [(6, .int v1), (0, .ref (ad 6)), (1, .int x1), (3, .int x3), (4, .long x4)]) hx hb dX2_gainByKnowing_81 hl (k := 4) rfl (by rw [ev1]; rfl) (by decide) rfl (fun ls hl => ?_)
    clear ev1
    refine lv_goto (tgt := 28) hx hb dX2_gainByKnowing_84 (by decide) ?_
    exact hk_28 _ _ _ _ _ h _ _ _ I (lv_sub hl [1, 2, 3, 4, 0] rfl)
  have B_28 : ∀ (k_28 : St → Int32 → Int32 → Int64 → Int32 → Option (Int64 × St)) (hk_28 : ∀ (S : St) (x1 : Int32) (x3 : Int32) (x4 : Int64) (x6 : Int32), k_28 S x1 x3 x4 x6 = some (r, S1) → ∀ (H : Heap) (locs : List Loc) (ls : Array Slot), Iv D (xw cI cC cS ad) S A s H locs → lv_has ls 8 [(0, .ref (ad 6)), (1, .int x1), (3, .int x3), (4, .long x4), (6, .int x6)] → W p l e ({ frames := 19, cells := 0, slots := 0, locals := 463 } : Room) s m args below meth c H locs 0 0 Q (F0 m 28 ls [])) (S : St) (x1 : Int32) (x3 : Int32) (x4 : Int64) (x6 : Int32), f_X2_gainByKnowing_28 k_28 S x1 x3 x4 x6 = some (r, S1) → ∀ (H : Heap) (locs : List Loc) (ls : Array Slot), Iv D (xw cI cC cS ad) S A s H locs → lv_has ls 8 [(0, .ref (ad 6)), (1, .int x1), (3, .int x3), (4, .long x4), (6, .int x6)] → W p l e ({ frames := 19, cells := 0, slots := 0, locals := 463 } : Room) s m args below meth c H locs 0 0 Q (F0 m 28 ls []) := by
    intro k_28 hk_28 S x1 x3 x4 x6 h H locs ls I hl
    unfold f_X2_gainByKnowing_28 at h
    refine lv_iload hx hb dX2_gainByKnowing_28 (lv_at hl 4 rfl) ?_
    refine lv_iload_n hx hb dX2_gainByKnowing_30 rfl (lv_at hl 2 rfl) ?_
    refine lv_icmp_ge (tgt := 87) hx hb dX2_gainByKnowing_31 (by decide) (fun c2 => ?_) (fun c2 => ?_)
    · have h := ite_t c2 h
      refine lv_aload_n hx hb dX2_gainByKnowing_87 rfl (lv_at hl 0 rfl) ?_
      refine gx_6_1 C hK I fl_X2_15 dX2_gainByKnowing_88 ?_
      obtain ⟨S3, e3, h⟩ := obd_ex h
      refine k_V (As := []) (rest := []) (st1 := []) C kx hK I hA (c_X6_forget e3) ⟨Nat.le_of_ble_eq_true rfl, Nat.le_of_ble_eq_true rfl⟩ mv_X6_forget lk_X2_96 4 6 (xw_4 (cI := cI) (ad := ad) (cC := cC) (cS := cS)) rfl rfl hl.1 rfl (Nat.le_of_ble_eq_true rfl) dX2_gainByKnowing_91 rfl (fun H locs I => ?_)
      refine lv_aload_n hx hb dX2_gainByKnowing_94 rfl (lv_at hl 0 rfl) ?_
      obtain ⟨S4, e4, h⟩ := obd_ex h
      refine k_V (As := []) (rest := []) (st1 := []) C kx hK I hA (c_X2_findBest e4) ⟨Nat.le_of_ble_eq_true rfl, Nat.le_of_ble_eq_true rfl⟩ mv_X2_findBest lk_X2_88 6 2 (xw_6 (cI := cI) (ad := ad) (cC := cC) (cS := cS)) rfl rfl hl.1 rfl (Nat.le_of_ble_eq_true rfl) dX2_gainByKnowing_95 rfl (fun H locs I => ?_)
      refine lv_lload hx hb dX2_gainByKnowing_98 (lv_at hl 3 rfl) ?_
      refine lv_aload_n hx hb dX2_gainByKnowing_100 rfl (lv_at hl 0 rfl) ?_
      refine gx_6_5 C hK I fl_X2_60 dX2_gainByKnowing_101 ?_
      refine lv_lsub hx hb dX2_gainByKnowing_104 ?_
      exact rt_l hq h I dX2_gainByKnowing_105
    · have h := ite_n c2 h
      refine lv_aload_n hx hb dX2_gainByKnowing_34 rfl (lv_at hl 0 rfl) ?_
      refine gx_6_0 C hK I fl_X2_9 dX2_gainByKnowing_35 ?_
      refine lv_iload_n hx hb dX2_gainByKnowing_38 rfl (lv_at hl 1 rfl) ?_
      refine lv_iload hx hb dX2_gainByKnowing_39 (lv_at hl 4 rfl) ?_
      obtain ⟨r5, S5, e5, h⟩ := obd2_ex h
      refine k_V (As := [.int x1, .int x6]) (rest := []) (st1 := [rS ad r5]) C kx hK I hA (c_X4_sortTold e5) ⟨Nat.le_of_ble_eq_true rfl, Nat.le_of_ble_eq_true rfl⟩ mv_X4_sortTold lk_X2_80 3 4 (xw_3 (cI := cI) (ad := ad) (cC := cC) (cS := cS)) rfl rfl hl.1 rfl (Nat.le_of_ble_eq_true rfl) dX2_gainByKnowing_41 rfl (fun H locs I => ?_)
      refine k_astore _ (lv' := [(7, rS ad r5), (0, .ref (ad 6)), (1, .int x1), (3, .int x3), (4, .long x4), (6, .int x6)]) hx hb dX2_gainByKnowing_44 rfl hl (by decide) rfl (fun ls hl => ?_)
      refine lv_aload_n hx hb dX2_gainByKnowing_46 rfl (lv_at hl 1 rfl) ?_
      refine gx_6_1 C hK I fl_X2_15 dX2_gainByKnowing_47 ?_
      refine lv_iload_n hx hb dX2_gainByKnowing_50 rfl (lv_at hl 2 rfl) ?_
      refine lv_iload hx hb dX2_gainByKnowing_51 (lv_at hl 5 rfl) ?_
      obtain ⟨S6, e6, h⟩ := obd_ex h
      refine k_V (As := [.int x1, .int x6]) (rest := []) (st1 := []) C kx hK I hA (c_X6_assume e6) ⟨Nat.le_of_ble_eq_true rfl, Nat.le_of_ble_eq_true rfl⟩ mv_X6_assume lk_X2_84 4 6 (xw_4 (cI := cI) (ad := ad) (cC := cC) (cS := cS)) rfl rfl hl.1 rfl (Nat.le_of_ble_eq_true rfl) dX2_gainByKnowing_53 rfl (fun H locs I => ?_)
      refine lv_aload_n hx hb dX2_gainByKnowing_56 rfl (lv_at hl 1 rfl) ?_
      obtain ⟨S7, e7, h⟩ := obd_ex h
      refine k_V (As := []) (rest := []) (st1 := []) C kx hK I hA (c_X2_findBest e7) ⟨Nat.le_of_ble_eq_true rfl, Nat.le_of_ble_eq_true rfl⟩ mv_X2_findBest lk_X2_88 6 2 (xw_6 (cI := cI) (ad := ad) (cC := cC) (cS := cS)) rfl rfl hl.1 rfl (Nat.le_of_ble_eq_true rfl) dX2_gainByKnowing_57 rfl (fun H locs I => ?_)
      refine k_aload _ hx hb dX2_gainByKnowing_60 rfl (lv_at hl 0 rfl) ?_
      refine k_ifn hx hb dX2_gainByKnowing_62 (tgt := 81) (by decide) (fun ho => ?_) (fun v8 ho => ?_)
      · subst ho
        have h := oel_n h
        have hl : lv_has ls 8 [(7, .null), (0, .ref (ad 6)), (1, .int x1), (3, .int x3), (4, .long x4), (6, .int x6)] := hl
        exact J_81 k_28 hk_28 _ _ _ _ _ h _ _ _ I (lv_sub hl [1, 2, 3, 4, 5] rfl)
      · subst ho
        have h := oel_s h
        have hl : lv_has ls 8 [(7, .ref (ad (33 + v8.val))), (0, .ref (ad 6)), (1, .int x1), (3, .int x3), (4, .long x4), (6, .int x6)] := hl
        refine lv_lload hx hb dX2_gainByKnowing_65 (lv_at hl 4 rfl) ?_
        refine lv_aload_n hx hb dX2_gainByKnowing_67 rfl (lv_at hl 1 rfl) ?_
        refine gx_6_5 C hK I fl_X2_60 dX2_gainByKnowing_68 ?_
        refine lv_aload hx hb dX2_gainByKnowing_71 (lv_at hl 0 rfl) ?_
        refine gxN_S_0 C hK I fl_X2_91 dX2_gainByKnowing_73 ?_
        refine lv_i2l hx hb dX2_gainByKnowing_76 rfl ?_
        refine lv_lmul hx hb dX2_gainByKnowing_77 ?_
        refine lv_ladd hx hb dX2_gainByKnowing_78 ?_
        refine lv_topl (fun v9 ev9 => ?_)
        have h := bnd_at ev9 h
        clear ev9
        refine lv_lstore (lv' := [(4, .long v9), (7, .ref (ad (33 + v8.val))), (0, .ref (ad 6)), (1, .int x1), (3, .int x3), (6, .int x6)]) hx hb dX2_gainByKnowing_79 hl (by decide) rfl (fun ls hl => ?_)
        exact J_81 k_28 hk_28 _ _ _ _ _ h _ _ _ I (lv_sub hl [2, 3, 4, 0, 5] rfl)
  have J_28 : ∀ (fu : Nat) (S : St) (x1 : Int32) (x3 : Int32) (x4 : Int64) (x6 : Int32), l_X2_gainByKnowing_28  fu S x1 x3 x4 x6 = some (r, S1) → ∀ (H : Heap) (locs : List Loc) (ls : Array Slot), Iv D (xw cI cC cS ad) S A s H locs → lv_has ls 8 [(0, .ref (ad 6)), (1, .int x1), (3, .int x3), (4, .long x4), (6, .int x6)] → W p l e ({ frames := 19, cells := 0, slots := 0, locals := 463 } : Room) s m args below meth c H locs 0 0 Q (F0 m 28 ls []) := by
    intro fu
    induction fu with
    | zero => intro S x1 x3 x4 x6 h; cases h
    | succ fu ih => intro S x1 x3 x4 x6 h; exact B_28 (l_X2_gainByKnowing_28 fu) ih S x1 x3 x4 x6 h
  have J_21 : ∀ (S : St) (x1 : Int32) (t0 : Int32), f_X2_gainByKnowing_21  S x1 t0 = some (r, S1) → ∀ (H : Heap) (locs : List Loc) (ls : Array Slot), Iv D (xw cI cC cS ad) S A s H locs → lv_has ls 8 [(0, .ref (ad 6)), (1, .int x1)] → W p l e ({ frames := 19, cells := 0, slots := 0, locals := 463 } : Room) s m args below meth c H locs 0 0 Q (F0 m 21 ls [.int t0]) := by
    intro  S x1 t0 h H locs ls I hl
    unfold f_X2_gainByKnowing_21 at h
    refine lv_istore_n (lv' := [(3, .int t0), (0, .ref (ad 6)), (1, .int x1)]) hx hb dX2_gainByKnowing_21 rfl hl (by decide) rfl (fun ls hl => ?_)
    refine lv_lconst (v := (0)) hx hb dX2_gainByKnowing_22 (by decide) ?_
    refine lv_lstore (lv' := [(4, .long (0)), (3, .int t0), (0, .ref (ad 6)), (1, .int x1)]) hx hb dX2_gainByKnowing_23 hl (by decide) rfl (fun ls hl => ?_)
    refine lv_iconst (v := 0) hx hb dX2_gainByKnowing_25 (by decide) ?_
    refine lv_istore (lv' := [(6, .int 0), (4, .long (0)), (3, .int t0), (0, .ref (ad 6)), (1, .int x1)]) hx hb dX2_gainByKnowing_26 hl (by decide) rfl (fun ls hl => ?_)
    exact J_28 _ _ _ _ _ _ h _ _ _ I (lv_sub hl [3, 4, 2, 1, 0] rfl)
  unfold f_X2_gainByKnowing at h
  refine lv_aload_n hx hb dX2_gainByKnowing_0 rfl (lv_at hl 0 rfl) ?_
  refine gx_6_0 C hK I fl_X2_9 dX2_gainByKnowing_1 ?_
  refine lv_iload_n hx hb dX2_gainByKnowing_4 rfl (lv_at hl 1 rfl) ?_
  obtain ⟨r10, S10, e10, h⟩ := obd2_ex h
  refine k_V (As := [.int x1]) (rest := []) (st1 := [rC ad r10]) C kx hK I hA (c_X4_callWithSorts e10) ⟨Nat.le_of_ble_eq_true rfl, Nat.le_of_ble_eq_true rfl⟩ mv_X4_callWithSorts lk_X2_71 3 4 (xw_3 (cI := cI) (ad := ad) (cC := cC) (cS := cS)) rfl rfl hl.1 rfl (Nat.le_of_ble_eq_true rfl) dX2_gainByKnowing_5 rfl (fun H locs I => ?_)
  refine k_astore_n _ (lv' := [(2, rC ad r10), (0, .ref (ad 6)), (1, .int x1)]) hx hb dX2_gainByKnowing_8 rfl rfl hl (by decide) rfl (fun ls hl => ?_)
  refine k_aload_n _ hx hb dX2_gainByKnowing_9 rfl rfl (lv_at hl 0 rfl) ?_
  refine k_ifnn hx hb dX2_gainByKnowing_10 (tgt := 17) (by decide) (fun v11 ho => ?_) (fun ho => ?_)
  · subst ho
    have h := oel_s h
    have hl : lv_has ls 8 [(2, .ref (ad (21 + v11.val))), (0, .ref (ad 6)), (1, .int x1)] := hl
    refine lv_aload_n hx hb dX2_gainByKnowing_17 rfl (lv_at hl 0 rfl) ?_
    obtain ⟨r12, S12, e12, h⟩ := obd2_ex h
    refine k_V (As := []) (rest := []) (st1 := [.int r12]) C kx hK I hA (c_X1_sorts e12) ⟨Nat.le_of_ble_eq_true rfl, Nat.le_of_ble_eq_true rfl⟩ mv_X1_sorts lk_X2_75 (21 + v11.val) 1 (xw_C (cI := cI) (cC := cC) (cS := cS) (ad := ad) v11) rfl rfl hl.1 rfl (Nat.le_of_ble_eq_true rfl) dX2_gainByKnowing_18 rfl (fun H locs I => ?_)
    exact J_21 _ _ _ h _ _ _ I (lv_sub hl [1, 2] rfl)
  · subst ho
    have h := oel_n h
    have hl : lv_has ls 8 [(2, .null), (0, .ref (ad 6)), (1, .int x1)] := hl
    refine lv_iconst (v := 0) hx hb dX2_gainByKnowing_13 (by decide) ?_
    refine lv_goto (tgt := 21) hx hb dX2_gainByKnowing_14 (by decide) ?_
    exact J_21 _ _ _ h _ _ _ I (lv_sub hl [1, 2] rfl)
theorem lk_X2_99 : Cond.methodLink RX2 99 yX2_rowOf ∈ TT := tt_of 921 (by decide +kernel) rfl
theorem ms_X2_rowOf : MS yX2_rowOf cX2_rowOf 5 (some .int) 2 := ⟨tt_of 923 (by decide +kernel) rfl, tt_of 922 (by decide +kernel) rfl, tt_of 73 (by decide +kernel) rfl, ⟨by decide +kernel, by decide +kernel, by decide +kernel⟩⟩
theorem lk_X2_103 : Cond.methodLink RX2 103 yX6_tell ∈ TT := tt_of 924 (by decide +kernel) rfl
theorem mv_X6_tell : MV yX6_tell cX6_tell 8 (some .int) 2 := ⟨tt_of 751 (by decide +kernel) rfl, tt_of 749 (by decide +kernel) rfl, tt_of 750 (by decide +kernel) rfl, tt_of 71 (by decide +kernel) rfl, ⟨by decide +kernel, by decide +kernel, by decide +kernel⟩⟩
theorem lk_X2_106 : Cond.methodLink RX2 106 yX6_hasTwice ∈ TT := tt_of 925 (by decide +kernel) rfl
theorem mv_X6_hasTwice : MV yX6_hasTwice cX6_hasTwice 4 (some .boolean) 0 := ⟨tt_of 766 (by decide +kernel) rfl, tt_of 764 (by decide +kernel) rfl, tt_of 765 (by decide +kernel) rfl, tt_of 71 (by decide +kernel) rfl, ⟨by decide +kernel, by decide +kernel, by decide +kernel⟩⟩
theorem dX2_findBoth_0 : decode cX2_findBoth 0 = .ok (.iconst 0, 1) := by decide +kernel
theorem dX2_findBoth_1 : decode cX2_findBoth 1 = .ok (.istore_n 2, 1) := by decide +kernel
theorem dX2_findBoth_2 : decode cX2_findBoth 2 = .ok (.iconst 0, 1) := by decide +kernel
theorem dX2_findBoth_3 : decode cX2_findBoth 3 = .ok (.istore_n 3, 1) := by decide +kernel
theorem dX2_findBoth_4 : decode cX2_findBoth 4 = .ok (.iconst 0, 1) := by decide +kernel
theorem dX2_findBoth_5 : decode cX2_findBoth 5 = .ok (.istore 4, 2) := by decide +kernel
theorem dX2_findBoth_7 : decode cX2_findBoth 7 = .ok (.lconst 0, 1) := by decide +kernel
theorem dX2_findBoth_8 : decode cX2_findBoth 8 = .ok (.lstore 5, 2) := by decide +kernel
theorem dX2_findBoth_10 : decode cX2_findBoth 10 = .ok (.lconst 1, 1) := by decide +kernel
theorem dX2_findBoth_11 : decode cX2_findBoth 11 = .ok (.lstore 7, 2) := by decide +kernel
theorem dX2_findBoth_13 : decode cX2_findBoth 13 = .ok (.iconst 1, 1) := by decide +kernel
theorem dX2_findBoth_14 : decode cX2_findBoth 14 = .ok (.istore 9, 2) := by decide +kernel
theorem dX2_findBoth_16 : decode cX2_findBoth 16 = .ok (.iconst 0, 1) := by decide +kernel
theorem dX2_findBoth_17 : decode cX2_findBoth 17 = .ok (.istore 10, 2) := by decide +kernel
theorem dX2_findBoth_19 : decode cX2_findBoth 19 = .ok (.iload 10, 2) := by decide +kernel
theorem dX2_findBoth_21 : decode cX2_findBoth 21 = .ok (.iload_n 1, 1) := by decide +kernel
theorem dX2_findBoth_22 : decode cX2_findBoth 22 = .ok (.if_icmp .ge 16, 3) := by decide +kernel
theorem dX2_findBoth_25 : decode cX2_findBoth 25 = .ok (.iload 9, 2) := by decide +kernel
theorem dX2_findBoth_27 : decode cX2_findBoth 27 = .ok (.bipush 6, 2) := by decide +kernel
theorem dX2_findBoth_29 : decode cX2_findBoth 29 = .ok (.imul, 1) := by decide +kernel
theorem dX2_findBoth_30 : decode cX2_findBoth 30 = .ok (.istore 9, 2) := by decide +kernel
theorem dX2_findBoth_32 : decode cX2_findBoth 32 = .ok (.iinc 10 1, 3) := by decide +kernel
theorem dX2_findBoth_35 : decode cX2_findBoth 35 = .ok (.goto (-16), 3) := by decide +kernel
theorem dX2_findBoth_38 : decode cX2_findBoth 38 = .ok (.iconst 0, 1) := by decide +kernel
theorem dX2_findBoth_39 : decode cX2_findBoth 39 = .ok (.istore 10, 2) := by decide +kernel
theorem dX2_findBoth_41 : decode cX2_findBoth 41 = .ok (.iload 10, 2) := by decide +kernel
theorem dX2_findBoth_43 : decode cX2_findBoth 43 = .ok (.iload 9, 2) := by decide +kernel
theorem dX2_findBoth_45 : decode cX2_findBoth 45 = .ok (.if_icmp .ge 92, 3) := by decide +kernel
theorem dX2_findBoth_48 : decode cX2_findBoth 48 = .ok (.iload 10, 2) := by decide +kernel
theorem dX2_findBoth_50 : decode cX2_findBoth 50 = .ok (.iload_n 1, 1) := by decide +kernel
theorem dX2_findBoth_51 : decode cX2_findBoth 51 = .ok (.invokestatic 99, 3) := by decide +kernel
theorem dX2_findBoth_54 : decode cX2_findBoth 54 = .ok (.istore 11, 2) := by decide +kernel
theorem dX2_findBoth_56 : decode cX2_findBoth 56 = .ok (.aload_n 0, 1) := by decide +kernel
theorem dX2_findBoth_57 : decode cX2_findBoth 57 = .ok (.getfield 15, 3) := by decide +kernel
theorem dX2_findBoth_60 : decode cX2_findBoth 60 = .ok (.iload 11, 2) := by decide +kernel
theorem dX2_findBoth_62 : decode cX2_findBoth 62 = .ok (.iload_n 1, 1) := by decide +kernel
theorem dX2_findBoth_63 : decode cX2_findBoth 63 = .ok (.invokevirtual 103, 3) := by decide +kernel
theorem dX2_findBoth_66 : decode cX2_findBoth 66 = .ok (.ifCond .ne 65, 3) := by decide +kernel
theorem dX2_findBoth_69 : decode cX2_findBoth 69 = .ok (.aload_n 0, 1) := by decide +kernel
theorem dX2_findBoth_70 : decode cX2_findBoth 70 = .ok (.getfield 15, 3) := by decide +kernel
theorem dX2_findBoth_73 : decode cX2_findBoth 73 = .ok (.invokevirtual 106, 3) := by decide +kernel
theorem dX2_findBoth_76 : decode cX2_findBoth 76 = .ok (.ifCond .eq 6, 3) := by decide +kernel
theorem dX2_findBoth_79 : decode cX2_findBoth 79 = .ok (.goto 52, 3) := by decide +kernel
theorem dX2_findBoth_82 : decode cX2_findBoth 82 = .ok (.aload_n 0, 1) := by decide +kernel
theorem dX2_findBoth_83 : decode cX2_findBoth 83 = .ok (.invokevirtual 88, 3) := by decide +kernel
theorem dX2_findBoth_86 : decode cX2_findBoth 86 = .ok (.iload_n 2, 1) := by decide +kernel
theorem dX2_findBoth_87 : decode cX2_findBoth 87 = .ok (.ifCond .eq 21, 3) := by decide +kernel
theorem dX2_findBoth_90 : decode cX2_findBoth 90 = .ok (.aload_n 0, 1) := by decide +kernel
theorem dX2_findBoth_91 : decode cX2_findBoth 91 = .ok (.getfield 60, 3) := by decide +kernel
theorem dX2_findBoth_94 : decode cX2_findBoth 94 = .ok (.lload 7, 2) := by decide +kernel
theorem dX2_findBoth_96 : decode cX2_findBoth 96 = .ok (.lmul, 1) := by decide +kernel
theorem dX2_findBoth_97 : decode cX2_findBoth 97 = .ok (.lload 5, 2) := by decide +kernel
theorem dX2_findBoth_99 : decode cX2_findBoth 99 = .ok (.aload_n 0, 1) := by decide +kernel
theorem dX2_findBoth_100 : decode cX2_findBoth 100 = .ok (.getfield 30, 3) := by decide +kernel
theorem dX2_findBoth_103 : decode cX2_findBoth 103 = .ok (.lmul, 1) := by decide +kernel
theorem dX2_findBoth_104 : decode cX2_findBoth 104 = .ok (.lcmp, 1) := by decide +kernel
theorem dX2_findBoth_105 : decode cX2_findBoth 105 = .ok (.ifCond .le 26, 3) := by decide +kernel
theorem dX2_findBoth_108 : decode cX2_findBoth 108 = .ok (.iconst 1, 1) := by decide +kernel
theorem dX2_findBoth_109 : decode cX2_findBoth 109 = .ok (.istore_n 2, 1) := by decide +kernel
theorem dX2_findBoth_110 : decode cX2_findBoth 110 = .ok (.iload 11, 2) := by decide +kernel
theorem dX2_findBoth_112 : decode cX2_findBoth 112 = .ok (.istore_n 3, 1) := by decide +kernel
theorem dX2_findBoth_113 : decode cX2_findBoth 113 = .ok (.aload_n 0, 1) := by decide +kernel
theorem dX2_findBoth_114 : decode cX2_findBoth 114 = .ok (.getfield 23, 3) := by decide +kernel
theorem dX2_findBoth_117 : decode cX2_findBoth 117 = .ok (.istore 4, 2) := by decide +kernel
theorem dX2_findBoth_119 : decode cX2_findBoth 119 = .ok (.aload_n 0, 1) := by decide +kernel
theorem dX2_findBoth_120 : decode cX2_findBoth 120 = .ok (.getfield 60, 3) := by decide +kernel
theorem dX2_findBoth_123 : decode cX2_findBoth 123 = .ok (.lstore 5, 2) := by decide +kernel
theorem dX2_findBoth_125 : decode cX2_findBoth 125 = .ok (.aload_n 0, 1) := by decide +kernel
theorem dX2_findBoth_126 : decode cX2_findBoth 126 = .ok (.getfield 30, 3) := by decide +kernel
theorem dX2_findBoth_129 : decode cX2_findBoth 129 = .ok (.lstore 7, 2) := by decide +kernel
theorem dX2_findBoth_131 : decode cX2_findBoth 131 = .ok (.iinc 10 1, 3) := by decide +kernel
theorem dX2_findBoth_134 : decode cX2_findBoth 134 = .ok (.goto (-93), 3) := by decide +kernel
theorem dX2_findBoth_137 : decode cX2_findBoth 137 = .ok (.aload_n 0, 1) := by decide +kernel
theorem dX2_findBoth_138 : decode cX2_findBoth 138 = .ok (.iload_n 3, 1) := by decide +kernel
theorem dX2_findBoth_139 : decode cX2_findBoth 139 = .ok (.putfield 27, 3) := by decide +kernel
theorem dX2_findBoth_142 : decode cX2_findBoth 142 = .ok (.aload_n 0, 1) := by decide +kernel
theorem dX2_findBoth_143 : decode cX2_findBoth 143 = .ok (.iload 4, 2) := by decide +kernel
theorem dX2_findBoth_145 : decode cX2_findBoth 145 = .ok (.putfield 23, 3) := by decide +kernel
theorem dX2_findBoth_148 : decode cX2_findBoth 148 = .ok (.iload_n 2, 1) := by decide +kernel
theorem dX2_findBoth_149 : decode cX2_findBoth 149 = .ok (.ireturn, 1) := by decide +kernel
def f_X2_findBoth_131 (k_41 : St → Int32 → Int32 → Int32 → Int32 → Int64 → Int64 → Int32 → Int32 → Option (Int32 × St)) (S : St) (x1 : Int32) (x2 : Int32) (x3 : Int32) (x4 : Int32) (x5 : Int64) (x7 : Int64) (x9 : Int32) (x10 : Int32) : Option (Int32 × St) :=
  bnd (x10 + 1 : Int32) fun v1 =>
  k_41 S x1 x2 x3 x4 x5 x7 x9 v1
def f_X2_findBoth_108 (k_41 : St → Int32 → Int32 → Int32 → Int32 → Int64 → Int64 → Int32 → Int32 → Option (Int32 × St)) (S : St) (x1 : Int32) (x9 : Int32) (x10 : Int32) (x11 : Int32) : Option (Int32 × St) :=
  bnd ((S.1 6 3) : Int32) fun v2 =>
  bnd ((S.2.1 6 5) : Int64) fun v3 =>
  bnd ((S.2.1 6 6) : Int64) fun v4 =>
  f_X2_findBoth_131 k_41 S x1 1 x11 v2 v3 v4 x9 x10
def f_X2_findBoth_41 (k_41 : St → Int32 → Int32 → Int32 → Int32 → Int64 → Int64 → Int32 → Int32 → Option (Int32 × St)) (S : St) (x1 : Int32) (x2 : Int32) (x3 : Int32) (x4 : Int32) (x5 : Int64) (x7 : Int64) (x9 : Int32) (x10 : Int32) : Option (Int32 × St) :=
  if x9 ≤ x10 then (
    bnd (setI S 6 4 x3) fun S6 =>
    bnd (setI S6 6 3 x4) fun S7 =>
    chk (zb x2) <|
    some (x2, S7)
  ) else (
    obd2 (f_X2_rowOf S x10 x1) fun r8 S8 =>
    obd2 (f_X6_tell S8 r8 x1) fun r9 S9 =>
    if r9 = 0 then (
      obd2 (f_X6_hasTwice S9 ) fun r11 S11 =>
      if r11 = 0 then (
        obd (f_X2_findBest S11 ) fun S13 =>
        if x2 = 0 then (
          f_X2_findBoth_108 k_41 S13 x1 x9 x10 r8
        ) else (
          if (lg_cmp ((S13.2.1 6 5) * x7) (x5 * (S13.2.1 6 6))) ≤ 0 then (
            f_X2_findBoth_131 k_41 S13 x1 x2 x3 x4 x5 x7 x9 x10
          ) else (
            f_X2_findBoth_108 k_41 S13 x1 x9 x10 r8
          )
        )
      ) else (
        f_X2_findBoth_131 k_41 S11 x1 x2 x3 x4 x5 x7 x9 x10
      )
    ) else (
      f_X2_findBoth_131 k_41 S9 x1 x2 x3 x4 x5 x7 x9 x10
    )
  )
def l_X2_findBoth_41 : Nat → St → Int32 → Int32 → Int32 → Int32 → Int64 → Int64 → Int32 → Int32 → Option (Int32 × St)
  | 0, _, _, _, _, _, _, _, _, _ => none
  | fu + 1, S, x1, x2, x3, x4, x5, x7, x9, x10 => f_X2_findBoth_41 (l_X2_findBoth_41 fu) S x1 x2 x3 x4 x5 x7 x9 x10
def f_X2_findBoth_19 (k_19 : St → Int32 → Int32 → Int32 → Int32 → Int64 → Int64 → Int32 → Int32 → Option (Int32 × St)) (S : St) (x1 : Int32) (x2 : Int32) (x3 : Int32) (x4 : Int32) (x5 : Int64) (x7 : Int64) (x9 : Int32) (x10 : Int32) : Option (Int32 × St) :=
  if x1 ≤ x10 then (
    l_X2_findBoth_41 FU S x1 x2 x3 x4 x5 x7 x9 0
  ) else (
    bnd ((x9 * 6) : Int32) fun v17 =>
    bnd (x10 + 1 : Int32) fun v18 =>
    k_19 S x1 x2 x3 x4 x5 x7 v17 v18
  )
def l_X2_findBoth_19 : Nat → St → Int32 → Int32 → Int32 → Int32 → Int64 → Int64 → Int32 → Int32 → Option (Int32 × St)
  | 0, _, _, _, _, _, _, _, _, _ => none
  | fu + 1, S, x1, x2, x3, x4, x5, x7, x9, x10 => f_X2_findBoth_19 (l_X2_findBoth_19 fu) S x1 x2 x3 x4 x5 x7 x9 x10
def f_X2_findBoth (S : St) (x1 : Int32) : Option (Int32 × St) :=
  l_X2_findBoth_19 FU S x1 0 0 0 (0) (1) 1 0
set_option maxHeartbeats 4000000 in
set_option maxRecDepth 100000 in
theorem c_X2_findBoth {l : Launch} {D : va_G} {cI cC cS : ClassId} {ad adK adV : Nat → Nat} {S S1 : St} {x1 : Int32} {r : Int32} (h : f_X2_findBoth S x1 = some (r, S1)) : Kt l D (xw cI cC cS ad) (KX D (xtys cI cC cS) adK adV) yX2_findBoth cX2_findBoth 12 (some .boolean) (19) (463) [.ref (ad 6), .int x1] S (some (.int r)) S1 := by
  refine k_entz (by decide +kernel) (Nat.le_of_ble_eq_true rfl) ?_
  intro p e s m args below meth c A Q C hK I hA hq ls hl
  have C : CallFix p m c cX2_findBoth 12 s args TT RX2 := C
  have hx := C.1
  have hb := C.2.1
  have kx := kx_ok D (xtys cI cC cS) adK adV
  have hl : lv_has ls 12 [(0, .ref (ad 6)), (1, .int x1)] := hl
  have J_131 : ∀ (k_41 : St → Int32 → Int32 → Int32 → Int32 → Int64 → Int64 → Int32 → Int32 → Option (Int32 × St)) (hk_41 : ∀ (S : St) (x1 : Int32) (x2 : Int32) (x3 : Int32) (x4 : Int32) (x5 : Int64) (x7 : Int64) (x9 : Int32) (x10 : Int32), k_41 S x1 x2 x3 x4 x5 x7 x9 x10 = some (r, S1) → ∀ (H : Heap) (locs : List Loc) (ls : Array Slot), Iv D (xw cI cC cS ad) S A s H locs → lv_has ls 12 [(0, .ref (ad 6)), (1, .int x1), (2, .int x2), (3, .int x3), (4, .int x4), (5, .long x5), (7, .long x7), (9, .int x9), (10, .int x10)] → W p l e ({ frames := 19, cells := 0, slots := 0, locals := 463 } : Room) s m args below meth c H locs 0 0 Q (F0 m 41 ls [])) (S : St) (x1 : Int32) (x2 : Int32) (x3 : Int32) (x4 : Int32) (x5 : Int64) (x7 : Int64) (x9 : Int32) (x10 : Int32), f_X2_findBoth_131 k_41 S x1 x2 x3 x4 x5 x7 x9 x10 = some (r, S1) → ∀ (H : Heap) (locs : List Loc) (ls : Array Slot), Iv D (xw cI cC cS ad) S A s H locs → lv_has ls 12 [(0, .ref (ad 6)), (1, .int x1), (2, .int x2), (3, .int x3), (4, .int x4), (5, .long x5), (7, .long x7), (9, .int x9), (10, .int x10)] → W p l e ({ frames := 19, cells := 0, slots := 0, locals := 463 } : Room) s m args below meth c H locs 0 0 Q (F0 m 131 ls []) := by
    intro k_41 hk_41 S x1 x2 x3 x4 x5 x7 x9 x10 h H locs ls I hl
    unfold f_X2_findBoth_131 at h
    obtain ⟨v1, ev1⟩ : ∃ y : Int32, y = x10 + 1 := ⟨_, rfl⟩
    have h := bnd_at ev1 h
    refine lv_iinc (v := v1) (lv' := [(10, .int v1), (0, .ref (ad 6)), (1, .int x1), (2, .int x2), (3, .int x3), (4, .int x4), (5, .long x5), (7, .long x7), (9, .int x9)]) hx hb dX2_findBoth_131 hl (k := 8) rfl (by rw [ev1]; rfl) (by decide) rfl (fun ls hl => ?_)
    clear ev1
    refine lv_goto (tgt := 41) hx hb dX2_findBoth_134 (by decide) ?_
    exact hk_41 _ _ _ _ _ _ _ _ _ h _ _ _ I (lv_sub hl [1, 2, 3, 4, 5, 6, 7, 8, 0] rfl)
  have J_108 : ∀ (k_41 : St → Int32 → Int32 → Int32 → Int32 → Int64 → Int64 → Int32 → Int32 → Option (Int32 × St)) (hk_41 : ∀ (S : St) (x1 : Int32) (x2 : Int32) (x3 : Int32) (x4 : Int32) (x5 : Int64) (x7 : Int64) (x9 : Int32) (x10 : Int32), k_41 S x1 x2 x3 x4 x5 x7 x9 x10 = some (r, S1) → ∀ (H : Heap) (locs : List Loc) (ls : Array Slot), Iv D (xw cI cC cS ad) S A s H locs → lv_has ls 12 [(0, .ref (ad 6)), (1, .int x1), (2, .int x2), (3, .int x3), (4, .int x4), (5, .long x5), (7, .long x7), (9, .int x9), (10, .int x10)] → W p l e ({ frames := 19, cells := 0, slots := 0, locals := 463 } : Room) s m args below meth c H locs 0 0 Q (F0 m 41 ls [])) (S : St) (x1 : Int32) (x9 : Int32) (x10 : Int32) (x11 : Int32), f_X2_findBoth_108 k_41 S x1 x9 x10 x11 = some (r, S1) → ∀ (H : Heap) (locs : List Loc) (ls : Array Slot), Iv D (xw cI cC cS ad) S A s H locs → lv_has ls 12 [(0, .ref (ad 6)), (1, .int x1), (9, .int x9), (10, .int x10), (11, .int x11)] → W p l e ({ frames := 19, cells := 0, slots := 0, locals := 463 } : Room) s m args below meth c H locs 0 0 Q (F0 m 108 ls []) := by
    intro k_41 hk_41 S x1 x9 x10 x11 h H locs ls I hl
    unfold f_X2_findBoth_108 at h
    refine lv_iconst (v := 1) hx hb dX2_findBoth_108 (by decide) ?_
    refine lv_istore_n (lv' := [(2, .int 1), (0, .ref (ad 6)), (1, .int x1), (9, .int x9), (10, .int x10), (11, .int x11)]) hx hb dX2_findBoth_109 rfl hl (by decide) rfl (fun ls hl => ?_)
    refine lv_iload hx hb dX2_findBoth_110 (lv_at hl 5 rfl) ?_
    refine lv_istore_n (lv' := [(3, .int x11), (2, .int 1), (0, .ref (ad 6)), (1, .int x1), (9, .int x9), (10, .int x10), (11, .int x11)]) hx hb dX2_findBoth_112 rfl hl (by decide) rfl (fun ls hl => ?_)
    refine lv_aload_n hx hb dX2_findBoth_113 rfl (lv_at hl 2 rfl) ?_
    refine gx_6_3 C hK I fl_X2_23 dX2_findBoth_114 ?_
    refine lv_topi (fun v2 ev2 => ?_)
    have h := bnd_at ev2 h
    clear ev2
    refine lv_istore (lv' := [(4, .int v2), (3, .int x11), (2, .int 1), (0, .ref (ad 6)), (1, .int x1), (9, .int x9), (10, .int x10), (11, .int x11)]) hx hb dX2_findBoth_117 hl (by decide) rfl (fun ls hl => ?_)
    refine lv_aload_n hx hb dX2_findBoth_119 rfl (lv_at hl 3 rfl) ?_
    refine gx_6_5 C hK I fl_X2_60 dX2_findBoth_120 ?_
    refine lv_topl (fun v3 ev3 => ?_)
    have h := bnd_at ev3 h
    clear ev3
    refine lv_lstore (lv' := [(5, .long v3), (4, .int v2), (3, .int x11), (2, .int 1), (0, .ref (ad 6)), (1, .int x1), (9, .int x9), (10, .int x10), (11, .int x11)]) hx hb dX2_findBoth_123 hl (by decide) rfl (fun ls hl => ?_)
    refine lv_aload_n hx hb dX2_findBoth_125 rfl (lv_at hl 4 rfl) ?_
    refine gx_6_6 C hK I fl_X2_30 dX2_findBoth_126 ?_
    refine lv_topl (fun v4 ev4 => ?_)
    have h := bnd_at ev4 h
    clear ev4
    refine lv_lstore (lv' := [(7, .long v4), (5, .long v3), (4, .int v2), (3, .int x11), (2, .int 1), (0, .ref (ad 6)), (1, .int x1), (9, .int x9), (10, .int x10), (11, .int x11)]) hx hb dX2_findBoth_129 hl (by decide) rfl (fun ls hl => ?_)
    exact J_131 k_41 hk_41 _ _ _ _ _ _ _ _ _ h _ _ _ I (lv_sub hl [5, 6, 4, 3, 2, 1, 0, 7, 8] rfl)
  have B_41 : ∀ (k_41 : St → Int32 → Int32 → Int32 → Int32 → Int64 → Int64 → Int32 → Int32 → Option (Int32 × St)) (hk_41 : ∀ (S : St) (x1 : Int32) (x2 : Int32) (x3 : Int32) (x4 : Int32) (x5 : Int64) (x7 : Int64) (x9 : Int32) (x10 : Int32), k_41 S x1 x2 x3 x4 x5 x7 x9 x10 = some (r, S1) → ∀ (H : Heap) (locs : List Loc) (ls : Array Slot), Iv D (xw cI cC cS ad) S A s H locs → lv_has ls 12 [(0, .ref (ad 6)), (1, .int x1), (2, .int x2), (3, .int x3), (4, .int x4), (5, .long x5), (7, .long x7), (9, .int x9), (10, .int x10)] → W p l e ({ frames := 19, cells := 0, slots := 0, locals := 463 } : Room) s m args below meth c H locs 0 0 Q (F0 m 41 ls [])) (S : St) (x1 : Int32) (x2 : Int32) (x3 : Int32) (x4 : Int32) (x5 : Int64) (x7 : Int64) (x9 : Int32) (x10 : Int32), f_X2_findBoth_41 k_41 S x1 x2 x3 x4 x5 x7 x9 x10 = some (r, S1) → ∀ (H : Heap) (locs : List Loc) (ls : Array Slot), Iv D (xw cI cC cS ad) S A s H locs → lv_has ls 12 [(0, .ref (ad 6)), (1, .int x1), (2, .int x2), (3, .int x3), (4, .int x4), (5, .long x5), (7, .long x7), (9, .int x9), (10, .int x10)] → W p l e ({ frames := 19, cells := 0, slots := 0, locals := 463 } : Room) s m args below meth c H locs 0 0 Q (F0 m 41 ls []) := by
    intro k_41 hk_41 S x1 x2 x3 x4 x5 x7 x9 x10 h H locs ls I hl
    unfold f_X2_findBoth_41 at h
    refine lv_iload hx hb dX2_findBoth_41 (lv_at hl 8 rfl) ?_
    refine lv_iload hx hb dX2_findBoth_43 (lv_at hl 7 rfl) ?_
    refine lv_icmp_ge (tgt := 137) hx hb dX2_findBoth_45 (by decide) (fun c5 => ?_) (fun c5 => ?_)
    · have h := ite_t c5 h
      refine lv_aload_n hx hb dX2_findBoth_137 rfl (lv_at hl 0 rfl) ?_
      refine lv_iload_n hx hb dX2_findBoth_138 rfl (lv_at hl 3 rfl) ?_
      refine px_6_4 C hK I fl_X2_27 dX2_findBoth_139 (fun S6 eS6 H locs I => ?_)
      have h := bnd_at eS6 h
      clear eS6
      refine lv_aload_n hx hb dX2_findBoth_142 rfl (lv_at hl 0 rfl) ?_
      refine lv_iload hx hb dX2_findBoth_143 (lv_at hl 4 rfl) ?_
      refine px_6_3 C hK I fl_X2_23 dX2_findBoth_145 (fun S7 eS7 H locs I => ?_)
      have h := bnd_at eS7 h
      clear eS7
      refine lv_iload_n hx hb dX2_findBoth_148 rfl (lv_at hl 2 rfl) ?_
      obtain ⟨hz, h⟩ := chk_ex h
      exact rt_z hz hq h I dX2_findBoth_149
    · have h := ite_n c5 h
      refine lv_iload hx hb dX2_findBoth_48 (lv_at hl 8 rfl) ?_
      refine lv_iload_n hx hb dX2_findBoth_50 rfl (lv_at hl 1 rfl) ?_
      obtain ⟨r8, S8, e8, h⟩ := obd2_ex h
      refine k_S (As := [.int x10, .int x1]) (rest := []) (st1 := [.int r8]) C kx hK I hA (c_X2_rowOf e8) ⟨Nat.le_of_ble_eq_true rfl, Nat.le_of_ble_eq_true rfl⟩ ms_X2_rowOf lk_X2_99 rfl hl.1 rfl (Nat.le_of_ble_eq_true rfl) dX2_findBoth_51 rfl (fun H locs I => ?_)
      refine lv_istore (lv' := [(11, .int r8), (0, .ref (ad 6)), (1, .int x1), (2, .int x2), (3, .int x3), (4, .int x4), (5, .long x5), (7, .long x7), (9, .int x9), (10, .int x10)]) hx hb dX2_findBoth_54 hl (by decide) rfl (fun ls hl => ?_)
      refine lv_aload_n hx hb dX2_findBoth_56 rfl (lv_at hl 1 rfl) ?_
      refine gx_6_1 C hK I fl_X2_15 dX2_findBoth_57 ?_
      refine lv_iload hx hb dX2_findBoth_60 (lv_at hl 0 rfl) ?_
      refine lv_iload_n hx hb dX2_findBoth_62 rfl (lv_at hl 2 rfl) ?_
      obtain ⟨r9, S9, e9, h⟩ := obd2_ex h
      refine k_V (As := [.int r8, .int x1]) (rest := []) (st1 := [.int r9]) C kx hK I hA (c_X6_tell e9) ⟨Nat.le_of_ble_eq_true rfl, Nat.le_of_ble_eq_true rfl⟩ mv_X6_tell lk_X2_103 4 6 (xw_4 (cI := cI) (ad := ad) (cC := cC) (cS := cS)) rfl rfl hl.1 rfl (Nat.le_of_ble_eq_true rfl) dX2_findBoth_63 rfl (fun H locs I => ?_)
      refine lv_if_ne (tgt := 131) hx hb dX2_findBoth_66 (by decide) (fun c10 => ?_) (fun c10 => ?_)
      · have h := ite_n c10 h
        exact J_131 k_41 hk_41 _ _ _ _ _ _ _ _ _ h _ _ _ I (lv_sub hl [1, 2, 3, 4, 5, 6, 7, 8, 9] rfl)
      · have h := ite_t c10 h
        refine lv_aload_n hx hb dX2_findBoth_69 rfl (lv_at hl 1 rfl) ?_
        refine gx_6_1 C hK I fl_X2_15 dX2_findBoth_70 ?_
        obtain ⟨r11, S11, e11, h⟩ := obd2_ex h
        refine k_V (As := []) (rest := []) (st1 := [.int r11]) C kx hK I hA (c_X6_hasTwice e11) ⟨Nat.le_of_ble_eq_true rfl, Nat.le_of_ble_eq_true rfl⟩ mv_X6_hasTwice lk_X2_106 4 6 (xw_4 (cI := cI) (ad := ad) (cC := cC) (cS := cS)) rfl rfl hl.1 rfl (Nat.le_of_ble_eq_true rfl) dX2_findBoth_73 rfl (fun H locs I => ?_)
        refine lv_if_eq (tgt := 82) hx hb dX2_findBoth_76 (by decide) (fun c12 => ?_) (fun c12 => ?_)
        · have h := ite_t c12 h
          refine lv_aload_n hx hb dX2_findBoth_82 rfl (lv_at hl 1 rfl) ?_
          obtain ⟨S13, e13, h⟩ := obd_ex h
          refine k_V (As := []) (rest := []) (st1 := []) C kx hK I hA (c_X2_findBest e13) ⟨Nat.le_of_ble_eq_true rfl, Nat.le_of_ble_eq_true rfl⟩ mv_X2_findBest lk_X2_88 6 2 (xw_6 (cI := cI) (ad := ad) (cC := cC) (cS := cS)) rfl rfl hl.1 rfl (Nat.le_of_ble_eq_true rfl) dX2_findBoth_83 rfl (fun H locs I => ?_)
          refine lv_iload_n hx hb dX2_findBoth_86 rfl (lv_at hl 3 rfl) ?_
          refine lv_if_eq (tgt := 108) hx hb dX2_findBoth_87 (by decide) (fun c14 => ?_) (fun c14 => ?_)
          · have h := ite_t c14 h
            exact J_108 k_41 hk_41 _ _ _ _ _ h _ _ _ I (lv_sub hl [1, 2, 8, 9, 0] rfl)
          · have h := ite_n c14 h
            refine lv_aload_n hx hb dX2_findBoth_90 rfl (lv_at hl 1 rfl) ?_
            refine gx_6_5 C hK I fl_X2_60 dX2_findBoth_91 ?_
            refine lv_lload hx hb dX2_findBoth_94 (lv_at hl 7 rfl) ?_
            refine lv_lmul hx hb dX2_findBoth_96 ?_
            refine lv_lload hx hb dX2_findBoth_97 (lv_at hl 6 rfl) ?_
            refine lv_aload_n hx hb dX2_findBoth_99 rfl (lv_at hl 1 rfl) ?_
            refine gx_6_6 C hK I fl_X2_30 dX2_findBoth_100 ?_
            refine lv_lmul hx hb dX2_findBoth_103 ?_
            refine W.lcmp hx hb dX2_findBoth_104 ?_
            refine lv_if_le (tgt := 131) hx hb dX2_findBoth_105 (by decide) (fun c15 => ?_) (fun c15 => ?_)
            · have h := ite_t c15 h
              exact J_131 k_41 hk_41 _ _ _ _ _ _ _ _ _ h _ _ _ I (lv_sub hl [1, 2, 3, 4, 5, 6, 7, 8, 9] rfl)
            · have h := ite_n c15 h
              exact J_108 k_41 hk_41 _ _ _ _ _ h _ _ _ I (lv_sub hl [1, 2, 8, 9, 0] rfl)
        · have h := ite_n c12 h
          refine lv_goto (tgt := 131) hx hb dX2_findBoth_79 (by decide) ?_
          exact J_131 k_41 hk_41 _ _ _ _ _ _ _ _ _ h _ _ _ I (lv_sub hl [1, 2, 3, 4, 5, 6, 7, 8, 9] rfl)
  have J_41 : ∀ (fu : Nat) (S : St) (x1 : Int32) (x2 : Int32) (x3 : Int32) (x4 : Int32) (x5 : Int64) (x7 : Int64) (x9 : Int32) (x10 : Int32), l_X2_findBoth_41  fu S x1 x2 x3 x4 x5 x7 x9 x10 = some (r, S1) → ∀ (H : Heap) (locs : List Loc) (ls : Array Slot), Iv D (xw cI cC cS ad) S A s H locs → lv_has ls 12 [(0, .ref (ad 6)), (1, .int x1), (2, .int x2), (3, .int x3), (4, .int x4), (5, .long x5), (7, .long x7), (9, .int x9), (10, .int x10)] → W p l e ({ frames := 19, cells := 0, slots := 0, locals := 463 } : Room) s m args below meth c H locs 0 0 Q (F0 m 41 ls []) := by
    intro fu
    induction fu with
    | zero => intro S x1 x2 x3 x4 x5 x7 x9 x10 h; cases h
    | succ fu ih => intro S x1 x2 x3 x4 x5 x7 x9 x10 h; exact B_41 (l_X2_findBoth_41 fu) ih S x1 x2 x3 x4 x5 x7 x9 x10 h
  have B_19 : ∀ (k_19 : St → Int32 → Int32 → Int32 → Int32 → Int64 → Int64 → Int32 → Int32 → Option (Int32 × St)) (hk_19 : ∀ (S : St) (x1 : Int32) (x2 : Int32) (x3 : Int32) (x4 : Int32) (x5 : Int64) (x7 : Int64) (x9 : Int32) (x10 : Int32), k_19 S x1 x2 x3 x4 x5 x7 x9 x10 = some (r, S1) → ∀ (H : Heap) (locs : List Loc) (ls : Array Slot), Iv D (xw cI cC cS ad) S A s H locs → lv_has ls 12 [(0, .ref (ad 6)), (1, .int x1), (2, .int x2), (3, .int x3), (4, .int x4), (5, .long x5), (7, .long x7), (9, .int x9), (10, .int x10)] → W p l e ({ frames := 19, cells := 0, slots := 0, locals := 463 } : Room) s m args below meth c H locs 0 0 Q (F0 m 19 ls [])) (S : St) (x1 : Int32) (x2 : Int32) (x3 : Int32) (x4 : Int32) (x5 : Int64) (x7 : Int64) (x9 : Int32) (x10 : Int32), f_X2_findBoth_19 k_19 S x1 x2 x3 x4 x5 x7 x9 x10 = some (r, S1) → ∀ (H : Heap) (locs : List Loc) (ls : Array Slot), Iv D (xw cI cC cS ad) S A s H locs → lv_has ls 12 [(0, .ref (ad 6)), (1, .int x1), (2, .int x2), (3, .int x3), (4, .int x4), (5, .long x5), (7, .long x7), (9, .int x9), (10, .int x10)] → W p l e ({ frames := 19, cells := 0, slots := 0, locals := 463 } : Room) s m args below meth c H locs 0 0 Q (F0 m 19 ls []) := by
    intro k_19 hk_19 S x1 x2 x3 x4 x5 x7 x9 x10 h H locs ls I hl
    unfold f_X2_findBoth_19 at h
    refine lv_iload hx hb dX2_findBoth_19 (lv_at hl 8 rfl) ?_
    refine lv_iload_n hx hb dX2_findBoth_21 rfl (lv_at hl 1 rfl) ?_
    refine lv_icmp_ge (tgt := 38) hx hb dX2_findBoth_22 (by decide) (fun c16 => ?_) (fun c16 => ?_)
    · have h := ite_t c16 h
      refine lv_iconst (v := 0) hx hb dX2_findBoth_38 (by decide) ?_
      refine lv_istore (lv' := [(10, .int 0), (0, .ref (ad 6)), (1, .int x1), (2, .int x2), (3, .int x3), (4, .int x4), (5, .long x5), (7, .long x7), (9, .int x9)]) hx hb dX2_findBoth_39 hl (by decide) rfl (fun ls hl => ?_)
      exact J_41 _ _ _ _ _ _ _ _ _ _ h _ _ _ I (lv_sub hl [1, 2, 3, 4, 5, 6, 7, 8, 0] rfl)
    · have h := ite_n c16 h
      refine lv_iload hx hb dX2_findBoth_25 (lv_at hl 7 rfl) ?_
      refine lv_bipush (v := 6) hx hb dX2_findBoth_27 (by decide) ?_
      refine lv_imul hx hb dX2_findBoth_29 ?_
      refine lv_topi (fun v17 ev17 => ?_)
      have h := bnd_at ev17 h
      clear ev17
      refine lv_istore (lv' := [(9, .int v17), (0, .ref (ad 6)), (1, .int x1), (2, .int x2), (3, .int x3), (4, .int x4), (5, .long x5), (7, .long x7), (10, .int x10)]) hx hb dX2_findBoth_30 hl (by decide) rfl (fun ls hl => ?_)
      obtain ⟨v18, ev18⟩ : ∃ y : Int32, y = x10 + 1 := ⟨_, rfl⟩
      have h := bnd_at ev18 h
      refine lv_iinc (v := v18) (lv' := [(10, .int v18), (9, .int v17), (0, .ref (ad 6)), (1, .int x1), (2, .int x2), (3, .int x3), (4, .int x4), (5, .long x5), (7, .long x7)]) hx hb dX2_findBoth_32 hl (k := 8) rfl (by rw [ev18]; rfl) (by decide) rfl (fun ls hl => ?_)
      clear ev18
      refine lv_goto (tgt := 19) hx hb dX2_findBoth_35 (by decide) ?_
      exact hk_19 _ _ _ _ _ _ _ _ _ h _ _ _ I (lv_sub hl [2, 3, 4, 5, 6, 7, 8, 1, 0] rfl)
  have J_19 : ∀ (fu : Nat) (S : St) (x1 : Int32) (x2 : Int32) (x3 : Int32) (x4 : Int32) (x5 : Int64) (x7 : Int64) (x9 : Int32) (x10 : Int32), l_X2_findBoth_19  fu S x1 x2 x3 x4 x5 x7 x9 x10 = some (r, S1) → ∀ (H : Heap) (locs : List Loc) (ls : Array Slot), Iv D (xw cI cC cS ad) S A s H locs → lv_has ls 12 [(0, .ref (ad 6)), (1, .int x1), (2, .int x2), (3, .int x3), (4, .int x4), (5, .long x5), (7, .long x7), (9, .int x9), (10, .int x10)] → W p l e ({ frames := 19, cells := 0, slots := 0, locals := 463 } : Room) s m args below meth c H locs 0 0 Q (F0 m 19 ls []) := by
    intro fu
    induction fu with
    | zero => intro S x1 x2 x3 x4 x5 x7 x9 x10 h; cases h
    | succ fu ih => intro S x1 x2 x3 x4 x5 x7 x9 x10 h; exact B_19 (l_X2_findBoth_19 fu) ih S x1 x2 x3 x4 x5 x7 x9 x10 h
  unfold f_X2_findBoth at h
  refine lv_iconst (v := 0) hx hb dX2_findBoth_0 (by decide) ?_
  refine lv_istore_n (lv' := [(2, .int 0), (0, .ref (ad 6)), (1, .int x1)]) hx hb dX2_findBoth_1 rfl hl (by decide) rfl (fun ls hl => ?_)
  refine lv_iconst (v := 0) hx hb dX2_findBoth_2 (by decide) ?_
  refine lv_istore_n (lv' := [(3, .int 0), (2, .int 0), (0, .ref (ad 6)), (1, .int x1)]) hx hb dX2_findBoth_3 rfl hl (by decide) rfl (fun ls hl => ?_)
  refine lv_iconst (v := 0) hx hb dX2_findBoth_4 (by decide) ?_
  refine lv_istore (lv' := [(4, .int 0), (3, .int 0), (2, .int 0), (0, .ref (ad 6)), (1, .int x1)]) hx hb dX2_findBoth_5 hl (by decide) rfl (fun ls hl => ?_)
  refine lv_lconst (v := (0)) hx hb dX2_findBoth_7 (by decide) ?_
  refine lv_lstore (lv' := [(5, .long (0)), (4, .int 0), (3, .int 0), (2, .int 0), (0, .ref (ad 6)), (1, .int x1)]) hx hb dX2_findBoth_8 hl (by decide) rfl (fun ls hl => ?_)
  refine lv_lconst (v := (1)) hx hb dX2_findBoth_10 (by decide) ?_
  refine lv_lstore (lv' := [(7, .long (1)), (5, .long (0)), (4, .int 0), (3, .int 0), (2, .int 0), (0, .ref (ad 6)), (1, .int x1)]) hx hb dX2_findBoth_11 hl (by decide) rfl (fun ls hl => ?_)
  refine lv_iconst (v := 1) hx hb dX2_findBoth_13 (by decide) ?_
  refine lv_istore (lv' := [(9, .int 1), (7, .long (1)), (5, .long (0)), (4, .int 0), (3, .int 0), (2, .int 0), (0, .ref (ad 6)), (1, .int x1)]) hx hb dX2_findBoth_14 hl (by decide) rfl (fun ls hl => ?_)
  refine lv_iconst (v := 0) hx hb dX2_findBoth_16 (by decide) ?_
  refine lv_istore (lv' := [(10, .int 0), (9, .int 1), (7, .long (1)), (5, .long (0)), (4, .int 0), (3, .int 0), (2, .int 0), (0, .ref (ad 6)), (1, .int x1)]) hx hb dX2_findBoth_17 hl (by decide) rfl (fun ls hl => ?_)
  exact J_19 _ _ _ _ _ _ _ _ _ _ h _ _ _ I (lv_sub hl [7, 8, 6, 5, 4, 3, 2, 1, 0] rfl)
theorem fl_X3_9 : Cond.fieldLink RX3 9 RX3 "plan" "LCarryUp$Plan;" ∈ TT := tt_of 349 (by decide +kernel) rfl
theorem dX3_find_0 : decode cX3_find 0 = .ok (.aload_n 0, 1) := by decide +kernel
theorem dX3_find_1 : decode cX3_find 1 = .ok (.iconst (-1), 1) := by decide +kernel
theorem dX3_find_2 : decode cX3_find 2 = .ok (.putfield 15, 3) := by decide +kernel
theorem dX3_find_5 : decode cX3_find 5 = .ok (.aload_n 0, 1) := by decide +kernel
theorem dX3_find_6 : decode cX3_find 6 = .ok (.lconst 0, 1) := by decide +kernel
theorem dX3_find_7 : decode cX3_find 7 = .ok (.putfield 19, 3) := by decide +kernel
theorem dX3_find_10 : decode cX3_find 10 = .ok (.aload_n 0, 1) := by decide +kernel
theorem dX3_find_11 : decode cX3_find 11 = .ok (.aload_n 0, 1) := by decide +kernel
theorem dX3_find_12 : decode cX3_find 12 = .ok (.getfield 9, 3) := by decide +kernel
theorem dX3_find_15 : decode cX3_find 15 = .ok (.iload 4, 2) := by decide +kernel
theorem dX3_find_17 : decode cX3_find 17 = .ok (.invokestatic 26, 3) := by decide +kernel
theorem dX3_find_20 : decode cX3_find 20 = .ok (.putfield 23, 3) := by decide +kernel
theorem dX3_find_23 : decode cX3_find 23 = .ok (.iconst 0, 1) := by decide +kernel
theorem dX3_find_24 : decode cX3_find 24 = .ok (.istore 5, 2) := by decide +kernel
theorem dX3_find_26 : decode cX3_find 26 = .ok (.iload 5, 2) := by decide +kernel
theorem dX3_find_28 : decode cX3_find 28 = .ok (.bipush 6, 2) := by decide +kernel
theorem dX3_find_30 : decode cX3_find 30 = .ok (.if_icmp .ge 60, 3) := by decide +kernel
theorem dX3_find_33 : decode cX3_find 33 = .ok (.iload 4, 2) := by decide +kernel
theorem dX3_find_35 : decode cX3_find 35 = .ok (.iload 5, 2) := by decide +kernel
theorem dX3_find_37 : decode cX3_find 37 = .ok (.ishr, 1) := by decide +kernel
theorem dX3_find_38 : decode cX3_find 38 = .ok (.iconst 1, 1) := by decide +kernel
theorem dX3_find_39 : decode cX3_find 39 = .ok (.iand, 1) := by decide +kernel
theorem dX3_find_40 : decode cX3_find 40 = .ok (.ifCond .ne 6, 3) := by decide +kernel
theorem dX3_find_43 : decode cX3_find 43 = .ok (.goto 41, 3) := by decide +kernel
theorem dX3_find_46 : decode cX3_find 46 = .ok (.aload_n 0, 1) := by decide +kernel
theorem dX3_find_47 : decode cX3_find 47 = .ok (.getfield 9, 3) := by decide +kernel
theorem dX3_find_50 : decode cX3_find 50 = .ok (.iload 5, 2) := by decide +kernel
theorem dX3_find_52 : decode cX3_find 52 = .ok (.iload_n 1, 1) := by decide +kernel
theorem dX3_find_53 : decode cX3_find 53 = .ok (.iload_n 2, 1) := by decide +kernel
theorem dX3_find_54 : decode cX3_find 54 = .ok (.iload_n 3, 1) := by decide +kernel
theorem dX3_find_55 : decode cX3_find 55 = .ok (.iload 4, 2) := by decide +kernel
theorem dX3_find_57 : decode cX3_find 57 = .ok (.invokestatic 30, 3) := by decide +kernel
theorem dX3_find_60 : decode cX3_find 60 = .ok (.lstore 6, 2) := by decide +kernel
theorem dX3_find_62 : decode cX3_find 62 = .ok (.lload 6, 2) := by decide +kernel
theorem dX3_find_64 : decode cX3_find 64 = .ok (.aload_n 0, 1) := by decide +kernel
theorem dX3_find_65 : decode cX3_find 65 = .ok (.getfield 19, 3) := by decide +kernel
theorem dX3_find_68 : decode cX3_find 68 = .ok (.lcmp, 1) := by decide +kernel
theorem dX3_find_69 : decode cX3_find 69 = .ok (.ifCond .le 15, 3) := by decide +kernel
theorem dX3_find_72 : decode cX3_find 72 = .ok (.aload_n 0, 1) := by decide +kernel
theorem dX3_find_73 : decode cX3_find 73 = .ok (.lload 6, 2) := by decide +kernel
theorem dX3_find_75 : decode cX3_find 75 = .ok (.putfield 19, 3) := by decide +kernel
theorem dX3_find_78 : decode cX3_find 78 = .ok (.aload_n 0, 1) := by decide +kernel
theorem dX3_find_79 : decode cX3_find 79 = .ok (.iload 5, 2) := by decide +kernel
theorem dX3_find_81 : decode cX3_find 81 = .ok (.putfield 15, 3) := by decide +kernel
theorem dX3_find_84 : decode cX3_find 84 = .ok (.iinc 5 1, 3) := by decide +kernel
theorem dX3_find_87 : decode cX3_find 87 = .ok (.goto (-61), 3) := by decide +kernel
theorem dX3_find_90 : decode cX3_find 90 = .ok (.return_, 1) := by decide +kernel
def f_X3_find_84 (k_26 : St → Int32 → Int32 → Int32 → Int32 → Int32 → Option St) (S : St) (x1 : Int32) (x2 : Int32) (x3 : Int32) (x4 : Int32) (x5 : Int32) : Option St :=
  bnd (x5 + 1 : Int32) fun v1 =>
  k_26 S x1 x2 x3 x4 v1
def f_X3_find_26 (k_26 : St → Int32 → Int32 → Int32 → Int32 → Int32 → Option St) (S : St) (x1 : Int32) (x2 : Int32) (x3 : Int32) (x4 : Int32) (x5 : Int32) : Option St :=
  if 6 ≤ x5 then (
    some S
  ) else (
    if ((x4 >>> (x5 &&& 31)) &&& 1) = 0 then (
      f_X3_find_84 k_26 S x1 x2 x3 x4 x5
    ) else (
      obd2 (g_X3_going 6 S x5 x1 x2 x3 x4) fun r4 S4 =>
      if (lg_cmp r4 (S4.2.1 7 2)) ≤ 0 then (
        f_X3_find_84 k_26 S4 x1 x2 x3 x4 x5
      ) else (
        bnd (setL S4 7 2 r4) fun S6 =>
        bnd (setI S6 7 1 x5) fun S7 =>
        f_X3_find_84 k_26 S7 x1 x2 x3 x4 x5
      )
    )
  )
def l_X3_find_26 : Nat → St → Int32 → Int32 → Int32 → Int32 → Int32 → Option St
  | 0, _, _, _, _, _, _ => none
  | fu + 1, S, x1, x2, x3, x4, x5 => f_X3_find_26 (l_X3_find_26 fu) S x1 x2 x3 x4 x5
def f_X3_find (S : St) (x1 : Int32) (x2 : Int32) (x3 : Int32) (x4 : Int32) : Option St :=
  bnd (setI S 7 1 (-1)) fun S8 =>
  bnd (setL S8 7 2 (0)) fun S9 =>
  obd2 (f_X3_scaleOf S9 x4) fun r10 S10 =>
  bnd (setL S10 7 3 r10) fun S11 =>
  l_X3_find_26 FU S11 x1 x2 x3 x4 0
set_option maxHeartbeats 4000000 in
set_option maxRecDepth 100000 in
theorem c_X3_find {l : Launch} {D : va_G} {cI cC cS : ClassId} {ad adK adV : Nat → Nat} {S S1 : St} {x1 : Int32} {x2 : Int32} {x3 : Int32} {x4 : Int32} (h : f_X3_find S x1 x2 x3 x4 = some S1) : Kt l D (xw cI cC cS ad) (KX D (xtys cI cC cS) adK adV) yX3_find cX3_find 8 none (25) (577) [.ref (ad 7), .int x1, .int x2, .int x3, .int x4] S (none) S1 := by
  refine k_ent (ins := .return_) (st := []) (by decide +kernel) (Nat.le_of_ble_eq_true rfl) ret_v ?_
  intro p e s m args below meth c A Q C hK I hA hq ls hl
  have C : CallFix p m c cX3_find 8 s args TT RX3 := C
  have hx := C.1
  have hb := C.2.1
  have kx := kx_ok D (xtys cI cC cS) adK adV
  have hl : lv_has ls 8 [(0, .ref (ad 7)), (1, .int x1), (2, .int x2), (3, .int x3), (4, .int x4)] := hl
  have J_84 : ∀ (k_26 : St → Int32 → Int32 → Int32 → Int32 → Int32 → Option St) (hk_26 : ∀ (S : St) (x1 : Int32) (x2 : Int32) (x3 : Int32) (x4 : Int32) (x5 : Int32), k_26 S x1 x2 x3 x4 x5 = some S1 → ∀ (H : Heap) (locs : List Loc) (ls : Array Slot), Iv D (xw cI cC cS ad) S A s H locs → lv_has ls 8 [(0, .ref (ad 7)), (1, .int x1), (2, .int x2), (3, .int x3), (4, .int x4), (5, .int x5)] → W p l e ({ frames := 25, cells := 0, slots := 0, locals := 577 } : Room) s m args below meth c H locs 0 0 Q (F0 m 26 ls [])) (S : St) (x1 : Int32) (x2 : Int32) (x3 : Int32) (x4 : Int32) (x5 : Int32), f_X3_find_84 k_26 S x1 x2 x3 x4 x5 = some S1 → ∀ (H : Heap) (locs : List Loc) (ls : Array Slot), Iv D (xw cI cC cS ad) S A s H locs → lv_has ls 8 [(0, .ref (ad 7)), (1, .int x1), (2, .int x2), (3, .int x3), (4, .int x4), (5, .int x5)] → W p l e ({ frames := 25, cells := 0, slots := 0, locals := 577 } : Room) s m args below meth c H locs 0 0 Q (F0 m 84 ls []) := by
    intro k_26 hk_26 S x1 x2 x3 x4 x5 h H locs ls I hl
    unfold f_X3_find_84 at h
    obtain ⟨v1, ev1⟩ : ∃ y : Int32, y = x5 + 1 := ⟨_, rfl⟩
    have h := bnd_at ev1 h
    refine lv_iinc (v := v1) (lv' := [(5, .int v1), (0, .ref (ad 7)), (1, .int x1), (2, .int x2), (3, .int x3), (4, .int x4)]) hx hb dX3_find_84 hl (k := 5) rfl (by rw [ev1]; rfl) (by decide) rfl (fun ls hl => ?_)
    clear ev1
    refine lv_goto (tgt := 26) hx hb dX3_find_87 (by decide) ?_
    exact hk_26 _ _ _ _ _ _ h _ _ _ I (lv_sub hl [1, 2, 3, 4, 5, 0] rfl)
  have B_26 : ∀ (k_26 : St → Int32 → Int32 → Int32 → Int32 → Int32 → Option St) (hk_26 : ∀ (S : St) (x1 : Int32) (x2 : Int32) (x3 : Int32) (x4 : Int32) (x5 : Int32), k_26 S x1 x2 x3 x4 x5 = some S1 → ∀ (H : Heap) (locs : List Loc) (ls : Array Slot), Iv D (xw cI cC cS ad) S A s H locs → lv_has ls 8 [(0, .ref (ad 7)), (1, .int x1), (2, .int x2), (3, .int x3), (4, .int x4), (5, .int x5)] → W p l e ({ frames := 25, cells := 0, slots := 0, locals := 577 } : Room) s m args below meth c H locs 0 0 Q (F0 m 26 ls [])) (S : St) (x1 : Int32) (x2 : Int32) (x3 : Int32) (x4 : Int32) (x5 : Int32), f_X3_find_26 k_26 S x1 x2 x3 x4 x5 = some S1 → ∀ (H : Heap) (locs : List Loc) (ls : Array Slot), Iv D (xw cI cC cS ad) S A s H locs → lv_has ls 8 [(0, .ref (ad 7)), (1, .int x1), (2, .int x2), (3, .int x3), (4, .int x4), (5, .int x5)] → W p l e ({ frames := 25, cells := 0, slots := 0, locals := 577 } : Room) s m args below meth c H locs 0 0 Q (F0 m 26 ls []) := by
    intro k_26 hk_26 S x1 x2 x3 x4 x5 h H locs ls I hl
    unfold f_X3_find_26 at h
    refine lv_iload hx hb dX3_find_26 (lv_at hl 5 rfl) ?_
    refine lv_bipush (v := 6) hx hb dX3_find_28 (by decide) ?_
    refine lv_icmp_ge (tgt := 90) hx hb dX3_find_30 (by decide) (fun c2 => ?_) (fun c2 => ?_)
    · have h := ite_t c2 h
      exact rt_v hq h I dX3_find_90
    · have h := ite_n c2 h
      refine lv_iload hx hb dX3_find_33 (lv_at hl 4 rfl) ?_
      refine lv_iload hx hb dX3_find_35 (lv_at hl 5 rfl) ?_
      refine lv_ishr hx hb dX3_find_37 ?_
      refine lv_iconst (v := 1) hx hb dX3_find_38 (by decide) ?_
      refine lv_iand hx hb dX3_find_39 ?_
      refine lv_if_ne (tgt := 46) hx hb dX3_find_40 (by decide) (fun c3 => ?_) (fun c3 => ?_)
      · have h := ite_n c3 h
        refine lv_aload_n hx hb dX3_find_46 rfl (lv_at hl 0 rfl) ?_
        refine gx_7_0 C hK I fl_X3_9 dX3_find_47 ?_
        refine lv_iload hx hb dX3_find_50 (lv_at hl 5 rfl) ?_
        refine lv_iload_n hx hb dX3_find_52 rfl (lv_at hl 1 rfl) ?_
        refine lv_iload_n hx hb dX3_find_53 rfl (lv_at hl 2 rfl) ?_
        refine lv_iload_n hx hb dX3_find_54 rfl (lv_at hl 3 rfl) ?_
        refine lv_iload hx hb dX3_find_55 (lv_at hl 4 rfl) ?_
        obtain ⟨r4, S4, e4, h⟩ := obd2_ex h
        refine k_S (As := [.ref (ad 3), .int x5, .int x1, .int x2, .int x3, .int x4]) (rest := []) (st1 := [.long r4]) C kx hK I hA (cg_X3_going 6 e4) ⟨Nat.le_of_ble_eq_true rfl, Nat.le_of_ble_eq_true rfl⟩ ms_X3_going lk_X3_30 rfl hl.1 rfl (Nat.le_of_ble_eq_true rfl) dX3_find_57 rfl (fun H locs I => ?_)
        refine lv_lstore (lv' := [(6, .long r4), (0, .ref (ad 7)), (1, .int x1), (2, .int x2), (3, .int x3), (4, .int x4), (5, .int x5)]) hx hb dX3_find_60 hl (by decide) rfl (fun ls hl => ?_)
        refine lv_lload hx hb dX3_find_62 (lv_at hl 0 rfl) ?_
        refine lv_aload_n hx hb dX3_find_64 rfl (lv_at hl 1 rfl) ?_
        refine gx_7_2 C hK I fl_X3_19 dX3_find_65 ?_
        refine W.lcmp hx hb dX3_find_68 ?_
        refine lv_if_le (tgt := 84) hx hb dX3_find_69 (by decide) (fun c5 => ?_) (fun c5 => ?_)
        · have h := ite_t c5 h
          exact J_84 k_26 hk_26 _ _ _ _ _ _ h _ _ _ I (lv_sub hl [1, 2, 3, 4, 5, 6] rfl)
        · have h := ite_n c5 h
          refine lv_aload_n hx hb dX3_find_72 rfl (lv_at hl 1 rfl) ?_
          refine lv_lload hx hb dX3_find_73 (lv_at hl 0 rfl) ?_
          refine px_7_2 C hK I fl_X3_19 dX3_find_75 (fun S6 eS6 H locs I => ?_)
          have h := bnd_at eS6 h
          clear eS6
          refine lv_aload_n hx hb dX3_find_78 rfl (lv_at hl 1 rfl) ?_
          refine lv_iload hx hb dX3_find_79 (lv_at hl 6 rfl) ?_
          refine px_7_1 C hK I fl_X3_15 dX3_find_81 (fun S7 eS7 H locs I => ?_)
          have h := bnd_at eS7 h
          clear eS7
          exact J_84 k_26 hk_26 _ _ _ _ _ _ h _ _ _ I (lv_sub hl [1, 2, 3, 4, 5, 6] rfl)
      · have h := ite_t c3 h
        refine lv_goto (tgt := 84) hx hb dX3_find_43 (by decide) ?_
        exact J_84 k_26 hk_26 _ _ _ _ _ _ h _ _ _ I (lv_sub hl [0, 1, 2, 3, 4, 5] rfl)
  have J_26 : ∀ (fu : Nat) (S : St) (x1 : Int32) (x2 : Int32) (x3 : Int32) (x4 : Int32) (x5 : Int32), l_X3_find_26  fu S x1 x2 x3 x4 x5 = some S1 → ∀ (H : Heap) (locs : List Loc) (ls : Array Slot), Iv D (xw cI cC cS ad) S A s H locs → lv_has ls 8 [(0, .ref (ad 7)), (1, .int x1), (2, .int x2), (3, .int x3), (4, .int x4), (5, .int x5)] → W p l e ({ frames := 25, cells := 0, slots := 0, locals := 577 } : Room) s m args below meth c H locs 0 0 Q (F0 m 26 ls []) := by
    intro fu
    induction fu with
    | zero => intro S x1 x2 x3 x4 x5 h; cases h
    | succ fu ih => intro S x1 x2 x3 x4 x5 h; exact B_26 (l_X3_find_26 fu) ih S x1 x2 x3 x4 x5 h
  unfold f_X3_find at h
  refine lv_aload_n hx hb dX3_find_0 rfl (lv_at hl 0 rfl) ?_
  refine lv_iconst (v := (-1)) hx hb dX3_find_1 (by decide) ?_
  refine px_7_1 C hK I fl_X3_15 dX3_find_2 (fun S8 eS8 H locs I => ?_)
  have h := bnd_at eS8 h
  clear eS8
  refine lv_aload_n hx hb dX3_find_5 rfl (lv_at hl 0 rfl) ?_
  refine lv_lconst (v := (0)) hx hb dX3_find_6 (by decide) ?_
  refine px_7_2 C hK I fl_X3_19 dX3_find_7 (fun S9 eS9 H locs I => ?_)
  have h := bnd_at eS9 h
  clear eS9
  refine lv_aload_n hx hb dX3_find_10 rfl (lv_at hl 0 rfl) ?_
  refine lv_aload_n hx hb dX3_find_11 rfl (lv_at hl 0 rfl) ?_
  refine gx_7_0 C hK I fl_X3_9 dX3_find_12 ?_
  refine lv_iload hx hb dX3_find_15 (lv_at hl 4 rfl) ?_
  obtain ⟨r10, S10, e10, h⟩ := obd2_ex h
  refine k_S (As := [.ref (ad 3), .int x4]) (rest := [.ref (ad 7)]) (st1 := [.long r10, .ref (ad 7)]) C kx hK I hA (c_X3_scaleOf e10) ⟨Nat.le_of_ble_eq_true rfl, Nat.le_of_ble_eq_true rfl⟩ ms_X3_scaleOf lk_X3_26 rfl hl.1 rfl (Nat.le_of_ble_eq_true rfl) dX3_find_17 rfl (fun H locs I => ?_)
  refine px_7_3 C hK I fl_X3_23 dX3_find_20 (fun S11 eS11 H locs I => ?_)
  have h := bnd_at eS11 h
  clear eS11
  refine lv_iconst (v := 0) hx hb dX3_find_23 (by decide) ?_
  refine lv_istore (lv' := [(5, .int 0), (0, .ref (ad 7)), (1, .int x1), (2, .int x2), (3, .int x3), (4, .int x4)]) hx hb dX3_find_24 hl (by decide) rfl (fun ls hl => ?_)
  exact J_26 _ _ _ _ _ _ _ h _ _ _ I (lv_sub hl [1, 2, 3, 4, 5, 0] rfl)
