theorem fl_X9_29 : Cond.fieldLink RX9 29 RX9 "latest" "I" ∈ TT := tt_of 293 (by decide +kernel) rfl
theorem lk_X9_112 : Cond.methodLink RX9 112 yJ9_max_7cf53 ∈ TT := tt_of 797 (by decide +kernel) rfl
theorem fl_X9_19 : Cond.fieldLink RX9 19 RX9 "sum" "J" ∈ TT := tt_of 290 (by decide +kernel) rfl
theorem fl_X9_23 : Cond.fieldLink RX9 23 RX9 "allDone" "J" ∈ TT := tt_of 291 (by decide +kernel) rfl
theorem dX9_finish_0 : decode cX9_finish 0 = .ok (.aload_n 0, 1) := by decide +kernel
theorem dX9_finish_1 : decode cX9_finish 1 = .ok (.dup, 1) := by decide +kernel
theorem dX9_finish_2 : decode cX9_finish 2 = .ok (.getfield 19, 3) := by decide +kernel
theorem dX9_finish_5 : decode cX9_finish 5 = .ok (.lload_n 2, 1) := by decide +kernel
theorem dX9_finish_6 : decode cX9_finish 6 = .ok (.iload 4, 2) := by decide +kernel
theorem dX9_finish_8 : decode cX9_finish 8 = .ok (.i2l, 1) := by decide +kernel
theorem dX9_finish_9 : decode cX9_finish 9 = .ok (.lmul, 1) := by decide +kernel
theorem dX9_finish_10 : decode cX9_finish 10 = .ok (.ladd, 1) := by decide +kernel
theorem dX9_finish_11 : decode cX9_finish 11 = .ok (.putfield 19, 3) := by decide +kernel
theorem dX9_finish_14 : decode cX9_finish 14 = .ok (.iload 5, 2) := by decide +kernel
theorem dX9_finish_16 : decode cX9_finish 16 = .ok (.ifCond .ne 13, 3) := by decide +kernel
theorem dX9_finish_19 : decode cX9_finish 19 = .ok (.aload_n 0, 1) := by decide +kernel
theorem dX9_finish_20 : decode cX9_finish 20 = .ok (.dup, 1) := by decide +kernel
theorem dX9_finish_21 : decode cX9_finish 21 = .ok (.getfield 23, 3) := by decide +kernel
theorem dX9_finish_24 : decode cX9_finish 24 = .ok (.lload_n 2, 1) := by decide +kernel
theorem dX9_finish_25 : decode cX9_finish 25 = .ok (.ladd, 1) := by decide +kernel
theorem dX9_finish_26 : decode cX9_finish 26 = .ok (.putfield 23, 3) := by decide +kernel
theorem dX9_finish_29 : decode cX9_finish 29 = .ok (.aload_n 0, 1) := by decide +kernel
theorem dX9_finish_30 : decode cX9_finish 30 = .ok (.aload_n 0, 1) := by decide +kernel
theorem dX9_finish_31 : decode cX9_finish 31 = .ok (.getfield 29, 3) := by decide +kernel
theorem dX9_finish_34 : decode cX9_finish 34 = .ok (.iload_n 1, 1) := by decide +kernel
theorem dX9_finish_35 : decode cX9_finish 35 = .ok (.invokestatic 112, 3) := by decide +kernel
theorem dX9_finish_38 : decode cX9_finish 38 = .ok (.putfield 29, 3) := by decide +kernel
theorem dX9_finish_41 : decode cX9_finish 41 = .ok (.return_, 1) := by decide +kernel
def f_X9_finish_29 (S : St) (x1 : Int32) : Option St :=
  bnd (if (S.1 5 6) < x1 then x1 else (S.1 5 6) : Int32) fun v1 =>
  bnd (setI S 5 6 v1) fun S2 =>
  some S2
def f_X9_finish (S : St) (x1 : Int32) (x2 : Int64) (x4 : Int32) (x5 : Int32) : Option St :=
  bnd (setL S 5 3 ((S.2.1 5 3) + (x2 * (x4.toInt64)))) fun S3 =>
  if x5 = 0 then (
    bnd (setL S3 5 4 ((S3.2.1 5 4) + x2)) fun S5 =>
    f_X9_finish_29 S5 x1
  ) else (
    f_X9_finish_29 S3 x1
  )
set_option maxHeartbeats 4000000 in
set_option maxRecDepth 100000 in
theorem c_X9_finish {l : Launch} {D : va_G} {cI cC cS : ClassId} {ad adK adV : Nat → Nat} {S S1 : St} {x1 : Int32} {x2 : Int64} {x4 : Int32} {x5 : Int32} (h : f_X9_finish S x1 x2 x4 x5 = some S1) : Kt l D (xw cI cC cS ad) (KX D (xtys cI cC cS) adK adV) yX9_finish cX9_finish 6 none (1) (23) [.ref (ad 5), .int x1, .long x2, .int x4, .int x5] S (none) S1 := by
  refine k_ent (ins := .return_) (st := []) (by decide +kernel) (Nat.le_of_ble_eq_true rfl) ret_v ?_
  intro p e s m args below meth c A Q C hK I hA hq ls hl
  have C : CallFix p m c cX9_finish 6 s args TT RX9 := C
  have hx := C.1
  have hb := C.2.1
  have kx := kx_ok D (xtys cI cC cS) adK adV
  have hl : lv_has ls 6 [(0, .ref (ad 5)), (1, .int x1), (2, .long x2), (4, .int x4), (5, .int x5)] := hl
  have J_29 : ∀ (S : St) (x1 : Int32), f_X9_finish_29  S x1 = some S1 → ∀ (H : Heap) (locs : List Loc) (ls : Array Slot), Iv D (xw cI cC cS ad) S A s H locs → lv_has ls 6 [(0, .ref (ad 5)), (1, .int x1)] → W p l e ({ frames := 1, cells := 0, slots := 0, locals := 23 } : Room) s m args below meth c H locs 0 0 Q (F0 m 29 ls []) := by
    intro  S x1 h H locs ls I hl
    unfold f_X9_finish_29 at h
    refine lv_aload_n hx hb dX9_finish_29 rfl (lv_at hl 0 rfl) ?_
    refine lv_aload_n hx hb dX9_finish_30 rfl (lv_at hl 0 rfl) ?_
    refine gx_5_6 C hK I fl_X9_29 dX9_finish_31 ?_
    refine lv_iload_n hx hb dX9_finish_34 rfl (lv_at hl 1 rfl) ?_
    refine va_mmax (rest := [.ref (ad 5)]) hx hb (C.2.2.1.trans hl.1.symm) C.2.2.2.1 (C.2.2.2.2 _ lk_X9_112) (C.2.2.2.2 _ ms_J9_max_7cf53.2.1) (C.2.2.2.2 _ ms_J9_max_7cf53.2.2.1) (C.2.2.2.2 _ ms_J9_max_7cf53.1) (Nat.le_of_ble_eq_true rfl) (Nat.le_of_ble_eq_true rfl) (Nat.zero_le _) (Nat.zero_le _) dX9_finish_35 ?_
    refine lv_topi (fun v1 ev1 => ?_)
    have h := bnd_at ev1 h
    clear ev1
    refine px_5_6 C hK I fl_X9_29 dX9_finish_38 (fun S2 eS2 H locs I => ?_)
    have h := bnd_at eS2 h
    clear eS2
    exact rt_v hq h I dX9_finish_41
  unfold f_X9_finish at h
  refine lv_aload_n hx hb dX9_finish_0 rfl (lv_at hl 0 rfl) ?_
  refine lv_dup hx hb dX9_finish_1 rfl ?_
  refine gx_5_3 C hK I fl_X9_19 dX9_finish_2 ?_
  refine lv_lload_n hx hb dX9_finish_5 rfl (lv_at hl 2 rfl) ?_
  refine lv_iload hx hb dX9_finish_6 (lv_at hl 3 rfl) ?_
  refine lv_i2l hx hb dX9_finish_8 rfl ?_
  refine lv_lmul hx hb dX9_finish_9 ?_
  refine lv_ladd hx hb dX9_finish_10 ?_
  refine px_5_3 C hK I fl_X9_19 dX9_finish_11 (fun S3 eS3 H locs I => ?_)
  have h := bnd_at eS3 h
  clear eS3
  refine lv_iload hx hb dX9_finish_14 (lv_at hl 4 rfl) ?_
  refine lv_if_ne (tgt := 29) hx hb dX9_finish_16 (by decide) (fun c4 => ?_) (fun c4 => ?_)
  · have h := ite_n c4 h
    exact J_29 _ _ h _ _ _ I (lv_sub hl [0, 1] rfl)
  · have h := ite_t c4 h
    refine lv_aload_n hx hb dX9_finish_19 rfl (lv_at hl 0 rfl) ?_
    refine lv_dup hx hb dX9_finish_20 rfl ?_
    refine gx_5_4 C hK I fl_X9_23 dX9_finish_21 ?_
    refine lv_lload_n hx hb dX9_finish_24 rfl (lv_at hl 2 rfl) ?_
    refine lv_ladd hx hb dX9_finish_25 ?_
    refine px_5_4 C hK I fl_X9_23 dX9_finish_26 (fun S5 eS5 H locs I => ?_)
    have h := bnd_at eS5 h
    clear eS5
    exact J_29 _ _ h _ _ _ I (lv_sub hl [0, 1] rfl)
theorem dX9_sum_0 : decode cX9_sum 0 = .ok (.aload_n 0, 1) := by decide +kernel
theorem dX9_sum_1 : decode cX9_sum 1 = .ok (.getfield 19, 3) := by decide +kernel
theorem dX9_sum_4 : decode cX9_sum 4 = .ok (.lreturn, 1) := by decide +kernel
def f_X9_sum (S : St)  : Option (Int64 × St) :=
  some ((S.2.1 5 3), S)
set_option maxHeartbeats 4000000 in
set_option maxRecDepth 100000 in
theorem c_X9_sum {l : Launch} {D : va_G} {cI cC cS : ClassId} {ad adK adV : Nat → Nat} {S S1 : St}  {r : Int64} (h : f_X9_sum S  = some (r, S1)) : Kt l D (xw cI cC cS ad) (KX D (xtys cI cC cS) adK adV) yX9_sum cX9_sum 1 (some .long) (0) (0) [.ref (ad 5)] S (some (.long r)) S1 := by
  refine k_ent (ins := .lreturn) (st := [.long r]) (by decide +kernel) (Nat.le_of_ble_eq_true rfl) ret_l ?_
  intro p e s m args below meth c A Q C hK I hA hq ls hl
  have C : CallFix p m c cX9_sum 1 s args TT RX9 := C
  have hx := C.1
  have hb := C.2.1
  have kx := kx_ok D (xtys cI cC cS) adK adV
  have hl : lv_has ls 1 [(0, .ref (ad 5))] := hl
  unfold f_X9_sum at h
  refine lv_aload_n hx hb dX9_sum_0 rfl (lv_at hl 0 rfl) ?_
  refine gx_5_3 C hK I fl_X9_19 dX9_sum_1 ?_
  exact rt_l hq h I dX9_sum_4
theorem fl_X9_26 : Cond.fieldLink RX9 26 RX9 "scale" "J" ∈ TT := tt_of 292 (by decide +kernel) rfl
theorem dX9_scale_0 : decode cX9_scale 0 = .ok (.aload_n 0, 1) := by decide +kernel
theorem dX9_scale_1 : decode cX9_scale 1 = .ok (.getfield 26, 3) := by decide +kernel
theorem dX9_scale_4 : decode cX9_scale 4 = .ok (.lreturn, 1) := by decide +kernel
def f_X9_scale (S : St)  : Option (Int64 × St) :=
  some ((S.2.1 5 5), S)
set_option maxHeartbeats 4000000 in
set_option maxRecDepth 100000 in
theorem c_X9_scale {l : Launch} {D : va_G} {cI cC cS : ClassId} {ad adK adV : Nat → Nat} {S S1 : St}  {r : Int64} (h : f_X9_scale S  = some (r, S1)) : Kt l D (xw cI cC cS ad) (KX D (xtys cI cC cS) adK adV) yX9_scale cX9_scale 1 (some .long) (0) (0) [.ref (ad 5)] S (some (.long r)) S1 := by
  refine k_ent (ins := .lreturn) (st := [.long r]) (by decide +kernel) (Nat.le_of_ble_eq_true rfl) ret_l ?_
  intro p e s m args below meth c A Q C hK I hA hq ls hl
  have C : CallFix p m c cX9_scale 1 s args TT RX9 := C
  have hx := C.1
  have hb := C.2.1
  have kx := kx_ok D (xtys cI cC cS) adK adV
  have hl : lv_has ls 1 [(0, .ref (ad 5))] := hl
  unfold f_X9_scale at h
  refine lv_aload_n hx hb dX9_scale_0 rfl (lv_at hl 0 rfl) ?_
  refine gx_5_5 C hK I fl_X9_26 dX9_scale_1 ?_
  exact rt_l hq h I dX9_scale_4
theorem dX9_allDone_0 : decode cX9_allDone 0 = .ok (.aload_n 0, 1) := by decide +kernel
theorem dX9_allDone_1 : decode cX9_allDone 1 = .ok (.getfield 23, 3) := by decide +kernel
theorem dX9_allDone_4 : decode cX9_allDone 4 = .ok (.lreturn, 1) := by decide +kernel
def f_X9_allDone (S : St)  : Option (Int64 × St) :=
  some ((S.2.1 5 4), S)
set_option maxHeartbeats 4000000 in
set_option maxRecDepth 100000 in
theorem c_X9_allDone {l : Launch} {D : va_G} {cI cC cS : ClassId} {ad adK adV : Nat → Nat} {S S1 : St}  {r : Int64} (h : f_X9_allDone S  = some (r, S1)) : Kt l D (xw cI cC cS ad) (KX D (xtys cI cC cS) adK adV) yX9_allDone cX9_allDone 1 (some .long) (0) (0) [.ref (ad 5)] S (some (.long r)) S1 := by
  refine k_ent (ins := .lreturn) (st := [.long r]) (by decide +kernel) (Nat.le_of_ble_eq_true rfl) ret_l ?_
  intro p e s m args below meth c A Q C hK I hA hq ls hl
  have C : CallFix p m c cX9_allDone 1 s args TT RX9 := C
  have hx := C.1
  have hb := C.2.1
  have kx := kx_ok D (xtys cI cC cS) adK adV
  have hl : lv_has ls 1 [(0, .ref (ad 5))] := hl
  unfold f_X9_allDone at h
  refine lv_aload_n hx hb dX9_allDone_0 rfl (lv_at hl 0 rfl) ?_
  refine gx_5_4 C hK I fl_X9_23 dX9_allDone_1 ?_
  exact rt_l hq h I dX9_allDone_4
theorem dX9_latest_0 : decode cX9_latest 0 = .ok (.aload_n 0, 1) := by decide +kernel
theorem dX9_latest_1 : decode cX9_latest 1 = .ok (.getfield 29, 3) := by decide +kernel
theorem dX9_latest_4 : decode cX9_latest 4 = .ok (.ireturn, 1) := by decide +kernel
def f_X9_latest (S : St)  : Option (Int32 × St) :=
  some ((S.1 5 6), S)
set_option maxHeartbeats 4000000 in
set_option maxRecDepth 100000 in
theorem c_X9_latest {l : Launch} {D : va_G} {cI cC cS : ClassId} {ad adK adV : Nat → Nat} {S S1 : St}  {r : Int32} (h : f_X9_latest S  = some (r, S1)) : Kt l D (xw cI cC cS ad) (KX D (xtys cI cC cS) adK adV) yX9_latest cX9_latest 1 (some .int) (0) (0) [.ref (ad 5)] S (some (.int r)) S1 := by
  refine k_ent (ins := .ireturn) (st := [.int r]) (by decide +kernel) (Nat.le_of_ble_eq_true rfl) ret_i ?_
  intro p e s m args below meth c A Q C hK I hA hq ls hl
  have C : CallFix p m c cX9_latest 1 s args TT RX9 := C
  have hx := C.1
  have hb := C.2.1
  have kx := kx_ok D (xtys cI cC cS) adK adV
  have hl : lv_has ls 1 [(0, .ref (ad 5))] := hl
  unfold f_X9_latest at h
  refine lv_aload_n hx hb dX9_latest_0 rfl (lv_at hl 0 rfl) ?_
  refine gx_5_6 C hK I fl_X9_29 dX9_latest_1 ?_
  exact rt_i hq h I dX9_latest_4
theorem fl_X9_33 : Cond.fieldLink RX9 33 RX9 "doneBits" "I" ∈ TT := tt_of 294 (by decide +kernel) rfl
theorem dX9_doneBits_0 : decode cX9_doneBits 0 = .ok (.aload_n 0, 1) := by decide +kernel
theorem dX9_doneBits_1 : decode cX9_doneBits 1 = .ok (.getfield 33, 3) := by decide +kernel
theorem dX9_doneBits_4 : decode cX9_doneBits 4 = .ok (.ireturn, 1) := by decide +kernel
def f_X9_doneBits (S : St)  : Option (Int32 × St) :=
  some ((S.1 5 7), S)
set_option maxHeartbeats 4000000 in
set_option maxRecDepth 100000 in
theorem c_X9_doneBits {l : Launch} {D : va_G} {cI cC cS : ClassId} {ad adK adV : Nat → Nat} {S S1 : St}  {r : Int32} (h : f_X9_doneBits S  = some (r, S1)) : Kt l D (xw cI cC cS ad) (KX D (xtys cI cC cS) adK adV) yX9_doneBits cX9_doneBits 1 (some .int) (0) (0) [.ref (ad 5)] S (some (.int r)) S1 := by
  refine k_ent (ins := .ireturn) (st := [.int r]) (by decide +kernel) (Nat.le_of_ble_eq_true rfl) ret_i ?_
  intro p e s m args below meth c A Q C hK I hA hq ls hl
  have C : CallFix p m c cX9_doneBits 1 s args TT RX9 := C
  have hx := C.1
  have hb := C.2.1
  have kx := kx_ok D (xtys cI cC cS) adK adV
  have hl : lv_has ls 1 [(0, .ref (ad 5))] := hl
  unfold f_X9_doneBits at h
  refine lv_aload_n hx hb dX9_doneBits_0 rfl (lv_at hl 0 rfl) ?_
  refine gx_5_7 C hK I fl_X9_33 dX9_doneBits_1 ?_
  exact rt_i hq h I dX9_doneBits_4
theorem fl_X9_36 : Cond.fieldLink RX9 36 RX9 "bagLeft" "I" ∈ TT := tt_of 295 (by decide +kernel) rfl
theorem dX9_bagLeft_0 : decode cX9_bagLeft 0 = .ok (.aload_n 0, 1) := by decide +kernel
theorem dX9_bagLeft_1 : decode cX9_bagLeft 1 = .ok (.getfield 36, 3) := by decide +kernel
theorem dX9_bagLeft_4 : decode cX9_bagLeft 4 = .ok (.ireturn, 1) := by decide +kernel
def f_X9_bagLeft (S : St)  : Option (Int32 × St) :=
  some ((S.1 5 8), S)
set_option maxHeartbeats 4000000 in
set_option maxRecDepth 100000 in
theorem c_X9_bagLeft {l : Launch} {D : va_G} {cI cC cS : ClassId} {ad adK adV : Nat → Nat} {S S1 : St}  {r : Int32} (h : f_X9_bagLeft S  = some (r, S1)) : Kt l D (xw cI cC cS ad) (KX D (xtys cI cC cS) adK adV) yX9_bagLeft cX9_bagLeft 1 (some .int) (0) (0) [.ref (ad 5)] S (some (.int r)) S1 := by
  refine k_ent (ins := .ireturn) (st := [.int r]) (by decide +kernel) (Nat.le_of_ble_eq_true rfl) ret_i ?_
  intro p e s m args below meth c A Q C hK I hA hq ls hl
  have C : CallFix p m c cX9_bagLeft 1 s args TT RX9 := C
  have hx := C.1
  have hb := C.2.1
  have kx := kx_ok D (xtys cI cC cS) adK adV
  have hl : lv_has ls 1 [(0, .ref (ad 5))] := hl
  unfold f_X9_bagLeft at h
  refine lv_aload_n hx hb dX9_bagLeft_0 rfl (lv_at hl 0 rfl) ?_
  refine gx_5_8 C hK I fl_X9_36 dX9_bagLeft_1 ?_
  exact rt_i hq h I dX9_bagLeft_4
theorem fl_X9_106 : Cond.fieldLinkNest RX9 106 RX1 "worth" "I" "CarryUp" ∈ NN := nn_of 197 (by decide +kernel) rfl
theorem fl_X9_103 : Cond.fieldLinkNest RX9 103 RX7 "minutes" "I" "CarryUp" ∈ NN := nn_of 162 (by decide +kernel) rfl
theorem fl_X9_78 : Cond.fieldLinkNest RX9 78 RX1 "again" "I" "CarryUp" ∈ NN := nn_of 201 (by decide +kernel) rfl
theorem fl_X9_109 : Cond.fieldLinkNest RX9 109 RX1 "look" "I" "CarryUp" ∈ NN := nn_of 205 (by decide +kernel) rfl
theorem fl_X9_9 : Cond.fieldLink RX9 9 RX9 "plan" "LCarryUp$Plan;" ∈ TT := tt_of 287 (by decide +kernel) rfl
theorem lk_X9_95 : Cond.methodLink RX9 95 yX4_tools ∈ TT := tt_of 821 (by decide +kernel) rfl
theorem mv_X4_tools : MV yX4_tools cX4_tools 1 (some .int) 0 := ⟨tt_of 648 (by decide +kernel) rfl, tt_of 646 (by decide +kernel) rfl, tt_of 647 (by decide +kernel) rfl, tt_of 68 (by decide +kernel) rfl, ⟨by decide +kernel, by decide +kernel, by decide +kernel⟩⟩
theorem lk_X9_98 : Cond.methodLink RX9 98 yX7_left ∈ TT := tt_of 822 (by decide +kernel) rfl
theorem mv_X7_left : MV yX7_left cX7_left 4 (some .int) 2 := ⟨tt_of 708 (by decide +kernel) rfl, tt_of 706 (by decide +kernel) rfl, tt_of 707 (by decide +kernel) rfl, tt_of 70 (by decide +kernel) rfl, ⟨by decide +kernel, by decide +kernel, by decide +kernel⟩⟩
theorem dX9_meet_0 : decode cX9_meet 0 = .ok (.aload_n 3, 1) := by decide +kernel
theorem dX9_meet_1 : decode cX9_meet 1 = .ok (.ifnonnull 7, 3) := by decide +kernel
theorem dX9_meet_4 : decode cX9_meet 4 = .ok (.iconst (-1), 1) := by decide +kernel
theorem dX9_meet_5 : decode cX9_meet 5 = .ok (.goto 18, 3) := by decide +kernel
theorem dX9_meet_8 : decode cX9_meet 8 = .ok (.aload_n 3, 1) := by decide +kernel
theorem dX9_meet_9 : decode cX9_meet 9 = .ok (.aload_n 0, 1) := by decide +kernel
theorem dX9_meet_10 : decode cX9_meet 10 = .ok (.getfield 36, 3) := by decide +kernel
theorem dX9_meet_13 : decode cX9_meet 13 = .ok (.aload_n 0, 1) := by decide +kernel
theorem dX9_meet_14 : decode cX9_meet 14 = .ok (.getfield 9, 3) := by decide +kernel
theorem dX9_meet_17 : decode cX9_meet 17 = .ok (.invokevirtual 95, 3) := by decide +kernel
theorem dX9_meet_20 : decode cX9_meet 20 = .ok (.invokevirtual 98, 3) := by decide +kernel
theorem dX9_meet_23 : decode cX9_meet 23 = .ok (.istore 4, 2) := by decide +kernel
theorem dX9_meet_25 : decode cX9_meet 25 = .ok (.iload 4, 2) := by decide +kernel
theorem dX9_meet_27 : decode cX9_meet 27 = .ok (.iconst (-1), 1) := by decide +kernel
theorem dX9_meet_28 : decode cX9_meet 28 = .ok (.if_icmp .ne 33, 3) := by decide +kernel
theorem dX9_meet_31 : decode cX9_meet 31 = .ok (.aload_n 0, 1) := by decide +kernel
theorem dX9_meet_32 : decode cX9_meet 32 = .ok (.dup, 1) := by decide +kernel
theorem dX9_meet_33 : decode cX9_meet 33 = .ok (.getfield 19, 3) := by decide +kernel
theorem dX9_meet_36 : decode cX9_meet 36 = .ok (.aload_n 2, 1) := by decide +kernel
theorem dX9_meet_37 : decode cX9_meet 37 = .ok (.getfield 78, 3) := by decide +kernel
theorem dX9_meet_40 : decode cX9_meet 40 = .ok (.i2l, 1) := by decide +kernel
theorem dX9_meet_41 : decode cX9_meet 41 = .ok (.lsub, 1) := by decide +kernel
theorem dX9_meet_42 : decode cX9_meet 42 = .ok (.putfield 19, 3) := by decide +kernel
theorem dX9_meet_45 : decode cX9_meet 45 = .ok (.aload_n 0, 1) := by decide +kernel
theorem dX9_meet_46 : decode cX9_meet 46 = .ok (.dup, 1) := by decide +kernel
theorem dX9_meet_47 : decode cX9_meet 47 = .ok (.getfield 29, 3) := by decide +kernel
theorem dX9_meet_50 : decode cX9_meet 50 = .ok (.aload_n 2, 1) := by decide +kernel
theorem dX9_meet_51 : decode cX9_meet 51 = .ok (.getfield 109, 3) := by decide +kernel
theorem dX9_meet_54 : decode cX9_meet 54 = .ok (.iadd, 1) := by decide +kernel
theorem dX9_meet_55 : decode cX9_meet 55 = .ok (.putfield 29, 3) := by decide +kernel
theorem dX9_meet_58 : decode cX9_meet 58 = .ok (.goto 56, 3) := by decide +kernel
theorem dX9_meet_61 : decode cX9_meet 61 = .ok (.aload_n 0, 1) := by decide +kernel
theorem dX9_meet_62 : decode cX9_meet 62 = .ok (.dup, 1) := by decide +kernel
theorem dX9_meet_63 : decode cX9_meet 63 = .ok (.getfield 19, 3) := by decide +kernel
theorem dX9_meet_66 : decode cX9_meet 66 = .ok (.aload_n 2, 1) := by decide +kernel
theorem dX9_meet_67 : decode cX9_meet 67 = .ok (.getfield 106, 3) := by decide +kernel
theorem dX9_meet_70 : decode cX9_meet 70 = .ok (.i2l, 1) := by decide +kernel
theorem dX9_meet_71 : decode cX9_meet 71 = .ok (.ladd, 1) := by decide +kernel
theorem dX9_meet_72 : decode cX9_meet 72 = .ok (.putfield 19, 3) := by decide +kernel
theorem dX9_meet_75 : decode cX9_meet 75 = .ok (.aload_n 0, 1) := by decide +kernel
theorem dX9_meet_76 : decode cX9_meet 76 = .ok (.dup, 1) := by decide +kernel
theorem dX9_meet_77 : decode cX9_meet 77 = .ok (.getfield 29, 3) := by decide +kernel
theorem dX9_meet_80 : decode cX9_meet 80 = .ok (.aload_n 3, 1) := by decide +kernel
theorem dX9_meet_81 : decode cX9_meet 81 = .ok (.ifnonnull 7, 3) := by decide +kernel
theorem dX9_meet_84 : decode cX9_meet 84 = .ok (.iconst 0, 1) := by decide +kernel
theorem dX9_meet_85 : decode cX9_meet 85 = .ok (.goto 7, 3) := by decide +kernel
theorem dX9_meet_88 : decode cX9_meet 88 = .ok (.aload_n 3, 1) := by decide +kernel
theorem dX9_meet_89 : decode cX9_meet 89 = .ok (.getfield 103, 3) := by decide +kernel
theorem dX9_meet_92 : decode cX9_meet 92 = .ok (.iadd, 1) := by decide +kernel
theorem dX9_meet_93 : decode cX9_meet 93 = .ok (.putfield 29, 3) := by decide +kernel
theorem dX9_meet_96 : decode cX9_meet 96 = .ok (.aload_n 0, 1) := by decide +kernel
theorem dX9_meet_97 : decode cX9_meet 97 = .ok (.iload 4, 2) := by decide +kernel
theorem dX9_meet_99 : decode cX9_meet 99 = .ok (.putfield 36, 3) := by decide +kernel
theorem dX9_meet_102 : decode cX9_meet 102 = .ok (.aload_n 0, 1) := by decide +kernel
theorem dX9_meet_103 : decode cX9_meet 103 = .ok (.dup, 1) := by decide +kernel
theorem dX9_meet_104 : decode cX9_meet 104 = .ok (.getfield 33, 3) := by decide +kernel
theorem dX9_meet_107 : decode cX9_meet 107 = .ok (.iconst 1, 1) := by decide +kernel
theorem dX9_meet_108 : decode cX9_meet 108 = .ok (.iload_n 1, 1) := by decide +kernel
theorem dX9_meet_109 : decode cX9_meet 109 = .ok (.ishl, 1) := by decide +kernel
theorem dX9_meet_110 : decode cX9_meet 110 = .ok (.ior, 1) := by decide +kernel
theorem dX9_meet_111 : decode cX9_meet 111 = .ok (.putfield 33, 3) := by decide +kernel
theorem dX9_meet_114 : decode cX9_meet 114 = .ok (.return_, 1) := by decide +kernel
def f_X9_meet_92 (S : St) (x1 : Int32) (x4 : Int32) (t1 : Int32) (t2 : Int32) : Option St :=
  bnd (setI S 5 6 (t1 + t2)) fun S1 =>
  bnd (setI S1 5 8 x4) fun S2 =>
  bnd (setI S2 5 7 ((S2.1 5 7) ||| ((1 : Int32) <<< (x1 &&& 31)))) fun S3 =>
  some S3
def f_X9_meet_23 (S : St) (x1 : Int32) (x2 : Fin 6) (x3 : Option (Fin 24)) (t0 : Int32) : Option St :=
  if t0 = (-1) then (
    bnd (setL S 5 3 ((S.2.1 5 3) - (((S.1 (21 + x2.val) 8) : Int32).toInt64))) fun S7 =>
    bnd (setI S7 5 6 ((S7.1 5 6) + (S7.1 (21 + x2.val) 9))) fun S8 =>
    some S8
  ) else (
    bnd (setL S 5 3 ((S.2.1 5 3) + (((S.1 (21 + x2.val) 7) : Int32).toInt64))) fun S5 =>
    oel x3 (
      f_X9_meet_92 S5 x1 t0 (S5.1 5 6) 0
    ) fun v6 =>
      f_X9_meet_92 S5 x1 t0 (S5.1 5 6) (S5.1 (33 + v6.val) 1)
  )
def f_X9_meet (S : St) (x1 : Int32) (x2 : Fin 6) (x3 : Option (Fin 24)) : Option St :=
  oel x3 (
    f_X9_meet_23 S x1 x2 none (-1)
  ) fun v9 =>
    obd2 (f_X4_tools S ) fun r10 S10 =>
    obd2 (f_X7_left S10 v9 (S.1 5 8) r10) fun r11 S11 =>
    f_X9_meet_23 S11 x1 x2 (some v9) r11
set_option maxHeartbeats 4000000 in
set_option maxRecDepth 100000 in
theorem c_X9_meet {l : Launch} {D : va_G} {cI cC cS : ClassId} {ad adK adV : Nat → Nat} {S S1 : St} {x1 : Int32} {x2 : Fin 6} {x3 : Option (Fin 24)} (h : f_X9_meet S x1 x2 x3 = some S1) : Kt l D (xw cI cC cS ad) (KX D (xtys cI cC cS) adK adV) yX9_meet cX9_meet 5 none (2) (45) [.ref (ad 5), .int x1, .ref (ad (21 + x2.val)), rS ad x3] S (none) S1 := by
  refine k_ent (ins := .return_) (st := []) (by decide +kernel) (by cases x3 <;> exact Nat.le_of_ble_eq_true rfl) ret_v ?_
  intro p e s m args below meth c A Q C hK I hA hq ls hl
  have C : CallFix p m c cX9_meet 5 s args TT RX9 := C
  have hx := C.1
  have hb := C.2.1
  have kx := kx_ok D (xtys cI cC cS) adK adV
  have hl : lv_has ls 5 [(0, .ref (ad 5)), (1, .int x1), (2, .ref (ad (21 + x2.val))), (3, rS ad x3)] := by cases x3 <;> exact hl
  have J_92 : ∀ (S : St) (x1 : Int32) (x4 : Int32) (t1 : Int32) (t2 : Int32), f_X9_meet_92  S x1 x4 t1 t2 = some S1 → ∀ (H : Heap) (locs : List Loc) (ls : Array Slot), Iv D (xw cI cC cS ad) S A s H locs → lv_has ls 5 [(0, .ref (ad 5)), (1, .int x1), (4, .int x4)] → W p l e ({ frames := 2, cells := 0, slots := 0, locals := 45 } : Room) s m args below meth c H locs 0 0 Q (F0 m 92 ls [.int t2, .int t1, .ref (ad 5)]) := by
    intro  S x1 x4 t1 t2 h H locs ls I hl
    unfold f_X9_meet_92 at h
    refine lv_iadd hx hb dX9_meet_92 ?_
    refine px_5_6 C hK I fl_X9_29 dX9_meet_93 (fun S1 eS1 H locs I => ?_)
    have h := bnd_at eS1 h
    clear eS1
    refine lv_aload_n hx hb dX9_meet_96 rfl (lv_at hl 0 rfl) ?_
    refine lv_iload hx hb dX9_meet_97 (lv_at hl 2 rfl) ?_
    refine px_5_8 C hK I fl_X9_36 dX9_meet_99 (fun S2 eS2 H locs I => ?_)
    have h := bnd_at eS2 h
    clear eS2
    refine lv_aload_n hx hb dX9_meet_102 rfl (lv_at hl 0 rfl) ?_
    refine lv_dup hx hb dX9_meet_103 rfl ?_
    refine gx_5_7 C hK I fl_X9_33 dX9_meet_104 ?_
    refine lv_iconst (v := 1) hx hb dX9_meet_107 (by decide) ?_
    refine lv_iload_n hx hb dX9_meet_108 rfl (lv_at hl 1 rfl) ?_
    refine lv_ishl hx hb dX9_meet_109 ?_
    refine lv_ior hx hb dX9_meet_110 ?_
    refine px_5_7 C hK I fl_X9_33 dX9_meet_111 (fun S3 eS3 H locs I => ?_)
    have h := bnd_at eS3 h
    clear eS3
    exact rt_v hq h I dX9_meet_114
  have J_23 : ∀ (S : St) (x1 : Int32) (x2 : Fin 6) (x3 : Option (Fin 24)) (t0 : Int32), f_X9_meet_23  S x1 x2 x3 t0 = some S1 → ∀ (H : Heap) (locs : List Loc) (ls : Array Slot), Iv D (xw cI cC cS ad) S A s H locs → lv_has ls 5 [(0, .ref (ad 5)), (1, .int x1), (2, .ref (ad (21 + x2.val))), (3, rS ad x3)] → W p l e ({ frames := 2, cells := 0, slots := 0, locals := 45 } : Room) s m args below meth c H locs 0 0 Q (F0 m 23 ls [.int t0]) := by
    intro  S x1 x2 x3 t0 h H locs ls I hl
    unfold f_X9_meet_23 at h
    refine lv_istore (lv' := [(4, .int t0), (0, .ref (ad 5)), (1, .int x1), (2, .ref (ad (21 + x2.val))), (3, rS ad x3)]) hx hb dX9_meet_23 hl (by decide) (by first | rfl | (simp [cat_rC, cat_rS]; done) | (simp [cat_rC, cat_rS]; rfl)) (fun ls hl => ?_)
    refine lv_iload hx hb dX9_meet_25 (lv_at hl 0 rfl) ?_
    refine lv_iconst (v := (-1)) hx hb dX9_meet_27 (by decide) ?_
    refine lv_icmp_ne (tgt := 61) hx hb dX9_meet_28 (by decide) (fun c4 => ?_) (fun c4 => ?_)
    · have h := ite_n c4 h
      refine lv_aload_n hx hb dX9_meet_61 rfl (lv_at hl 1 rfl) ?_
      refine lv_dup hx hb dX9_meet_62 rfl ?_
      refine gx_5_3 C hK I fl_X9_19 dX9_meet_63 ?_
      refine lv_aload_n hx hb dX9_meet_66 rfl (lv_at hl 3 rfl) ?_
      refine gxN_C_7 C hK I fl_X9_106 dX9_meet_67 ?_
      refine lv_i2l hx hb dX9_meet_70 rfl ?_
      refine lv_ladd hx hb dX9_meet_71 ?_
      refine px_5_3 C hK I fl_X9_19 dX9_meet_72 (fun S5 eS5 H locs I => ?_)
      have h := bnd_at eS5 h
      clear eS5
      refine lv_aload_n hx hb dX9_meet_75 rfl (lv_at hl 1 rfl) ?_
      refine lv_dup hx hb dX9_meet_76 rfl ?_
      refine gx_5_6 C hK I fl_X9_29 dX9_meet_77 ?_
      refine k_aload_n _ hx hb dX9_meet_80 rfl rfl (lv_at hl 4 rfl) ?_
      refine k_ifnn hx hb dX9_meet_81 (tgt := 88) (by decide) (fun v6 ho => ?_) (fun ho => ?_)
      · subst ho
        have h := oel_s h
        have hl : lv_has ls 5 [(4, .int t0), (0, .ref (ad 5)), (1, .int x1), (2, .ref (ad (21 + x2.val))), (3, .ref (ad (33 + v6.val)))] := hl
        refine lv_aload_n hx hb dX9_meet_88 rfl (lv_at hl 4 rfl) ?_
        refine gxN_S_1 C hK I fl_X9_103 dX9_meet_89 ?_
        exact J_92 _ _ _ _ _ h _ _ _ I (lv_sub hl [1, 2, 0] rfl)
      · subst ho
        have h := oel_n h
        have hl : lv_has ls 5 [(4, .int t0), (0, .ref (ad 5)), (1, .int x1), (2, .ref (ad (21 + x2.val))), (3, .null)] := hl
        refine lv_iconst (v := 0) hx hb dX9_meet_84 (by decide) ?_
        refine lv_goto (tgt := 92) hx hb dX9_meet_85 (by decide) ?_
        exact J_92 _ _ _ _ _ h _ _ _ I (lv_sub hl [1, 2, 0] rfl)
    · have h := ite_t c4 h
      refine lv_aload_n hx hb dX9_meet_31 rfl (lv_at hl 1 rfl) ?_
      refine lv_dup hx hb dX9_meet_32 rfl ?_
      refine gx_5_3 C hK I fl_X9_19 dX9_meet_33 ?_
      refine lv_aload_n hx hb dX9_meet_36 rfl (lv_at hl 3 rfl) ?_
      refine gxN_C_8 C hK I fl_X9_78 dX9_meet_37 ?_
      refine lv_i2l hx hb dX9_meet_40 rfl ?_
      refine lv_lsub hx hb dX9_meet_41 ?_
      refine px_5_3 C hK I fl_X9_19 dX9_meet_42 (fun S7 eS7 H locs I => ?_)
      have h := bnd_at eS7 h
      clear eS7
      refine lv_aload_n hx hb dX9_meet_45 rfl (lv_at hl 1 rfl) ?_
      refine lv_dup hx hb dX9_meet_46 rfl ?_
      refine gx_5_6 C hK I fl_X9_29 dX9_meet_47 ?_
      refine lv_aload_n hx hb dX9_meet_50 rfl (lv_at hl 3 rfl) ?_
      refine gxN_C_9 C hK I fl_X9_109 dX9_meet_51 ?_
      refine lv_iadd hx hb dX9_meet_54 ?_
      refine px_5_6 C hK I fl_X9_29 dX9_meet_55 (fun S8 eS8 H locs I => ?_)
      have h := bnd_at eS8 h
      clear eS8
      refine lv_goto (tgt := 114) hx hb dX9_meet_58 (by decide) ?_
      exact rt_v hq h I dX9_meet_114
  unfold f_X9_meet at h
  refine k_aload_n _ hx hb dX9_meet_0 rfl rfl (lv_at hl 3 rfl) ?_
  refine k_ifnn hx hb dX9_meet_1 (tgt := 8) (by decide) (fun v9 ho => ?_) (fun ho => ?_)
  · subst ho
    have h := oel_s h
    have hl : lv_has ls 5 [(0, .ref (ad 5)), (1, .int x1), (2, .ref (ad (21 + x2.val))), (3, .ref (ad (33 + v9.val)))] := hl
    refine lv_aload_n hx hb dX9_meet_8 rfl (lv_at hl 3 rfl) ?_
    refine lv_aload_n hx hb dX9_meet_9 rfl (lv_at hl 0 rfl) ?_
    refine gx_5_8 C hK I fl_X9_36 dX9_meet_10 ?_
    refine lv_aload_n hx hb dX9_meet_13 rfl (lv_at hl 0 rfl) ?_
    refine gx_5_0 C hK I fl_X9_9 dX9_meet_14 ?_
    obtain ⟨r10, S10, e10, h⟩ := obd2_ex h
    refine k_V (As := []) (rest := [.int (S.1 5 8), .ref (ad (33 + v9.val))]) (st1 := [.int r10, .int (S.1 5 8), .ref (ad (33 + v9.val))]) C kx hK I hA (c_X4_tools e10) ⟨Nat.le_of_ble_eq_true rfl, Nat.le_of_ble_eq_true rfl⟩ mv_X4_tools lk_X9_95 3 4 (xw_3 (cI := cI) (ad := ad) (cC := cC) (cS := cS)) rfl rfl hl.1 rfl (Nat.le_of_ble_eq_true rfl) dX9_meet_17 rfl (fun H locs I => ?_)
    obtain ⟨r11, S11, e11, h⟩ := obd2_ex h
    refine k_V (As := [.int (S.1 5 8), .int r10]) (rest := []) (st1 := [.int r11]) C kx hK I hA (c_X7_left e11) ⟨Nat.le_of_ble_eq_true rfl, Nat.le_of_ble_eq_true rfl⟩ mv_X7_left lk_X9_98 (33 + v9.val) 7 (xw_S (cI := cI) (cC := cC) (cS := cS) (ad := ad) v9) rfl rfl hl.1 rfl (Nat.le_of_ble_eq_true rfl) dX9_meet_20 rfl (fun H locs I => ?_)
    exact J_23 _ _ _ _ _ h _ _ _ I (lv_sub hl [0, 1, 2, 3] rfl)
  · subst ho
    have h := oel_n h
    have hl : lv_has ls 5 [(0, .ref (ad 5)), (1, .int x1), (2, .ref (ad (21 + x2.val))), (3, .null)] := hl
    refine lv_iconst (v := (-1)) hx hb dX9_meet_4 (by decide) ?_
    refine lv_goto (tgt := 23) hx hb dX9_meet_5 (by decide) ?_
    exact J_23 _ _ _ _ _ h _ _ _ I (lv_sub hl [0, 1, 2, 3] rfl)
theorem fl_X9_15 : Cond.fieldLink RX9 15 RX9 "row" "LCarryUp$Row;" ∈ TT := tt_of 288 (by decide +kernel) rfl
theorem lk_X9_42 : Cond.methodLink RX9 42 yX6_length ∈ TT := tt_of 773 (by decide +kernel) rfl
theorem mv_X6_length : MV yX6_length cX6_length 1 (some .int) 0 := ⟨tt_of 776 (by decide +kernel) rfl, tt_of 774 (by decide +kernel) rfl, tt_of 775 (by decide +kernel) rfl, tt_of 71 (by decide +kernel) rfl, ⟨by decide +kernel, by decide +kernel, by decide +kernel⟩⟩
theorem lk_X9_65 : Cond.methodLink RX9 65 yX6_wayTo ∈ TT := tt_of 800 (by decide +kernel) rfl
theorem mv_X6_wayTo : MV yX6_wayTo cX6_wayTo 2 (some .int) 1 := ⟨tt_of 803 (by decide +kernel) rfl, tt_of 801 (by decide +kernel) rfl, tt_of 802 (by decide +kernel) rfl, tt_of 71 (by decide +kernel) rfl, ⟨by decide +kernel, by decide +kernel, by decide +kernel⟩⟩
theorem lk_X9_68 : Cond.methodLink RX9 68 yX6_callAt ∈ TT := tt_of 804 (by decide +kernel) rfl
theorem lk_X9_72 : Cond.methodLink RX9 72 yX1_lateAt ∈ TT := tt_of 805 (by decide +kernel) rfl
theorem mv_X1_lateAt : MV yX1_lateAt cX1_lateAt 2 (some .boolean) 1 := ⟨tt_of 808 (by decide +kernel) rfl, tt_of 806 (by decide +kernel) rfl, tt_of 807 (by decide +kernel) rfl, tt_of 69 (by decide +kernel) rfl, ⟨by decide +kernel, by decide +kernel, by decide +kernel⟩⟩
theorem cn_X9_117 : Cond.constant RX9 117 (65536) ∈ TT := tt_of 1061 (by decide +kernel) rfl
theorem lk_X9_81 : Cond.methodLink RX9 81 yX1_startedAt ∈ TT := tt_of 809 (by decide +kernel) rfl
theorem mv_X1_startedAt : MV yX1_startedAt cX1_startedAt 2 (some .int) 1 := ⟨tt_of 812 (by decide +kernel) rfl, tt_of 810 (by decide +kernel) rfl, tt_of 811 (by decide +kernel) rfl, tt_of 69 (by decide +kernel) rfl, ⟨by decide +kernel, by decide +kernel, by decide +kernel⟩⟩
theorem lk_X9_118 : Cond.methodLink RX9 118 yX6_stopAt ∈ TT := tt_of 1062 (by decide +kernel) rfl
theorem mv_X6_stopAt : MV yX6_stopAt cX6_stopAt 2 (some .int) 1 := ⟨tt_of 1065 (by decide +kernel) rfl, tt_of 1063 (by decide +kernel) rfl, tt_of 1064 (by decide +kernel) rfl, tt_of 71 (by decide +kernel) rfl, ⟨by decide +kernel, by decide +kernel, by decide +kernel⟩⟩
theorem lk_X9_121 : Cond.methodLink RX9 121 yX1_drawn ∈ TT := tt_of 1066 (by decide +kernel) rfl
theorem mv_X1_drawn : MV yX1_drawn cX1_drawn 5 (some (.object "CarryUp$Sort")) 1 := ⟨tt_of 1069 (by decide +kernel) rfl, tt_of 1067 (by decide +kernel) rfl, tt_of 1068 (by decide +kernel) rfl, tt_of 69 (by decide +kernel) rfl, ⟨by decide +kernel, by decide +kernel, by decide +kernel⟩⟩
theorem lk_X9_124 : Cond.methodLink RX9 124 yX9_meet ∈ TT := tt_of 1070 (by decide +kernel) rfl
theorem mv_X9_meet : MV yX9_meet cX9_meet 5 none 3 := ⟨tt_of 1073 (by decide +kernel) rfl, tt_of 1072 (by decide +kernel) rfl, tt_of 22 (by decide +kernel) rfl, tt_of 72 (by decide +kernel) rfl, ⟨by decide +kernel, by decide +kernel, by decide +kernel⟩⟩
theorem lk_X9_52 : Cond.methodLink RX9 52 yX4_begin ∈ TT := tt_of 786 (by decide +kernel) rfl
theorem mv_X4_begin : MV yX4_begin cX4_begin 1 (some .int) 0 := ⟨tt_of 789 (by decide +kernel) rfl, tt_of 787 (by decide +kernel) rfl, tt_of 788 (by decide +kernel) rfl, tt_of 68 (by decide +kernel) rfl, ⟨by decide +kernel, by decide +kernel, by decide +kernel⟩⟩
theorem dX9_draw_0 : decode cX9_draw 0 = .ok (.iload_n 1, 1) := by decide +kernel
theorem dX9_draw_1 : decode cX9_draw 1 = .ok (.istore_n 3, 1) := by decide +kernel
theorem dX9_draw_2 : decode cX9_draw 2 = .ok (.aload_n 0, 1) := by decide +kernel
theorem dX9_draw_3 : decode cX9_draw 3 = .ok (.lconst 0, 1) := by decide +kernel
theorem dX9_draw_4 : decode cX9_draw 4 = .ok (.putfield 19, 3) := by decide +kernel
theorem dX9_draw_7 : decode cX9_draw 7 = .ok (.aload_n 0, 1) := by decide +kernel
theorem dX9_draw_8 : decode cX9_draw 8 = .ok (.iconst 0, 1) := by decide +kernel
theorem dX9_draw_9 : decode cX9_draw 9 = .ok (.putfield 33, 3) := by decide +kernel
theorem dX9_draw_12 : decode cX9_draw 12 = .ok (.aload_n 0, 1) := by decide +kernel
theorem dX9_draw_13 : decode cX9_draw 13 = .ok (.iload_n 2, 1) := by decide +kernel
theorem dX9_draw_14 : decode cX9_draw 14 = .ok (.putfield 36, 3) := by decide +kernel
theorem dX9_draw_17 : decode cX9_draw 17 = .ok (.aload_n 0, 1) := by decide +kernel
theorem dX9_draw_18 : decode cX9_draw 18 = .ok (.aload_n 0, 1) := by decide +kernel
theorem dX9_draw_19 : decode cX9_draw 19 = .ok (.getfield 9, 3) := by decide +kernel
theorem dX9_draw_22 : decode cX9_draw 22 = .ok (.invokevirtual 52, 3) := by decide +kernel
theorem dX9_draw_25 : decode cX9_draw 25 = .ok (.putfield 29, 3) := by decide +kernel
theorem dX9_draw_28 : decode cX9_draw 28 = .ok (.iconst 0, 1) := by decide +kernel
theorem dX9_draw_29 : decode cX9_draw 29 = .ok (.istore 4, 2) := by decide +kernel
theorem dX9_draw_31 : decode cX9_draw 31 = .ok (.iload 4, 2) := by decide +kernel
theorem dX9_draw_33 : decode cX9_draw 33 = .ok (.aload_n 0, 1) := by decide +kernel
theorem dX9_draw_34 : decode cX9_draw 34 = .ok (.getfield 15, 3) := by decide +kernel
theorem dX9_draw_37 : decode cX9_draw 37 = .ok (.invokevirtual 42, 3) := by decide +kernel
theorem dX9_draw_40 : decode cX9_draw 40 = .ok (.if_icmp .ge 131, 3) := by decide +kernel
theorem dX9_draw_43 : decode cX9_draw 43 = .ok (.aload_n 0, 1) := by decide +kernel
theorem dX9_draw_44 : decode cX9_draw 44 = .ok (.dup, 1) := by decide +kernel
theorem dX9_draw_45 : decode cX9_draw 45 = .ok (.getfield 29, 3) := by decide +kernel
theorem dX9_draw_48 : decode cX9_draw 48 = .ok (.aload_n 0, 1) := by decide +kernel
theorem dX9_draw_49 : decode cX9_draw 49 = .ok (.getfield 15, 3) := by decide +kernel
theorem dX9_draw_52 : decode cX9_draw 52 = .ok (.iload 4, 2) := by decide +kernel
theorem dX9_draw_54 : decode cX9_draw 54 = .ok (.invokevirtual 65, 3) := by decide +kernel
theorem dX9_draw_57 : decode cX9_draw 57 = .ok (.iadd, 1) := by decide +kernel
theorem dX9_draw_58 : decode cX9_draw 58 = .ok (.putfield 29, 3) := by decide +kernel
theorem dX9_draw_61 : decode cX9_draw 61 = .ok (.aload_n 0, 1) := by decide +kernel
theorem dX9_draw_62 : decode cX9_draw 62 = .ok (.getfield 15, 3) := by decide +kernel
theorem dX9_draw_65 : decode cX9_draw 65 = .ok (.iload 4, 2) := by decide +kernel
theorem dX9_draw_67 : decode cX9_draw 67 = .ok (.invokevirtual 68, 3) := by decide +kernel
theorem dX9_draw_70 : decode cX9_draw 70 = .ok (.astore 5, 2) := by decide +kernel
theorem dX9_draw_72 : decode cX9_draw 72 = .ok (.aload 5, 2) := by decide +kernel
theorem dX9_draw_74 : decode cX9_draw 74 = .ok (.ifnonnull 11, 3) := by decide +kernel
theorem dX9_draw_77 : decode cX9_draw 77 = .ok (.aload_n 0, 1) := by decide +kernel
theorem dX9_draw_78 : decode cX9_draw 78 = .ok (.iload_n 2, 1) := by decide +kernel
theorem dX9_draw_79 : decode cX9_draw 79 = .ok (.putfield 36, 3) := by decide +kernel
theorem dX9_draw_82 : decode cX9_draw 82 = .ok (.goto 83, 3) := by decide +kernel
theorem dX9_draw_85 : decode cX9_draw 85 = .ok (.aload 5, 2) := by decide +kernel
theorem dX9_draw_87 : decode cX9_draw 87 = .ok (.aload_n 0, 1) := by decide +kernel
theorem dX9_draw_88 : decode cX9_draw 88 = .ok (.getfield 29, 3) := by decide +kernel
theorem dX9_draw_91 : decode cX9_draw 91 = .ok (.invokevirtual 72, 3) := by decide +kernel
theorem dX9_draw_94 : decode cX9_draw 94 = .ok (.ifCond .eq 21, 3) := by decide +kernel
theorem dX9_draw_97 : decode cX9_draw 97 = .ok (.aload_n 0, 1) := by decide +kernel
theorem dX9_draw_98 : decode cX9_draw 98 = .ok (.dup, 1) := by decide +kernel
theorem dX9_draw_99 : decode cX9_draw 99 = .ok (.getfield 19, 3) := by decide +kernel
theorem dX9_draw_102 : decode cX9_draw 102 = .ok (.aload 5, 2) := by decide +kernel
theorem dX9_draw_104 : decode cX9_draw 104 = .ok (.getfield 78, 3) := by decide +kernel
theorem dX9_draw_107 : decode cX9_draw 107 = .ok (.i2l, 1) := by decide +kernel
theorem dX9_draw_108 : decode cX9_draw 108 = .ok (.lsub, 1) := by decide +kernel
theorem dX9_draw_109 : decode cX9_draw 109 = .ok (.putfield 19, 3) := by decide +kernel
theorem dX9_draw_112 : decode cX9_draw 112 = .ok (.goto 53, 3) := by decide +kernel
theorem dX9_draw_115 : decode cX9_draw 115 = .ok (.iload_n 3, 1) := by decide +kernel
theorem dX9_draw_116 : decode cX9_draw 116 = .ok (.sipush 25173, 3) := by decide +kernel
theorem dX9_draw_119 : decode cX9_draw 119 = .ok (.imul, 1) := by decide +kernel
theorem dX9_draw_120 : decode cX9_draw 120 = .ok (.sipush 13849, 3) := by decide +kernel
theorem dX9_draw_123 : decode cX9_draw 123 = .ok (.iadd, 1) := by decide +kernel
theorem dX9_draw_124 : decode cX9_draw 124 = .ok (.ldc 117, 2) := by decide +kernel
theorem dX9_draw_126 : decode cX9_draw 126 = .ok (.irem, 1) := by decide +kernel
theorem dX9_draw_127 : decode cX9_draw 127 = .ok (.istore_n 3, 1) := by decide +kernel
theorem dX9_draw_128 : decode cX9_draw 128 = .ok (.aload_n 0, 1) := by decide +kernel
theorem dX9_draw_129 : decode cX9_draw 129 = .ok (.aload 5, 2) := by decide +kernel
theorem dX9_draw_131 : decode cX9_draw 131 = .ok (.aload_n 0, 1) := by decide +kernel
theorem dX9_draw_132 : decode cX9_draw 132 = .ok (.getfield 29, 3) := by decide +kernel
theorem dX9_draw_135 : decode cX9_draw 135 = .ok (.invokevirtual 81, 3) := by decide +kernel
theorem dX9_draw_138 : decode cX9_draw 138 = .ok (.putfield 29, 3) := by decide +kernel
theorem dX9_draw_141 : decode cX9_draw 141 = .ok (.aload_n 0, 1) := by decide +kernel
theorem dX9_draw_142 : decode cX9_draw 142 = .ok (.aload_n 0, 1) := by decide +kernel
theorem dX9_draw_143 : decode cX9_draw 143 = .ok (.getfield 15, 3) := by decide +kernel
theorem dX9_draw_146 : decode cX9_draw 146 = .ok (.iload 4, 2) := by decide +kernel
theorem dX9_draw_148 : decode cX9_draw 148 = .ok (.invokevirtual 118, 3) := by decide +kernel
theorem dX9_draw_151 : decode cX9_draw 151 = .ok (.aload 5, 2) := by decide +kernel
theorem dX9_draw_153 : decode cX9_draw 153 = .ok (.aload 5, 2) := by decide +kernel
theorem dX9_draw_155 : decode cX9_draw 155 = .ok (.iload_n 3, 1) := by decide +kernel
theorem dX9_draw_156 : decode cX9_draw 156 = .ok (.bipush 64, 2) := by decide +kernel
theorem dX9_draw_158 : decode cX9_draw 158 = .ok (.idiv, 1) := by decide +kernel
theorem dX9_draw_159 : decode cX9_draw 159 = .ok (.invokevirtual 121, 3) := by decide +kernel
theorem dX9_draw_162 : decode cX9_draw 162 = .ok (.invokevirtual 124, 3) := by decide +kernel
theorem dX9_draw_165 : decode cX9_draw 165 = .ok (.iinc 4 1, 3) := by decide +kernel
theorem dX9_draw_168 : decode cX9_draw 168 = .ok (.goto (-137), 3) := by decide +kernel
theorem dX9_draw_171 : decode cX9_draw 171 = .ok (.return_, 1) := by decide +kernel
def f_X9_draw_165 (k_31 : St → Int32 → Int32 → Int32 → Option St) (S : St) (x2 : Int32) (x3 : Int32) (x4 : Int32) : Option St :=
  bnd (x4 + 1 : Int32) fun v1 =>
  k_31 S x2 x3 v1
def f_X9_draw_31 (k_31 : St → Int32 → Int32 → Int32 → Option St) (S : St) (x2 : Int32) (x3 : Int32) (x4 : Int32) : Option St :=
  obd2 (f_X6_length S ) fun r2 S2 =>
  if r2 ≤ x4 then (
    some S2
  ) else (
    obd2 (f_X6_wayTo S2 x4) fun r4 S4 =>
    bnd (setI S4 5 6 ((S2.1 5 6) + r4)) fun S5 =>
    obd2 (f_X6_callAt S5 x4) fun r6 S6 =>
    oel r6 (
      bnd (setI S6 5 8 x2) fun S8 =>
      f_X9_draw_165 k_31 S8 x2 x3 x4
    ) fun v7 =>
      obd2 (f_X1_lateAt S6 v7 (S6.1 5 6)) fun r9 S9 =>
      if r9 = 0 then (
        bnd ((((x3 * 25173) + 13849) - ((x3 * 25173) + 13849) / 65536 * 65536) : Int32) fun v11 =>
        obd2 (f_X1_startedAt S9 v7 (S9.1 5 6)) fun r12 S12 =>
        bnd (setI S12 5 6 r12) fun S13 =>
        obd2 (f_X6_stopAt S13 x4) fun r14 S14 =>
        obd2 (f_X1_drawn S14 v7 (v11 / 64)) fun r15 S15 =>
        obd (f_X9_meet S15 r14 v7 r15) fun S16 =>
        f_X9_draw_165 k_31 S16 x2 v11 x4
      ) else (
        bnd (setL S9 5 3 ((S9.2.1 5 3) - (((S9.1 (21 + v7.val) 8) : Int32).toInt64))) fun S17 =>
        f_X9_draw_165 k_31 S17 x2 x3 x4
      )
  )
def l_X9_draw_31 : Nat → St → Int32 → Int32 → Int32 → Option St
  | 0, _, _, _, _ => none
  | fu + 1, S, x2, x3, x4 => f_X9_draw_31 (l_X9_draw_31 fu) S x2 x3 x4
def f_X9_draw (S : St) (x1 : Int32) (x2 : Int32) : Option St :=
  bnd (setL S 5 3 (0)) fun S18 =>
  bnd (setI S18 5 7 0) fun S19 =>
  bnd (setI S19 5 8 x2) fun S20 =>
  obd2 (f_X4_begin S20 ) fun r21 S21 =>
  bnd (setI S21 5 6 r21) fun S22 =>
  l_X9_draw_31 FU S22 x2 x1 0
set_option maxHeartbeats 4000000 in
set_option maxRecDepth 100000 in
theorem c_X9_draw {l : Launch} {D : va_G} {cI cC cS : ClassId} {ad adK adV : Nat → Nat} {S S1 : St} {x1 : Int32} {x2 : Int32} (h : f_X9_draw S x1 x2 = some S1) : Kt l D (xw cI cC cS ad) (KX D (xtys cI cC cS) adK adV) yX9_draw cX9_draw 6 none (3) (69) [.ref (ad 5), .int x1, .int x2] S (none) S1 := by
  refine k_ent (ins := .return_) (st := []) (by decide +kernel) (Nat.le_of_ble_eq_true rfl) ret_v ?_
  intro p e s m args below meth c A Q C hK I hA hq ls hl
  have C : CallFix p m c cX9_draw 6 s args TT RX9 := C
  have hx := C.1
  have hb := C.2.1
  have kx := kx_ok D (xtys cI cC cS) adK adV
  have hl : lv_has ls 6 [(0, .ref (ad 5)), (1, .int x1), (2, .int x2)] := hl
  have J_165 : ∀ (k_31 : St → Int32 → Int32 → Int32 → Option St) (hk_31 : ∀ (S : St) (x2 : Int32) (x3 : Int32) (x4 : Int32), k_31 S x2 x3 x4 = some S1 → ∀ (H : Heap) (locs : List Loc) (ls : Array Slot), Iv D (xw cI cC cS ad) S A s H locs → lv_has ls 6 [(0, .ref (ad 5)), (2, .int x2), (3, .int x3), (4, .int x4)] → W p l e ({ frames := 3, cells := 0, slots := 0, locals := 69 } : Room) s m args below meth c H locs 0 0 Q (F0 m 31 ls [])) (S : St) (x2 : Int32) (x3 : Int32) (x4 : Int32), f_X9_draw_165 k_31 S x2 x3 x4 = some S1 → ∀ (H : Heap) (locs : List Loc) (ls : Array Slot), Iv D (xw cI cC cS ad) S A s H locs → lv_has ls 6 [(0, .ref (ad 5)), (2, .int x2), (3, .int x3), (4, .int x4)] → W p l e ({ frames := 3, cells := 0, slots := 0, locals := 69 } : Room) s m args below meth c H locs 0 0 Q (F0 m 165 ls []) := by
    intro k_31 hk_31 S x2 x3 x4 h H locs ls I hl
    unfold f_X9_draw_165 at h
    obtain ⟨v1, ev1⟩ : ∃ y : Int32, y = x4 + 1 := ⟨_, rfl⟩
    have h := bnd_at ev1 h
    refine lv_iinc (v := v1) (lv' := [(4, .int v1), (0, .ref (ad 5)), (2, .int x2), (3, .int x3)]) hx hb dX9_draw_165 hl (k := 3) rfl (by rw [ev1]; rfl) (by decide) rfl (fun ls hl => ?_)
    clear ev1
    refine lv_goto (tgt := 31) hx hb dX9_draw_168 (by decide) ?_
    exact hk_31 _ _ _ _ h _ _ _ I (lv_sub hl [1, 2, 3, 0] rfl)
  have B_31 : ∀ (k_31 : St → Int32 → Int32 → Int32 → Option St) (hk_31 : ∀ (S : St) (x2 : Int32) (x3 : Int32) (x4 : Int32), k_31 S x2 x3 x4 = some S1 → ∀ (H : Heap) (locs : List Loc) (ls : Array Slot), Iv D (xw cI cC cS ad) S A s H locs → lv_has ls 6 [(0, .ref (ad 5)), (2, .int x2), (3, .int x3), (4, .int x4)] → W p l e ({ frames := 3, cells := 0, slots := 0, locals := 69 } : Room) s m args below meth c H locs 0 0 Q (F0 m 31 ls [])) (S : St) (x2 : Int32) (x3 : Int32) (x4 : Int32), f_X9_draw_31 k_31 S x2 x3 x4 = some S1 → ∀ (H : Heap) (locs : List Loc) (ls : Array Slot), Iv D (xw cI cC cS ad) S A s H locs → lv_has ls 6 [(0, .ref (ad 5)), (2, .int x2), (3, .int x3), (4, .int x4)] → W p l e ({ frames := 3, cells := 0, slots := 0, locals := 69 } : Room) s m args below meth c H locs 0 0 Q (F0 m 31 ls []) := by
    intro k_31 hk_31 S x2 x3 x4 h H locs ls I hl
    unfold f_X9_draw_31 at h
    refine lv_iload hx hb dX9_draw_31 (lv_at hl 3 rfl) ?_
    refine lv_aload_n hx hb dX9_draw_33 rfl (lv_at hl 0 rfl) ?_
    refine gx_5_1 C hK I fl_X9_15 dX9_draw_34 ?_
    obtain ⟨r2, S2, e2, h⟩ := obd2_ex h
    refine k_V (As := []) (rest := [.int x4]) (st1 := [.int r2, .int x4]) C kx hK I hA (c_X6_length e2) ⟨Nat.le_of_ble_eq_true rfl, Nat.le_of_ble_eq_true rfl⟩ mv_X6_length lk_X9_42 4 6 (xw_4 (cI := cI) (ad := ad) (cC := cC) (cS := cS)) rfl rfl hl.1 rfl (Nat.le_of_ble_eq_true rfl) dX9_draw_37 rfl (fun H locs I => ?_)
    refine lv_icmp_ge (tgt := 171) hx hb dX9_draw_40 (by decide) (fun c3 => ?_) (fun c3 => ?_)
    · have h := ite_t c3 h
      exact rt_v hq h I dX9_draw_171
    · have h := ite_n c3 h
      refine lv_aload_n hx hb dX9_draw_43 rfl (lv_at hl 0 rfl) ?_
      refine lv_dup hx hb dX9_draw_44 rfl ?_
      refine gx_5_6 C hK I fl_X9_29 dX9_draw_45 ?_
      refine lv_aload_n hx hb dX9_draw_48 rfl (lv_at hl 0 rfl) ?_
      refine gx_5_1 C hK I fl_X9_15 dX9_draw_49 ?_
      refine lv_iload hx hb dX9_draw_52 (lv_at hl 3 rfl) ?_
      obtain ⟨r4, S4, e4, h⟩ := obd2_ex h
      refine k_V (As := [.int x4]) (rest := [.int (S2.1 5 6), .ref (ad 5)]) (st1 := [.int r4, .int (S2.1 5 6), .ref (ad 5)]) C kx hK I hA (c_X6_wayTo e4) ⟨Nat.le_of_ble_eq_true rfl, Nat.le_of_ble_eq_true rfl⟩ mv_X6_wayTo lk_X9_65 4 6 (xw_4 (cI := cI) (ad := ad) (cC := cC) (cS := cS)) rfl rfl hl.1 rfl (Nat.le_of_ble_eq_true rfl) dX9_draw_54 rfl (fun H locs I => ?_)
      refine lv_iadd hx hb dX9_draw_57 ?_
      refine px_5_6 C hK I fl_X9_29 dX9_draw_58 (fun S5 eS5 H locs I => ?_)
      have h := bnd_at eS5 h
      clear eS5
      refine lv_aload_n hx hb dX9_draw_61 rfl (lv_at hl 0 rfl) ?_
      refine gx_5_1 C hK I fl_X9_15 dX9_draw_62 ?_
      refine lv_iload hx hb dX9_draw_65 (lv_at hl 3 rfl) ?_
      obtain ⟨r6, S6, e6, h⟩ := obd2_ex h
      refine k_V (As := [.int x4]) (rest := []) (st1 := [rC ad r6]) C kx hK I hA (c_X6_callAt e6) ⟨Nat.le_of_ble_eq_true rfl, Nat.le_of_ble_eq_true rfl⟩ mv_X6_callAt lk_X9_68 4 6 (xw_4 (cI := cI) (ad := ad) (cC := cC) (cS := cS)) rfl rfl hl.1 rfl (Nat.le_of_ble_eq_true rfl) dX9_draw_67 rfl (fun H locs I => ?_)
      refine k_astore _ (lv' := [(5, rC ad r6), (0, .ref (ad 5)), (2, .int x2), (3, .int x3), (4, .int x4)]) hx hb dX9_draw_70 rfl hl (by decide) rfl (fun ls hl => ?_)
      refine k_aload _ hx hb dX9_draw_72 rfl (lv_at hl 0 rfl) ?_
      refine k_ifnn hx hb dX9_draw_74 (tgt := 85) (by decide) (fun v7 ho => ?_) (fun ho => ?_)
      · subst ho
        have h := oel_s h
        have hl : lv_has ls 6 [(5, .ref (ad (21 + v7.val))), (0, .ref (ad 5)), (2, .int x2), (3, .int x3), (4, .int x4)] := hl
        refine lv_aload hx hb dX9_draw_85 (lv_at hl 0 rfl) ?_
        refine lv_aload_n hx hb dX9_draw_87 rfl (lv_at hl 1 rfl) ?_
        refine gx_5_6 C hK I fl_X9_29 dX9_draw_88 ?_
        obtain ⟨r9, S9, e9, h⟩ := obd2_ex h
        refine k_V (As := [.int (S6.1 5 6)]) (rest := []) (st1 := [.int r9]) C kx hK I hA (c_X1_lateAt e9) ⟨Nat.le_of_ble_eq_true rfl, Nat.le_of_ble_eq_true rfl⟩ mv_X1_lateAt lk_X9_72 (21 + v7.val) 1 (xw_C (cI := cI) (cC := cC) (cS := cS) (ad := ad) v7) rfl rfl hl.1 rfl (Nat.le_of_ble_eq_true rfl) dX9_draw_91 rfl (fun H locs I => ?_)
        refine lv_if_eq (tgt := 115) hx hb dX9_draw_94 (by decide) (fun c10 => ?_) (fun c10 => ?_)
        · have h := ite_t c10 h
          refine lv_iload_n hx hb dX9_draw_115 rfl (lv_at hl 3 rfl) ?_
          refine lv_sipush (v := 25173) hx hb dX9_draw_116 (by decide) ?_
          refine lv_imul hx hb dX9_draw_119 ?_
          refine lv_sipush (v := 13849) hx hb dX9_draw_120 (by decide) ?_
          refine lv_iadd hx hb dX9_draw_123 ?_
          refine lv_ldc (v := 65536) hx hb C.2.2.2.1 (C.2.2.2.2 _ cn_X9_117) dX9_draw_124 ?_
          refine lv_irem hx hb dX9_draw_126 (by decide) ?_
          refine lv_topi (fun v11 ev11 => ?_)
          have h := bnd_at ev11 h
          clear ev11
          refine lv_istore_n (lv' := [(3, .int v11), (5, .ref (ad (21 + v7.val))), (0, .ref (ad 5)), (2, .int x2), (4, .int x4)]) hx hb dX9_draw_127 rfl hl (by decide) rfl (fun ls hl => ?_)
          refine lv_aload_n hx hb dX9_draw_128 rfl (lv_at hl 2 rfl) ?_
          refine lv_aload hx hb dX9_draw_129 (lv_at hl 1 rfl) ?_
          refine lv_aload_n hx hb dX9_draw_131 rfl (lv_at hl 2 rfl) ?_
          refine gx_5_6 C hK I fl_X9_29 dX9_draw_132 ?_
          obtain ⟨r12, S12, e12, h⟩ := obd2_ex h
          refine k_V (As := [.int (S9.1 5 6)]) (rest := [.ref (ad 5)]) (st1 := [.int r12, .ref (ad 5)]) C kx hK I hA (c_X1_startedAt e12) ⟨Nat.le_of_ble_eq_true rfl, Nat.le_of_ble_eq_true rfl⟩ mv_X1_startedAt lk_X9_81 (21 + v7.val) 1 (xw_C (cI := cI) (cC := cC) (cS := cS) (ad := ad) v7) rfl rfl hl.1 rfl (Nat.le_of_ble_eq_true rfl) dX9_draw_135 rfl (fun H locs I => ?_)
          refine px_5_6 C hK I fl_X9_29 dX9_draw_138 (fun S13 eS13 H locs I => ?_)
          have h := bnd_at eS13 h
          clear eS13
          refine lv_aload_n hx hb dX9_draw_141 rfl (lv_at hl 2 rfl) ?_
          refine lv_aload_n hx hb dX9_draw_142 rfl (lv_at hl 2 rfl) ?_
          refine gx_5_1 C hK I fl_X9_15 dX9_draw_143 ?_
          refine lv_iload hx hb dX9_draw_146 (lv_at hl 4 rfl) ?_
          obtain ⟨r14, S14, e14, h⟩ := obd2_ex h
          refine k_V (As := [.int x4]) (rest := [.ref (ad 5)]) (st1 := [.int r14, .ref (ad 5)]) C kx hK I hA (c_X6_stopAt e14) ⟨Nat.le_of_ble_eq_true rfl, Nat.le_of_ble_eq_true rfl⟩ mv_X6_stopAt lk_X9_118 4 6 (xw_4 (cI := cI) (ad := ad) (cC := cC) (cS := cS)) rfl rfl hl.1 rfl (Nat.le_of_ble_eq_true rfl) dX9_draw_148 rfl (fun H locs I => ?_)
          refine lv_aload hx hb dX9_draw_151 (lv_at hl 1 rfl) ?_
          refine lv_aload hx hb dX9_draw_153 (lv_at hl 1 rfl) ?_
          refine lv_iload_n hx hb dX9_draw_155 rfl (lv_at hl 0 rfl) ?_
          refine lv_bipush (v := 64) hx hb dX9_draw_156 (by decide) ?_
          refine lv_idiv hx hb dX9_draw_158 (by decide) ?_
          obtain ⟨r15, S15, e15, h⟩ := obd2_ex h
          refine k_V (As := [.int (v11 / 64)]) (rest := [.ref (ad (21 + v7.val)), .int r14, .ref (ad 5)]) (st1 := [rS ad r15, .ref (ad (21 + v7.val)), .int r14, .ref (ad 5)]) C kx hK I hA (c_X1_drawn e15) ⟨Nat.le_of_ble_eq_true rfl, Nat.le_of_ble_eq_true rfl⟩ mv_X1_drawn lk_X9_121 (21 + v7.val) 1 (xw_C (cI := cI) (cC := cC) (cS := cS) (ad := ad) v7) rfl rfl hl.1 rfl (Nat.le_of_ble_eq_true rfl) dX9_draw_159 rfl (fun H locs I => ?_)
          obtain ⟨S16, e16, h⟩ := obd_ex h
          refine k_V (As := [.int r14, .ref (ad (21 + v7.val)), rS ad r15]) (rest := []) (st1 := []) C kx hK I hA (c_X9_meet e16) ⟨Nat.le_of_ble_eq_true rfl, Nat.le_of_ble_eq_true rfl⟩ mv_X9_meet lk_X9_124 5 9 (xw_5 (cI := cI) (ad := ad) (cC := cC) (cS := cS)) rfl rfl hl.1 rfl (Nat.le_of_ble_eq_true rfl) dX9_draw_162 rfl (fun H locs I => ?_)
          exact J_165 k_31 hk_31 _ _ _ _ h _ _ _ I (lv_sub hl [2, 3, 0, 4] rfl)
        · have h := ite_n c10 h
          refine lv_aload_n hx hb dX9_draw_97 rfl (lv_at hl 1 rfl) ?_
          refine lv_dup hx hb dX9_draw_98 rfl ?_
          refine gx_5_3 C hK I fl_X9_19 dX9_draw_99 ?_
          refine lv_aload hx hb dX9_draw_102 (lv_at hl 0 rfl) ?_
          refine gxN_C_8 C hK I fl_X9_78 dX9_draw_104 ?_
          refine lv_i2l hx hb dX9_draw_107 rfl ?_
          refine lv_lsub hx hb dX9_draw_108 ?_
          refine px_5_3 C hK I fl_X9_19 dX9_draw_109 (fun S17 eS17 H locs I => ?_)
          have h := bnd_at eS17 h
          clear eS17
          refine lv_goto (tgt := 165) hx hb dX9_draw_112 (by decide) ?_
          exact J_165 k_31 hk_31 _ _ _ _ h _ _ _ I (lv_sub hl [1, 2, 3, 4] rfl)
      · subst ho
        have h := oel_n h
        have hl : lv_has ls 6 [(5, .null), (0, .ref (ad 5)), (2, .int x2), (3, .int x3), (4, .int x4)] := hl
        refine lv_aload_n hx hb dX9_draw_77 rfl (lv_at hl 1 rfl) ?_
        refine lv_iload_n hx hb dX9_draw_78 rfl (lv_at hl 2 rfl) ?_
        refine px_5_8 C hK I fl_X9_36 dX9_draw_79 (fun S8 eS8 H locs I => ?_)
        have h := bnd_at eS8 h
        clear eS8
        refine lv_goto (tgt := 165) hx hb dX9_draw_82 (by decide) ?_
        exact J_165 k_31 hk_31 _ _ _ _ h _ _ _ I (lv_sub hl [1, 2, 3, 4] rfl)
  have J_31 : ∀ (fu : Nat) (S : St) (x2 : Int32) (x3 : Int32) (x4 : Int32), l_X9_draw_31  fu S x2 x3 x4 = some S1 → ∀ (H : Heap) (locs : List Loc) (ls : Array Slot), Iv D (xw cI cC cS ad) S A s H locs → lv_has ls 6 [(0, .ref (ad 5)), (2, .int x2), (3, .int x3), (4, .int x4)] → W p l e ({ frames := 3, cells := 0, slots := 0, locals := 69 } : Room) s m args below meth c H locs 0 0 Q (F0 m 31 ls []) := by
    intro fu
    induction fu with
    | zero => intro S x2 x3 x4 h; cases h
    | succ fu ih => intro S x2 x3 x4 h; exact B_31 (l_X9_draw_31 fu) ih S x2 x3 x4 h
  unfold f_X9_draw at h
  refine lv_iload_n hx hb dX9_draw_0 rfl (lv_at hl 1 rfl) ?_
  refine lv_istore_n (lv' := [(3, .int x1), (0, .ref (ad 5)), (1, .int x1), (2, .int x2)]) hx hb dX9_draw_1 rfl hl (by decide) rfl (fun ls hl => ?_)
  refine lv_aload_n hx hb dX9_draw_2 rfl (lv_at hl 1 rfl) ?_
  refine lv_lconst (v := (0)) hx hb dX9_draw_3 (by decide) ?_
  refine px_5_3 C hK I fl_X9_19 dX9_draw_4 (fun S18 eS18 H locs I => ?_)
  have h := bnd_at eS18 h
  clear eS18
  refine lv_aload_n hx hb dX9_draw_7 rfl (lv_at hl 1 rfl) ?_
  refine lv_iconst (v := 0) hx hb dX9_draw_8 (by decide) ?_
  refine px_5_7 C hK I fl_X9_33 dX9_draw_9 (fun S19 eS19 H locs I => ?_)
  have h := bnd_at eS19 h
  clear eS19
  refine lv_aload_n hx hb dX9_draw_12 rfl (lv_at hl 1 rfl) ?_
  refine lv_iload_n hx hb dX9_draw_13 rfl (lv_at hl 3 rfl) ?_
  refine px_5_8 C hK I fl_X9_36 dX9_draw_14 (fun S20 eS20 H locs I => ?_)
  have h := bnd_at eS20 h
  clear eS20
  refine lv_aload_n hx hb dX9_draw_17 rfl (lv_at hl 1 rfl) ?_
  refine lv_aload_n hx hb dX9_draw_18 rfl (lv_at hl 1 rfl) ?_
  refine gx_5_0 C hK I fl_X9_9 dX9_draw_19 ?_
  obtain ⟨r21, S21, e21, h⟩ := obd2_ex h
  refine k_V (As := []) (rest := [.ref (ad 5)]) (st1 := [.int r21, .ref (ad 5)]) C kx hK I hA (c_X4_begin e21) ⟨Nat.le_of_ble_eq_true rfl, Nat.le_of_ble_eq_true rfl⟩ mv_X4_begin lk_X9_52 3 4 (xw_3 (cI := cI) (ad := ad) (cC := cC) (cS := cS)) rfl rfl hl.1 rfl (Nat.le_of_ble_eq_true rfl) dX9_draw_22 rfl (fun H locs I => ?_)
  refine px_5_6 C hK I fl_X9_29 dX9_draw_25 (fun S22 eS22 H locs I => ?_)
  have h := bnd_at eS22 h
  clear eS22
  refine lv_iconst (v := 0) hx hb dX9_draw_28 (by decide) ?_
  refine lv_istore (lv' := [(4, .int 0), (3, .int x1), (0, .ref (ad 5)), (1, .int x1), (2, .int x2)]) hx hb dX9_draw_29 hl (by decide) rfl (fun ls hl => ?_)
  exact J_31 _ _ _ _ _ h _ _ _ I (lv_sub hl [2, 4, 1, 0] rfl)
