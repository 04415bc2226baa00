theorem fl_X5_19 : Cond.fieldLink RX5 19 RX5 "lines" "I" ∈ TT := tt_of 113 (by decide +kernel) rfl
theorem dX5_lines_0 : decode cX5_lines 0 = .ok (.aload_n 0, 1) := by decide +kernel
theorem dX5_lines_1 : decode cX5_lines 1 = .ok (.getfield 19, 3) := by decide +kernel
theorem dX5_lines_4 : decode cX5_lines 4 = .ok (.ireturn, 1) := by decide +kernel
def f_X5_lines (S : St)  : Option (Int32 × St) :=
  some ((S.1 2 2), S)
set_option maxHeartbeats 4000000 in
set_option maxRecDepth 100000 in
theorem c_X5_lines {l : Launch} {D : va_G} {cI cC cS : ClassId} {ad adK adV : Nat → Nat} {S S1 : St}  {r : Int32} (h : f_X5_lines S  = some (r, S1)) : Kt l D (xw cI cC cS ad) (KX D (xtys cI cC cS) adK adV) yX5_lines cX5_lines 1 (some .int) (0) (0) [.ref (ad 2)] S (some (.int r)) S1 := by
  refine k_ent (ins := .ireturn) (st := [.int r]) (by decide +kernel) (Nat.le_of_ble_eq_true rfl) ret_i ?_
  intro p e s m args below meth c A Q C hK I hA hq ls hl
  have C : CallFix p m c cX5_lines 1 s args TT RX5 := C
  have hx := C.1
  have hb := C.2.1
  have kx := kx_ok D (xtys cI cC cS) adK adV
  have hl : lv_has ls 1 [(0, .ref (ad 2))] := hl
  unfold f_X5_lines at h
  refine lv_aload_n hx hb dX5_lines_0 rfl (lv_at hl 0 rfl) ?_
  refine gx_2_2 C hK I fl_X5_19 dX5_lines_1 ?_
  exact rt_i hq h I dX5_lines_4
theorem fl_X5_35 : Cond.fieldLink RX5 35 RX5 "to" "I" ∈ TT := tt_of 116 (by decide +kernel) rfl
theorem fl_X5_15 : Cond.fieldLink RX5 15 RX5 "text" "LCarryUp$Text;" ∈ TT := tt_of 111 (by decide +kernel) rfl
theorem lk_X5_119 : Cond.methodLink RX5 119 yX8_kindAt ∈ TT := tt_of 449 (by decide +kernel) rfl
theorem fl_X5_53 : Cond.fieldLink RX5 53 RX5 "from" "I" ∈ TT := tt_of 115 (by decide +kernel) rfl
theorem lk_X5_123 : Cond.methodLink RX5 123 yJ9_min_7cf53 ∈ TT := tt_of 453 (by decide +kernel) rfl
theorem ms_J9_min_7cf53 : MS yJ9_min_7cf53 cJ9_min_7cf53 2 (some .int) 2 := ⟨tt_of 455 (by decide +kernel) rfl, tt_of 454 (by decide +kernel) rfl, tt_of 77 (by decide +kernel) rfl, ⟨by decide +kernel, by decide +kernel, by decide +kernel⟩⟩
theorem lk_X5_56 : Cond.methodLink RX5 56 yX8_length ∈ TT := tt_of 448 (by decide +kernel) rfl
theorem dX5_step_0 : decode cX5_step 0 = .ok (.aload_n 0, 1) := by decide +kernel
theorem dX5_step_1 : decode cX5_step 1 = .ok (.getfield 15, 3) := by decide +kernel
theorem dX5_step_4 : decode cX5_step 4 = .ok (.invokevirtual 56, 3) := by decide +kernel
theorem dX5_step_7 : decode cX5_step 7 = .ok (.istore_n 1, 1) := by decide +kernel
theorem dX5_step_8 : decode cX5_step 8 = .ok (.aload_n 0, 1) := by decide +kernel
theorem dX5_step_9 : decode cX5_step 9 = .ok (.aload_n 0, 1) := by decide +kernel
theorem dX5_step_10 : decode cX5_step 10 = .ok (.getfield 35, 3) := by decide +kernel
theorem dX5_step_13 : decode cX5_step 13 = .ok (.putfield 53, 3) := by decide +kernel
theorem dX5_step_16 : decode cX5_step 16 = .ok (.aload_n 0, 1) := by decide +kernel
theorem dX5_step_17 : decode cX5_step 17 = .ok (.getfield 53, 3) := by decide +kernel
theorem dX5_step_20 : decode cX5_step 20 = .ok (.iload_n 1, 1) := by decide +kernel
theorem dX5_step_21 : decode cX5_step 21 = .ok (.if_icmp .ge 31, 3) := by decide +kernel
theorem dX5_step_24 : decode cX5_step 24 = .ok (.aload_n 0, 1) := by decide +kernel
theorem dX5_step_25 : decode cX5_step 25 = .ok (.getfield 15, 3) := by decide +kernel
theorem dX5_step_28 : decode cX5_step 28 = .ok (.aload_n 0, 1) := by decide +kernel
theorem dX5_step_29 : decode cX5_step 29 = .ok (.getfield 53, 3) := by decide +kernel
theorem dX5_step_32 : decode cX5_step 32 = .ok (.invokevirtual 119, 3) := by decide +kernel
theorem dX5_step_35 : decode cX5_step 35 = .ok (.iconst 3, 1) := by decide +kernel
theorem dX5_step_36 : decode cX5_step 36 = .ok (.if_icmp .ne 16, 3) := by decide +kernel
theorem dX5_step_39 : decode cX5_step 39 = .ok (.aload_n 0, 1) := by decide +kernel
theorem dX5_step_40 : decode cX5_step 40 = .ok (.dup, 1) := by decide +kernel
theorem dX5_step_41 : decode cX5_step 41 = .ok (.getfield 53, 3) := by decide +kernel
theorem dX5_step_44 : decode cX5_step 44 = .ok (.iconst 1, 1) := by decide +kernel
theorem dX5_step_45 : decode cX5_step 45 = .ok (.iadd, 1) := by decide +kernel
theorem dX5_step_46 : decode cX5_step 46 = .ok (.putfield 53, 3) := by decide +kernel
theorem dX5_step_49 : decode cX5_step 49 = .ok (.goto (-33), 3) := by decide +kernel
theorem dX5_step_52 : decode cX5_step 52 = .ok (.aload_n 0, 1) := by decide +kernel
theorem dX5_step_53 : decode cX5_step 53 = .ok (.aload_n 0, 1) := by decide +kernel
theorem dX5_step_54 : decode cX5_step 54 = .ok (.getfield 53, 3) := by decide +kernel
theorem dX5_step_57 : decode cX5_step 57 = .ok (.iconst 1, 1) := by decide +kernel
theorem dX5_step_58 : decode cX5_step 58 = .ok (.iadd, 1) := by decide +kernel
theorem dX5_step_59 : decode cX5_step 59 = .ok (.iload_n 1, 1) := by decide +kernel
theorem dX5_step_60 : decode cX5_step 60 = .ok (.invokestatic 123, 3) := by decide +kernel
theorem dX5_step_63 : decode cX5_step 63 = .ok (.putfield 35, 3) := by decide +kernel
theorem dX5_step_66 : decode cX5_step 66 = .ok (.aload_n 0, 1) := by decide +kernel
theorem dX5_step_67 : decode cX5_step 67 = .ok (.getfield 15, 3) := by decide +kernel
theorem dX5_step_70 : decode cX5_step 70 = .ok (.aload_n 0, 1) := by decide +kernel
theorem dX5_step_71 : decode cX5_step 71 = .ok (.getfield 53, 3) := by decide +kernel
theorem dX5_step_74 : decode cX5_step 74 = .ok (.invokevirtual 119, 3) := by decide +kernel
theorem dX5_step_77 : decode cX5_step 77 = .ok (.istore_n 2, 1) := by decide +kernel
theorem dX5_step_78 : decode cX5_step 78 = .ok (.iload_n 2, 1) := by decide +kernel
theorem dX5_step_79 : decode cX5_step 79 = .ok (.ifCond .ne 4, 3) := by decide +kernel
theorem dX5_step_82 : decode cX5_step 82 = .ok (.return_, 1) := by decide +kernel
theorem dX5_step_83 : decode cX5_step 83 = .ok (.aload_n 0, 1) := by decide +kernel
theorem dX5_step_84 : decode cX5_step 84 = .ok (.getfield 35, 3) := by decide +kernel
theorem dX5_step_87 : decode cX5_step 87 = .ok (.iload_n 1, 1) := by decide +kernel
theorem dX5_step_88 : decode cX5_step 88 = .ok (.if_icmp .ge 31, 3) := by decide +kernel
theorem dX5_step_91 : decode cX5_step 91 = .ok (.aload_n 0, 1) := by decide +kernel
theorem dX5_step_92 : decode cX5_step 92 = .ok (.getfield 15, 3) := by decide +kernel
theorem dX5_step_95 : decode cX5_step 95 = .ok (.aload_n 0, 1) := by decide +kernel
theorem dX5_step_96 : decode cX5_step 96 = .ok (.getfield 35, 3) := by decide +kernel
theorem dX5_step_99 : decode cX5_step 99 = .ok (.invokevirtual 119, 3) := by decide +kernel
theorem dX5_step_102 : decode cX5_step 102 = .ok (.iload_n 2, 1) := by decide +kernel
theorem dX5_step_103 : decode cX5_step 103 = .ok (.if_icmp .ne 16, 3) := by decide +kernel
theorem dX5_step_106 : decode cX5_step 106 = .ok (.aload_n 0, 1) := by decide +kernel
theorem dX5_step_107 : decode cX5_step 107 = .ok (.dup, 1) := by decide +kernel
theorem dX5_step_108 : decode cX5_step 108 = .ok (.getfield 35, 3) := by decide +kernel
theorem dX5_step_111 : decode cX5_step 111 = .ok (.iconst 1, 1) := by decide +kernel
theorem dX5_step_112 : decode cX5_step 112 = .ok (.iadd, 1) := by decide +kernel
theorem dX5_step_113 : decode cX5_step 113 = .ok (.putfield 35, 3) := by decide +kernel
theorem dX5_step_116 : decode cX5_step 116 = .ok (.goto (-33), 3) := by decide +kernel
theorem dX5_step_119 : decode cX5_step 119 = .ok (.return_, 1) := by decide +kernel
def f_X5_step_83 (k_83 : St → Int32 → Int32 → Option St) (S : St) (x1 : Int32) (x2 : Int32) : Option St :=
  if x1 ≤ (S.1 2 5) then (
    some S
  ) else (
    obd2 (f_X8_kindAt S (S.1 2 5)) fun r2 S2 =>
    if r2 = x2 then (
      bnd (setI S2 2 5 ((S2.1 2 5) + 1)) fun S4 =>
      k_83 S4 x1 x2
    ) else (
      some S2
    )
  )
def l_X5_step_83 : Nat → St → Int32 → Int32 → Option St
  | 0, _, _, _ => none
  | fu + 1, S, x1, x2 => f_X5_step_83 (l_X5_step_83 fu) S x1 x2
def f_X5_step_52 (S : St) (x1 : Int32) : Option St :=
  bnd (if x1 < ((S.1 2 4) + 1) then x1 else ((S.1 2 4) + 1) : Int32) fun v5 =>
  bnd (setI S 2 5 v5) fun S6 =>
  obd2 (f_X8_kindAt S6 (S6.1 2 4)) fun r7 S7 =>
  if r7 = 0 then (
    some S7
  ) else (
    l_X5_step_83 FU S7 x1 r7
  )
def f_X5_step_16 (k_16 : St → Int32 → Option St) (S : St) (x1 : Int32) : Option St :=
  if x1 ≤ (S.1 2 4) then (
    f_X5_step_52 S x1
  ) else (
    obd2 (f_X8_kindAt S (S.1 2 4)) fun r10 S10 =>
    if r10 = 3 then (
      bnd (setI S10 2 4 ((S10.1 2 4) + 1)) fun S12 =>
      k_16 S12 x1
    ) else (
      f_X5_step_52 S10 x1
    )
  )
def l_X5_step_16 : Nat → St → Int32 → Option St
  | 0, _, _ => none
  | fu + 1, S, x1 => f_X5_step_16 (l_X5_step_16 fu) S x1
def f_X5_step (S : St)  : Option St :=
  obd2 (f_X8_length S ) fun r13 S13 =>
  bnd (setI S13 2 4 (S13.1 2 5)) fun S14 =>
  l_X5_step_16 FU S14 r13
set_option maxHeartbeats 4000000 in
set_option maxRecDepth 100000 in
theorem c_X5_step {l : Launch} {D : va_G} {cI cC cS : ClassId} {ad adK adV : Nat → Nat} {S S1 : St}  (h : f_X5_step S  = some S1) : Kt l D (xw cI cC cS ad) (KX D (xtys cI cC cS) adK adV) yX5_step cX5_step 3 none (1) (23) [.ref (ad 2)] S (none) S1 := by
  refine k_ent (ins := .return_) (st := []) (by decide +kernel) (Nat.le_of_ble_eq_true rfl) ret_v ?_
  intro p e s m args below meth c A Q C hK I hA hq ls hl
  have C : CallFix p m c cX5_step 3 s args TT RX5 := C
  have hx := C.1
  have hb := C.2.1
  have kx := kx_ok D (xtys cI cC cS) adK adV
  have hl : lv_has ls 3 [(0, .ref (ad 2))] := hl
  have B_83 : ∀ (k_83 : St → Int32 → Int32 → Option St) (hk_83 : ∀ (S : St) (x1 : Int32) (x2 : Int32), k_83 S x1 x2 = some S1 → ∀ (H : Heap) (locs : List Loc) (ls : Array Slot), Iv D (xw cI cC cS ad) S A s H locs → lv_has ls 3 [(0, .ref (ad 2)), (1, .int x1), (2, .int x2)] → W p l e ({ frames := 1, cells := 0, slots := 0, locals := 23 } : Room) s m args below meth c H locs 0 0 Q (F0 m 83 ls [])) (S : St) (x1 : Int32) (x2 : Int32), f_X5_step_83 k_83 S x1 x2 = some S1 → ∀ (H : Heap) (locs : List Loc) (ls : Array Slot), Iv D (xw cI cC cS ad) S A s H locs → lv_has ls 3 [(0, .ref (ad 2)), (1, .int x1), (2, .int x2)] → W p l e ({ frames := 1, cells := 0, slots := 0, locals := 23 } : Room) s m args below meth c H locs 0 0 Q (F0 m 83 ls []) := by
    intro k_83 hk_83 S x1 x2 h H locs ls I hl
    unfold f_X5_step_83 at h
    refine lv_aload_n hx hb dX5_step_83 rfl (lv_at hl 0 rfl) ?_
    refine gx_2_5 C hK I fl_X5_35 dX5_step_84 ?_
    refine lv_iload_n hx hb dX5_step_87 rfl (lv_at hl 1 rfl) ?_
    refine lv_icmp_ge (tgt := 119) hx hb dX5_step_88 (by decide) (fun c1 => ?_) (fun c1 => ?_)
    · have h := ite_t c1 h
      exact rt_v hq h I dX5_step_119
    · have h := ite_n c1 h
      refine lv_aload_n hx hb dX5_step_91 rfl (lv_at hl 0 rfl) ?_
      refine gx_2_0 C hK I fl_X5_15 dX5_step_92 ?_
      refine lv_aload_n hx hb dX5_step_95 rfl (lv_at hl 0 rfl) ?_
      refine gx_2_5 C hK I fl_X5_35 dX5_step_96 ?_
      obtain ⟨r2, S2, e2, h⟩ := obd2_ex h
      refine k_V (As := [.int (S.1 2 5)]) (rest := []) (st1 := [.int r2]) C kx hK I hA (c_X8_kindAt e2) ⟨Nat.le_of_ble_eq_true rfl, Nat.le_of_ble_eq_true rfl⟩ mv_X8_kindAt lk_X5_119 1 8 (xw_1 (cI := cI) (ad := ad) (cC := cC) (cS := cS)) rfl rfl hl.1 rfl (Nat.le_of_ble_eq_true rfl) dX5_step_99 rfl (fun H locs I => ?_)
      refine lv_iload_n hx hb dX5_step_102 rfl (lv_at hl 2 rfl) ?_
      refine lv_icmp_ne (tgt := 119) hx hb dX5_step_103 (by decide) (fun c3 => ?_) (fun c3 => ?_)
      · have h := ite_n c3 h
        exact rt_v hq h I dX5_step_119
      · have h := ite_t c3 h
        refine lv_aload_n hx hb dX5_step_106 rfl (lv_at hl 0 rfl) ?_
        refine lv_dup hx hb dX5_step_107 rfl ?_
        refine gx_2_5 C hK I fl_X5_35 dX5_step_108 ?_
        refine lv_iconst (v := 1) hx hb dX5_step_111 (by decide) ?_
        refine lv_iadd hx hb dX5_step_112 ?_
        refine px_2_5 C hK I fl_X5_35 dX5_step_113 (fun S4 eS4 H locs I => ?_)
        have h := bnd_at eS4 h
        clear eS4
        refine lv_goto (tgt := 83) hx hb dX5_step_116 (by decide) ?_
        exact hk_83 _ _ _ h _ _ _ I (lv_sub hl [0, 1, 2] rfl)
  have J_83 : ∀ (fu : Nat) (S : St) (x1 : Int32) (x2 : Int32), l_X5_step_83  fu S x1 x2 = some S1 → ∀ (H : Heap) (locs : List Loc) (ls : Array Slot), Iv D (xw cI cC cS ad) S A s H locs → lv_has ls 3 [(0, .ref (ad 2)), (1, .int x1), (2, .int x2)] → W p l e ({ frames := 1, cells := 0, slots := 0, locals := 23 } : Room) s m args below meth c H locs 0 0 Q (F0 m 83 ls []) := by
    intro fu
    induction fu with
    | zero => intro S x1 x2 h; cases h
    | succ fu ih => intro S x1 x2 h; exact B_83 (l_X5_step_83 fu) ih S x1 x2 h
  have J_52 : ∀ (S : St) (x1 : Int32), f_X5_step_52  S x1 = some S1 → ∀ (H : Heap) (locs : List Loc) (ls : Array Slot), Iv D (xw cI cC cS ad) S A s H locs → lv_has ls 3 [(0, .ref (ad 2)), (1, .int x1)] → W p l e ({ frames := 1, cells := 0, slots := 0, locals := 23 } : Room) s m args below meth c H locs 0 0 Q (F0 m 52 ls []) := by
    intro  S x1 h H locs ls I hl
    unfold f_X5_step_52 at h
    refine lv_aload_n hx hb dX5_step_52 rfl (lv_at hl 0 rfl) ?_
    refine lv_aload_n hx hb dX5_step_53 rfl (lv_at hl 0 rfl) ?_
    refine gx_2_4 C hK I fl_X5_53 dX5_step_54 ?_
    refine lv_iconst (v := 1) hx hb dX5_step_57 (by decide) ?_
    refine lv_iadd hx hb dX5_step_58 ?_
    refine lv_iload_n hx hb dX5_step_59 rfl (lv_at hl 1 rfl) ?_
    refine va_mmin (rest := [.ref (ad 2)]) hx hb (C.2.2.1.trans hl.1.symm) C.2.2.2.1 (C.2.2.2.2 _ lk_X5_123) (C.2.2.2.2 _ ms_J9_min_7cf53.2.1) (C.2.2.2.2 _ ms_J9_min_7cf53.2.2.1) (C.2.2.2.2 _ ms_J9_min_7cf53.1) (Nat.le_of_ble_eq_true rfl) (Nat.le_of_ble_eq_true rfl) (Nat.zero_le _) (Nat.zero_le _) dX5_step_60 ?_
    refine lv_topi (fun v5 ev5 => ?_)
    have h := bnd_at ev5 h
    clear ev5
    refine px_2_5 C hK I fl_X5_35 dX5_step_63 (fun S6 eS6 H locs I => ?_)
    have h := bnd_at eS6 h
    clear eS6
    refine lv_aload_n hx hb dX5_step_66 rfl (lv_at hl 0 rfl) ?_
    refine gx_2_0 C hK I fl_X5_15 dX5_step_67 ?_
    refine lv_aload_n hx hb dX5_step_70 rfl (lv_at hl 0 rfl) ?_
    refine gx_2_4 C hK I fl_X5_53 dX5_step_71 ?_
    obtain ⟨r7, S7, e7, h⟩ := obd2_ex h
    refine k_V (As := [.int (S6.1 2 4)]) (rest := []) (st1 := [.int r7]) C kx hK I hA (c_X8_kindAt e7) ⟨Nat.le_of_ble_eq_true rfl, Nat.le_of_ble_eq_true rfl⟩ mv_X8_kindAt lk_X5_119 1 8 (xw_1 (cI := cI) (ad := ad) (cC := cC) (cS := cS)) rfl rfl hl.1 rfl (Nat.le_of_ble_eq_true rfl) dX5_step_74 rfl (fun H locs I => ?_)
    refine lv_istore_n (lv' := [(2, .int r7), (0, .ref (ad 2)), (1, .int x1)]) hx hb dX5_step_77 rfl hl (by decide) rfl (fun ls hl => ?_)
    refine lv_iload_n hx hb dX5_step_78 rfl (lv_at hl 0 rfl) ?_
    refine lv_if_ne (tgt := 83) hx hb dX5_step_79 (by decide) (fun c8 => ?_) (fun c8 => ?_)
    · have h := ite_n c8 h
      exact J_83 _ _ _ _ h _ _ _ I (lv_sub hl [1, 2, 0] rfl)
    · have h := ite_t c8 h
      exact rt_v hq h I dX5_step_82
  have B_16 : ∀ (k_16 : St → Int32 → Option St) (hk_16 : ∀ (S : St) (x1 : Int32), k_16 S x1 = some S1 → ∀ (H : Heap) (locs : List Loc) (ls : Array Slot), Iv D (xw cI cC cS ad) S A s H locs → lv_has ls 3 [(0, .ref (ad 2)), (1, .int x1)] → W p l e ({ frames := 1, cells := 0, slots := 0, locals := 23 } : Room) s m args below meth c H locs 0 0 Q (F0 m 16 ls [])) (S : St) (x1 : Int32), f_X5_step_16 k_16 S x1 = some S1 → ∀ (H : Heap) (locs : List Loc) (ls : Array Slot), Iv D (xw cI cC cS ad) S A s H locs → lv_has ls 3 [(0, .ref (ad 2)), (1, .int x1)] → W p l e ({ frames := 1, cells := 0, slots := 0, locals := 23 } : Room) s m args below meth c H locs 0 0 Q (F0 m 16 ls []) := by
    intro k_16 hk_16 S x1 h H locs ls I hl
    unfold f_X5_step_16 at h
    refine lv_aload_n hx hb dX5_step_16 rfl (lv_at hl 0 rfl) ?_
    refine gx_2_4 C hK I fl_X5_53 dX5_step_17 ?_
    refine lv_iload_n hx hb dX5_step_20 rfl (lv_at hl 1 rfl) ?_
    refine lv_icmp_ge (tgt := 52) hx hb dX5_step_21 (by decide) (fun c9 => ?_) (fun c9 => ?_)
    · have h := ite_t c9 h
      exact J_52 _ _ h _ _ _ I (lv_sub hl [0, 1] rfl)
    · have h := ite_n c9 h
      refine lv_aload_n hx hb dX5_step_24 rfl (lv_at hl 0 rfl) ?_
      refine gx_2_0 C hK I fl_X5_15 dX5_step_25 ?_
      refine lv_aload_n hx hb dX5_step_28 rfl (lv_at hl 0 rfl) ?_
      refine gx_2_4 C hK I fl_X5_53 dX5_step_29 ?_
      obtain ⟨r10, S10, e10, h⟩ := obd2_ex h
      refine k_V (As := [.int (S.1 2 4)]) (rest := []) (st1 := [.int r10]) C kx hK I hA (c_X8_kindAt e10) ⟨Nat.le_of_ble_eq_true rfl, Nat.le_of_ble_eq_true rfl⟩ mv_X8_kindAt lk_X5_119 1 8 (xw_1 (cI := cI) (ad := ad) (cC := cC) (cS := cS)) rfl rfl hl.1 rfl (Nat.le_of_ble_eq_true rfl) dX5_step_32 rfl (fun H locs I => ?_)
      refine lv_iconst (v := 3) hx hb dX5_step_35 (by decide) ?_
      refine lv_icmp_ne (tgt := 52) hx hb dX5_step_36 (by decide) (fun c11 => ?_) (fun c11 => ?_)
      · have h := ite_n c11 h
        exact J_52 _ _ h _ _ _ I (lv_sub hl [0, 1] rfl)
      · have h := ite_t c11 h
        refine lv_aload_n hx hb dX5_step_39 rfl (lv_at hl 0 rfl) ?_
        refine lv_dup hx hb dX5_step_40 rfl ?_
        refine gx_2_4 C hK I fl_X5_53 dX5_step_41 ?_
        refine lv_iconst (v := 1) hx hb dX5_step_44 (by decide) ?_
        refine lv_iadd hx hb dX5_step_45 ?_
        refine px_2_4 C hK I fl_X5_53 dX5_step_46 (fun S12 eS12 H locs I => ?_)
        have h := bnd_at eS12 h
        clear eS12
        refine lv_goto (tgt := 16) hx hb dX5_step_49 (by decide) ?_
        exact hk_16 _ _ h _ _ _ I (lv_sub hl [0, 1] rfl)
  have J_16 : ∀ (fu : Nat) (S : St) (x1 : Int32), l_X5_step_16  fu S x1 = some S1 → ∀ (H : Heap) (locs : List Loc) (ls : Array Slot), Iv D (xw cI cC cS ad) S A s H locs → lv_has ls 3 [(0, .ref (ad 2)), (1, .int x1)] → W p l e ({ frames := 1, cells := 0, slots := 0, locals := 23 } : Room) s m args below meth c H locs 0 0 Q (F0 m 16 ls []) := by
    intro fu
    induction fu with
    | zero => intro S x1 h; cases h
    | succ fu ih => intro S x1 h; exact B_16 (l_X5_step_16 fu) ih S x1 h
  unfold f_X5_step at h
  refine lv_aload_n hx hb dX5_step_0 rfl (lv_at hl 0 rfl) ?_
  refine gx_2_0 C hK I fl_X5_15 dX5_step_1 ?_
  obtain ⟨r13, S13, e13, h⟩ := obd2_ex h
  refine k_V (As := []) (rest := []) (st1 := [.int r13]) C kx hK I hA (c_X8_length e13) ⟨Nat.le_of_ble_eq_true rfl, Nat.le_of_ble_eq_true rfl⟩ mv_X8_length lk_X5_56 1 8 (xw_1 (cI := cI) (ad := ad) (cC := cC) (cS := cS)) rfl rfl hl.1 rfl (Nat.le_of_ble_eq_true rfl) dX5_step_4 rfl (fun H locs I => ?_)
  refine lv_istore_n (lv' := [(1, .int r13), (0, .ref (ad 2))]) hx hb dX5_step_7 rfl hl (by decide) rfl (fun ls hl => ?_)
  refine lv_aload_n hx hb dX5_step_8 rfl (lv_at hl 1 rfl) ?_
  refine lv_aload_n hx hb dX5_step_9 rfl (lv_at hl 1 rfl) ?_
  refine gx_2_5 C hK I fl_X5_35 dX5_step_10 ?_
  refine px_2_4 C hK I fl_X5_53 dX5_step_13 (fun S14 eS14 H locs I => ?_)
  have h := bnd_at eS14 h
  clear eS14
  exact J_16 _ _ _ h _ _ _ I (lv_sub hl [1, 0] rfl)
theorem dX8_isAt_0 : decode cX8_isAt 0 = .ok (.iload_n 2, 1) := by decide +kernel
theorem dX8_isAt_1 : decode cX8_isAt 1 = .ok (.iload_n 1, 1) := by decide +kernel
theorem dX8_isAt_2 : decode cX8_isAt 2 = .ok (.isub, 1) := by decide +kernel
theorem dX8_isAt_3 : decode cX8_isAt 3 = .ok (.aload_n 3, 1) := by decide +kernel
theorem dX8_isAt_4 : decode cX8_isAt 4 = .ok (.invokevirtual 29, 3) := by decide +kernel
theorem dX8_isAt_7 : decode cX8_isAt 7 = .ok (.if_icmp .eq 5, 3) := by decide +kernel
theorem dX8_isAt_10 : decode cX8_isAt 10 = .ok (.iconst 0, 1) := by decide +kernel
theorem dX8_isAt_11 : decode cX8_isAt 11 = .ok (.ireturn, 1) := by decide +kernel
theorem dX8_isAt_12 : decode cX8_isAt 12 = .ok (.iconst 0, 1) := by decide +kernel
theorem dX8_isAt_13 : decode cX8_isAt 13 = .ok (.istore 4, 2) := by decide +kernel
theorem dX8_isAt_15 : decode cX8_isAt 15 = .ok (.iload 4, 2) := by decide +kernel
theorem dX8_isAt_17 : decode cX8_isAt 17 = .ok (.aload_n 3, 1) := by decide +kernel
theorem dX8_isAt_18 : decode cX8_isAt 18 = .ok (.invokevirtual 29, 3) := by decide +kernel
theorem dX8_isAt_21 : decode cX8_isAt 21 = .ok (.if_icmp .ge 31, 3) := by decide +kernel
theorem dX8_isAt_24 : decode cX8_isAt 24 = .ok (.aload_n 0, 1) := by decide +kernel
theorem dX8_isAt_25 : decode cX8_isAt 25 = .ok (.getfield 11, 3) := by decide +kernel
theorem dX8_isAt_28 : decode cX8_isAt 28 = .ok (.iload_n 1, 1) := by decide +kernel
theorem dX8_isAt_29 : decode cX8_isAt 29 = .ok (.iload 4, 2) := by decide +kernel
theorem dX8_isAt_31 : decode cX8_isAt 31 = .ok (.iadd, 1) := by decide +kernel
theorem dX8_isAt_32 : decode cX8_isAt 32 = .ok (.invokestatic 34, 3) := by decide +kernel
theorem dX8_isAt_35 : decode cX8_isAt 35 = .ok (.aload_n 3, 1) := by decide +kernel
theorem dX8_isAt_36 : decode cX8_isAt 36 = .ok (.iload 4, 2) := by decide +kernel
theorem dX8_isAt_38 : decode cX8_isAt 38 = .ok (.invokevirtual 38, 3) := by decide +kernel
theorem dX8_isAt_41 : decode cX8_isAt 41 = .ok (.if_icmp .eq 5, 3) := by decide +kernel
theorem dX8_isAt_44 : decode cX8_isAt 44 = .ok (.iconst 0, 1) := by decide +kernel
theorem dX8_isAt_45 : decode cX8_isAt 45 = .ok (.ireturn, 1) := by decide +kernel
theorem dX8_isAt_46 : decode cX8_isAt 46 = .ok (.iinc 4 1, 3) := by decide +kernel
theorem dX8_isAt_49 : decode cX8_isAt 49 = .ok (.goto (-34), 3) := by decide +kernel
theorem dX8_isAt_52 : decode cX8_isAt 52 = .ok (.iconst 1, 1) := by decide +kernel
theorem dX8_isAt_53 : decode cX8_isAt 53 = .ok (.ireturn, 1) := by decide +kernel
def f_X8_isAt_15 (k_15 : St → Int32 → Nat → Int32 → Option (Int32 × St)) (S : St) (x1 : Int32) (x3 : Nat) (x4 : Int32) : Option (Int32 × St) :=
  chk (x3 < 12) <|
  bnd (nI (strL x3) : Int32) fun v2 =>
  if v2 ≤ x4 then (
    some (1, S)
  ) else (
    obd2 (f_X10_at S 0 (x1 + x4)) fun r4 S4 =>
    chk (x3 < 12) <|
    chk (ixo x4 (strL x3)) <|
    bnd (strB x3 (x4).toNatClampNeg : Int32) fun v7 =>
    if r4 = v7 then (
      bnd (x4 + 1 : Int32) fun v9 =>
      k_15 S4 x1 x3 v9
    ) else (
      some (0, S4)
    )
  )
def l_X8_isAt_15 : Nat → St → Int32 → Nat → Int32 → Option (Int32 × St)
  | 0, _, _, _, _ => none
  | fu + 1, S, x1, x3, x4 => f_X8_isAt_15 (l_X8_isAt_15 fu) S x1 x3 x4
def f_X8_isAt (S : St) (x1 : Int32) (x2 : Int32) (x3 : Nat) : Option (Int32 × St) :=
  chk (x3 < 12) <|
  bnd (nI (strL x3) : Int32) fun v11 =>
  if (x2 - x1) = v11 then (
    l_X8_isAt_15 FU S x1 x3 0
  ) else (
    some (0, S)
  )
set_option maxHeartbeats 4000000 in
set_option maxRecDepth 100000 in
theorem c_X8_isAt {l : Launch} {D : va_G} {cI cC cS : ClassId} {ad adK adV : Nat → Nat} {S S1 : St} {x1 : Int32} {x2 : Int32} {x3 : Nat} {r : Int32} (h : f_X8_isAt S x1 x2 x3 = some (r, S1)) : Kt l D (xw cI cC cS ad) (KX D (xtys cI cC cS) adK adV) yX8_isAt cX8_isAt 5 (some .boolean) (4) (86) [.ref (ad 1), .int x1, .int x2, .ref (adK x3)] S (some (.int r)) S1 := by
  refine k_entz (by decide +kernel) (Nat.le_of_ble_eq_true rfl) ?_
  intro p e s m args below meth c A Q C hK I hA hq ls hl
  have C : CallFix p m c cX8_isAt 5 s args TT RX8 := C
  have hx := C.1
  have hb := C.2.1
  have kx := kx_ok D (xtys cI cC cS) adK adV
  have hl : lv_has ls 5 [(0, .ref (ad 1)), (1, .int x1), (2, .int x2), (3, .ref (adK x3))] := hl
  have B_15 : ∀ (k_15 : St → Int32 → Nat → Int32 → Option (Int32 × St)) (hk_15 : ∀ (S : St) (x1 : Int32) (x3 : Nat) (x4 : Int32), k_15 S x1 x3 x4 = some (r, S1) → ∀ (H : Heap) (locs : List Loc) (ls : Array Slot), Iv D (xw cI cC cS ad) S A s H locs → lv_has ls 5 [(0, .ref (ad 1)), (1, .int x1), (3, .ref (adK x3)), (4, .int x4)] → W p l e ({ frames := 4, cells := 0, slots := 0, locals := 86 } : Room) s m args below meth c H locs 0 0 Q (F0 m 15 ls [])) (S : St) (x1 : Int32) (x3 : Nat) (x4 : Int32), f_X8_isAt_15 k_15 S x1 x3 x4 = some (r, S1) → ∀ (H : Heap) (locs : List Loc) (ls : Array Slot), Iv D (xw cI cC cS ad) S A s H locs → lv_has ls 5 [(0, .ref (ad 1)), (1, .int x1), (3, .ref (adK x3)), (4, .int x4)] → W p l e ({ frames := 4, cells := 0, slots := 0, locals := 86 } : Room) s m args below meth c H locs 0 0 Q (F0 m 15 ls []) := by
    intro k_15 hk_15 S x1 x3 x4 h H locs ls I hl
    unfold f_X8_isAt_15 at h
    refine lv_iload hx hb dX8_isAt_15 (lv_at hl 3 rfl) ?_
    refine lv_aload_n hx hb dX8_isAt_17 rfl (lv_at hl 2 rfl) ?_
    obtain ⟨hv1, h⟩ := chk_ex h
    refine k_VT (As := []) (rest := [.int x4]) (st1 := [.int (nI (strL x3)), .int x4]) C kx hK I hA (c_strlen hv1) ⟨Nat.le_of_ble_eq_true rfl, Nat.le_of_ble_eq_true rfl⟩ mv_J0_length_8abf5 lk_X8_29 (vk_recv hK.2.2.1 hv1 I.2.2) rfl hl.1 rfl (Nat.le_of_ble_eq_true rfl) dX8_isAt_18 rfl (fun H locs I => ?_)
    refine lv_topi (fun v2 ev2 => ?_)
    have h := bnd_at ev2 h
    clear ev2
    refine lv_icmp_ge (tgt := 52) hx hb dX8_isAt_21 (by decide) (fun c3 => ?_) (fun c3 => ?_)
    · have h := ite_t c3 h
      refine lv_iconst (v := 1) hx hb dX8_isAt_52 (by decide) ?_
      exact rt_z (Or.inr rfl) hq h I dX8_isAt_53
    · have h := ite_n c3 h
      refine lv_aload_n hx hb dX8_isAt_24 rfl (lv_at hl 0 rfl) ?_
      refine gx_1_0 C hK I fl_X8_11 dX8_isAt_25 ?_
      refine lv_iload_n hx hb dX8_isAt_28 rfl (lv_at hl 1 rfl) ?_
      refine lv_iload hx hb dX8_isAt_29 (lv_at hl 3 rfl) ?_
      refine lv_iadd hx hb dX8_isAt_31 ?_
      obtain ⟨r4, S4, e4, h⟩ := obd2_ex h
      refine k_SN (As := [.ref (ad 11), .int (x1 + x4)]) (rest := []) (st1 := [.int r4]) C kx hK I hA (c_X10_at e4) ⟨Nat.le_of_ble_eq_true rfl, Nat.le_of_ble_eq_true rfl⟩ ms_X10_at lk_X8_34 rfl hl.1 rfl (Nat.le_of_ble_eq_true rfl) dX8_isAt_32 rfl (fun H locs I => ?_)
      refine lv_aload_n hx hb dX8_isAt_35 rfl (lv_at hl 2 rfl) ?_
      refine lv_iload hx hb dX8_isAt_36 (lv_at hl 3 rfl) ?_
      obtain ⟨hv5, h⟩ := chk_ex h
      obtain ⟨hv6, h⟩ := chk_ex h
      refine k_VT (As := [.int x4]) (rest := [.int r4]) (st1 := [.int (strB x3 (x4).toNatClampNeg), .int r4]) C kx hK I hA (c_charAt hv5 hv6) ⟨Nat.le_of_ble_eq_true rfl, Nat.le_of_ble_eq_true rfl⟩ mv_J0_charAt_5068e lk_X8_38 (vk_recv hK.2.2.1 hv5 I.2.2) rfl hl.1 rfl (Nat.le_of_ble_eq_true rfl) dX8_isAt_38 rfl (fun H locs I => ?_)
      refine lv_topi (fun v7 ev7 => ?_)
      have h := bnd_at ev7 h
      clear ev7
      refine lv_icmp_eq (tgt := 46) hx hb dX8_isAt_41 (by decide) (fun c8 => ?_) (fun c8 => ?_)
      · have h := ite_t c8 h
        obtain ⟨v9, ev9⟩ : ∃ y : Int32, y = x4 + 1 := ⟨_, rfl⟩
        have h := bnd_at ev9 h
        refine lv_iinc (v := v9) (lv' := [(4, .int v9), (0, .ref (ad 1)), (1, .int x1), (3, .ref (adK x3))]) hx hb dX8_isAt_46 hl (k := 3) rfl (by rw [ev9]; rfl) (by decide) rfl (fun ls hl => ?_)
        clear ev9
        refine lv_goto (tgt := 15) hx hb dX8_isAt_49 (by decide) ?_
        exact hk_15 _ _ _ _ h _ _ _ I (lv_sub hl [1, 2, 3, 0] rfl)
      · have h := ite_n c8 h
        refine lv_iconst (v := 0) hx hb dX8_isAt_44 (by decide) ?_
        exact rt_z (Or.inl rfl) hq h I dX8_isAt_45
  have J_15 : ∀ (fu : Nat) (S : St) (x1 : Int32) (x3 : Nat) (x4 : Int32), l_X8_isAt_15  fu S x1 x3 x4 = some (r, S1) → ∀ (H : Heap) (locs : List Loc) (ls : Array Slot), Iv D (xw cI cC cS ad) S A s H locs → lv_has ls 5 [(0, .ref (ad 1)), (1, .int x1), (3, .ref (adK x3)), (4, .int x4)] → W p l e ({ frames := 4, cells := 0, slots := 0, locals := 86 } : Room) s m args below meth c H locs 0 0 Q (F0 m 15 ls []) := by
    intro fu
    induction fu with
    | zero => intro S x1 x3 x4 h; cases h
    | succ fu ih => intro S x1 x3 x4 h; exact B_15 (l_X8_isAt_15 fu) ih S x1 x3 x4 h
  unfold f_X8_isAt at h
  refine lv_iload_n hx hb dX8_isAt_0 rfl (lv_at hl 2 rfl) ?_
  refine lv_iload_n hx hb dX8_isAt_1 rfl (lv_at hl 1 rfl) ?_
  refine lv_isub hx hb dX8_isAt_2 ?_
  refine lv_aload_n hx hb dX8_isAt_3 rfl (lv_at hl 3 rfl) ?_
  obtain ⟨hv10, h⟩ := chk_ex h
  refine k_VT (As := []) (rest := [.int (x2 - x1)]) (st1 := [.int (nI (strL x3)), .int (x2 - x1)]) C kx hK I hA (c_strlen hv10) ⟨Nat.le_of_ble_eq_true rfl, Nat.le_of_ble_eq_true rfl⟩ mv_J0_length_8abf5 lk_X8_29 (vk_recv hK.2.2.1 hv10 I.2.2) rfl hl.1 rfl (Nat.le_of_ble_eq_true rfl) dX8_isAt_4 rfl (fun H locs I => ?_)
  refine lv_topi (fun v11 ev11 => ?_)
  have h := bnd_at ev11 h
  clear ev11
  refine lv_icmp_eq (tgt := 12) hx hb dX8_isAt_7 (by decide) (fun c12 => ?_) (fun c12 => ?_)
  · have h := ite_t c12 h
    refine lv_iconst (v := 0) hx hb dX8_isAt_12 (by decide) ?_
    refine lv_istore (lv' := [(4, .int 0), (0, .ref (ad 1)), (1, .int x1), (2, .int x2), (3, .ref (adK x3))]) hx hb dX8_isAt_13 hl (by decide) rfl (fun ls hl => ?_)
    exact J_15 _ _ _ _ _ h _ _ _ I (lv_sub hl [1, 2, 4, 0] rfl)
  · have h := ite_n c12 h
    refine lv_iconst (v := 0) hx hb dX8_isAt_10 (by decide) ?_
    exact rt_z (Or.inl rfl) hq h I dX8_isAt_11
theorem fl_X5_31 : Cond.fieldLink RX5 31 RX5 "faulty" "Z" ∈ TT := tt_of 117 (by decide +kernel) rfl
theorem lk_X5_128 : Cond.methodLink RX5 128 yX8_isAt ∈ TT := tt_of 461 (by decide +kernel) rfl
theorem mv_X8_isAt : MV yX8_isAt cX8_isAt 5 (some .boolean) 3 := ⟨tt_of 464 (by decide +kernel) rfl, tt_of 462 (by decide +kernel) rfl, tt_of 463 (by decide +kernel) rfl, tt_of 66 (by decide +kernel) rfl, ⟨by decide +kernel, by decide +kernel, by decide +kernel⟩⟩
theorem lk_X5_38 : Cond.methodLink RX5 38 yX5_step ∈ TT := tt_of 444 (by decide +kernel) rfl
theorem mv_X5_step : MV yX5_step cX5_step 3 none 0 := ⟨tt_of 447 (by decide +kernel) rfl, tt_of 446 (by decide +kernel) rfl, tt_of 0 (by decide +kernel) rfl, tt_of 67 (by decide +kernel) rfl, ⟨by decide +kernel, by decide +kernel, by decide +kernel⟩⟩
theorem dX5_takes_0 : decode cX5_takes 0 = .ok (.aload_n 0, 1) := by decide +kernel
theorem dX5_takes_1 : decode cX5_takes 1 = .ok (.getfield 31, 3) := by decide +kernel
theorem dX5_takes_4 : decode cX5_takes 4 = .ok (.ifCond .ne 22, 3) := by decide +kernel
theorem dX5_takes_7 : decode cX5_takes 7 = .ok (.aload_n 0, 1) := by decide +kernel
theorem dX5_takes_8 : decode cX5_takes 8 = .ok (.getfield 15, 3) := by decide +kernel
theorem dX5_takes_11 : decode cX5_takes 11 = .ok (.aload_n 0, 1) := by decide +kernel
theorem dX5_takes_12 : decode cX5_takes 12 = .ok (.getfield 53, 3) := by decide +kernel
theorem dX5_takes_15 : decode cX5_takes 15 = .ok (.aload_n 0, 1) := by decide +kernel
theorem dX5_takes_16 : decode cX5_takes 16 = .ok (.getfield 35, 3) := by decide +kernel
theorem dX5_takes_19 : decode cX5_takes 19 = .ok (.aload_n 1, 1) := by decide +kernel
theorem dX5_takes_20 : decode cX5_takes 20 = .ok (.invokevirtual 128, 3) := by decide +kernel
theorem dX5_takes_23 : decode cX5_takes 23 = .ok (.ifCond .ne 5, 3) := by decide +kernel
theorem dX5_takes_26 : decode cX5_takes 26 = .ok (.iconst 0, 1) := by decide +kernel
theorem dX5_takes_27 : decode cX5_takes 27 = .ok (.ireturn, 1) := by decide +kernel
theorem dX5_takes_28 : decode cX5_takes 28 = .ok (.aload_n 0, 1) := by decide +kernel
theorem dX5_takes_29 : decode cX5_takes 29 = .ok (.invokevirtual 38, 3) := by decide +kernel
theorem dX5_takes_32 : decode cX5_takes 32 = .ok (.iconst 1, 1) := by decide +kernel
theorem dX5_takes_33 : decode cX5_takes 33 = .ok (.ireturn, 1) := by decide +kernel
def f_X5_takes (S : St) (x1 : Nat) : Option (Int32 × St) :=
  if (S.1 2 6) = 0 then (
    obd2 (f_X8_isAt S (S.1 2 4) (S.1 2 5) x1) fun r2 S2 =>
    if r2 = 0 then (
      some (0, S2)
    ) else (
      obd (f_X5_step S2 ) fun S4 =>
      some (1, S4)
    )
  ) else (
    some (0, S)
  )
set_option maxHeartbeats 4000000 in
set_option maxRecDepth 100000 in
theorem c_X5_takes {l : Launch} {D : va_G} {cI cC cS : ClassId} {ad adK adV : Nat → Nat} {S S1 : St} {x1 : Nat} {r : Int32} (h : f_X5_takes S x1 = some (r, S1)) : Kt l D (xw cI cC cS ad) (KX D (xtys cI cC cS) adK adV) yX5_takes cX5_takes 2 (some .boolean) (5) (110) [.ref (ad 2), .ref (adK x1)] S (some (.int r)) S1 := by
  refine k_entz (by decide +kernel) (Nat.le_of_ble_eq_true rfl) ?_
  intro p e s m args below meth c A Q C hK I hA hq ls hl
  have C : CallFix p m c cX5_takes 2 s args TT RX5 := C
  have hx := C.1
  have hb := C.2.1
  have kx := kx_ok D (xtys cI cC cS) adK adV
  have hl : lv_has ls 2 [(0, .ref (ad 2)), (1, .ref (adK x1))] := hl
  unfold f_X5_takes at h
  refine lv_aload_n hx hb dX5_takes_0 rfl (lv_at hl 0 rfl) ?_
  refine gx_2_6 C hK I fl_X5_31 dX5_takes_1 ?_
  refine lv_if_ne (tgt := 26) hx hb dX5_takes_4 (by decide) (fun c1 => ?_) (fun c1 => ?_)
  · have h := ite_n c1 h
    refine lv_iconst (v := 0) hx hb dX5_takes_26 (by decide) ?_
    exact rt_z (Or.inl rfl) hq h I dX5_takes_27
  · have h := ite_t c1 h
    refine lv_aload_n hx hb dX5_takes_7 rfl (lv_at hl 0 rfl) ?_
    refine gx_2_0 C hK I fl_X5_15 dX5_takes_8 ?_
    refine lv_aload_n hx hb dX5_takes_11 rfl (lv_at hl 0 rfl) ?_
    refine gx_2_4 C hK I fl_X5_53 dX5_takes_12 ?_
    refine lv_aload_n hx hb dX5_takes_15 rfl (lv_at hl 0 rfl) ?_
    refine gx_2_5 C hK I fl_X5_35 dX5_takes_16 ?_
    refine lv_aload_n hx hb dX5_takes_19 rfl (lv_at hl 1 rfl) ?_
    obtain ⟨r2, S2, e2, h⟩ := obd2_ex h
    refine k_V (As := [.int (S.1 2 4), .int (S.1 2 5), .ref (adK x1)]) (rest := []) (st1 := [.int r2]) C kx hK I hA (c_X8_isAt e2) ⟨Nat.le_of_ble_eq_true rfl, Nat.le_of_ble_eq_true rfl⟩ mv_X8_isAt lk_X5_128 1 8 (xw_1 (cI := cI) (ad := ad) (cC := cC) (cS := cS)) rfl rfl hl.1 rfl (Nat.le_of_ble_eq_true rfl) dX5_takes_20 rfl (fun H locs I => ?_)
    refine lv_if_ne (tgt := 28) hx hb dX5_takes_23 (by decide) (fun c3 => ?_) (fun c3 => ?_)
    · have h := ite_n c3 h
      refine lv_aload_n hx hb dX5_takes_28 rfl (lv_at hl 0 rfl) ?_
      obtain ⟨S4, e4, h⟩ := obd_ex h
      refine k_V (As := []) (rest := []) (st1 := []) C kx hK I hA (c_X5_step e4) ⟨Nat.le_of_ble_eq_true rfl, Nat.le_of_ble_eq_true rfl⟩ mv_X5_step lk_X5_38 2 5 (xw_2 (cI := cI) (ad := ad) (cC := cC) (cS := cS)) rfl rfl hl.1 rfl (Nat.le_of_ble_eq_true rfl) dX5_takes_29 rfl (fun H locs I => ?_)
      refine lv_iconst (v := 1) hx hb dX5_takes_32 (by decide) ?_
      exact rt_z (Or.inr rfl) hq h I dX5_takes_33
    · have h := ite_t c3 h
      refine lv_iconst (v := 0) hx hb dX5_takes_26 (by decide) ?_
      exact rt_z (Or.inl rfl) hq h I dX5_takes_27
theorem fl_X5_47 : Cond.fieldLink RX5 47 RX5 "noted" "I" ∈ TT := tt_of 114 (by decide +kernel) rfl
theorem lk_X5_115 : Cond.methodLinkNest RX5 115 yX10_put "CarryUp" ∈ NN := nn_of 529 (by decide +kernel) rfl
theorem dX5_note_0 : decode cX5_note 0 = .ok (.aload_n 0, 1) := by decide +kernel
theorem dX5_note_1 : decode cX5_note 1 = .ok (.getfield 11, 3) := by decide +kernel
theorem dX5_note_4 : decode cX5_note 4 = .ok (.aload_n 0, 1) := by decide +kernel
theorem dX5_note_5 : decode cX5_note 5 = .ok (.getfield 47, 3) := by decide +kernel
theorem dX5_note_8 : decode cX5_note 8 = .ok (.iload_n 1, 1) := by decide +kernel
theorem dX5_note_9 : decode cX5_note 9 = .ok (.invokestatic 115, 3) := by decide +kernel
theorem dX5_note_12 : decode cX5_note 12 = .ok (.aload_n 0, 1) := by decide +kernel
theorem dX5_note_13 : decode cX5_note 13 = .ok (.dup, 1) := by decide +kernel
theorem dX5_note_14 : decode cX5_note 14 = .ok (.getfield 47, 3) := by decide +kernel
theorem dX5_note_17 : decode cX5_note 17 = .ok (.iconst 1, 1) := by decide +kernel
theorem dX5_note_18 : decode cX5_note 18 = .ok (.iadd, 1) := by decide +kernel
theorem dX5_note_19 : decode cX5_note 19 = .ok (.putfield 47, 3) := by decide +kernel
theorem dX5_note_22 : decode cX5_note 22 = .ok (.return_, 1) := by decide +kernel
def f_X5_note (S : St) (x1 : Int32) : Option St :=
  obd (f_X10_put S 1 (S.1 2 3) x1) fun S1 =>
  bnd (setI S1 2 3 ((S1.1 2 3) + 1)) fun S2 =>
  some S2
set_option maxHeartbeats 4000000 in
set_option maxRecDepth 100000 in
theorem c_X5_note {l : Launch} {D : va_G} {cI cC cS : ClassId} {ad adK adV : Nat → Nat} {S S1 : St} {x1 : Int32} (h : f_X5_note S x1 = some S1) : Kt l D (xw cI cC cS ad) (KX D (xtys cI cC cS) adK adV) yX5_note cX5_note 2 none (1) (22) [.ref (ad 2), .int x1] S (none) S1 := by
  refine k_ent (ins := .return_) (st := []) (by decide +kernel) (Nat.le_of_ble_eq_true rfl) ret_v ?_
  intro p e s m args below meth c A Q C hK I hA hq ls hl
  have C : CallFix p m c cX5_note 2 s args TT RX5 := C
  have hx := C.1
  have hb := C.2.1
  have kx := kx_ok D (xtys cI cC cS) adK adV
  have hl : lv_has ls 2 [(0, .ref (ad 2)), (1, .int x1)] := hl
  unfold f_X5_note at h
  refine lv_aload_n hx hb dX5_note_0 rfl (lv_at hl 0 rfl) ?_
  refine gx_2_1 C hK I fl_X5_11 dX5_note_1 ?_
  refine lv_aload_n hx hb dX5_note_4 rfl (lv_at hl 0 rfl) ?_
  refine gx_2_3 C hK I fl_X5_47 dX5_note_5 ?_
  refine lv_iload_n hx hb dX5_note_8 rfl (lv_at hl 1 rfl) ?_
  obtain ⟨S1, e1, h⟩ := obd_ex h
  refine k_SN (As := [.ref (ad 12), .int (S.1 2 3), .int x1]) (rest := []) (st1 := []) C kx hK I hA (c_X10_put e1) ⟨Nat.le_of_ble_eq_true rfl, Nat.le_of_ble_eq_true rfl⟩ ms_X10_put lk_X5_115 rfl hl.1 rfl (Nat.le_of_ble_eq_true rfl) dX5_note_9 rfl (fun H locs I => ?_)
  refine lv_aload_n hx hb dX5_note_12 rfl (lv_at hl 0 rfl) ?_
  refine lv_dup hx hb dX5_note_13 rfl ?_
  refine gx_2_3 C hK I fl_X5_47 dX5_note_14 ?_
  refine lv_iconst (v := 1) hx hb dX5_note_17 (by decide) ?_
  refine lv_iadd hx hb dX5_note_18 ?_
  refine px_2_3 C hK I fl_X5_47 dX5_note_19 (fun S2 eS2 H locs I => ?_)
  have h := bnd_at eS2 h
  clear eS2
  exact rt_v hq h I dX5_note_22
theorem lk_X5_132 : Cond.methodLink RX5 132 yX8_things ∈ TT := tt_of 534 (by decide +kernel) rfl
theorem mv_X8_things : MV yX8_things cX8_things 6 (some .int) 2 := ⟨tt_of 537 (by decide +kernel) rfl, tt_of 535 (by decide +kernel) rfl, tt_of 536 (by decide +kernel) rfl, tt_of 66 (by decide +kernel) rfl, ⟨by decide +kernel, by decide +kernel, by decide +kernel⟩⟩
theorem dX5_letter_0 : decode cX5_letter 0 = .ok (.aload_n 0, 1) := by decide +kernel
theorem dX5_letter_1 : decode cX5_letter 1 = .ok (.getfield 15, 3) := by decide +kernel
theorem dX5_letter_4 : decode cX5_letter 4 = .ok (.aload_n 0, 1) := by decide +kernel
theorem dX5_letter_5 : decode cX5_letter 5 = .ok (.getfield 53, 3) := by decide +kernel
theorem dX5_letter_8 : decode cX5_letter 8 = .ok (.aload_n 0, 1) := by decide +kernel
theorem dX5_letter_9 : decode cX5_letter 9 = .ok (.getfield 35, 3) := by decide +kernel
theorem dX5_letter_12 : decode cX5_letter 12 = .ok (.invokevirtual 132, 3) := by decide +kernel
theorem dX5_letter_15 : decode cX5_letter 15 = .ok (.istore_n 1, 1) := by decide +kernel
theorem dX5_letter_16 : decode cX5_letter 16 = .ok (.iconst 0, 1) := by decide +kernel
theorem dX5_letter_17 : decode cX5_letter 17 = .ok (.istore_n 2, 1) := by decide +kernel
theorem dX5_letter_18 : decode cX5_letter 18 = .ok (.iload_n 2, 1) := by decide +kernel
theorem dX5_letter_19 : decode cX5_letter 19 = .ok (.bipush 8, 2) := by decide +kernel
theorem dX5_letter_21 : decode cX5_letter 21 = .ok (.if_icmp .ge 29, 3) := by decide +kernel
theorem dX5_letter_24 : decode cX5_letter 24 = .ok (.aload_n 0, 1) := by decide +kernel
theorem dX5_letter_25 : decode cX5_letter 25 = .ok (.getfield 31, 3) := by decide +kernel
theorem dX5_letter_28 : decode cX5_letter 28 = .ok (.ifCond .ne 22, 3) := by decide +kernel
theorem dX5_letter_31 : decode cX5_letter 31 = .ok (.iload_n 1, 1) := by decide +kernel
theorem dX5_letter_32 : decode cX5_letter 32 = .ok (.iconst 1, 1) := by decide +kernel
theorem dX5_letter_33 : decode cX5_letter 33 = .ok (.iload_n 2, 1) := by decide +kernel
theorem dX5_letter_34 : decode cX5_letter 34 = .ok (.ishl, 1) := by decide +kernel
theorem dX5_letter_35 : decode cX5_letter 35 = .ok (.if_icmp .ne 9, 3) := by decide +kernel
theorem dX5_letter_38 : decode cX5_letter 38 = .ok (.aload_n 0, 1) := by decide +kernel
theorem dX5_letter_39 : decode cX5_letter 39 = .ok (.invokevirtual 38, 3) := by decide +kernel
theorem dX5_letter_42 : decode cX5_letter 42 = .ok (.iload_n 2, 1) := by decide +kernel
theorem dX5_letter_43 : decode cX5_letter 43 = .ok (.ireturn, 1) := by decide +kernel
theorem dX5_letter_44 : decode cX5_letter 44 = .ok (.iinc 2 1, 3) := by decide +kernel
theorem dX5_letter_47 : decode cX5_letter 47 = .ok (.goto (-29), 3) := by decide +kernel
theorem dX5_letter_50 : decode cX5_letter 50 = .ok (.aload_n 0, 1) := by decide +kernel
theorem dX5_letter_51 : decode cX5_letter 51 = .ok (.iconst 1, 1) := by decide +kernel
theorem dX5_letter_52 : decode cX5_letter 52 = .ok (.putfield 31, 3) := by decide +kernel
theorem dX5_letter_55 : decode cX5_letter 55 = .ok (.iconst 0, 1) := by decide +kernel
theorem dX5_letter_56 : decode cX5_letter 56 = .ok (.ireturn, 1) := by decide +kernel
def f_X5_letter_50 (S : St)  : Option (Int32 × St) :=
  bnd (setI S 2 6 1) fun S1 =>
  some (0, S1)
def f_X5_letter_18 (k_18 : St → Int32 → Int32 → Option (Int32 × St)) (S : St) (x1 : Int32) (x2 : Int32) : Option (Int32 × St) :=
  if 8 ≤ x2 then (
    f_X5_letter_50 S 
  ) else (
    if (S.1 2 6) = 0 then (
      if x1 = ((1 : Int32) <<< (x2 &&& 31)) then (
        obd (f_X5_step S ) fun S6 =>
        some (x2, S6)
      ) else (
        bnd (x2 + 1 : Int32) fun v5 =>
        k_18 S x1 v5
      )
    ) else (
      f_X5_letter_50 S 
    )
  )
def l_X5_letter_18 : Nat → St → Int32 → Int32 → Option (Int32 × St)
  | 0, _, _, _ => none
  | fu + 1, S, x1, x2 => f_X5_letter_18 (l_X5_letter_18 fu) S x1 x2
def f_X5_letter (S : St)  : Option (Int32 × St) :=
  obd2 (f_X8_things S (S.1 2 4) (S.1 2 5)) fun r7 S7 =>
  l_X5_letter_18 FU S7 r7 0
set_option maxHeartbeats 4000000 in
set_option maxRecDepth 100000 in
theorem c_X5_letter {l : Launch} {D : va_G} {cI cC cS : ClassId} {ad adK adV : Nat → Nat} {S S1 : St}  {r : Int32} (h : f_X5_letter S  = some (r, S1)) : Kt l D (xw cI cC cS ad) (KX D (xtys cI cC cS) adK adV) yX5_letter cX5_letter 3 (some .int) (2) (47) [.ref (ad 2)] S (some (.int r)) S1 := by
  refine k_ent (ins := .ireturn) (st := [.int r]) (by decide +kernel) (Nat.le_of_ble_eq_true rfl) ret_i ?_
  intro p e s m args below meth c A Q C hK I hA hq ls hl
  have C : CallFix p m c cX5_letter 3 s args TT RX5 := C
  have hx := C.1
  have hb := C.2.1
  have kx := kx_ok D (xtys cI cC cS) adK adV
  have hl : lv_has ls 3 [(0, .ref (ad 2))] := hl
  have J_50 : ∀ (S : St) , f_X5_letter_50  S  = some (r, S1) → ∀ (H : Heap) (locs : List Loc) (ls : Array Slot), Iv D (xw cI cC cS ad) S A s H locs → lv_has ls 3 [(0, .ref (ad 2))] → W p l e ({ frames := 2, cells := 0, slots := 0, locals := 47 } : Room) s m args below meth c H locs 0 0 Q (F0 m 50 ls []) := by
    intro  S  h H locs ls I hl
    unfold f_X5_letter_50 at h
    refine lv_aload_n hx hb dX5_letter_50 rfl (lv_at hl 0 rfl) ?_
    refine lv_iconst (v := 1) hx hb dX5_letter_51 (by decide) ?_
    refine px_2_6 C hK I fl_X5_31 (Or.inr rfl) dX5_letter_52 (fun S1 eS1 H locs I => ?_)
    have h := bnd_at eS1 h
    clear eS1
    refine lv_iconst (v := 0) hx hb dX5_letter_55 (by decide) ?_
    exact rt_i hq h I dX5_letter_56
  have B_18 : ∀ (k_18 : St → Int32 → Int32 → Option (Int32 × St)) (hk_18 : ∀ (S : St) (x1 : Int32) (x2 : Int32), k_18 S x1 x2 = some (r, S1) → ∀ (H : Heap) (locs : List Loc) (ls : Array Slot), Iv D (xw cI cC cS ad) S A s H locs → lv_has ls 3 [(0, .ref (ad 2)), (1, .int x1), (2, .int x2)] → W p l e ({ frames := 2, cells := 0, slots := 0, locals := 47 } : Room) s m args below meth c H locs 0 0 Q (F0 m 18 ls [])) (S : St) (x1 : Int32) (x2 : Int32), f_X5_letter_18 k_18 S x1 x2 = some (r, S1) → ∀ (H : Heap) (locs : List Loc) (ls : Array Slot), Iv D (xw cI cC cS ad) S A s H locs → lv_has ls 3 [(0, .ref (ad 2)), (1, .int x1), (2, .int x2)] → W p l e ({ frames := 2, cells := 0, slots := 0, locals := 47 } : Room) s m args below meth c H locs 0 0 Q (F0 m 18 ls []) := by
    intro k_18 hk_18 S x1 x2 h H locs ls I hl
    unfold f_X5_letter_18 at h
    refine lv_iload_n hx hb dX5_letter_18 rfl (lv_at hl 2 rfl) ?_
    refine lv_bipush (v := 8) hx hb dX5_letter_19 (by decide) ?_
    refine lv_icmp_ge (tgt := 50) hx hb dX5_letter_21 (by decide) (fun c2 => ?_) (fun c2 => ?_)
    · have h := ite_t c2 h
      exact J_50 _  h _ _ _ I (lv_sub hl [0] rfl)
    · have h := ite_n c2 h
      refine lv_aload_n hx hb dX5_letter_24 rfl (lv_at hl 0 rfl) ?_
      refine gx_2_6 C hK I fl_X5_31 dX5_letter_25 ?_
      refine lv_if_ne (tgt := 50) hx hb dX5_letter_28 (by decide) (fun c3 => ?_) (fun c3 => ?_)
      · have h := ite_n c3 h
        exact J_50 _  h _ _ _ I (lv_sub hl [0] rfl)
      · have h := ite_t c3 h
        refine lv_iload_n hx hb dX5_letter_31 rfl (lv_at hl 1 rfl) ?_
        refine lv_iconst (v := 1) hx hb dX5_letter_32 (by decide) ?_
        refine lv_iload_n hx hb dX5_letter_33 rfl (lv_at hl 2 rfl) ?_
        refine lv_ishl hx hb dX5_letter_34 ?_
        refine lv_icmp_ne (tgt := 44) hx hb dX5_letter_35 (by decide) (fun c4 => ?_) (fun c4 => ?_)
        · have h := ite_n c4 h
          obtain ⟨v5, ev5⟩ : ∃ y : Int32, y = x2 + 1 := ⟨_, rfl⟩
          have h := bnd_at ev5 h
          refine lv_iinc (v := v5) (lv' := [(2, .int v5), (0, .ref (ad 2)), (1, .int x1)]) hx hb dX5_letter_44 hl (k := 2) rfl (by rw [ev5]; rfl) (by decide) rfl (fun ls hl => ?_)
          clear ev5
          refine lv_goto (tgt := 18) hx hb dX5_letter_47 (by decide) ?_
          exact hk_18 _ _ _ h _ _ _ I (lv_sub hl [1, 2, 0] rfl)
        · have h := ite_t c4 h
          refine lv_aload_n hx hb dX5_letter_38 rfl (lv_at hl 0 rfl) ?_
          obtain ⟨S6, e6, h⟩ := obd_ex h
          refine k_V (As := []) (rest := []) (st1 := []) C kx hK I hA (c_X5_step e6) ⟨Nat.le_of_ble_eq_true rfl, Nat.le_of_ble_eq_true rfl⟩ mv_X5_step lk_X5_38 2 5 (xw_2 (cI := cI) (ad := ad) (cC := cC) (cS := cS)) rfl rfl hl.1 rfl (Nat.le_of_ble_eq_true rfl) dX5_letter_39 rfl (fun H locs I => ?_)
          refine lv_iload_n hx hb dX5_letter_42 rfl (lv_at hl 2 rfl) ?_
          exact rt_i hq h I dX5_letter_43
  have J_18 : ∀ (fu : Nat) (S : St) (x1 : Int32) (x2 : Int32), l_X5_letter_18  fu S x1 x2 = some (r, S1) → ∀ (H : Heap) (locs : List Loc) (ls : Array Slot), Iv D (xw cI cC cS ad) S A s H locs → lv_has ls 3 [(0, .ref (ad 2)), (1, .int x1), (2, .int x2)] → W p l e ({ frames := 2, cells := 0, slots := 0, locals := 47 } : Room) s m args below meth c H locs 0 0 Q (F0 m 18 ls []) := by
    intro fu
    induction fu with
    | zero => intro S x1 x2 h; cases h
    | succ fu ih => intro S x1 x2 h; exact B_18 (l_X5_letter_18 fu) ih S x1 x2 h
  unfold f_X5_letter at h
  refine lv_aload_n hx hb dX5_letter_0 rfl (lv_at hl 0 rfl) ?_
  refine gx_2_0 C hK I fl_X5_15 dX5_letter_1 ?_
  refine lv_aload_n hx hb dX5_letter_4 rfl (lv_at hl 0 rfl) ?_
  refine gx_2_4 C hK I fl_X5_53 dX5_letter_5 ?_
  refine lv_aload_n hx hb dX5_letter_8 rfl (lv_at hl 0 rfl) ?_
  refine gx_2_5 C hK I fl_X5_35 dX5_letter_9 ?_
  obtain ⟨r7, S7, e7, h⟩ := obd2_ex h
  refine k_V (As := [.int (S.1 2 4), .int (S.1 2 5)]) (rest := []) (st1 := [.int r7]) C kx hK I hA (c_X8_things e7) ⟨Nat.le_of_ble_eq_true rfl, Nat.le_of_ble_eq_true rfl⟩ mv_X8_things lk_X5_132 1 8 (xw_1 (cI := cI) (ad := ad) (cC := cC) (cS := cS)) rfl rfl hl.1 rfl (Nat.le_of_ble_eq_true rfl) dX5_letter_12 rfl (fun H locs I => ?_)
  refine lv_istore_n (lv' := [(1, .int r7), (0, .ref (ad 2))]) hx hb dX5_letter_15 rfl hl (by decide) rfl (fun ls hl => ?_)
  refine lv_iconst (v := 0) hx hb dX5_letter_16 (by decide) ?_
  refine lv_istore_n (lv' := [(2, .int 0), (1, .int r7), (0, .ref (ad 2))]) hx hb dX5_letter_17 rfl hl (by decide) rfl (fun ls hl => ?_)
  exact J_18 _ _ _ _ h _ _ _ I (lv_sub hl [2, 1, 0] rfl)
theorem lk_X5_107 : Cond.methodLink RX5 107 yX8_number ∈ TT := tt_of 542 (by decide +kernel) rfl
theorem mv_X8_number : MV yX8_number cX8_number 5 (some .int) 2 := ⟨tt_of 545 (by decide +kernel) rfl, tt_of 543 (by decide +kernel) rfl, tt_of 544 (by decide +kernel) rfl, tt_of 66 (by decide +kernel) rfl, ⟨by decide +kernel, by decide +kernel, by decide +kernel⟩⟩
theorem dX5_number_0 : decode cX5_number 0 = .ok (.aload_n 0, 1) := by decide +kernel
theorem dX5_number_1 : decode cX5_number 1 = .ok (.getfield 15, 3) := by decide +kernel
theorem dX5_number_4 : decode cX5_number 4 = .ok (.aload_n 0, 1) := by decide +kernel
theorem dX5_number_5 : decode cX5_number 5 = .ok (.getfield 53, 3) := by decide +kernel
theorem dX5_number_8 : decode cX5_number 8 = .ok (.aload_n 0, 1) := by decide +kernel
theorem dX5_number_9 : decode cX5_number 9 = .ok (.getfield 35, 3) := by decide +kernel
theorem dX5_number_12 : decode cX5_number 12 = .ok (.invokevirtual 107, 3) := by decide +kernel
theorem dX5_number_15 : decode cX5_number 15 = .ok (.istore_n 3, 1) := by decide +kernel
theorem dX5_number_16 : decode cX5_number 16 = .ok (.iload_n 3, 1) := by decide +kernel
theorem dX5_number_17 : decode cX5_number 17 = .ok (.iload_n 1, 1) := by decide +kernel
theorem dX5_number_18 : decode cX5_number 18 = .ok (.iload_n 2, 1) := by decide +kernel
theorem dX5_number_19 : decode cX5_number 19 = .ok (.invokestatic 23, 3) := by decide +kernel
theorem dX5_number_22 : decode cX5_number 22 = .ok (.ifCond .ne 8, 3) := by decide +kernel
theorem dX5_number_25 : decode cX5_number 25 = .ok (.aload_n 0, 1) := by decide +kernel
theorem dX5_number_26 : decode cX5_number 26 = .ok (.iconst 1, 1) := by decide +kernel
theorem dX5_number_27 : decode cX5_number 27 = .ok (.putfield 31, 3) := by decide +kernel
theorem dX5_number_30 : decode cX5_number 30 = .ok (.aload_n 0, 1) := by decide +kernel
theorem dX5_number_31 : decode cX5_number 31 = .ok (.getfield 31, 3) := by decide +kernel
theorem dX5_number_34 : decode cX5_number 34 = .ok (.ifCond .eq 5, 3) := by decide +kernel
theorem dX5_number_37 : decode cX5_number 37 = .ok (.iconst 0, 1) := by decide +kernel
theorem dX5_number_38 : decode cX5_number 38 = .ok (.ireturn, 1) := by decide +kernel
theorem dX5_number_39 : decode cX5_number 39 = .ok (.aload_n 0, 1) := by decide +kernel
theorem dX5_number_40 : decode cX5_number 40 = .ok (.invokevirtual 38, 3) := by decide +kernel
theorem dX5_number_43 : decode cX5_number 43 = .ok (.iload_n 3, 1) := by decide +kernel
theorem dX5_number_44 : decode cX5_number 44 = .ok (.ireturn, 1) := by decide +kernel
def f_X5_number_30 (S : St) (x3 : Int32) : Option (Int32 × St) :=
  if (S.1 2 6) = 0 then (
    obd (f_X5_step S ) fun S2 =>
    some (x3, S2)
  ) else (
    some (0, S)
  )
def f_X5_number (S : St) (x1 : Int32) (x2 : Int32) : Option (Int32 × St) :=
  obd2 (f_X8_number S (S.1 2 4) (S.1 2 5)) fun r3 S3 =>
  obd2 (f_X10_within S3 r3 x1 x2) fun r4 S4 =>
  if r4 = 0 then (
    bnd (setI S4 2 6 1) fun S6 =>
    f_X5_number_30 S6 r3
  ) else (
    f_X5_number_30 S4 r3
  )
set_option maxHeartbeats 4000000 in
set_option maxRecDepth 100000 in
theorem c_X5_number {l : Launch} {D : va_G} {cI cC cS : ClassId} {ad adK adV : Nat → Nat} {S S1 : St} {x1 : Int32} {x2 : Int32} {r : Int32} (h : f_X5_number S x1 x2 = some (r, S1)) : Kt l D (xw cI cC cS ad) (KX D (xtys cI cC cS) adK adV) yX5_number cX5_number 4 (some .int) (2) (46) [.ref (ad 2), .int x1, .int x2] S (some (.int r)) S1 := by
  refine k_ent (ins := .ireturn) (st := [.int r]) (by decide +kernel) (Nat.le_of_ble_eq_true rfl) ret_i ?_
  intro p e s m args below meth c A Q C hK I hA hq ls hl
  have C : CallFix p m c cX5_number 4 s args TT RX5 := C
  have hx := C.1
  have hb := C.2.1
  have kx := kx_ok D (xtys cI cC cS) adK adV
  have hl : lv_has ls 4 [(0, .ref (ad 2)), (1, .int x1), (2, .int x2)] := hl
  have J_30 : ∀ (S : St) (x3 : Int32), f_X5_number_30  S x3 = some (r, S1) → ∀ (H : Heap) (locs : List Loc) (ls : Array Slot), Iv D (xw cI cC cS ad) S A s H locs → lv_has ls 4 [(0, .ref (ad 2)), (3, .int x3)] → W p l e ({ frames := 2, cells := 0, slots := 0, locals := 46 } : Room) s m args below meth c H locs 0 0 Q (F0 m 30 ls []) := by
    intro  S x3 h H locs ls I hl
    unfold f_X5_number_30 at h
    refine lv_aload_n hx hb dX5_number_30 rfl (lv_at hl 0 rfl) ?_
    refine gx_2_6 C hK I fl_X5_31 dX5_number_31 ?_
    refine lv_if_eq (tgt := 39) hx hb dX5_number_34 (by decide) (fun c1 => ?_) (fun c1 => ?_)
    · have h := ite_t c1 h
      refine lv_aload_n hx hb dX5_number_39 rfl (lv_at hl 0 rfl) ?_
      obtain ⟨S2, e2, h⟩ := obd_ex h
      refine k_V (As := []) (rest := []) (st1 := []) C kx hK I hA (c_X5_step e2) ⟨Nat.le_of_ble_eq_true rfl, Nat.le_of_ble_eq_true rfl⟩ mv_X5_step lk_X5_38 2 5 (xw_2 (cI := cI) (ad := ad) (cC := cC) (cS := cS)) rfl rfl hl.1 rfl (Nat.le_of_ble_eq_true rfl) dX5_number_40 rfl (fun H locs I => ?_)
      refine lv_iload_n hx hb dX5_number_43 rfl (lv_at hl 1 rfl) ?_
      exact rt_i hq h I dX5_number_44
    · have h := ite_n c1 h
      refine lv_iconst (v := 0) hx hb dX5_number_37 (by decide) ?_
      exact rt_i hq h I dX5_number_38
  unfold f_X5_number at h
  refine lv_aload_n hx hb dX5_number_0 rfl (lv_at hl 0 rfl) ?_
  refine gx_2_0 C hK I fl_X5_15 dX5_number_1 ?_
  refine lv_aload_n hx hb dX5_number_4 rfl (lv_at hl 0 rfl) ?_
  refine gx_2_4 C hK I fl_X5_53 dX5_number_5 ?_
  refine lv_aload_n hx hb dX5_number_8 rfl (lv_at hl 0 rfl) ?_
  refine gx_2_5 C hK I fl_X5_35 dX5_number_9 ?_
  obtain ⟨r3, S3, e3, h⟩ := obd2_ex h
  refine k_V (As := [.int (S.1 2 4), .int (S.1 2 5)]) (rest := []) (st1 := [.int r3]) C kx hK I hA (c_X8_number e3) ⟨Nat.le_of_ble_eq_true rfl, Nat.le_of_ble_eq_true rfl⟩ mv_X8_number lk_X5_107 1 8 (xw_1 (cI := cI) (ad := ad) (cC := cC) (cS := cS)) rfl rfl hl.1 rfl (Nat.le_of_ble_eq_true rfl) dX5_number_12 rfl (fun H locs I => ?_)
  refine lv_istore_n (lv' := [(3, .int r3), (0, .ref (ad 2)), (1, .int x1), (2, .int x2)]) hx hb dX5_number_15 rfl hl (by decide) rfl (fun ls hl => ?_)
  refine lv_iload_n hx hb dX5_number_16 rfl (lv_at hl 0 rfl) ?_
  refine lv_iload_n hx hb dX5_number_17 rfl (lv_at hl 2 rfl) ?_
  refine lv_iload_n hx hb dX5_number_18 rfl (lv_at hl 3 rfl) ?_
  obtain ⟨r4, S4, e4, h⟩ := obd2_ex h
  refine k_SN (As := [.int r3, .int x1, .int x2]) (rest := []) (st1 := [.int r4]) C kx hK I hA (c_X10_within e4) ⟨Nat.le_of_ble_eq_true rfl, Nat.le_of_ble_eq_true rfl⟩ ms_X10_within lk_X5_23 rfl hl.1 rfl (Nat.le_of_ble_eq_true rfl) dX5_number_19 rfl (fun H locs I => ?_)
  refine lv_if_ne (tgt := 30) hx hb dX5_number_22 (by decide) (fun c5 => ?_) (fun c5 => ?_)
  · have h := ite_n c5 h
    exact J_30 _ _ h _ _ _ I (lv_sub hl [1, 0] rfl)
  · have h := ite_t c5 h
    refine lv_aload_n hx hb dX5_number_25 rfl (lv_at hl 1 rfl) ?_
    refine lv_iconst (v := 1) hx hb dX5_number_26 (by decide) ?_
    refine px_2_6 C hK I fl_X5_31 (Or.inr rfl) dX5_number_27 (fun S6 eS6 H locs I => ?_)
    have h := bnd_at eS6 h
    clear eS6
    exact J_30 _ _ h _ _ _ I (lv_sub hl [1, 0] rfl)
theorem lk_X5_92 : Cond.methodLink RX5 92 yX5_note ∈ TT := tt_of 525 (by decide +kernel) rfl
theorem mv_X5_note : MV yX5_note cX5_note 2 none 1 := ⟨tt_of 528 (by decide +kernel) rfl, tt_of 527 (by decide +kernel) rfl, tt_of 4 (by decide +kernel) rfl, tt_of 67 (by decide +kernel) rfl, ⟨by decide +kernel, by decide +kernel, by decide +kernel⟩⟩
theorem lk_X5_96 : Cond.methodLink RX5 96 yX5_letter ∈ TT := tt_of 530 (by decide +kernel) rfl
theorem mv_X5_letter : MV yX5_letter cX5_letter 3 (some .int) 0 := ⟨tt_of 533 (by decide +kernel) rfl, tt_of 532 (by decide +kernel) rfl, tt_of 5 (by decide +kernel) rfl, tt_of 67 (by decide +kernel) rfl, ⟨by decide +kernel, by decide +kernel, by decide +kernel⟩⟩
theorem lk_X5_99 : Cond.methodLink RX5 99 yX5_number ∈ TT := tt_of 538 (by decide +kernel) rfl
theorem mv_X5_number : MV yX5_number cX5_number 4 (some .int) 2 := ⟨tt_of 541 (by decide +kernel) rfl, tt_of 540 (by decide +kernel) rfl, tt_of 6 (by decide +kernel) rfl, tt_of 67 (by decide +kernel) rfl, ⟨by decide +kernel, by decide +kernel, by decide +kernel⟩⟩
theorem lk_X5_43 : Cond.methodLink RX5 43 yX5_takes ∈ TT := tt_of 457 (by decide +kernel) rfl
theorem mv_X5_takes : MV yX5_takes cX5_takes 2 (some .boolean) 1 := ⟨tt_of 460 (by decide +kernel) rfl, tt_of 459 (by decide +kernel) rfl, tt_of 1 (by decide +kernel) rfl, tt_of 67 (by decide +kernel) rfl, ⟨by decide +kernel, by decide +kernel, by decide +kernel⟩⟩
theorem dX5_readThing_0 : decode cX5_readThing 0 = .ok (.aload_n 0, 1) := by decide +kernel
theorem dX5_readThing_1 : decode cX5_readThing 1 = .ok (.iconst 1, 1) := by decide +kernel
theorem dX5_readThing_2 : decode cX5_readThing 2 = .ok (.invokevirtual 92, 3) := by decide +kernel
theorem dX5_readThing_5 : decode cX5_readThing 5 = .ok (.aload_n 0, 1) := by decide +kernel
theorem dX5_readThing_6 : decode cX5_readThing 6 = .ok (.aload_n 0, 1) := by decide +kernel
theorem dX5_readThing_7 : decode cX5_readThing 7 = .ok (.invokevirtual 96, 3) := by decide +kernel
theorem dX5_readThing_10 : decode cX5_readThing 10 = .ok (.invokevirtual 92, 3) := by decide +kernel
theorem dX5_readThing_13 : decode cX5_readThing 13 = .ok (.aload_n 0, 1) := by decide +kernel
theorem dX5_readThing_14 : decode cX5_readThing 14 = .ok (.aload_n 0, 1) := by decide +kernel
theorem dX5_readThing_15 : decode cX5_readThing 15 = .ok (.iconst 1, 1) := by decide +kernel
theorem dX5_readThing_16 : decode cX5_readThing 16 = .ok (.bipush 99, 2) := by decide +kernel
theorem dX5_readThing_18 : decode cX5_readThing 18 = .ok (.invokevirtual 99, 3) := by decide +kernel
theorem dX5_readThing_21 : decode cX5_readThing 21 = .ok (.invokevirtual 92, 3) := by decide +kernel
theorem dX5_readThing_24 : decode cX5_readThing 24 = .ok (.aload_n 0, 1) := by decide +kernel
theorem dX5_readThing_25 : decode cX5_readThing 25 = .ok (.aload_n 0, 1) := by decide +kernel
theorem dX5_readThing_26 : decode cX5_readThing 26 = .ok (.iconst 0, 1) := by decide +kernel
theorem dX5_readThing_27 : decode cX5_readThing 27 = .ok (.bipush 99, 2) := by decide +kernel
theorem dX5_readThing_29 : decode cX5_readThing 29 = .ok (.invokevirtual 99, 3) := by decide +kernel
theorem dX5_readThing_32 : decode cX5_readThing 32 = .ok (.invokevirtual 92, 3) := by decide +kernel
theorem dX5_readThing_35 : decode cX5_readThing 35 = .ok (.aload_n 0, 1) := by decide +kernel
theorem dX5_readThing_36 : decode cX5_readThing 36 = .ok (.ldc 103, 2) := by decide +kernel
theorem dX5_readThing_38 : decode cX5_readThing 38 = .ok (.invokevirtual 43, 3) := by decide +kernel
theorem dX5_readThing_41 : decode cX5_readThing 41 = .ok (.istore_n 1, 1) := by decide +kernel
theorem dX5_readThing_42 : decode cX5_readThing 42 = .ok (.iload_n 1, 1) := by decide +kernel
theorem dX5_readThing_43 : decode cX5_readThing 43 = .ok (.ifCond .ne 16, 3) := by decide +kernel
theorem dX5_readThing_46 : decode cX5_readThing 46 = .ok (.aload_n 0, 1) := by decide +kernel
theorem dX5_readThing_47 : decode cX5_readThing 47 = .ok (.ldc 105, 2) := by decide +kernel
theorem dX5_readThing_49 : decode cX5_readThing 49 = .ok (.invokevirtual 43, 3) := by decide +kernel
theorem dX5_readThing_52 : decode cX5_readThing 52 = .ok (.ifCond .eq 7, 3) := by decide +kernel
theorem dX5_readThing_55 : decode cX5_readThing 55 = .ok (.iconst 1, 1) := by decide +kernel
theorem dX5_readThing_56 : decode cX5_readThing 56 = .ok (.goto 4, 3) := by decide +kernel
theorem dX5_readThing_59 : decode cX5_readThing 59 = .ok (.iconst 0, 1) := by decide +kernel
theorem dX5_readThing_60 : decode cX5_readThing 60 = .ok (.istore_n 2, 1) := by decide +kernel
theorem dX5_readThing_61 : decode cX5_readThing 61 = .ok (.iload_n 1, 1) := by decide +kernel
theorem dX5_readThing_62 : decode cX5_readThing 62 = .ok (.ifCond .ne 12, 3) := by decide +kernel
theorem dX5_readThing_65 : decode cX5_readThing 65 = .ok (.iload_n 2, 1) := by decide +kernel
theorem dX5_readThing_66 : decode cX5_readThing 66 = .ok (.ifCond .ne 8, 3) := by decide +kernel
theorem dX5_readThing_69 : decode cX5_readThing 69 = .ok (.aload_n 0, 1) := by decide +kernel
theorem dX5_readThing_70 : decode cX5_readThing 70 = .ok (.iconst 1, 1) := by decide +kernel
theorem dX5_readThing_71 : decode cX5_readThing 71 = .ok (.putfield 31, 3) := by decide +kernel
theorem dX5_readThing_74 : decode cX5_readThing 74 = .ok (.aload_n 0, 1) := by decide +kernel
theorem dX5_readThing_75 : decode cX5_readThing 75 = .ok (.iload_n 2, 1) := by decide +kernel
theorem dX5_readThing_76 : decode cX5_readThing 76 = .ok (.ifCond .eq 7, 3) := by decide +kernel
theorem dX5_readThing_79 : decode cX5_readThing 79 = .ok (.iconst 1, 1) := by decide +kernel
theorem dX5_readThing_80 : decode cX5_readThing 80 = .ok (.goto 4, 3) := by decide +kernel
theorem dX5_readThing_83 : decode cX5_readThing 83 = .ok (.iconst 0, 1) := by decide +kernel
theorem dX5_readThing_84 : decode cX5_readThing 84 = .ok (.invokevirtual 92, 3) := by decide +kernel
theorem dX5_readThing_87 : decode cX5_readThing 87 = .ok (.return_, 1) := by decide +kernel
def f_X5_readThing_84 (S : St) (t1 : Int32) : Option St :=
  obd (f_X5_note S t1) fun S1 =>
  some S1
def f_X5_readThing_74 (S : St) (x2 : Int32) : Option St :=
  if x2 = 0 then (
    f_X5_readThing_84 S 0
  ) else (
    f_X5_readThing_84 S 1
  )
def f_X5_readThing_60 (S : St) (x1 : Int32) (t0 : Int32) : Option St :=
  if x1 = 0 then (
    if t0 = 0 then (
      bnd (setI S 2 6 1) fun S5 =>
      f_X5_readThing_74 S5 t0
    ) else (
      f_X5_readThing_74 S t0
    )
  ) else (
    f_X5_readThing_74 S t0
  )
def f_X5_readThing_59 (S : St) (x1 : Int32) : Option St :=
  f_X5_readThing_60 S x1 0
def f_X5_readThing (S : St)  : Option St :=
  obd (f_X5_note S 1) fun S6 =>
  obd2 (f_X5_letter S6 ) fun r7 S7 =>
  obd (f_X5_note S7 r7) fun S8 =>
  obd2 (f_X5_number S8 1 99) fun r9 S9 =>
  obd (f_X5_note S9 r9) fun S10 =>
  obd2 (f_X5_number S10 0 99) fun r11 S11 =>
  obd (f_X5_note S11 r11) fun S12 =>
  obd2 (f_X5_takes S12 2) fun r13 S13 =>
  if r13 = 0 then (
    obd2 (f_X5_takes S13 3) fun r15 S15 =>
    if r15 = 0 then (
      f_X5_readThing_59 S15 r13
    ) else (
      f_X5_readThing_60 S15 r13 1
    )
  ) else (
    f_X5_readThing_59 S13 r13
  )
set_option maxHeartbeats 4000000 in
set_option maxRecDepth 100000 in
theorem c_X5_readThing {l : Launch} {D : va_G} {cI cC cS : ClassId} {ad adK adV : Nat → Nat} {S S1 : St}  (h : f_X5_readThing S  = some S1) : Kt l D (xw cI cC cS ad) (KX D (xtys cI cC cS) adK adV) yX5_readThing cX5_readThing 3 none (6) (131) [.ref (ad 2)] S (none) S1 := by
  refine k_ent (ins := .return_) (st := []) (by decide +kernel) (Nat.le_of_ble_eq_true rfl) ret_v ?_
  intro p e s m args below meth c A Q C hK I hA hq ls hl
  have C : CallFix p m c cX5_readThing 3 s args TT RX5 := C
  have hx := C.1
  have hb := C.2.1
  have kx := kx_ok D (xtys cI cC cS) adK adV
  have hl : lv_has ls 3 [(0, .ref (ad 2))] := hl
  have J_84 : ∀ (S : St) (t1 : Int32), f_X5_readThing_84  S t1 = some S1 → ∀ (H : Heap) (locs : List Loc) (ls : Array Slot), Iv D (xw cI cC cS ad) S A s H locs → lv_has ls 3 [] → W p l e ({ frames := 6, cells := 0, slots := 0, locals := 131 } : Room) s m args below meth c H locs 0 0 Q (F0 m 84 ls [.int t1, .ref (ad 2)]) := by
    intro  S t1 h H locs ls I hl
    unfold f_X5_readThing_84 at h
    obtain ⟨S1, e1, h⟩ := obd_ex h
    refine k_V (As := [.int t1]) (rest := []) (st1 := []) C kx hK I hA (c_X5_note e1) ⟨Nat.le_of_ble_eq_true rfl, Nat.le_of_ble_eq_true rfl⟩ mv_X5_note lk_X5_92 2 5 (xw_2 (cI := cI) (ad := ad) (cC := cC) (cS := cS)) rfl rfl hl.1 rfl (Nat.le_of_ble_eq_true rfl) dX5_readThing_84 rfl (fun H locs I => ?_)
    exact rt_v hq h I dX5_readThing_87
  have J_74 : ∀ (S : St) (x2 : Int32), f_X5_readThing_74  S x2 = some S1 → ∀ (H : Heap) (locs : List Loc) (ls : Array Slot), Iv D (xw cI cC cS ad) S A s H locs → lv_has ls 3 [(0, .ref (ad 2)), (2, .int x2)] → W p l e ({ frames := 6, cells := 0, slots := 0, locals := 131 } : Room) s m args below meth c H locs 0 0 Q (F0 m 74 ls []) := by
    intro  S x2 h H locs ls I hl
    unfold f_X5_readThing_74 at h
    refine lv_aload_n hx hb dX5_readThing_74 rfl (lv_at hl 0 rfl) ?_
    refine lv_iload_n hx hb dX5_readThing_75 rfl (lv_at hl 1 rfl) ?_
    refine lv_if_eq (tgt := 83) hx hb dX5_readThing_76 (by decide) (fun c2 => ?_) (fun c2 => ?_)
    · have h := ite_t c2 h
      refine lv_iconst (v := 0) hx hb dX5_readThing_83 (by decide) ?_
      exact J_84 _ _ h _ _ _ I (lv_sub hl [] rfl)
    · have h := ite_n c2 h
      refine lv_iconst (v := 1) hx hb dX5_readThing_79 (by decide) ?_
      refine lv_goto (tgt := 84) hx hb dX5_readThing_80 (by decide) ?_
      exact J_84 _ _ h _ _ _ I (lv_sub hl [] rfl)
  have J_60 : ∀ (S : St) (x1 : Int32) (t0 : Int32), f_X5_readThing_60  S x1 t0 = some S1 → ∀ (H : Heap) (locs : List Loc) (ls : Array Slot), Iv D (xw cI cC cS ad) S A s H locs → lv_has ls 3 [(0, .ref (ad 2)), (1, .int x1)] → W p l e ({ frames := 6, cells := 0, slots := 0, locals := 131 } : Room) s m args below meth c H locs 0 0 Q (F0 m 60 ls [.int t0]) := by
    intro  S x1 t0 h H locs ls I hl
    unfold f_X5_readThing_60 at h
    refine lv_istore_n (lv' := [(2, .int t0), (0, .ref (ad 2)), (1, .int x1)]) hx hb dX5_readThing_60 rfl hl (by decide) rfl (fun ls hl => ?_)
    refine lv_iload_n hx hb dX5_readThing_61 rfl (lv_at hl 2 rfl) ?_
    refine lv_if_ne (tgt := 74) hx hb dX5_readThing_62 (by decide) (fun c3 => ?_) (fun c3 => ?_)
    · have h := ite_n c3 h
      exact J_74 _ _ h _ _ _ I (lv_sub hl [1, 0] rfl)
    · have h := ite_t c3 h
      refine lv_iload_n hx hb dX5_readThing_65 rfl (lv_at hl 0 rfl) ?_
      refine lv_if_ne (tgt := 74) hx hb dX5_readThing_66 (by decide) (fun c4 => ?_) (fun c4 => ?_)
      · have h := ite_n c4 h
        exact J_74 _ _ h _ _ _ I (lv_sub hl [1, 0] rfl)
      · have h := ite_t c4 h
        refine lv_aload_n hx hb dX5_readThing_69 rfl (lv_at hl 1 rfl) ?_
        refine lv_iconst (v := 1) hx hb dX5_readThing_70 (by decide) ?_
        refine px_2_6 C hK I fl_X5_31 (Or.inr rfl) dX5_readThing_71 (fun S5 eS5 H locs I => ?_)
        have h := bnd_at eS5 h
        clear eS5
        exact J_74 _ _ h _ _ _ I (lv_sub hl [1, 0] rfl)
  have J_59 : ∀ (S : St) (x1 : Int32), f_X5_readThing_59  S x1 = some S1 → ∀ (H : Heap) (locs : List Loc) (ls : Array Slot), Iv D (xw cI cC cS ad) S A s H locs → lv_has ls 3 [(0, .ref (ad 2)), (1, .int x1)] → W p l e ({ frames := 6, cells := 0, slots := 0, locals := 131 } : Room) s m args below meth c H locs 0 0 Q (F0 m 59 ls []) := by
    intro  S x1 h H locs ls I hl
    unfold f_X5_readThing_59 at h
    refine lv_iconst (v := 0) hx hb dX5_readThing_59 (by decide) ?_
    exact J_60 _ _ _ h _ _ _ I (lv_sub hl [0, 1] rfl)
  unfold f_X5_readThing at h
  refine lv_aload_n hx hb dX5_readThing_0 rfl (lv_at hl 0 rfl) ?_
  refine lv_iconst (v := 1) hx hb dX5_readThing_1 (by decide) ?_
  obtain ⟨S6, e6, h⟩ := obd_ex h
  refine k_V (As := [.int 1]) (rest := []) (st1 := []) C kx hK I hA (c_X5_note e6) ⟨Nat.le_of_ble_eq_true rfl, Nat.le_of_ble_eq_true rfl⟩ mv_X5_note lk_X5_92 2 5 (xw_2 (cI := cI) (ad := ad) (cC := cC) (cS := cS)) rfl rfl hl.1 rfl (Nat.le_of_ble_eq_true rfl) dX5_readThing_2 rfl (fun H locs I => ?_)
  refine lv_aload_n hx hb dX5_readThing_5 rfl (lv_at hl 0 rfl) ?_
  refine lv_aload_n hx hb dX5_readThing_6 rfl (lv_at hl 0 rfl) ?_
  obtain ⟨r7, S7, e7, h⟩ := obd2_ex h
  refine k_V (As := []) (rest := [.ref (ad 2)]) (st1 := [.int r7, .ref (ad 2)]) C kx hK I hA (c_X5_letter e7) ⟨Nat.le_of_ble_eq_true rfl, Nat.le_of_ble_eq_true rfl⟩ mv_X5_letter lk_X5_96 2 5 (xw_2 (cI := cI) (ad := ad) (cC := cC) (cS := cS)) rfl rfl hl.1 rfl (Nat.le_of_ble_eq_true rfl) dX5_readThing_7 rfl (fun H locs I => ?_)
  obtain ⟨S8, e8, h⟩ := obd_ex h
  refine k_V (As := [.int r7]) (rest := []) (st1 := []) C kx hK I hA (c_X5_note e8) ⟨Nat.le_of_ble_eq_true rfl, Nat.le_of_ble_eq_true rfl⟩ mv_X5_note lk_X5_92 2 5 (xw_2 (cI := cI) (ad := ad) (cC := cC) (cS := cS)) rfl rfl hl.1 rfl (Nat.le_of_ble_eq_true rfl) dX5_readThing_10 rfl (fun H locs I => ?_)
  refine lv_aload_n hx hb dX5_readThing_13 rfl (lv_at hl 0 rfl) ?_
  refine lv_aload_n hx hb dX5_readThing_14 rfl (lv_at hl 0 rfl) ?_
  refine lv_iconst (v := 1) hx hb dX5_readThing_15 (by decide) ?_
  refine lv_bipush (v := 99) hx hb dX5_readThing_16 (by decide) ?_
  obtain ⟨r9, S9, e9, h⟩ := obd2_ex h
  refine k_V (As := [.int 1, .int 99]) (rest := [.ref (ad 2)]) (st1 := [.int r9, .ref (ad 2)]) C kx hK I hA (c_X5_number e9) ⟨Nat.le_of_ble_eq_true rfl, Nat.le_of_ble_eq_true rfl⟩ mv_X5_number lk_X5_99 2 5 (xw_2 (cI := cI) (ad := ad) (cC := cC) (cS := cS)) rfl rfl hl.1 rfl (Nat.le_of_ble_eq_true rfl) dX5_readThing_18 rfl (fun H locs I => ?_)
  obtain ⟨S10, e10, h⟩ := obd_ex h
  refine k_V (As := [.int r9]) (rest := []) (st1 := []) C kx hK I hA (c_X5_note e10) ⟨Nat.le_of_ble_eq_true rfl, Nat.le_of_ble_eq_true rfl⟩ mv_X5_note lk_X5_92 2 5 (xw_2 (cI := cI) (ad := ad) (cC := cC) (cS := cS)) rfl rfl hl.1 rfl (Nat.le_of_ble_eq_true rfl) dX5_readThing_21 rfl (fun H locs I => ?_)
  refine lv_aload_n hx hb dX5_readThing_24 rfl (lv_at hl 0 rfl) ?_
  refine lv_aload_n hx hb dX5_readThing_25 rfl (lv_at hl 0 rfl) ?_
  refine lv_iconst (v := 0) hx hb dX5_readThing_26 (by decide) ?_
  refine lv_bipush (v := 99) hx hb dX5_readThing_27 (by decide) ?_
  obtain ⟨r11, S11, e11, h⟩ := obd2_ex h
  refine k_V (As := [.int 0, .int 99]) (rest := [.ref (ad 2)]) (st1 := [.int r11, .ref (ad 2)]) C kx hK I hA (c_X5_number e11) ⟨Nat.le_of_ble_eq_true rfl, Nat.le_of_ble_eq_true rfl⟩ mv_X5_number lk_X5_99 2 5 (xw_2 (cI := cI) (ad := ad) (cC := cC) (cS := cS)) rfl rfl hl.1 rfl (Nat.le_of_ble_eq_true rfl) dX5_readThing_29 rfl (fun H locs I => ?_)
  obtain ⟨S12, e12, h⟩ := obd_ex h
  refine k_V (As := [.int r11]) (rest := []) (st1 := []) C kx hK I hA (c_X5_note e12) ⟨Nat.le_of_ble_eq_true rfl, Nat.le_of_ble_eq_true rfl⟩ mv_X5_note lk_X5_92 2 5 (xw_2 (cI := cI) (ad := ad) (cC := cC) (cS := cS)) rfl rfl hl.1 rfl (Nat.le_of_ble_eq_true rfl) dX5_readThing_32 rfl (fun H locs I => ?_)
  refine lv_aload_n hx hb dX5_readThing_35 rfl (lv_at hl 0 rfl) ?_
  refine va_ldcS (tx := strT 2) hx hb C.2.2.2.1 (hK.2.2.2.1 2 (by decide)) dX5_readThing_36 ?_
  obtain ⟨r13, S13, e13, h⟩ := obd2_ex h
  refine k_V (As := [.ref (adK 2)]) (rest := []) (st1 := [.int r13]) C kx hK I hA (c_X5_takes e13) ⟨Nat.le_of_ble_eq_true rfl, Nat.le_of_ble_eq_true rfl⟩ mv_X5_takes lk_X5_43 2 5 (xw_2 (cI := cI) (ad := ad) (cC := cC) (cS := cS)) rfl rfl hl.1 rfl (Nat.le_of_ble_eq_true rfl) dX5_readThing_38 rfl (fun H locs I => ?_)
  refine lv_istore_n (lv' := [(1, .int r13), (0, .ref (ad 2))]) hx hb dX5_readThing_41 rfl hl (by decide) rfl (fun ls hl => ?_)
  refine lv_iload_n hx hb dX5_readThing_42 rfl (lv_at hl 0 rfl) ?_
  refine lv_if_ne (tgt := 59) hx hb dX5_readThing_43 (by decide) (fun c14 => ?_) (fun c14 => ?_)
  · have h := ite_n c14 h
    exact J_59 _ _ h _ _ _ I (lv_sub hl [1, 0] rfl)
  · have h := ite_t c14 h
    refine lv_aload_n hx hb dX5_readThing_46 rfl (lv_at hl 1 rfl) ?_
    refine va_ldcS (tx := strT 3) hx hb C.2.2.2.1 (hK.2.2.2.1 3 (by decide)) dX5_readThing_47 ?_
    obtain ⟨r15, S15, e15, h⟩ := obd2_ex h
    refine k_V (As := [.ref (adK 3)]) (rest := []) (st1 := [.int r15]) C kx hK I hA (c_X5_takes e15) ⟨Nat.le_of_ble_eq_true rfl, Nat.le_of_ble_eq_true rfl⟩ mv_X5_takes lk_X5_43 2 5 (xw_2 (cI := cI) (ad := ad) (cC := cC) (cS := cS)) rfl rfl hl.1 rfl (Nat.le_of_ble_eq_true rfl) dX5_readThing_49 rfl (fun H locs I => ?_)
    refine lv_if_eq (tgt := 59) hx hb dX5_readThing_52 (by decide) (fun c16 => ?_) (fun c16 => ?_)
    · have h := ite_t c16 h
      exact J_59 _ _ h _ _ _ I (lv_sub hl [1, 0] rfl)
    · have h := ite_n c16 h
      refine lv_iconst (v := 1) hx hb dX5_readThing_55 (by decide) ?_
      refine lv_goto (tgt := 60) hx hb dX5_readThing_56 (by decide) ?_
      exact J_60 _ _ _ h _ _ _ I (lv_sub hl [1, 0] rfl)
theorem dX5_readOne_0 : decode cX5_readOne 0 = .ok (.aload_n 0, 1) := by decide +kernel
theorem dX5_readOne_1 : decode cX5_readOne 1 = .ok (.iload_n 1, 1) := by decide +kernel
theorem dX5_readOne_2 : decode cX5_readOne 2 = .ok (.invokevirtual 92, 3) := by decide +kernel
theorem dX5_readOne_5 : decode cX5_readOne 5 = .ok (.aload_n 0, 1) := by decide +kernel
theorem dX5_readOne_6 : decode cX5_readOne 6 = .ok (.aload_n 0, 1) := by decide +kernel
theorem dX5_readOne_7 : decode cX5_readOne 7 = .ok (.iconst 0, 1) := by decide +kernel
theorem dX5_readOne_8 : decode cX5_readOne 8 = .ok (.iload_n 2, 1) := by decide +kernel
theorem dX5_readOne_9 : decode cX5_readOne 9 = .ok (.invokevirtual 99, 3) := by decide +kernel
theorem dX5_readOne_12 : decode cX5_readOne 12 = .ok (.invokevirtual 92, 3) := by decide +kernel
theorem dX5_readOne_15 : decode cX5_readOne 15 = .ok (.return_, 1) := by decide +kernel
def f_X5_readOne (S : St) (x1 : Int32) (x2 : Int32) : Option St :=
  obd (f_X5_note S x1) fun S1 =>
  obd2 (f_X5_number S1 0 x2) fun r2 S2 =>
  obd (f_X5_note S2 r2) fun S3 =>
  some S3
set_option maxHeartbeats 4000000 in
set_option maxRecDepth 100000 in
theorem c_X5_readOne {l : Launch} {D : va_G} {cI cC cS : ClassId} {ad adK adV : Nat → Nat} {S S1 : St} {x1 : Int32} {x2 : Int32} (h : f_X5_readOne S x1 x2 = some S1) : Kt l D (xw cI cC cS ad) (KX D (xtys cI cC cS) adK adV) yX5_readOne cX5_readOne 3 none (3) (69) [.ref (ad 2), .int x1, .int x2] S (none) S1 := by
  refine k_ent (ins := .return_) (st := []) (by decide +kernel) (Nat.le_of_ble_eq_true rfl) ret_v ?_
  intro p e s m args below meth c A Q C hK I hA hq ls hl
  have C : CallFix p m c cX5_readOne 3 s args TT RX5 := C
  have hx := C.1
  have hb := C.2.1
  have kx := kx_ok D (xtys cI cC cS) adK adV
  have hl : lv_has ls 3 [(0, .ref (ad 2)), (1, .int x1), (2, .int x2)] := hl
  unfold f_X5_readOne at h
  refine lv_aload_n hx hb dX5_readOne_0 rfl (lv_at hl 0 rfl) ?_
  refine lv_iload_n hx hb dX5_readOne_1 rfl (lv_at hl 1 rfl) ?_
  obtain ⟨S1, e1, h⟩ := obd_ex h
  refine k_V (As := [.int x1]) (rest := []) (st1 := []) C kx hK I hA (c_X5_note e1) ⟨Nat.le_of_ble_eq_true rfl, Nat.le_of_ble_eq_true rfl⟩ mv_X5_note lk_X5_92 2 5 (xw_2 (cI := cI) (ad := ad) (cC := cC) (cS := cS)) rfl rfl hl.1 rfl (Nat.le_of_ble_eq_true rfl) dX5_readOne_2 rfl (fun H locs I => ?_)
  refine lv_aload_n hx hb dX5_readOne_5 rfl (lv_at hl 0 rfl) ?_
  refine lv_aload_n hx hb dX5_readOne_6 rfl (lv_at hl 0 rfl) ?_
  refine lv_iconst (v := 0) hx hb dX5_readOne_7 (by decide) ?_
  refine lv_iload_n hx hb dX5_readOne_8 rfl (lv_at hl 2 rfl) ?_
  obtain ⟨r2, S2, e2, h⟩ := obd2_ex h
  refine k_V (As := [.int 0, .int x2]) (rest := [.ref (ad 2)]) (st1 := [.int r2, .ref (ad 2)]) C kx hK I hA (c_X5_number e2) ⟨Nat.le_of_ble_eq_true rfl, Nat.le_of_ble_eq_true rfl⟩ mv_X5_number lk_X5_99 2 5 (xw_2 (cI := cI) (ad := ad) (cC := cC) (cS := cS)) rfl rfl hl.1 rfl (Nat.le_of_ble_eq_true rfl) dX5_readOne_9 rfl (fun H locs I => ?_)
  obtain ⟨S3, e3, h⟩ := obd_ex h
  refine k_V (As := [.int r2]) (rest := []) (st1 := []) C kx hK I hA (c_X5_note e3) ⟨Nat.le_of_ble_eq_true rfl, Nat.le_of_ble_eq_true rfl⟩ mv_X5_note lk_X5_92 2 5 (xw_2 (cI := cI) (ad := ad) (cC := cC) (cS := cS)) rfl rfl hl.1 rfl (Nat.le_of_ble_eq_true rfl) dX5_readOne_12 rfl (fun H locs I => ?_)
  exact rt_v hq h I dX5_readOne_15
theorem dX5_readWay_0 : decode cX5_readWay 0 = .ok (.aload_n 0, 1) := by decide +kernel
theorem dX5_readWay_1 : decode cX5_readWay 1 = .ok (.iconst 5, 1) := by decide +kernel
theorem dX5_readWay_2 : decode cX5_readWay 2 = .ok (.invokevirtual 92, 3) := by decide +kernel
theorem dX5_readWay_5 : decode cX5_readWay 5 = .ok (.aload_n 0, 1) := by decide +kernel
theorem dX5_readWay_6 : decode cX5_readWay 6 = .ok (.iconst 0, 1) := by decide +kernel
theorem dX5_readWay_7 : decode cX5_readWay 7 = .ok (.iconst 5, 1) := by decide +kernel
theorem dX5_readWay_8 : decode cX5_readWay 8 = .ok (.invokevirtual 99, 3) := by decide +kernel
theorem dX5_readWay_11 : decode cX5_readWay 11 = .ok (.istore_n 1, 1) := by decide +kernel
theorem dX5_readWay_12 : decode cX5_readWay 12 = .ok (.aload_n 0, 1) := by decide +kernel
theorem dX5_readWay_13 : decode cX5_readWay 13 = .ok (.iload_n 1, 1) := by decide +kernel
theorem dX5_readWay_14 : decode cX5_readWay 14 = .ok (.invokevirtual 92, 3) := by decide +kernel
theorem dX5_readWay_17 : decode cX5_readWay 17 = .ok (.aload_n 0, 1) := by decide +kernel
theorem dX5_readWay_18 : decode cX5_readWay 18 = .ok (.getfield 15, 3) := by decide +kernel
theorem dX5_readWay_21 : decode cX5_readWay 21 = .ok (.aload_n 0, 1) := by decide +kernel
theorem dX5_readWay_22 : decode cX5_readWay 22 = .ok (.getfield 53, 3) := by decide +kernel
theorem dX5_readWay_25 : decode cX5_readWay 25 = .ok (.aload_n 0, 1) := by decide +kernel
theorem dX5_readWay_26 : decode cX5_readWay 26 = .ok (.getfield 35, 3) := by decide +kernel
theorem dX5_readWay_29 : decode cX5_readWay 29 = .ok (.invokevirtual 107, 3) := by decide +kernel
theorem dX5_readWay_32 : decode cX5_readWay 32 = .ok (.iload_n 1, 1) := by decide +kernel
theorem dX5_readWay_33 : decode cX5_readWay 33 = .ok (.if_icmp .ne 8, 3) := by decide +kernel
theorem dX5_readWay_36 : decode cX5_readWay 36 = .ok (.aload_n 0, 1) := by decide +kernel
theorem dX5_readWay_37 : decode cX5_readWay 37 = .ok (.iconst 1, 1) := by decide +kernel
theorem dX5_readWay_38 : decode cX5_readWay 38 = .ok (.putfield 31, 3) := by decide +kernel
theorem dX5_readWay_41 : decode cX5_readWay 41 = .ok (.aload_n 0, 1) := by decide +kernel
theorem dX5_readWay_42 : decode cX5_readWay 42 = .ok (.aload_n 0, 1) := by decide +kernel
theorem dX5_readWay_43 : decode cX5_readWay 43 = .ok (.iconst 0, 1) := by decide +kernel
theorem dX5_readWay_44 : decode cX5_readWay 44 = .ok (.iconst 5, 1) := by decide +kernel
theorem dX5_readWay_45 : decode cX5_readWay 45 = .ok (.invokevirtual 99, 3) := by decide +kernel
theorem dX5_readWay_48 : decode cX5_readWay 48 = .ok (.invokevirtual 92, 3) := by decide +kernel
theorem dX5_readWay_51 : decode cX5_readWay 51 = .ok (.aload_n 0, 1) := by decide +kernel
theorem dX5_readWay_52 : decode cX5_readWay 52 = .ok (.aload_n 0, 1) := by decide +kernel
theorem dX5_readWay_53 : decode cX5_readWay 53 = .ok (.iconst 0, 1) := by decide +kernel
theorem dX5_readWay_54 : decode cX5_readWay 54 = .ok (.sipush 200, 3) := by decide +kernel
theorem dX5_readWay_57 : decode cX5_readWay 57 = .ok (.invokevirtual 99, 3) := by decide +kernel
theorem dX5_readWay_60 : decode cX5_readWay 60 = .ok (.invokevirtual 92, 3) := by decide +kernel
theorem dX5_readWay_63 : decode cX5_readWay 63 = .ok (.return_, 1) := by decide +kernel
def f_X5_readWay_41 (S : St)  : Option St :=
  obd2 (f_X5_number S 0 5) fun r1 S1 =>
  obd (f_X5_note S1 r1) fun S2 =>
  obd2 (f_X5_number S2 0 200) fun r3 S3 =>
  obd (f_X5_note S3 r3) fun S4 =>
  some S4
def f_X5_readWay (S : St)  : Option St :=
  obd (f_X5_note S 5) fun S5 =>
  obd2 (f_X5_number S5 0 5) fun r6 S6 =>
  obd (f_X5_note S6 r6) fun S7 =>
  obd2 (f_X8_number S7 (S7.1 2 4) (S7.1 2 5)) fun r8 S8 =>
  if r8 = r6 then (
    bnd (setI S8 2 6 1) fun S10 =>
    f_X5_readWay_41 S10 
  ) else (
    f_X5_readWay_41 S8 
  )
set_option maxHeartbeats 4000000 in
set_option maxRecDepth 100000 in
theorem c_X5_readWay {l : Launch} {D : va_G} {cI cC cS : ClassId} {ad adK adV : Nat → Nat} {S S1 : St}  (h : f_X5_readWay S  = some S1) : Kt l D (xw cI cC cS ad) (KX D (xtys cI cC cS) adK adV) yX5_readWay cX5_readWay 2 none (3) (69) [.ref (ad 2)] S (none) S1 := by
  refine k_ent (ins := .return_) (st := []) (by decide +kernel) (Nat.le_of_ble_eq_true rfl) ret_v ?_
  intro p e s m args below meth c A Q C hK I hA hq ls hl
  have C : CallFix p m c cX5_readWay 2 s args TT RX5 := C
  have hx := C.1
  have hb := C.2.1
  have kx := kx_ok D (xtys cI cC cS) adK adV
  have hl : lv_has ls 2 [(0, .ref (ad 2))] := hl
  have J_41 : ∀ (S : St) , f_X5_readWay_41  S  = some S1 → ∀ (H : Heap) (locs : List Loc) (ls : Array Slot), Iv D (xw cI cC cS ad) S A s H locs → lv_has ls 2 [(0, .ref (ad 2))] → W p l e ({ frames := 3, cells := 0, slots := 0, locals := 69 } : Room) s m args below meth c H locs 0 0 Q (F0 m 41 ls []) := by
    intro  S  h H locs ls I hl
    unfold f_X5_readWay_41 at h
    refine lv_aload_n hx hb dX5_readWay_41 rfl (lv_at hl 0 rfl) ?_
    refine lv_aload_n hx hb dX5_readWay_42 rfl (lv_at hl 0 rfl) ?_
    refine lv_iconst (v := 0) hx hb dX5_readWay_43 (by decide) ?_
    refine lv_iconst (v := 5) hx hb dX5_readWay_44 (by decide) ?_
    obtain ⟨r1, S1, e1, h⟩ := obd2_ex h
    refine k_V (As := [.int 0, .int 5]) (rest := [.ref (ad 2)]) (st1 := [.int r1, .ref (ad 2)]) C kx hK I hA (c_X5_number e1) ⟨Nat.le_of_ble_eq_true rfl, Nat.le_of_ble_eq_true rfl⟩ mv_X5_number lk_X5_99 2 5 (xw_2 (cI := cI) (ad := ad) (cC := cC) (cS := cS)) rfl rfl hl.1 rfl (Nat.le_of_ble_eq_true rfl) dX5_readWay_45 rfl (fun H locs I => ?_)
    obtain ⟨S2, e2, h⟩ := obd_ex h
    refine k_V (As := [.int r1]) (rest := []) (st1 := []) C kx hK I hA (c_X5_note e2) ⟨Nat.le_of_ble_eq_true rfl, Nat.le_of_ble_eq_true rfl⟩ mv_X5_note lk_X5_92 2 5 (xw_2 (cI := cI) (ad := ad) (cC := cC) (cS := cS)) rfl rfl hl.1 rfl (Nat.le_of_ble_eq_true rfl) dX5_readWay_48 rfl (fun H locs I => ?_)
    refine lv_aload_n hx hb dX5_readWay_51 rfl (lv_at hl 0 rfl) ?_
    refine lv_aload_n hx hb dX5_readWay_52 rfl (lv_at hl 0 rfl) ?_
    refine lv_iconst (v := 0) hx hb dX5_readWay_53 (by decide) ?_
    refine lv_sipush (v := 200) hx hb dX5_readWay_54 (by decide) ?_
    obtain ⟨r3, S3, e3, h⟩ := obd2_ex h
    refine k_V (As := [.int 0, .int 200]) (rest := [.ref (ad 2)]) (st1 := [.int r3, .ref (ad 2)]) C kx hK I hA (c_X5_number e3) ⟨Nat.le_of_ble_eq_true rfl, Nat.le_of_ble_eq_true rfl⟩ mv_X5_number lk_X5_99 2 5 (xw_2 (cI := cI) (ad := ad) (cC := cC) (cS := cS)) rfl rfl hl.1 rfl (Nat.le_of_ble_eq_true rfl) dX5_readWay_57 rfl (fun H locs I => ?_)
    obtain ⟨S4, e4, h⟩ := obd_ex h
    refine k_V (As := [.int r3]) (rest := []) (st1 := []) C kx hK I hA (c_X5_note e4) ⟨Nat.le_of_ble_eq_true rfl, Nat.le_of_ble_eq_true rfl⟩ mv_X5_note lk_X5_92 2 5 (xw_2 (cI := cI) (ad := ad) (cC := cC) (cS := cS)) rfl rfl hl.1 rfl (Nat.le_of_ble_eq_true rfl) dX5_readWay_60 rfl (fun H locs I => ?_)
    exact rt_v hq h I dX5_readWay_63
  unfold f_X5_readWay at h
  refine lv_aload_n hx hb dX5_readWay_0 rfl (lv_at hl 0 rfl) ?_
  refine lv_iconst (v := 5) hx hb dX5_readWay_1 (by decide) ?_
  obtain ⟨S5, e5, h⟩ := obd_ex h
  refine k_V (As := [.int 5]) (rest := []) (st1 := []) C kx hK I hA (c_X5_note e5) ⟨Nat.le_of_ble_eq_true rfl, Nat.le_of_ble_eq_true rfl⟩ mv_X5_note lk_X5_92 2 5 (xw_2 (cI := cI) (ad := ad) (cC := cC) (cS := cS)) rfl rfl hl.1 rfl (Nat.le_of_ble_eq_true rfl) dX5_readWay_2 rfl (fun H locs I => ?_)
  refine lv_aload_n hx hb dX5_readWay_5 rfl (lv_at hl 0 rfl) ?_
  refine lv_iconst (v := 0) hx hb dX5_readWay_6 (by decide) ?_
  refine lv_iconst (v := 5) hx hb dX5_readWay_7 (by decide) ?_
  obtain ⟨r6, S6, e6, h⟩ := obd2_ex h
  refine k_V (As := [.int 0, .int 5]) (rest := []) (st1 := [.int r6]) C kx hK I hA (c_X5_number e6) ⟨Nat.le_of_ble_eq_true rfl, Nat.le_of_ble_eq_true rfl⟩ mv_X5_number lk_X5_99 2 5 (xw_2 (cI := cI) (ad := ad) (cC := cC) (cS := cS)) rfl rfl hl.1 rfl (Nat.le_of_ble_eq_true rfl) dX5_readWay_8 rfl (fun H locs I => ?_)
  refine lv_istore_n (lv' := [(1, .int r6), (0, .ref (ad 2))]) hx hb dX5_readWay_11 rfl hl (by decide) rfl (fun ls hl => ?_)
  refine lv_aload_n hx hb dX5_readWay_12 rfl (lv_at hl 1 rfl) ?_
  refine lv_iload_n hx hb dX5_readWay_13 rfl (lv_at hl 0 rfl) ?_
  obtain ⟨S7, e7, h⟩ := obd_ex h
  refine k_V (As := [.int r6]) (rest := []) (st1 := []) C kx hK I hA (c_X5_note e7) ⟨Nat.le_of_ble_eq_true rfl, Nat.le_of_ble_eq_true rfl⟩ mv_X5_note lk_X5_92 2 5 (xw_2 (cI := cI) (ad := ad) (cC := cC) (cS := cS)) rfl rfl hl.1 rfl (Nat.le_of_ble_eq_true rfl) dX5_readWay_14 rfl (fun H locs I => ?_)
  refine lv_aload_n hx hb dX5_readWay_17 rfl (lv_at hl 1 rfl) ?_
  refine gx_2_0 C hK I fl_X5_15 dX5_readWay_18 ?_
  refine lv_aload_n hx hb dX5_readWay_21 rfl (lv_at hl 1 rfl) ?_
  refine gx_2_4 C hK I fl_X5_53 dX5_readWay_22 ?_
  refine lv_aload_n hx hb dX5_readWay_25 rfl (lv_at hl 1 rfl) ?_
  refine gx_2_5 C hK I fl_X5_35 dX5_readWay_26 ?_
  obtain ⟨r8, S8, e8, h⟩ := obd2_ex h
  refine k_V (As := [.int (S7.1 2 4), .int (S7.1 2 5)]) (rest := []) (st1 := [.int r8]) C kx hK I hA (c_X8_number e8) ⟨Nat.le_of_ble_eq_true rfl, Nat.le_of_ble_eq_true rfl⟩ mv_X8_number lk_X5_107 1 8 (xw_1 (cI := cI) (ad := ad) (cC := cC) (cS := cS)) rfl rfl hl.1 rfl (Nat.le_of_ble_eq_true rfl) dX5_readWay_29 rfl (fun H locs I => ?_)
  refine lv_iload_n hx hb dX5_readWay_32 rfl (lv_at hl 0 rfl) ?_
  refine lv_icmp_ne (tgt := 41) hx hb dX5_readWay_33 (by decide) (fun c9 => ?_) (fun c9 => ?_)
  · have h := ite_n c9 h
    exact J_41 _  h _ _ _ I (lv_sub hl [1] rfl)
  · have h := ite_t c9 h
    refine lv_aload_n hx hb dX5_readWay_36 rfl (lv_at hl 1 rfl) ?_
    refine lv_iconst (v := 1) hx hb dX5_readWay_37 (by decide) ?_
    refine px_2_6 C hK I fl_X5_31 (Or.inr rfl) dX5_readWay_38 (fun S10 eS10 H locs I => ?_)
    have h := bnd_at eS10 h
    clear eS10
    exact J_41 _  h _ _ _ I (lv_sub hl [1] rfl)
theorem dX5_readCall_0 : decode cX5_readCall 0 = .ok (.aload_n 0, 1) := by decide +kernel
theorem dX5_readCall_1 : decode cX5_readCall 1 = .ok (.bipush 6, 2) := by decide +kernel
theorem dX5_readCall_3 : decode cX5_readCall 3 = .ok (.invokevirtual 92, 3) := by decide +kernel
theorem dX5_readCall_6 : decode cX5_readCall 6 = .ok (.aload_n 0, 1) := by decide +kernel
theorem dX5_readCall_7 : decode cX5_readCall 7 = .ok (.aload_n 0, 1) := by decide +kernel
theorem dX5_readCall_8 : decode cX5_readCall 8 = .ok (.iconst 0, 1) := by decide +kernel
theorem dX5_readCall_9 : decode cX5_readCall 9 = .ok (.iconst 5, 1) := by decide +kernel
theorem dX5_readCall_10 : decode cX5_readCall 10 = .ok (.invokevirtual 99, 3) := by decide +kernel
theorem dX5_readCall_13 : decode cX5_readCall 13 = .ok (.invokevirtual 92, 3) := by decide +kernel
theorem dX5_readCall_16 : decode cX5_readCall 16 = .ok (.aload_n 0, 1) := by decide +kernel
theorem dX5_readCall_17 : decode cX5_readCall 17 = .ok (.aload_n 0, 1) := by decide +kernel
theorem dX5_readCall_18 : decode cX5_readCall 18 = .ok (.iconst 1, 1) := by decide +kernel
theorem dX5_readCall_19 : decode cX5_readCall 19 = .ok (.iconst 5, 1) := by decide +kernel
theorem dX5_readCall_20 : decode cX5_readCall 20 = .ok (.invokevirtual 99, 3) := by decide +kernel
theorem dX5_readCall_23 : decode cX5_readCall 23 = .ok (.invokevirtual 92, 3) := by decide +kernel
theorem dX5_readCall_26 : decode cX5_readCall 26 = .ok (.aload_n 0, 1) := by decide +kernel
theorem dX5_readCall_27 : decode cX5_readCall 27 = .ok (.iconst 0, 1) := by decide +kernel
theorem dX5_readCall_28 : decode cX5_readCall 28 = .ok (.sipush 1439, 3) := by decide +kernel
theorem dX5_readCall_31 : decode cX5_readCall 31 = .ok (.invokevirtual 99, 3) := by decide +kernel
theorem dX5_readCall_34 : decode cX5_readCall 34 = .ok (.istore_n 1, 1) := by decide +kernel
theorem dX5_readCall_35 : decode cX5_readCall 35 = .ok (.aload_n 0, 1) := by decide +kernel
theorem dX5_readCall_36 : decode cX5_readCall 36 = .ok (.iload_n 1, 1) := by decide +kernel
theorem dX5_readCall_37 : decode cX5_readCall 37 = .ok (.invokevirtual 92, 3) := by decide +kernel
theorem dX5_readCall_40 : decode cX5_readCall 40 = .ok (.aload_n 0, 1) := by decide +kernel
theorem dX5_readCall_41 : decode cX5_readCall 41 = .ok (.aload_n 0, 1) := by decide +kernel
theorem dX5_readCall_42 : decode cX5_readCall 42 = .ok (.iload_n 1, 1) := by decide +kernel
theorem dX5_readCall_43 : decode cX5_readCall 43 = .ok (.sipush 1439, 3) := by decide +kernel
theorem dX5_readCall_46 : decode cX5_readCall 46 = .ok (.invokevirtual 99, 3) := by decide +kernel
theorem dX5_readCall_49 : decode cX5_readCall 49 = .ok (.invokevirtual 92, 3) := by decide +kernel
theorem dX5_readCall_52 : decode cX5_readCall 52 = .ok (.aload_n 0, 1) := by decide +kernel
theorem dX5_readCall_53 : decode cX5_readCall 53 = .ok (.aload_n 0, 1) := by decide +kernel
theorem dX5_readCall_54 : decode cX5_readCall 54 = .ok (.iconst 0, 1) := by decide +kernel
theorem dX5_readCall_55 : decode cX5_readCall 55 = .ok (.bipush 99, 2) := by decide +kernel
theorem dX5_readCall_57 : decode cX5_readCall 57 = .ok (.invokevirtual 99, 3) := by decide +kernel
theorem dX5_readCall_60 : decode cX5_readCall 60 = .ok (.invokevirtual 92, 3) := by decide +kernel
theorem dX5_readCall_63 : decode cX5_readCall 63 = .ok (.aload_n 0, 1) := by decide +kernel
theorem dX5_readCall_64 : decode cX5_readCall 64 = .ok (.aload_n 0, 1) := by decide +kernel
theorem dX5_readCall_65 : decode cX5_readCall 65 = .ok (.iconst 0, 1) := by decide +kernel
theorem dX5_readCall_66 : decode cX5_readCall 66 = .ok (.bipush 99, 2) := by decide +kernel
theorem dX5_readCall_68 : decode cX5_readCall 68 = .ok (.invokevirtual 99, 3) := by decide +kernel
theorem dX5_readCall_71 : decode cX5_readCall 71 = .ok (.invokevirtual 92, 3) := by decide +kernel
theorem dX5_readCall_74 : decode cX5_readCall 74 = .ok (.aload_n 0, 1) := by decide +kernel
theorem dX5_readCall_75 : decode cX5_readCall 75 = .ok (.aload_n 0, 1) := by decide +kernel
theorem dX5_readCall_76 : decode cX5_readCall 76 = .ok (.iconst 0, 1) := by decide +kernel
theorem dX5_readCall_77 : decode cX5_readCall 77 = .ok (.bipush 99, 2) := by decide +kernel
theorem dX5_readCall_79 : decode cX5_readCall 79 = .ok (.invokevirtual 99, 3) := by decide +kernel
theorem dX5_readCall_82 : decode cX5_readCall 82 = .ok (.invokevirtual 92, 3) := by decide +kernel
theorem dX5_readCall_85 : decode cX5_readCall 85 = .ok (.return_, 1) := by decide +kernel
def f_X5_readCall (S : St)  : Option St :=
  obd (f_X5_note S 6) fun S1 =>
  obd2 (f_X5_number S1 0 5) fun r2 S2 =>
  obd (f_X5_note S2 r2) fun S3 =>
  obd2 (f_X5_number S3 1 5) fun r4 S4 =>
  obd (f_X5_note S4 r4) fun S5 =>
  obd2 (f_X5_number S5 0 1439) fun r6 S6 =>
  obd (f_X5_note S6 r6) fun S7 =>
  obd2 (f_X5_number S7 r6 1439) fun r8 S8 =>
  obd (f_X5_note S8 r8) fun S9 =>
  obd2 (f_X5_number S9 0 99) fun r10 S10 =>
  obd (f_X5_note S10 r10) fun S11 =>
  obd2 (f_X5_number S11 0 99) fun r12 S12 =>
  obd (f_X5_note S12 r12) fun S13 =>
  obd2 (f_X5_number S13 0 99) fun r14 S14 =>
  obd (f_X5_note S14 r14) fun S15 =>
  some S15
set_option maxHeartbeats 4000000 in
set_option maxRecDepth 100000 in
theorem c_X5_readCall {l : Launch} {D : va_G} {cI cC cS : ClassId} {ad adK adV : Nat → Nat} {S S1 : St}  (h : f_X5_readCall S  = some S1) : Kt l D (xw cI cC cS ad) (KX D (xtys cI cC cS) adK adV) yX5_readCall cX5_readCall 2 none (3) (69) [.ref (ad 2)] S (none) S1 := by
  refine k_ent (ins := .return_) (st := []) (by decide +kernel) (Nat.le_of_ble_eq_true rfl) ret_v ?_
  intro p e s m args below meth c A Q C hK I hA hq ls hl
  have C : CallFix p m c cX5_readCall 2 s args TT RX5 := C
  have hx := C.1
  have hb := C.2.1
  have kx := kx_ok D (xtys cI cC cS) adK adV
  have hl : lv_has ls 2 [(0, .ref (ad 2))] := hl
  unfold f_X5_readCall at h
  refine lv_aload_n hx hb dX5_readCall_0 rfl (lv_at hl 0 rfl) ?_
  refine lv_bipush (v := 6) hx hb dX5_readCall_1 (by decide) ?_
  obtain ⟨S1, e1, h⟩ := obd_ex h
  refine k_V (As := [.int 6]) (rest := []) (st1 := []) C kx hK I hA (c_X5_note e1) ⟨Nat.le_of_ble_eq_true rfl, Nat.le_of_ble_eq_true rfl⟩ mv_X5_note lk_X5_92 2 5 (xw_2 (cI := cI) (ad := ad) (cC := cC) (cS := cS)) rfl rfl hl.1 rfl (Nat.le_of_ble_eq_true rfl) dX5_readCall_3 rfl (fun H locs I => ?_)
  refine lv_aload_n hx hb dX5_readCall_6 rfl (lv_at hl 0 rfl) ?_
  refine lv_aload_n hx hb dX5_readCall_7 rfl (lv_at hl 0 rfl) ?_
  refine lv_iconst (v := 0) hx hb dX5_readCall_8 (by decide) ?_
  refine lv_iconst (v := 5) hx hb dX5_readCall_9 (by decide) ?_
  obtain ⟨r2, S2, e2, h⟩ := obd2_ex h
  refine k_V (As := [.int 0, .int 5]) (rest := [.ref (ad 2)]) (st1 := [.int r2, .ref (ad 2)]) C kx hK I hA (c_X5_number e2) ⟨Nat.le_of_ble_eq_true rfl, Nat.le_of_ble_eq_true rfl⟩ mv_X5_number lk_X5_99 2 5 (xw_2 (cI := cI) (ad := ad) (cC := cC) (cS := cS)) rfl rfl hl.1 rfl (Nat.le_of_ble_eq_true rfl) dX5_readCall_10 rfl (fun H locs I => ?_)
  obtain ⟨S3, e3, h⟩ := obd_ex h
  refine k_V (As := [.int r2]) (rest := []) (st1 := []) C kx hK I hA (c_X5_note e3) ⟨Nat.le_of_ble_eq_true rfl, Nat.le_of_ble_eq_true rfl⟩ mv_X5_note lk_X5_92 2 5 (xw_2 (cI := cI) (ad := ad) (cC := cC) (cS := cS)) rfl rfl hl.1 rfl (Nat.le_of_ble_eq_true rfl) dX5_readCall_13 rfl (fun H locs I => ?_)
  refine lv_aload_n hx hb dX5_readCall_16 rfl (lv_at hl 0 rfl) ?_
  refine lv_aload_n hx hb dX5_readCall_17 rfl (lv_at hl 0 rfl) ?_
  refine lv_iconst (v := 1) hx hb dX5_readCall_18 (by decide) ?_
  refine lv_iconst (v := 5) hx hb dX5_readCall_19 (by decide) ?_
  obtain ⟨r4, S4, e4, h⟩ := obd2_ex h
  refine k_V (As := [.int 1, .int 5]) (rest := [.ref (ad 2)]) (st1 := [.int r4, .ref (ad 2)]) C kx hK I hA (c_X5_number e4) ⟨Nat.le_of_ble_eq_true rfl, Nat.le_of_ble_eq_true rfl⟩ mv_X5_number lk_X5_99 2 5 (xw_2 (cI := cI) (ad := ad) (cC := cC) (cS := cS)) rfl rfl hl.1 rfl (Nat.le_of_ble_eq_true rfl) dX5_readCall_20 rfl (fun H locs I => ?_)
  obtain ⟨S5, e5, h⟩ := obd_ex h
  refine k_V (As := [.int r4]) (rest := []) (st1 := []) C kx hK I hA (c_X5_note e5) ⟨Nat.le_of_ble_eq_true rfl, Nat.le_of_ble_eq_true rfl⟩ mv_X5_note lk_X5_92 2 5 (xw_2 (cI := cI) (ad := ad) (cC := cC) (cS := cS)) rfl rfl hl.1 rfl (Nat.le_of_ble_eq_true rfl) dX5_readCall_23 rfl (fun H locs I => ?_)
  refine lv_aload_n hx hb dX5_readCall_26 rfl (lv_at hl 0 rfl) ?_
  refine lv_iconst (v := 0) hx hb dX5_readCall_27 (by decide) ?_
  refine lv_sipush (v := 1439) hx hb dX5_readCall_28 (by decide) ?_
  obtain ⟨r6, S6, e6, h⟩ := obd2_ex h
  refine k_V (As := [.int 0, .int 1439]) (rest := []) (st1 := [.int r6]) C kx hK I hA (c_X5_number e6) ⟨Nat.le_of_ble_eq_true rfl, Nat.le_of_ble_eq_true rfl⟩ mv_X5_number lk_X5_99 2 5 (xw_2 (cI := cI) (ad := ad) (cC := cC) (cS := cS)) rfl rfl hl.1 rfl (Nat.le_of_ble_eq_true rfl) dX5_readCall_31 rfl (fun H locs I => ?_)
  refine lv_istore_n (lv' := [(1, .int r6), (0, .ref (ad 2))]) hx hb dX5_readCall_34 rfl hl (by decide) rfl (fun ls hl => ?_)
  refine lv_aload_n hx hb dX5_readCall_35 rfl (lv_at hl 1 rfl) ?_
  refine lv_iload_n hx hb dX5_readCall_36 rfl (lv_at hl 0 rfl) ?_
  obtain ⟨S7, e7, h⟩ := obd_ex h
  refine k_V (As := [.int r6]) (rest := []) (st1 := []) C kx hK I hA (c_X5_note e7) ⟨Nat.le_of_ble_eq_true rfl, Nat.le_of_ble_eq_true rfl⟩ mv_X5_note lk_X5_92 2 5 (xw_2 (cI := cI) (ad := ad) (cC := cC) (cS := cS)) rfl rfl hl.1 rfl (Nat.le_of_ble_eq_true rfl) dX5_readCall_37 rfl (fun H locs I => ?_)
  refine lv_aload_n hx hb dX5_readCall_40 rfl (lv_at hl 1 rfl) ?_
  refine lv_aload_n hx hb dX5_readCall_41 rfl (lv_at hl 1 rfl) ?_
  refine lv_iload_n hx hb dX5_readCall_42 rfl (lv_at hl 0 rfl) ?_
  refine lv_sipush (v := 1439) hx hb dX5_readCall_43 (by decide) ?_
  obtain ⟨r8, S8, e8, h⟩ := obd2_ex h
  refine k_V (As := [.int r6, .int 1439]) (rest := [.ref (ad 2)]) (st1 := [.int r8, .ref (ad 2)]) C kx hK I hA (c_X5_number e8) ⟨Nat.le_of_ble_eq_true rfl, Nat.le_of_ble_eq_true rfl⟩ mv_X5_number lk_X5_99 2 5 (xw_2 (cI := cI) (ad := ad) (cC := cC) (cS := cS)) rfl rfl hl.1 rfl (Nat.le_of_ble_eq_true rfl) dX5_readCall_46 rfl (fun H locs I => ?_)
  obtain ⟨S9, e9, h⟩ := obd_ex h
  refine k_V (As := [.int r8]) (rest := []) (st1 := []) C kx hK I hA (c_X5_note e9) ⟨Nat.le_of_ble_eq_true rfl, Nat.le_of_ble_eq_true rfl⟩ mv_X5_note lk_X5_92 2 5 (xw_2 (cI := cI) (ad := ad) (cC := cC) (cS := cS)) rfl rfl hl.1 rfl (Nat.le_of_ble_eq_true rfl) dX5_readCall_49 rfl (fun H locs I => ?_)
  refine lv_aload_n hx hb dX5_readCall_52 rfl (lv_at hl 1 rfl) ?_
  refine lv_aload_n hx hb dX5_readCall_53 rfl (lv_at hl 1 rfl) ?_
  refine lv_iconst (v := 0) hx hb dX5_readCall_54 (by decide) ?_
  refine lv_bipush (v := 99) hx hb dX5_readCall_55 (by decide) ?_
  obtain ⟨r10, S10, e10, h⟩ := obd2_ex h
  refine k_V (As := [.int 0, .int 99]) (rest := [.ref (ad 2)]) (st1 := [.int r10, .ref (ad 2)]) C kx hK I hA (c_X5_number e10) ⟨Nat.le_of_ble_eq_true rfl, Nat.le_of_ble_eq_true rfl⟩ mv_X5_number lk_X5_99 2 5 (xw_2 (cI := cI) (ad := ad) (cC := cC) (cS := cS)) rfl rfl hl.1 rfl (Nat.le_of_ble_eq_true rfl) dX5_readCall_57 rfl (fun H locs I => ?_)
  obtain ⟨S11, e11, h⟩ := obd_ex h
  refine k_V (As := [.int r10]) (rest := []) (st1 := []) C kx hK I hA (c_X5_note e11) ⟨Nat.le_of_ble_eq_true rfl, Nat.le_of_ble_eq_true rfl⟩ mv_X5_note lk_X5_92 2 5 (xw_2 (cI := cI) (ad := ad) (cC := cC) (cS := cS)) rfl rfl hl.1 rfl (Nat.le_of_ble_eq_true rfl) dX5_readCall_60 rfl (fun H locs I => ?_)
  refine lv_aload_n hx hb dX5_readCall_63 rfl (lv_at hl 1 rfl) ?_
  refine lv_aload_n hx hb dX5_readCall_64 rfl (lv_at hl 1 rfl) ?_
  refine lv_iconst (v := 0) hx hb dX5_readCall_65 (by decide) ?_
  refine lv_bipush (v := 99) hx hb dX5_readCall_66 (by decide) ?_
  obtain ⟨r12, S12, e12, h⟩ := obd2_ex h
  refine k_V (As := [.int 0, .int 99]) (rest := [.ref (ad 2)]) (st1 := [.int r12, .ref (ad 2)]) C kx hK I hA (c_X5_number e12) ⟨Nat.le_of_ble_eq_true rfl, Nat.le_of_ble_eq_true rfl⟩ mv_X5_number lk_X5_99 2 5 (xw_2 (cI := cI) (ad := ad) (cC := cC) (cS := cS)) rfl rfl hl.1 rfl (Nat.le_of_ble_eq_true rfl) dX5_readCall_68 rfl (fun H locs I => ?_)
  obtain ⟨S13, e13, h⟩ := obd_ex h
  refine k_V (As := [.int r12]) (rest := []) (st1 := []) C kx hK I hA (c_X5_note e13) ⟨Nat.le_of_ble_eq_true rfl, Nat.le_of_ble_eq_true rfl⟩ mv_X5_note lk_X5_92 2 5 (xw_2 (cI := cI) (ad := ad) (cC := cC) (cS := cS)) rfl rfl hl.1 rfl (Nat.le_of_ble_eq_true rfl) dX5_readCall_71 rfl (fun H locs I => ?_)
  refine lv_aload_n hx hb dX5_readCall_74 rfl (lv_at hl 1 rfl) ?_
  refine lv_aload_n hx hb dX5_readCall_75 rfl (lv_at hl 1 rfl) ?_
  refine lv_iconst (v := 0) hx hb dX5_readCall_76 (by decide) ?_
  refine lv_bipush (v := 99) hx hb dX5_readCall_77 (by decide) ?_
  obtain ⟨r14, S14, e14, h⟩ := obd2_ex h
  refine k_V (As := [.int 0, .int 99]) (rest := [.ref (ad 2)]) (st1 := [.int r14, .ref (ad 2)]) C kx hK I hA (c_X5_number e14) ⟨Nat.le_of_ble_eq_true rfl, Nat.le_of_ble_eq_true rfl⟩ mv_X5_number lk_X5_99 2 5 (xw_2 (cI := cI) (ad := ad) (cC := cC) (cS := cS)) rfl rfl hl.1 rfl (Nat.le_of_ble_eq_true rfl) dX5_readCall_79 rfl (fun H locs I => ?_)
  obtain ⟨S15, e15, h⟩ := obd_ex h
  refine k_V (As := [.int r14]) (rest := []) (st1 := []) C kx hK I hA (c_X5_note e15) ⟨Nat.le_of_ble_eq_true rfl, Nat.le_of_ble_eq_true rfl⟩ mv_X5_note lk_X5_92 2 5 (xw_2 (cI := cI) (ad := ad) (cC := cC) (cS := cS)) rfl rfl hl.1 rfl (Nat.le_of_ble_eq_true rfl) dX5_readCall_82 rfl (fun H locs I => ?_)
  exact rt_v hq h I dX5_readCall_85
theorem dX5_things_0 : decode cX5_things 0 = .ok (.aload_n 0, 1) := by decide +kernel
theorem dX5_things_1 : decode cX5_things 1 = .ok (.getfield 15, 3) := by decide +kernel
theorem dX5_things_4 : decode cX5_things 4 = .ok (.aload_n 0, 1) := by decide +kernel
theorem dX5_things_5 : decode cX5_things 5 = .ok (.getfield 53, 3) := by decide +kernel
theorem dX5_things_8 : decode cX5_things 8 = .ok (.aload_n 0, 1) := by decide +kernel
theorem dX5_things_9 : decode cX5_things 9 = .ok (.getfield 35, 3) := by decide +kernel
theorem dX5_things_12 : decode cX5_things 12 = .ok (.invokevirtual 132, 3) := by decide +kernel
theorem dX5_things_15 : decode cX5_things 15 = .ok (.istore_n 1, 1) := by decide +kernel
theorem dX5_things_16 : decode cX5_things 16 = .ok (.iload_n 1, 1) := by decide +kernel
theorem dX5_things_17 : decode cX5_things 17 = .ok (.ifCond .ne 8, 3) := by decide +kernel
theorem dX5_things_20 : decode cX5_things 20 = .ok (.aload_n 0, 1) := by decide +kernel
theorem dX5_things_21 : decode cX5_things 21 = .ok (.iconst 1, 1) := by decide +kernel
theorem dX5_things_22 : decode cX5_things 22 = .ok (.putfield 31, 3) := by decide +kernel
theorem dX5_things_25 : decode cX5_things 25 = .ok (.aload_n 0, 1) := by decide +kernel
theorem dX5_things_26 : decode cX5_things 26 = .ok (.getfield 31, 3) := by decide +kernel
theorem dX5_things_29 : decode cX5_things 29 = .ok (.ifCond .eq 5, 3) := by decide +kernel
theorem dX5_things_32 : decode cX5_things 32 = .ok (.iconst 0, 1) := by decide +kernel
theorem dX5_things_33 : decode cX5_things 33 = .ok (.ireturn, 1) := by decide +kernel
theorem dX5_things_34 : decode cX5_things 34 = .ok (.aload_n 0, 1) := by decide +kernel
theorem dX5_things_35 : decode cX5_things 35 = .ok (.invokevirtual 38, 3) := by decide +kernel
theorem dX5_things_38 : decode cX5_things 38 = .ok (.iload_n 1, 1) := by decide +kernel
theorem dX5_things_39 : decode cX5_things 39 = .ok (.ireturn, 1) := by decide +kernel
def f_X5_things_25 (S : St) (x1 : Int32) : Option (Int32 × St) :=
  if (S.1 2 6) = 0 then (
    obd (f_X5_step S ) fun S2 =>
    some (x1, S2)
  ) else (
    some (0, S)
  )
def f_X5_things (S : St)  : Option (Int32 × St) :=
  obd2 (f_X8_things S (S.1 2 4) (S.1 2 5)) fun r3 S3 =>
  if r3 = 0 then (
    bnd (setI S3 2 6 1) fun S5 =>
    f_X5_things_25 S5 r3
  ) else (
    f_X5_things_25 S3 r3
  )
set_option maxHeartbeats 4000000 in
set_option maxRecDepth 100000 in
theorem c_X5_things {l : Launch} {D : va_G} {cI cC cS : ClassId} {ad adK adV : Nat → Nat} {S S1 : St}  {r : Int32} (h : f_X5_things S  = some (r, S1)) : Kt l D (xw cI cC cS ad) (KX D (xtys cI cC cS) adK adV) yX5_things cX5_things 2 (some .int) (2) (47) [.ref (ad 2)] S (some (.int r)) S1 := by
  refine k_ent (ins := .ireturn) (st := [.int r]) (by decide +kernel) (Nat.le_of_ble_eq_true rfl) ret_i ?_
  intro p e s m args below meth c A Q C hK I hA hq ls hl
  have C : CallFix p m c cX5_things 2 s args TT RX5 := C
  have hx := C.1
  have hb := C.2.1
  have kx := kx_ok D (xtys cI cC cS) adK adV
  have hl : lv_has ls 2 [(0, .ref (ad 2))] := hl
  have J_25 : ∀ (S : St) (x1 : Int32), f_X5_things_25  S x1 = some (r, S1) → ∀ (H : Heap) (locs : List Loc) (ls : Array Slot), Iv D (xw cI cC cS ad) S A s H locs → lv_has ls 2 [(0, .ref (ad 2)), (1, .int x1)] → W p l e ({ frames := 2, cells := 0, slots := 0, locals := 47 } : Room) s m args below meth c H locs 0 0 Q (F0 m 25 ls []) := by
    intro  S x1 h H locs ls I hl
    unfold f_X5_things_25 at h
    refine lv_aload_n hx hb dX5_things_25 rfl (lv_at hl 0 rfl) ?_
    refine gx_2_6 C hK I fl_X5_31 dX5_things_26 ?_
    refine lv_if_eq (tgt := 34) hx hb dX5_things_29 (by decide) (fun c1 => ?_) (fun c1 => ?_)
    · have h := ite_t c1 h
      refine lv_aload_n hx hb dX5_things_34 rfl (lv_at hl 0 rfl) ?_
      obtain ⟨S2, e2, h⟩ := obd_ex h
      refine k_V (As := []) (rest := []) (st1 := []) C kx hK I hA (c_X5_step e2) ⟨Nat.le_of_ble_eq_true rfl, Nat.le_of_ble_eq_true rfl⟩ mv_X5_step lk_X5_38 2 5 (xw_2 (cI := cI) (ad := ad) (cC := cC) (cS := cS)) rfl rfl hl.1 rfl (Nat.le_of_ble_eq_true rfl) dX5_things_35 rfl (fun H locs I => ?_)
      refine lv_iload_n hx hb dX5_things_38 rfl (lv_at hl 1 rfl) ?_
      exact rt_i hq h I dX5_things_39
    · have h := ite_n c1 h
      refine lv_iconst (v := 0) hx hb dX5_things_32 (by decide) ?_
      exact rt_i hq h I dX5_things_33
  unfold f_X5_things at h
  refine lv_aload_n hx hb dX5_things_0 rfl (lv_at hl 0 rfl) ?_
  refine gx_2_0 C hK I fl_X5_15 dX5_things_1 ?_
  refine lv_aload_n hx hb dX5_things_4 rfl (lv_at hl 0 rfl) ?_
  refine gx_2_4 C hK I fl_X5_53 dX5_things_5 ?_
  refine lv_aload_n hx hb dX5_things_8 rfl (lv_at hl 0 rfl) ?_
  refine gx_2_5 C hK I fl_X5_35 dX5_things_9 ?_
  obtain ⟨r3, S3, e3, h⟩ := obd2_ex h
  refine k_V (As := [.int (S.1 2 4), .int (S.1 2 5)]) (rest := []) (st1 := [.int r3]) C kx hK I hA (c_X8_things e3) ⟨Nat.le_of_ble_eq_true rfl, Nat.le_of_ble_eq_true rfl⟩ mv_X8_things lk_X5_132 1 8 (xw_1 (cI := cI) (ad := ad) (cC := cC) (cS := cS)) rfl rfl hl.1 rfl (Nat.le_of_ble_eq_true rfl) dX5_things_12 rfl (fun H locs I => ?_)
  refine lv_istore_n (lv' := [(1, .int r3), (0, .ref (ad 2))]) hx hb dX5_things_15 rfl hl (by decide) rfl (fun ls hl => ?_)
  refine lv_iload_n hx hb dX5_things_16 rfl (lv_at hl 0 rfl) ?_
  refine lv_if_ne (tgt := 25) hx hb dX5_things_17 (by decide) (fun c4 => ?_) (fun c4 => ?_)
  · have h := ite_n c4 h
    exact J_25 _ _ h _ _ _ I (lv_sub hl [1, 0] rfl)
  · have h := ite_t c4 h
    refine lv_aload_n hx hb dX5_things_20 rfl (lv_at hl 1 rfl) ?_
    refine lv_iconst (v := 1) hx hb dX5_things_21 (by decide) ?_
    refine px_2_6 C hK I fl_X5_31 (Or.inr rfl) dX5_things_22 (fun S5 eS5 H locs I => ?_)
    have h := bnd_at eS5 h
    clear eS5
    exact J_25 _ _ h _ _ _ I (lv_sub hl [1, 0] rfl)
theorem lk_X5_110 : Cond.methodLink RX5 110 yX5_things ∈ TT := tt_of 573 (by decide +kernel) rfl
theorem mv_X5_things : MV yX5_things cX5_things 2 (some .int) 0 := ⟨tt_of 576 (by decide +kernel) rfl, tt_of 575 (by decide +kernel) rfl, tt_of 11 (by decide +kernel) rfl, tt_of 67 (by decide +kernel) rfl, ⟨by decide +kernel, by decide +kernel, by decide +kernel⟩⟩
theorem dX5_readSort_0 : decode cX5_readSort 0 = .ok (.aload_n 0, 1) := by decide +kernel
theorem dX5_readSort_1 : decode cX5_readSort 1 = .ok (.bipush 7, 2) := by decide +kernel
theorem dX5_readSort_3 : decode cX5_readSort 3 = .ok (.invokevirtual 92, 3) := by decide +kernel
theorem dX5_readSort_6 : decode cX5_readSort 6 = .ok (.aload_n 0, 1) := by decide +kernel
theorem dX5_readSort_7 : decode cX5_readSort 7 = .ok (.aload_n 0, 1) := by decide +kernel
theorem dX5_readSort_8 : decode cX5_readSort 8 = .ok (.iconst 0, 1) := by decide +kernel
theorem dX5_readSort_9 : decode cX5_readSort 9 = .ok (.iconst 5, 1) := by decide +kernel
theorem dX5_readSort_10 : decode cX5_readSort 10 = .ok (.invokevirtual 99, 3) := by decide +kernel
theorem dX5_readSort_13 : decode cX5_readSort 13 = .ok (.invokevirtual 92, 3) := by decide +kernel
theorem dX5_readSort_16 : decode cX5_readSort 16 = .ok (.aload_n 0, 1) := by decide +kernel
theorem dX5_readSort_17 : decode cX5_readSort 17 = .ok (.aload_n 0, 1) := by decide +kernel
theorem dX5_readSort_18 : decode cX5_readSort 18 = .ok (.iconst 1, 1) := by decide +kernel
theorem dX5_readSort_19 : decode cX5_readSort 19 = .ok (.bipush 20, 2) := by decide +kernel
theorem dX5_readSort_21 : decode cX5_readSort 21 = .ok (.invokevirtual 99, 3) := by decide +kernel
theorem dX5_readSort_24 : decode cX5_readSort 24 = .ok (.invokevirtual 92, 3) := by decide +kernel
theorem dX5_readSort_27 : decode cX5_readSort 27 = .ok (.aload_n 0, 1) := by decide +kernel
theorem dX5_readSort_28 : decode cX5_readSort 28 = .ok (.aload_n 0, 1) := by decide +kernel
theorem dX5_readSort_29 : decode cX5_readSort 29 = .ok (.iconst 0, 1) := by decide +kernel
theorem dX5_readSort_30 : decode cX5_readSort 30 = .ok (.sipush 200, 3) := by decide +kernel
theorem dX5_readSort_33 : decode cX5_readSort 33 = .ok (.invokevirtual 99, 3) := by decide +kernel
theorem dX5_readSort_36 : decode cX5_readSort 36 = .ok (.invokevirtual 92, 3) := by decide +kernel
theorem dX5_readSort_39 : decode cX5_readSort 39 = .ok (.aload_n 0, 1) := by decide +kernel
theorem dX5_readSort_40 : decode cX5_readSort 40 = .ok (.aload_n 0, 1) := by decide +kernel
theorem dX5_readSort_41 : decode cX5_readSort 41 = .ok (.ldc 108, 2) := by decide +kernel
theorem dX5_readSort_43 : decode cX5_readSort 43 = .ok (.invokevirtual 43, 3) := by decide +kernel
theorem dX5_readSort_46 : decode cX5_readSort 46 = .ok (.ifCond .eq 7, 3) := by decide +kernel
theorem dX5_readSort_49 : decode cX5_readSort 49 = .ok (.iconst 0, 1) := by decide +kernel
theorem dX5_readSort_50 : decode cX5_readSort 50 = .ok (.goto 7, 3) := by decide +kernel
theorem dX5_readSort_53 : decode cX5_readSort 53 = .ok (.aload_n 0, 1) := by decide +kernel
theorem dX5_readSort_54 : decode cX5_readSort 54 = .ok (.invokevirtual 110, 3) := by decide +kernel
theorem dX5_readSort_57 : decode cX5_readSort 57 = .ok (.invokevirtual 92, 3) := by decide +kernel
theorem dX5_readSort_60 : decode cX5_readSort 60 = .ok (.aload_n 0, 1) := by decide +kernel
theorem dX5_readSort_61 : decode cX5_readSort 61 = .ok (.aload_n 0, 1) := by decide +kernel
theorem dX5_readSort_62 : decode cX5_readSort 62 = .ok (.ldc 113, 2) := by decide +kernel
theorem dX5_readSort_64 : decode cX5_readSort 64 = .ok (.invokevirtual 43, 3) := by decide +kernel
theorem dX5_readSort_67 : decode cX5_readSort 67 = .ok (.ifCond .eq 10, 3) := by decide +kernel
theorem dX5_readSort_70 : decode cX5_readSort 70 = .ok (.aload_n 0, 1) := by decide +kernel
theorem dX5_readSort_71 : decode cX5_readSort 71 = .ok (.invokevirtual 110, 3) := by decide +kernel
theorem dX5_readSort_74 : decode cX5_readSort 74 = .ok (.goto 4, 3) := by decide +kernel
theorem dX5_readSort_77 : decode cX5_readSort 77 = .ok (.iconst 0, 1) := by decide +kernel
theorem dX5_readSort_78 : decode cX5_readSort 78 = .ok (.invokevirtual 92, 3) := by decide +kernel
theorem dX5_readSort_81 : decode cX5_readSort 81 = .ok (.return_, 1) := by decide +kernel
def f_X5_readSort_78 (S : St) (t1 : Int32) : Option St :=
  obd (f_X5_note S t1) fun S1 =>
  some S1
def f_X5_readSort_57 (S : St) (t1 : Int32) : Option St :=
  obd (f_X5_note S t1) fun S2 =>
  obd2 (f_X5_takes S2 11) fun r3 S3 =>
  if r3 = 0 then (
    f_X5_readSort_78 S3 0
  ) else (
    obd2 (f_X5_things S3 ) fun r5 S5 =>
    f_X5_readSort_78 S5 r5
  )
def f_X5_readSort (S : St)  : Option St :=
  obd (f_X5_note S 7) fun S6 =>
  obd2 (f_X5_number S6 0 5) fun r7 S7 =>
  obd (f_X5_note S7 r7) fun S8 =>
  obd2 (f_X5_number S8 1 20) fun r9 S9 =>
  obd (f_X5_note S9 r9) fun S10 =>
  obd2 (f_X5_number S10 0 200) fun r11 S11 =>
  obd (f_X5_note S11 r11) fun S12 =>
  obd2 (f_X5_takes S12 10) fun r13 S13 =>
  if r13 = 0 then (
    obd2 (f_X5_things S13 ) fun r15 S15 =>
    f_X5_readSort_57 S15 r15
  ) else (
    f_X5_readSort_57 S13 0
  )
set_option maxHeartbeats 4000000 in
set_option maxRecDepth 100000 in
theorem c_X5_readSort {l : Launch} {D : va_G} {cI cC cS : ClassId} {ad adK adV : Nat → Nat} {S S1 : St}  (h : f_X5_readSort S  = some S1) : Kt l D (xw cI cC cS ad) (KX D (xtys cI cC cS) adK adV) yX5_readSort cX5_readSort 1 none (6) (131) [.ref (ad 2)] S (none) S1 := by
  refine k_ent (ins := .return_) (st := []) (by decide +kernel) (Nat.le_of_ble_eq_true rfl) ret_v ?_
  intro p e s m args below meth c A Q C hK I hA hq ls hl
  have C : CallFix p m c cX5_readSort 1 s args TT RX5 := C
  have hx := C.1
  have hb := C.2.1
  have kx := kx_ok D (xtys cI cC cS) adK adV
  have hl : lv_has ls 1 [(0, .ref (ad 2))] := hl
  have J_78 : ∀ (S : St) (t1 : Int32), f_X5_readSort_78  S t1 = some S1 → ∀ (H : Heap) (locs : List Loc) (ls : Array Slot), Iv D (xw cI cC cS ad) S A s H locs → lv_has ls 1 [] → W p l e ({ frames := 6, cells := 0, slots := 0, locals := 131 } : Room) s m args below meth c H locs 0 0 Q (F0 m 78 ls [.int t1, .ref (ad 2)]) := by
    intro  S t1 h H locs ls I hl
    unfold f_X5_readSort_78 at h
    obtain ⟨S1, e1, h⟩ := obd_ex h
    refine k_V (As := [.int t1]) (rest := []) (st1 := []) C kx hK I hA (c_X5_note e1) ⟨Nat.le_of_ble_eq_true rfl, Nat.le_of_ble_eq_true rfl⟩ mv_X5_note lk_X5_92 2 5 (xw_2 (cI := cI) (ad := ad) (cC := cC) (cS := cS)) rfl rfl hl.1 rfl (Nat.le_of_ble_eq_true rfl) dX5_readSort_78 rfl (fun H locs I => ?_)
    exact rt_v hq h I dX5_readSort_81
  have J_57 : ∀ (S : St) (t1 : Int32), f_X5_readSort_57  S t1 = some S1 → ∀ (H : Heap) (locs : List Loc) (ls : Array Slot), Iv D (xw cI cC cS ad) S A s H locs → lv_has ls 1 [(0, .ref (ad 2))] → W p l e ({ frames := 6, cells := 0, slots := 0, locals := 131 } : Room) s m args below meth c H locs 0 0 Q (F0 m 57 ls [.int t1, .ref (ad 2)]) := by
    intro  S t1 h H locs ls I hl
    unfold f_X5_readSort_57 at h
    obtain ⟨S2, e2, h⟩ := obd_ex h
    refine k_V (As := [.int t1]) (rest := []) (st1 := []) C kx hK I hA (c_X5_note e2) ⟨Nat.le_of_ble_eq_true rfl, Nat.le_of_ble_eq_true rfl⟩ mv_X5_note lk_X5_92 2 5 (xw_2 (cI := cI) (ad := ad) (cC := cC) (cS := cS)) rfl rfl hl.1 rfl (Nat.le_of_ble_eq_true rfl) dX5_readSort_57 rfl (fun H locs I => ?_)
    refine lv_aload_n hx hb dX5_readSort_60 rfl (lv_at hl 0 rfl) ?_
    refine lv_aload_n hx hb dX5_readSort_61 rfl (lv_at hl 0 rfl) ?_
    refine va_ldcS (tx := strT 11) hx hb C.2.2.2.1 (hK.2.2.2.1 11 (by decide)) dX5_readSort_62 ?_
    obtain ⟨r3, S3, e3, h⟩ := obd2_ex h
    refine k_V (As := [.ref (adK 11)]) (rest := [.ref (ad 2)]) (st1 := [.int r3, .ref (ad 2)]) C kx hK I hA (c_X5_takes e3) ⟨Nat.le_of_ble_eq_true rfl, Nat.le_of_ble_eq_true rfl⟩ mv_X5_takes lk_X5_43 2 5 (xw_2 (cI := cI) (ad := ad) (cC := cC) (cS := cS)) rfl rfl hl.1 rfl (Nat.le_of_ble_eq_true rfl) dX5_readSort_64 rfl (fun H locs I => ?_)
    refine lv_if_eq (tgt := 77) hx hb dX5_readSort_67 (by decide) (fun c4 => ?_) (fun c4 => ?_)
    · have h := ite_t c4 h
      refine lv_iconst (v := 0) hx hb dX5_readSort_77 (by decide) ?_
      exact J_78 _ _ h _ _ _ I (lv_sub hl [] rfl)
    · have h := ite_n c4 h
      refine lv_aload_n hx hb dX5_readSort_70 rfl (lv_at hl 0 rfl) ?_
      obtain ⟨r5, S5, e5, h⟩ := obd2_ex h
      refine k_V (As := []) (rest := [.ref (ad 2)]) (st1 := [.int r5, .ref (ad 2)]) C kx hK I hA (c_X5_things e5) ⟨Nat.le_of_ble_eq_true rfl, Nat.le_of_ble_eq_true rfl⟩ mv_X5_things lk_X5_110 2 5 (xw_2 (cI := cI) (ad := ad) (cC := cC) (cS := cS)) rfl rfl hl.1 rfl (Nat.le_of_ble_eq_true rfl) dX5_readSort_71 rfl (fun H locs I => ?_)
      refine lv_goto (tgt := 78) hx hb dX5_readSort_74 (by decide) ?_
      exact J_78 _ _ h _ _ _ I (lv_sub hl [] rfl)
  unfold f_X5_readSort at h
  refine lv_aload_n hx hb dX5_readSort_0 rfl (lv_at hl 0 rfl) ?_
  refine lv_bipush (v := 7) hx hb dX5_readSort_1 (by decide) ?_
  obtain ⟨S6, e6, h⟩ := obd_ex h
  refine k_V (As := [.int 7]) (rest := []) (st1 := []) C kx hK I hA (c_X5_note e6) ⟨Nat.le_of_ble_eq_true rfl, Nat.le_of_ble_eq_true rfl⟩ mv_X5_note lk_X5_92 2 5 (xw_2 (cI := cI) (ad := ad) (cC := cC) (cS := cS)) rfl rfl hl.1 rfl (Nat.le_of_ble_eq_true rfl) dX5_readSort_3 rfl (fun H locs I => ?_)
  refine lv_aload_n hx hb dX5_readSort_6 rfl (lv_at hl 0 rfl) ?_
  refine lv_aload_n hx hb dX5_readSort_7 rfl (lv_at hl 0 rfl) ?_
  refine lv_iconst (v := 0) hx hb dX5_readSort_8 (by decide) ?_
  refine lv_iconst (v := 5) hx hb dX5_readSort_9 (by decide) ?_
  obtain ⟨r7, S7, e7, h⟩ := obd2_ex h
  refine k_V (As := [.int 0, .int 5]) (rest := [.ref (ad 2)]) (st1 := [.int r7, .ref (ad 2)]) C kx hK I hA (c_X5_number e7) ⟨Nat.le_of_ble_eq_true rfl, Nat.le_of_ble_eq_true rfl⟩ mv_X5_number lk_X5_99 2 5 (xw_2 (cI := cI) (ad := ad) (cC := cC) (cS := cS)) rfl rfl hl.1 rfl (Nat.le_of_ble_eq_true rfl) dX5_readSort_10 rfl (fun H locs I => ?_)
  obtain ⟨S8, e8, h⟩ := obd_ex h
  refine k_V (As := [.int r7]) (rest := []) (st1 := []) C kx hK I hA (c_X5_note e8) ⟨Nat.le_of_ble_eq_true rfl, Nat.le_of_ble_eq_true rfl⟩ mv_X5_note lk_X5_92 2 5 (xw_2 (cI := cI) (ad := ad) (cC := cC) (cS := cS)) rfl rfl hl.1 rfl (Nat.le_of_ble_eq_true rfl) dX5_readSort_13 rfl (fun H locs I => ?_)
  refine lv_aload_n hx hb dX5_readSort_16 rfl (lv_at hl 0 rfl) ?_
  refine lv_aload_n hx hb dX5_readSort_17 rfl (lv_at hl 0 rfl) ?_
  refine lv_iconst (v := 1) hx hb dX5_readSort_18 (by decide) ?_
  refine lv_bipush (v := 20) hx hb dX5_readSort_19 (by decide) ?_
  obtain ⟨r9, S9, e9, h⟩ := obd2_ex h
  refine k_V (As := [.int 1, .int 20]) (rest := [.ref (ad 2)]) (st1 := [.int r9, .ref (ad 2)]) C kx hK I hA (c_X5_number e9) ⟨Nat.le_of_ble_eq_true rfl, Nat.le_of_ble_eq_true rfl⟩ mv_X5_number lk_X5_99 2 5 (xw_2 (cI := cI) (ad := ad) (cC := cC) (cS := cS)) rfl rfl hl.1 rfl (Nat.le_of_ble_eq_true rfl) dX5_readSort_21 rfl (fun H locs I => ?_)
  obtain ⟨S10, e10, h⟩ := obd_ex h
  refine k_V (As := [.int r9]) (rest := []) (st1 := []) C kx hK I hA (c_X5_note e10) ⟨Nat.le_of_ble_eq_true rfl, Nat.le_of_ble_eq_true rfl⟩ mv_X5_note lk_X5_92 2 5 (xw_2 (cI := cI) (ad := ad) (cC := cC) (cS := cS)) rfl rfl hl.1 rfl (Nat.le_of_ble_eq_true rfl) dX5_readSort_24 rfl (fun H locs I => ?_)
  refine lv_aload_n hx hb dX5_readSort_27 rfl (lv_at hl 0 rfl) ?_
  refine lv_aload_n hx hb dX5_readSort_28 rfl (lv_at hl 0 rfl) ?_
  refine lv_iconst (v := 0) hx hb dX5_readSort_29 (by decide) ?_
  refine lv_sipush (v := 200) hx hb dX5_readSort_30 (by decide) ?_
  obtain ⟨r11, S11, e11, h⟩ := obd2_ex h
  refine k_V (As := [.int 0, .int 200]) (rest := [.ref (ad 2)]) (st1 := [.int r11, .ref (ad 2)]) C kx hK I hA (c_X5_number e11) ⟨Nat.le_of_ble_eq_true rfl, Nat.le_of_ble_eq_true rfl⟩ mv_X5_number lk_X5_99 2 5 (xw_2 (cI := cI) (ad := ad) (cC := cC) (cS := cS)) rfl rfl hl.1 rfl (Nat.le_of_ble_eq_true rfl) dX5_readSort_33 rfl (fun H locs I => ?_)
  obtain ⟨S12, e12, h⟩ := obd_ex h
  refine k_V (As := [.int r11]) (rest := []) (st1 := []) C kx hK I hA (c_X5_note e12) ⟨Nat.le_of_ble_eq_true rfl, Nat.le_of_ble_eq_true rfl⟩ mv_X5_note lk_X5_92 2 5 (xw_2 (cI := cI) (ad := ad) (cC := cC) (cS := cS)) rfl rfl hl.1 rfl (Nat.le_of_ble_eq_true rfl) dX5_readSort_36 rfl (fun H locs I => ?_)
  refine lv_aload_n hx hb dX5_readSort_39 rfl (lv_at hl 0 rfl) ?_
  refine lv_aload_n hx hb dX5_readSort_40 rfl (lv_at hl 0 rfl) ?_
  refine va_ldcS (tx := strT 10) hx hb C.2.2.2.1 (hK.2.2.2.1 10 (by decide)) dX5_readSort_41 ?_
  obtain ⟨r13, S13, e13, h⟩ := obd2_ex h
  refine k_V (As := [.ref (adK 10)]) (rest := [.ref (ad 2)]) (st1 := [.int r13, .ref (ad 2)]) C kx hK I hA (c_X5_takes e13) ⟨Nat.le_of_ble_eq_true rfl, Nat.le_of_ble_eq_true rfl⟩ mv_X5_takes lk_X5_43 2 5 (xw_2 (cI := cI) (ad := ad) (cC := cC) (cS := cS)) rfl rfl hl.1 rfl (Nat.le_of_ble_eq_true rfl) dX5_readSort_43 rfl (fun H locs I => ?_)
  refine lv_if_eq (tgt := 53) hx hb dX5_readSort_46 (by decide) (fun c14 => ?_) (fun c14 => ?_)
  · have h := ite_t c14 h
    refine lv_aload_n hx hb dX5_readSort_53 rfl (lv_at hl 0 rfl) ?_
    obtain ⟨r15, S15, e15, h⟩ := obd2_ex h
    refine k_V (As := []) (rest := [.ref (ad 2)]) (st1 := [.int r15, .ref (ad 2)]) C kx hK I hA (c_X5_things e15) ⟨Nat.le_of_ble_eq_true rfl, Nat.le_of_ble_eq_true rfl⟩ mv_X5_things lk_X5_110 2 5 (xw_2 (cI := cI) (ad := ad) (cC := cC) (cS := cS)) rfl rfl hl.1 rfl (Nat.le_of_ble_eq_true rfl) dX5_readSort_54 rfl (fun H locs I => ?_)
    exact J_57 _ _ h _ _ _ I (lv_sub hl [0] rfl)
  · have h := ite_n c14 h
    refine lv_iconst (v := 0) hx hb dX5_readSort_49 (by decide) ?_
    refine lv_goto (tgt := 57) hx hb dX5_readSort_50 (by decide) ?_
    exact J_57 _ _ h _ _ _ I (lv_sub hl [0] rfl)
theorem lk_X5_89 : Cond.methodLink RX5 89 yX5_readSort ∈ TT := tt_of 568 (by decide +kernel) rfl
theorem mv_X5_readSort : MV yX5_readSort cX5_readSort 1 none 0 := ⟨tt_of 571 (by decide +kernel) rfl, tt_of 570 (by decide +kernel) rfl, tt_of 10 (by decide +kernel) rfl, tt_of 67 (by decide +kernel) rfl, ⟨by decide +kernel, by decide +kernel, by decide +kernel⟩⟩
theorem lk_X5_84 : Cond.methodLink RX5 84 yX5_readCall ∈ TT := tt_of 563 (by decide +kernel) rfl
theorem mv_X5_readCall : MV yX5_readCall cX5_readCall 2 none 0 := ⟨tt_of 566 (by decide +kernel) rfl, tt_of 565 (by decide +kernel) rfl, tt_of 9 (by decide +kernel) rfl, tt_of 67 (by decide +kernel) rfl, ⟨by decide +kernel, by decide +kernel, by decide +kernel⟩⟩
theorem lk_X5_79 : Cond.methodLink RX5 79 yX5_readWay ∈ TT := tt_of 558 (by decide +kernel) rfl
theorem mv_X5_readWay : MV yX5_readWay cX5_readWay 2 none 0 := ⟨tt_of 561 (by decide +kernel) rfl, tt_of 560 (by decide +kernel) rfl, tt_of 8 (by decide +kernel) rfl, tt_of 67 (by decide +kernel) rfl, ⟨by decide +kernel, by decide +kernel, by decide +kernel⟩⟩
theorem lk_X5_69 : Cond.methodLink RX5 69 yX5_readOne ∈ TT := tt_of 551 (by decide +kernel) rfl
theorem mv_X5_readOne : MV yX5_readOne cX5_readOne 3 none 2 := ⟨tt_of 554 (by decide +kernel) rfl, tt_of 553 (by decide +kernel) rfl, tt_of 7 (by decide +kernel) rfl, tt_of 67 (by decide +kernel) rfl, ⟨by decide +kernel, by decide +kernel, by decide +kernel⟩⟩
theorem lk_X5_64 : Cond.methodLink RX5 64 yX5_readThing ∈ TT := tt_of 521 (by decide +kernel) rfl
theorem mv_X5_readThing : MV yX5_readThing cX5_readThing 3 none 0 := ⟨tt_of 524 (by decide +kernel) rfl, tt_of 523 (by decide +kernel) rfl, tt_of 3 (by decide +kernel) rfl, tt_of 67 (by decide +kernel) rfl, ⟨by decide +kernel, by decide +kernel, by decide +kernel⟩⟩
theorem dX5_readLine_0 : decode cX5_readLine 0 = .ok (.aload_n 0, 1) := by decide +kernel
theorem dX5_readLine_1 : decode cX5_readLine 1 = .ok (.ldc 62, 2) := by decide +kernel
theorem dX5_readLine_3 : decode cX5_readLine 3 = .ok (.invokevirtual 43, 3) := by decide +kernel
theorem dX5_readLine_6 : decode cX5_readLine 6 = .ok (.ifCond .eq 10, 3) := by decide +kernel
theorem dX5_readLine_9 : decode cX5_readLine 9 = .ok (.aload_n 0, 1) := by decide +kernel
theorem dX5_readLine_10 : decode cX5_readLine 10 = .ok (.invokevirtual 64, 3) := by decide +kernel
theorem dX5_readLine_13 : decode cX5_readLine 13 = .ok (.goto 116, 3) := by decide +kernel
theorem dX5_readLine_16 : decode cX5_readLine 16 = .ok (.aload_n 0, 1) := by decide +kernel
theorem dX5_readLine_17 : decode cX5_readLine 17 = .ok (.ldc 67, 2) := by decide +kernel
theorem dX5_readLine_19 : decode cX5_readLine 19 = .ok (.invokevirtual 43, 3) := by decide +kernel
theorem dX5_readLine_22 : decode cX5_readLine 22 = .ok (.ifCond .eq 14, 3) := by decide +kernel
theorem dX5_readLine_25 : decode cX5_readLine 25 = .ok (.aload_n 0, 1) := by decide +kernel
theorem dX5_readLine_26 : decode cX5_readLine 26 = .ok (.iconst 2, 1) := by decide +kernel
theorem dX5_readLine_27 : decode cX5_readLine 27 = .ok (.sipush 400, 3) := by decide +kernel
theorem dX5_readLine_30 : decode cX5_readLine 30 = .ok (.invokevirtual 69, 3) := by decide +kernel
theorem dX5_readLine_33 : decode cX5_readLine 33 = .ok (.goto 96, 3) := by decide +kernel
theorem dX5_readLine_36 : decode cX5_readLine 36 = .ok (.aload_n 0, 1) := by decide +kernel
theorem dX5_readLine_37 : decode cX5_readLine 37 = .ok (.ldc 73, 2) := by decide +kernel
theorem dX5_readLine_39 : decode cX5_readLine 39 = .ok (.invokevirtual 43, 3) := by decide +kernel
theorem dX5_readLine_42 : decode cX5_readLine 42 = .ok (.ifCond .eq 14, 3) := by decide +kernel
theorem dX5_readLine_45 : decode cX5_readLine 45 = .ok (.aload_n 0, 1) := by decide +kernel
theorem dX5_readLine_46 : decode cX5_readLine 46 = .ok (.iconst 3, 1) := by decide +kernel
theorem dX5_readLine_47 : decode cX5_readLine 47 = .ok (.sipush 999, 3) := by decide +kernel
theorem dX5_readLine_50 : decode cX5_readLine 50 = .ok (.invokevirtual 69, 3) := by decide +kernel
theorem dX5_readLine_53 : decode cX5_readLine 53 = .ok (.goto 76, 3) := by decide +kernel
theorem dX5_readLine_56 : decode cX5_readLine 56 = .ok (.aload_n 0, 1) := by decide +kernel
theorem dX5_readLine_57 : decode cX5_readLine 57 = .ok (.ldc 75, 2) := by decide +kernel
theorem dX5_readLine_59 : decode cX5_readLine 59 = .ok (.invokevirtual 43, 3) := by decide +kernel
theorem dX5_readLine_62 : decode cX5_readLine 62 = .ok (.ifCond .eq 14, 3) := by decide +kernel
theorem dX5_readLine_65 : decode cX5_readLine 65 = .ok (.aload_n 0, 1) := by decide +kernel
theorem dX5_readLine_66 : decode cX5_readLine 66 = .ok (.iconst 4, 1) := by decide +kernel
theorem dX5_readLine_67 : decode cX5_readLine 67 = .ok (.sipush 1439, 3) := by decide +kernel
theorem dX5_readLine_70 : decode cX5_readLine 70 = .ok (.invokevirtual 69, 3) := by decide +kernel
theorem dX5_readLine_73 : decode cX5_readLine 73 = .ok (.goto 56, 3) := by decide +kernel
theorem dX5_readLine_76 : decode cX5_readLine 76 = .ok (.aload_n 0, 1) := by decide +kernel
theorem dX5_readLine_77 : decode cX5_readLine 77 = .ok (.ldc 77, 2) := by decide +kernel
theorem dX5_readLine_79 : decode cX5_readLine 79 = .ok (.invokevirtual 43, 3) := by decide +kernel
theorem dX5_readLine_82 : decode cX5_readLine 82 = .ok (.ifCond .eq 10, 3) := by decide +kernel
theorem dX5_readLine_85 : decode cX5_readLine 85 = .ok (.aload_n 0, 1) := by decide +kernel
theorem dX5_readLine_86 : decode cX5_readLine 86 = .ok (.invokevirtual 79, 3) := by decide +kernel
theorem dX5_readLine_89 : decode cX5_readLine 89 = .ok (.goto 40, 3) := by decide +kernel
theorem dX5_readLine_92 : decode cX5_readLine 92 = .ok (.aload_n 0, 1) := by decide +kernel
theorem dX5_readLine_93 : decode cX5_readLine 93 = .ok (.ldc 82, 2) := by decide +kernel
theorem dX5_readLine_95 : decode cX5_readLine 95 = .ok (.invokevirtual 43, 3) := by decide +kernel
theorem dX5_readLine_98 : decode cX5_readLine 98 = .ok (.ifCond .eq 10, 3) := by decide +kernel
theorem dX5_readLine_101 : decode cX5_readLine 101 = .ok (.aload_n 0, 1) := by decide +kernel
theorem dX5_readLine_102 : decode cX5_readLine 102 = .ok (.invokevirtual 84, 3) := by decide +kernel
theorem dX5_readLine_105 : decode cX5_readLine 105 = .ok (.goto 24, 3) := by decide +kernel
theorem dX5_readLine_108 : decode cX5_readLine 108 = .ok (.aload_n 0, 1) := by decide +kernel
theorem dX5_readLine_109 : decode cX5_readLine 109 = .ok (.ldc 87, 2) := by decide +kernel
theorem dX5_readLine_111 : decode cX5_readLine 111 = .ok (.invokevirtual 43, 3) := by decide +kernel
theorem dX5_readLine_114 : decode cX5_readLine 114 = .ok (.ifCond .eq 10, 3) := by decide +kernel
theorem dX5_readLine_117 : decode cX5_readLine 117 = .ok (.aload_n 0, 1) := by decide +kernel
theorem dX5_readLine_118 : decode cX5_readLine 118 = .ok (.invokevirtual 89, 3) := by decide +kernel
theorem dX5_readLine_121 : decode cX5_readLine 121 = .ok (.goto 8, 3) := by decide +kernel
theorem dX5_readLine_124 : decode cX5_readLine 124 = .ok (.aload_n 0, 1) := by decide +kernel
theorem dX5_readLine_125 : decode cX5_readLine 125 = .ok (.iconst 1, 1) := by decide +kernel
theorem dX5_readLine_126 : decode cX5_readLine 126 = .ok (.putfield 31, 3) := by decide +kernel
theorem dX5_readLine_129 : decode cX5_readLine 129 = .ok (.return_, 1) := by decide +kernel
def f_X5_readLine (S : St)  : Option St :=
  obd2 (f_X5_takes S 1) fun r1 S1 =>
  if r1 = 0 then (
    obd2 (f_X5_takes S1 4) fun r3 S3 =>
    if r3 = 0 then (
      obd2 (f_X5_takes S3 5) fun r5 S5 =>
      if r5 = 0 then (
        obd2 (f_X5_takes S5 6) fun r7 S7 =>
        if r7 = 0 then (
          obd2 (f_X5_takes S7 7) fun r9 S9 =>
          if r9 = 0 then (
            obd2 (f_X5_takes S9 8) fun r11 S11 =>
            if r11 = 0 then (
              obd2 (f_X5_takes S11 9) fun r13 S13 =>
              if r13 = 0 then (
                bnd (setI S13 2 6 1) fun S15 =>
                some S15
              ) else (
                obd (f_X5_readSort S13 ) fun S16 =>
                some S16
              )
            ) else (
              obd (f_X5_readCall S11 ) fun S17 =>
              some S17
            )
          ) else (
            obd (f_X5_readWay S9 ) fun S18 =>
            some S18
          )
        ) else (
          obd (f_X5_readOne S7 4 1439) fun S19 =>
          some S19
        )
      ) else (
        obd (f_X5_readOne S5 3 999) fun S20 =>
        some S20
      )
    ) else (
      obd (f_X5_readOne S3 2 400) fun S21 =>
      some S21
    )
  ) else (
    obd (f_X5_readThing S1 ) fun S22 =>
    some S22
  )
set_option maxHeartbeats 4000000 in
set_option maxRecDepth 100000 in
theorem c_X5_readLine {l : Launch} {D : va_G} {cI cC cS : ClassId} {ad adK adV : Nat → Nat} {S S1 : St}  (h : f_X5_readLine S  = some S1) : Kt l D (xw cI cC cS ad) (KX D (xtys cI cC cS) adK adV) yX5_readLine cX5_readLine 1 none (7) (153) [.ref (ad 2)] S (none) S1 := by
  refine k_ent (ins := .return_) (st := []) (by decide +kernel) (Nat.le_of_ble_eq_true rfl) ret_v ?_
  intro p e s m args below meth c A Q C hK I hA hq ls hl
  have C : CallFix p m c cX5_readLine 1 s args TT RX5 := C
  have hx := C.1
  have hb := C.2.1
  have kx := kx_ok D (xtys cI cC cS) adK adV
  have hl : lv_has ls 1 [(0, .ref (ad 2))] := hl
  unfold f_X5_readLine at h
  refine lv_aload_n hx hb dX5_readLine_0 rfl (lv_at hl 0 rfl) ?_
  refine va_ldcS (tx := strT 1) hx hb C.2.2.2.1 (hK.2.2.2.1 1 (by decide)) dX5_readLine_1 ?_
  obtain ⟨r1, S1, e1, h⟩ := obd2_ex h
  refine k_V (As := [.ref (adK 1)]) (rest := []) (st1 := [.int r1]) C kx hK I hA (c_X5_takes e1) ⟨Nat.le_of_ble_eq_true rfl, Nat.le_of_ble_eq_true rfl⟩ mv_X5_takes lk_X5_43 2 5 (xw_2 (cI := cI) (ad := ad) (cC := cC) (cS := cS)) rfl rfl hl.1 rfl (Nat.le_of_ble_eq_true rfl) dX5_readLine_3 rfl (fun H locs I => ?_)
  refine lv_if_eq (tgt := 16) hx hb dX5_readLine_6 (by decide) (fun c2 => ?_) (fun c2 => ?_)
  · have h := ite_t c2 h
    refine lv_aload_n hx hb dX5_readLine_16 rfl (lv_at hl 0 rfl) ?_
    refine va_ldcS (tx := strT 4) hx hb C.2.2.2.1 (hK.2.2.2.1 4 (by decide)) dX5_readLine_17 ?_
    obtain ⟨r3, S3, e3, h⟩ := obd2_ex h
    refine k_V (As := [.ref (adK 4)]) (rest := []) (st1 := [.int r3]) C kx hK I hA (c_X5_takes e3) ⟨Nat.le_of_ble_eq_true rfl, Nat.le_of_ble_eq_true rfl⟩ mv_X5_takes lk_X5_43 2 5 (xw_2 (cI := cI) (ad := ad) (cC := cC) (cS := cS)) rfl rfl hl.1 rfl (Nat.le_of_ble_eq_true rfl) dX5_readLine_19 rfl (fun H locs I => ?_)
    refine lv_if_eq (tgt := 36) hx hb dX5_readLine_22 (by decide) (fun c4 => ?_) (fun c4 => ?_)
    · have h := ite_t c4 h
      refine lv_aload_n hx hb dX5_readLine_36 rfl (lv_at hl 0 rfl) ?_
      refine va_ldcS (tx := strT 5) hx hb C.2.2.2.1 (hK.2.2.2.1 5 (by decide)) dX5_readLine_37 ?_
      obtain ⟨r5, S5, e5, h⟩ := obd2_ex h
      refine k_V (As := [.ref (adK 5)]) (rest := []) (st1 := [.int r5]) C kx hK I hA (c_X5_takes e5) ⟨Nat.le_of_ble_eq_true rfl, Nat.le_of_ble_eq_true rfl⟩ mv_X5_takes lk_X5_43 2 5 (xw_2 (cI := cI) (ad := ad) (cC := cC) (cS := cS)) rfl rfl hl.1 rfl (Nat.le_of_ble_eq_true rfl) dX5_readLine_39 rfl (fun H locs I => ?_)
      refine lv_if_eq (tgt := 56) hx hb dX5_readLine_42 (by decide) (fun c6 => ?_) (fun c6 => ?_)
      · have h := ite_t c6 h
        refine lv_aload_n hx hb dX5_readLine_56 rfl (lv_at hl 0 rfl) ?_
        refine va_ldcS (tx := strT 6) hx hb C.2.2.2.1 (hK.2.2.2.1 6 (by decide)) dX5_readLine_57 ?_
        obtain ⟨r7, S7, e7, h⟩ := obd2_ex h
        refine k_V (As := [.ref (adK 6)]) (rest := []) (st1 := [.int r7]) C kx hK I hA (c_X5_takes e7) ⟨Nat.le_of_ble_eq_true rfl, Nat.le_of_ble_eq_true rfl⟩ mv_X5_takes lk_X5_43 2 5 (xw_2 (cI := cI) (ad := ad) (cC := cC) (cS := cS)) rfl rfl hl.1 rfl (Nat.le_of_ble_eq_true rfl) dX5_readLine_59 rfl (fun H locs I => ?_)
        refine lv_if_eq (tgt := 76) hx hb dX5_readLine_62 (by decide) (fun c8 => ?_) (fun c8 => ?_)
        · have h := ite_t c8 h
          refine lv_aload_n hx hb dX5_readLine_76 rfl (lv_at hl 0 rfl) ?_
          refine va_ldcS (tx := strT 7) hx hb C.2.2.2.1 (hK.2.2.2.1 7 (by decide)) dX5_readLine_77 ?_
          obtain ⟨r9, S9, e9, h⟩ := obd2_ex h
          refine k_V (As := [.ref (adK 7)]) (rest := []) (st1 := [.int r9]) C kx hK I hA (c_X5_takes e9) ⟨Nat.le_of_ble_eq_true rfl, Nat.le_of_ble_eq_true rfl⟩ mv_X5_takes lk_X5_43 2 5 (xw_2 (cI := cI) (ad := ad) (cC := cC) (cS := cS)) rfl rfl hl.1 rfl (Nat.le_of_ble_eq_true rfl) dX5_readLine_79 rfl (fun H locs I => ?_)
          refine lv_if_eq (tgt := 92) hx hb dX5_readLine_82 (by decide) (fun c10 => ?_) (fun c10 => ?_)
          · have h := ite_t c10 h
            refine lv_aload_n hx hb dX5_readLine_92 rfl (lv_at hl 0 rfl) ?_
            refine va_ldcS (tx := strT 8) hx hb C.2.2.2.1 (hK.2.2.2.1 8 (by decide)) dX5_readLine_93 ?_
            obtain ⟨r11, S11, e11, h⟩ := obd2_ex h
            refine k_V (As := [.ref (adK 8)]) (rest := []) (st1 := [.int r11]) C kx hK I hA (c_X5_takes e11) ⟨Nat.le_of_ble_eq_true rfl, Nat.le_of_ble_eq_true rfl⟩ mv_X5_takes lk_X5_43 2 5 (xw_2 (cI := cI) (ad := ad) (cC := cC) (cS := cS)) rfl rfl hl.1 rfl (Nat.le_of_ble_eq_true rfl) dX5_readLine_95 rfl (fun H locs I => ?_)
            refine lv_if_eq (tgt := 108) hx hb dX5_readLine_98 (by decide) (fun c12 => ?_) (fun c12 => ?_)
            · have h := ite_t c12 h
              refine lv_aload_n hx hb dX5_readLine_108 rfl (lv_at hl 0 rfl) ?_
              refine va_ldcS (tx := strT 9) hx hb C.2.2.2.1 (hK.2.2.2.1 9 (by decide)) dX5_readLine_109 ?_
              obtain ⟨r13, S13, e13, h⟩ := obd2_ex h
              refine k_V (As := [.ref (adK 9)]) (rest := []) (st1 := [.int r13]) C kx hK I hA (c_X5_takes e13) ⟨Nat.le_of_ble_eq_true rfl, Nat.le_of_ble_eq_true rfl⟩ mv_X5_takes lk_X5_43 2 5 (xw_2 (cI := cI) (ad := ad) (cC := cC) (cS := cS)) rfl rfl hl.1 rfl (Nat.le_of_ble_eq_true rfl) dX5_readLine_111 rfl (fun H locs I => ?_)
              refine lv_if_eq (tgt := 124) hx hb dX5_readLine_114 (by decide) (fun c14 => ?_) (fun c14 => ?_)
              · have h := ite_t c14 h
                refine lv_aload_n hx hb dX5_readLine_124 rfl (lv_at hl 0 rfl) ?_
                refine lv_iconst (v := 1) hx hb dX5_readLine_125 (by decide) ?_
                refine px_2_6 C hK I fl_X5_31 (Or.inr rfl) dX5_readLine_126 (fun S15 eS15 H locs I => ?_)
                have h := bnd_at eS15 h
                clear eS15
                exact rt_v hq h I dX5_readLine_129
              · have h := ite_n c14 h
                refine lv_aload_n hx hb dX5_readLine_117 rfl (lv_at hl 0 rfl) ?_
                obtain ⟨S16, e16, h⟩ := obd_ex h
                refine k_V (As := []) (rest := []) (st1 := []) C kx hK I hA (c_X5_readSort e16) ⟨Nat.le_of_ble_eq_true rfl, Nat.le_of_ble_eq_true rfl⟩ mv_X5_readSort lk_X5_89 2 5 (xw_2 (cI := cI) (ad := ad) (cC := cC) (cS := cS)) rfl rfl hl.1 rfl (Nat.le_of_ble_eq_true rfl) dX5_readLine_118 rfl (fun H locs I => ?_)
                refine lv_goto (tgt := 129) hx hb dX5_readLine_121 (by decide) ?_
                exact rt_v hq h I dX5_readLine_129
            · have h := ite_n c12 h
              refine lv_aload_n hx hb dX5_readLine_101 rfl (lv_at hl 0 rfl) ?_
              obtain ⟨S17, e17, h⟩ := obd_ex h
              refine k_V (As := []) (rest := []) (st1 := []) C kx hK I hA (c_X5_readCall e17) ⟨Nat.le_of_ble_eq_true rfl, Nat.le_of_ble_eq_true rfl⟩ mv_X5_readCall lk_X5_84 2 5 (xw_2 (cI := cI) (ad := ad) (cC := cC) (cS := cS)) rfl rfl hl.1 rfl (Nat.le_of_ble_eq_true rfl) dX5_readLine_102 rfl (fun H locs I => ?_)
              refine lv_goto (tgt := 129) hx hb dX5_readLine_105 (by decide) ?_
              exact rt_v hq h I dX5_readLine_129
          · have h := ite_n c10 h
            refine lv_aload_n hx hb dX5_readLine_85 rfl (lv_at hl 0 rfl) ?_
            obtain ⟨S18, e18, h⟩ := obd_ex h
            refine k_V (As := []) (rest := []) (st1 := []) C kx hK I hA (c_X5_readWay e18) ⟨Nat.le_of_ble_eq_true rfl, Nat.le_of_ble_eq_true rfl⟩ mv_X5_readWay lk_X5_79 2 5 (xw_2 (cI := cI) (ad := ad) (cC := cC) (cS := cS)) rfl rfl hl.1 rfl (Nat.le_of_ble_eq_true rfl) dX5_readLine_86 rfl (fun H locs I => ?_)
            refine lv_goto (tgt := 129) hx hb dX5_readLine_89 (by decide) ?_
            exact rt_v hq h I dX5_readLine_129
        · have h := ite_n c8 h
          refine lv_aload_n hx hb dX5_readLine_65 rfl (lv_at hl 0 rfl) ?_
          refine lv_iconst (v := 4) hx hb dX5_readLine_66 (by decide) ?_
          refine lv_sipush (v := 1439) hx hb dX5_readLine_67 (by decide) ?_
          obtain ⟨S19, e19, h⟩ := obd_ex h
          refine k_V (As := [.int 4, .int 1439]) (rest := []) (st1 := []) C kx hK I hA (c_X5_readOne e19) ⟨Nat.le_of_ble_eq_true rfl, Nat.le_of_ble_eq_true rfl⟩ mv_X5_readOne lk_X5_69 2 5 (xw_2 (cI := cI) (ad := ad) (cC := cC) (cS := cS)) rfl rfl hl.1 rfl (Nat.le_of_ble_eq_true rfl) dX5_readLine_70 rfl (fun H locs I => ?_)
          refine lv_goto (tgt := 129) hx hb dX5_readLine_73 (by decide) ?_
          exact rt_v hq h I dX5_readLine_129
      · have h := ite_n c6 h
        refine lv_aload_n hx hb dX5_readLine_45 rfl (lv_at hl 0 rfl) ?_
        refine lv_iconst (v := 3) hx hb dX5_readLine_46 (by decide) ?_
        refine lv_sipush (v := 999) hx hb dX5_readLine_47 (by decide) ?_
        obtain ⟨S20, e20, h⟩ := obd_ex h
        refine k_V (As := [.int 3, .int 999]) (rest := []) (st1 := []) C kx hK I hA (c_X5_readOne e20) ⟨Nat.le_of_ble_eq_true rfl, Nat.le_of_ble_eq_true rfl⟩ mv_X5_readOne lk_X5_69 2 5 (xw_2 (cI := cI) (ad := ad) (cC := cC) (cS := cS)) rfl rfl hl.1 rfl (Nat.le_of_ble_eq_true rfl) dX5_readLine_50 rfl (fun H locs I => ?_)
        refine lv_goto (tgt := 129) hx hb dX5_readLine_53 (by decide) ?_
        exact rt_v hq h I dX5_readLine_129
    · have h := ite_n c4 h
      refine lv_aload_n hx hb dX5_readLine_25 rfl (lv_at hl 0 rfl) ?_
      refine lv_iconst (v := 2) hx hb dX5_readLine_26 (by decide) ?_
      refine lv_sipush (v := 400) hx hb dX5_readLine_27 (by decide) ?_
      obtain ⟨S21, e21, h⟩ := obd_ex h
      refine k_V (As := [.int 2, .int 400]) (rest := []) (st1 := []) C kx hK I hA (c_X5_readOne e21) ⟨Nat.le_of_ble_eq_true rfl, Nat.le_of_ble_eq_true rfl⟩ mv_X5_readOne lk_X5_69 2 5 (xw_2 (cI := cI) (ad := ad) (cC := cC) (cS := cS)) rfl rfl hl.1 rfl (Nat.le_of_ble_eq_true rfl) dX5_readLine_30 rfl (fun H locs I => ?_)
      refine lv_goto (tgt := 129) hx hb dX5_readLine_33 (by decide) ?_
      exact rt_v hq h I dX5_readLine_129
  · have h := ite_n c2 h
    refine lv_aload_n hx hb dX5_readLine_9 rfl (lv_at hl 0 rfl) ?_
    obtain ⟨S22, e22, h⟩ := obd_ex h
    refine k_V (As := []) (rest := []) (st1 := []) C kx hK I hA (c_X5_readThing e22) ⟨Nat.le_of_ble_eq_true rfl, Nat.le_of_ble_eq_true rfl⟩ mv_X5_readThing lk_X5_64 2 5 (xw_2 (cI := cI) (ad := ad) (cC := cC) (cS := cS)) rfl rfl hl.1 rfl (Nat.le_of_ble_eq_true rfl) dX5_readLine_10 rfl (fun H locs I => ?_)
    refine lv_goto (tgt := 129) hx hb dX5_readLine_13 (by decide) ?_
    exact rt_v hq h I dX5_readLine_129
theorem lk_X5_50 : Cond.methodLink RX5 50 yX5_readLine ∈ TT := tt_of 516 (by decide +kernel) rfl
theorem mv_X5_readLine : MV yX5_readLine cX5_readLine 1 none 0 := ⟨tt_of 519 (by decide +kernel) rfl, tt_of 518 (by decide +kernel) rfl, tt_of 2 (by decide +kernel) rfl, tt_of 67 (by decide +kernel) rfl, ⟨by decide +kernel, by decide +kernel, by decide +kernel⟩⟩
theorem dX5_read_0 : decode cX5_read 0 = .ok (.aload_n 0, 1) := by decide +kernel
theorem dX5_read_1 : decode cX5_read 1 = .ok (.iconst 0, 1) := by decide +kernel
theorem dX5_read_2 : decode cX5_read 2 = .ok (.putfield 19, 3) := by decide +kernel
theorem dX5_read_5 : decode cX5_read 5 = .ok (.aload_n 0, 1) := by decide +kernel
theorem dX5_read_6 : decode cX5_read 6 = .ok (.iconst 0, 1) := by decide +kernel
theorem dX5_read_7 : decode cX5_read 7 = .ok (.putfield 31, 3) := by decide +kernel
theorem dX5_read_10 : decode cX5_read 10 = .ok (.aload_n 0, 1) := by decide +kernel
theorem dX5_read_11 : decode cX5_read 11 = .ok (.iconst 0, 1) := by decide +kernel
theorem dX5_read_12 : decode cX5_read 12 = .ok (.putfield 35, 3) := by decide +kernel
theorem dX5_read_15 : decode cX5_read 15 = .ok (.aload_n 0, 1) := by decide +kernel
theorem dX5_read_16 : decode cX5_read 16 = .ok (.invokevirtual 38, 3) := by decide +kernel
theorem dX5_read_19 : decode cX5_read 19 = .ok (.iconst 0, 1) := by decide +kernel
theorem dX5_read_20 : decode cX5_read 20 = .ok (.istore_n 1, 1) := by decide +kernel
theorem dX5_read_21 : decode cX5_read 21 = .ok (.iload_n 1, 1) := by decide +kernel
theorem dX5_read_22 : decode cX5_read 22 = .ok (.bipush 10, 2) := by decide +kernel
theorem dX5_read_24 : decode cX5_read 24 = .ok (.if_icmp .ge 48, 3) := by decide +kernel
theorem dX5_read_27 : decode cX5_read 27 = .ok (.aload_n 0, 1) := by decide +kernel
theorem dX5_read_28 : decode cX5_read 28 = .ok (.getfield 31, 3) := by decide +kernel
theorem dX5_read_31 : decode cX5_read 31 = .ok (.ifCond .ne 41, 3) := by decide +kernel
theorem dX5_read_34 : decode cX5_read 34 = .ok (.iload_n 1, 1) := by decide +kernel
theorem dX5_read_35 : decode cX5_read 35 = .ok (.ifCond .eq 12, 3) := by decide +kernel
theorem dX5_read_38 : decode cX5_read 38 = .ok (.aload_n 0, 1) := by decide +kernel
theorem dX5_read_39 : decode cX5_read 39 = .ok (.ldc 41, 2) := by decide +kernel
theorem dX5_read_41 : decode cX5_read 41 = .ok (.invokevirtual 43, 3) := by decide +kernel
theorem dX5_read_44 : decode cX5_read 44 = .ok (.ifCond .eq 28, 3) := by decide +kernel
theorem dX5_read_47 : decode cX5_read 47 = .ok (.aload_n 0, 1) := by decide +kernel
theorem dX5_read_48 : decode cX5_read 48 = .ok (.iload_n 1, 1) := by decide +kernel
theorem dX5_read_49 : decode cX5_read 49 = .ok (.bipush 8, 2) := by decide +kernel
theorem dX5_read_51 : decode cX5_read 51 = .ok (.imul, 1) := by decide +kernel
theorem dX5_read_52 : decode cX5_read 52 = .ok (.putfield 47, 3) := by decide +kernel
theorem dX5_read_55 : decode cX5_read 55 = .ok (.aload_n 0, 1) := by decide +kernel
theorem dX5_read_56 : decode cX5_read 56 = .ok (.invokevirtual 50, 3) := by decide +kernel
theorem dX5_read_59 : decode cX5_read 59 = .ok (.aload_n 0, 1) := by decide +kernel
theorem dX5_read_60 : decode cX5_read 60 = .ok (.iload_n 1, 1) := by decide +kernel
theorem dX5_read_61 : decode cX5_read 61 = .ok (.iconst 1, 1) := by decide +kernel
theorem dX5_read_62 : decode cX5_read 62 = .ok (.iadd, 1) := by decide +kernel
theorem dX5_read_63 : decode cX5_read 63 = .ok (.putfield 19, 3) := by decide +kernel
theorem dX5_read_66 : decode cX5_read 66 = .ok (.iinc 1 1, 3) := by decide +kernel
theorem dX5_read_69 : decode cX5_read 69 = .ok (.goto (-48), 3) := by decide +kernel
theorem dX5_read_72 : decode cX5_read 72 = .ok (.aload_n 0, 1) := by decide +kernel
theorem dX5_read_73 : decode cX5_read 73 = .ok (.getfield 31, 3) := by decide +kernel
theorem dX5_read_76 : decode cX5_read 76 = .ok (.ifCond .ne 17, 3) := by decide +kernel
theorem dX5_read_79 : decode cX5_read 79 = .ok (.aload_n 0, 1) := by decide +kernel
theorem dX5_read_80 : decode cX5_read 80 = .ok (.getfield 53, 3) := by decide +kernel
theorem dX5_read_83 : decode cX5_read 83 = .ok (.aload_n 0, 1) := by decide +kernel
theorem dX5_read_84 : decode cX5_read 84 = .ok (.getfield 15, 3) := by decide +kernel
theorem dX5_read_87 : decode cX5_read 87 = .ok (.invokevirtual 56, 3) := by decide +kernel
theorem dX5_read_90 : decode cX5_read 90 = .ok (.if_icmp .ge 10, 3) := by decide +kernel
theorem dX5_read_93 : decode cX5_read 93 = .ok (.aload_n 0, 1) := by decide +kernel
theorem dX5_read_94 : decode cX5_read 94 = .ok (.getfield 53, 3) := by decide +kernel
theorem dX5_read_97 : decode cX5_read 97 = .ok (.goto 4, 3) := by decide +kernel
theorem dX5_read_100 : decode cX5_read 100 = .ok (.iconst (-1), 1) := by decide +kernel
theorem dX5_read_101 : decode cX5_read 101 = .ok (.ireturn, 1) := by decide +kernel
def f_X5_read_93 (S : St)  : Option (Int32 × St) :=
  some ((S.1 2 4), S)
def f_X5_read_72 (S : St)  : Option (Int32 × St) :=
  if (S.1 2 6) = 0 then (
    obd2 (f_X8_length S ) fun r2 S2 =>
    if r2 ≤ (S.1 2 4) then (
      some ((-1), S2)
    ) else (
      f_X5_read_93 S2 
    )
  ) else (
    f_X5_read_93 S 
  )
def f_X5_read_47 (k_21 : St → Int32 → Option (Int32 × St)) (S : St) (x1 : Int32) : Option (Int32 × St) :=
  bnd (setI S 2 3 (x1 * 8)) fun S4 =>
  obd (f_X5_readLine S4 ) fun S5 =>
  bnd (setI S5 2 2 (x1 + 1)) fun S6 =>
  bnd (x1 + 1 : Int32) fun v7 =>
  k_21 S6 v7
def f_X5_read_21 (k_21 : St → Int32 → Option (Int32 × St)) (S : St) (x1 : Int32) : Option (Int32 × St) :=
  if 10 ≤ x1 then (
    f_X5_read_72 S 
  ) else (
    if (S.1 2 6) = 0 then (
      if x1 = 0 then (
        f_X5_read_47 k_21 S x1
      ) else (
        obd2 (f_X5_takes S 0) fun r11 S11 =>
        if r11 = 0 then (
          f_X5_read_72 S11 
        ) else (
          f_X5_read_47 k_21 S11 x1
        )
      )
    ) else (
      f_X5_read_72 S 
    )
  )
def l_X5_read_21 : Nat → St → Int32 → Option (Int32 × St)
  | 0, _, _ => none
  | fu + 1, S, x1 => f_X5_read_21 (l_X5_read_21 fu) S x1
def f_X5_read (S : St)  : Option (Int32 × St) :=
  bnd (setI S 2 2 0) fun S13 =>
  bnd (setI S13 2 6 0) fun S14 =>
  bnd (setI S14 2 5 0) fun S15 =>
  obd (f_X5_step S15 ) fun S16 =>
  l_X5_read_21 FU S16 0
set_option maxHeartbeats 4000000 in
set_option maxRecDepth 100000 in
theorem c_X5_read {l : Launch} {D : va_G} {cI cC cS : ClassId} {ad adK adV : Nat → Nat} {S S1 : St}  {r : Int32} (h : f_X5_read S  = some (r, S1)) : Kt l D (xw cI cC cS ad) (KX D (xtys cI cC cS) adK adV) yX5_read cX5_read 2 (some .int) (8) (173) [.ref (ad 2)] S (some (.int r)) S1 := by
  refine k_ent (ins := .ireturn) (st := [.int r]) (by decide +kernel) (Nat.le_of_ble_eq_true rfl) ret_i ?_
  intro p e s m args below meth c A Q C hK I hA hq ls hl
  have C : CallFix p m c cX5_read 2 s args TT RX5 := C
  have hx := C.1
  have hb := C.2.1
  have kx := kx_ok D (xtys cI cC cS) adK adV
  have hl : lv_has ls 2 [(0, .ref (ad 2))] := hl
  have J_93 : ∀ (S : St) , f_X5_read_93  S  = some (r, S1) → ∀ (H : Heap) (locs : List Loc) (ls : Array Slot), Iv D (xw cI cC cS ad) S A s H locs → lv_has ls 2 [(0, .ref (ad 2))] → W p l e ({ frames := 8, cells := 0, slots := 0, locals := 173 } : Room) s m args below meth c H locs 0 0 Q (F0 m 93 ls []) := by
    intro  S  h H locs ls I hl
    unfold f_X5_read_93 at h
    refine lv_aload_n hx hb dX5_read_93 rfl (lv_at hl 0 rfl) ?_
    refine gx_2_4 C hK I fl_X5_53 dX5_read_94 ?_
    refine lv_goto (tgt := 101) hx hb dX5_read_97 (by decide) ?_
    exact rt_i hq h I dX5_read_101
  have J_72 : ∀ (S : St) , f_X5_read_72  S  = some (r, S1) → ∀ (H : Heap) (locs : List Loc) (ls : Array Slot), Iv D (xw cI cC cS ad) S A s H locs → lv_has ls 2 [(0, .ref (ad 2))] → W p l e ({ frames := 8, cells := 0, slots := 0, locals := 173 } : Room) s m args below meth c H locs 0 0 Q (F0 m 72 ls []) := by
    intro  S  h H locs ls I hl
    unfold f_X5_read_72 at h
    refine lv_aload_n hx hb dX5_read_72 rfl (lv_at hl 0 rfl) ?_
    refine gx_2_6 C hK I fl_X5_31 dX5_read_73 ?_
    refine lv_if_ne (tgt := 93) hx hb dX5_read_76 (by decide) (fun c1 => ?_) (fun c1 => ?_)
    · have h := ite_n c1 h
      exact J_93 _  h _ _ _ I (lv_sub hl [0] rfl)
    · have h := ite_t c1 h
      refine lv_aload_n hx hb dX5_read_79 rfl (lv_at hl 0 rfl) ?_
      refine gx_2_4 C hK I fl_X5_53 dX5_read_80 ?_
      refine lv_aload_n hx hb dX5_read_83 rfl (lv_at hl 0 rfl) ?_
      refine gx_2_0 C hK I fl_X5_15 dX5_read_84 ?_
      obtain ⟨r2, S2, e2, h⟩ := obd2_ex h
      refine k_V (As := []) (rest := [.int (S.1 2 4)]) (st1 := [.int r2, .int (S.1 2 4)]) C kx hK I hA (c_X8_length e2) ⟨Nat.le_of_ble_eq_true rfl, Nat.le_of_ble_eq_true rfl⟩ mv_X8_length lk_X5_56 1 8 (xw_1 (cI := cI) (ad := ad) (cC := cC) (cS := cS)) rfl rfl hl.1 rfl (Nat.le_of_ble_eq_true rfl) dX5_read_87 rfl (fun H locs I => ?_)
      refine lv_icmp_ge (tgt := 100) hx hb dX5_read_90 (by decide) (fun c3 => ?_) (fun c3 => ?_)
      · have h := ite_t c3 h
        refine lv_iconst (v := (-1)) hx hb dX5_read_100 (by decide) ?_
        exact rt_i hq h I dX5_read_101
      · have h := ite_n c3 h
        exact J_93 _  h _ _ _ I (lv_sub hl [0] rfl)
  have J_47 : ∀ (k_21 : St → Int32 → Option (Int32 × St)) (hk_21 : ∀ (S : St) (x1 : Int32), k_21 S x1 = some (r, S1) → ∀ (H : Heap) (locs : List Loc) (ls : Array Slot), Iv D (xw cI cC cS ad) S A s H locs → lv_has ls 2 [(0, .ref (ad 2)), (1, .int x1)] → W p l e ({ frames := 8, cells := 0, slots := 0, locals := 173 } : Room) s m args below meth c H locs 0 0 Q (F0 m 21 ls [])) (S : St) (x1 : Int32), f_X5_read_47 k_21 S x1 = some (r, S1) → ∀ (H : Heap) (locs : List Loc) (ls : Array Slot), Iv D (xw cI cC cS ad) S A s H locs → lv_has ls 2 [(0, .ref (ad 2)), (1, .int x1)] → W p l e ({ frames := 8, cells := 0, slots := 0, locals := 173 } : Room) s m args below meth c H locs 0 0 Q (F0 m 47 ls []) := by
    intro k_21 hk_21 S x1 h H locs ls I hl
    unfold f_X5_read_47 at h
    refine lv_aload_n hx hb dX5_read_47 rfl (lv_at hl 0 rfl) ?_
    refine lv_iload_n hx hb dX5_read_48 rfl (lv_at hl 1 rfl) ?_
    refine lv_bipush (v := 8) hx hb dX5_read_49 (by decide) ?_
    refine lv_imul hx hb dX5_read_51 ?_
    refine px_2_3 C hK I fl_X5_47 dX5_read_52 (fun S4 eS4 H locs I => ?_)
    have h := bnd_at eS4 h
    clear eS4
    refine lv_aload_n hx hb dX5_read_55 rfl (lv_at hl 0 rfl) ?_
    obtain ⟨S5, e5, h⟩ := obd_ex h
    refine k_V (As := []) (rest := []) (st1 := []) C kx hK I hA (c_X5_readLine e5) ⟨Nat.le_of_ble_eq_true rfl, Nat.le_of_ble_eq_true rfl⟩ mv_X5_readLine lk_X5_50 2 5 (xw_2 (cI := cI) (ad := ad) (cC := cC) (cS := cS)) rfl rfl hl.1 rfl (Nat.le_of_ble_eq_true rfl) dX5_read_56 rfl (fun H locs I => ?_)
    refine lv_aload_n hx hb dX5_read_59 rfl (lv_at hl 0 rfl) ?_
    refine lv_iload_n hx hb dX5_read_60 rfl (lv_at hl 1 rfl) ?_
    refine lv_iconst (v := 1) hx hb dX5_read_61 (by decide) ?_
    refine lv_iadd hx hb dX5_read_62 ?_
    refine px_2_2 C hK I fl_X5_19 dX5_read_63 (fun S6 eS6 H locs I => ?_)
    have h := bnd_at eS6 h
    clear eS6
    obtain ⟨v7, ev7⟩ : ∃ y : Int32, y = x1 + 1 := ⟨_, rfl⟩
    have h := bnd_at ev7 h
    refine lv_iinc (v := v7) (lv' := [(1, .int v7), (0, .ref (ad 2))]) hx hb dX5_read_66 hl (k := 1) rfl (by rw [ev7]; rfl) (by decide) rfl (fun ls hl => ?_)
    clear ev7
    refine lv_goto (tgt := 21) hx hb dX5_read_69 (by decide) ?_
    exact hk_21 _ _ h _ _ _ I (lv_sub hl [1, 0] rfl)
  have B_21 : ∀ (k_21 : St → Int32 → Option (Int32 × St)) (hk_21 : ∀ (S : St) (x1 : Int32), k_21 S x1 = some (r, S1) → ∀ (H : Heap) (locs : List Loc) (ls : Array Slot), Iv D (xw cI cC cS ad) S A s H locs → lv_has ls 2 [(0, .ref (ad 2)), (1, .int x1)] → W p l e ({ frames := 8, cells := 0, slots := 0, locals := 173 } : Room) s m args below meth c H locs 0 0 Q (F0 m 21 ls [])) (S : St) (x1 : Int32), f_X5_read_21 k_21 S x1 = some (r, S1) → ∀ (H : Heap) (locs : List Loc) (ls : Array Slot), Iv D (xw cI cC cS ad) S A s H locs → lv_has ls 2 [(0, .ref (ad 2)), (1, .int x1)] → W p l e ({ frames := 8, cells := 0, slots := 0, locals := 173 } : Room) s m args below meth c H locs 0 0 Q (F0 m 21 ls []) := by
    intro k_21 hk_21 S x1 h H locs ls I hl
    unfold f_X5_read_21 at h
    refine lv_iload_n hx hb dX5_read_21 rfl (lv_at hl 1 rfl) ?_
    refine lv_bipush (v := 10) hx hb dX5_read_22 (by decide) ?_
    refine lv_icmp_ge (tgt := 72) hx hb dX5_read_24 (by decide) (fun c8 => ?_) (fun c8 => ?_)
    · have h := ite_t c8 h
      exact J_72 _  h _ _ _ I (lv_sub hl [0] rfl)
    · have h := ite_n c8 h
      refine lv_aload_n hx hb dX5_read_27 rfl (lv_at hl 0 rfl) ?_
      refine gx_2_6 C hK I fl_X5_31 dX5_read_28 ?_
      refine lv_if_ne (tgt := 72) hx hb dX5_read_31 (by decide) (fun c9 => ?_) (fun c9 => ?_)
      · have h := ite_n c9 h
        exact J_72 _  h _ _ _ I (lv_sub hl [0] rfl)
      · have h := ite_t c9 h
        refine lv_iload_n hx hb dX5_read_34 rfl (lv_at hl 1 rfl) ?_
        refine lv_if_eq (tgt := 47) hx hb dX5_read_35 (by decide) (fun c10 => ?_) (fun c10 => ?_)
        · have h := ite_t c10 h
          exact J_47 k_21 hk_21 _ _ h _ _ _ I (lv_sub hl [0, 1] rfl)
        · have h := ite_n c10 h
          refine lv_aload_n hx hb dX5_read_38 rfl (lv_at hl 0 rfl) ?_
          refine va_ldcS (tx := strT 0) hx hb C.2.2.2.1 (hK.2.2.2.1 0 (by decide)) dX5_read_39 ?_
          obtain ⟨r11, S11, e11, h⟩ := obd2_ex h
          refine k_V (As := [.ref (adK 0)]) (rest := []) (st1 := [.int r11]) C kx hK I hA (c_X5_takes e11) ⟨Nat.le_of_ble_eq_true rfl, Nat.le_of_ble_eq_true rfl⟩ mv_X5_takes lk_X5_43 2 5 (xw_2 (cI := cI) (ad := ad) (cC := cC) (cS := cS)) rfl rfl hl.1 rfl (Nat.le_of_ble_eq_true rfl) dX5_read_41 rfl (fun H locs I => ?_)
          refine lv_if_eq (tgt := 72) hx hb dX5_read_44 (by decide) (fun c12 => ?_) (fun c12 => ?_)
          · have h := ite_t c12 h
            exact J_72 _  h _ _ _ I (lv_sub hl [0] rfl)
          · have h := ite_n c12 h
            exact J_47 k_21 hk_21 _ _ h _ _ _ I (lv_sub hl [0, 1] rfl)
  have J_21 : ∀ (fu : Nat) (S : St) (x1 : Int32), l_X5_read_21  fu S x1 = some (r, S1) → ∀ (H : Heap) (locs : List Loc) (ls : Array Slot), Iv D (xw cI cC cS ad) S A s H locs → lv_has ls 2 [(0, .ref (ad 2)), (1, .int x1)] → W p l e ({ frames := 8, cells := 0, slots := 0, locals := 173 } : Room) s m args below meth c H locs 0 0 Q (F0 m 21 ls []) := by
    intro fu
    induction fu with
    | zero => intro S x1 h; cases h
    | succ fu ih => intro S x1 h; exact B_21 (l_X5_read_21 fu) ih S x1 h
  unfold f_X5_read at h
  refine lv_aload_n hx hb dX5_read_0 rfl (lv_at hl 0 rfl) ?_
  refine lv_iconst (v := 0) hx hb dX5_read_1 (by decide) ?_
  refine px_2_2 C hK I fl_X5_19 dX5_read_2 (fun S13 eS13 H locs I => ?_)
  have h := bnd_at eS13 h
  clear eS13
  refine lv_aload_n hx hb dX5_read_5 rfl (lv_at hl 0 rfl) ?_
  refine lv_iconst (v := 0) hx hb dX5_read_6 (by decide) ?_
  refine px_2_6 C hK I fl_X5_31 (Or.inl rfl) dX5_read_7 (fun S14 eS14 H locs I => ?_)
  have h := bnd_at eS14 h
  clear eS14
  refine lv_aload_n hx hb dX5_read_10 rfl (lv_at hl 0 rfl) ?_
  refine lv_iconst (v := 0) hx hb dX5_read_11 (by decide) ?_
  refine px_2_5 C hK I fl_X5_35 dX5_read_12 (fun S15 eS15 H locs I => ?_)
  have h := bnd_at eS15 h
  clear eS15
  refine lv_aload_n hx hb dX5_read_15 rfl (lv_at hl 0 rfl) ?_
  obtain ⟨S16, e16, h⟩ := obd_ex h
  refine k_V (As := []) (rest := []) (st1 := []) C kx hK I hA (c_X5_step e16) ⟨Nat.le_of_ble_eq_true rfl, Nat.le_of_ble_eq_true rfl⟩ mv_X5_step lk_X5_38 2 5 (xw_2 (cI := cI) (ad := ad) (cC := cC) (cS := cS)) rfl rfl hl.1 rfl (Nat.le_of_ble_eq_true rfl) dX5_read_16 rfl (fun H locs I => ?_)
  refine lv_iconst (v := 0) hx hb dX5_read_19 (by decide) ?_
  refine lv_istore_n (lv' := [(1, .int 0), (0, .ref (ad 2))]) hx hb dX5_read_20 rfl hl (by decide) rfl (fun ls hl => ?_)
  exact J_21 _ _ _ h _ _ _ I (lv_sub hl [1, 0] rfl)
