theorem fl_X4_9 : Cond.fieldLink RX4 9 RX4 "weights" "[I" ∈ TT := tt_of 227 (by decide +kernel) rfl
theorem lk_X4_41 : Cond.methodLinkNest RX4 41 yX10_at "CarryUp" ∈ NN := nn_of 640 (by decide +kernel) rfl
theorem dX4_weightOf_0 : decode cX4_weightOf 0 = .ok (.iconst 0, 1) := by decide +kernel
theorem dX4_weightOf_1 : decode cX4_weightOf 1 = .ok (.istore_n 2, 1) := by decide +kernel
theorem dX4_weightOf_2 : decode cX4_weightOf 2 = .ok (.iconst 0, 1) := by decide +kernel
theorem dX4_weightOf_3 : decode cX4_weightOf 3 = .ok (.istore_n 3, 1) := by decide +kernel
theorem dX4_weightOf_4 : decode cX4_weightOf 4 = .ok (.iload_n 3, 1) := by decide +kernel
theorem dX4_weightOf_5 : decode cX4_weightOf 5 = .ok (.bipush 8, 2) := by decide +kernel
theorem dX4_weightOf_7 : decode cX4_weightOf 7 = .ok (.if_icmp .ge 26, 3) := by decide +kernel
theorem dX4_weightOf_10 : decode cX4_weightOf 10 = .ok (.iload_n 2, 1) := by decide +kernel
theorem dX4_weightOf_11 : decode cX4_weightOf 11 = .ok (.iload_n 1, 1) := by decide +kernel
theorem dX4_weightOf_12 : decode cX4_weightOf 12 = .ok (.iload_n 3, 1) := by decide +kernel
theorem dX4_weightOf_13 : decode cX4_weightOf 13 = .ok (.ishr, 1) := by decide +kernel
theorem dX4_weightOf_14 : decode cX4_weightOf 14 = .ok (.iconst 1, 1) := by decide +kernel
theorem dX4_weightOf_15 : decode cX4_weightOf 15 = .ok (.iand, 1) := by decide +kernel
theorem dX4_weightOf_16 : decode cX4_weightOf 16 = .ok (.aload_n 0, 1) := by decide +kernel
theorem dX4_weightOf_17 : decode cX4_weightOf 17 = .ok (.getfield 9, 3) := by decide +kernel
theorem dX4_weightOf_20 : decode cX4_weightOf 20 = .ok (.iload_n 3, 1) := by decide +kernel
theorem dX4_weightOf_21 : decode cX4_weightOf 21 = .ok (.invokestatic 41, 3) := by decide +kernel
theorem dX4_weightOf_24 : decode cX4_weightOf 24 = .ok (.imul, 1) := by decide +kernel
theorem dX4_weightOf_25 : decode cX4_weightOf 25 = .ok (.iadd, 1) := by decide +kernel
theorem dX4_weightOf_26 : decode cX4_weightOf 26 = .ok (.istore_n 2, 1) := by decide +kernel
theorem dX4_weightOf_27 : decode cX4_weightOf 27 = .ok (.iinc 3 1, 3) := by decide +kernel
theorem dX4_weightOf_30 : decode cX4_weightOf 30 = .ok (.goto (-26), 3) := by decide +kernel
theorem dX4_weightOf_33 : decode cX4_weightOf 33 = .ok (.iload_n 2, 1) := by decide +kernel
theorem dX4_weightOf_34 : decode cX4_weightOf 34 = .ok (.ireturn, 1) := by decide +kernel
def f_X4_weightOf_4 (k_4 : St → Int32 → Int32 → Int32 → Option (Int32 × St)) (S : St) (x1 : Int32) (x2 : Int32) (x3 : Int32) : Option (Int32 × St) :=
  if 8 ≤ x3 then (
    some (x2, S)
  ) else (
    obd2 (f_X10_at S 2 x3) fun r2 S2 =>
    bnd ((x2 + (((x1 >>> (x3 &&& 31)) &&& 1) * r2)) : Int32) fun v3 =>
    bnd (x3 + 1 : Int32) fun v4 =>
    k_4 S2 x1 v3 v4
  )
def l_X4_weightOf_4 : Nat → St → Int32 → Int32 → Int32 → Option (Int32 × St)
  | 0, _, _, _, _ => none
  | fu + 1, S, x1, x2, x3 => f_X4_weightOf_4 (l_X4_weightOf_4 fu) S x1 x2 x3
def f_X4_weightOf (S : St) (x1 : Int32) : Option (Int32 × St) :=
  l_X4_weightOf_4 FU S x1 0 0
set_option maxHeartbeats 4000000 in
set_option maxRecDepth 100000 in
theorem c_X4_weightOf {l : Launch} {D : va_G} {cI cC cS : ClassId} {ad adK adV : Nat → Nat} {S S1 : St} {x1 : Int32} {r : Int32} (h : f_X4_weightOf S x1 = some (r, S1)) : Kt l D (xw cI cC cS ad) (KX D (xtys cI cC cS) adK adV) yX4_weightOf cX4_weightOf 4 (some .int) (1) (21) [.ref (ad 3), .int x1] S (some (.int r)) S1 := by
  refine k_ent (ins := .ireturn) (st := [.int r]) (by decide +kernel) (Nat.le_of_ble_eq_true rfl) ret_i ?_
  intro p e s m args below meth c A Q C hK I hA hq ls hl
  have C : CallFix p m c cX4_weightOf 4 s args TT RX4 := C
  have hx := C.1
  have hb := C.2.1
  have kx := kx_ok D (xtys cI cC cS) adK adV
  have hl : lv_has ls 4 [(0, .ref (ad 3)), (1, .int x1)] := hl
  have B_4 : ∀ (k_4 : St → Int32 → Int32 → Int32 → Option (Int32 × St)) (hk_4 : ∀ (S : St) (x1 : Int32) (x2 : Int32) (x3 : Int32), k_4 S x1 x2 x3 = some (r, S1) → ∀ (H : Heap) (locs : List Loc) (ls : Array Slot), Iv D (xw cI cC cS ad) S A s H locs → lv_has ls 4 [(0, .ref (ad 3)), (1, .int x1), (2, .int x2), (3, .int x3)] → W p l e ({ frames := 1, cells := 0, slots := 0, locals := 21 } : Room) s m args below meth c H locs 0 0 Q (F0 m 4 ls [])) (S : St) (x1 : Int32) (x2 : Int32) (x3 : Int32), f_X4_weightOf_4 k_4 S x1 x2 x3 = some (r, S1) → ∀ (H : Heap) (locs : List Loc) (ls : Array Slot), Iv D (xw cI cC cS ad) S A s H locs → lv_has ls 4 [(0, .ref (ad 3)), (1, .int x1), (2, .int x2), (3, .int x3)] → W p l e ({ frames := 1, cells := 0, slots := 0, locals := 21 } : Room) s m args below meth c H locs 0 0 Q (F0 m 4 ls []) := by
    intro k_4 hk_4 S x1 x2 x3 h H locs ls I hl
    unfold f_X4_weightOf_4 at h
    refine lv_iload_n hx hb dX4_weightOf_4 rfl (lv_at hl 3 rfl) ?_
    refine lv_bipush (v := 8) hx hb dX4_weightOf_5 (by decide) ?_
    refine lv_icmp_ge (tgt := 33) hx hb dX4_weightOf_7 (by decide) (fun c1 => ?_) (fun c1 => ?_)
    · have h := ite_t c1 h
      refine lv_iload_n hx hb dX4_weightOf_33 rfl (lv_at hl 2 rfl) ?_
      exact rt_i hq h I dX4_weightOf_34
    · have h := ite_n c1 h
      refine lv_iload_n hx hb dX4_weightOf_10 rfl (lv_at hl 2 rfl) ?_
      refine lv_iload_n hx hb dX4_weightOf_11 rfl (lv_at hl 1 rfl) ?_
      refine lv_iload_n hx hb dX4_weightOf_12 rfl (lv_at hl 3 rfl) ?_
      refine lv_ishr hx hb dX4_weightOf_13 ?_
      refine lv_iconst (v := 1) hx hb dX4_weightOf_14 (by decide) ?_
      refine lv_iand hx hb dX4_weightOf_15 ?_
      refine lv_aload_n hx hb dX4_weightOf_16 rfl (lv_at hl 0 rfl) ?_
      refine gx_3_0 C hK I fl_X4_9 dX4_weightOf_17 ?_
      refine lv_iload_n hx hb dX4_weightOf_20 rfl (lv_at hl 3 rfl) ?_
      obtain ⟨r2, S2, e2, h⟩ := obd2_ex h
      refine k_SN (As := [.ref (ad 13), .int x3]) (rest := [.int ((x1 >>> (x3 &&& 31)) &&& 1), .int x2]) (st1 := [.int r2, .int ((x1 >>> (x3 &&& 31)) &&& 1), .int x2]) C kx hK I hA (c_X10_at e2) ⟨Nat.le_of_ble_eq_true rfl, Nat.le_of_ble_eq_true rfl⟩ ms_X10_at lk_X4_41 rfl hl.1 rfl (Nat.le_of_ble_eq_true rfl) dX4_weightOf_21 rfl (fun H locs I => ?_)
      refine lv_imul hx hb dX4_weightOf_24 ?_
      refine lv_iadd hx hb dX4_weightOf_25 ?_
      refine lv_topi (fun v3 ev3 => ?_)
      have h := bnd_at ev3 h
      clear ev3
      refine lv_istore_n (lv' := [(2, .int v3), (0, .ref (ad 3)), (1, .int x1), (3, .int x3)]) hx hb dX4_weightOf_26 rfl hl (by decide) rfl (fun ls hl => ?_)
      obtain ⟨v4, ev4⟩ : ∃ y : Int32, y = x3 + 1 := ⟨_, rfl⟩
      have h := bnd_at ev4 h
      refine lv_iinc (v := v4) (lv' := [(3, .int v4), (2, .int v3), (0, .ref (ad 3)), (1, .int x1)]) hx hb dX4_weightOf_27 hl (k := 3) rfl (by rw [ev4]; rfl) (by decide) rfl (fun ls hl => ?_)
      clear ev4
      refine lv_goto (tgt := 4) hx hb dX4_weightOf_30 (by decide) ?_
      exact hk_4 _ _ _ _ h _ _ _ I (lv_sub hl [2, 3, 1, 0] rfl)
  have J_4 : ∀ (fu : Nat) (S : St) (x1 : Int32) (x2 : Int32) (x3 : Int32), l_X4_weightOf_4  fu S x1 x2 x3 = some (r, S1) → ∀ (H : Heap) (locs : List Loc) (ls : Array Slot), Iv D (xw cI cC cS ad) S A s H locs → lv_has ls 4 [(0, .ref (ad 3)), (1, .int x1), (2, .int x2), (3, .int x3)] → W p l e ({ frames := 1, cells := 0, slots := 0, locals := 21 } : Room) s m args below meth c H locs 0 0 Q (F0 m 4 ls []) := by
    intro fu
    induction fu with
    | zero => intro S x1 x2 x3 h; cases h
    | succ fu ih => intro S x1 x2 x3 h; exact B_4 (l_X4_weightOf_4 fu) ih S x1 x2 x3 h
  unfold f_X4_weightOf at h
  refine lv_iconst (v := 0) hx hb dX4_weightOf_0 (by decide) ?_
  refine lv_istore_n (lv' := [(2, .int 0), (0, .ref (ad 3)), (1, .int x1)]) hx hb dX4_weightOf_1 rfl hl (by decide) rfl (fun ls hl => ?_)
  refine lv_iconst (v := 0) hx hb dX4_weightOf_2 (by decide) ?_
  refine lv_istore_n (lv' := [(3, .int 0), (2, .int 0), (0, .ref (ad 3)), (1, .int x1)]) hx hb dX4_weightOf_3 rfl hl (by decide) rfl (fun ls hl => ?_)
  exact J_4 _ _ _ _ _ h _ _ _ I (lv_sub hl [2, 3, 1, 0] rfl)
theorem fl_X4_34 : Cond.fieldLink RX4 34 RX4 "purse" "I" ∈ TT := tt_of 233 (by decide +kernel) rfl
theorem lk_X4_95 : Cond.methodLink RX4 95 yX4_weightOf ∈ TT := tt_of 697 (by decide +kernel) rfl
theorem mv_X4_weightOf : MV yX4_weightOf cX4_weightOf 4 (some .int) 1 := ⟨tt_of 700 (by decide +kernel) rfl, tt_of 698 (by decide +kernel) rfl, tt_of 699 (by decide +kernel) rfl, tt_of 68 (by decide +kernel) rfl, ⟨by decide +kernel, by decide +kernel, by decide +kernel⟩⟩
theorem fl_X4_31 : Cond.fieldLink RX4 31 RX4 "load" "I" ∈ TT := tt_of 232 (by decide +kernel) rfl
theorem fl_X4_15 : Cond.fieldLink RX4 15 RX4 "prices" "[I" ∈ TT := tt_of 228 (by decide +kernel) rfl
theorem dX4_mayBe_0 : decode cX4_mayBe 0 = .ok (.iconst 0, 1) := by decide +kernel
theorem dX4_mayBe_1 : decode cX4_mayBe 1 = .ok (.istore_n 2, 1) := by decide +kernel
theorem dX4_mayBe_2 : decode cX4_mayBe 2 = .ok (.iconst 0, 1) := by decide +kernel
theorem dX4_mayBe_3 : decode cX4_mayBe 3 = .ok (.istore_n 3, 1) := by decide +kernel
theorem dX4_mayBe_4 : decode cX4_mayBe 4 = .ok (.iload_n 3, 1) := by decide +kernel
theorem dX4_mayBe_5 : decode cX4_mayBe 5 = .ok (.bipush 8, 2) := by decide +kernel
theorem dX4_mayBe_7 : decode cX4_mayBe 7 = .ok (.if_icmp .ge 26, 3) := by decide +kernel
theorem dX4_mayBe_10 : decode cX4_mayBe 10 = .ok (.iload_n 2, 1) := by decide +kernel
theorem dX4_mayBe_11 : decode cX4_mayBe 11 = .ok (.iload_n 1, 1) := by decide +kernel
theorem dX4_mayBe_12 : decode cX4_mayBe 12 = .ok (.iload_n 3, 1) := by decide +kernel
theorem dX4_mayBe_13 : decode cX4_mayBe 13 = .ok (.ishr, 1) := by decide +kernel
theorem dX4_mayBe_14 : decode cX4_mayBe 14 = .ok (.iconst 1, 1) := by decide +kernel
theorem dX4_mayBe_15 : decode cX4_mayBe 15 = .ok (.iand, 1) := by decide +kernel
theorem dX4_mayBe_16 : decode cX4_mayBe 16 = .ok (.aload_n 0, 1) := by decide +kernel
theorem dX4_mayBe_17 : decode cX4_mayBe 17 = .ok (.getfield 15, 3) := by decide +kernel
theorem dX4_mayBe_20 : decode cX4_mayBe 20 = .ok (.iload_n 3, 1) := by decide +kernel
theorem dX4_mayBe_21 : decode cX4_mayBe 21 = .ok (.invokestatic 41, 3) := by decide +kernel
theorem dX4_mayBe_24 : decode cX4_mayBe 24 = .ok (.imul, 1) := by decide +kernel
theorem dX4_mayBe_25 : decode cX4_mayBe 25 = .ok (.iadd, 1) := by decide +kernel
theorem dX4_mayBe_26 : decode cX4_mayBe 26 = .ok (.istore_n 2, 1) := by decide +kernel
theorem dX4_mayBe_27 : decode cX4_mayBe 27 = .ok (.iinc 3 1, 3) := by decide +kernel
theorem dX4_mayBe_30 : decode cX4_mayBe 30 = .ok (.goto (-26), 3) := by decide +kernel
theorem dX4_mayBe_33 : decode cX4_mayBe 33 = .ok (.iload_n 2, 1) := by decide +kernel
theorem dX4_mayBe_34 : decode cX4_mayBe 34 = .ok (.aload_n 0, 1) := by decide +kernel
theorem dX4_mayBe_35 : decode cX4_mayBe 35 = .ok (.getfield 34, 3) := by decide +kernel
theorem dX4_mayBe_38 : decode cX4_mayBe 38 = .ok (.if_icmp .gt 19, 3) := by decide +kernel
theorem dX4_mayBe_41 : decode cX4_mayBe 41 = .ok (.aload_n 0, 1) := by decide +kernel
theorem dX4_mayBe_42 : decode cX4_mayBe 42 = .ok (.iload_n 1, 1) := by decide +kernel
theorem dX4_mayBe_43 : decode cX4_mayBe 43 = .ok (.invokevirtual 95, 3) := by decide +kernel
theorem dX4_mayBe_46 : decode cX4_mayBe 46 = .ok (.aload_n 0, 1) := by decide +kernel
theorem dX4_mayBe_47 : decode cX4_mayBe 47 = .ok (.getfield 31, 3) := by decide +kernel
theorem dX4_mayBe_50 : decode cX4_mayBe 50 = .ok (.if_icmp .gt 7, 3) := by decide +kernel
theorem dX4_mayBe_53 : decode cX4_mayBe 53 = .ok (.iconst 1, 1) := by decide +kernel
theorem dX4_mayBe_54 : decode cX4_mayBe 54 = .ok (.goto 4, 3) := by decide +kernel
theorem dX4_mayBe_57 : decode cX4_mayBe 57 = .ok (.iconst 0, 1) := by decide +kernel
theorem dX4_mayBe_58 : decode cX4_mayBe 58 = .ok (.ireturn, 1) := by decide +kernel
def f_X4_mayBe_4 (k_4 : St → Int32 → Int32 → Int32 → Option (Int32 × St)) (S : St) (x1 : Int32) (x2 : Int32) (x3 : Int32) : Option (Int32 × St) :=
  if 8 ≤ x3 then (
    if (S.1 3 6) < x2 then (
      some (0, S)
    ) else (
      obd2 (f_X4_weightOf S x1) fun r3 S3 =>
      if (S3.1 3 5) < r3 then (
        some (0, S3)
      ) else (
        some (1, S3)
      )
    )
  ) else (
    obd2 (f_X10_at S 3 x3) fun r5 S5 =>
    bnd ((x2 + (((x1 >>> (x3 &&& 31)) &&& 1) * r5)) : Int32) fun v6 =>
    bnd (x3 + 1 : Int32) fun v7 =>
    k_4 S5 x1 v6 v7
  )
def l_X4_mayBe_4 : Nat → St → Int32 → Int32 → Int32 → Option (Int32 × St)
  | 0, _, _, _, _ => none
  | fu + 1, S, x1, x2, x3 => f_X4_mayBe_4 (l_X4_mayBe_4 fu) S x1 x2 x3
def f_X4_mayBe (S : St) (x1 : Int32) : Option (Int32 × St) :=
  l_X4_mayBe_4 FU S x1 0 0
set_option maxHeartbeats 4000000 in
set_option maxRecDepth 100000 in
theorem c_X4_mayBe {l : Launch} {D : va_G} {cI cC cS : ClassId} {ad adK adV : Nat → Nat} {S S1 : St} {x1 : Int32} {r : Int32} (h : f_X4_mayBe S x1 = some (r, S1)) : Kt l D (xw cI cC cS ad) (KX D (xtys cI cC cS) adK adV) yX4_mayBe cX4_mayBe 4 (some .boolean) (2) (44) [.ref (ad 3), .int x1] S (some (.int r)) S1 := by
  refine k_entz (by decide +kernel) (Nat.le_of_ble_eq_true rfl) ?_
  intro p e s m args below meth c A Q C hK I hA hq ls hl
  have C : CallFix p m c cX4_mayBe 4 s args TT RX4 := C
  have hx := C.1
  have hb := C.2.1
  have kx := kx_ok D (xtys cI cC cS) adK adV
  have hl : lv_has ls 4 [(0, .ref (ad 3)), (1, .int x1)] := hl
  have B_4 : ∀ (k_4 : St → Int32 → Int32 → Int32 → Option (Int32 × St)) (hk_4 : ∀ (S : St) (x1 : Int32) (x2 : Int32) (x3 : Int32), k_4 S x1 x2 x3 = some (r, S1) → ∀ (H : Heap) (locs : List Loc) (ls : Array Slot), Iv D (xw cI cC cS ad) S A s H locs → lv_has ls 4 [(0, .ref (ad 3)), (1, .int x1), (2, .int x2), (3, .int x3)] → W p l e ({ frames := 2, cells := 0, slots := 0, locals := 44 } : Room) s m args below meth c H locs 0 0 Q (F0 m 4 ls [])) (S : St) (x1 : Int32) (x2 : Int32) (x3 : Int32), f_X4_mayBe_4 k_4 S x1 x2 x3 = some (r, S1) → ∀ (H : Heap) (locs : List Loc) (ls : Array Slot), Iv D (xw cI cC cS ad) S A s H locs → lv_has ls 4 [(0, .ref (ad 3)), (1, .int x1), (2, .int x2), (3, .int x3)] → W p l e ({ frames := 2, cells := 0, slots := 0, locals := 44 } : Room) s m args below meth c H locs 0 0 Q (F0 m 4 ls []) := by
    intro k_4 hk_4 S x1 x2 x3 h H locs ls I hl
    unfold f_X4_mayBe_4 at h
    refine lv_iload_n hx hb dX4_mayBe_4 rfl (lv_at hl 3 rfl) ?_
    refine lv_bipush (v := 8) hx hb dX4_mayBe_5 (by decide) ?_
    refine lv_icmp_ge (tgt := 33) hx hb dX4_mayBe_7 (by decide) (fun c1 => ?_) (fun c1 => ?_)
    · have h := ite_t c1 h
      refine lv_iload_n hx hb dX4_mayBe_33 rfl (lv_at hl 2 rfl) ?_
      refine lv_aload_n hx hb dX4_mayBe_34 rfl (lv_at hl 0 rfl) ?_
      refine gx_3_6 C hK I fl_X4_34 dX4_mayBe_35 ?_
      refine lv_icmp_gt (tgt := 57) hx hb dX4_mayBe_38 (by decide) (fun c2 => ?_) (fun c2 => ?_)
      · have h := ite_t c2 h
        refine lv_iconst (v := 0) hx hb dX4_mayBe_57 (by decide) ?_
        exact rt_z (Or.inl rfl) hq h I dX4_mayBe_58
      · have h := ite_n c2 h
        refine lv_aload_n hx hb dX4_mayBe_41 rfl (lv_at hl 0 rfl) ?_
        refine lv_iload_n hx hb dX4_mayBe_42 rfl (lv_at hl 1 rfl) ?_
        obtain ⟨r3, S3, e3, h⟩ := obd2_ex h
        refine k_V (As := [.int x1]) (rest := []) (st1 := [.int r3]) C kx hK I hA (c_X4_weightOf e3) ⟨Nat.le_of_ble_eq_true rfl, Nat.le_of_ble_eq_true rfl⟩ mv_X4_weightOf lk_X4_95 3 4 (xw_3 (cI := cI) (ad := ad) (cC := cC) (cS := cS)) rfl rfl hl.1 rfl (Nat.le_of_ble_eq_true rfl) dX4_mayBe_43 rfl (fun H locs I => ?_)
        refine lv_aload_n hx hb dX4_mayBe_46 rfl (lv_at hl 0 rfl) ?_
        refine gx_3_5 C hK I fl_X4_31 dX4_mayBe_47 ?_
        refine lv_icmp_gt (tgt := 57) hx hb dX4_mayBe_50 (by decide) (fun c4 => ?_) (fun c4 => ?_)
        · have h := ite_t c4 h
          refine lv_iconst (v := 0) hx hb dX4_mayBe_57 (by decide) ?_
          exact rt_z (Or.inl rfl) hq h I dX4_mayBe_58
        · have h := ite_n c4 h
          refine lv_iconst (v := 1) hx hb dX4_mayBe_53 (by decide) ?_
          refine lv_goto (tgt := 58) hx hb dX4_mayBe_54 (by decide) ?_
          exact rt_z (Or.inr rfl) hq h I dX4_mayBe_58
    · have h := ite_n c1 h
      refine lv_iload_n hx hb dX4_mayBe_10 rfl (lv_at hl 2 rfl) ?_
      refine lv_iload_n hx hb dX4_mayBe_11 rfl (lv_at hl 1 rfl) ?_
      refine lv_iload_n hx hb dX4_mayBe_12 rfl (lv_at hl 3 rfl) ?_
      refine lv_ishr hx hb dX4_mayBe_13 ?_
      refine lv_iconst (v := 1) hx hb dX4_mayBe_14 (by decide) ?_
      refine lv_iand hx hb dX4_mayBe_15 ?_
      refine lv_aload_n hx hb dX4_mayBe_16 rfl (lv_at hl 0 rfl) ?_
      refine gx_3_1 C hK I fl_X4_15 dX4_mayBe_17 ?_
      refine lv_iload_n hx hb dX4_mayBe_20 rfl (lv_at hl 3 rfl) ?_
      obtain ⟨r5, S5, e5, h⟩ := obd2_ex h
      refine k_SN (As := [.ref (ad 14), .int x3]) (rest := [.int ((x1 >>> (x3 &&& 31)) &&& 1), .int x2]) (st1 := [.int r5, .int ((x1 >>> (x3 &&& 31)) &&& 1), .int x2]) C kx hK I hA (c_X10_at e5) ⟨Nat.le_of_ble_eq_true rfl, Nat.le_of_ble_eq_true rfl⟩ ms_X10_at lk_X4_41 rfl hl.1 rfl (Nat.le_of_ble_eq_true rfl) dX4_mayBe_21 rfl (fun H locs I => ?_)
      refine lv_imul hx hb dX4_mayBe_24 ?_
      refine lv_iadd hx hb dX4_mayBe_25 ?_
      refine lv_topi (fun v6 ev6 => ?_)
      have h := bnd_at ev6 h
      clear ev6
      refine lv_istore_n (lv' := [(2, .int v6), (0, .ref (ad 3)), (1, .int x1), (3, .int x3)]) hx hb dX4_mayBe_26 rfl hl (by decide) rfl (fun ls hl => ?_)
      obtain ⟨v7, ev7⟩ : ∃ y : Int32, y = x3 + 1 := ⟨_, rfl⟩
      have h := bnd_at ev7 h
      refine lv_iinc (v := v7) (lv' := [(3, .int v7), (2, .int v6), (0, .ref (ad 3)), (1, .int x1)]) hx hb dX4_mayBe_27 hl (k := 3) rfl (by rw [ev7]; rfl) (by decide) rfl (fun ls hl => ?_)
      clear ev7
      refine lv_goto (tgt := 4) hx hb dX4_mayBe_30 (by decide) ?_
      exact hk_4 _ _ _ _ h _ _ _ I (lv_sub hl [2, 3, 1, 0] rfl)
  have J_4 : ∀ (fu : Nat) (S : St) (x1 : Int32) (x2 : Int32) (x3 : Int32), l_X4_mayBe_4  fu S x1 x2 x3 = some (r, S1) → ∀ (H : Heap) (locs : List Loc) (ls : Array Slot), Iv D (xw cI cC cS ad) S A s H locs → lv_has ls 4 [(0, .ref (ad 3)), (1, .int x1), (2, .int x2), (3, .int x3)] → W p l e ({ frames := 2, cells := 0, slots := 0, locals := 44 } : Room) s m args below meth c H locs 0 0 Q (F0 m 4 ls []) := by
    intro fu
    induction fu with
    | zero => intro S x1 x2 x3 h; cases h
    | succ fu ih => intro S x1 x2 x3 h; exact B_4 (l_X4_mayBe_4 fu) ih S x1 x2 x3 h
  unfold f_X4_mayBe at h
  refine lv_iconst (v := 0) hx hb dX4_mayBe_0 (by decide) ?_
  refine lv_istore_n (lv' := [(2, .int 0), (0, .ref (ad 3)), (1, .int x1)]) hx hb dX4_mayBe_1 rfl hl (by decide) rfl (fun ls hl => ?_)
  refine lv_iconst (v := 0) hx hb dX4_mayBe_2 (by decide) ?_
  refine lv_istore_n (lv' := [(3, .int 0), (2, .int 0), (0, .ref (ad 3)), (1, .int x1)]) hx hb dX4_mayBe_3 rfl hl (by decide) rfl (fun ls hl => ?_)
  exact J_4 _ _ _ _ _ h _ _ _ I (lv_sub hl [2, 3, 1, 0] rfl)
theorem lk_X5_23 : Cond.methodLinkNest RX5 23 yX10_within "CarryUp" ∈ NN := nn_of 547 (by decide +kernel) rfl
theorem fl_X5_11 : Cond.fieldLink RX5 11 RX5 "told" "[I" ∈ TT := tt_of 112 (by decide +kernel) rfl
theorem lk_X5_27 : Cond.methodLinkNest RX5 27 yX10_at "CarryUp" ∈ NN := nn_of 595 (by decide +kernel) rfl
theorem dX5_told_0 : decode cX5_told 0 = .ok (.iload_n 2, 1) := by decide +kernel
theorem dX5_told_1 : decode cX5_told 1 = .ok (.iconst 0, 1) := by decide +kernel
theorem dX5_told_2 : decode cX5_told 2 = .ok (.bipush 7, 2) := by decide +kernel
theorem dX5_told_4 : decode cX5_told 4 = .ok (.invokestatic 23, 3) := by decide +kernel
theorem dX5_told_7 : decode cX5_told 7 = .ok (.ifCond .eq 19, 3) := by decide +kernel
theorem dX5_told_10 : decode cX5_told 10 = .ok (.aload_n 0, 1) := by decide +kernel
theorem dX5_told_11 : decode cX5_told 11 = .ok (.getfield 11, 3) := by decide +kernel
theorem dX5_told_14 : decode cX5_told 14 = .ok (.iload_n 1, 1) := by decide +kernel
theorem dX5_told_15 : decode cX5_told 15 = .ok (.bipush 8, 2) := by decide +kernel
theorem dX5_told_17 : decode cX5_told 17 = .ok (.imul, 1) := by decide +kernel
theorem dX5_told_18 : decode cX5_told 18 = .ok (.iload_n 2, 1) := by decide +kernel
theorem dX5_told_19 : decode cX5_told 19 = .ok (.iadd, 1) := by decide +kernel
theorem dX5_told_20 : decode cX5_told 20 = .ok (.invokestatic 27, 3) := by decide +kernel
theorem dX5_told_23 : decode cX5_told 23 = .ok (.goto 4, 3) := by decide +kernel
theorem dX5_told_26 : decode cX5_told 26 = .ok (.iconst 0, 1) := by decide +kernel
theorem dX5_told_27 : decode cX5_told 27 = .ok (.ireturn, 1) := by decide +kernel
def f_X5_told (S : St) (x1 : Int32) (x2 : Int32) : Option (Int32 × St) :=
  obd2 (f_X10_within S x2 0 7) fun r1 S1 =>
  if r1 = 0 then (
    some (0, S1)
  ) else (
    obd2 (f_X10_at S1 1 ((x1 * 8) + x2)) fun r3 S3 =>
    some (r3, S3)
  )
set_option maxHeartbeats 4000000 in
set_option maxRecDepth 100000 in
theorem c_X5_told {l : Launch} {D : va_G} {cI cC cS : ClassId} {ad adK adV : Nat → Nat} {S S1 : St} {x1 : Int32} {x2 : Int32} {r : Int32} (h : f_X5_told S x1 x2 = some (r, S1)) : Kt l D (xw cI cC cS ad) (KX D (xtys cI cC cS) adK adV) yX5_told cX5_told 3 (some .int) (1) (22) [.ref (ad 2), .int x1, .int x2] S (some (.int r)) S1 := by
  refine k_ent (ins := .ireturn) (st := [.int r]) (by decide +kernel) (Nat.le_of_ble_eq_true rfl) ret_i ?_
  intro p e s m args below meth c A Q C hK I hA hq ls hl
  have C : CallFix p m c cX5_told 3 s args TT RX5 := C
  have hx := C.1
  have hb := C.2.1
  have kx := kx_ok D (xtys cI cC cS) adK adV
  have hl : lv_has ls 3 [(0, .ref (ad 2)), (1, .int x1), (2, .int x2)] := hl
  unfold f_X5_told at h
  refine lv_iload_n hx hb dX5_told_0 rfl (lv_at hl 2 rfl) ?_
  refine lv_iconst (v := 0) hx hb dX5_told_1 (by decide) ?_
  refine lv_bipush (v := 7) hx hb dX5_told_2 (by decide) ?_
  obtain ⟨r1, S1, e1, h⟩ := obd2_ex h
  refine k_SN (As := [.int x2, .int 0, .int 7]) (rest := []) (st1 := [.int r1]) C kx hK I hA (c_X10_within e1) ⟨Nat.le_of_ble_eq_true rfl, Nat.le_of_ble_eq_true rfl⟩ ms_X10_within lk_X5_23 rfl hl.1 rfl (Nat.le_of_ble_eq_true rfl) dX5_told_4 rfl (fun H locs I => ?_)
  refine lv_if_eq (tgt := 26) hx hb dX5_told_7 (by decide) (fun c2 => ?_) (fun c2 => ?_)
  · have h := ite_t c2 h
    refine lv_iconst (v := 0) hx hb dX5_told_26 (by decide) ?_
    exact rt_i hq h I dX5_told_27
  · have h := ite_n c2 h
    refine lv_aload_n hx hb dX5_told_10 rfl (lv_at hl 0 rfl) ?_
    refine gx_2_1 C hK I fl_X5_11 dX5_told_11 ?_
    refine lv_iload_n hx hb dX5_told_14 rfl (lv_at hl 1 rfl) ?_
    refine lv_bipush (v := 8) hx hb dX5_told_15 (by decide) ?_
    refine lv_imul hx hb dX5_told_17 ?_
    refine lv_iload_n hx hb dX5_told_18 rfl (lv_at hl 2 rfl) ?_
    refine lv_iadd hx hb dX5_told_19 ?_
    obtain ⟨r3, S3, e3, h⟩ := obd2_ex h
    refine k_SN (As := [.ref (ad 12), .int ((x1 * 8) + x2)]) (rest := []) (st1 := [.int r3]) C kx hK I hA (c_X10_at e3) ⟨Nat.le_of_ble_eq_true rfl, Nat.le_of_ble_eq_true rfl⟩ ms_X10_at lk_X5_27 rfl hl.1 rfl (Nat.le_of_ble_eq_true rfl) dX5_told_20 rfl (fun H locs I => ?_)
    refine lv_goto (tgt := 27) hx hb dX5_told_23 (by decide) ?_
    exact rt_i hq h I dX5_told_27
theorem fl_X1_18 : Cond.fieldLink RX1 18 RX1 "told" "Z" ∈ TT := tt_of 185 (by decide +kernel) rfl
theorem fl_X1_22 : Cond.fieldLink RX1 22 RX1 "sortCount" "I" ∈ TT := tt_of 183 (by decide +kernel) rfl
theorem fl_X1_26 : Cond.fieldLink RX1 26 RX1 "likely" "I" ∈ TT := tt_of 184 (by decide +kernel) rfl
theorem lk_X1_29 : Cond.methodLink RX1 29 yX5_told ∈ TT := tt_of 617 (by decide +kernel) rfl
theorem mv_X5_told : MV yX5_told cX5_told 3 (some .int) 2 := ⟨tt_of 594 (by decide +kernel) rfl, tt_of 592 (by decide +kernel) rfl, tt_of 593 (by decide +kernel) rfl, tt_of 67 (by decide +kernel) rfl, ⟨by decide +kernel, by decide +kernel, by decide +kernel⟩⟩
theorem fl_X1_34 : Cond.fieldLink RX1 34 RX1 "place" "I" ∈ TT := tt_of 186 (by decide +kernel) rfl
theorem fl_X1_37 : Cond.fieldLink RX1 37 RX1 "opens" "I" ∈ TT := tt_of 190 (by decide +kernel) rfl
theorem fl_X1_40 : Cond.fieldLink RX1 40 RX1 "shuts" "I" ∈ TT := tt_of 192 (by decide +kernel) rfl
theorem fl_X1_43 : Cond.fieldLink RX1 43 RX1 "worth" "I" ∈ TT := tt_of 194 (by decide +kernel) rfl
theorem fl_X1_46 : Cond.fieldLink RX1 46 RX1 "again" "I" ∈ TT := tt_of 198 (by decide +kernel) rfl
theorem fl_X1_49 : Cond.fieldLink RX1 49 RX1 "look" "I" ∈ TT := tt_of 202 (by decide +kernel) rfl
theorem dX1_tell_0 : decode cX1_tell 0 = .ok (.aload_n 0, 1) := by decide +kernel
theorem dX1_tell_1 : decode cX1_tell 1 = .ok (.iconst 1, 1) := by decide +kernel
theorem dX1_tell_2 : decode cX1_tell 2 = .ok (.putfield 18, 3) := by decide +kernel
theorem dX1_tell_5 : decode cX1_tell 5 = .ok (.aload_n 0, 1) := by decide +kernel
theorem dX1_tell_6 : decode cX1_tell 6 = .ok (.iconst 0, 1) := by decide +kernel
theorem dX1_tell_7 : decode cX1_tell 7 = .ok (.putfield 22, 3) := by decide +kernel
theorem dX1_tell_10 : decode cX1_tell 10 = .ok (.aload_n 0, 1) := by decide +kernel
theorem dX1_tell_11 : decode cX1_tell 11 = .ok (.iconst 0, 1) := by decide +kernel
theorem dX1_tell_12 : decode cX1_tell 12 = .ok (.putfield 26, 3) := by decide +kernel
theorem dX1_tell_15 : decode cX1_tell 15 = .ok (.aload_n 0, 1) := by decide +kernel
theorem dX1_tell_16 : decode cX1_tell 16 = .ok (.aload_n 1, 1) := by decide +kernel
theorem dX1_tell_17 : decode cX1_tell 17 = .ok (.iload_n 2, 1) := by decide +kernel
theorem dX1_tell_18 : decode cX1_tell 18 = .ok (.iconst 2, 1) := by decide +kernel
theorem dX1_tell_19 : decode cX1_tell 19 = .ok (.invokevirtual 29, 3) := by decide +kernel
theorem dX1_tell_22 : decode cX1_tell 22 = .ok (.putfield 34, 3) := by decide +kernel
theorem dX1_tell_25 : decode cX1_tell 25 = .ok (.aload_n 0, 1) := by decide +kernel
theorem dX1_tell_26 : decode cX1_tell 26 = .ok (.aload_n 1, 1) := by decide +kernel
theorem dX1_tell_27 : decode cX1_tell 27 = .ok (.iload_n 2, 1) := by decide +kernel
theorem dX1_tell_28 : decode cX1_tell 28 = .ok (.iconst 3, 1) := by decide +kernel
theorem dX1_tell_29 : decode cX1_tell 29 = .ok (.invokevirtual 29, 3) := by decide +kernel
theorem dX1_tell_32 : decode cX1_tell 32 = .ok (.putfield 37, 3) := by decide +kernel
theorem dX1_tell_35 : decode cX1_tell 35 = .ok (.aload_n 0, 1) := by decide +kernel
theorem dX1_tell_36 : decode cX1_tell 36 = .ok (.aload_n 1, 1) := by decide +kernel
theorem dX1_tell_37 : decode cX1_tell 37 = .ok (.iload_n 2, 1) := by decide +kernel
theorem dX1_tell_38 : decode cX1_tell 38 = .ok (.iconst 4, 1) := by decide +kernel
theorem dX1_tell_39 : decode cX1_tell 39 = .ok (.invokevirtual 29, 3) := by decide +kernel
theorem dX1_tell_42 : decode cX1_tell 42 = .ok (.putfield 40, 3) := by decide +kernel
theorem dX1_tell_45 : decode cX1_tell 45 = .ok (.aload_n 0, 1) := by decide +kernel
theorem dX1_tell_46 : decode cX1_tell 46 = .ok (.aload_n 1, 1) := by decide +kernel
theorem dX1_tell_47 : decode cX1_tell 47 = .ok (.iload_n 2, 1) := by decide +kernel
theorem dX1_tell_48 : decode cX1_tell 48 = .ok (.iconst 5, 1) := by decide +kernel
theorem dX1_tell_49 : decode cX1_tell 49 = .ok (.invokevirtual 29, 3) := by decide +kernel
theorem dX1_tell_52 : decode cX1_tell 52 = .ok (.putfield 43, 3) := by decide +kernel
theorem dX1_tell_55 : decode cX1_tell 55 = .ok (.aload_n 0, 1) := by decide +kernel
theorem dX1_tell_56 : decode cX1_tell 56 = .ok (.aload_n 1, 1) := by decide +kernel
theorem dX1_tell_57 : decode cX1_tell 57 = .ok (.iload_n 2, 1) := by decide +kernel
theorem dX1_tell_58 : decode cX1_tell 58 = .ok (.bipush 6, 2) := by decide +kernel
theorem dX1_tell_60 : decode cX1_tell 60 = .ok (.invokevirtual 29, 3) := by decide +kernel
theorem dX1_tell_63 : decode cX1_tell 63 = .ok (.putfield 46, 3) := by decide +kernel
theorem dX1_tell_66 : decode cX1_tell 66 = .ok (.aload_n 0, 1) := by decide +kernel
theorem dX1_tell_67 : decode cX1_tell 67 = .ok (.aload_n 1, 1) := by decide +kernel
theorem dX1_tell_68 : decode cX1_tell 68 = .ok (.iload_n 2, 1) := by decide +kernel
theorem dX1_tell_69 : decode cX1_tell 69 = .ok (.bipush 7, 2) := by decide +kernel
theorem dX1_tell_71 : decode cX1_tell 71 = .ok (.invokevirtual 29, 3) := by decide +kernel
theorem dX1_tell_74 : decode cX1_tell 74 = .ok (.putfield 49, 3) := by decide +kernel
theorem dX1_tell_77 : decode cX1_tell 77 = .ok (.return_, 1) := by decide +kernel
def f_X1_tell (S : St) (x0 : Fin 6) (x2 : Int32) : Option St :=
  bnd (setI S (21 + x0.val) 3 1) fun S1 =>
  bnd (setI S1 (21 + x0.val) 1 0) fun S2 =>
  bnd (setI S2 (21 + x0.val) 2 0) fun S3 =>
  obd2 (f_X5_told S3 x2 2) fun r4 S4 =>
  bnd (setI S4 (21 + x0.val) 4 r4) fun S5 =>
  obd2 (f_X5_told S5 x2 3) fun r6 S6 =>
  bnd (setI S6 (21 + x0.val) 5 r6) fun S7 =>
  obd2 (f_X5_told S7 x2 4) fun r8 S8 =>
  bnd (setI S8 (21 + x0.val) 6 r8) fun S9 =>
  obd2 (f_X5_told S9 x2 5) fun r10 S10 =>
  bnd (setI S10 (21 + x0.val) 7 r10) fun S11 =>
  obd2 (f_X5_told S11 x2 6) fun r12 S12 =>
  bnd (setI S12 (21 + x0.val) 8 r12) fun S13 =>
  obd2 (f_X5_told S13 x2 7) fun r14 S14 =>
  bnd (setI S14 (21 + x0.val) 9 r14) fun S15 =>
  some S15
set_option maxHeartbeats 4000000 in
set_option maxRecDepth 100000 in
theorem c_X1_tell {l : Launch} {D : va_G} {cI cC cS : ClassId} {ad adK adV : Nat → Nat} {S S1 : St} {x0 : Fin 6} {x2 : Int32} (h : f_X1_tell S x0 x2 = some S1) : Kt l D (xw cI cC cS ad) (KX D (xtys cI cC cS) adK adV) yX1_tell cX1_tell 3 none (2) (44) [.ref (ad (21 + x0.val)), .ref (ad 2), .int x2] S (none) S1 := by
  refine k_ent (ins := .return_) (st := []) (by decide +kernel) (Nat.le_of_ble_eq_true rfl) ret_v ?_
  intro p e s m args below meth c A Q C hK I hA hq ls hl
  have C : CallFix p m c cX1_tell 3 s args TT RX1 := C
  have hx := C.1
  have hb := C.2.1
  have kx := kx_ok D (xtys cI cC cS) adK adV
  have hl : lv_has ls 3 [(0, .ref (ad (21 + x0.val))), (1, .ref (ad 2)), (2, .int x2)] := hl
  unfold f_X1_tell at h
  refine lv_aload_n hx hb dX1_tell_0 rfl (lv_at hl 0 rfl) ?_
  refine lv_iconst (v := 1) hx hb dX1_tell_1 (by decide) ?_
  refine px_C_3 C hK I fl_X1_18 (Or.inr rfl) dX1_tell_2 (fun S1 eS1 H locs I => ?_)
  have h := bnd_at eS1 h
  clear eS1
  refine lv_aload_n hx hb dX1_tell_5 rfl (lv_at hl 0 rfl) ?_
  refine lv_iconst (v := 0) hx hb dX1_tell_6 (by decide) ?_
  refine px_C_1 C hK I fl_X1_22 dX1_tell_7 (fun S2 eS2 H locs I => ?_)
  have h := bnd_at eS2 h
  clear eS2
  refine lv_aload_n hx hb dX1_tell_10 rfl (lv_at hl 0 rfl) ?_
  refine lv_iconst (v := 0) hx hb dX1_tell_11 (by decide) ?_
  refine px_C_2 C hK I fl_X1_26 dX1_tell_12 (fun S3 eS3 H locs I => ?_)
  have h := bnd_at eS3 h
  clear eS3
  refine lv_aload_n hx hb dX1_tell_15 rfl (lv_at hl 0 rfl) ?_
  refine lv_aload_n hx hb dX1_tell_16 rfl (lv_at hl 1 rfl) ?_
  refine lv_iload_n hx hb dX1_tell_17 rfl (lv_at hl 2 rfl) ?_
  refine lv_iconst (v := 2) hx hb dX1_tell_18 (by decide) ?_
  obtain ⟨r4, S4, e4, h⟩ := obd2_ex h
  refine k_V (As := [.int x2, .int 2]) (rest := [.ref (ad (21 + x0.val))]) (st1 := [.int r4, .ref (ad (21 + x0.val))]) C kx hK I hA (c_X5_told e4) ⟨Nat.le_of_ble_eq_true rfl, Nat.le_of_ble_eq_true rfl⟩ mv_X5_told lk_X1_29 2 5 (xw_2 (cI := cI) (ad := ad) (cC := cC) (cS := cS)) rfl rfl hl.1 rfl (Nat.le_of_ble_eq_true rfl) dX1_tell_19 rfl (fun H locs I => ?_)
  refine px_C_4 C hK I fl_X1_34 dX1_tell_22 (fun S5 eS5 H locs I => ?_)
  have h := bnd_at eS5 h
  clear eS5
  refine lv_aload_n hx hb dX1_tell_25 rfl (lv_at hl 0 rfl) ?_
  refine lv_aload_n hx hb dX1_tell_26 rfl (lv_at hl 1 rfl) ?_
  refine lv_iload_n hx hb dX1_tell_27 rfl (lv_at hl 2 rfl) ?_
  refine lv_iconst (v := 3) hx hb dX1_tell_28 (by decide) ?_
  obtain ⟨r6, S6, e6, h⟩ := obd2_ex h
  refine k_V (As := [.int x2, .int 3]) (rest := [.ref (ad (21 + x0.val))]) (st1 := [.int r6, .ref (ad (21 + x0.val))]) C kx hK I hA (c_X5_told e6) ⟨Nat.le_of_ble_eq_true rfl, Nat.le_of_ble_eq_true rfl⟩ mv_X5_told lk_X1_29 2 5 (xw_2 (cI := cI) (ad := ad) (cC := cC) (cS := cS)) rfl rfl hl.1 rfl (Nat.le_of_ble_eq_true rfl) dX1_tell_29 rfl (fun H locs I => ?_)
  refine px_C_5 C hK I fl_X1_37 dX1_tell_32 (fun S7 eS7 H locs I => ?_)
  have h := bnd_at eS7 h
  clear eS7
  refine lv_aload_n hx hb dX1_tell_35 rfl (lv_at hl 0 rfl) ?_
  refine lv_aload_n hx hb dX1_tell_36 rfl (lv_at hl 1 rfl) ?_
  refine lv_iload_n hx hb dX1_tell_37 rfl (lv_at hl 2 rfl) ?_
  refine lv_iconst (v := 4) hx hb dX1_tell_38 (by decide) ?_
  obtain ⟨r8, S8, e8, h⟩ := obd2_ex h
  refine k_V (As := [.int x2, .int 4]) (rest := [.ref (ad (21 + x0.val))]) (st1 := [.int r8, .ref (ad (21 + x0.val))]) C kx hK I hA (c_X5_told e8) ⟨Nat.le_of_ble_eq_true rfl, Nat.le_of_ble_eq_true rfl⟩ mv_X5_told lk_X1_29 2 5 (xw_2 (cI := cI) (ad := ad) (cC := cC) (cS := cS)) rfl rfl hl.1 rfl (Nat.le_of_ble_eq_true rfl) dX1_tell_39 rfl (fun H locs I => ?_)
  refine px_C_6 C hK I fl_X1_40 dX1_tell_42 (fun S9 eS9 H locs I => ?_)
  have h := bnd_at eS9 h
  clear eS9
  refine lv_aload_n hx hb dX1_tell_45 rfl (lv_at hl 0 rfl) ?_
  refine lv_aload_n hx hb dX1_tell_46 rfl (lv_at hl 1 rfl) ?_
  refine lv_iload_n hx hb dX1_tell_47 rfl (lv_at hl 2 rfl) ?_
  refine lv_iconst (v := 5) hx hb dX1_tell_48 (by decide) ?_
  obtain ⟨r10, S10, e10, h⟩ := obd2_ex h
  refine k_V (As := [.int x2, .int 5]) (rest := [.ref (ad (21 + x0.val))]) (st1 := [.int r10, .ref (ad (21 + x0.val))]) C kx hK I hA (c_X5_told e10) ⟨Nat.le_of_ble_eq_true rfl, Nat.le_of_ble_eq_true rfl⟩ mv_X5_told lk_X1_29 2 5 (xw_2 (cI := cI) (ad := ad) (cC := cC) (cS := cS)) rfl rfl hl.1 rfl (Nat.le_of_ble_eq_true rfl) dX1_tell_49 rfl (fun H locs I => ?_)
  refine px_C_7 C hK I fl_X1_43 dX1_tell_52 (fun S11 eS11 H locs I => ?_)
  have h := bnd_at eS11 h
  clear eS11
  refine lv_aload_n hx hb dX1_tell_55 rfl (lv_at hl 0 rfl) ?_
  refine lv_aload_n hx hb dX1_tell_56 rfl (lv_at hl 1 rfl) ?_
  refine lv_iload_n hx hb dX1_tell_57 rfl (lv_at hl 2 rfl) ?_
  refine lv_bipush (v := 6) hx hb dX1_tell_58 (by decide) ?_
  obtain ⟨r12, S12, e12, h⟩ := obd2_ex h
  refine k_V (As := [.int x2, .int 6]) (rest := [.ref (ad (21 + x0.val))]) (st1 := [.int r12, .ref (ad (21 + x0.val))]) C kx hK I hA (c_X5_told e12) ⟨Nat.le_of_ble_eq_true rfl, Nat.le_of_ble_eq_true rfl⟩ mv_X5_told lk_X1_29 2 5 (xw_2 (cI := cI) (ad := ad) (cC := cC) (cS := cS)) rfl rfl hl.1 rfl (Nat.le_of_ble_eq_true rfl) dX1_tell_60 rfl (fun H locs I => ?_)
  refine px_C_8 C hK I fl_X1_46 dX1_tell_63 (fun S13 eS13 H locs I => ?_)
  have h := bnd_at eS13 h
  clear eS13
  refine lv_aload_n hx hb dX1_tell_66 rfl (lv_at hl 0 rfl) ?_
  refine lv_aload_n hx hb dX1_tell_67 rfl (lv_at hl 1 rfl) ?_
  refine lv_iload_n hx hb dX1_tell_68 rfl (lv_at hl 2 rfl) ?_
  refine lv_bipush (v := 7) hx hb dX1_tell_69 (by decide) ?_
  obtain ⟨r14, S14, e14, h⟩ := obd2_ex h
  refine k_V (As := [.int x2, .int 7]) (rest := [.ref (ad (21 + x0.val))]) (st1 := [.int r14, .ref (ad (21 + x0.val))]) C kx hK I hA (c_X5_told e14) ⟨Nat.le_of_ble_eq_true rfl, Nat.le_of_ble_eq_true rfl⟩ mv_X5_told lk_X1_29 2 5 (xw_2 (cI := cI) (ad := ad) (cC := cC) (cS := cS)) rfl rfl hl.1 rfl (Nat.le_of_ble_eq_true rfl) dX1_tell_71 rfl (fun H locs I => ?_)
  refine px_C_9 C hK I fl_X1_49 dX1_tell_74 (fun S15 eS15 H locs I => ?_)
  have h := bnd_at eS15 h
  clear eS15
  exact rt_v hq h I dX1_tell_77
theorem fl_X1_11 : Cond.fieldLink RX1 11 RX1 "sorts" "[LCarryUp$Sort;" ∈ TT := tt_of 182 (by decide +kernel) rfl
theorem lk_X1_52 : Cond.methodLinkNest RX1 52 yX10_within "CarryUp" ∈ NN := nn_of 626 (by decide +kernel) rfl
theorem lk_X1_56 : Cond.methodLink RX1 56 yX7_tell ∈ TT := tt_of 627 (by decide +kernel) rfl
theorem mv_X7_tell : MV yX7_tell cX7_tell 5 none 4 := ⟨tt_of 630 (by decide +kernel) rfl, tt_of 628 (by decide +kernel) rfl, tt_of 629 (by decide +kernel) rfl, tt_of 70 (by decide +kernel) rfl, ⟨by decide +kernel, by decide +kernel, by decide +kernel⟩⟩
theorem fl_X1_60 : Cond.fieldLinkNest RX1 60 RX7 "likely" "I" "CarryUp" ∈ NN := nn_of 154 (by decide +kernel) rfl
theorem dX1_tellSort_0 : decode cX1_tellSort 0 = .ok (.aload_n 0, 1) := by decide +kernel
theorem dX1_tellSort_1 : decode cX1_tellSort 1 = .ok (.getfield 18, 3) := by decide +kernel
theorem dX1_tellSort_4 : decode cX1_tellSort 4 = .ok (.ifCond .eq 21, 3) := by decide +kernel
theorem dX1_tellSort_7 : decode cX1_tellSort 7 = .ok (.aload_n 0, 1) := by decide +kernel
theorem dX1_tellSort_8 : decode cX1_tellSort 8 = .ok (.getfield 22, 3) := by decide +kernel
theorem dX1_tellSort_11 : decode cX1_tellSort 11 = .ok (.iconst 0, 1) := by decide +kernel
theorem dX1_tellSort_12 : decode cX1_tellSort 12 = .ok (.aload_n 0, 1) := by decide +kernel
theorem dX1_tellSort_13 : decode cX1_tellSort 13 = .ok (.getfield 11, 3) := by decide +kernel
theorem dX1_tellSort_16 : decode cX1_tellSort 16 = .ok (.arraylength, 1) := by decide +kernel
theorem dX1_tellSort_17 : decode cX1_tellSort 17 = .ok (.iconst 1, 1) := by decide +kernel
theorem dX1_tellSort_18 : decode cX1_tellSort 18 = .ok (.isub, 1) := by decide +kernel
theorem dX1_tellSort_19 : decode cX1_tellSort 19 = .ok (.invokestatic 52, 3) := by decide +kernel
theorem dX1_tellSort_22 : decode cX1_tellSort 22 = .ok (.ifCond .ne 4, 3) := by decide +kernel
theorem dX1_tellSort_25 : decode cX1_tellSort 25 = .ok (.return_, 1) := by decide +kernel
theorem dX1_tellSort_26 : decode cX1_tellSort 26 = .ok (.aload_n 0, 1) := by decide +kernel
theorem dX1_tellSort_27 : decode cX1_tellSort 27 = .ok (.getfield 11, 3) := by decide +kernel
theorem dX1_tellSort_30 : decode cX1_tellSort 30 = .ok (.aload_n 0, 1) := by decide +kernel
theorem dX1_tellSort_31 : decode cX1_tellSort 31 = .ok (.getfield 22, 3) := by decide +kernel
theorem dX1_tellSort_34 : decode cX1_tellSort 34 = .ok (.aaload, 1) := by decide +kernel
theorem dX1_tellSort_35 : decode cX1_tellSort 35 = .ok (.astore_n 3, 1) := by decide +kernel
theorem dX1_tellSort_36 : decode cX1_tellSort 36 = .ok (.aload_n 3, 1) := by decide +kernel
theorem dX1_tellSort_37 : decode cX1_tellSort 37 = .ok (.ifnonnull 4, 3) := by decide +kernel
theorem dX1_tellSort_40 : decode cX1_tellSort 40 = .ok (.return_, 1) := by decide +kernel
theorem dX1_tellSort_41 : decode cX1_tellSort 41 = .ok (.aload_n 3, 1) := by decide +kernel
theorem dX1_tellSort_42 : decode cX1_tellSort 42 = .ok (.aload_n 1, 1) := by decide +kernel
theorem dX1_tellSort_43 : decode cX1_tellSort 43 = .ok (.iload_n 2, 1) := by decide +kernel
theorem dX1_tellSort_44 : decode cX1_tellSort 44 = .ok (.iconst 2, 1) := by decide +kernel
theorem dX1_tellSort_45 : decode cX1_tellSort 45 = .ok (.invokevirtual 29, 3) := by decide +kernel
theorem dX1_tellSort_48 : decode cX1_tellSort 48 = .ok (.aload_n 1, 1) := by decide +kernel
theorem dX1_tellSort_49 : decode cX1_tellSort 49 = .ok (.iload_n 2, 1) := by decide +kernel
theorem dX1_tellSort_50 : decode cX1_tellSort 50 = .ok (.iconst 3, 1) := by decide +kernel
theorem dX1_tellSort_51 : decode cX1_tellSort 51 = .ok (.invokevirtual 29, 3) := by decide +kernel
theorem dX1_tellSort_54 : decode cX1_tellSort 54 = .ok (.aload_n 1, 1) := by decide +kernel
theorem dX1_tellSort_55 : decode cX1_tellSort 55 = .ok (.iload_n 2, 1) := by decide +kernel
theorem dX1_tellSort_56 : decode cX1_tellSort 56 = .ok (.iconst 4, 1) := by decide +kernel
theorem dX1_tellSort_57 : decode cX1_tellSort 57 = .ok (.invokevirtual 29, 3) := by decide +kernel
theorem dX1_tellSort_60 : decode cX1_tellSort 60 = .ok (.aload_n 1, 1) := by decide +kernel
theorem dX1_tellSort_61 : decode cX1_tellSort 61 = .ok (.iload_n 2, 1) := by decide +kernel
theorem dX1_tellSort_62 : decode cX1_tellSort 62 = .ok (.iconst 5, 1) := by decide +kernel
theorem dX1_tellSort_63 : decode cX1_tellSort 63 = .ok (.invokevirtual 29, 3) := by decide +kernel
theorem dX1_tellSort_66 : decode cX1_tellSort 66 = .ok (.invokevirtual 56, 3) := by decide +kernel
theorem dX1_tellSort_69 : decode cX1_tellSort 69 = .ok (.aload_n 0, 1) := by decide +kernel
theorem dX1_tellSort_70 : decode cX1_tellSort 70 = .ok (.dup, 1) := by decide +kernel
theorem dX1_tellSort_71 : decode cX1_tellSort 71 = .ok (.getfield 26, 3) := by decide +kernel
theorem dX1_tellSort_74 : decode cX1_tellSort 74 = .ok (.aload_n 3, 1) := by decide +kernel
theorem dX1_tellSort_75 : decode cX1_tellSort 75 = .ok (.getfield 60, 3) := by decide +kernel
theorem dX1_tellSort_78 : decode cX1_tellSort 78 = .ok (.iadd, 1) := by decide +kernel
theorem dX1_tellSort_79 : decode cX1_tellSort 79 = .ok (.putfield 26, 3) := by decide +kernel
theorem dX1_tellSort_82 : decode cX1_tellSort 82 = .ok (.aload_n 0, 1) := by decide +kernel
theorem dX1_tellSort_83 : decode cX1_tellSort 83 = .ok (.dup, 1) := by decide +kernel
theorem dX1_tellSort_84 : decode cX1_tellSort 84 = .ok (.getfield 22, 3) := by decide +kernel
theorem dX1_tellSort_87 : decode cX1_tellSort 87 = .ok (.iconst 1, 1) := by decide +kernel
theorem dX1_tellSort_88 : decode cX1_tellSort 88 = .ok (.iadd, 1) := by decide +kernel
theorem dX1_tellSort_89 : decode cX1_tellSort 89 = .ok (.putfield 22, 3) := by decide +kernel
theorem dX1_tellSort_92 : decode cX1_tellSort 92 = .ok (.return_, 1) := by decide +kernel
def f_X1_tellSort (S : St) (x0 : Fin 6) (x2 : Int32) : Option St :=
  if (S.1 (21 + x0.val) 3) = 0 then (
    some S
  ) else (
    obd2 (f_X10_within S (S.1 (21 + x0.val) 1) 0 (4 - 1)) fun r2 S2 =>
    if r2 = 0 then (
      some S2
    ) else (
      obd (finS x0 (S2.1 (21 + x0.val) 1)) fun v4 =>
      obd2 (f_X5_told S2 x2 2) fun r5 S5 =>
      obd2 (f_X5_told S5 x2 3) fun r6 S6 =>
      obd2 (f_X5_told S6 x2 4) fun r7 S7 =>
      obd2 (f_X5_told S7 x2 5) fun r8 S8 =>
      obd (f_X7_tell S8 v4 r5 r6 r7 r8) fun S9 =>
      bnd (setI S9 (21 + x0.val) 2 ((S9.1 (21 + x0.val) 2) + (S9.1 (33 + v4.val) 0))) fun S10 =>
      bnd (setI S10 (21 + x0.val) 1 ((S10.1 (21 + x0.val) 1) + 1)) fun S11 =>
      some S11
    )
  )
set_option maxHeartbeats 4000000 in
set_option maxRecDepth 100000 in
theorem c_X1_tellSort {l : Launch} {D : va_G} {cI cC cS : ClassId} {ad adK adV : Nat → Nat} {S S1 : St} {x0 : Fin 6} {x2 : Int32} (h : f_X1_tellSort S x0 x2 = some S1) : Kt l D (xw cI cC cS ad) (KX D (xtys cI cC cS) adK adV) yX1_tellSort cX1_tellSort 4 none (2) (44) [.ref (ad (21 + x0.val)), .ref (ad 2), .int x2] S (none) S1 := by
  refine k_ent (ins := .return_) (st := []) (by decide +kernel) (Nat.le_of_ble_eq_true rfl) ret_v ?_
  intro p e s m args below meth c A Q C hK I hA hq ls hl
  have C : CallFix p m c cX1_tellSort 4 s args TT RX1 := C
  have hx := C.1
  have hb := C.2.1
  have kx := kx_ok D (xtys cI cC cS) adK adV
  have hl : lv_has ls 4 [(0, .ref (ad (21 + x0.val))), (1, .ref (ad 2)), (2, .int x2)] := hl
  unfold f_X1_tellSort at h
  refine lv_aload_n hx hb dX1_tellSort_0 rfl (lv_at hl 0 rfl) ?_
  refine gx_C_3 C hK I fl_X1_18 dX1_tellSort_1 ?_
  refine lv_if_eq (tgt := 25) hx hb dX1_tellSort_4 (by decide) (fun c1 => ?_) (fun c1 => ?_)
  · have h := ite_t c1 h
    exact rt_v hq h I dX1_tellSort_25
  · have h := ite_n c1 h
    refine lv_aload_n hx hb dX1_tellSort_7 rfl (lv_at hl 0 rfl) ?_
    refine gx_C_1 C hK I fl_X1_22 dX1_tellSort_8 ?_
    refine lv_iconst (v := 0) hx hb dX1_tellSort_11 (by decide) ?_
    refine lv_aload_n hx hb dX1_tellSort_12 rfl (lv_at hl 0 rfl) ?_
    refine gx_C_0 C hK I fl_X1_11 dX1_tellSort_13 ?_
    refine lx_R C hK I dX1_tellSort_16 ?_
    refine lv_iconst (v := 1) hx hb dX1_tellSort_17 (by decide) ?_
    refine lv_isub hx hb dX1_tellSort_18 ?_
    obtain ⟨r2, S2, e2, h⟩ := obd2_ex h
    refine k_SN (As := [.int (S.1 (21 + x0.val) 1), .int 0, .int (4 - 1)]) (rest := []) (st1 := [.int r2]) C kx hK I hA (c_X10_within e2) ⟨Nat.le_of_ble_eq_true rfl, Nat.le_of_ble_eq_true rfl⟩ ms_X10_within lk_X1_52 rfl hl.1 rfl (Nat.le_of_ble_eq_true rfl) dX1_tellSort_19 rfl (fun H locs I => ?_)
    refine lv_if_ne (tgt := 26) hx hb dX1_tellSort_22 (by decide) (fun c3 => ?_) (fun c3 => ?_)
    · have h := ite_n c3 h
      refine lv_aload_n hx hb dX1_tellSort_26 rfl (lv_at hl 0 rfl) ?_
      refine gx_C_0 C hK I fl_X1_11 dX1_tellSort_27 ?_
      refine lv_aload_n hx hb dX1_tellSort_30 rfl (lv_at hl 0 rfl) ?_
      refine gx_C_1 C hK I fl_X1_22 dX1_tellSort_31 ?_
      obtain ⟨v4, ev4, h⟩ := obd_ex h
      refine ax_R C hK I ev4 dX1_tellSort_34 ?_
      refine lv_astore_n (lv' := [(3, .ref (ad (33 + v4.val))), (0, .ref (ad (21 + x0.val))), (1, .ref (ad 2)), (2, .int x2)]) hx hb dX1_tellSort_35 rfl hl (by decide) rfl (fun ls hl => ?_)
      refine lv_aload_n hx hb dX1_tellSort_36 rfl (lv_at hl 0 rfl) ?_
      refine lv_ifnonnull (tgt := 41) hx hb dX1_tellSort_37 (by decide) ?_
      refine lv_aload_n hx hb dX1_tellSort_41 rfl (lv_at hl 0 rfl) ?_
      refine lv_aload_n hx hb dX1_tellSort_42 rfl (lv_at hl 2 rfl) ?_
      refine lv_iload_n hx hb dX1_tellSort_43 rfl (lv_at hl 3 rfl) ?_
      refine lv_iconst (v := 2) hx hb dX1_tellSort_44 (by decide) ?_
      obtain ⟨r5, S5, e5, h⟩ := obd2_ex h
      refine k_V (As := [.int x2, .int 2]) (rest := [.ref (ad (33 + v4.val))]) (st1 := [.int r5, .ref (ad (33 + v4.val))]) C kx hK I hA (c_X5_told e5) ⟨Nat.le_of_ble_eq_true rfl, Nat.le_of_ble_eq_true rfl⟩ mv_X5_told lk_X1_29 2 5 (xw_2 (cI := cI) (ad := ad) (cC := cC) (cS := cS)) rfl rfl hl.1 rfl (Nat.le_of_ble_eq_true rfl) dX1_tellSort_45 rfl (fun H locs I => ?_)
      refine lv_aload_n hx hb dX1_tellSort_48 rfl (lv_at hl 2 rfl) ?_
      refine lv_iload_n hx hb dX1_tellSort_49 rfl (lv_at hl 3 rfl) ?_
      refine lv_iconst (v := 3) hx hb dX1_tellSort_50 (by decide) ?_
      obtain ⟨r6, S6, e6, h⟩ := obd2_ex h
      refine k_V (As := [.int x2, .int 3]) (rest := [.int r5, .ref (ad (33 + v4.val))]) (st1 := [.int r6, .int r5, .ref (ad (33 + v4.val))]) C kx hK I hA (c_X5_told e6) ⟨Nat.le_of_ble_eq_true rfl, Nat.le_of_ble_eq_true rfl⟩ mv_X5_told lk_X1_29 2 5 (xw_2 (cI := cI) (ad := ad) (cC := cC) (cS := cS)) rfl rfl hl.1 rfl (Nat.le_of_ble_eq_true rfl) dX1_tellSort_51 rfl (fun H locs I => ?_)
      refine lv_aload_n hx hb dX1_tellSort_54 rfl (lv_at hl 2 rfl) ?_
      refine lv_iload_n hx hb dX1_tellSort_55 rfl (lv_at hl 3 rfl) ?_
      refine lv_iconst (v := 4) hx hb dX1_tellSort_56 (by decide) ?_
      obtain ⟨r7, S7, e7, h⟩ := obd2_ex h
      refine k_V (As := [.int x2, .int 4]) (rest := [.int r6, .int r5, .ref (ad (33 + v4.val))]) (st1 := [.int r7, .int r6, .int r5, .ref (ad (33 + v4.val))]) C kx hK I hA (c_X5_told e7) ⟨Nat.le_of_ble_eq_true rfl, Nat.le_of_ble_eq_true rfl⟩ mv_X5_told lk_X1_29 2 5 (xw_2 (cI := cI) (ad := ad) (cC := cC) (cS := cS)) rfl rfl hl.1 rfl (Nat.le_of_ble_eq_true rfl) dX1_tellSort_57 rfl (fun H locs I => ?_)
      refine lv_aload_n hx hb dX1_tellSort_60 rfl (lv_at hl 2 rfl) ?_
      refine lv_iload_n hx hb dX1_tellSort_61 rfl (lv_at hl 3 rfl) ?_
      refine lv_iconst (v := 5) hx hb dX1_tellSort_62 (by decide) ?_
      obtain ⟨r8, S8, e8, h⟩ := obd2_ex h
      refine k_V (As := [.int x2, .int 5]) (rest := [.int r7, .int r6, .int r5, .ref (ad (33 + v4.val))]) (st1 := [.int r8, .int r7, .int r6, .int r5, .ref (ad (33 + v4.val))]) C kx hK I hA (c_X5_told e8) ⟨Nat.le_of_ble_eq_true rfl, Nat.le_of_ble_eq_true rfl⟩ mv_X5_told lk_X1_29 2 5 (xw_2 (cI := cI) (ad := ad) (cC := cC) (cS := cS)) rfl rfl hl.1 rfl (Nat.le_of_ble_eq_true rfl) dX1_tellSort_63 rfl (fun H locs I => ?_)
      obtain ⟨S9, e9, h⟩ := obd_ex h
      refine k_V (As := [.int r5, .int r6, .int r7, .int r8]) (rest := []) (st1 := []) C kx hK I hA (c_X7_tell e9) ⟨Nat.le_of_ble_eq_true rfl, Nat.le_of_ble_eq_true rfl⟩ mv_X7_tell lk_X1_56 (33 + v4.val) 7 (xw_S (cI := cI) (cC := cC) (cS := cS) (ad := ad) v4) rfl rfl hl.1 rfl (Nat.le_of_ble_eq_true rfl) dX1_tellSort_66 rfl (fun H locs I => ?_)
      refine lv_aload_n hx hb dX1_tellSort_69 rfl (lv_at hl 1 rfl) ?_
      refine lv_dup hx hb dX1_tellSort_70 rfl ?_
      refine gx_C_2 C hK I fl_X1_26 dX1_tellSort_71 ?_
      refine lv_aload_n hx hb dX1_tellSort_74 rfl (lv_at hl 0 rfl) ?_
      refine gxN_S_0 C hK I fl_X1_60 dX1_tellSort_75 ?_
      refine lv_iadd hx hb dX1_tellSort_78 ?_
      refine px_C_2 C hK I fl_X1_26 dX1_tellSort_79 (fun S10 eS10 H locs I => ?_)
      have h := bnd_at eS10 h
      clear eS10
      refine lv_aload_n hx hb dX1_tellSort_82 rfl (lv_at hl 1 rfl) ?_
      refine lv_dup hx hb dX1_tellSort_83 rfl ?_
      refine gx_C_1 C hK I fl_X1_22 dX1_tellSort_84 ?_
      refine lv_iconst (v := 1) hx hb dX1_tellSort_87 (by decide) ?_
      refine lv_iadd hx hb dX1_tellSort_88 ?_
      refine px_C_1 C hK I fl_X1_22 dX1_tellSort_89 (fun S11 eS11 H locs I => ?_)
      have h := bnd_at eS11 h
      clear eS11
      exact rt_v hq h I dX1_tellSort_92
    · have h := ite_t c3 h
      exact rt_v hq h I dX1_tellSort_25
theorem dX1_isTold_0 : decode cX1_isTold 0 = .ok (.aload_n 0, 1) := by decide +kernel
theorem dX1_isTold_1 : decode cX1_isTold 1 = .ok (.getfield 18, 3) := by decide +kernel
theorem dX1_isTold_4 : decode cX1_isTold 4 = .ok (.ireturn, 1) := by decide +kernel
def f_X1_isTold (S : St) (x0 : Fin 6) : Option (Int32 × St) :=
  chk (zb (S.1 (21 + x0.val) 3)) <|
  some ((S.1 (21 + x0.val) 3), S)
set_option maxHeartbeats 4000000 in
set_option maxRecDepth 100000 in
theorem c_X1_isTold {l : Launch} {D : va_G} {cI cC cS : ClassId} {ad adK adV : Nat → Nat} {S S1 : St} {x0 : Fin 6} {r : Int32} (h : f_X1_isTold S x0 = some (r, S1)) : Kt l D (xw cI cC cS ad) (KX D (xtys cI cC cS) adK adV) yX1_isTold cX1_isTold 1 (some .boolean) (0) (0) [.ref (ad (21 + x0.val))] S (some (.int r)) S1 := by
  refine k_entz (by decide +kernel) (Nat.le_of_ble_eq_true rfl) ?_
  intro p e s m args below meth c A Q C hK I hA hq ls hl
  have C : CallFix p m c cX1_isTold 1 s args TT RX1 := C
  have hx := C.1
  have hb := C.2.1
  have kx := kx_ok D (xtys cI cC cS) adK adV
  have hl : lv_has ls 1 [(0, .ref (ad (21 + x0.val)))] := hl
  unfold f_X1_isTold at h
  refine lv_aload_n hx hb dX1_isTold_0 rfl (lv_at hl 0 rfl) ?_
  refine gx_C_3 C hK I fl_X1_18 dX1_isTold_1 ?_
  obtain ⟨hz, h⟩ := chk_ex h
  exact rt_z hz hq h I dX1_isTold_4
theorem dX1_sorts_0 : decode cX1_sorts 0 = .ok (.aload_n 0, 1) := by decide +kernel
theorem dX1_sorts_1 : decode cX1_sorts 1 = .ok (.getfield 22, 3) := by decide +kernel
theorem dX1_sorts_4 : decode cX1_sorts 4 = .ok (.ireturn, 1) := by decide +kernel
def f_X1_sorts (S : St) (x0 : Fin 6) : Option (Int32 × St) :=
  some ((S.1 (21 + x0.val) 1), S)
set_option maxHeartbeats 4000000 in
set_option maxRecDepth 100000 in
theorem c_X1_sorts {l : Launch} {D : va_G} {cI cC cS : ClassId} {ad adK adV : Nat → Nat} {S S1 : St} {x0 : Fin 6} {r : Int32} (h : f_X1_sorts S x0 = some (r, S1)) : Kt l D (xw cI cC cS ad) (KX D (xtys cI cC cS) adK adV) yX1_sorts cX1_sorts 1 (some .int) (0) (0) [.ref (ad (21 + x0.val))] S (some (.int r)) S1 := by
  refine k_ent (ins := .ireturn) (st := [.int r]) (by decide +kernel) (Nat.le_of_ble_eq_true rfl) ret_i ?_
  intro p e s m args below meth c A Q C hK I hA hq ls hl
  have C : CallFix p m c cX1_sorts 1 s args TT RX1 := C
  have hx := C.1
  have hb := C.2.1
  have kx := kx_ok D (xtys cI cC cS) adK adV
  have hl : lv_has ls 1 [(0, .ref (ad (21 + x0.val)))] := hl
  unfold f_X1_sorts at h
  refine lv_aload_n hx hb dX1_sorts_0 rfl (lv_at hl 0 rfl) ?_
  refine gx_C_1 C hK I fl_X1_22 dX1_sorts_1 ?_
  exact rt_i hq h I dX1_sorts_4
theorem dX1_likely_0 : decode cX1_likely 0 = .ok (.aload_n 0, 1) := by decide +kernel
theorem dX1_likely_1 : decode cX1_likely 1 = .ok (.getfield 26, 3) := by decide +kernel
theorem dX1_likely_4 : decode cX1_likely 4 = .ok (.ireturn, 1) := by decide +kernel
def f_X1_likely (S : St) (x0 : Fin 6) : Option (Int32 × St) :=
  some ((S.1 (21 + x0.val) 2), S)
set_option maxHeartbeats 4000000 in
set_option maxRecDepth 100000 in
theorem c_X1_likely {l : Launch} {D : va_G} {cI cC cS : ClassId} {ad adK adV : Nat → Nat} {S S1 : St} {x0 : Fin 6} {r : Int32} (h : f_X1_likely S x0 = some (r, S1)) : Kt l D (xw cI cC cS ad) (KX D (xtys cI cC cS) adK adV) yX1_likely cX1_likely 1 (some .int) (0) (0) [.ref (ad (21 + x0.val))] S (some (.int r)) S1 := by
  refine k_ent (ins := .ireturn) (st := [.int r]) (by decide +kernel) (Nat.le_of_ble_eq_true rfl) ret_i ?_
  intro p e s m args below meth c A Q C hK I hA hq ls hl
  have C : CallFix p m c cX1_likely 1 s args TT RX1 := C
  have hx := C.1
  have hb := C.2.1
  have kx := kx_ok D (xtys cI cC cS) adK adV
  have hl : lv_has ls 1 [(0, .ref (ad (21 + x0.val)))] := hl
  unfold f_X1_likely at h
  refine lv_aload_n hx hb dX1_likely_0 rfl (lv_at hl 0 rfl) ?_
  refine gx_C_2 C hK I fl_X1_26 dX1_likely_1 ?_
  exact rt_i hq h I dX1_likely_4
theorem dX1_sortTold_0 : decode cX1_sortTold 0 = .ok (.iload_n 1, 1) := by decide +kernel
theorem dX1_sortTold_1 : decode cX1_sortTold 1 = .ok (.ifCond .lt 29, 3) := by decide +kernel
theorem dX1_sortTold_4 : decode cX1_sortTold 4 = .ok (.iload_n 1, 1) := by decide +kernel
theorem dX1_sortTold_5 : decode cX1_sortTold 5 = .ok (.aload_n 0, 1) := by decide +kernel
theorem dX1_sortTold_6 : decode cX1_sortTold 6 = .ok (.getfield 22, 3) := by decide +kernel
theorem dX1_sortTold_9 : decode cX1_sortTold 9 = .ok (.if_icmp .ge 21, 3) := by decide +kernel
theorem dX1_sortTold_12 : decode cX1_sortTold 12 = .ok (.iload_n 1, 1) := by decide +kernel
theorem dX1_sortTold_13 : decode cX1_sortTold 13 = .ok (.aload_n 0, 1) := by decide +kernel
theorem dX1_sortTold_14 : decode cX1_sortTold 14 = .ok (.getfield 11, 3) := by decide +kernel
theorem dX1_sortTold_17 : decode cX1_sortTold 17 = .ok (.arraylength, 1) := by decide +kernel
theorem dX1_sortTold_18 : decode cX1_sortTold 18 = .ok (.if_icmp .ge 12, 3) := by decide +kernel
theorem dX1_sortTold_21 : decode cX1_sortTold 21 = .ok (.aload_n 0, 1) := by decide +kernel
theorem dX1_sortTold_22 : decode cX1_sortTold 22 = .ok (.getfield 11, 3) := by decide +kernel
theorem dX1_sortTold_25 : decode cX1_sortTold 25 = .ok (.iload_n 1, 1) := by decide +kernel
theorem dX1_sortTold_26 : decode cX1_sortTold 26 = .ok (.aaload, 1) := by decide +kernel
theorem dX1_sortTold_27 : decode cX1_sortTold 27 = .ok (.goto 4, 3) := by decide +kernel
theorem dX1_sortTold_30 : decode cX1_sortTold 30 = .ok (.aconst_null, 1) := by decide +kernel
theorem dX1_sortTold_31 : decode cX1_sortTold 31 = .ok (.areturn, 1) := by decide +kernel
def f_X1_sortTold_30 (S : St)  : Option (Option (Fin 24) × St) :=
  some (none, S)
def f_X1_sortTold (S : St) (x0 : Fin 6) (x1 : Int32) : Option (Option (Fin 24) × St) :=
  if x1 < 0 then (
    f_X1_sortTold_30 S 
  ) else (
    if (S.1 (21 + x0.val) 1) ≤ x1 then (
      f_X1_sortTold_30 S 
    ) else (
      if 4 ≤ x1 then (
        f_X1_sortTold_30 S 
      ) else (
        obd (finS x0 x1) fun v4 =>
        some ((some v4), S)
      )
    )
  )
set_option maxHeartbeats 4000000 in
set_option maxRecDepth 100000 in
theorem c_X1_sortTold {l : Launch} {D : va_G} {cI cC cS : ClassId} {ad adK adV : Nat → Nat} {S S1 : St} {x0 : Fin 6} {x1 : Int32} {r : Option (Fin 24)} (h : f_X1_sortTold S x0 x1 = some (r, S1)) : Kt l D (xw cI cC cS ad) (KX D (xtys cI cC cS) adK adV) yX1_sortTold cX1_sortTold 2 (some (.object "CarryUp$Sort")) (0) (0) [.ref (ad (21 + x0.val)), .int x1] S (some (rS ad r)) S1 := by
  refine k_ent (ins := .areturn) (st := [rS ad r]) (by decide +kernel) (Nat.le_of_ble_eq_true rfl) (ret_a (r := r.map fun c => ad (33 + c.val))) ?_
  intro p e s m args below meth c A Q C hK I hA hq ls hl
  have C : CallFix p m c cX1_sortTold 2 s args TT RX1 := C
  have hx := C.1
  have hb := C.2.1
  have kx := kx_ok D (xtys cI cC cS) adK adV
  have hl : lv_has ls 2 [(0, .ref (ad (21 + x0.val))), (1, .int x1)] := hl
  have J_30 : ∀ (S : St) , f_X1_sortTold_30  S  = some (r, S1) → ∀ (H : Heap) (locs : List Loc) (ls : Array Slot), Iv D (xw cI cC cS ad) S A s H locs → lv_has ls 2 [] → W p l e ({ frames := 0, cells := 0, slots := 0, locals := 0 } : Room) s m args below meth c H locs 0 0 Q (F0 m 30 ls []) := by
    intro  S  h H locs ls I hl
    unfold f_X1_sortTold_30 at h
    refine lv_null hx hb dX1_sortTold_30 ?_
    exact rt_a (f := rS ad) (v := none) hq h I dX1_sortTold_31
  unfold f_X1_sortTold at h
  refine lv_iload_n hx hb dX1_sortTold_0 rfl (lv_at hl 1 rfl) ?_
  refine lv_if_lt (tgt := 30) hx hb dX1_sortTold_1 (by decide) (fun c1 => ?_) (fun c1 => ?_)
  · have h := ite_t c1 h
    exact J_30 _  h _ _ _ I (lv_sub hl [] rfl)
  · have h := ite_n c1 h
    refine lv_iload_n hx hb dX1_sortTold_4 rfl (lv_at hl 1 rfl) ?_
    refine lv_aload_n hx hb dX1_sortTold_5 rfl (lv_at hl 0 rfl) ?_
    refine gx_C_1 C hK I fl_X1_22 dX1_sortTold_6 ?_
    refine lv_icmp_ge (tgt := 30) hx hb dX1_sortTold_9 (by decide) (fun c2 => ?_) (fun c2 => ?_)
    · have h := ite_t c2 h
      exact J_30 _  h _ _ _ I (lv_sub hl [] rfl)
    · have h := ite_n c2 h
      refine lv_iload_n hx hb dX1_sortTold_12 rfl (lv_at hl 1 rfl) ?_
      refine lv_aload_n hx hb dX1_sortTold_13 rfl (lv_at hl 0 rfl) ?_
      refine gx_C_0 C hK I fl_X1_11 dX1_sortTold_14 ?_
      refine lx_R C hK I dX1_sortTold_17 ?_
      refine lv_icmp_ge (tgt := 30) hx hb dX1_sortTold_18 (by decide) (fun c3 => ?_) (fun c3 => ?_)
      · have h := ite_t c3 h
        exact J_30 _  h _ _ _ I (lv_sub hl [] rfl)
      · have h := ite_n c3 h
        refine lv_aload_n hx hb dX1_sortTold_21 rfl (lv_at hl 0 rfl) ?_
        refine gx_C_0 C hK I fl_X1_11 dX1_sortTold_22 ?_
        refine lv_iload_n hx hb dX1_sortTold_25 rfl (lv_at hl 1 rfl) ?_
        obtain ⟨v4, ev4, h⟩ := obd_ex h
        refine ax_R C hK I ev4 dX1_sortTold_26 ?_
        refine lv_goto (tgt := 31) hx hb dX1_sortTold_27 (by decide) ?_
        exact rt_a (f := rS ad) (v := (some v4)) hq h I dX1_sortTold_31
theorem lk_X1_61 : Cond.methodLink RX1 61 yX1_sortTold ∈ TT := tt_of 728 (by decide +kernel) rfl
theorem mv_X1_sortTold : MV yX1_sortTold cX1_sortTold 2 (some (.object "CarryUp$Sort")) 1 := ⟨tt_of 677 (by decide +kernel) rfl, tt_of 675 (by decide +kernel) rfl, tt_of 676 (by decide +kernel) rfl, tt_of 69 (by decide +kernel) rfl, ⟨by decide +kernel, by decide +kernel, by decide +kernel⟩⟩
theorem fl_X1_65 : Cond.fieldLinkNest RX1 65 RX7 "all" "I" "CarryUp" ∈ NN := nn_of 165 (by decide +kernel) rfl
theorem fl_X1_68 : Cond.fieldLinkNest RX1 68 RX7 "one" "I" "CarryUp" ∈ NN := nn_of 170 (by decide +kernel) rfl
theorem lk_X1_71 : Cond.methodLink RX1 71 yX7_isDone ∈ TT := tt_of 729 (by decide +kernel) rfl
theorem dX1_likelyDone_0 : decode cX1_likelyDone 0 = .ok (.iconst 0, 1) := by decide +kernel
theorem dX1_likelyDone_1 : decode cX1_likelyDone 1 = .ok (.istore_n 2, 1) := by decide +kernel
theorem dX1_likelyDone_2 : decode cX1_likelyDone 2 = .ok (.iconst 0, 1) := by decide +kernel
theorem dX1_likelyDone_3 : decode cX1_likelyDone 3 = .ok (.istore_n 3, 1) := by decide +kernel
theorem dX1_likelyDone_4 : decode cX1_likelyDone 4 = .ok (.iload_n 3, 1) := by decide +kernel
theorem dX1_likelyDone_5 : decode cX1_likelyDone 5 = .ok (.aload_n 0, 1) := by decide +kernel
theorem dX1_likelyDone_6 : decode cX1_likelyDone 6 = .ok (.getfield 22, 3) := by decide +kernel
theorem dX1_likelyDone_9 : decode cX1_likelyDone 9 = .ok (.if_icmp .ge 46, 3) := by decide +kernel
theorem dX1_likelyDone_12 : decode cX1_likelyDone 12 = .ok (.aload_n 0, 1) := by decide +kernel
theorem dX1_likelyDone_13 : decode cX1_likelyDone 13 = .ok (.iload_n 3, 1) := by decide +kernel
theorem dX1_likelyDone_14 : decode cX1_likelyDone 14 = .ok (.invokevirtual 61, 3) := by decide +kernel
theorem dX1_likelyDone_17 : decode cX1_likelyDone 17 = .ok (.astore 4, 2) := by decide +kernel
theorem dX1_likelyDone_19 : decode cX1_likelyDone 19 = .ok (.aload 4, 2) := by decide +kernel
theorem dX1_likelyDone_21 : decode cX1_likelyDone 21 = .ok (.ifnull 28, 3) := by decide +kernel
theorem dX1_likelyDone_24 : decode cX1_likelyDone 24 = .ok (.iload_n 1, 1) := by decide +kernel
theorem dX1_likelyDone_25 : decode cX1_likelyDone 25 = .ok (.aload 4, 2) := by decide +kernel
theorem dX1_likelyDone_27 : decode cX1_likelyDone 27 = .ok (.getfield 65, 3) := by decide +kernel
theorem dX1_likelyDone_30 : decode cX1_likelyDone 30 = .ok (.aload 4, 2) := by decide +kernel
theorem dX1_likelyDone_32 : decode cX1_likelyDone 32 = .ok (.getfield 68, 3) := by decide +kernel
theorem dX1_likelyDone_35 : decode cX1_likelyDone 35 = .ok (.invokestatic 71, 3) := by decide +kernel
theorem dX1_likelyDone_38 : decode cX1_likelyDone 38 = .ok (.ifCond .eq 11, 3) := by decide +kernel
theorem dX1_likelyDone_41 : decode cX1_likelyDone 41 = .ok (.iload_n 2, 1) := by decide +kernel
theorem dX1_likelyDone_42 : decode cX1_likelyDone 42 = .ok (.aload 4, 2) := by decide +kernel
theorem dX1_likelyDone_44 : decode cX1_likelyDone 44 = .ok (.getfield 60, 3) := by decide +kernel
theorem dX1_likelyDone_47 : decode cX1_likelyDone 47 = .ok (.iadd, 1) := by decide +kernel
theorem dX1_likelyDone_48 : decode cX1_likelyDone 48 = .ok (.istore_n 2, 1) := by decide +kernel
theorem dX1_likelyDone_49 : decode cX1_likelyDone 49 = .ok (.iinc 3 1, 3) := by decide +kernel
theorem dX1_likelyDone_52 : decode cX1_likelyDone 52 = .ok (.goto (-48), 3) := by decide +kernel
theorem dX1_likelyDone_55 : decode cX1_likelyDone 55 = .ok (.iload_n 2, 1) := by decide +kernel
theorem dX1_likelyDone_56 : decode cX1_likelyDone 56 = .ok (.ireturn, 1) := by decide +kernel
def f_X1_likelyDone_49 (k_4 : St → Fin 6 → Int32 → Int32 → Int32 → Option (Int32 × St)) (S : St) (x0 : Fin 6) (x1 : Int32) (x2 : Int32) (x3 : Int32) : Option (Int32 × St) :=
  bnd (x3 + 1 : Int32) fun v1 =>
  k_4 S x0 x1 x2 v1
def f_X1_likelyDone_4 (k_4 : St → Fin 6 → Int32 → Int32 → Int32 → Option (Int32 × St)) (S : St) (x0 : Fin 6) (x1 : Int32) (x2 : Int32) (x3 : Int32) : Option (Int32 × St) :=
  if (S.1 (21 + x0.val) 1) ≤ x3 then (
    some (x2, S)
  ) else (
    obd2 (f_X1_sortTold S x0 x3) fun r3 S3 =>
    oel r3 (
      f_X1_likelyDone_49 k_4 S3 x0 x1 x2 x3
    ) fun v4 =>
      obd2 (f_X7_isDone S3 x1 (S3.1 (33 + v4.val) 2) (S3.1 (33 + v4.val) 3)) fun r5 S5 =>
      if r5 = 0 then (
        f_X1_likelyDone_49 k_4 S5 x0 x1 x2 x3
      ) else (
        bnd ((x2 + (S5.1 (33 + v4.val) 0)) : Int32) fun v7 =>
        f_X1_likelyDone_49 k_4 S5 x0 x1 v7 x3
      )
  )
def l_X1_likelyDone_4 : Nat → St → Fin 6 → Int32 → Int32 → Int32 → Option (Int32 × St)
  | 0, _, _, _, _, _ => none
  | fu + 1, S, x0, x1, x2, x3 => f_X1_likelyDone_4 (l_X1_likelyDone_4 fu) S x0 x1 x2 x3
def f_X1_likelyDone (S : St) (x0 : Fin 6) (x1 : Int32) : Option (Int32 × St) :=
  l_X1_likelyDone_4 FU S x0 x1 0 0
set_option maxHeartbeats 4000000 in
set_option maxRecDepth 100000 in
theorem c_X1_likelyDone {l : Launch} {D : va_G} {cI cC cS : ClassId} {ad adK adV : Nat → Nat} {S S1 : St} {x0 : Fin 6} {x1 : Int32} {r : Int32} (h : f_X1_likelyDone S x0 x1 = some (r, S1)) : Kt l D (xw cI cC cS ad) (KX D (xtys cI cC cS) adK adV) yX1_likelyDone cX1_likelyDone 5 (some .int) (1) (22) [.ref (ad (21 + x0.val)), .int x1] S (some (.int r)) S1 := by
  refine k_ent (ins := .ireturn) (st := [.int r]) (by decide +kernel) (Nat.le_of_ble_eq_true rfl) ret_i ?_
  intro p e s m args below meth c A Q C hK I hA hq ls hl
  have C : CallFix p m c cX1_likelyDone 5 s args TT RX1 := C
  have hx := C.1
  have hb := C.2.1
  have kx := kx_ok D (xtys cI cC cS) adK adV
  have hl : lv_has ls 5 [(0, .ref (ad (21 + x0.val))), (1, .int x1)] := hl
  have J_49 : ∀ (k_4 : St → Fin 6 → Int32 → Int32 → Int32 → Option (Int32 × St)) (hk_4 : ∀ (S : St) (x0 : Fin 6) (x1 : Int32) (x2 : Int32) (x3 : Int32), k_4 S x0 x1 x2 x3 = some (r, S1) → ∀ (H : Heap) (locs : List Loc) (ls : Array Slot), Iv D (xw cI cC cS ad) S A s H locs → lv_has ls 5 [(0, .ref (ad (21 + x0.val))), (1, .int x1), (2, .int x2), (3, .int x3)] → W p l e ({ frames := 1, cells := 0, slots := 0, locals := 22 } : Room) s m args below meth c H locs 0 0 Q (F0 m 4 ls [])) (S : St) (x0 : Fin 6) (x1 : Int32) (x2 : Int32) (x3 : Int32), f_X1_likelyDone_49 k_4 S x0 x1 x2 x3 = some (r, S1) → ∀ (H : Heap) (locs : List Loc) (ls : Array Slot), Iv D (xw cI cC cS ad) S A s H locs → lv_has ls 5 [(0, .ref (ad (21 + x0.val))), (1, .int x1), (2, .int x2), (3, .int x3)] → W p l e ({ frames := 1, cells := 0, slots := 0, locals := 22 } : Room) s m args below meth c H locs 0 0 Q (F0 m 49 ls []) := by
    intro k_4 hk_4 S x0 x1 x2 x3 h H locs ls I hl
    unfold f_X1_likelyDone_49 at h
    obtain ⟨v1, ev1⟩ : ∃ y : Int32, y = x3 + 1 := ⟨_, rfl⟩
    have h := bnd_at ev1 h
    refine lv_iinc (v := v1) (lv' := [(3, .int v1), (0, .ref (ad (21 + x0.val))), (1, .int x1), (2, .int x2)]) hx hb dX1_likelyDone_49 hl (k := 3) rfl (by rw [ev1]; rfl) (by decide) rfl (fun ls hl => ?_)
    clear ev1
    refine lv_goto (tgt := 4) hx hb dX1_likelyDone_52 (by decide) ?_
    exact hk_4 _ _ _ _ _ h _ _ _ I (lv_sub hl [1, 2, 3, 0] rfl)
  have B_4 : ∀ (k_4 : St → Fin 6 → Int32 → Int32 → Int32 → Option (Int32 × St)) (hk_4 : ∀ (S : St) (x0 : Fin 6) (x1 : Int32) (x2 : Int32) (x3 : Int32), k_4 S x0 x1 x2 x3 = some (r, S1) → ∀ (H : Heap) (locs : List Loc) (ls : Array Slot), Iv D (xw cI cC cS ad) S A s H locs → lv_has ls 5 [(0, .ref (ad (21 + x0.val))), (1, .int x1), (2, .int x2), (3, .int x3)] → W p l e ({ frames := 1, cells := 0, slots := 0, locals := 22 } : Room) s m args below meth c H locs 0 0 Q (F0 m 4 ls [])) (S : St) (x0 : Fin 6) (x1 : Int32) (x2 : Int32) (x3 : Int32), f_X1_likelyDone_4 k_4 S x0 x1 x2 x3 = some (r, S1) → ∀ (H : Heap) (locs : List Loc) (ls : Array Slot), Iv D (xw cI cC cS ad) S A s H locs → lv_has ls 5 [(0, .ref (ad (21 + x0.val))), (1, .int x1), (2, .int x2), (3, .int x3)] → W p l e ({ frames := 1, cells := 0, slots := 0, locals := 22 } : Room) s m args below meth c H locs 0 0 Q (F0 m 4 ls []) := by
    intro k_4 hk_4 S x0 x1 x2 x3 h H locs ls I hl
    unfold f_X1_likelyDone_4 at h
    refine lv_iload_n hx hb dX1_likelyDone_4 rfl (lv_at hl 3 rfl) ?_
    refine lv_aload_n hx hb dX1_likelyDone_5 rfl (lv_at hl 0 rfl) ?_
    refine gx_C_1 C hK I fl_X1_22 dX1_likelyDone_6 ?_
    refine lv_icmp_ge (tgt := 55) hx hb dX1_likelyDone_9 (by decide) (fun c2 => ?_) (fun c2 => ?_)
    · have h := ite_t c2 h
      refine lv_iload_n hx hb dX1_likelyDone_55 rfl (lv_at hl 2 rfl) ?_
      exact rt_i hq h I dX1_likelyDone_56
    · have h := ite_n c2 h
      refine lv_aload_n hx hb dX1_likelyDone_12 rfl (lv_at hl 0 rfl) ?_
      refine lv_iload_n hx hb dX1_likelyDone_13 rfl (lv_at hl 3 rfl) ?_
      obtain ⟨r3, S3, e3, h⟩ := obd2_ex h
      refine k_V (As := [.int x3]) (rest := []) (st1 := [rS ad r3]) C kx hK I hA (c_X1_sortTold e3) ⟨Nat.le_of_ble_eq_true rfl, Nat.le_of_ble_eq_true rfl⟩ mv_X1_sortTold lk_X1_61 (21 + x0.val) 1 (xw_C (cI := cI) (cC := cC) (cS := cS) (ad := ad) x0) rfl rfl hl.1 rfl (Nat.le_of_ble_eq_true rfl) dX1_likelyDone_14 rfl (fun H locs I => ?_)
      refine k_astore _ (lv' := [(4, rS ad r3), (0, .ref (ad (21 + x0.val))), (1, .int x1), (2, .int x2), (3, .int x3)]) hx hb dX1_likelyDone_17 rfl hl (by decide) rfl (fun ls hl => ?_)
      refine k_aload _ hx hb dX1_likelyDone_19 rfl (lv_at hl 0 rfl) ?_
      refine k_ifn hx hb dX1_likelyDone_21 (tgt := 49) (by decide) (fun ho => ?_) (fun v4 ho => ?_)
      · subst ho
        have h := oel_n h
        have hl : lv_has ls 5 [(4, .null), (0, .ref (ad (21 + x0.val))), (1, .int x1), (2, .int x2), (3, .int x3)] := hl
        exact J_49 k_4 hk_4 _ _ _ _ _ h _ _ _ I (lv_sub hl [1, 2, 3, 4] rfl)
      · subst ho
        have h := oel_s h
        have hl : lv_has ls 5 [(4, .ref (ad (33 + v4.val))), (0, .ref (ad (21 + x0.val))), (1, .int x1), (2, .int x2), (3, .int x3)] := hl
        refine lv_iload_n hx hb dX1_likelyDone_24 rfl (lv_at hl 2 rfl) ?_
        refine lv_aload hx hb dX1_likelyDone_25 (lv_at hl 0 rfl) ?_
        refine gxN_S_2 C hK I fl_X1_65 dX1_likelyDone_27 ?_
        refine lv_aload hx hb dX1_likelyDone_30 (lv_at hl 0 rfl) ?_
        refine gxN_S_3 C hK I fl_X1_68 dX1_likelyDone_32 ?_
        obtain ⟨r5, S5, e5, h⟩ := obd2_ex h
        refine k_S (As := [.int x1, .int (S3.1 (33 + v4.val) 2), .int (S3.1 (33 + v4.val) 3)]) (rest := []) (st1 := [.int r5]) C kx hK I hA (c_X7_isDone e5) ⟨Nat.le_of_ble_eq_true rfl, Nat.le_of_ble_eq_true rfl⟩ ms_X7_isDone lk_X1_71 rfl hl.1 rfl (Nat.le_of_ble_eq_true rfl) dX1_likelyDone_35 rfl (fun H locs I => ?_)
        refine lv_if_eq (tgt := 49) hx hb dX1_likelyDone_38 (by decide) (fun c6 => ?_) (fun c6 => ?_)
        · have h := ite_t c6 h
          exact J_49 k_4 hk_4 _ _ _ _ _ h _ _ _ I (lv_sub hl [1, 2, 3, 4] rfl)
        · have h := ite_n c6 h
          refine lv_iload_n hx hb dX1_likelyDone_41 rfl (lv_at hl 3 rfl) ?_
          refine lv_aload hx hb dX1_likelyDone_42 (lv_at hl 0 rfl) ?_
          refine gxN_S_0 C hK I fl_X1_60 dX1_likelyDone_44 ?_
          refine lv_iadd hx hb dX1_likelyDone_47 ?_
          refine lv_topi (fun v7 ev7 => ?_)
          have h := bnd_at ev7 h
          clear ev7
          refine lv_istore_n (lv' := [(2, .int v7), (4, .ref (ad (33 + v4.val))), (0, .ref (ad (21 + x0.val))), (1, .int x1), (3, .int x3)]) hx hb dX1_likelyDone_48 rfl hl (by decide) rfl (fun ls hl => ?_)
          exact J_49 k_4 hk_4 _ _ _ _ _ h _ _ _ I (lv_sub hl [2, 3, 0, 4] rfl)
  have J_4 : ∀ (fu : Nat) (S : St) (x0 : Fin 6) (x1 : Int32) (x2 : Int32) (x3 : Int32), l_X1_likelyDone_4  fu S x0 x1 x2 x3 = some (r, S1) → ∀ (H : Heap) (locs : List Loc) (ls : Array Slot), Iv D (xw cI cC cS ad) S A s H locs → lv_has ls 5 [(0, .ref (ad (21 + x0.val))), (1, .int x1), (2, .int x2), (3, .int x3)] → W p l e ({ frames := 1, cells := 0, slots := 0, locals := 22 } : Room) s m args below meth c H locs 0 0 Q (F0 m 4 ls []) := by
    intro fu
    induction fu with
    | zero => intro S x0 x1 x2 x3 h; cases h
    | succ fu ih => intro S x0 x1 x2 x3 h; exact B_4 (l_X1_likelyDone_4 fu) ih S x0 x1 x2 x3 h
  unfold f_X1_likelyDone at h
  refine lv_iconst (v := 0) hx hb dX1_likelyDone_0 (by decide) ?_
  refine lv_istore_n (lv' := [(2, .int 0), (0, .ref (ad (21 + x0.val))), (1, .int x1)]) hx hb dX1_likelyDone_1 rfl hl (by decide) rfl (fun ls hl => ?_)
  refine lv_iconst (v := 0) hx hb dX1_likelyDone_2 (by decide) ?_
  refine lv_istore_n (lv' := [(3, .int 0), (2, .int 0), (0, .ref (ad (21 + x0.val))), (1, .int x1)]) hx hb dX1_likelyDone_3 rfl hl (by decide) rfl (fun ls hl => ?_)
  exact J_4 _ _ _ _ _ _ h _ _ _ I (lv_sub hl [2, 3, 1, 0] rfl)
theorem lk_X1_74 : Cond.methodLink RX1 74 yX7_wanted ∈ TT := tt_of 863 (by decide +kernel) rfl
theorem mv_X7_wanted : MV yX7_wanted cX7_wanted 1 (some .int) 0 := ⟨tt_of 866 (by decide +kernel) rfl, tt_of 864 (by decide +kernel) rfl, tt_of 865 (by decide +kernel) rfl, tt_of 70 (by decide +kernel) rfl, ⟨by decide +kernel, by decide +kernel, by decide +kernel⟩⟩
theorem dX1_wanted_0 : decode cX1_wanted 0 = .ok (.iconst 0, 1) := by decide +kernel
theorem dX1_wanted_1 : decode cX1_wanted 1 = .ok (.istore_n 1, 1) := by decide +kernel
theorem dX1_wanted_2 : decode cX1_wanted 2 = .ok (.iconst 0, 1) := by decide +kernel
theorem dX1_wanted_3 : decode cX1_wanted 3 = .ok (.istore_n 2, 1) := by decide +kernel
theorem dX1_wanted_4 : decode cX1_wanted 4 = .ok (.iload_n 2, 1) := by decide +kernel
theorem dX1_wanted_5 : decode cX1_wanted 5 = .ok (.aload_n 0, 1) := by decide +kernel
theorem dX1_wanted_6 : decode cX1_wanted 6 = .ok (.getfield 22, 3) := by decide +kernel
theorem dX1_wanted_9 : decode cX1_wanted 9 = .ok (.if_icmp .ge 26, 3) := by decide +kernel
theorem dX1_wanted_12 : decode cX1_wanted 12 = .ok (.aload_n 0, 1) := by decide +kernel
theorem dX1_wanted_13 : decode cX1_wanted 13 = .ok (.iload_n 2, 1) := by decide +kernel
theorem dX1_wanted_14 : decode cX1_wanted 14 = .ok (.invokevirtual 61, 3) := by decide +kernel
theorem dX1_wanted_17 : decode cX1_wanted 17 = .ok (.astore_n 3, 1) := by decide +kernel
theorem dX1_wanted_18 : decode cX1_wanted 18 = .ok (.aload_n 3, 1) := by decide +kernel
theorem dX1_wanted_19 : decode cX1_wanted 19 = .ok (.ifnull 10, 3) := by decide +kernel
theorem dX1_wanted_22 : decode cX1_wanted 22 = .ok (.iload_n 1, 1) := by decide +kernel
theorem dX1_wanted_23 : decode cX1_wanted 23 = .ok (.aload_n 3, 1) := by decide +kernel
theorem dX1_wanted_24 : decode cX1_wanted 24 = .ok (.invokevirtual 74, 3) := by decide +kernel
theorem dX1_wanted_27 : decode cX1_wanted 27 = .ok (.ior, 1) := by decide +kernel
theorem dX1_wanted_28 : decode cX1_wanted 28 = .ok (.istore_n 1, 1) := by decide +kernel
theorem dX1_wanted_29 : decode cX1_wanted 29 = .ok (.iinc 2 1, 3) := by decide +kernel
theorem dX1_wanted_32 : decode cX1_wanted 32 = .ok (.goto (-28), 3) := by decide +kernel
theorem dX1_wanted_35 : decode cX1_wanted 35 = .ok (.iload_n 1, 1) := by decide +kernel
theorem dX1_wanted_36 : decode cX1_wanted 36 = .ok (.ireturn, 1) := by decide +kernel
def f_X1_wanted_29 (k_4 : St → Fin 6 → Int32 → Int32 → Option (Int32 × St)) (S : St) (x0 : Fin 6) (x1 : Int32) (x2 : Int32) : Option (Int32 × St) :=
  bnd (x2 + 1 : Int32) fun v1 =>
  k_4 S x0 x1 v1
def f_X1_wanted_4 (k_4 : St → Fin 6 → Int32 → Int32 → Option (Int32 × St)) (S : St) (x0 : Fin 6) (x1 : Int32) (x2 : Int32) : Option (Int32 × St) :=
  if (S.1 (21 + x0.val) 1) ≤ x2 then (
    some (x1, S)
  ) else (
    obd2 (f_X1_sortTold S x0 x2) fun r3 S3 =>
    oel r3 (
      f_X1_wanted_29 k_4 S3 x0 x1 x2
    ) fun v4 =>
      obd2 (f_X7_wanted S3 v4) fun r5 S5 =>
      bnd ((x1 ||| r5) : Int32) fun v6 =>
      f_X1_wanted_29 k_4 S5 x0 v6 x2
  )
def l_X1_wanted_4 : Nat → St → Fin 6 → Int32 → Int32 → Option (Int32 × St)
  | 0, _, _, _, _ => none
  | fu + 1, S, x0, x1, x2 => f_X1_wanted_4 (l_X1_wanted_4 fu) S x0 x1 x2
def f_X1_wanted (S : St) (x0 : Fin 6) : Option (Int32 × St) :=
  l_X1_wanted_4 FU S x0 0 0
set_option maxHeartbeats 4000000 in
set_option maxRecDepth 100000 in
theorem c_X1_wanted {l : Launch} {D : va_G} {cI cC cS : ClassId} {ad adK adV : Nat → Nat} {S S1 : St} {x0 : Fin 6} {r : Int32} (h : f_X1_wanted S x0 = some (r, S1)) : Kt l D (xw cI cC cS ad) (KX D (xtys cI cC cS) adK adV) yX1_wanted cX1_wanted 4 (some .int) (1) (21) [.ref (ad (21 + x0.val))] S (some (.int r)) S1 := by
  refine k_ent (ins := .ireturn) (st := [.int r]) (by decide +kernel) (Nat.le_of_ble_eq_true rfl) ret_i ?_
  intro p e s m args below meth c A Q C hK I hA hq ls hl
  have C : CallFix p m c cX1_wanted 4 s args TT RX1 := C
  have hx := C.1
  have hb := C.2.1
  have kx := kx_ok D (xtys cI cC cS) adK adV
  have hl : lv_has ls 4 [(0, .ref (ad (21 + x0.val)))] := hl
  have J_29 : ∀ (k_4 : St → Fin 6 → Int32 → Int32 → Option (Int32 × St)) (hk_4 : ∀ (S : St) (x0 : Fin 6) (x1 : Int32) (x2 : Int32), k_4 S x0 x1 x2 = some (r, S1) → ∀ (H : Heap) (locs : List Loc) (ls : Array Slot), Iv D (xw cI cC cS ad) S A s H locs → lv_has ls 4 [(0, .ref (ad (21 + x0.val))), (1, .int x1), (2, .int x2)] → W p l e ({ frames := 1, cells := 0, slots := 0, locals := 21 } : Room) s m args below meth c H locs 0 0 Q (F0 m 4 ls [])) (S : St) (x0 : Fin 6) (x1 : Int32) (x2 : Int32), f_X1_wanted_29 k_4 S x0 x1 x2 = some (r, S1) → ∀ (H : Heap) (locs : List Loc) (ls : Array Slot), Iv D (xw cI cC cS ad) S A s H locs → lv_has ls 4 [(0, .ref (ad (21 + x0.val))), (1, .int x1), (2, .int x2)] → W p l e ({ frames := 1, cells := 0, slots := 0, locals := 21 } : Room) s m args below meth c H locs 0 0 Q (F0 m 29 ls []) := by
    intro k_4 hk_4 S x0 x1 x2 h H locs ls I hl
    unfold f_X1_wanted_29 at h
    obtain ⟨v1, ev1⟩ : ∃ y : Int32, y = x2 + 1 := ⟨_, rfl⟩
    have h := bnd_at ev1 h
    refine lv_iinc (v := v1) (lv' := [(2, .int v1), (0, .ref (ad (21 + x0.val))), (1, .int x1)]) hx hb dX1_wanted_29 hl (k := 2) rfl (by rw [ev1]; rfl) (by decide) rfl (fun ls hl => ?_)
    clear ev1
    refine lv_goto (tgt := 4) hx hb dX1_wanted_32 (by decide) ?_
    exact hk_4 _ _ _ _ h _ _ _ I (lv_sub hl [1, 2, 0] rfl)
  have B_4 : ∀ (k_4 : St → Fin 6 → Int32 → Int32 → Option (Int32 × St)) (hk_4 : ∀ (S : St) (x0 : Fin 6) (x1 : Int32) (x2 : Int32), k_4 S x0 x1 x2 = some (r, S1) → ∀ (H : Heap) (locs : List Loc) (ls : Array Slot), Iv D (xw cI cC cS ad) S A s H locs → lv_has ls 4 [(0, .ref (ad (21 + x0.val))), (1, .int x1), (2, .int x2)] → W p l e ({ frames := 1, cells := 0, slots := 0, locals := 21 } : Room) s m args below meth c H locs 0 0 Q (F0 m 4 ls [])) (S : St) (x0 : Fin 6) (x1 : Int32) (x2 : Int32), f_X1_wanted_4 k_4 S x0 x1 x2 = some (r, S1) → ∀ (H : Heap) (locs : List Loc) (ls : Array Slot), Iv D (xw cI cC cS ad) S A s H locs → lv_has ls 4 [(0, .ref (ad (21 + x0.val))), (1, .int x1), (2, .int x2)] → W p l e ({ frames := 1, cells := 0, slots := 0, locals := 21 } : Room) s m args below meth c H locs 0 0 Q (F0 m 4 ls []) := by
    intro k_4 hk_4 S x0 x1 x2 h H locs ls I hl
    unfold f_X1_wanted_4 at h
    refine lv_iload_n hx hb dX1_wanted_4 rfl (lv_at hl 2 rfl) ?_
    refine lv_aload_n hx hb dX1_wanted_5 rfl (lv_at hl 0 rfl) ?_
    refine gx_C_1 C hK I fl_X1_22 dX1_wanted_6 ?_
    refine lv_icmp_ge (tgt := 35) hx hb dX1_wanted_9 (by decide) (fun c2 => ?_) (fun c2 => ?_)
    · have h := ite_t c2 h
      refine lv_iload_n hx hb dX1_wanted_35 rfl (lv_at hl 1 rfl) ?_
      exact rt_i hq h I dX1_wanted_36
    · have h := ite_n c2 h
      refine lv_aload_n hx hb dX1_wanted_12 rfl (lv_at hl 0 rfl) ?_
      refine lv_iload_n hx hb dX1_wanted_13 rfl (lv_at hl 2 rfl) ?_
      obtain ⟨r3, S3, e3, h⟩ := obd2_ex h
      refine k_V (As := [.int x2]) (rest := []) (st1 := [rS ad r3]) C kx hK I hA (c_X1_sortTold e3) ⟨Nat.le_of_ble_eq_true rfl, Nat.le_of_ble_eq_true rfl⟩ mv_X1_sortTold lk_X1_61 (21 + x0.val) 1 (xw_C (cI := cI) (cC := cC) (cS := cS) (ad := ad) x0) rfl rfl hl.1 rfl (Nat.le_of_ble_eq_true rfl) dX1_wanted_14 rfl (fun H locs I => ?_)
      refine k_astore_n _ (lv' := [(3, rS ad r3), (0, .ref (ad (21 + x0.val))), (1, .int x1), (2, .int x2)]) hx hb dX1_wanted_17 rfl rfl hl (by decide) rfl (fun ls hl => ?_)
      refine k_aload_n _ hx hb dX1_wanted_18 rfl rfl (lv_at hl 0 rfl) ?_
      refine k_ifn hx hb dX1_wanted_19 (tgt := 29) (by decide) (fun ho => ?_) (fun v4 ho => ?_)
      · subst ho
        have h := oel_n h
        have hl : lv_has ls 4 [(3, .null), (0, .ref (ad (21 + x0.val))), (1, .int x1), (2, .int x2)] := hl
        exact J_29 k_4 hk_4 _ _ _ _ h _ _ _ I (lv_sub hl [1, 2, 3] rfl)
      · subst ho
        have h := oel_s h
        have hl : lv_has ls 4 [(3, .ref (ad (33 + v4.val))), (0, .ref (ad (21 + x0.val))), (1, .int x1), (2, .int x2)] := hl
        refine lv_iload_n hx hb dX1_wanted_22 rfl (lv_at hl 2 rfl) ?_
        refine lv_aload_n hx hb dX1_wanted_23 rfl (lv_at hl 0 rfl) ?_
        obtain ⟨r5, S5, e5, h⟩ := obd2_ex h
        refine k_V (As := []) (rest := [.int x1]) (st1 := [.int r5, .int x1]) C kx hK I hA (c_X7_wanted e5) ⟨Nat.le_of_ble_eq_true rfl, Nat.le_of_ble_eq_true rfl⟩ mv_X7_wanted lk_X1_74 (33 + v4.val) 7 (xw_S (cI := cI) (cC := cC) (cS := cS) (ad := ad) v4) rfl rfl hl.1 rfl (Nat.le_of_ble_eq_true rfl) dX1_wanted_24 rfl (fun H locs I => ?_)
        refine lv_ior hx hb dX1_wanted_27 ?_
        refine lv_topi (fun v6 ev6 => ?_)
        have h := bnd_at ev6 h
        clear ev6
        refine lv_istore_n (lv' := [(1, .int v6), (3, .ref (ad (33 + v4.val))), (0, .ref (ad (21 + x0.val))), (2, .int x2)]) hx hb dX1_wanted_28 rfl hl (by decide) rfl (fun ls hl => ?_)
        exact J_29 k_4 hk_4 _ _ _ _ h _ _ _ I (lv_sub hl [2, 0, 3] rfl)
  have J_4 : ∀ (fu : Nat) (S : St) (x0 : Fin 6) (x1 : Int32) (x2 : Int32), l_X1_wanted_4  fu S x0 x1 x2 = some (r, S1) → ∀ (H : Heap) (locs : List Loc) (ls : Array Slot), Iv D (xw cI cC cS ad) S A s H locs → lv_has ls 4 [(0, .ref (ad (21 + x0.val))), (1, .int x1), (2, .int x2)] → W p l e ({ frames := 1, cells := 0, slots := 0, locals := 21 } : Room) s m args below meth c H locs 0 0 Q (F0 m 4 ls []) := by
    intro fu
    induction fu with
    | zero => intro S x0 x1 x2 h; cases h
    | succ fu ih => intro S x0 x1 x2 h; exact B_4 (l_X1_wanted_4 fu) ih S x0 x1 x2 h
  unfold f_X1_wanted at h
  refine lv_iconst (v := 0) hx hb dX1_wanted_0 (by decide) ?_
  refine lv_istore_n (lv' := [(1, .int 0), (0, .ref (ad (21 + x0.val)))]) hx hb dX1_wanted_1 rfl hl (by decide) rfl (fun ls hl => ?_)
  refine lv_iconst (v := 0) hx hb dX1_wanted_2 (by decide) ?_
  refine lv_istore_n (lv' := [(2, .int 0), (1, .int 0), (0, .ref (ad (21 + x0.val)))]) hx hb dX1_wanted_3 rfl hl (by decide) rfl (fun ls hl => ?_)
  exact J_4 _ _ _ _ _ h _ _ _ I (lv_sub hl [2, 1, 0] rfl)
theorem dX1_lateAt_0 : decode cX1_lateAt 0 = .ok (.iload_n 1, 1) := by decide +kernel
theorem dX1_lateAt_1 : decode cX1_lateAt 1 = .ok (.aload_n 0, 1) := by decide +kernel
theorem dX1_lateAt_2 : decode cX1_lateAt 2 = .ok (.getfield 40, 3) := by decide +kernel
theorem dX1_lateAt_5 : decode cX1_lateAt 5 = .ok (.if_icmp .le 7, 3) := by decide +kernel
theorem dX1_lateAt_8 : decode cX1_lateAt 8 = .ok (.iconst 1, 1) := by decide +kernel
theorem dX1_lateAt_9 : decode cX1_lateAt 9 = .ok (.goto 4, 3) := by decide +kernel
theorem dX1_lateAt_12 : decode cX1_lateAt 12 = .ok (.iconst 0, 1) := by decide +kernel
theorem dX1_lateAt_13 : decode cX1_lateAt 13 = .ok (.ireturn, 1) := by decide +kernel
def f_X1_lateAt (S : St) (x0 : Fin 6) (x1 : Int32) : Option (Int32 × St) :=
  if x1 ≤ (S.1 (21 + x0.val) 6) then (
    some (0, S)
  ) else (
    some (1, S)
  )
set_option maxHeartbeats 4000000 in
set_option maxRecDepth 100000 in
theorem c_X1_lateAt {l : Launch} {D : va_G} {cI cC cS : ClassId} {ad adK adV : Nat → Nat} {S S1 : St} {x0 : Fin 6} {x1 : Int32} {r : Int32} (h : f_X1_lateAt S x0 x1 = some (r, S1)) : Kt l D (xw cI cC cS ad) (KX D (xtys cI cC cS) adK adV) yX1_lateAt cX1_lateAt 2 (some .boolean) (0) (0) [.ref (ad (21 + x0.val)), .int x1] S (some (.int r)) S1 := by
  refine k_entz (by decide +kernel) (Nat.le_of_ble_eq_true rfl) ?_
  intro p e s m args below meth c A Q C hK I hA hq ls hl
  have C : CallFix p m c cX1_lateAt 2 s args TT RX1 := C
  have hx := C.1
  have hb := C.2.1
  have kx := kx_ok D (xtys cI cC cS) adK adV
  have hl : lv_has ls 2 [(0, .ref (ad (21 + x0.val))), (1, .int x1)] := hl
  unfold f_X1_lateAt at h
  refine lv_iload_n hx hb dX1_lateAt_0 rfl (lv_at hl 1 rfl) ?_
  refine lv_aload_n hx hb dX1_lateAt_1 rfl (lv_at hl 0 rfl) ?_
  refine gx_C_6 C hK I fl_X1_40 dX1_lateAt_2 ?_
  refine lv_icmp_le (tgt := 12) hx hb dX1_lateAt_5 (by decide) (fun c1 => ?_) (fun c1 => ?_)
  · have h := ite_t c1 h
    refine lv_iconst (v := 0) hx hb dX1_lateAt_12 (by decide) ?_
    exact rt_z (Or.inl rfl) hq h I dX1_lateAt_13
  · have h := ite_n c1 h
    refine lv_iconst (v := 1) hx hb dX1_lateAt_8 (by decide) ?_
    refine lv_goto (tgt := 13) hx hb dX1_lateAt_9 (by decide) ?_
    exact rt_z (Or.inr rfl) hq h I dX1_lateAt_13
theorem lk_X1_78 : Cond.methodLink RX1 78 yJ9_max_7cf53 ∈ TT := tt_of 813 (by decide +kernel) rfl
theorem ms_J9_max_7cf53 : MS yJ9_max_7cf53 cJ9_max_7cf53 2 (some .int) 2 := ⟨tt_of 799 (by decide +kernel) rfl, tt_of 798 (by decide +kernel) rfl, tt_of 77 (by decide +kernel) rfl, ⟨by decide +kernel, by decide +kernel, by decide +kernel⟩⟩
theorem dX1_startedAt_0 : decode cX1_startedAt 0 = .ok (.iload_n 1, 1) := by decide +kernel
theorem dX1_startedAt_1 : decode cX1_startedAt 1 = .ok (.aload_n 0, 1) := by decide +kernel
theorem dX1_startedAt_2 : decode cX1_startedAt 2 = .ok (.getfield 37, 3) := by decide +kernel
theorem dX1_startedAt_5 : decode cX1_startedAt 5 = .ok (.invokestatic 78, 3) := by decide +kernel
theorem dX1_startedAt_8 : decode cX1_startedAt 8 = .ok (.ireturn, 1) := by decide +kernel
def f_X1_startedAt (S : St) (x0 : Fin 6) (x1 : Int32) : Option (Int32 × St) :=
  bnd (if x1 < (S.1 (21 + x0.val) 5) then (S.1 (21 + x0.val) 5) else x1 : Int32) fun v1 =>
  some (v1, S)
set_option maxHeartbeats 4000000 in
set_option maxRecDepth 100000 in
theorem c_X1_startedAt {l : Launch} {D : va_G} {cI cC cS : ClassId} {ad adK adV : Nat → Nat} {S S1 : St} {x0 : Fin 6} {x1 : Int32} {r : Int32} (h : f_X1_startedAt S x0 x1 = some (r, S1)) : Kt l D (xw cI cC cS ad) (KX D (xtys cI cC cS) adK adV) yX1_startedAt cX1_startedAt 2 (some .int) (1) (23) [.ref (ad (21 + x0.val)), .int x1] S (some (.int r)) S1 := by
  refine k_ent (ins := .ireturn) (st := [.int r]) (by decide +kernel) (Nat.le_of_ble_eq_true rfl) ret_i ?_
  intro p e s m args below meth c A Q C hK I hA hq ls hl
  have C : CallFix p m c cX1_startedAt 2 s args TT RX1 := C
  have hx := C.1
  have hb := C.2.1
  have kx := kx_ok D (xtys cI cC cS) adK adV
  have hl : lv_has ls 2 [(0, .ref (ad (21 + x0.val))), (1, .int x1)] := hl
  unfold f_X1_startedAt at h
  refine lv_iload_n hx hb dX1_startedAt_0 rfl (lv_at hl 1 rfl) ?_
  refine lv_aload_n hx hb dX1_startedAt_1 rfl (lv_at hl 0 rfl) ?_
  refine gx_C_5 C hK I fl_X1_37 dX1_startedAt_2 ?_
  refine va_mmax (rest := []) hx hb (C.2.2.1.trans hl.1.symm) C.2.2.2.1 (C.2.2.2.2 _ lk_X1_78) (C.2.2.2.2 _ ms_J9_max_7cf53.2.1) (C.2.2.2.2 _ ms_J9_max_7cf53.2.2.1) (C.2.2.2.2 _ ms_J9_max_7cf53.1) (Nat.le_of_ble_eq_true rfl) (Nat.le_of_ble_eq_true rfl) (Nat.zero_le _) (Nat.zero_le _) dX1_startedAt_5 ?_
  refine lv_topi (fun v1 ev1 => ?_)
  have h := bnd_at ev1 h
  clear ev1
  exact rt_i hq h I dX1_startedAt_8
theorem dX1_drawn_0 : decode cX1_drawn 0 = .ok (.aload_n 0, 1) := by decide +kernel
theorem dX1_drawn_1 : decode cX1_drawn 1 = .ok (.getfield 26, 3) := by decide +kernel
theorem dX1_drawn_4 : decode cX1_drawn 4 = .ok (.ifCond .gt 5, 3) := by decide +kernel
theorem dX1_drawn_7 : decode cX1_drawn 7 = .ok (.aconst_null, 1) := by decide +kernel
theorem dX1_drawn_8 : decode cX1_drawn 8 = .ok (.areturn, 1) := by decide +kernel
theorem dX1_drawn_9 : decode cX1_drawn 9 = .ok (.iload_n 1, 1) := by decide +kernel
theorem dX1_drawn_10 : decode cX1_drawn 10 = .ok (.aload_n 0, 1) := by decide +kernel
theorem dX1_drawn_11 : decode cX1_drawn 11 = .ok (.getfield 26, 3) := by decide +kernel
theorem dX1_drawn_14 : decode cX1_drawn 14 = .ok (.irem, 1) := by decide +kernel
theorem dX1_drawn_15 : decode cX1_drawn 15 = .ok (.istore_n 2, 1) := by decide +kernel
theorem dX1_drawn_16 : decode cX1_drawn 16 = .ok (.iconst 0, 1) := by decide +kernel
theorem dX1_drawn_17 : decode cX1_drawn 17 = .ok (.istore_n 3, 1) := by decide +kernel
theorem dX1_drawn_18 : decode cX1_drawn 18 = .ok (.iload_n 3, 1) := by decide +kernel
theorem dX1_drawn_19 : decode cX1_drawn 19 = .ok (.aload_n 0, 1) := by decide +kernel
theorem dX1_drawn_20 : decode cX1_drawn 20 = .ok (.getfield 22, 3) := by decide +kernel
theorem dX1_drawn_23 : decode cX1_drawn 23 = .ok (.if_icmp .ge 38, 3) := by decide +kernel
theorem dX1_drawn_26 : decode cX1_drawn 26 = .ok (.aload_n 0, 1) := by decide +kernel
theorem dX1_drawn_27 : decode cX1_drawn 27 = .ok (.iload_n 3, 1) := by decide +kernel
theorem dX1_drawn_28 : decode cX1_drawn 28 = .ok (.invokevirtual 61, 3) := by decide +kernel
theorem dX1_drawn_31 : decode cX1_drawn 31 = .ok (.astore 4, 2) := by decide +kernel
theorem dX1_drawn_33 : decode cX1_drawn 33 = .ok (.aload 4, 2) := by decide +kernel
theorem dX1_drawn_35 : decode cX1_drawn 35 = .ok (.ifnonnull 5, 3) := by decide +kernel
theorem dX1_drawn_38 : decode cX1_drawn 38 = .ok (.aconst_null, 1) := by decide +kernel
theorem dX1_drawn_39 : decode cX1_drawn 39 = .ok (.areturn, 1) := by decide +kernel
theorem dX1_drawn_40 : decode cX1_drawn 40 = .ok (.iload_n 2, 1) := by decide +kernel
theorem dX1_drawn_41 : decode cX1_drawn 41 = .ok (.aload 4, 2) := by decide +kernel
theorem dX1_drawn_43 : decode cX1_drawn 43 = .ok (.getfield 60, 3) := by decide +kernel
theorem dX1_drawn_46 : decode cX1_drawn 46 = .ok (.isub, 1) := by decide +kernel
theorem dX1_drawn_47 : decode cX1_drawn 47 = .ok (.istore_n 2, 1) := by decide +kernel
theorem dX1_drawn_48 : decode cX1_drawn 48 = .ok (.iload_n 2, 1) := by decide +kernel
theorem dX1_drawn_49 : decode cX1_drawn 49 = .ok (.ifCond .ge 6, 3) := by decide +kernel
theorem dX1_drawn_52 : decode cX1_drawn 52 = .ok (.aload 4, 2) := by decide +kernel
theorem dX1_drawn_54 : decode cX1_drawn 54 = .ok (.areturn, 1) := by decide +kernel
theorem dX1_drawn_55 : decode cX1_drawn 55 = .ok (.iinc 3 1, 3) := by decide +kernel
theorem dX1_drawn_58 : decode cX1_drawn 58 = .ok (.goto (-40), 3) := by decide +kernel
theorem dX1_drawn_61 : decode cX1_drawn 61 = .ok (.aconst_null, 1) := by decide +kernel
theorem dX1_drawn_62 : decode cX1_drawn 62 = .ok (.areturn, 1) := by decide +kernel
def f_X1_drawn_18 (k_18 : St → Fin 6 → Int32 → Int32 → Option (Option (Fin 24) × St)) (S : St) (x0 : Fin 6) (x2 : Int32) (x3 : Int32) : Option (Option (Fin 24) × St) :=
  if (S.1 (21 + x0.val) 1) ≤ x3 then (
    some (none, S)
  ) else (
    obd2 (f_X1_sortTold S x0 x3) fun r2 S2 =>
    oel r2 (
      some (none, S2)
    ) fun v3 =>
      bnd ((x2 - (S2.1 (33 + v3.val) 0)) : Int32) fun v4 =>
      if 0 ≤ v4 then (
        bnd (x3 + 1 : Int32) fun v6 =>
        k_18 S2 x0 v4 v6
      ) else (
        some ((some v3), S2)
      )
  )
def l_X1_drawn_18 : Nat → St → Fin 6 → Int32 → Int32 → Option (Option (Fin 24) × St)
  | 0, _, _, _, _ => none
  | fu + 1, S, x0, x2, x3 => f_X1_drawn_18 (l_X1_drawn_18 fu) S x0 x2 x3
def f_X1_drawn (S : St) (x0 : Fin 6) (x1 : Int32) : Option (Option (Fin 24) × St) :=
  if 0 < (S.1 (21 + x0.val) 2) then (
    chk (¬ (S.1 (21 + x0.val) 2) = 0) <|
    bnd ((x1 - x1 / (S.1 (21 + x0.val) 2) * (S.1 (21 + x0.val) 2)) : Int32) fun v9 =>
    l_X1_drawn_18 FU S x0 v9 0
  ) else (
    some (none, S)
  )
set_option maxHeartbeats 4000000 in
set_option maxRecDepth 100000 in
theorem c_X1_drawn {l : Launch} {D : va_G} {cI cC cS : ClassId} {ad adK adV : Nat → Nat} {S S1 : St} {x0 : Fin 6} {x1 : Int32} {r : Option (Fin 24)} (h : f_X1_drawn S x0 x1 = some (r, S1)) : Kt l D (xw cI cC cS ad) (KX D (xtys cI cC cS) adK adV) yX1_drawn cX1_drawn 5 (some (.object "CarryUp$Sort")) (1) (21) [.ref (ad (21 + x0.val)), .int x1] S (some (rS ad r)) S1 := by
  refine k_ent (ins := .areturn) (st := [rS ad r]) (by decide +kernel) (Nat.le_of_ble_eq_true rfl) (ret_a (r := r.map fun c => ad (33 + c.val))) ?_
  intro p e s m args below meth c A Q C hK I hA hq ls hl
  have C : CallFix p m c cX1_drawn 5 s args TT RX1 := C
  have hx := C.1
  have hb := C.2.1
  have kx := kx_ok D (xtys cI cC cS) adK adV
  have hl : lv_has ls 5 [(0, .ref (ad (21 + x0.val))), (1, .int x1)] := hl
  have B_18 : ∀ (k_18 : St → Fin 6 → Int32 → Int32 → Option (Option (Fin 24) × St)) (hk_18 : ∀ (S : St) (x0 : Fin 6) (x2 : Int32) (x3 : Int32), k_18 S x0 x2 x3 = some (r, S1) → ∀ (H : Heap) (locs : List Loc) (ls : Array Slot), Iv D (xw cI cC cS ad) S A s H locs → lv_has ls 5 [(0, .ref (ad (21 + x0.val))), (2, .int x2), (3, .int x3)] → W p l e ({ frames := 1, cells := 0, slots := 0, locals := 21 } : Room) s m args below meth c H locs 0 0 Q (F0 m 18 ls [])) (S : St) (x0 : Fin 6) (x2 : Int32) (x3 : Int32), f_X1_drawn_18 k_18 S x0 x2 x3 = some (r, S1) → ∀ (H : Heap) (locs : List Loc) (ls : Array Slot), Iv D (xw cI cC cS ad) S A s H locs → lv_has ls 5 [(0, .ref (ad (21 + x0.val))), (2, .int x2), (3, .int x3)] → W p l e ({ frames := 1, cells := 0, slots := 0, locals := 21 } : Room) s m args below meth c H locs 0 0 Q (F0 m 18 ls []) := by
    intro k_18 hk_18 S x0 x2 x3 h H locs ls I hl
    unfold f_X1_drawn_18 at h
    refine lv_iload_n hx hb dX1_drawn_18 rfl (lv_at hl 2 rfl) ?_
    refine lv_aload_n hx hb dX1_drawn_19 rfl (lv_at hl 0 rfl) ?_
    refine gx_C_1 C hK I fl_X1_22 dX1_drawn_20 ?_
    refine lv_icmp_ge (tgt := 61) hx hb dX1_drawn_23 (by decide) (fun c1 => ?_) (fun c1 => ?_)
    · have h := ite_t c1 h
      refine lv_null hx hb dX1_drawn_61 ?_
      exact rt_a (f := rS ad) (v := none) hq h I dX1_drawn_62
    · have h := ite_n c1 h
      refine lv_aload_n hx hb dX1_drawn_26 rfl (lv_at hl 0 rfl) ?_
      refine lv_iload_n hx hb dX1_drawn_27 rfl (lv_at hl 2 rfl) ?_
      obtain ⟨r2, S2, e2, h⟩ := obd2_ex h
      refine k_V (As := [.int x3]) (rest := []) (st1 := [rS ad r2]) C kx hK I hA (c_X1_sortTold e2) ⟨Nat.le_of_ble_eq_true rfl, Nat.le_of_ble_eq_true rfl⟩ mv_X1_sortTold lk_X1_61 (21 + x0.val) 1 (xw_C (cI := cI) (cC := cC) (cS := cS) (ad := ad) x0) rfl rfl hl.1 rfl (Nat.le_of_ble_eq_true rfl) dX1_drawn_28 rfl (fun H locs I => ?_)
      refine k_astore _ (lv' := [(4, rS ad r2), (0, .ref (ad (21 + x0.val))), (2, .int x2), (3, .int x3)]) hx hb dX1_drawn_31 rfl hl (by decide) rfl (fun ls hl => ?_)
      refine k_aload _ hx hb dX1_drawn_33 rfl (lv_at hl 0 rfl) ?_
      refine k_ifnn hx hb dX1_drawn_35 (tgt := 40) (by decide) (fun v3 ho => ?_) (fun ho => ?_)
      · subst ho
        have h := oel_s h
        have hl : lv_has ls 5 [(4, .ref (ad (33 + v3.val))), (0, .ref (ad (21 + x0.val))), (2, .int x2), (3, .int x3)] := hl
        refine lv_iload_n hx hb dX1_drawn_40 rfl (lv_at hl 2 rfl) ?_
        refine lv_aload hx hb dX1_drawn_41 (lv_at hl 0 rfl) ?_
        refine gxN_S_0 C hK I fl_X1_60 dX1_drawn_43 ?_
        refine lv_isub hx hb dX1_drawn_46 ?_
        refine lv_topi (fun v4 ev4 => ?_)
        have h := bnd_at ev4 h
        clear ev4
        refine lv_istore_n (lv' := [(2, .int v4), (4, .ref (ad (33 + v3.val))), (0, .ref (ad (21 + x0.val))), (3, .int x3)]) hx hb dX1_drawn_47 rfl hl (by decide) rfl (fun ls hl => ?_)
        refine lv_iload_n hx hb dX1_drawn_48 rfl (lv_at hl 0 rfl) ?_
        refine lv_if_ge (tgt := 55) hx hb dX1_drawn_49 (by decide) (fun c5 => ?_) (fun c5 => ?_)
        · have h := ite_t c5 h
          obtain ⟨v6, ev6⟩ : ∃ y : Int32, y = x3 + 1 := ⟨_, rfl⟩
          have h := bnd_at ev6 h
          refine lv_iinc (v := v6) (lv' := [(3, .int v6), (2, .int v4), (4, .ref (ad (33 + v3.val))), (0, .ref (ad (21 + x0.val)))]) hx hb dX1_drawn_55 hl (k := 3) rfl (by rw [ev6]; rfl) (by decide) rfl (fun ls hl => ?_)
          clear ev6
          refine lv_goto (tgt := 18) hx hb dX1_drawn_58 (by decide) ?_
          exact hk_18 _ _ _ _ h _ _ _ I (lv_sub hl [3, 1, 0] rfl)
        · have h := ite_n c5 h
          refine lv_aload hx hb dX1_drawn_52 (lv_at hl 1 rfl) ?_
          exact rt_a (f := rS ad) (v := (some v3)) hq h I dX1_drawn_54
      · subst ho
        have h := oel_n h
        have hl : lv_has ls 5 [(4, .null), (0, .ref (ad (21 + x0.val))), (2, .int x2), (3, .int x3)] := hl
        refine lv_null hx hb dX1_drawn_38 ?_
        exact rt_a (f := rS ad) (v := none) hq h I dX1_drawn_39
  have J_18 : ∀ (fu : Nat) (S : St) (x0 : Fin 6) (x2 : Int32) (x3 : Int32), l_X1_drawn_18  fu S x0 x2 x3 = some (r, S1) → ∀ (H : Heap) (locs : List Loc) (ls : Array Slot), Iv D (xw cI cC cS ad) S A s H locs → lv_has ls 5 [(0, .ref (ad (21 + x0.val))), (2, .int x2), (3, .int x3)] → W p l e ({ frames := 1, cells := 0, slots := 0, locals := 21 } : Room) s m args below meth c H locs 0 0 Q (F0 m 18 ls []) := by
    intro fu
    induction fu with
    | zero => intro S x0 x2 x3 h; cases h
    | succ fu ih => intro S x0 x2 x3 h; exact B_18 (l_X1_drawn_18 fu) ih S x0 x2 x3 h
  unfold f_X1_drawn at h
  refine lv_aload_n hx hb dX1_drawn_0 rfl (lv_at hl 0 rfl) ?_
  refine gx_C_2 C hK I fl_X1_26 dX1_drawn_1 ?_
  refine lv_if_gt (tgt := 9) hx hb dX1_drawn_4 (by decide) (fun c7 => ?_) (fun c7 => ?_)
  · have h := ite_t c7 h
    refine lv_iload_n hx hb dX1_drawn_9 rfl (lv_at hl 1 rfl) ?_
    refine lv_aload_n hx hb dX1_drawn_10 rfl (lv_at hl 0 rfl) ?_
    refine gx_C_2 C hK I fl_X1_26 dX1_drawn_11 ?_
    obtain ⟨hv8, h⟩ := chk_ex h
    refine lv_irem hx hb dX1_drawn_14 hv8 ?_
    refine lv_topi (fun v9 ev9 => ?_)
    have h := bnd_at ev9 h
    clear ev9
    refine lv_istore_n (lv' := [(2, .int v9), (0, .ref (ad (21 + x0.val))), (1, .int x1)]) hx hb dX1_drawn_15 rfl hl (by decide) rfl (fun ls hl => ?_)
    refine lv_iconst (v := 0) hx hb dX1_drawn_16 (by decide) ?_
    refine lv_istore_n (lv' := [(3, .int 0), (2, .int v9), (0, .ref (ad (21 + x0.val))), (1, .int x1)]) hx hb dX1_drawn_17 rfl hl (by decide) rfl (fun ls hl => ?_)
    exact J_18 _ _ _ _ _ h _ _ _ I (lv_sub hl [2, 1, 0] rfl)
  · have h := ite_n c7 h
    refine lv_null hx hb dX1_drawn_7 ?_
    exact rt_a (f := rS ad) (v := none) hq h I dX1_drawn_8
theorem fl_X4_37 : Cond.fieldLink RX4 37 RX4 "begin" "I" ∈ TT := tt_of 234 (by decide +kernel) rfl
theorem dX4_begin_0 : decode cX4_begin 0 = .ok (.aload_n 0, 1) := by decide +kernel
theorem dX4_begin_1 : decode cX4_begin 1 = .ok (.getfield 37, 3) := by decide +kernel
theorem dX4_begin_4 : decode cX4_begin 4 = .ok (.ireturn, 1) := by decide +kernel
def f_X4_begin (S : St)  : Option (Int32 × St) :=
  some ((S.1 3 7), S)
set_option maxHeartbeats 4000000 in
set_option maxRecDepth 100000 in
theorem c_X4_begin {l : Launch} {D : va_G} {cI cC cS : ClassId} {ad adK adV : Nat → Nat} {S S1 : St}  {r : Int32} (h : f_X4_begin S  = some (r, S1)) : Kt l D (xw cI cC cS ad) (KX D (xtys cI cC cS) adK adV) yX4_begin cX4_begin 1 (some .int) (0) (0) [.ref (ad 3)] S (some (.int r)) S1 := by
  refine k_ent (ins := .ireturn) (st := [.int r]) (by decide +kernel) (Nat.le_of_ble_eq_true rfl) ret_i ?_
  intro p e s m args below meth c A Q C hK I hA hq ls hl
  have C : CallFix p m c cX4_begin 1 s args TT RX4 := C
  have hx := C.1
  have hb := C.2.1
  have kx := kx_ok D (xtys cI cC cS) adK adV
  have hl : lv_has ls 1 [(0, .ref (ad 3))] := hl
  unfold f_X4_begin at h
  refine lv_aload_n hx hb dX4_begin_0 rfl (lv_at hl 0 rfl) ?_
  refine gx_3_7 C hK I fl_X4_37 dX4_begin_1 ?_
  exact rt_i hq h I dX4_begin_4
theorem fl_X4_27 : Cond.fieldLink RX4 27 RX4 "tools" "I" ∈ TT := tt_of 231 (by decide +kernel) rfl
theorem dX4_tools_0 : decode cX4_tools 0 = .ok (.aload_n 0, 1) := by decide +kernel
theorem dX4_tools_1 : decode cX4_tools 1 = .ok (.getfield 27, 3) := by decide +kernel
theorem dX4_tools_4 : decode cX4_tools 4 = .ok (.ireturn, 1) := by decide +kernel
def f_X4_tools (S : St)  : Option (Int32 × St) :=
  some ((S.1 3 4), S)
set_option maxHeartbeats 4000000 in
set_option maxRecDepth 100000 in
theorem c_X4_tools {l : Launch} {D : va_G} {cI cC cS : ClassId} {ad adK adV : Nat → Nat} {S S1 : St}  {r : Int32} (h : f_X4_tools S  = some (r, S1)) : Kt l D (xw cI cC cS ad) (KX D (xtys cI cC cS) adK adV) yX4_tools cX4_tools 1 (some .int) (0) (0) [.ref (ad 3)] S (some (.int r)) S1 := by
  refine k_ent (ins := .ireturn) (st := [.int r]) (by decide +kernel) (Nat.le_of_ble_eq_true rfl) ret_i ?_
  intro p e s m args below meth c A Q C hK I hA hq ls hl
  have C : CallFix p m c cX4_tools 1 s args TT RX4 := C
  have hx := C.1
  have hb := C.2.1
  have kx := kx_ok D (xtys cI cC cS) adK adV
  have hl : lv_has ls 1 [(0, .ref (ad 3))] := hl
  unfold f_X4_tools at h
  refine lv_aload_n hx hb dX4_tools_0 rfl (lv_at hl 0 rfl) ?_
  refine gx_3_4 C hK I fl_X4_27 dX4_tools_1 ?_
  exact rt_i hq h I dX4_tools_4
theorem fl_X4_23 : Cond.fieldLink RX4 23 RX4 "calls" "[LCarryUp$Call;" ∈ TT := tt_of 230 (by decide +kernel) rfl
theorem dX4_callAt_0 : decode cX4_callAt 0 = .ok (.iload_n 1, 1) := by decide +kernel
theorem dX4_callAt_1 : decode cX4_callAt 1 = .ok (.ifCond .lt 21, 3) := by decide +kernel
theorem dX4_callAt_4 : decode cX4_callAt 4 = .ok (.iload_n 1, 1) := by decide +kernel
theorem dX4_callAt_5 : decode cX4_callAt 5 = .ok (.aload_n 0, 1) := by decide +kernel
theorem dX4_callAt_6 : decode cX4_callAt 6 = .ok (.getfield 23, 3) := by decide +kernel
theorem dX4_callAt_9 : decode cX4_callAt 9 = .ok (.arraylength, 1) := by decide +kernel
theorem dX4_callAt_10 : decode cX4_callAt 10 = .ok (.if_icmp .ge 12, 3) := by decide +kernel
theorem dX4_callAt_13 : decode cX4_callAt 13 = .ok (.aload_n 0, 1) := by decide +kernel
theorem dX4_callAt_14 : decode cX4_callAt 14 = .ok (.getfield 23, 3) := by decide +kernel
theorem dX4_callAt_17 : decode cX4_callAt 17 = .ok (.iload_n 1, 1) := by decide +kernel
theorem dX4_callAt_18 : decode cX4_callAt 18 = .ok (.aaload, 1) := by decide +kernel
theorem dX4_callAt_19 : decode cX4_callAt 19 = .ok (.goto 4, 3) := by decide +kernel
theorem dX4_callAt_22 : decode cX4_callAt 22 = .ok (.aconst_null, 1) := by decide +kernel
theorem dX4_callAt_23 : decode cX4_callAt 23 = .ok (.areturn, 1) := by decide +kernel
def f_X4_callAt_22 (S : St)  : Option (Option (Fin 6) × St) :=
  some (none, S)
def f_X4_callAt (S : St) (x1 : Int32) : Option (Option (Fin 6) × St) :=
  if x1 < 0 then (
    f_X4_callAt_22 S 
  ) else (
    if 6 ≤ x1 then (
      f_X4_callAt_22 S 
    ) else (
      obd (fin6 x1) fun v3 =>
      some ((some v3), S)
    )
  )
set_option maxHeartbeats 4000000 in
set_option maxRecDepth 100000 in
theorem c_X4_callAt {l : Launch} {D : va_G} {cI cC cS : ClassId} {ad adK adV : Nat → Nat} {S S1 : St} {x1 : Int32} {r : Option (Fin 6)} (h : f_X4_callAt S x1 = some (r, S1)) : Kt l D (xw cI cC cS ad) (KX D (xtys cI cC cS) adK adV) yX4_callAt cX4_callAt 2 (some (.object "CarryUp$Call")) (0) (0) [.ref (ad 3), .int x1] S (some (rC ad r)) S1 := by
  refine k_ent (ins := .areturn) (st := [rC ad r]) (by decide +kernel) (Nat.le_of_ble_eq_true rfl) (ret_a (r := r.map fun c => ad (21 + c.val))) ?_
  intro p e s m args below meth c A Q C hK I hA hq ls hl
  have C : CallFix p m c cX4_callAt 2 s args TT RX4 := C
  have hx := C.1
  have hb := C.2.1
  have kx := kx_ok D (xtys cI cC cS) adK adV
  have hl : lv_has ls 2 [(0, .ref (ad 3)), (1, .int x1)] := hl
  have J_22 : ∀ (S : St) , f_X4_callAt_22  S  = some (r, S1) → ∀ (H : Heap) (locs : List Loc) (ls : Array Slot), Iv D (xw cI cC cS ad) S A s H locs → lv_has ls 2 [] → W p l e ({ frames := 0, cells := 0, slots := 0, locals := 0 } : Room) s m args below meth c H locs 0 0 Q (F0 m 22 ls []) := by
    intro  S  h H locs ls I hl
    unfold f_X4_callAt_22 at h
    refine lv_null hx hb dX4_callAt_22 ?_
    exact rt_a (f := rC ad) (v := none) hq h I dX4_callAt_23
  unfold f_X4_callAt at h
  refine lv_iload_n hx hb dX4_callAt_0 rfl (lv_at hl 1 rfl) ?_
  refine lv_if_lt (tgt := 22) hx hb dX4_callAt_1 (by decide) (fun c1 => ?_) (fun c1 => ?_)
  · have h := ite_t c1 h
    exact J_22 _  h _ _ _ I (lv_sub hl [] rfl)
  · have h := ite_n c1 h
    refine lv_iload_n hx hb dX4_callAt_4 rfl (lv_at hl 1 rfl) ?_
    refine lv_aload_n hx hb dX4_callAt_5 rfl (lv_at hl 0 rfl) ?_
    refine gx_3_3 C hK I fl_X4_23 dX4_callAt_6 ?_
    refine lx_9 C hK I dX4_callAt_9 ?_
    refine lv_icmp_ge (tgt := 22) hx hb dX4_callAt_10 (by decide) (fun c2 => ?_) (fun c2 => ?_)
    · have h := ite_t c2 h
      exact J_22 _  h _ _ _ I (lv_sub hl [] rfl)
    · have h := ite_n c2 h
      refine lv_aload_n hx hb dX4_callAt_13 rfl (lv_at hl 0 rfl) ?_
      refine gx_3_3 C hK I fl_X4_23 dX4_callAt_14 ?_
      refine lv_iload_n hx hb dX4_callAt_17 rfl (lv_at hl 1 rfl) ?_
      obtain ⟨v3, ev3, h⟩ := obd_ex h
      refine ax_9 C hK I ev3 dX4_callAt_18 ?_
      refine lv_goto (tgt := 23) hx hb dX4_callAt_19 (by decide) ?_
      exact rt_a (f := rC ad) (v := (some v3)) hq h I dX4_callAt_23
theorem lk_X4_70 : Cond.methodLink RX4 70 yX4_callAt ∈ TT := tt_of 609 (by decide +kernel) rfl
theorem mv_X4_callAt : MV yX4_callAt cX4_callAt 2 (some (.object "CarryUp$Call")) 1 := ⟨tt_of 612 (by decide +kernel) rfl, tt_of 611 (by decide +kernel) rfl, tt_of 15 (by decide +kernel) rfl, tt_of 68 (by decide +kernel) rfl, ⟨by decide +kernel, by decide +kernel, by decide +kernel⟩⟩
theorem lk_X4_80 : Cond.methodLink RX4 80 yX1_isTold ∈ TT := tt_of 657 (by decide +kernel) rfl
theorem mv_X1_isTold : MV yX1_isTold cX1_isTold 1 (some .boolean) 0 := ⟨tt_of 660 (by decide +kernel) rfl, tt_of 658 (by decide +kernel) rfl, tt_of 659 (by decide +kernel) rfl, tt_of 69 (by decide +kernel) rfl, ⟨by decide +kernel, by decide +kernel, by decide +kernel⟩⟩
theorem dX4_callTold_0 : decode cX4_callTold 0 = .ok (.aload_n 0, 1) := by decide +kernel
theorem dX4_callTold_1 : decode cX4_callTold 1 = .ok (.iload_n 1, 1) := by decide +kernel
theorem dX4_callTold_2 : decode cX4_callTold 2 = .ok (.invokevirtual 70, 3) := by decide +kernel
theorem dX4_callTold_5 : decode cX4_callTold 5 = .ok (.astore_n 2, 1) := by decide +kernel
theorem dX4_callTold_6 : decode cX4_callTold 6 = .ok (.aload_n 2, 1) := by decide +kernel
theorem dX4_callTold_7 : decode cX4_callTold 7 = .ok (.ifnull 14, 3) := by decide +kernel
theorem dX4_callTold_10 : decode cX4_callTold 10 = .ok (.aload_n 2, 1) := by decide +kernel
theorem dX4_callTold_11 : decode cX4_callTold 11 = .ok (.invokevirtual 80, 3) := by decide +kernel
theorem dX4_callTold_14 : decode cX4_callTold 14 = .ok (.ifCond .eq 7, 3) := by decide +kernel
theorem dX4_callTold_17 : decode cX4_callTold 17 = .ok (.aload_n 2, 1) := by decide +kernel
theorem dX4_callTold_18 : decode cX4_callTold 18 = .ok (.goto 4, 3) := by decide +kernel
theorem dX4_callTold_21 : decode cX4_callTold 21 = .ok (.aconst_null, 1) := by decide +kernel
theorem dX4_callTold_22 : decode cX4_callTold 22 = .ok (.areturn, 1) := by decide +kernel
def f_X4_callTold_21 (S : St)  : Option (Option (Fin 6) × St) :=
  some (none, S)
def f_X4_callTold (S : St) (x1 : Int32) : Option (Option (Fin 6) × St) :=
  obd2 (f_X4_callAt S x1) fun r1 S1 =>
  oel r1 (
    f_X4_callTold_21 S1 
  ) fun v2 =>
    obd2 (f_X1_isTold S1 v2) fun r3 S3 =>
    if r3 = 0 then (
      f_X4_callTold_21 S3 
    ) else (
      some ((some v2), S3)
    )
set_option maxHeartbeats 4000000 in
set_option maxRecDepth 100000 in
theorem c_X4_callTold {l : Launch} {D : va_G} {cI cC cS : ClassId} {ad adK adV : Nat → Nat} {S S1 : St} {x1 : Int32} {r : Option (Fin 6)} (h : f_X4_callTold S x1 = some (r, S1)) : Kt l D (xw cI cC cS ad) (KX D (xtys cI cC cS) adK adV) yX4_callTold cX4_callTold 3 (some (.object "CarryUp$Call")) (1) (21) [.ref (ad 3), .int x1] S (some (rC ad r)) S1 := by
  refine k_ent (ins := .areturn) (st := [rC ad r]) (by decide +kernel) (Nat.le_of_ble_eq_true rfl) (ret_a (r := r.map fun c => ad (21 + c.val))) ?_
  intro p e s m args below meth c A Q C hK I hA hq ls hl
  have C : CallFix p m c cX4_callTold 3 s args TT RX4 := C
  have hx := C.1
  have hb := C.2.1
  have kx := kx_ok D (xtys cI cC cS) adK adV
  have hl : lv_has ls 3 [(0, .ref (ad 3)), (1, .int x1)] := hl
  have J_21 : ∀ (S : St) , f_X4_callTold_21  S  = some (r, S1) → ∀ (H : Heap) (locs : List Loc) (ls : Array Slot), Iv D (xw cI cC cS ad) S A s H locs → lv_has ls 3 [] → W p l e ({ frames := 1, cells := 0, slots := 0, locals := 21 } : Room) s m args below meth c H locs 0 0 Q (F0 m 21 ls []) := by
    intro  S  h H locs ls I hl
    unfold f_X4_callTold_21 at h
    refine lv_null hx hb dX4_callTold_21 ?_
    exact rt_a (f := rC ad) (v := none) hq h I dX4_callTold_22
  unfold f_X4_callTold at h
  refine lv_aload_n hx hb dX4_callTold_0 rfl (lv_at hl 0 rfl) ?_
  refine lv_iload_n hx hb dX4_callTold_1 rfl (lv_at hl 1 rfl) ?_
  obtain ⟨r1, S1, e1, h⟩ := obd2_ex h
  refine k_V (As := [.int x1]) (rest := []) (st1 := [rC ad r1]) C kx hK I hA (c_X4_callAt e1) ⟨Nat.le_of_ble_eq_true rfl, Nat.le_of_ble_eq_true rfl⟩ mv_X4_callAt lk_X4_70 3 4 (xw_3 (cI := cI) (ad := ad) (cC := cC) (cS := cS)) rfl rfl hl.1 rfl (Nat.le_of_ble_eq_true rfl) dX4_callTold_2 rfl (fun H locs I => ?_)
  refine k_astore_n _ (lv' := [(2, rC ad r1), (0, .ref (ad 3)), (1, .int x1)]) hx hb dX4_callTold_5 rfl rfl hl (by decide) rfl (fun ls hl => ?_)
  refine k_aload_n _ hx hb dX4_callTold_6 rfl rfl (lv_at hl 0 rfl) ?_
  refine k_ifn hx hb dX4_callTold_7 (tgt := 21) (by decide) (fun ho => ?_) (fun v2 ho => ?_)
  · subst ho
    have h := oel_n h
    have hl : lv_has ls 3 [(2, .null), (0, .ref (ad 3)), (1, .int x1)] := hl
    exact J_21 _  h _ _ _ I (lv_sub hl [] rfl)
  · subst ho
    have h := oel_s h
    have hl : lv_has ls 3 [(2, .ref (ad (21 + v2.val))), (0, .ref (ad 3)), (1, .int x1)] := hl
    refine lv_aload_n hx hb dX4_callTold_10 rfl (lv_at hl 0 rfl) ?_
    obtain ⟨r3, S3, e3, h⟩ := obd2_ex h
    refine k_V (As := []) (rest := []) (st1 := [.int r3]) C kx hK I hA (c_X1_isTold e3) ⟨Nat.le_of_ble_eq_true rfl, Nat.le_of_ble_eq_true rfl⟩ mv_X1_isTold lk_X4_80 (21 + v2.val) 1 (xw_C (cI := cI) (cC := cC) (cS := cS) (ad := ad) v2) rfl rfl hl.1 rfl (Nat.le_of_ble_eq_true rfl) dX4_callTold_11 rfl (fun H locs I => ?_)
    refine lv_if_eq (tgt := 21) hx hb dX4_callTold_14 (by decide) (fun c4 => ?_) (fun c4 => ?_)
    · have h := ite_t c4 h
      exact J_21 _  h _ _ _ I (lv_sub hl [] rfl)
    · have h := ite_n c4 h
      refine lv_aload_n hx hb dX4_callTold_17 rfl (lv_at hl 0 rfl) ?_
      refine lv_goto (tgt := 22) hx hb dX4_callTold_18 (by decide) ?_
      exact rt_a (f := rC ad) (v := (some v2)) hq h I dX4_callTold_22
theorem lk_X4_84 : Cond.methodLink RX4 84 yX4_callTold ∈ TT := tt_of 673 (by decide +kernel) rfl
theorem mv_X4_callTold : MV yX4_callTold cX4_callTold 3 (some (.object "CarryUp$Call")) 1 := ⟨tt_of 656 (by decide +kernel) rfl, tt_of 654 (by decide +kernel) rfl, tt_of 655 (by decide +kernel) rfl, tt_of 68 (by decide +kernel) rfl, ⟨by decide +kernel, by decide +kernel, by decide +kernel⟩⟩
theorem lk_X4_87 : Cond.methodLink RX4 87 yX1_sorts ∈ TT := tt_of 720 (by decide +kernel) rfl
theorem mv_X1_sorts : MV yX1_sorts cX1_sorts 1 (some .int) 0 := ⟨tt_of 664 (by decide +kernel) rfl, tt_of 662 (by decide +kernel) rfl, tt_of 663 (by decide +kernel) rfl, tt_of 69 (by decide +kernel) rfl, ⟨by decide +kernel, by decide +kernel, by decide +kernel⟩⟩
theorem dX4_callWithSorts_0 : decode cX4_callWithSorts 0 = .ok (.aload_n 0, 1) := by decide +kernel
theorem dX4_callWithSorts_1 : decode cX4_callWithSorts 1 = .ok (.iload_n 1, 1) := by decide +kernel
theorem dX4_callWithSorts_2 : decode cX4_callWithSorts 2 = .ok (.invokevirtual 84, 3) := by decide +kernel
theorem dX4_callWithSorts_5 : decode cX4_callWithSorts 5 = .ok (.astore_n 2, 1) := by decide +kernel
theorem dX4_callWithSorts_6 : decode cX4_callWithSorts 6 = .ok (.aload_n 2, 1) := by decide +kernel
theorem dX4_callWithSorts_7 : decode cX4_callWithSorts 7 = .ok (.ifnull 14, 3) := by decide +kernel
theorem dX4_callWithSorts_10 : decode cX4_callWithSorts 10 = .ok (.aload_n 2, 1) := by decide +kernel
theorem dX4_callWithSorts_11 : decode cX4_callWithSorts 11 = .ok (.invokevirtual 87, 3) := by decide +kernel
theorem dX4_callWithSorts_14 : decode cX4_callWithSorts 14 = .ok (.ifCond .le 7, 3) := by decide +kernel
theorem dX4_callWithSorts_17 : decode cX4_callWithSorts 17 = .ok (.aload_n 2, 1) := by decide +kernel
theorem dX4_callWithSorts_18 : decode cX4_callWithSorts 18 = .ok (.goto 4, 3) := by decide +kernel
theorem dX4_callWithSorts_21 : decode cX4_callWithSorts 21 = .ok (.aconst_null, 1) := by decide +kernel
theorem dX4_callWithSorts_22 : decode cX4_callWithSorts 22 = .ok (.areturn, 1) := by decide +kernel
def f_X4_callWithSorts_21 (S : St)  : Option (Option (Fin 6) × St) :=
  some (none, S)
def f_X4_callWithSorts (S : St) (x1 : Int32) : Option (Option (Fin 6) × St) :=
  obd2 (f_X4_callTold S x1) fun r1 S1 =>
  oel r1 (
    f_X4_callWithSorts_21 S1 
  ) fun v2 =>
    obd2 (f_X1_sorts S1 v2) fun r3 S3 =>
    if r3 ≤ 0 then (
      f_X4_callWithSorts_21 S3 
    ) else (
      some ((some v2), S3)
    )
set_option maxHeartbeats 4000000 in
set_option maxRecDepth 100000 in
theorem c_X4_callWithSorts {l : Launch} {D : va_G} {cI cC cS : ClassId} {ad adK adV : Nat → Nat} {S S1 : St} {x1 : Int32} {r : Option (Fin 6)} (h : f_X4_callWithSorts S x1 = some (r, S1)) : Kt l D (xw cI cC cS ad) (KX D (xtys cI cC cS) adK adV) yX4_callWithSorts cX4_callWithSorts 3 (some (.object "CarryUp$Call")) (2) (43) [.ref (ad 3), .int x1] S (some (rC ad r)) S1 := by
  refine k_ent (ins := .areturn) (st := [rC ad r]) (by decide +kernel) (Nat.le_of_ble_eq_true rfl) (ret_a (r := r.map fun c => ad (21 + c.val))) ?_
  intro p e s m args below meth c A Q C hK I hA hq ls hl
  have C : CallFix p m c cX4_callWithSorts 3 s args TT RX4 := C
  have hx := C.1
  have hb := C.2.1
  have kx := kx_ok D (xtys cI cC cS) adK adV
  have hl : lv_has ls 3 [(0, .ref (ad 3)), (1, .int x1)] := hl
  have J_21 : ∀ (S : St) , f_X4_callWithSorts_21  S  = some (r, S1) → ∀ (H : Heap) (locs : List Loc) (ls : Array Slot), Iv D (xw cI cC cS ad) S A s H locs → lv_has ls 3 [] → W p l e ({ frames := 2, cells := 0, slots := 0, locals := 43 } : Room) s m args below meth c H locs 0 0 Q (F0 m 21 ls []) := by
    intro  S  h H locs ls I hl
    unfold f_X4_callWithSorts_21 at h
    refine lv_null hx hb dX4_callWithSorts_21 ?_
    exact rt_a (f := rC ad) (v := none) hq h I dX4_callWithSorts_22
  unfold f_X4_callWithSorts at h
  refine lv_aload_n hx hb dX4_callWithSorts_0 rfl (lv_at hl 0 rfl) ?_
  refine lv_iload_n hx hb dX4_callWithSorts_1 rfl (lv_at hl 1 rfl) ?_
  obtain ⟨r1, S1, e1, h⟩ := obd2_ex h
  refine k_V (As := [.int x1]) (rest := []) (st1 := [rC ad r1]) C kx hK I hA (c_X4_callTold e1) ⟨Nat.le_of_ble_eq_true rfl, Nat.le_of_ble_eq_true rfl⟩ mv_X4_callTold lk_X4_84 3 4 (xw_3 (cI := cI) (ad := ad) (cC := cC) (cS := cS)) rfl rfl hl.1 rfl (Nat.le_of_ble_eq_true rfl) dX4_callWithSorts_2 rfl (fun H locs I => ?_)
  refine k_astore_n _ (lv' := [(2, rC ad r1), (0, .ref (ad 3)), (1, .int x1)]) hx hb dX4_callWithSorts_5 rfl rfl hl (by decide) rfl (fun ls hl => ?_)
  refine k_aload_n _ hx hb dX4_callWithSorts_6 rfl rfl (lv_at hl 0 rfl) ?_
  refine k_ifn hx hb dX4_callWithSorts_7 (tgt := 21) (by decide) (fun ho => ?_) (fun v2 ho => ?_)
  · subst ho
    have h := oel_n h
    have hl : lv_has ls 3 [(2, .null), (0, .ref (ad 3)), (1, .int x1)] := hl
    exact J_21 _  h _ _ _ I (lv_sub hl [] rfl)
  · subst ho
    have h := oel_s h
    have hl : lv_has ls 3 [(2, .ref (ad (21 + v2.val))), (0, .ref (ad 3)), (1, .int x1)] := hl
    refine lv_aload_n hx hb dX4_callWithSorts_10 rfl (lv_at hl 0 rfl) ?_
    obtain ⟨r3, S3, e3, h⟩ := obd2_ex h
    refine k_V (As := []) (rest := []) (st1 := [.int r3]) C kx hK I hA (c_X1_sorts e3) ⟨Nat.le_of_ble_eq_true rfl, Nat.le_of_ble_eq_true rfl⟩ mv_X1_sorts lk_X4_87 (21 + v2.val) 1 (xw_C (cI := cI) (cC := cC) (cS := cS) (ad := ad) v2) rfl rfl hl.1 rfl (Nat.le_of_ble_eq_true rfl) dX4_callWithSorts_11 rfl (fun H locs I => ?_)
    refine lv_if_le (tgt := 21) hx hb dX4_callWithSorts_14 (by decide) (fun c4 => ?_) (fun c4 => ?_)
    · have h := ite_t c4 h
      exact J_21 _  h _ _ _ I (lv_sub hl [] rfl)
    · have h := ite_n c4 h
      refine lv_aload_n hx hb dX4_callWithSorts_17 rfl (lv_at hl 0 rfl) ?_
      refine lv_goto (tgt := 22) hx hb dX4_callWithSorts_18 (by decide) ?_
      exact rt_a (f := rC ad) (v := (some v2)) hq h I dX4_callWithSorts_22
theorem lk_X4_91 : Cond.methodLink RX4 91 yX1_sortTold ∈ TT := tt_of 674 (by decide +kernel) rfl
theorem dX4_sortTold_0 : decode cX4_sortTold 0 = .ok (.aload_n 0, 1) := by decide +kernel
theorem dX4_sortTold_1 : decode cX4_sortTold 1 = .ok (.iload_n 1, 1) := by decide +kernel
theorem dX4_sortTold_2 : decode cX4_sortTold 2 = .ok (.invokevirtual 84, 3) := by decide +kernel
theorem dX4_sortTold_5 : decode cX4_sortTold 5 = .ok (.astore_n 3, 1) := by decide +kernel
theorem dX4_sortTold_6 : decode cX4_sortTold 6 = .ok (.aload_n 3, 1) := by decide +kernel
theorem dX4_sortTold_7 : decode cX4_sortTold 7 = .ok (.ifnonnull 7, 3) := by decide +kernel
theorem dX4_sortTold_10 : decode cX4_sortTold 10 = .ok (.aconst_null, 1) := by decide +kernel
theorem dX4_sortTold_11 : decode cX4_sortTold 11 = .ok (.goto 8, 3) := by decide +kernel
theorem dX4_sortTold_14 : decode cX4_sortTold 14 = .ok (.aload_n 3, 1) := by decide +kernel
theorem dX4_sortTold_15 : decode cX4_sortTold 15 = .ok (.iload_n 2, 1) := by decide +kernel
theorem dX4_sortTold_16 : decode cX4_sortTold 16 = .ok (.invokevirtual 91, 3) := by decide +kernel
theorem dX4_sortTold_19 : decode cX4_sortTold 19 = .ok (.areturn, 1) := by decide +kernel
def f_X4_sortTold (S : St) (x1 : Int32) (x2 : Int32) : Option (Option (Fin 24) × St) :=
  obd2 (f_X4_callTold S x1) fun r1 S1 =>
  oel r1 (
    some (none, S1)
  ) fun v2 =>
    obd2 (f_X1_sortTold S1 v2 x2) fun r3 S3 =>
    some (r3, S3)
set_option maxHeartbeats 4000000 in
set_option maxRecDepth 100000 in
theorem c_X4_sortTold {l : Launch} {D : va_G} {cI cC cS : ClassId} {ad adK adV : Nat → Nat} {S S1 : St} {x1 : Int32} {x2 : Int32} {r : Option (Fin 24)} (h : f_X4_sortTold S x1 x2 = some (r, S1)) : Kt l D (xw cI cC cS ad) (KX D (xtys cI cC cS) adK adV) yX4_sortTold cX4_sortTold 4 (some (.object "CarryUp$Sort")) (2) (43) [.ref (ad 3), .int x1, .int x2] S (some (rS ad r)) S1 := by
  refine k_ent (ins := .areturn) (st := [rS ad r]) (by decide +kernel) (Nat.le_of_ble_eq_true rfl) (ret_a (r := r.map fun c => ad (33 + c.val))) ?_
  intro p e s m args below meth c A Q C hK I hA hq ls hl
  have C : CallFix p m c cX4_sortTold 4 s args TT RX4 := C
  have hx := C.1
  have hb := C.2.1
  have kx := kx_ok D (xtys cI cC cS) adK adV
  have hl : lv_has ls 4 [(0, .ref (ad 3)), (1, .int x1), (2, .int x2)] := hl
  unfold f_X4_sortTold at h
  refine lv_aload_n hx hb dX4_sortTold_0 rfl (lv_at hl 0 rfl) ?_
  refine lv_iload_n hx hb dX4_sortTold_1 rfl (lv_at hl 1 rfl) ?_
  obtain ⟨r1, S1, e1, h⟩ := obd2_ex h
  refine k_V (As := [.int x1]) (rest := []) (st1 := [rC ad r1]) C kx hK I hA (c_X4_callTold e1) ⟨Nat.le_of_ble_eq_true rfl, Nat.le_of_ble_eq_true rfl⟩ mv_X4_callTold lk_X4_84 3 4 (xw_3 (cI := cI) (ad := ad) (cC := cC) (cS := cS)) rfl rfl hl.1 rfl (Nat.le_of_ble_eq_true rfl) dX4_sortTold_2 rfl (fun H locs I => ?_)
  refine k_astore_n _ (lv' := [(3, rC ad r1), (0, .ref (ad 3)), (1, .int x1), (2, .int x2)]) hx hb dX4_sortTold_5 rfl rfl hl (by decide) rfl (fun ls hl => ?_)
  refine k_aload_n _ hx hb dX4_sortTold_6 rfl rfl (lv_at hl 0 rfl) ?_
  refine k_ifnn hx hb dX4_sortTold_7 (tgt := 14) (by decide) (fun v2 ho => ?_) (fun ho => ?_)
  · subst ho
    have h := oel_s h
    have hl : lv_has ls 4 [(3, .ref (ad (21 + v2.val))), (0, .ref (ad 3)), (1, .int x1), (2, .int x2)] := hl
    refine lv_aload_n hx hb dX4_sortTold_14 rfl (lv_at hl 0 rfl) ?_
    refine lv_iload_n hx hb dX4_sortTold_15 rfl (lv_at hl 3 rfl) ?_
    obtain ⟨r3, S3, e3, h⟩ := obd2_ex h
    refine k_V (As := [.int x2]) (rest := []) (st1 := [rS ad r3]) C kx hK I hA (c_X1_sortTold e3) ⟨Nat.le_of_ble_eq_true rfl, Nat.le_of_ble_eq_true rfl⟩ mv_X1_sortTold lk_X4_91 (21 + v2.val) 1 (xw_C (cI := cI) (cC := cC) (cS := cS) (ad := ad) v2) rfl rfl hl.1 rfl (Nat.le_of_ble_eq_true rfl) dX4_sortTold_16 rfl (fun H locs I => ?_)
    exact rt_a (f := rS ad) (v := r3) hq h I dX4_sortTold_19
  · subst ho
    have h := oel_n h
    have hl : lv_has ls 4 [(3, .null), (0, .ref (ad 3)), (1, .int x1), (2, .int x2)] := hl
    refine lv_null hx hb dX4_sortTold_10 ?_
    refine lv_goto (tgt := 19) hx hb dX4_sortTold_11 (by decide) ?_
    exact rt_a (f := rS ad) (v := none) hq h I dX4_sortTold_19
theorem fl_X4_18 : Cond.fieldLink RX4 18 RX4 "ways" "[I" ∈ TT := tt_of 229 (by decide +kernel) rfl
theorem dX4_wayBetween_0 : decode cX4_wayBetween 0 = .ok (.aload_n 0, 1) := by decide +kernel
theorem dX4_wayBetween_1 : decode cX4_wayBetween 1 = .ok (.getfield 18, 3) := by decide +kernel
theorem dX4_wayBetween_4 : decode cX4_wayBetween 4 = .ok (.iload_n 1, 1) := by decide +kernel
theorem dX4_wayBetween_5 : decode cX4_wayBetween 5 = .ok (.bipush 6, 2) := by decide +kernel
theorem dX4_wayBetween_7 : decode cX4_wayBetween 7 = .ok (.imul, 1) := by decide +kernel
theorem dX4_wayBetween_8 : decode cX4_wayBetween 8 = .ok (.iload_n 2, 1) := by decide +kernel
theorem dX4_wayBetween_9 : decode cX4_wayBetween 9 = .ok (.iadd, 1) := by decide +kernel
theorem dX4_wayBetween_10 : decode cX4_wayBetween 10 = .ok (.invokestatic 41, 3) := by decide +kernel
theorem dX4_wayBetween_13 : decode cX4_wayBetween 13 = .ok (.ireturn, 1) := by decide +kernel
def f_X4_wayBetween (S : St) (x1 : Int32) (x2 : Int32) : Option (Int32 × St) :=
  obd2 (f_X10_at S 4 ((x1 * 6) + x2)) fun r1 S1 =>
  some (r1, S1)
set_option maxHeartbeats 4000000 in
set_option maxRecDepth 100000 in
theorem c_X4_wayBetween {l : Launch} {D : va_G} {cI cC cS : ClassId} {ad adK adV : Nat → Nat} {S S1 : St} {x1 : Int32} {x2 : Int32} {r : Int32} (h : f_X4_wayBetween S x1 x2 = some (r, S1)) : Kt l D (xw cI cC cS ad) (KX D (xtys cI cC cS) adK adV) yX4_wayBetween cX4_wayBetween 3 (some .int) (1) (21) [.ref (ad 3), .int x1, .int x2] S (some (.int r)) S1 := by
  refine k_ent (ins := .ireturn) (st := [.int r]) (by decide +kernel) (Nat.le_of_ble_eq_true rfl) ret_i ?_
  intro p e s m args below meth c A Q C hK I hA hq ls hl
  have C : CallFix p m c cX4_wayBetween 3 s args TT RX4 := C
  have hx := C.1
  have hb := C.2.1
  have kx := kx_ok D (xtys cI cC cS) adK adV
  have hl : lv_has ls 3 [(0, .ref (ad 3)), (1, .int x1), (2, .int x2)] := hl
  unfold f_X4_wayBetween at h
  refine lv_aload_n hx hb dX4_wayBetween_0 rfl (lv_at hl 0 rfl) ?_
  refine gx_3_2 C hK I fl_X4_18 dX4_wayBetween_1 ?_
  refine lv_iload_n hx hb dX4_wayBetween_4 rfl (lv_at hl 1 rfl) ?_
  refine lv_bipush (v := 6) hx hb dX4_wayBetween_5 (by decide) ?_
  refine lv_imul hx hb dX4_wayBetween_7 ?_
  refine lv_iload_n hx hb dX4_wayBetween_8 rfl (lv_at hl 2 rfl) ?_
  refine lv_iadd hx hb dX4_wayBetween_9 ?_
  obtain ⟨r1, S1, e1, h⟩ := obd2_ex h
  refine k_SN (As := [.ref (ad 15), .int ((x1 * 6) + x2)]) (rest := []) (st1 := [.int r1]) C kx hK I hA (c_X10_at e1) ⟨Nat.le_of_ble_eq_true rfl, Nat.le_of_ble_eq_true rfl⟩ ms_X10_at lk_X4_41 rfl hl.1 rfl (Nat.le_of_ble_eq_true rfl) dX4_wayBetween_10 rfl (fun H locs I => ?_)
  exact rt_i hq h I dX4_wayBetween_13
theorem dX4_weight_0 : decode cX4_weight 0 = .ok (.aload_n 0, 1) := by decide +kernel
theorem dX4_weight_1 : decode cX4_weight 1 = .ok (.getfield 9, 3) := by decide +kernel
theorem dX4_weight_4 : decode cX4_weight 4 = .ok (.iload_n 1, 1) := by decide +kernel
theorem dX4_weight_5 : decode cX4_weight 5 = .ok (.invokestatic 41, 3) := by decide +kernel
theorem dX4_weight_8 : decode cX4_weight 8 = .ok (.ireturn, 1) := by decide +kernel
def f_X4_weight (S : St) (x1 : Int32) : Option (Int32 × St) :=
  obd2 (f_X10_at S 2 x1) fun r1 S1 =>
  some (r1, S1)
set_option maxHeartbeats 4000000 in
set_option maxRecDepth 100000 in
theorem c_X4_weight {l : Launch} {D : va_G} {cI cC cS : ClassId} {ad adK adV : Nat → Nat} {S S1 : St} {x1 : Int32} {r : Int32} (h : f_X4_weight S x1 = some (r, S1)) : Kt l D (xw cI cC cS ad) (KX D (xtys cI cC cS) adK adV) yX4_weight cX4_weight 2 (some .int) (1) (21) [.ref (ad 3), .int x1] S (some (.int r)) S1 := by
  refine k_ent (ins := .ireturn) (st := [.int r]) (by decide +kernel) (Nat.le_of_ble_eq_true rfl) ret_i ?_
  intro p e s m args below meth c A Q C hK I hA hq ls hl
  have C : CallFix p m c cX4_weight 2 s args TT RX4 := C
  have hx := C.1
  have hb := C.2.1
  have kx := kx_ok D (xtys cI cC cS) adK adV
  have hl : lv_has ls 2 [(0, .ref (ad 3)), (1, .int x1)] := hl
  unfold f_X4_weight at h
  refine lv_aload_n hx hb dX4_weight_0 rfl (lv_at hl 0 rfl) ?_
  refine gx_3_0 C hK I fl_X4_9 dX4_weight_1 ?_
  refine lv_iload_n hx hb dX4_weight_4 rfl (lv_at hl 1 rfl) ?_
  obtain ⟨r1, S1, e1, h⟩ := obd2_ex h
  refine k_SN (As := [.ref (ad 13), .int x1]) (rest := []) (st1 := [.int r1]) C kx hK I hA (c_X10_at e1) ⟨Nat.le_of_ble_eq_true rfl, Nat.le_of_ble_eq_true rfl⟩ ms_X10_at lk_X4_41 rfl hl.1 rfl (Nat.le_of_ble_eq_true rfl) dX4_weight_5 rfl (fun H locs I => ?_)
  exact rt_i hq h I dX4_weight_8
theorem dX4_price_0 : decode cX4_price 0 = .ok (.aload_n 0, 1) := by decide +kernel
theorem dX4_price_1 : decode cX4_price 1 = .ok (.getfield 15, 3) := by decide +kernel
theorem dX4_price_4 : decode cX4_price 4 = .ok (.iload_n 1, 1) := by decide +kernel
theorem dX4_price_5 : decode cX4_price 5 = .ok (.invokestatic 41, 3) := by decide +kernel
theorem dX4_price_8 : decode cX4_price 8 = .ok (.ireturn, 1) := by decide +kernel
def f_X4_price (S : St) (x1 : Int32) : Option (Int32 × St) :=
  obd2 (f_X10_at S 3 x1) fun r1 S1 =>
  some (r1, S1)
set_option maxHeartbeats 4000000 in
set_option maxRecDepth 100000 in
theorem c_X4_price {l : Launch} {D : va_G} {cI cC cS : ClassId} {ad adK adV : Nat → Nat} {S S1 : St} {x1 : Int32} {r : Int32} (h : f_X4_price S x1 = some (r, S1)) : Kt l D (xw cI cC cS ad) (KX D (xtys cI cC cS) adK adV) yX4_price cX4_price 2 (some .int) (1) (21) [.ref (ad 3), .int x1] S (some (.int r)) S1 := by
  refine k_ent (ins := .ireturn) (st := [.int r]) (by decide +kernel) (Nat.le_of_ble_eq_true rfl) ret_i ?_
  intro p e s m args below meth c A Q C hK I hA hq ls hl
  have C : CallFix p m c cX4_price 2 s args TT RX4 := C
  have hx := C.1
  have hb := C.2.1
  have kx := kx_ok D (xtys cI cC cS) adK adV
  have hl : lv_has ls 2 [(0, .ref (ad 3)), (1, .int x1)] := hl
  unfold f_X4_price at h
  refine lv_aload_n hx hb dX4_price_0 rfl (lv_at hl 0 rfl) ?_
  refine gx_3_1 C hK I fl_X4_15 dX4_price_1 ?_
  refine lv_iload_n hx hb dX4_price_4 rfl (lv_at hl 1 rfl) ?_
  obtain ⟨r1, S1, e1, h⟩ := obd2_ex h
  refine k_SN (As := [.ref (ad 14), .int x1]) (rest := []) (st1 := [.int r1]) C kx hK I hA (c_X10_at e1) ⟨Nat.le_of_ble_eq_true rfl, Nat.le_of_ble_eq_true rfl⟩ ms_X10_at lk_X4_41 rfl hl.1 rfl (Nat.le_of_ble_eq_true rfl) dX4_price_5 rfl (fun H locs I => ?_)
  exact rt_i hq h I dX4_price_8
theorem dX4_load_0 : decode cX4_load 0 = .ok (.aload_n 0, 1) := by decide +kernel
theorem dX4_load_1 : decode cX4_load 1 = .ok (.getfield 31, 3) := by decide +kernel
theorem dX4_load_4 : decode cX4_load 4 = .ok (.ireturn, 1) := by decide +kernel
def f_X4_load (S : St)  : Option (Int32 × St) :=
  some ((S.1 3 5), S)
set_option maxHeartbeats 4000000 in
set_option maxRecDepth 100000 in
theorem c_X4_load {l : Launch} {D : va_G} {cI cC cS : ClassId} {ad adK adV : Nat → Nat} {S S1 : St}  {r : Int32} (h : f_X4_load S  = some (r, S1)) : Kt l D (xw cI cC cS ad) (KX D (xtys cI cC cS) adK adV) yX4_load cX4_load 1 (some .int) (0) (0) [.ref (ad 3)] S (some (.int r)) S1 := by
  refine k_ent (ins := .ireturn) (st := [.int r]) (by decide +kernel) (Nat.le_of_ble_eq_true rfl) ret_i ?_
  intro p e s m args below meth c A Q C hK I hA hq ls hl
  have C : CallFix p m c cX4_load 1 s args TT RX4 := C
  have hx := C.1
  have hb := C.2.1
  have kx := kx_ok D (xtys cI cC cS) adK adV
  have hl : lv_has ls 1 [(0, .ref (ad 3))] := hl
  unfold f_X4_load at h
  refine lv_aload_n hx hb dX4_load_0 rfl (lv_at hl 0 rfl) ?_
  refine gx_3_5 C hK I fl_X4_31 dX4_load_1 ?_
  exact rt_i hq h I dX4_load_4
theorem dX4_purse_0 : decode cX4_purse 0 = .ok (.aload_n 0, 1) := by decide +kernel
theorem dX4_purse_1 : decode cX4_purse 1 = .ok (.getfield 34, 3) := by decide +kernel
theorem dX4_purse_4 : decode cX4_purse 4 = .ok (.ireturn, 1) := by decide +kernel
def f_X4_purse (S : St)  : Option (Int32 × St) :=
  some ((S.1 3 6), S)
set_option maxHeartbeats 4000000 in
set_option maxRecDepth 100000 in
theorem c_X4_purse {l : Launch} {D : va_G} {cI cC cS : ClassId} {ad adK adV : Nat → Nat} {S S1 : St}  {r : Int32} (h : f_X4_purse S  = some (r, S1)) : Kt l D (xw cI cC cS ad) (KX D (xtys cI cC cS) adK adV) yX4_purse cX4_purse 1 (some .int) (0) (0) [.ref (ad 3)] S (some (.int r)) S1 := by
  refine k_ent (ins := .ireturn) (st := [.int r]) (by decide +kernel) (Nat.le_of_ble_eq_true rfl) ret_i ?_
  intro p e s m args below meth c A Q C hK I hA hq ls hl
  have C : CallFix p m c cX4_purse 1 s args TT RX4 := C
  have hx := C.1
  have hb := C.2.1
  have kx := kx_ok D (xtys cI cC cS) adK adV
  have hl : lv_has ls 1 [(0, .ref (ad 3))] := hl
  unfold f_X4_purse at h
  refine lv_aload_n hx hb dX4_purse_0 rfl (lv_at hl 0 rfl) ?_
  refine gx_3_6 C hK I fl_X4_34 dX4_purse_1 ?_
  exact rt_i hq h I dX4_purse_4
theorem lk_X4_66 : Cond.methodLinkNest RX4 66 yX10_put "CarryUp" ∈ NN := nn_of 600 (by decide +kernel) rfl
theorem dX4_tellThing_0 : decode cX4_tellThing 0 = .ok (.aload_n 0, 1) := by decide +kernel
theorem dX4_tellThing_1 : decode cX4_tellThing 1 = .ok (.getfield 9, 3) := by decide +kernel
theorem dX4_tellThing_4 : decode cX4_tellThing 4 = .ok (.iload_n 1, 1) := by decide +kernel
theorem dX4_tellThing_5 : decode cX4_tellThing 5 = .ok (.iload_n 2, 1) := by decide +kernel
theorem dX4_tellThing_6 : decode cX4_tellThing 6 = .ok (.invokestatic 66, 3) := by decide +kernel
theorem dX4_tellThing_9 : decode cX4_tellThing 9 = .ok (.aload_n 0, 1) := by decide +kernel
theorem dX4_tellThing_10 : decode cX4_tellThing 10 = .ok (.getfield 15, 3) := by decide +kernel
theorem dX4_tellThing_13 : decode cX4_tellThing 13 = .ok (.iload_n 1, 1) := by decide +kernel
theorem dX4_tellThing_14 : decode cX4_tellThing 14 = .ok (.iload_n 3, 1) := by decide +kernel
theorem dX4_tellThing_15 : decode cX4_tellThing 15 = .ok (.invokestatic 66, 3) := by decide +kernel
theorem dX4_tellThing_18 : decode cX4_tellThing 18 = .ok (.aload_n 0, 1) := by decide +kernel
theorem dX4_tellThing_19 : decode cX4_tellThing 19 = .ok (.aload_n 0, 1) := by decide +kernel
theorem dX4_tellThing_20 : decode cX4_tellThing 20 = .ok (.getfield 27, 3) := by decide +kernel
theorem dX4_tellThing_23 : decode cX4_tellThing 23 = .ok (.iconst 1, 1) := by decide +kernel
theorem dX4_tellThing_24 : decode cX4_tellThing 24 = .ok (.iload_n 1, 1) := by decide +kernel
theorem dX4_tellThing_25 : decode cX4_tellThing 25 = .ok (.ishl, 1) := by decide +kernel
theorem dX4_tellThing_26 : decode cX4_tellThing 26 = .ok (.iconst (-1), 1) := by decide +kernel
theorem dX4_tellThing_27 : decode cX4_tellThing 27 = .ok (.ixor, 1) := by decide +kernel
theorem dX4_tellThing_28 : decode cX4_tellThing 28 = .ok (.iand, 1) := by decide +kernel
theorem dX4_tellThing_29 : decode cX4_tellThing 29 = .ok (.iload 4, 2) := by decide +kernel
theorem dX4_tellThing_31 : decode cX4_tellThing 31 = .ok (.iload_n 1, 1) := by decide +kernel
theorem dX4_tellThing_32 : decode cX4_tellThing 32 = .ok (.ishl, 1) := by decide +kernel
theorem dX4_tellThing_33 : decode cX4_tellThing 33 = .ok (.ior, 1) := by decide +kernel
theorem dX4_tellThing_34 : decode cX4_tellThing 34 = .ok (.putfield 27, 3) := by decide +kernel
theorem dX4_tellThing_37 : decode cX4_tellThing 37 = .ok (.return_, 1) := by decide +kernel
def f_X4_tellThing (S : St) (x1 : Int32) (x2 : Int32) (x3 : Int32) (x4 : Int32) : Option St :=
  obd (f_X10_put S 2 x1 x2) fun S1 =>
  obd (f_X10_put S1 3 x1 x3) fun S2 =>
  bnd (setI S2 3 4 (((S2.1 3 4) &&& (((1 : Int32) <<< (x1 &&& 31)) ^^^ (-1))) ||| (x4 <<< (x1 &&& 31)))) fun S3 =>
  some S3
set_option maxHeartbeats 4000000 in
set_option maxRecDepth 100000 in
theorem c_X4_tellThing {l : Launch} {D : va_G} {cI cC cS : ClassId} {ad adK adV : Nat → Nat} {S S1 : St} {x1 : Int32} {x2 : Int32} {x3 : Int32} {x4 : Int32} (h : f_X4_tellThing S x1 x2 x3 x4 = some S1) : Kt l D (xw cI cC cS ad) (KX D (xtys cI cC cS) adK adV) yX4_tellThing cX4_tellThing 5 none (1) (22) [.ref (ad 3), .int x1, .int x2, .int x3, .int x4] S (none) S1 := by
  refine k_ent (ins := .return_) (st := []) (by decide +kernel) (Nat.le_of_ble_eq_true rfl) ret_v ?_
  intro p e s m args below meth c A Q C hK I hA hq ls hl
  have C : CallFix p m c cX4_tellThing 5 s args TT RX4 := C
  have hx := C.1
  have hb := C.2.1
  have kx := kx_ok D (xtys cI cC cS) adK adV
  have hl : lv_has ls 5 [(0, .ref (ad 3)), (1, .int x1), (2, .int x2), (3, .int x3), (4, .int x4)] := hl
  unfold f_X4_tellThing at h
  refine lv_aload_n hx hb dX4_tellThing_0 rfl (lv_at hl 0 rfl) ?_
  refine gx_3_0 C hK I fl_X4_9 dX4_tellThing_1 ?_
  refine lv_iload_n hx hb dX4_tellThing_4 rfl (lv_at hl 1 rfl) ?_
  refine lv_iload_n hx hb dX4_tellThing_5 rfl (lv_at hl 2 rfl) ?_
  obtain ⟨S1, e1, h⟩ := obd_ex h
  refine k_SN (As := [.ref (ad 13), .int x1, .int x2]) (rest := []) (st1 := []) C kx hK I hA (c_X10_put e1) ⟨Nat.le_of_ble_eq_true rfl, Nat.le_of_ble_eq_true rfl⟩ ms_X10_put lk_X4_66 rfl hl.1 rfl (Nat.le_of_ble_eq_true rfl) dX4_tellThing_6 rfl (fun H locs I => ?_)
  refine lv_aload_n hx hb dX4_tellThing_9 rfl (lv_at hl 0 rfl) ?_
  refine gx_3_1 C hK I fl_X4_15 dX4_tellThing_10 ?_
  refine lv_iload_n hx hb dX4_tellThing_13 rfl (lv_at hl 1 rfl) ?_
  refine lv_iload_n hx hb dX4_tellThing_14 rfl (lv_at hl 3 rfl) ?_
  obtain ⟨S2, e2, h⟩ := obd_ex h
  refine k_SN (As := [.ref (ad 14), .int x1, .int x3]) (rest := []) (st1 := []) C kx hK I hA (c_X10_put e2) ⟨Nat.le_of_ble_eq_true rfl, Nat.le_of_ble_eq_true rfl⟩ ms_X10_put lk_X4_66 rfl hl.1 rfl (Nat.le_of_ble_eq_true rfl) dX4_tellThing_15 rfl (fun H locs I => ?_)
  refine lv_aload_n hx hb dX4_tellThing_18 rfl (lv_at hl 0 rfl) ?_
  refine lv_aload_n hx hb dX4_tellThing_19 rfl (lv_at hl 0 rfl) ?_
  refine gx_3_4 C hK I fl_X4_27 dX4_tellThing_20 ?_
  refine lv_iconst (v := 1) hx hb dX4_tellThing_23 (by decide) ?_
  refine lv_iload_n hx hb dX4_tellThing_24 rfl (lv_at hl 1 rfl) ?_
  refine lv_ishl hx hb dX4_tellThing_25 ?_
  refine lv_iconst (v := (-1)) hx hb dX4_tellThing_26 (by decide) ?_
  refine lv_ixor hx hb dX4_tellThing_27 ?_
  refine lv_iand hx hb dX4_tellThing_28 ?_
  refine lv_iload hx hb dX4_tellThing_29 (lv_at hl 4 rfl) ?_
  refine lv_iload_n hx hb dX4_tellThing_31 rfl (lv_at hl 1 rfl) ?_
  refine lv_ishl hx hb dX4_tellThing_32 ?_
  refine lv_ior hx hb dX4_tellThing_33 ?_
  refine px_3_4 C hK I fl_X4_27 dX4_tellThing_34 (fun S3 eS3 H locs I => ?_)
  have h := bnd_at eS3 h
  clear eS3
  exact rt_v hq h I dX4_tellThing_37
theorem dX4_tellWay_0 : decode cX4_tellWay 0 = .ok (.aload_n 0, 1) := by decide +kernel
theorem dX4_tellWay_1 : decode cX4_tellWay 1 = .ok (.getfield 18, 3) := by decide +kernel
theorem dX4_tellWay_4 : decode cX4_tellWay 4 = .ok (.iload_n 1, 1) := by decide +kernel
theorem dX4_tellWay_5 : decode cX4_tellWay 5 = .ok (.bipush 6, 2) := by decide +kernel
theorem dX4_tellWay_7 : decode cX4_tellWay 7 = .ok (.imul, 1) := by decide +kernel
theorem dX4_tellWay_8 : decode cX4_tellWay 8 = .ok (.iload_n 2, 1) := by decide +kernel
theorem dX4_tellWay_9 : decode cX4_tellWay 9 = .ok (.iadd, 1) := by decide +kernel
theorem dX4_tellWay_10 : decode cX4_tellWay 10 = .ok (.iload_n 3, 1) := by decide +kernel
theorem dX4_tellWay_11 : decode cX4_tellWay 11 = .ok (.invokestatic 66, 3) := by decide +kernel
theorem dX4_tellWay_14 : decode cX4_tellWay 14 = .ok (.aload_n 0, 1) := by decide +kernel
theorem dX4_tellWay_15 : decode cX4_tellWay 15 = .ok (.getfield 18, 3) := by decide +kernel
theorem dX4_tellWay_18 : decode cX4_tellWay 18 = .ok (.iload_n 2, 1) := by decide +kernel
theorem dX4_tellWay_19 : decode cX4_tellWay 19 = .ok (.bipush 6, 2) := by decide +kernel
theorem dX4_tellWay_21 : decode cX4_tellWay 21 = .ok (.imul, 1) := by decide +kernel
theorem dX4_tellWay_22 : decode cX4_tellWay 22 = .ok (.iload_n 1, 1) := by decide +kernel
theorem dX4_tellWay_23 : decode cX4_tellWay 23 = .ok (.iadd, 1) := by decide +kernel
theorem dX4_tellWay_24 : decode cX4_tellWay 24 = .ok (.iload_n 3, 1) := by decide +kernel
theorem dX4_tellWay_25 : decode cX4_tellWay 25 = .ok (.invokestatic 66, 3) := by decide +kernel
theorem dX4_tellWay_28 : decode cX4_tellWay 28 = .ok (.return_, 1) := by decide +kernel
def f_X4_tellWay (S : St) (x1 : Int32) (x2 : Int32) (x3 : Int32) : Option St :=
  obd (f_X10_put S 4 ((x1 * 6) + x2) x3) fun S1 =>
  obd (f_X10_put S1 4 ((x2 * 6) + x1) x3) fun S2 =>
  some S2
set_option maxHeartbeats 4000000 in
set_option maxRecDepth 100000 in
theorem c_X4_tellWay {l : Launch} {D : va_G} {cI cC cS : ClassId} {ad adK adV : Nat → Nat} {S S1 : St} {x1 : Int32} {x2 : Int32} {x3 : Int32} (h : f_X4_tellWay S x1 x2 x3 = some S1) : Kt l D (xw cI cC cS ad) (KX D (xtys cI cC cS) adK adV) yX4_tellWay cX4_tellWay 4 none (1) (22) [.ref (ad 3), .int x1, .int x2, .int x3] S (none) S1 := by
  refine k_ent (ins := .return_) (st := []) (by decide +kernel) (Nat.le_of_ble_eq_true rfl) ret_v ?_
  intro p e s m args below meth c A Q C hK I hA hq ls hl
  have C : CallFix p m c cX4_tellWay 4 s args TT RX4 := C
  have hx := C.1
  have hb := C.2.1
  have kx := kx_ok D (xtys cI cC cS) adK adV
  have hl : lv_has ls 4 [(0, .ref (ad 3)), (1, .int x1), (2, .int x2), (3, .int x3)] := hl
  unfold f_X4_tellWay at h
  refine lv_aload_n hx hb dX4_tellWay_0 rfl (lv_at hl 0 rfl) ?_
  refine gx_3_2 C hK I fl_X4_18 dX4_tellWay_1 ?_
  refine lv_iload_n hx hb dX4_tellWay_4 rfl (lv_at hl 1 rfl) ?_
  refine lv_bipush (v := 6) hx hb dX4_tellWay_5 (by decide) ?_
  refine lv_imul hx hb dX4_tellWay_7 ?_
  refine lv_iload_n hx hb dX4_tellWay_8 rfl (lv_at hl 2 rfl) ?_
  refine lv_iadd hx hb dX4_tellWay_9 ?_
  refine lv_iload_n hx hb dX4_tellWay_10 rfl (lv_at hl 3 rfl) ?_
  obtain ⟨S1, e1, h⟩ := obd_ex h
  refine k_SN (As := [.ref (ad 15), .int ((x1 * 6) + x2), .int x3]) (rest := []) (st1 := []) C kx hK I hA (c_X10_put e1) ⟨Nat.le_of_ble_eq_true rfl, Nat.le_of_ble_eq_true rfl⟩ ms_X10_put lk_X4_66 rfl hl.1 rfl (Nat.le_of_ble_eq_true rfl) dX4_tellWay_11 rfl (fun H locs I => ?_)
  refine lv_aload_n hx hb dX4_tellWay_14 rfl (lv_at hl 0 rfl) ?_
  refine gx_3_2 C hK I fl_X4_18 dX4_tellWay_15 ?_
  refine lv_iload_n hx hb dX4_tellWay_18 rfl (lv_at hl 2 rfl) ?_
  refine lv_bipush (v := 6) hx hb dX4_tellWay_19 (by decide) ?_
  refine lv_imul hx hb dX4_tellWay_21 ?_
  refine lv_iload_n hx hb dX4_tellWay_22 rfl (lv_at hl 1 rfl) ?_
  refine lv_iadd hx hb dX4_tellWay_23 ?_
  refine lv_iload_n hx hb dX4_tellWay_24 rfl (lv_at hl 3 rfl) ?_
  obtain ⟨S2, e2, h⟩ := obd_ex h
  refine k_SN (As := [.ref (ad 15), .int ((x2 * 6) + x1), .int x3]) (rest := []) (st1 := []) C kx hK I hA (c_X10_put e2) ⟨Nat.le_of_ble_eq_true rfl, Nat.le_of_ble_eq_true rfl⟩ ms_X10_put lk_X4_66 rfl hl.1 rfl (Nat.le_of_ble_eq_true rfl) dX4_tellWay_25 rfl (fun H locs I => ?_)
  exact rt_v hq h I dX4_tellWay_28
theorem lk_X4_74 : Cond.methodLink RX4 74 yX1_tell ∈ TT := tt_of 613 (by decide +kernel) rfl
theorem mv_X1_tell : MV yX1_tell cX1_tell 3 none 2 := ⟨tt_of 616 (by decide +kernel) rfl, tt_of 614 (by decide +kernel) rfl, tt_of 615 (by decide +kernel) rfl, tt_of 69 (by decide +kernel) rfl, ⟨by decide +kernel, by decide +kernel, by decide +kernel⟩⟩
theorem dX4_tellCall_0 : decode cX4_tellCall 0 = .ok (.aload_n 0, 1) := by decide +kernel
theorem dX4_tellCall_1 : decode cX4_tellCall 1 = .ok (.iload_n 1, 1) := by decide +kernel
theorem dX4_tellCall_2 : decode cX4_tellCall 2 = .ok (.invokevirtual 70, 3) := by decide +kernel
theorem dX4_tellCall_5 : decode cX4_tellCall 5 = .ok (.astore 4, 2) := by decide +kernel
theorem dX4_tellCall_7 : decode cX4_tellCall 7 = .ok (.aload 4, 2) := by decide +kernel
theorem dX4_tellCall_9 : decode cX4_tellCall 9 = .ok (.ifnull 10, 3) := by decide +kernel
theorem dX4_tellCall_12 : decode cX4_tellCall 12 = .ok (.aload 4, 2) := by decide +kernel
theorem dX4_tellCall_14 : decode cX4_tellCall 14 = .ok (.aload_n 2, 1) := by decide +kernel
theorem dX4_tellCall_15 : decode cX4_tellCall 15 = .ok (.iload_n 3, 1) := by decide +kernel
theorem dX4_tellCall_16 : decode cX4_tellCall 16 = .ok (.invokevirtual 74, 3) := by decide +kernel
theorem dX4_tellCall_19 : decode cX4_tellCall 19 = .ok (.return_, 1) := by decide +kernel
def f_X4_tellCall (S : St) (x1 : Int32) (x3 : Int32) : Option St :=
  obd2 (f_X4_callAt S x1) fun r1 S1 =>
  oel r1 (
    some S1
  ) fun v2 =>
    obd (f_X1_tell S1 v2 x3) fun S3 =>
    some S3
set_option maxHeartbeats 4000000 in
set_option maxRecDepth 100000 in
theorem c_X4_tellCall {l : Launch} {D : va_G} {cI cC cS : ClassId} {ad adK adV : Nat → Nat} {S S1 : St} {x1 : Int32} {x3 : Int32} (h : f_X4_tellCall S x1 x3 = some S1) : Kt l D (xw cI cC cS ad) (KX D (xtys cI cC cS) adK adV) yX4_tellCall cX4_tellCall 5 none (3) (66) [.ref (ad 3), .int x1, .ref (ad 2), .int x3] S (none) S1 := by
  refine k_ent (ins := .return_) (st := []) (by decide +kernel) (Nat.le_of_ble_eq_true rfl) ret_v ?_
  intro p e s m args below meth c A Q C hK I hA hq ls hl
  have C : CallFix p m c cX4_tellCall 5 s args TT RX4 := C
  have hx := C.1
  have hb := C.2.1
  have kx := kx_ok D (xtys cI cC cS) adK adV
  have hl : lv_has ls 5 [(0, .ref (ad 3)), (1, .int x1), (2, .ref (ad 2)), (3, .int x3)] := hl
  unfold f_X4_tellCall at h
  refine lv_aload_n hx hb dX4_tellCall_0 rfl (lv_at hl 0 rfl) ?_
  refine lv_iload_n hx hb dX4_tellCall_1 rfl (lv_at hl 1 rfl) ?_
  obtain ⟨r1, S1, e1, h⟩ := obd2_ex h
  refine k_V (As := [.int x1]) (rest := []) (st1 := [rC ad r1]) C kx hK I hA (c_X4_callAt e1) ⟨Nat.le_of_ble_eq_true rfl, Nat.le_of_ble_eq_true rfl⟩ mv_X4_callAt lk_X4_70 3 4 (xw_3 (cI := cI) (ad := ad) (cC := cC) (cS := cS)) rfl rfl hl.1 rfl (Nat.le_of_ble_eq_true rfl) dX4_tellCall_2 rfl (fun H locs I => ?_)
  refine k_astore _ (lv' := [(4, rC ad r1), (0, .ref (ad 3)), (1, .int x1), (2, .ref (ad 2)), (3, .int x3)]) hx hb dX4_tellCall_5 rfl hl (by decide) rfl (fun ls hl => ?_)
  refine k_aload _ hx hb dX4_tellCall_7 rfl (lv_at hl 0 rfl) ?_
  refine k_ifn hx hb dX4_tellCall_9 (tgt := 19) (by decide) (fun ho => ?_) (fun v2 ho => ?_)
  · subst ho
    have h := oel_n h
    have hl : lv_has ls 5 [(4, .null), (0, .ref (ad 3)), (1, .int x1), (2, .ref (ad 2)), (3, .int x3)] := hl
    exact rt_v hq h I dX4_tellCall_19
  · subst ho
    have h := oel_s h
    have hl : lv_has ls 5 [(4, .ref (ad (21 + v2.val))), (0, .ref (ad 3)), (1, .int x1), (2, .ref (ad 2)), (3, .int x3)] := hl
    refine lv_aload hx hb dX4_tellCall_12 (lv_at hl 0 rfl) ?_
    refine lv_aload_n hx hb dX4_tellCall_14 rfl (lv_at hl 3 rfl) ?_
    refine lv_iload_n hx hb dX4_tellCall_15 rfl (lv_at hl 4 rfl) ?_
    obtain ⟨S3, e3, h⟩ := obd_ex h
    refine k_V (As := [.ref (ad 2), .int x3]) (rest := []) (st1 := []) C kx hK I hA (c_X1_tell e3) ⟨Nat.le_of_ble_eq_true rfl, Nat.le_of_ble_eq_true rfl⟩ mv_X1_tell lk_X4_74 (21 + v2.val) 1 (xw_C (cI := cI) (cC := cC) (cS := cS) (ad := ad) v2) rfl rfl hl.1 rfl (Nat.le_of_ble_eq_true rfl) dX4_tellCall_16 rfl (fun H locs I => ?_)
    exact rt_v hq h I dX4_tellCall_19
theorem lk_X4_78 : Cond.methodLink RX4 78 yX1_tellSort ∈ TT := tt_of 622 (by decide +kernel) rfl
theorem mv_X1_tellSort : MV yX1_tellSort cX1_tellSort 4 none 2 := ⟨tt_of 625 (by decide +kernel) rfl, tt_of 623 (by decide +kernel) rfl, tt_of 624 (by decide +kernel) rfl, tt_of 69 (by decide +kernel) rfl, ⟨by decide +kernel, by decide +kernel, by decide +kernel⟩⟩
theorem dX4_tellSort_0 : decode cX4_tellSort 0 = .ok (.aload_n 0, 1) := by decide +kernel
theorem dX4_tellSort_1 : decode cX4_tellSort 1 = .ok (.iload_n 1, 1) := by decide +kernel
theorem dX4_tellSort_2 : decode cX4_tellSort 2 = .ok (.invokevirtual 70, 3) := by decide +kernel
theorem dX4_tellSort_5 : decode cX4_tellSort 5 = .ok (.astore 4, 2) := by decide +kernel
theorem dX4_tellSort_7 : decode cX4_tellSort 7 = .ok (.aload 4, 2) := by decide +kernel
theorem dX4_tellSort_9 : decode cX4_tellSort 9 = .ok (.ifnull 10, 3) := by decide +kernel
theorem dX4_tellSort_12 : decode cX4_tellSort 12 = .ok (.aload 4, 2) := by decide +kernel
theorem dX4_tellSort_14 : decode cX4_tellSort 14 = .ok (.aload_n 2, 1) := by decide +kernel
theorem dX4_tellSort_15 : decode cX4_tellSort 15 = .ok (.iload_n 3, 1) := by decide +kernel
theorem dX4_tellSort_16 : decode cX4_tellSort 16 = .ok (.invokevirtual 78, 3) := by decide +kernel
theorem dX4_tellSort_19 : decode cX4_tellSort 19 = .ok (.return_, 1) := by decide +kernel
def f_X4_tellSort (S : St) (x1 : Int32) (x3 : Int32) : Option St :=
  obd2 (f_X4_callAt S x1) fun r1 S1 =>
  oel r1 (
    some S1
  ) fun v2 =>
    obd (f_X1_tellSort S1 v2 x3) fun S3 =>
    some S3
set_option maxHeartbeats 4000000 in
set_option maxRecDepth 100000 in
theorem c_X4_tellSort {l : Launch} {D : va_G} {cI cC cS : ClassId} {ad adK adV : Nat → Nat} {S S1 : St} {x1 : Int32} {x3 : Int32} (h : f_X4_tellSort S x1 x3 = some S1) : Kt l D (xw cI cC cS ad) (KX D (xtys cI cC cS) adK adV) yX4_tellSort cX4_tellSort 5 none (3) (67) [.ref (ad 3), .int x1, .ref (ad 2), .int x3] S (none) S1 := by
  refine k_ent (ins := .return_) (st := []) (by decide +kernel) (Nat.le_of_ble_eq_true rfl) ret_v ?_
  intro p e s m args below meth c A Q C hK I hA hq ls hl
  have C : CallFix p m c cX4_tellSort 5 s args TT RX4 := C
  have hx := C.1
  have hb := C.2.1
  have kx := kx_ok D (xtys cI cC cS) adK adV
  have hl : lv_has ls 5 [(0, .ref (ad 3)), (1, .int x1), (2, .ref (ad 2)), (3, .int x3)] := hl
  unfold f_X4_tellSort at h
  refine lv_aload_n hx hb dX4_tellSort_0 rfl (lv_at hl 0 rfl) ?_
  refine lv_iload_n hx hb dX4_tellSort_1 rfl (lv_at hl 1 rfl) ?_
  obtain ⟨r1, S1, e1, h⟩ := obd2_ex h
  refine k_V (As := [.int x1]) (rest := []) (st1 := [rC ad r1]) C kx hK I hA (c_X4_callAt e1) ⟨Nat.le_of_ble_eq_true rfl, Nat.le_of_ble_eq_true rfl⟩ mv_X4_callAt lk_X4_70 3 4 (xw_3 (cI := cI) (ad := ad) (cC := cC) (cS := cS)) rfl rfl hl.1 rfl (Nat.le_of_ble_eq_true rfl) dX4_tellSort_2 rfl (fun H locs I => ?_)
  refine k_astore _ (lv' := [(4, rC ad r1), (0, .ref (ad 3)), (1, .int x1), (2, .ref (ad 2)), (3, .int x3)]) hx hb dX4_tellSort_5 rfl hl (by decide) rfl (fun ls hl => ?_)
  refine k_aload _ hx hb dX4_tellSort_7 rfl (lv_at hl 0 rfl) ?_
  refine k_ifn hx hb dX4_tellSort_9 (tgt := 19) (by decide) (fun ho => ?_) (fun v2 ho => ?_)
  · subst ho
    have h := oel_n h
    have hl : lv_has ls 5 [(4, .null), (0, .ref (ad 3)), (1, .int x1), (2, .ref (ad 2)), (3, .int x3)] := hl
    exact rt_v hq h I dX4_tellSort_19
  · subst ho
    have h := oel_s h
    have hl : lv_has ls 5 [(4, .ref (ad (21 + v2.val))), (0, .ref (ad 3)), (1, .int x1), (2, .ref (ad 2)), (3, .int x3)] := hl
    refine lv_aload hx hb dX4_tellSort_12 (lv_at hl 0 rfl) ?_
    refine lv_aload_n hx hb dX4_tellSort_14 rfl (lv_at hl 3 rfl) ?_
    refine lv_iload_n hx hb dX4_tellSort_15 rfl (lv_at hl 4 rfl) ?_
    obtain ⟨S3, e3, h⟩ := obd_ex h
    refine k_V (As := [.ref (ad 2), .int x3]) (rest := []) (st1 := []) C kx hK I hA (c_X1_tellSort e3) ⟨Nat.le_of_ble_eq_true rfl, Nat.le_of_ble_eq_true rfl⟩ mv_X1_tellSort lk_X4_78 (21 + v2.val) 1 (xw_C (cI := cI) (cC := cC) (cS := cS) (ad := ad) v2) rfl rfl hl.1 rfl (Nat.le_of_ble_eq_true rfl) dX4_tellSort_16 rfl (fun H locs I => ?_)
    exact rt_v hq h I dX4_tellSort_19
theorem lk_X4_45 : Cond.methodLink RX4 45 yX5_told ∈ TT := tt_of 591 (by decide +kernel) rfl
theorem lk_X4_51 : Cond.methodLink RX4 51 yX4_tellThing ∈ TT := tt_of 596 (by decide +kernel) rfl
theorem mv_X4_tellThing : MV yX4_tellThing cX4_tellThing 5 none 4 := ⟨tt_of 599 (by decide +kernel) rfl, tt_of 598 (by decide +kernel) rfl, tt_of 12 (by decide +kernel) rfl, tt_of 68 (by decide +kernel) rfl, ⟨by decide +kernel, by decide +kernel, by decide +kernel⟩⟩
theorem lk_X4_55 : Cond.methodLink RX4 55 yX4_tellWay ∈ TT := tt_of 601 (by decide +kernel) rfl
theorem mv_X4_tellWay : MV yX4_tellWay cX4_tellWay 4 none 3 := ⟨tt_of 604 (by decide +kernel) rfl, tt_of 603 (by decide +kernel) rfl, tt_of 13 (by decide +kernel) rfl, tt_of 68 (by decide +kernel) rfl, ⟨by decide +kernel, by decide +kernel, by decide +kernel⟩⟩
theorem lk_X4_59 : Cond.methodLink RX4 59 yX4_tellCall ∈ TT := tt_of 605 (by decide +kernel) rfl
theorem mv_X4_tellCall : MV yX4_tellCall cX4_tellCall 5 none 3 := ⟨tt_of 608 (by decide +kernel) rfl, tt_of 607 (by decide +kernel) rfl, tt_of 14 (by decide +kernel) rfl, tt_of 68 (by decide +kernel) rfl, ⟨by decide +kernel, by decide +kernel, by decide +kernel⟩⟩
theorem lk_X4_63 : Cond.methodLink RX4 63 yX4_tellSort ∈ TT := tt_of 618 (by decide +kernel) rfl
theorem mv_X4_tellSort : MV yX4_tellSort cX4_tellSort 5 none 3 := ⟨tt_of 621 (by decide +kernel) rfl, tt_of 620 (by decide +kernel) rfl, tt_of 16 (by decide +kernel) rfl, tt_of 68 (by decide +kernel) rfl, ⟨by decide +kernel, by decide +kernel, by decide +kernel⟩⟩
theorem dX4_tell_0 : decode cX4_tell 0 = .ok (.aload_n 1, 1) := by decide +kernel
theorem dX4_tell_1 : decode cX4_tell 1 = .ok (.iload_n 2, 1) := by decide +kernel
theorem dX4_tell_2 : decode cX4_tell 2 = .ok (.iconst 1, 1) := by decide +kernel
theorem dX4_tell_3 : decode cX4_tell 3 = .ok (.invokevirtual 45, 3) := by decide +kernel
theorem dX4_tell_6 : decode cX4_tell 6 = .ok (.istore_n 3, 1) := by decide +kernel
theorem dX4_tell_7 : decode cX4_tell 7 = .ok (.aload_n 1, 1) := by decide +kernel
theorem dX4_tell_8 : decode cX4_tell 8 = .ok (.iload_n 2, 1) := by decide +kernel
theorem dX4_tell_9 : decode cX4_tell 9 = .ok (.iconst 0, 1) := by decide +kernel
theorem dX4_tell_10 : decode cX4_tell 10 = .ok (.invokevirtual 45, 3) := by decide +kernel
theorem dX4_tell_13 : decode cX4_tell 13 = .ok (.tableswitch 133 1 7 #[43, 69, 77, 85, 93, 113, 123], 43) := by decide +kernel
theorem dX4_tell_56 : decode cX4_tell 56 = .ok (.aload_n 0, 1) := by decide +kernel
theorem dX4_tell_57 : decode cX4_tell 57 = .ok (.iload_n 3, 1) := by decide +kernel
theorem dX4_tell_58 : decode cX4_tell 58 = .ok (.aload_n 1, 1) := by decide +kernel
theorem dX4_tell_59 : decode cX4_tell 59 = .ok (.iload_n 2, 1) := by decide +kernel
theorem dX4_tell_60 : decode cX4_tell 60 = .ok (.iconst 2, 1) := by decide +kernel
theorem dX4_tell_61 : decode cX4_tell 61 = .ok (.invokevirtual 45, 3) := by decide +kernel
theorem dX4_tell_64 : decode cX4_tell 64 = .ok (.aload_n 1, 1) := by decide +kernel
theorem dX4_tell_65 : decode cX4_tell 65 = .ok (.iload_n 2, 1) := by decide +kernel
theorem dX4_tell_66 : decode cX4_tell 66 = .ok (.iconst 3, 1) := by decide +kernel
theorem dX4_tell_67 : decode cX4_tell 67 = .ok (.invokevirtual 45, 3) := by decide +kernel
theorem dX4_tell_70 : decode cX4_tell 70 = .ok (.aload_n 1, 1) := by decide +kernel
theorem dX4_tell_71 : decode cX4_tell 71 = .ok (.iload_n 2, 1) := by decide +kernel
theorem dX4_tell_72 : decode cX4_tell 72 = .ok (.iconst 4, 1) := by decide +kernel
theorem dX4_tell_73 : decode cX4_tell 73 = .ok (.invokevirtual 45, 3) := by decide +kernel
theorem dX4_tell_76 : decode cX4_tell 76 = .ok (.invokevirtual 51, 3) := by decide +kernel
theorem dX4_tell_79 : decode cX4_tell 79 = .ok (.goto 67, 3) := by decide +kernel
theorem dX4_tell_82 : decode cX4_tell 82 = .ok (.aload_n 0, 1) := by decide +kernel
theorem dX4_tell_83 : decode cX4_tell 83 = .ok (.iload_n 3, 1) := by decide +kernel
theorem dX4_tell_84 : decode cX4_tell 84 = .ok (.putfield 31, 3) := by decide +kernel
theorem dX4_tell_87 : decode cX4_tell 87 = .ok (.goto 59, 3) := by decide +kernel
theorem dX4_tell_90 : decode cX4_tell 90 = .ok (.aload_n 0, 1) := by decide +kernel
theorem dX4_tell_91 : decode cX4_tell 91 = .ok (.iload_n 3, 1) := by decide +kernel
theorem dX4_tell_92 : decode cX4_tell 92 = .ok (.putfield 34, 3) := by decide +kernel
theorem dX4_tell_95 : decode cX4_tell 95 = .ok (.goto 51, 3) := by decide +kernel
theorem dX4_tell_98 : decode cX4_tell 98 = .ok (.aload_n 0, 1) := by decide +kernel
theorem dX4_tell_99 : decode cX4_tell 99 = .ok (.iload_n 3, 1) := by decide +kernel
theorem dX4_tell_100 : decode cX4_tell 100 = .ok (.putfield 37, 3) := by decide +kernel
theorem dX4_tell_103 : decode cX4_tell 103 = .ok (.goto 43, 3) := by decide +kernel
theorem dX4_tell_106 : decode cX4_tell 106 = .ok (.aload_n 0, 1) := by decide +kernel
theorem dX4_tell_107 : decode cX4_tell 107 = .ok (.iload_n 3, 1) := by decide +kernel
theorem dX4_tell_108 : decode cX4_tell 108 = .ok (.aload_n 1, 1) := by decide +kernel
theorem dX4_tell_109 : decode cX4_tell 109 = .ok (.iload_n 2, 1) := by decide +kernel
theorem dX4_tell_110 : decode cX4_tell 110 = .ok (.iconst 2, 1) := by decide +kernel
theorem dX4_tell_111 : decode cX4_tell 111 = .ok (.invokevirtual 45, 3) := by decide +kernel
theorem dX4_tell_114 : decode cX4_tell 114 = .ok (.aload_n 1, 1) := by decide +kernel
theorem dX4_tell_115 : decode cX4_tell 115 = .ok (.iload_n 2, 1) := by decide +kernel
theorem dX4_tell_116 : decode cX4_tell 116 = .ok (.iconst 3, 1) := by decide +kernel
theorem dX4_tell_117 : decode cX4_tell 117 = .ok (.invokevirtual 45, 3) := by decide +kernel
theorem dX4_tell_120 : decode cX4_tell 120 = .ok (.invokevirtual 55, 3) := by decide +kernel
theorem dX4_tell_123 : decode cX4_tell 123 = .ok (.goto 23, 3) := by decide +kernel
theorem dX4_tell_126 : decode cX4_tell 126 = .ok (.aload_n 0, 1) := by decide +kernel
theorem dX4_tell_127 : decode cX4_tell 127 = .ok (.iload_n 3, 1) := by decide +kernel
theorem dX4_tell_128 : decode cX4_tell 128 = .ok (.aload_n 1, 1) := by decide +kernel
theorem dX4_tell_129 : decode cX4_tell 129 = .ok (.iload_n 2, 1) := by decide +kernel
theorem dX4_tell_130 : decode cX4_tell 130 = .ok (.invokevirtual 59, 3) := by decide +kernel
theorem dX4_tell_133 : decode cX4_tell 133 = .ok (.goto 13, 3) := by decide +kernel
theorem dX4_tell_136 : decode cX4_tell 136 = .ok (.aload_n 0, 1) := by decide +kernel
theorem dX4_tell_137 : decode cX4_tell 137 = .ok (.iload_n 3, 1) := by decide +kernel
theorem dX4_tell_138 : decode cX4_tell 138 = .ok (.aload_n 1, 1) := by decide +kernel
theorem dX4_tell_139 : decode cX4_tell 139 = .ok (.iload_n 2, 1) := by decide +kernel
theorem dX4_tell_140 : decode cX4_tell 140 = .ok (.invokevirtual 63, 3) := by decide +kernel
theorem dX4_tell_143 : decode cX4_tell 143 = .ok (.goto 3, 3) := by decide +kernel
theorem dX4_tell_146 : decode cX4_tell 146 = .ok (.return_, 1) := by decide +kernel
def f_X4_tell (S : St) (x2 : Int32) : Option St :=
  obd2 (f_X5_told S x2 1) fun r1 S1 =>
  obd2 (f_X5_told S1 x2 0) fun r2 S2 =>
  if r2 = 1 then (
    obd2 (f_X5_told S2 x2 2) fun r4 S4 =>
    obd2 (f_X5_told S4 x2 3) fun r5 S5 =>
    obd2 (f_X5_told S5 x2 4) fun r6 S6 =>
    obd (f_X4_tellThing S6 r1 r4 r5 r6) fun S7 =>
    some S7
  ) else (
    if r2 = 2 then (
      bnd (setI S2 3 5 r1) fun S9 =>
      some S9
    ) else (
      if r2 = 3 then (
        bnd (setI S2 3 6 r1) fun S11 =>
        some S11
      ) else (
        if r2 = 4 then (
          bnd (setI S2 3 7 r1) fun S13 =>
          some S13
        ) else (
          if r2 = 5 then (
            obd2 (f_X5_told S2 x2 2) fun r15 S15 =>
            obd2 (f_X5_told S15 x2 3) fun r16 S16 =>
            obd (f_X4_tellWay S16 r1 r15 r16) fun S17 =>
            some S17
          ) else (
            if r2 = 6 then (
              obd (f_X4_tellCall S2 r1 x2) fun S19 =>
              some S19
            ) else (
              if r2 = 7 then (
                obd (f_X4_tellSort S2 r1 x2) fun S21 =>
                some S21
              ) else (
                some S2
  )))))))
set_option maxHeartbeats 4000000 in
set_option maxRecDepth 100000 in
theorem c_X4_tell {l : Launch} {D : va_G} {cI cC cS : ClassId} {ad adK adV : Nat → Nat} {S S1 : St} {x2 : Int32} (h : f_X4_tell S x2 = some S1) : Kt l D (xw cI cC cS ad) (KX D (xtys cI cC cS) adK adV) yX4_tell cX4_tell 4 none (4) (91) [.ref (ad 3), .ref (ad 2), .int x2] S (none) S1 := by
  refine k_ent (ins := .return_) (st := []) (by decide +kernel) (Nat.le_of_ble_eq_true rfl) ret_v ?_
  intro p e s m args below meth c A Q C hK I hA hq ls hl
  have C : CallFix p m c cX4_tell 4 s args TT RX4 := C
  have hx := C.1
  have hb := C.2.1
  have kx := kx_ok D (xtys cI cC cS) adK adV
  have hl : lv_has ls 4 [(0, .ref (ad 3)), (1, .ref (ad 2)), (2, .int x2)] := hl
  unfold f_X4_tell at h
  refine lv_aload_n hx hb dX4_tell_0 rfl (lv_at hl 1 rfl) ?_
  refine lv_iload_n hx hb dX4_tell_1 rfl (lv_at hl 2 rfl) ?_
  refine lv_iconst (v := 1) hx hb dX4_tell_2 (by decide) ?_
  obtain ⟨r1, S1, e1, h⟩ := obd2_ex h
  refine k_V (As := [.int x2, .int 1]) (rest := []) (st1 := [.int r1]) C kx hK I hA (c_X5_told e1) ⟨Nat.le_of_ble_eq_true rfl, Nat.le_of_ble_eq_true rfl⟩ mv_X5_told lk_X4_45 2 5 (xw_2 (cI := cI) (ad := ad) (cC := cC) (cS := cS)) rfl rfl hl.1 rfl (Nat.le_of_ble_eq_true rfl) dX4_tell_3 rfl (fun H locs I => ?_)
  refine lv_istore_n (lv' := [(3, .int r1), (0, .ref (ad 3)), (1, .ref (ad 2)), (2, .int x2)]) hx hb dX4_tell_6 rfl hl (by decide) rfl (fun ls hl => ?_)
  refine lv_aload_n hx hb dX4_tell_7 rfl (lv_at hl 2 rfl) ?_
  refine lv_iload_n hx hb dX4_tell_8 rfl (lv_at hl 3 rfl) ?_
  refine lv_iconst (v := 0) hx hb dX4_tell_9 (by decide) ?_
  obtain ⟨r2, S2, e2, h⟩ := obd2_ex h
  refine k_V (As := [.int x2, .int 0]) (rest := []) (st1 := [.int r2]) C kx hK I hA (c_X5_told e2) ⟨Nat.le_of_ble_eq_true rfl, Nat.le_of_ble_eq_true rfl⟩ mv_X5_told lk_X4_45 2 5 (xw_2 (cI := cI) (ad := ad) (cC := cC) (cS := cS)) rfl rfl hl.1 rfl (Nat.le_of_ble_eq_true rfl) dX4_tell_10 rfl (fun H locs I => ?_)
  rcases Decidable.em (r2 = 1) with c3 | c3
  · have h := ite_t c3 h
    rw [c3]
    refine lv_tableIn (x := 1) (off := 43) (tgt := 56) hx hb dX4_tell_13 (by decide) (by decide) (by decide) (by decide) ?_
    refine lv_aload_n hx hb dX4_tell_56 rfl (lv_at hl 1 rfl) ?_
    refine lv_iload_n hx hb dX4_tell_57 rfl (lv_at hl 0 rfl) ?_
    refine lv_aload_n hx hb dX4_tell_58 rfl (lv_at hl 2 rfl) ?_
    refine lv_iload_n hx hb dX4_tell_59 rfl (lv_at hl 3 rfl) ?_
    refine lv_iconst (v := 2) hx hb dX4_tell_60 (by decide) ?_
    obtain ⟨r4, S4, e4, h⟩ := obd2_ex h
    refine k_V (As := [.int x2, .int 2]) (rest := [.int r1, .ref (ad 3)]) (st1 := [.int r4, .int r1, .ref (ad 3)]) C kx hK I hA (c_X5_told e4) ⟨Nat.le_of_ble_eq_true rfl, Nat.le_of_ble_eq_true rfl⟩ mv_X5_told lk_X4_45 2 5 (xw_2 (cI := cI) (ad := ad) (cC := cC) (cS := cS)) rfl rfl hl.1 rfl (Nat.le_of_ble_eq_true rfl) dX4_tell_61 rfl (fun H locs I => ?_)
    refine lv_aload_n hx hb dX4_tell_64 rfl (lv_at hl 2 rfl) ?_
    refine lv_iload_n hx hb dX4_tell_65 rfl (lv_at hl 3 rfl) ?_
    refine lv_iconst (v := 3) hx hb dX4_tell_66 (by decide) ?_
    obtain ⟨r5, S5, e5, h⟩ := obd2_ex h
    refine k_V (As := [.int x2, .int 3]) (rest := [.int r4, .int r1, .ref (ad 3)]) (st1 := [.int r5, .int r4, .int r1, .ref (ad 3)]) C kx hK I hA (c_X5_told e5) ⟨Nat.le_of_ble_eq_true rfl, Nat.le_of_ble_eq_true rfl⟩ mv_X5_told lk_X4_45 2 5 (xw_2 (cI := cI) (ad := ad) (cC := cC) (cS := cS)) rfl rfl hl.1 rfl (Nat.le_of_ble_eq_true rfl) dX4_tell_67 rfl (fun H locs I => ?_)
    refine lv_aload_n hx hb dX4_tell_70 rfl (lv_at hl 2 rfl) ?_
    refine lv_iload_n hx hb dX4_tell_71 rfl (lv_at hl 3 rfl) ?_
    refine lv_iconst (v := 4) hx hb dX4_tell_72 (by decide) ?_
    obtain ⟨r6, S6, e6, h⟩ := obd2_ex h
    refine k_V (As := [.int x2, .int 4]) (rest := [.int r5, .int r4, .int r1, .ref (ad 3)]) (st1 := [.int r6, .int r5, .int r4, .int r1, .ref (ad 3)]) C kx hK I hA (c_X5_told e6) ⟨Nat.le_of_ble_eq_true rfl, Nat.le_of_ble_eq_true rfl⟩ mv_X5_told lk_X4_45 2 5 (xw_2 (cI := cI) (ad := ad) (cC := cC) (cS := cS)) rfl rfl hl.1 rfl (Nat.le_of_ble_eq_true rfl) dX4_tell_73 rfl (fun H locs I => ?_)
    obtain ⟨S7, e7, h⟩ := obd_ex h
    refine k_V (As := [.int r1, .int r4, .int r5, .int r6]) (rest := []) (st1 := []) C kx hK I hA (c_X4_tellThing e7) ⟨Nat.le_of_ble_eq_true rfl, Nat.le_of_ble_eq_true rfl⟩ mv_X4_tellThing lk_X4_51 3 4 (xw_3 (cI := cI) (ad := ad) (cC := cC) (cS := cS)) rfl rfl hl.1 rfl (Nat.le_of_ble_eq_true rfl) dX4_tell_76 rfl (fun H locs I => ?_)
    refine lv_goto (tgt := 146) hx hb dX4_tell_79 (by decide) ?_
    exact rt_v hq h I dX4_tell_146
  · have h := ite_n c3 h
    rcases Decidable.em (r2 = 2) with c8 | c8
    · have h := ite_t c8 h
      rw [c8]
      refine lv_tableIn (x := 2) (off := 69) (tgt := 82) hx hb dX4_tell_13 (by decide) (by decide) (by decide) (by decide) ?_
      refine lv_aload_n hx hb dX4_tell_82 rfl (lv_at hl 1 rfl) ?_
      refine lv_iload_n hx hb dX4_tell_83 rfl (lv_at hl 0 rfl) ?_
      refine px_3_5 C hK I fl_X4_31 dX4_tell_84 (fun S9 eS9 H locs I => ?_)
      have h := bnd_at eS9 h
      clear eS9
      refine lv_goto (tgt := 146) hx hb dX4_tell_87 (by decide) ?_
      exact rt_v hq h I dX4_tell_146
    · have h := ite_n c8 h
      rcases Decidable.em (r2 = 3) with c10 | c10
      · have h := ite_t c10 h
        rw [c10]
        refine lv_tableIn (x := 3) (off := 77) (tgt := 90) hx hb dX4_tell_13 (by decide) (by decide) (by decide) (by decide) ?_
        refine lv_aload_n hx hb dX4_tell_90 rfl (lv_at hl 1 rfl) ?_
        refine lv_iload_n hx hb dX4_tell_91 rfl (lv_at hl 0 rfl) ?_
        refine px_3_6 C hK I fl_X4_34 dX4_tell_92 (fun S11 eS11 H locs I => ?_)
        have h := bnd_at eS11 h
        clear eS11
        refine lv_goto (tgt := 146) hx hb dX4_tell_95 (by decide) ?_
        exact rt_v hq h I dX4_tell_146
      · have h := ite_n c10 h
        rcases Decidable.em (r2 = 4) with c12 | c12
        · have h := ite_t c12 h
          rw [c12]
          refine lv_tableIn (x := 4) (off := 85) (tgt := 98) hx hb dX4_tell_13 (by decide) (by decide) (by decide) (by decide) ?_
          refine lv_aload_n hx hb dX4_tell_98 rfl (lv_at hl 1 rfl) ?_
          refine lv_iload_n hx hb dX4_tell_99 rfl (lv_at hl 0 rfl) ?_
          refine px_3_7 C hK I fl_X4_37 dX4_tell_100 (fun S13 eS13 H locs I => ?_)
          have h := bnd_at eS13 h
          clear eS13
          refine lv_goto (tgt := 146) hx hb dX4_tell_103 (by decide) ?_
          exact rt_v hq h I dX4_tell_146
        · have h := ite_n c12 h
          rcases Decidable.em (r2 = 5) with c14 | c14
          · have h := ite_t c14 h
            rw [c14]
            refine lv_tableIn (x := 5) (off := 93) (tgt := 106) hx hb dX4_tell_13 (by decide) (by decide) (by decide) (by decide) ?_
            refine lv_aload_n hx hb dX4_tell_106 rfl (lv_at hl 1 rfl) ?_
            refine lv_iload_n hx hb dX4_tell_107 rfl (lv_at hl 0 rfl) ?_
            refine lv_aload_n hx hb dX4_tell_108 rfl (lv_at hl 2 rfl) ?_
            refine lv_iload_n hx hb dX4_tell_109 rfl (lv_at hl 3 rfl) ?_
            refine lv_iconst (v := 2) hx hb dX4_tell_110 (by decide) ?_
            obtain ⟨r15, S15, e15, h⟩ := obd2_ex h
            refine k_V (As := [.int x2, .int 2]) (rest := [.int r1, .ref (ad 3)]) (st1 := [.int r15, .int r1, .ref (ad 3)]) C kx hK I hA (c_X5_told e15) ⟨Nat.le_of_ble_eq_true rfl, Nat.le_of_ble_eq_true rfl⟩ mv_X5_told lk_X4_45 2 5 (xw_2 (cI := cI) (ad := ad) (cC := cC) (cS := cS)) rfl rfl hl.1 rfl (Nat.le_of_ble_eq_true rfl) dX4_tell_111 rfl (fun H locs I => ?_)
            refine lv_aload_n hx hb dX4_tell_114 rfl (lv_at hl 2 rfl) ?_
            refine lv_iload_n hx hb dX4_tell_115 rfl (lv_at hl 3 rfl) ?_
            refine lv_iconst (v := 3) hx hb dX4_tell_116 (by decide) ?_
            obtain ⟨r16, S16, e16, h⟩ := obd2_ex h
            refine k_V (As := [.int x2, .int 3]) (rest := [.int r15, .int r1, .ref (ad 3)]) (st1 := [.int r16, .int r15, .int r1, .ref (ad 3)]) C kx hK I hA (c_X5_told e16) ⟨Nat.le_of_ble_eq_true rfl, Nat.le_of_ble_eq_true rfl⟩ mv_X5_told lk_X4_45 2 5 (xw_2 (cI := cI) (ad := ad) (cC := cC) (cS := cS)) rfl rfl hl.1 rfl (Nat.le_of_ble_eq_true rfl) dX4_tell_117 rfl (fun H locs I => ?_)
            obtain ⟨S17, e17, h⟩ := obd_ex h
            refine k_V (As := [.int r1, .int r15, .int r16]) (rest := []) (st1 := []) C kx hK I hA (c_X4_tellWay e17) ⟨Nat.le_of_ble_eq_true rfl, Nat.le_of_ble_eq_true rfl⟩ mv_X4_tellWay lk_X4_55 3 4 (xw_3 (cI := cI) (ad := ad) (cC := cC) (cS := cS)) rfl rfl hl.1 rfl (Nat.le_of_ble_eq_true rfl) dX4_tell_120 rfl (fun H locs I => ?_)
            refine lv_goto (tgt := 146) hx hb dX4_tell_123 (by decide) ?_
            exact rt_v hq h I dX4_tell_146
          · have h := ite_n c14 h
            rcases Decidable.em (r2 = 6) with c18 | c18
            · have h := ite_t c18 h
              rw [c18]
              refine lv_tableIn (x := 6) (off := 113) (tgt := 126) hx hb dX4_tell_13 (by decide) (by decide) (by decide) (by decide) ?_
              refine lv_aload_n hx hb dX4_tell_126 rfl (lv_at hl 1 rfl) ?_
              refine lv_iload_n hx hb dX4_tell_127 rfl (lv_at hl 0 rfl) ?_
              refine lv_aload_n hx hb dX4_tell_128 rfl (lv_at hl 2 rfl) ?_
              refine lv_iload_n hx hb dX4_tell_129 rfl (lv_at hl 3 rfl) ?_
              obtain ⟨S19, e19, h⟩ := obd_ex h
              refine k_V (As := [.int r1, .ref (ad 2), .int x2]) (rest := []) (st1 := []) C kx hK I hA (c_X4_tellCall e19) ⟨Nat.le_of_ble_eq_true rfl, Nat.le_of_ble_eq_true rfl⟩ mv_X4_tellCall lk_X4_59 3 4 (xw_3 (cI := cI) (ad := ad) (cC := cC) (cS := cS)) rfl rfl hl.1 rfl (Nat.le_of_ble_eq_true rfl) dX4_tell_130 rfl (fun H locs I => ?_)
              refine lv_goto (tgt := 146) hx hb dX4_tell_133 (by decide) ?_
              exact rt_v hq h I dX4_tell_146
            · have h := ite_n c18 h
              rcases Decidable.em (r2 = 7) with c20 | c20
              · have h := ite_t c20 h
                rw [c20]
                refine lv_tableIn (x := 7) (off := 123) (tgt := 136) hx hb dX4_tell_13 (by decide) (by decide) (by decide) (by decide) ?_
                refine lv_aload_n hx hb dX4_tell_136 rfl (lv_at hl 1 rfl) ?_
                refine lv_iload_n hx hb dX4_tell_137 rfl (lv_at hl 0 rfl) ?_
                refine lv_aload_n hx hb dX4_tell_138 rfl (lv_at hl 2 rfl) ?_
                refine lv_iload_n hx hb dX4_tell_139 rfl (lv_at hl 3 rfl) ?_
                obtain ⟨S21, e21, h⟩ := obd_ex h
                refine k_V (As := [.int r1, .ref (ad 2), .int x2]) (rest := []) (st1 := []) C kx hK I hA (c_X4_tellSort e21) ⟨Nat.le_of_ble_eq_true rfl, Nat.le_of_ble_eq_true rfl⟩ mv_X4_tellSort lk_X4_63 3 4 (xw_3 (cI := cI) (ad := ad) (cC := cC) (cS := cS)) rfl rfl hl.1 rfl (Nat.le_of_ble_eq_true rfl) dX4_tell_140 rfl (fun H locs I => ?_)
                refine lv_goto (tgt := 146) hx hb dX4_tell_143 (by decide) ?_
                exact rt_v hq h I dX4_tell_146
              · have h := ite_n c20 h
                refine lv_tableOut (tgt := 146) hx hb dX4_tell_13 (by have := lv_neT (k := 1) (a := 1) c3 (by decide); have := lv_neT (k := 2) (a := 2) c8 (by decide); have := lv_neT (k := 3) (a := 3) c10 (by decide); have := lv_neT (k := 4) (a := 4) c12 (by decide); have := lv_neT (k := 5) (a := 5) c14 (by decide); have := lv_neT (k := 6) (a := 6) c18 (by decide); have := lv_neT (k := 7) (a := 7) c20 (by decide); omega) (by decide) ?_
                exact rt_v hq h I dX4_tell_146
theorem dX4_callsTold_0 : decode cX4_callsTold 0 = .ok (.iconst 0, 1) := by decide +kernel
theorem dX4_callsTold_1 : decode cX4_callsTold 1 = .ok (.istore_n 1, 1) := by decide +kernel
theorem dX4_callsTold_2 : decode cX4_callsTold 2 = .ok (.iconst 0, 1) := by decide +kernel
theorem dX4_callsTold_3 : decode cX4_callsTold 3 = .ok (.istore_n 2, 1) := by decide +kernel
theorem dX4_callsTold_4 : decode cX4_callsTold 4 = .ok (.iload_n 2, 1) := by decide +kernel
theorem dX4_callsTold_5 : decode cX4_callsTold 5 = .ok (.bipush 6, 2) := by decide +kernel
theorem dX4_callsTold_7 : decode cX4_callsTold 7 = .ok (.if_icmp .ge 20, 3) := by decide +kernel
theorem dX4_callsTold_10 : decode cX4_callsTold 10 = .ok (.aload_n 0, 1) := by decide +kernel
theorem dX4_callsTold_11 : decode cX4_callsTold 11 = .ok (.iload_n 2, 1) := by decide +kernel
theorem dX4_callsTold_12 : decode cX4_callsTold 12 = .ok (.invokevirtual 84, 3) := by decide +kernel
theorem dX4_callsTold_15 : decode cX4_callsTold 15 = .ok (.ifnull 6, 3) := by decide +kernel
theorem dX4_callsTold_18 : decode cX4_callsTold 18 = .ok (.iinc 1 1, 3) := by decide +kernel
theorem dX4_callsTold_21 : decode cX4_callsTold 21 = .ok (.iinc 2 1, 3) := by decide +kernel
theorem dX4_callsTold_24 : decode cX4_callsTold 24 = .ok (.goto (-20), 3) := by decide +kernel
theorem dX4_callsTold_27 : decode cX4_callsTold 27 = .ok (.iload_n 1, 1) := by decide +kernel
theorem dX4_callsTold_28 : decode cX4_callsTold 28 = .ok (.ireturn, 1) := by decide +kernel
def f_X4_callsTold_21 (k_4 : St → Int32 → Int32 → Option (Int32 × St)) (S : St) (x1 : Int32) (x2 : Int32) : Option (Int32 × St) :=
  bnd (x2 + 1 : Int32) fun v1 =>
  k_4 S x1 v1
def f_X4_callsTold_4 (k_4 : St → Int32 → Int32 → Option (Int32 × St)) (S : St) (x1 : Int32) (x2 : Int32) : Option (Int32 × St) :=
  if 6 ≤ x2 then (
    some (x1, S)
  ) else (
    obd2 (f_X4_callTold S x2) fun r3 S3 =>
    oel r3 (
      f_X4_callsTold_21 k_4 S3 x1 x2
    ) fun v4 =>
      bnd (x1 + 1 : Int32) fun v5 =>
      f_X4_callsTold_21 k_4 S3 v5 x2
  )
def l_X4_callsTold_4 : Nat → St → Int32 → Int32 → Option (Int32 × St)
  | 0, _, _, _ => none
  | fu + 1, S, x1, x2 => f_X4_callsTold_4 (l_X4_callsTold_4 fu) S x1 x2
def f_X4_callsTold (S : St)  : Option (Int32 × St) :=
  l_X4_callsTold_4 FU S 0 0
set_option maxHeartbeats 4000000 in
set_option maxRecDepth 100000 in
theorem c_X4_callsTold {l : Launch} {D : va_G} {cI cC cS : ClassId} {ad adK adV : Nat → Nat} {S S1 : St}  {r : Int32} (h : f_X4_callsTold S  = some (r, S1)) : Kt l D (xw cI cC cS ad) (KX D (xtys cI cC cS) adK adV) yX4_callsTold cX4_callsTold 3 (some .int) (2) (43) [.ref (ad 3)] S (some (.int r)) S1 := by
  refine k_ent (ins := .ireturn) (st := [.int r]) (by decide +kernel) (Nat.le_of_ble_eq_true rfl) ret_i ?_
  intro p e s m args below meth c A Q C hK I hA hq ls hl
  have C : CallFix p m c cX4_callsTold 3 s args TT RX4 := C
  have hx := C.1
  have hb := C.2.1
  have kx := kx_ok D (xtys cI cC cS) adK adV
  have hl : lv_has ls 3 [(0, .ref (ad 3))] := hl
  have J_21 : ∀ (k_4 : St → Int32 → Int32 → Option (Int32 × St)) (hk_4 : ∀ (S : St) (x1 : Int32) (x2 : Int32), k_4 S x1 x2 = some (r, S1) → ∀ (H : Heap) (locs : List Loc) (ls : Array Slot), Iv D (xw cI cC cS ad) S A s H locs → lv_has ls 3 [(0, .ref (ad 3)), (1, .int x1), (2, .int x2)] → W p l e ({ frames := 2, cells := 0, slots := 0, locals := 43 } : Room) s m args below meth c H locs 0 0 Q (F0 m 4 ls [])) (S : St) (x1 : Int32) (x2 : Int32), f_X4_callsTold_21 k_4 S x1 x2 = some (r, S1) → ∀ (H : Heap) (locs : List Loc) (ls : Array Slot), Iv D (xw cI cC cS ad) S A s H locs → lv_has ls 3 [(0, .ref (ad 3)), (1, .int x1), (2, .int x2)] → W p l e ({ frames := 2, cells := 0, slots := 0, locals := 43 } : Room) s m args below meth c H locs 0 0 Q (F0 m 21 ls []) := by
    intro k_4 hk_4 S x1 x2 h H locs ls I hl
    unfold f_X4_callsTold_21 at h
    obtain ⟨v1, ev1⟩ : ∃ y : Int32, y = x2 + 1 := ⟨_, rfl⟩
    have h := bnd_at ev1 h
    refine lv_iinc (v := v1) (lv' := [(2, .int v1), (0, .ref (ad 3)), (1, .int x1)]) hx hb dX4_callsTold_21 hl (k := 2) rfl (by rw [ev1]; rfl) (by decide) rfl (fun ls hl => ?_)
    clear ev1
    refine lv_goto (tgt := 4) hx hb dX4_callsTold_24 (by decide) ?_
    exact hk_4 _ _ _ h _ _ _ I (lv_sub hl [1, 2, 0] rfl)
  have B_4 : ∀ (k_4 : St → Int32 → Int32 → Option (Int32 × St)) (hk_4 : ∀ (S : St) (x1 : Int32) (x2 : Int32), k_4 S x1 x2 = some (r, S1) → ∀ (H : Heap) (locs : List Loc) (ls : Array Slot), Iv D (xw cI cC cS ad) S A s H locs → lv_has ls 3 [(0, .ref (ad 3)), (1, .int x1), (2, .int x2)] → W p l e ({ frames := 2, cells := 0, slots := 0, locals := 43 } : Room) s m args below meth c H locs 0 0 Q (F0 m 4 ls [])) (S : St) (x1 : Int32) (x2 : Int32), f_X4_callsTold_4 k_4 S x1 x2 = some (r, S1) → ∀ (H : Heap) (locs : List Loc) (ls : Array Slot), Iv D (xw cI cC cS ad) S A s H locs → lv_has ls 3 [(0, .ref (ad 3)), (1, .int x1), (2, .int x2)] → W p l e ({ frames := 2, cells := 0, slots := 0, locals := 43 } : Room) s m args below meth c H locs 0 0 Q (F0 m 4 ls []) := by
    intro k_4 hk_4 S x1 x2 h H locs ls I hl
    unfold f_X4_callsTold_4 at h
    refine lv_iload_n hx hb dX4_callsTold_4 rfl (lv_at hl 2 rfl) ?_
    refine lv_bipush (v := 6) hx hb dX4_callsTold_5 (by decide) ?_
    refine lv_icmp_ge (tgt := 27) hx hb dX4_callsTold_7 (by decide) (fun c2 => ?_) (fun c2 => ?_)
    · have h := ite_t c2 h
      refine lv_iload_n hx hb dX4_callsTold_27 rfl (lv_at hl 1 rfl) ?_
      exact rt_i hq h I dX4_callsTold_28
    · have h := ite_n c2 h
      refine lv_aload_n hx hb dX4_callsTold_10 rfl (lv_at hl 0 rfl) ?_
      refine lv_iload_n hx hb dX4_callsTold_11 rfl (lv_at hl 2 rfl) ?_
      obtain ⟨r3, S3, e3, h⟩ := obd2_ex h
      refine k_V (As := [.int x2]) (rest := []) (st1 := [rC ad r3]) C kx hK I hA (c_X4_callTold e3) ⟨Nat.le_of_ble_eq_true rfl, Nat.le_of_ble_eq_true rfl⟩ mv_X4_callTold lk_X4_84 3 4 (xw_3 (cI := cI) (ad := ad) (cC := cC) (cS := cS)) rfl rfl hl.1 rfl (Nat.le_of_ble_eq_true rfl) dX4_callsTold_12 rfl (fun H locs I => ?_)
      refine k_ifn hx hb dX4_callsTold_15 (tgt := 21) (by decide) (fun ho => ?_) (fun v4 ho => ?_)
      · subst ho
        have h := oel_n h
        have hl : lv_has ls 3 [(0, .ref (ad 3)), (1, .int x1), (2, .int x2)] := hl
        exact J_21 k_4 hk_4 _ _ _ h _ _ _ I (lv_sub hl [0, 1, 2] rfl)
      · subst ho
        have h := oel_s h
        have hl : lv_has ls 3 [(0, .ref (ad 3)), (1, .int x1), (2, .int x2)] := hl
        obtain ⟨v5, ev5⟩ : ∃ y : Int32, y = x1 + 1 := ⟨_, rfl⟩
        have h := bnd_at ev5 h
        refine lv_iinc (v := v5) (lv' := [(1, .int v5), (0, .ref (ad 3)), (2, .int x2)]) hx hb dX4_callsTold_18 hl (k := 1) rfl (by rw [ev5]; rfl) (by decide) rfl (fun ls hl => ?_)
        clear ev5
        exact J_21 k_4 hk_4 _ _ _ h _ _ _ I (lv_sub hl [1, 0, 2] rfl)
  have J_4 : ∀ (fu : Nat) (S : St) (x1 : Int32) (x2 : Int32), l_X4_callsTold_4  fu S x1 x2 = some (r, S1) → ∀ (H : Heap) (locs : List Loc) (ls : Array Slot), Iv D (xw cI cC cS ad) S A s H locs → lv_has ls 3 [(0, .ref (ad 3)), (1, .int x1), (2, .int x2)] → W p l e ({ frames := 2, cells := 0, slots := 0, locals := 43 } : Room) s m args below meth c H locs 0 0 Q (F0 m 4 ls []) := by
    intro fu
    induction fu with
    | zero => intro S x1 x2 h; cases h
    | succ fu ih => intro S x1 x2 h; exact B_4 (l_X4_callsTold_4 fu) ih S x1 x2 h
  unfold f_X4_callsTold at h
  refine lv_iconst (v := 0) hx hb dX4_callsTold_0 (by decide) ?_
  refine lv_istore_n (lv' := [(1, .int 0), (0, .ref (ad 3))]) hx hb dX4_callsTold_1 rfl hl (by decide) rfl (fun ls hl => ?_)
  refine lv_iconst (v := 0) hx hb dX4_callsTold_2 (by decide) ?_
  refine lv_istore_n (lv' := [(2, .int 0), (1, .int 0), (0, .ref (ad 3))]) hx hb dX4_callsTold_3 rfl hl (by decide) rfl (fun ls hl => ?_)
  exact J_4 _ _ _ _ h _ _ _ I (lv_sub hl [2, 1, 0] rfl)
theorem lk_X4_99 : Cond.methodLink RX4 99 yX1_wanted ∈ TT := tt_of 1003 (by decide +kernel) rfl
theorem mv_X1_wanted : MV yX1_wanted cX1_wanted 4 (some .int) 0 := ⟨tt_of 862 (by decide +kernel) rfl, tt_of 860 (by decide +kernel) rfl, tt_of 861 (by decide +kernel) rfl, tt_of 69 (by decide +kernel) rfl, ⟨by decide +kernel, by decide +kernel, by decide +kernel⟩⟩
theorem dX4_wanted_0 : decode cX4_wanted 0 = .ok (.iconst 0, 1) := by decide +kernel
theorem dX4_wanted_1 : decode cX4_wanted 1 = .ok (.istore_n 1, 1) := by decide +kernel
theorem dX4_wanted_2 : decode cX4_wanted 2 = .ok (.iconst 0, 1) := by decide +kernel
theorem dX4_wanted_3 : decode cX4_wanted 3 = .ok (.istore_n 2, 1) := by decide +kernel
theorem dX4_wanted_4 : decode cX4_wanted 4 = .ok (.iload_n 2, 1) := by decide +kernel
theorem dX4_wanted_5 : decode cX4_wanted 5 = .ok (.bipush 6, 2) := by decide +kernel
theorem dX4_wanted_7 : decode cX4_wanted 7 = .ok (.if_icmp .ge 26, 3) := by decide +kernel
theorem dX4_wanted_10 : decode cX4_wanted 10 = .ok (.aload_n 0, 1) := by decide +kernel
theorem dX4_wanted_11 : decode cX4_wanted 11 = .ok (.iload_n 2, 1) := by decide +kernel
theorem dX4_wanted_12 : decode cX4_wanted 12 = .ok (.invokevirtual 84, 3) := by decide +kernel
theorem dX4_wanted_15 : decode cX4_wanted 15 = .ok (.astore_n 3, 1) := by decide +kernel
theorem dX4_wanted_16 : decode cX4_wanted 16 = .ok (.aload_n 3, 1) := by decide +kernel
theorem dX4_wanted_17 : decode cX4_wanted 17 = .ok (.ifnull 10, 3) := by decide +kernel
theorem dX4_wanted_20 : decode cX4_wanted 20 = .ok (.iload_n 1, 1) := by decide +kernel
theorem dX4_wanted_21 : decode cX4_wanted 21 = .ok (.aload_n 3, 1) := by decide +kernel
theorem dX4_wanted_22 : decode cX4_wanted 22 = .ok (.invokevirtual 99, 3) := by decide +kernel
theorem dX4_wanted_25 : decode cX4_wanted 25 = .ok (.ior, 1) := by decide +kernel
theorem dX4_wanted_26 : decode cX4_wanted 26 = .ok (.istore_n 1, 1) := by decide +kernel
theorem dX4_wanted_27 : decode cX4_wanted 27 = .ok (.iinc 2 1, 3) := by decide +kernel
theorem dX4_wanted_30 : decode cX4_wanted 30 = .ok (.goto (-26), 3) := by decide +kernel
theorem dX4_wanted_33 : decode cX4_wanted 33 = .ok (.iload_n 1, 1) := by decide +kernel
theorem dX4_wanted_34 : decode cX4_wanted 34 = .ok (.ireturn, 1) := by decide +kernel
def f_X4_wanted_27 (k_4 : St → Int32 → Int32 → Option (Int32 × St)) (S : St) (x1 : Int32) (x2 : Int32) : Option (Int32 × St) :=
  bnd (x2 + 1 : Int32) fun v1 =>
  k_4 S x1 v1
def f_X4_wanted_4 (k_4 : St → Int32 → Int32 → Option (Int32 × St)) (S : St) (x1 : Int32) (x2 : Int32) : Option (Int32 × St) :=
  if 6 ≤ x2 then (
    some (x1, S)
  ) else (
    obd2 (f_X4_callTold S x2) fun r3 S3 =>
    oel r3 (
      f_X4_wanted_27 k_4 S3 x1 x2
    ) fun v4 =>
      obd2 (f_X1_wanted S3 v4) fun r5 S5 =>
      bnd ((x1 ||| r5) : Int32) fun v6 =>
      f_X4_wanted_27 k_4 S5 v6 x2
  )
def l_X4_wanted_4 : Nat → St → Int32 → Int32 → Option (Int32 × St)
  | 0, _, _, _ => none
  | fu + 1, S, x1, x2 => f_X4_wanted_4 (l_X4_wanted_4 fu) S x1 x2
def f_X4_wanted (S : St)  : Option (Int32 × St) :=
  l_X4_wanted_4 FU S 0 0
set_option maxHeartbeats 4000000 in
set_option maxRecDepth 100000 in
theorem c_X4_wanted {l : Launch} {D : va_G} {cI cC cS : ClassId} {ad adK adV : Nat → Nat} {S S1 : St}  {r : Int32} (h : f_X4_wanted S  = some (r, S1)) : Kt l D (xw cI cC cS ad) (KX D (xtys cI cC cS) adK adV) yX4_wanted cX4_wanted 4 (some .int) (2) (44) [.ref (ad 3)] S (some (.int r)) S1 := by
  refine k_ent (ins := .ireturn) (st := [.int r]) (by decide +kernel) (Nat.le_of_ble_eq_true rfl) ret_i ?_
  intro p e s m args below meth c A Q C hK I hA hq ls hl
  have C : CallFix p m c cX4_wanted 4 s args TT RX4 := C
  have hx := C.1
  have hb := C.2.1
  have kx := kx_ok D (xtys cI cC cS) adK adV
  have hl : lv_has ls 4 [(0, .ref (ad 3))] := hl
  have J_27 : ∀ (k_4 : St → Int32 → Int32 → Option (Int32 × St)) (hk_4 : ∀ (S : St) (x1 : Int32) (x2 : Int32), k_4 S x1 x2 = some (r, S1) → ∀ (H : Heap) (locs : List Loc) (ls : Array Slot), Iv D (xw cI cC cS ad) S A s H locs → lv_has ls 4 [(0, .ref (ad 3)), (1, .int x1), (2, .int x2)] → W p l e ({ frames := 2, cells := 0, slots := 0, locals := 44 } : Room) s m args below meth c H locs 0 0 Q (F0 m 4 ls [])) (S : St) (x1 : Int32) (x2 : Int32), f_X4_wanted_27 k_4 S x1 x2 = some (r, S1) → ∀ (H : Heap) (locs : List Loc) (ls : Array Slot), Iv D (xw cI cC cS ad) S A s H locs → lv_has ls 4 [(0, .ref (ad 3)), (1, .int x1), (2, .int x2)] → W p l e ({ frames := 2, cells := 0, slots := 0, locals := 44 } : Room) s m args below meth c H locs 0 0 Q (F0 m 27 ls []) := by
    intro k_4 hk_4 S x1 x2 h H locs ls I hl
    unfold f_X4_wanted_27 at h
    obtain ⟨v1, ev1⟩ : ∃ y : Int32, y = x2 + 1 := ⟨_, rfl⟩
    have h := bnd_at ev1 h
    refine lv_iinc (v := v1) (lv' := [(2, .int v1), (0, .ref (ad 3)), (1, .int x1)]) hx hb dX4_wanted_27 hl (k := 2) rfl (by rw [ev1]; rfl) (by decide) rfl (fun ls hl => ?_)
    clear ev1
    refine lv_goto (tgt := 4) hx hb dX4_wanted_30 (by decide) ?_
    exact hk_4 _ _ _ h _ _ _ I (lv_sub hl [1, 2, 0] rfl)
  have B_4 : ∀ (k_4 : St → Int32 → Int32 → Option (Int32 × St)) (hk_4 : ∀ (S : St) (x1 : Int32) (x2 : Int32), k_4 S x1 x2 = some (r, S1) → ∀ (H : Heap) (locs : List Loc) (ls : Array Slot), Iv D (xw cI cC cS ad) S A s H locs → lv_has ls 4 [(0, .ref (ad 3)), (1, .int x1), (2, .int x2)] → W p l e ({ frames := 2, cells := 0, slots := 0, locals := 44 } : Room) s m args below meth c H locs 0 0 Q (F0 m 4 ls [])) (S : St) (x1 : Int32) (x2 : Int32), f_X4_wanted_4 k_4 S x1 x2 = some (r, S1) → ∀ (H : Heap) (locs : List Loc) (ls : Array Slot), Iv D (xw cI cC cS ad) S A s H locs → lv_has ls 4 [(0, .ref (ad 3)), (1, .int x1), (2, .int x2)] → W p l e ({ frames := 2, cells := 0, slots := 0, locals := 44 } : Room) s m args below meth c H locs 0 0 Q (F0 m 4 ls []) := by
    intro k_4 hk_4 S x1 x2 h H locs ls I hl
    unfold f_X4_wanted_4 at h
    refine lv_iload_n hx hb dX4_wanted_4 rfl (lv_at hl 2 rfl) ?_
    refine lv_bipush (v := 6) hx hb dX4_wanted_5 (by decide) ?_
    refine lv_icmp_ge (tgt := 33) hx hb dX4_wanted_7 (by decide) (fun c2 => ?_) (fun c2 => ?_)
    · have h := ite_t c2 h
      refine lv_iload_n hx hb dX4_wanted_33 rfl (lv_at hl 1 rfl) ?_
      exact rt_i hq h I dX4_wanted_34
    · have h := ite_n c2 h
      refine lv_aload_n hx hb dX4_wanted_10 rfl (lv_at hl 0 rfl) ?_
      refine lv_iload_n hx hb dX4_wanted_11 rfl (lv_at hl 2 rfl) ?_
      obtain ⟨r3, S3, e3, h⟩ := obd2_ex h
      refine k_V (As := [.int x2]) (rest := []) (st1 := [rC ad r3]) C kx hK I hA (c_X4_callTold e3) ⟨Nat.le_of_ble_eq_true rfl, Nat.le_of_ble_eq_true rfl⟩ mv_X4_callTold lk_X4_84 3 4 (xw_3 (cI := cI) (ad := ad) (cC := cC) (cS := cS)) rfl rfl hl.1 rfl (Nat.le_of_ble_eq_true rfl) dX4_wanted_12 rfl (fun H locs I => ?_)
      refine k_astore_n _ (lv' := [(3, rC ad r3), (0, .ref (ad 3)), (1, .int x1), (2, .int x2)]) hx hb dX4_wanted_15 rfl rfl hl (by decide) rfl (fun ls hl => ?_)
      refine k_aload_n _ hx hb dX4_wanted_16 rfl rfl (lv_at hl 0 rfl) ?_
      refine k_ifn hx hb dX4_wanted_17 (tgt := 27) (by decide) (fun ho => ?_) (fun v4 ho => ?_)
      · subst ho
        have h := oel_n h
        have hl : lv_has ls 4 [(3, .null), (0, .ref (ad 3)), (1, .int x1), (2, .int x2)] := hl
        exact J_27 k_4 hk_4 _ _ _ h _ _ _ I (lv_sub hl [1, 2, 3] rfl)
      · subst ho
        have h := oel_s h
        have hl : lv_has ls 4 [(3, .ref (ad (21 + v4.val))), (0, .ref (ad 3)), (1, .int x1), (2, .int x2)] := hl
        refine lv_iload_n hx hb dX4_wanted_20 rfl (lv_at hl 2 rfl) ?_
        refine lv_aload_n hx hb dX4_wanted_21 rfl (lv_at hl 0 rfl) ?_
        obtain ⟨r5, S5, e5, h⟩ := obd2_ex h
        refine k_V (As := []) (rest := [.int x1]) (st1 := [.int r5, .int x1]) C kx hK I hA (c_X1_wanted e5) ⟨Nat.le_of_ble_eq_true rfl, Nat.le_of_ble_eq_true rfl⟩ mv_X1_wanted lk_X4_99 (21 + v4.val) 1 (xw_C (cI := cI) (cC := cC) (cS := cS) (ad := ad) v4) rfl rfl hl.1 rfl (Nat.le_of_ble_eq_true rfl) dX4_wanted_22 rfl (fun H locs I => ?_)
        refine lv_ior hx hb dX4_wanted_25 ?_
        refine lv_topi (fun v6 ev6 => ?_)
        have h := bnd_at ev6 h
        clear ev6
        refine lv_istore_n (lv' := [(1, .int v6), (3, .ref (ad (21 + v4.val))), (0, .ref (ad 3)), (2, .int x2)]) hx hb dX4_wanted_26 rfl hl (by decide) rfl (fun ls hl => ?_)
        exact J_27 k_4 hk_4 _ _ _ h _ _ _ I (lv_sub hl [2, 0, 3] rfl)
  have J_4 : ∀ (fu : Nat) (S : St) (x1 : Int32) (x2 : Int32), l_X4_wanted_4  fu S x1 x2 = some (r, S1) → ∀ (H : Heap) (locs : List Loc) (ls : Array Slot), Iv D (xw cI cC cS ad) S A s H locs → lv_has ls 4 [(0, .ref (ad 3)), (1, .int x1), (2, .int x2)] → W p l e ({ frames := 2, cells := 0, slots := 0, locals := 44 } : Room) s m args below meth c H locs 0 0 Q (F0 m 4 ls []) := by
    intro fu
    induction fu with
    | zero => intro S x1 x2 h; cases h
    | succ fu ih => intro S x1 x2 h; exact B_4 (l_X4_wanted_4 fu) ih S x1 x2 h
  unfold f_X4_wanted at h
  refine lv_iconst (v := 0) hx hb dX4_wanted_0 (by decide) ?_
  refine lv_istore_n (lv' := [(1, .int 0), (0, .ref (ad 3))]) hx hb dX4_wanted_1 rfl hl (by decide) rfl (fun ls hl => ?_)
  refine lv_iconst (v := 0) hx hb dX4_wanted_2 (by decide) ?_
  refine lv_istore_n (lv' := [(2, .int 0), (1, .int 0), (0, .ref (ad 3))]) hx hb dX4_wanted_3 rfl hl (by decide) rfl (fun ls hl => ?_)
  exact J_4 _ _ _ _ h _ _ _ I (lv_sub hl [2, 1, 0] rfl)
theorem lk_X4_102 : Cond.methodLink RX4 102 yX4_sortTold ∈ TT := tt_of 994 (by decide +kernel) rfl
theorem mv_X4_sortTold : MV yX4_sortTold cX4_sortTold 4 (some (.object "CarryUp$Sort")) 2 := ⟨tt_of 672 (by decide +kernel) rfl, tt_of 670 (by decide +kernel) rfl, tt_of 671 (by decide +kernel) rfl, tt_of 68 (by decide +kernel) rfl, ⟨by decide +kernel, by decide +kernel, by decide +kernel⟩⟩
theorem fl_X4_105 : Cond.fieldLinkNest RX4 105 RX7 "all" "I" "CarryUp" ∈ NN := nn_of 167 (by decide +kernel) rfl
theorem fl_X4_110 : Cond.fieldLinkNest RX4 110 RX7 "one" "I" "CarryUp" ∈ NN := nn_of 172 (by decide +kernel) rfl
theorem dX4_standsIn_0 : decode cX4_standsIn 0 = .ok (.iconst 0, 1) := by decide +kernel
theorem dX4_standsIn_1 : decode cX4_standsIn 1 = .ok (.istore_n 3, 1) := by decide +kernel
theorem dX4_standsIn_2 : decode cX4_standsIn 2 = .ok (.iload_n 3, 1) := by decide +kernel
theorem dX4_standsIn_3 : decode cX4_standsIn 3 = .ok (.bipush 24, 2) := by decide +kernel
theorem dX4_standsIn_5 : decode cX4_standsIn 5 = .ok (.if_icmp .ge 71, 3) := by decide +kernel
theorem dX4_standsIn_8 : decode cX4_standsIn 8 = .ok (.aload_n 0, 1) := by decide +kernel
theorem dX4_standsIn_9 : decode cX4_standsIn 9 = .ok (.iload_n 3, 1) := by decide +kernel
theorem dX4_standsIn_10 : decode cX4_standsIn 10 = .ok (.iconst 4, 1) := by decide +kernel
theorem dX4_standsIn_11 : decode cX4_standsIn 11 = .ok (.idiv, 1) := by decide +kernel
theorem dX4_standsIn_12 : decode cX4_standsIn 12 = .ok (.iload_n 3, 1) := by decide +kernel
theorem dX4_standsIn_13 : decode cX4_standsIn 13 = .ok (.iconst 4, 1) := by decide +kernel
theorem dX4_standsIn_14 : decode cX4_standsIn 14 = .ok (.irem, 1) := by decide +kernel
theorem dX4_standsIn_15 : decode cX4_standsIn 15 = .ok (.invokevirtual 102, 3) := by decide +kernel
theorem dX4_standsIn_18 : decode cX4_standsIn 18 = .ok (.astore 4, 2) := by decide +kernel
theorem dX4_standsIn_20 : decode cX4_standsIn 20 = .ok (.aload 4, 2) := by decide +kernel
theorem dX4_standsIn_22 : decode cX4_standsIn 22 = .ok (.ifnonnull 6, 3) := by decide +kernel
theorem dX4_standsIn_25 : decode cX4_standsIn 25 = .ok (.goto 45, 3) := by decide +kernel
theorem dX4_standsIn_28 : decode cX4_standsIn 28 = .ok (.aload 4, 2) := by decide +kernel
theorem dX4_standsIn_30 : decode cX4_standsIn 30 = .ok (.getfield 105, 3) := by decide +kernel
theorem dX4_standsIn_33 : decode cX4_standsIn 33 = .ok (.iload_n 2, 1) := by decide +kernel
theorem dX4_standsIn_34 : decode cX4_standsIn 34 = .ok (.ishr, 1) := by decide +kernel
theorem dX4_standsIn_35 : decode cX4_standsIn 35 = .ok (.iconst 1, 1) := by decide +kernel
theorem dX4_standsIn_36 : decode cX4_standsIn 36 = .ok (.iand, 1) := by decide +kernel
theorem dX4_standsIn_37 : decode cX4_standsIn 37 = .ok (.iconst 1, 1) := by decide +kernel
theorem dX4_standsIn_38 : decode cX4_standsIn 38 = .ok (.if_icmp .ne 5, 3) := by decide +kernel
theorem dX4_standsIn_41 : decode cX4_standsIn 41 = .ok (.iconst 0, 1) := by decide +kernel
theorem dX4_standsIn_42 : decode cX4_standsIn 42 = .ok (.ireturn, 1) := by decide +kernel
theorem dX4_standsIn_43 : decode cX4_standsIn 43 = .ok (.aload 4, 2) := by decide +kernel
theorem dX4_standsIn_45 : decode cX4_standsIn 45 = .ok (.getfield 110, 3) := by decide +kernel
theorem dX4_standsIn_48 : decode cX4_standsIn 48 = .ok (.iload_n 2, 1) := by decide +kernel
theorem dX4_standsIn_49 : decode cX4_standsIn 49 = .ok (.ishr, 1) := by decide +kernel
theorem dX4_standsIn_50 : decode cX4_standsIn 50 = .ok (.iconst 1, 1) := by decide +kernel
theorem dX4_standsIn_51 : decode cX4_standsIn 51 = .ok (.iand, 1) := by decide +kernel
theorem dX4_standsIn_52 : decode cX4_standsIn 52 = .ok (.iconst 1, 1) := by decide +kernel
theorem dX4_standsIn_53 : decode cX4_standsIn 53 = .ok (.if_icmp .ne 17, 3) := by decide +kernel
theorem dX4_standsIn_56 : decode cX4_standsIn 56 = .ok (.aload 4, 2) := by decide +kernel
theorem dX4_standsIn_58 : decode cX4_standsIn 58 = .ok (.getfield 110, 3) := by decide +kernel
theorem dX4_standsIn_61 : decode cX4_standsIn 61 = .ok (.iload_n 1, 1) := by decide +kernel
theorem dX4_standsIn_62 : decode cX4_standsIn 62 = .ok (.ishr, 1) := by decide +kernel
theorem dX4_standsIn_63 : decode cX4_standsIn 63 = .ok (.iconst 1, 1) := by decide +kernel
theorem dX4_standsIn_64 : decode cX4_standsIn 64 = .ok (.iand, 1) := by decide +kernel
theorem dX4_standsIn_65 : decode cX4_standsIn 65 = .ok (.ifCond .ne 5, 3) := by decide +kernel
theorem dX4_standsIn_68 : decode cX4_standsIn 68 = .ok (.iconst 0, 1) := by decide +kernel
theorem dX4_standsIn_69 : decode cX4_standsIn 69 = .ok (.ireturn, 1) := by decide +kernel
theorem dX4_standsIn_70 : decode cX4_standsIn 70 = .ok (.iinc 3 1, 3) := by decide +kernel
theorem dX4_standsIn_73 : decode cX4_standsIn 73 = .ok (.goto (-71), 3) := by decide +kernel
theorem dX4_standsIn_76 : decode cX4_standsIn 76 = .ok (.iconst 1, 1) := by decide +kernel
theorem dX4_standsIn_77 : decode cX4_standsIn 77 = .ok (.ireturn, 1) := by decide +kernel
def f_X4_standsIn_70 (k_2 : St → Int32 → Int32 → Int32 → Option (Int32 × St)) (S : St) (x1 : Int32) (x2 : Int32) (x3 : Int32) : Option (Int32 × St) :=
  bnd (x3 + 1 : Int32) fun v1 =>
  k_2 S x1 x2 v1
def f_X4_standsIn_2 (k_2 : St → Int32 → Int32 → Int32 → Option (Int32 × St)) (S : St) (x1 : Int32) (x2 : Int32) (x3 : Int32) : Option (Int32 × St) :=
  if 24 ≤ x3 then (
    some (1, S)
  ) else (
    obd2 (f_X4_sortTold S (x3 / 4) (x3 - x3 / 4 * 4)) fun r3 S3 =>
    oel r3 (
      f_X4_standsIn_70 k_2 S3 x1 x2 x3
    ) fun v4 =>
      if (((S3.1 (33 + v4.val) 2) >>> (x2 &&& 31)) &&& 1) = 1 then (
        some (0, S3)
      ) else (
        if (((S3.1 (33 + v4.val) 3) >>> (x2 &&& 31)) &&& 1) = 1 then (
          if (((S3.1 (33 + v4.val) 3) >>> (x1 &&& 31)) &&& 1) = 0 then (
            some (0, S3)
          ) else (
            f_X4_standsIn_70 k_2 S3 x1 x2 x3
          )
        ) else (
          f_X4_standsIn_70 k_2 S3 x1 x2 x3
        )
      )
  )
def l_X4_standsIn_2 : Nat → St → Int32 → Int32 → Int32 → Option (Int32 × St)
  | 0, _, _, _, _ => none
  | fu + 1, S, x1, x2, x3 => f_X4_standsIn_2 (l_X4_standsIn_2 fu) S x1 x2 x3
def f_X4_standsIn (S : St) (x1 : Int32) (x2 : Int32) : Option (Int32 × St) :=
  l_X4_standsIn_2 FU S x1 x2 0
set_option maxHeartbeats 4000000 in
set_option maxRecDepth 100000 in
theorem c_X4_standsIn {l : Launch} {D : va_G} {cI cC cS : ClassId} {ad adK adV : Nat → Nat} {S S1 : St} {x1 : Int32} {x2 : Int32} {r : Int32} (h : f_X4_standsIn S x1 x2 = some (r, S1)) : Kt l D (xw cI cC cS ad) (KX D (xtys cI cC cS) adK adV) yX4_standsIn cX4_standsIn 5 (some .boolean) (3) (66) [.ref (ad 3), .int x1, .int x2] S (some (.int r)) S1 := by
  refine k_entz (by decide +kernel) (Nat.le_of_ble_eq_true rfl) ?_
  intro p e s m args below meth c A Q C hK I hA hq ls hl
  have C : CallFix p m c cX4_standsIn 5 s args TT RX4 := C
  have hx := C.1
  have hb := C.2.1
  have kx := kx_ok D (xtys cI cC cS) adK adV
  have hl : lv_has ls 5 [(0, .ref (ad 3)), (1, .int x1), (2, .int x2)] := hl
  have J_70 : ∀ (k_2 : St → Int32 → Int32 → Int32 → Option (Int32 × St)) (hk_2 : ∀ (S : St) (x1 : Int32) (x2 : Int32) (x3 : Int32), k_2 S x1 x2 x3 = some (r, S1) → ∀ (H : Heap) (locs : List Loc) (ls : Array Slot), Iv D (xw cI cC cS ad) S A s H locs → lv_has ls 5 [(0, .ref (ad 3)), (1, .int x1), (2, .int x2), (3, .int x3)] → W p l e ({ frames := 3, cells := 0, slots := 0, locals := 66 } : Room) s m args below meth c H locs 0 0 Q (F0 m 2 ls [])) (S : St) (x1 : Int32) (x2 : Int32) (x3 : Int32), f_X4_standsIn_70 k_2 S x1 x2 x3 = some (r, S1) → ∀ (H : Heap) (locs : List Loc) (ls : Array Slot), Iv D (xw cI cC cS ad) S A s H locs → lv_has ls 5 [(0, .ref (ad 3)), (1, .int x1), (2, .int x2), (3, .int x3)] → W p l e ({ frames := 3, cells := 0, slots := 0, locals := 66 } : Room) s m args below meth c H locs 0 0 Q (F0 m 70 ls []) := by
    intro k_2 hk_2 S x1 x2 x3 h H locs ls I hl
    unfold f_X4_standsIn_70 at h
    obtain ⟨v1, ev1⟩ : ∃ y : Int32, y = x3 + 1 := ⟨_, rfl⟩
    have h := bnd_at ev1 h
    refine lv_iinc (v := v1) (lv' := [(3, .int v1), (0, .ref (ad 3)), (1, .int x1), (2, .int x2)]) hx hb dX4_standsIn_70 hl (k := 3) rfl (by rw [ev1]; rfl) (by decide) rfl (fun ls hl => ?_)
    clear ev1
    refine lv_goto (tgt := 2) hx hb dX4_standsIn_73 (by decide) ?_
    exact hk_2 _ _ _ _ h _ _ _ I (lv_sub hl [1, 2, 3, 0] rfl)
  have B_2 : ∀ (k_2 : St → Int32 → Int32 → Int32 → Option (Int32 × St)) (hk_2 : ∀ (S : St) (x1 : Int32) (x2 : Int32) (x3 : Int32), k_2 S x1 x2 x3 = some (r, S1) → ∀ (H : Heap) (locs : List Loc) (ls : Array Slot), Iv D (xw cI cC cS ad) S A s H locs → lv_has ls 5 [(0, .ref (ad 3)), (1, .int x1), (2, .int x2), (3, .int x3)] → W p l e ({ frames := 3, cells := 0, slots := 0, locals := 66 } : Room) s m args below meth c H locs 0 0 Q (F0 m 2 ls [])) (S : St) (x1 : Int32) (x2 : Int32) (x3 : Int32), f_X4_standsIn_2 k_2 S x1 x2 x3 = some (r, S1) → ∀ (H : Heap) (locs : List Loc) (ls : Array Slot), Iv D (xw cI cC cS ad) S A s H locs → lv_has ls 5 [(0, .ref (ad 3)), (1, .int x1), (2, .int x2), (3, .int x3)] → W p l e ({ frames := 3, cells := 0, slots := 0, locals := 66 } : Room) s m args below meth c H locs 0 0 Q (F0 m 2 ls []) := by
    intro k_2 hk_2 S x1 x2 x3 h H locs ls I hl
    unfold f_X4_standsIn_2 at h
    refine lv_iload_n hx hb dX4_standsIn_2 rfl (lv_at hl 3 rfl) ?_
    refine lv_bipush (v := 24) hx hb dX4_standsIn_3 (by decide) ?_
    refine lv_icmp_ge (tgt := 76) hx hb dX4_standsIn_5 (by decide) (fun c2 => ?_) (fun c2 => ?_)
    · have h := ite_t c2 h
      refine lv_iconst (v := 1) hx hb dX4_standsIn_76 (by decide) ?_
      exact rt_z (Or.inr rfl) hq h I dX4_standsIn_77
    · have h := ite_n c2 h
      refine lv_aload_n hx hb dX4_standsIn_8 rfl (lv_at hl 0 rfl) ?_
      refine lv_iload_n hx hb dX4_standsIn_9 rfl (lv_at hl 3 rfl) ?_
      refine lv_iconst (v := 4) hx hb dX4_standsIn_10 (by decide) ?_
      refine lv_idiv hx hb dX4_standsIn_11 (by decide) ?_
      refine lv_iload_n hx hb dX4_standsIn_12 rfl (lv_at hl 3 rfl) ?_
      refine lv_iconst (v := 4) hx hb dX4_standsIn_13 (by decide) ?_
      refine lv_irem hx hb dX4_standsIn_14 (by decide) ?_
      obtain ⟨r3, S3, e3, h⟩ := obd2_ex h
      refine k_V (As := [.int (x3 / 4), .int (x3 - x3 / 4 * 4)]) (rest := []) (st1 := [rS ad r3]) C kx hK I hA (c_X4_sortTold e3) ⟨Nat.le_of_ble_eq_true rfl, Nat.le_of_ble_eq_true rfl⟩ mv_X4_sortTold lk_X4_102 3 4 (xw_3 (cI := cI) (ad := ad) (cC := cC) (cS := cS)) rfl rfl hl.1 rfl (Nat.le_of_ble_eq_true rfl) dX4_standsIn_15 rfl (fun H locs I => ?_)
      refine k_astore _ (lv' := [(4, rS ad r3), (0, .ref (ad 3)), (1, .int x1), (2, .int x2), (3, .int x3)]) hx hb dX4_standsIn_18 rfl hl (by decide) rfl (fun ls hl => ?_)
      refine k_aload _ hx hb dX4_standsIn_20 rfl (lv_at hl 0 rfl) ?_
      refine k_ifnn hx hb dX4_standsIn_22 (tgt := 28) (by decide) (fun v4 ho => ?_) (fun ho => ?_)
      · subst ho
        have h := oel_s h
        have hl : lv_has ls 5 [(4, .ref (ad (33 + v4.val))), (0, .ref (ad 3)), (1, .int x1), (2, .int x2), (3, .int x3)] := hl
        refine lv_aload hx hb dX4_standsIn_28 (lv_at hl 0 rfl) ?_
        refine gxN_S_2 C hK I fl_X4_105 dX4_standsIn_30 ?_
        refine lv_iload_n hx hb dX4_standsIn_33 rfl (lv_at hl 3 rfl) ?_
        refine lv_ishr hx hb dX4_standsIn_34 ?_
        refine lv_iconst (v := 1) hx hb dX4_standsIn_35 (by decide) ?_
        refine lv_iand hx hb dX4_standsIn_36 ?_
        refine lv_iconst (v := 1) hx hb dX4_standsIn_37 (by decide) ?_
        refine lv_icmp_ne (tgt := 43) hx hb dX4_standsIn_38 (by decide) (fun c5 => ?_) (fun c5 => ?_)
        · have h := ite_n c5 h
          refine lv_aload hx hb dX4_standsIn_43 (lv_at hl 0 rfl) ?_
          refine gxN_S_3 C hK I fl_X4_110 dX4_standsIn_45 ?_
          refine lv_iload_n hx hb dX4_standsIn_48 rfl (lv_at hl 3 rfl) ?_
          refine lv_ishr hx hb dX4_standsIn_49 ?_
          refine lv_iconst (v := 1) hx hb dX4_standsIn_50 (by decide) ?_
          refine lv_iand hx hb dX4_standsIn_51 ?_
          refine lv_iconst (v := 1) hx hb dX4_standsIn_52 (by decide) ?_
          refine lv_icmp_ne (tgt := 70) hx hb dX4_standsIn_53 (by decide) (fun c6 => ?_) (fun c6 => ?_)
          · have h := ite_n c6 h
            exact J_70 k_2 hk_2 _ _ _ _ h _ _ _ I (lv_sub hl [1, 2, 3, 4] rfl)
          · have h := ite_t c6 h
            refine lv_aload hx hb dX4_standsIn_56 (lv_at hl 0 rfl) ?_
            refine gxN_S_3 C hK I fl_X4_110 dX4_standsIn_58 ?_
            refine lv_iload_n hx hb dX4_standsIn_61 rfl (lv_at hl 2 rfl) ?_
            refine lv_ishr hx hb dX4_standsIn_62 ?_
            refine lv_iconst (v := 1) hx hb dX4_standsIn_63 (by decide) ?_
            refine lv_iand hx hb dX4_standsIn_64 ?_
            refine lv_if_ne (tgt := 70) hx hb dX4_standsIn_65 (by decide) (fun c7 => ?_) (fun c7 => ?_)
            · have h := ite_n c7 h
              exact J_70 k_2 hk_2 _ _ _ _ h _ _ _ I (lv_sub hl [1, 2, 3, 4] rfl)
            · have h := ite_t c7 h
              refine lv_iconst (v := 0) hx hb dX4_standsIn_68 (by decide) ?_
              exact rt_z (Or.inl rfl) hq h I dX4_standsIn_69
        · have h := ite_t c5 h
          refine lv_iconst (v := 0) hx hb dX4_standsIn_41 (by decide) ?_
          exact rt_z (Or.inl rfl) hq h I dX4_standsIn_42
      · subst ho
        have h := oel_n h
        have hl : lv_has ls 5 [(4, .null), (0, .ref (ad 3)), (1, .int x1), (2, .int x2), (3, .int x3)] := hl
        refine lv_goto (tgt := 70) hx hb dX4_standsIn_25 (by decide) ?_
        exact J_70 k_2 hk_2 _ _ _ _ h _ _ _ I (lv_sub hl [1, 2, 3, 4] rfl)
  have J_2 : ∀ (fu : Nat) (S : St) (x1 : Int32) (x2 : Int32) (x3 : Int32), l_X4_standsIn_2  fu S x1 x2 x3 = some (r, S1) → ∀ (H : Heap) (locs : List Loc) (ls : Array Slot), Iv D (xw cI cC cS ad) S A s H locs → lv_has ls 5 [(0, .ref (ad 3)), (1, .int x1), (2, .int x2), (3, .int x3)] → W p l e ({ frames := 3, cells := 0, slots := 0, locals := 66 } : Room) s m args below meth c H locs 0 0 Q (F0 m 2 ls []) := by
    intro fu
    induction fu with
    | zero => intro S x1 x2 x3 h; cases h
    | succ fu ih => intro S x1 x2 x3 h; exact B_2 (l_X4_standsIn_2 fu) ih S x1 x2 x3 h
  unfold f_X4_standsIn at h
  refine lv_iconst (v := 0) hx hb dX4_standsIn_0 (by decide) ?_
  refine lv_istore_n (lv' := [(3, .int 0), (0, .ref (ad 3)), (1, .int x1), (2, .int x2)]) hx hb dX4_standsIn_1 rfl hl (by decide) rfl (fun ls hl => ?_)
  exact J_2 _ _ _ _ _ h _ _ _ I (lv_sub hl [1, 2, 3, 0] rfl)
