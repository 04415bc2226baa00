def R_law : String := "CarryUpLaw"
def lw_P (b : Addr) (xs : List Int32) (args : Array Value) (s : State) : Prop := args = #[.ref b] ∧ s.IntsAt b xs ∧ xs.length ≤ 384 ∧ (Jvm.Cond.and given_1 narrow_1).before args s = true
def lw_Q (_ : Array Value) (s : State) (o : Outcome) (t : State) : Prop := o = .returned (some (.int 1)) ∧ Framed s o t [] 600000 7302250
def lw_Z (below : List Frame) (a : Array Value) (s : State) : State → Prop := fun t => ∃ o, t.status = .running ∧ Ended t below o ∧ lw_Q a s o t
/-- the law's own end, with 1 on the stack, nothing written that was there before, its room as the claim has it -/
theorem lw_ret {p : Program} {l : Launch} {e : Env} {s : State} {m : MethodId} {below : List Frame} {meth : Method} {c : Code} {b : Nat} (hx : p.tables.exec = Jvm.exec) (hb : c.code = code) (hr : meth.sig.returnType = ret) (hlocks : meth.locks = false) {pc : Nat} {H : Heap} {ls : Array Slot} (hdg : decode code pc = .ok (.ireturn, 1)) : W p l e room_1 s m #[Value.ref b] below meth c H [] 600000 7302250 (lw_Z below #[Value.ref b] s) (F0 m pc ls [.int 1]) := by
  intro T hT X
  obtain ⟨fs, hret, hrun, hended, hW, hframe⟩ := X.leave (v := some (.int 1)) (hlocks := hlocks) (fun h => by rw [hr] at h; cases h)
  have hmeth' : T.vm.method? m = some meth := X.method'
  refine ⟨T.setFrames fs, ?_, .returned (some (.int 1)), hrun, hended, rfl, ⟨_, rfl⟩, hW, hframe⟩
  jvm_step X.here [X.here.top, hx, hb, hdg, hmeth', hr, ret, narrow_b1]
  (try refine ⟨rfl, ?_⟩); (try refine ⟨rfl, ?_⟩)
  first | (intro acts; rw [hret _ acts rfl rfl rfl]) | rw [hret _ _ rfl rfl rfl]
  exact Steps.refl _
/-- what holds at the law's entry: the machine, the code, the tables' words (any of lw_tbl by 'hts w (by decide +kernel)'), the script of L ints xs at the cell b, what the Statement gives of the start (any of its parts by flat_of_before) -/
def lw_At (p : Program) (s : State) (m : MethodId) (meth : Method) (c : Code) (b L : Nat) (xs : Nat → Int32) : Prop :=
  p.tables.exec = Jvm.exec ∧ c.code = code ∧ meth.sig.returnType = ret ∧ c.maxLocals = 4 ∧ s.vm.findClass R_law = some m.cls ∧ (∀ w ∈ lw_tbl, w.before #[Value.ref b] s = true) ∧ va_X b L xs s s.heap ∧ b < s.heap.size ∧ meth.locks = false ∧ (Jvm.Cond.and given_1 narrow_1).before #[Value.ref b] s = true
def L2 (D : va_G) (w1 : St → va_W) (S1 : St) (w2 : St → va_W) (S2 : St) (A : Nat → Prop) (s : State) (H : Heap) (locs : List Loc) : Prop := va_P D vwCl (w1 S1) H ∧ va_P D vwCl (w2 S2) H ∧ va_D A (w1 S1) ∧ va_D A (w2 S2) ∧ (∀ (i j : Nat) (p q : Nat × va_E), (w1 S1)[i]? = some p → (w2 S2)[j]? = some q → p.1 ≠ q.1) ∧ va_S A s.heap H locs
theorem L2.swap {D : va_G} {w1 w2 : St → va_W} {S1 S2 : St} {A : Nat → Prop} {s : State} {H : Heap} {locs : List Loc} (h : L2 D w1 S1 w2 S2 A s H locs) : L2 D w2 S2 w1 S1 A s H locs := ⟨h.2.1, h.1, h.2.2.2.1, h.2.2.1, fun i j p q hp hq e => h.2.2.2.2.1 j i q p hq hp e.symm, h.2.2.2.2.2⟩
theorem L2.S {D : va_G} {w1 w2 : St → va_W} {S1 S2 : St} {A : Nat → Prop} {s : State} {H : Heap} {locs : List Loc} (h : L2 D w1 S1 w2 S2 A s H locs) : va_S A s.heap H locs := h.2.2.2.2.2
section KV2
variable {p : Program} {l : Launch} {e : Env} {R : Room} {s : State} {m : MethodId} {args : Array Value} {below : List Frame} {meth : Method} {c : Code} {H : Heap} {locs : List Loc} {Q : State → Prop} {cells slots : Nat}
variable {D : va_G} {tys : List (ClassId × FieldType)} {KK : (Nat → Prop) → State → Prop} {w wf : St → va_W} {S Sf S1 : St} {A : Nat → Prop} {cc bytes : ByteArray} {nL maxL fr lo n index pc : Nat} {own : String} {y : MethodName} {ret : Option FieldType} {As rest st st1 : List Value} {v : Option Value} {ls : Array Slot} {b : Addr}
theorem k_V2 (C : CallFix p m c cc nL s args TT own) (hk : KKok D tys KK) (hK : KK A s) (I : L2 D w S wf Sf A s H locs) (hA : ∀ q, s.heap.size ≤ q → A q)
    (hc : Kt l D w KK y bytes maxL ret fr lo (.ref b :: As) S v S1) (hR : fr + 1 ≤ R.frames ∧ 8 + (maxL + 11) + lo ≤ R.locals) (hm : MV y bytes maxL ret n) (hl : Cond.methodLink own index y ∈ TT)
    (q0 ci : Nat) {fs : List Value} {T : u_T} {N : Nat} (he : (w S)[q0]? = some (b, .inr (ci, fs))) (hci : vwCl[ci]? = some (y.cls, T, N)) (hn : As.length = n) (hz : ls.size = nL) (hst : As.reverse ++ .ref b :: rest = st) (hW : (rest.map fun v => v.category).sum ≤ 8) (hdg : decode cc pc = .ok (.invokevirtual index, 3)) (h1 : v.toList ++ rest = st1) (hcs : cells ≤ R.cells ∧ slots ≤ R.slots)
    (kk : ∀ (H1 : Heap) (locs1 : List Loc), L2 D w S1 wf Sf A s H1 locs1 → W p l e R s m args below meth c H1 locs1 cells slots Q (F0 m (pc + 3) ls st1)) : W p l e R s m args below meth c H locs cells slots Q (F0 m pc ls st) := by
  obtain ⟨m1, m2, m3, m4, m5⟩ := hm
  have ht := C.2.2.2.2
  obtain ⟨hP, hPf, hD, hDf, hap, hS⟩ := I
  have I0 : Iv D w S A s H locs := ⟨hP, hD, hS⟩
  have hF := free_in I0 hA
  have hr : va_Run p l e R s m args below meth c H locs cells slots 0 0 (F0 m pc ls st) rest (Qw D w S S1 v H.size (Value.ref b :: As).toArray) (va_A (w S) H.size) := va_runV (R := R) (cells := cells) (slots := slots) (rest := rest) C (hc H.size) ⟨callB_of n ht (goodTT m1) rfl rfl rfl (ht _ m4) (ht _ hl) m5 hR, ht _ m2, ht _ m3⟩ ⟨(k_pre hk hK I0 hA (.ref b :: As)).1, va_recv (hk.2.2.1 _ _ hK) hP hci he, (k_pre hk hK I0 hA (.ref b :: As)).2⟩ (g := F0 m pc ls st) rfl hn hz hst.symm (by simpa using hW) hdg hcs
  intro T hT X
  obtain ⟨v', st₀, t, T', L, h0, X', hL, e1, e2, ⟨hv, ⟨hb1, hb2⟩, hz1, hk1⟩, stp⟩ := hr T hT X
  cases hv
  rw [h0] at hz1 hk1
  have hk2 : ∀ q : Nat, q < H.size → ¬ va_A (w S) H.size q → T'.heap[q]? = H[q]? := fun q g1 g2 => by rw [e1]; exact hk1 q g1 g2
  have hout : ∀ (k : Nat) (q : Nat × va_E), (wf Sf)[k]? = some q → ¬ va_A (w S) H.size q.1 := fun k q hq hz => by
    rcases hz with ⟨i, e, hi⟩ | hge
    · exact hap i k (q.1, e) q hi hq rfl
    · have := (hPf k q hq).lt
      omega
  obtain ⟨t2, a1, b1⟩ := kk T'.heap (locs ++ L) ⟨by rw [e1]; exact hb1, hPf.kept (fun k q hq => hk2 q.1 (hPf k q hq).lt (hout k q hq)), hb2.weaken (fun k q _ h => hF q.1 h), hDf, fun i j p q hp hq e => hout j q hq (e ▸ hb2.2 i p hp), Nat.le_trans hS.1 (by rw [e1]; exact hz1), fun q h1 h2 => by rw [hk2 q (Nat.lt_of_lt_of_le h1 hS.1) (fun z => h2 (hF q z))]; exact hS.2.1 q h1 h2, fun q hq => by
      rcases List.mem_append.mp hq with h | h
      · exact hS.2.2 q h
      · exact hF _ (hL q h)⟩ T' rfl X'
  refine ⟨t2, stp t2 ?_, b1⟩
  subst h1
  exact a1
end KV2
theorem sc_in {i L k : Nat} (h : i + k < L) (hL : L ≤ 384) : vp_in (nI i + nI k) L := by rw [nI_add]; exact vp_in_nI h (by omega)
theorem sc_go {i L : Nat} (hi : i ≤ L) (hL : L ≤ 384) (h : ¬ Int32.ofNat L - 6 < nI i) : i + 6 ≤ L := by
  rcases Nat.lt_or_ge L (i + 6) with q | q
  · refine absurd ?_ h
    have e : (Int32.ofNat L - 6 : Int32) = nI L - nI 6 := rfl
    rw [Int32.lt_iff_toInt_lt, e, pk_sub_toInt (by omega) (by omega), nI_toInt (by omega)]
    omega
  · exact q
theorem lgc_self (x : Int64) : lg_cmp x x = 0 := by simp [lg_cmp]
theorem mv_X10_write : MV yX10_write cX10_write 4 (some .int) 2 := ⟨tt_of 412 (by decide +kernel) rfl, tt_of 410 (by decide +kernel) rfl, tt_of 411 (by decide +kernel) rfl, tt_of 65 (by decide +kernel) rfl, ⟨by decide +kernel, by decide +kernel, by decide +kernel⟩⟩
theorem lk_L_15 : Cond.methodLink R_law 15 yX10_write ∈ TT := tt_of 409 (by decide +kernel) rfl
theorem mv_X11_write : MV yX11_write cX11_write 5 (some .int) 2 := ⟨tt_of 1206 (by decide +kernel) rfl, tt_of 1204 (by decide +kernel) rfl, tt_of 1205 (by decide +kernel) rfl, tt_of 76 (by decide +kernel) rfl, ⟨by decide +kernel, by decide +kernel, by decide +kernel⟩⟩
theorem lk_L_19 : Cond.methodLink R_law 19 yX11_write ∈ TT := tt_of 1203 (by decide +kernel) rfl
theorem mv_X10_erase : MV yX10_erase cX10_erase 2 (some .int) 0 := ⟨tt_of 427 (by decide +kernel) rfl, tt_of 425 (by decide +kernel) rfl, tt_of 426 (by decide +kernel) rfl, tt_of 65 (by decide +kernel) rfl, ⟨by decide +kernel, by decide +kernel, by decide +kernel⟩⟩
theorem lk_L_20 : Cond.methodLink R_law 20 yX10_erase ∈ TT := tt_of 424 (by decide +kernel) rfl
theorem mv_X11_erase : MV yX11_erase cX11_erase 2 (some .int) 0 := ⟨tt_of 1215 (by decide +kernel) rfl, tt_of 1213 (by decide +kernel) rfl, tt_of 1214 (by decide +kernel) rfl, tt_of 76 (by decide +kernel) rfl, ⟨by decide +kernel, by decide +kernel, by decide +kernel⟩⟩
theorem lk_L_24 : Cond.methodLink R_law 24 yX11_erase ∈ TT := tt_of 1212 (by decide +kernel) rfl
theorem mv_X10_fault : MV yX10_fault cX10_fault 1 (some .int) 0 := ⟨tt_of 439 (by decide +kernel) rfl, tt_of 437 (by decide +kernel) rfl, tt_of 438 (by decide +kernel) rfl, tt_of 65 (by decide +kernel) rfl, ⟨by decide +kernel, by decide +kernel, by decide +kernel⟩⟩
theorem lk_L_25 : Cond.methodLink R_law 25 yX10_fault ∈ TT := tt_of 436 (by decide +kernel) rfl
theorem lk_L_28 : Cond.methodLink R_law 28 yX11_fault ∈ TT := tt_of 1216 (by decide +kernel) rfl
theorem mv_X10_day : MV yX10_day cX10_day 3 (some .int) 0 := ⟨tt_of 582 (by decide +kernel) rfl, tt_of 580 (by decide +kernel) rfl, tt_of 581 (by decide +kernel) rfl, tt_of 65 (by decide +kernel) rfl, ⟨by decide +kernel, by decide +kernel, by decide +kernel⟩⟩
theorem lk_L_29 : Cond.methodLink R_law 29 yX10_day ∈ TT := tt_of 579 (by decide +kernel) rfl
theorem mv_X11_day : MV yX11_day cX11_day 2 (some .int) 0 := ⟨tt_of 1277 (by decide +kernel) rfl, tt_of 1275 (by decide +kernel) rfl, tt_of 1276 (by decide +kernel) rfl, tt_of 76 (by decide +kernel) rfl, ⟨by decide +kernel, by decide +kernel, by decide +kernel⟩⟩
theorem lk_L_32 : Cond.methodLink R_law 32 yX11_day ∈ TT := tt_of 1274 (by decide +kernel) rfl
theorem mv_X10_thing : MV yX10_thing cX10_thing 3 (some .int) 2 := ⟨tt_of 634 (by decide +kernel) rfl, tt_of 632 (by decide +kernel) rfl, tt_of 633 (by decide +kernel) rfl, tt_of 65 (by decide +kernel) rfl, ⟨by decide +kernel, by decide +kernel, by decide +kernel⟩⟩
theorem lk_L_33 : Cond.methodLink R_law 33 yX10_thing ∈ TT := tt_of 631 (by decide +kernel) rfl
theorem mv_X11_thing : MV yX11_thing cX11_thing 3 (some .int) 2 := ⟨tt_of 1286 (by decide +kernel) rfl, tt_of 1284 (by decide +kernel) rfl, tt_of 1285 (by decide +kernel) rfl, tt_of 76 (by decide +kernel) rfl, ⟨by decide +kernel, by decide +kernel, by decide +kernel⟩⟩
theorem lk_L_37 : Cond.methodLink R_law 37 yX11_thing ∈ TT := tt_of 1283 (by decide +kernel) rfl
theorem mv_X10_call : MV yX10_call cX10_call 4 (some .int) 2 := ⟨tt_of 652 (by decide +kernel) rfl, tt_of 650 (by decide +kernel) rfl, tt_of 651 (by decide +kernel) rfl, tt_of 65 (by decide +kernel) rfl, ⟨by decide +kernel, by decide +kernel, by decide +kernel⟩⟩
theorem lk_L_38 : Cond.methodLink R_law 38 yX10_call ∈ TT := tt_of 649 (by decide +kernel) rfl
theorem mv_X11_call : MV yX11_call cX11_call 3 (some .int) 2 := ⟨tt_of 1293 (by decide +kernel) rfl, tt_of 1291 (by decide +kernel) rfl, tt_of 1292 (by decide +kernel) rfl, tt_of 76 (by decide +kernel) rfl, ⟨by decide +kernel, by decide +kernel, by decide +kernel⟩⟩
theorem lk_L_41 : Cond.methodLink R_law 41 yX11_call ∈ TT := tt_of 1290 (by decide +kernel) rfl
theorem mv_X10_sort : MV yX10_sort cX10_sort 5 (some .int) 3 := ⟨tt_of 668 (by decide +kernel) rfl, tt_of 666 (by decide +kernel) rfl, tt_of 667 (by decide +kernel) rfl, tt_of 65 (by decide +kernel) rfl, ⟨by decide +kernel, by decide +kernel, by decide +kernel⟩⟩
theorem lk_L_42 : Cond.methodLink R_law 42 yX10_sort ∈ TT := tt_of 665 (by decide +kernel) rfl
theorem mv_X11_sort : MV yX11_sort cX11_sort 4 (some .int) 3 := ⟨tt_of 1302 (by decide +kernel) rfl, tt_of 1300 (by decide +kernel) rfl, tt_of 1301 (by decide +kernel) rfl, tt_of 76 (by decide +kernel) rfl, ⟨by decide +kernel, by decide +kernel, by decide +kernel⟩⟩
theorem lk_L_46 : Cond.methodLink R_law 46 yX11_sort ∈ TT := tt_of 1299 (by decide +kernel) rfl
theorem mv_X10_way : MV yX10_way cX10_way 3 (some .int) 2 := ⟨tt_of 681 (by decide +kernel) rfl, tt_of 679 (by decide +kernel) rfl, tt_of 680 (by decide +kernel) rfl, tt_of 65 (by decide +kernel) rfl, ⟨by decide +kernel, by decide +kernel, by decide +kernel⟩⟩
theorem lk_L_47 : Cond.methodLink R_law 47 yX10_way ∈ TT := tt_of 678 (by decide +kernel) rfl
theorem mv_X11_way : MV yX11_way cX11_way 3 (some .int) 2 := ⟨tt_of 1311 (by decide +kernel) rfl, tt_of 1309 (by decide +kernel) rfl, tt_of 1310 (by decide +kernel) rfl, tt_of 76 (by decide +kernel) rfl, ⟨by decide +kernel, by decide +kernel, by decide +kernel⟩⟩
theorem lk_L_50 : Cond.methodLink R_law 50 yX11_way ∈ TT := tt_of 1308 (by decide +kernel) rfl
theorem mv_X10_may : MV yX10_may cX10_may 2 (some .int) 1 := ⟨tt_of 689 (by decide +kernel) rfl, tt_of 687 (by decide +kernel) rfl, tt_of 688 (by decide +kernel) rfl, tt_of 65 (by decide +kernel) rfl, ⟨by decide +kernel, by decide +kernel, by decide +kernel⟩⟩
theorem lk_L_51 : Cond.methodLink R_law 51 yX10_may ∈ TT := tt_of 686 (by decide +kernel) rfl
theorem mv_X11_may : MV yX11_may cX11_may 2 (some .int) 1 := ⟨tt_of 1315 (by decide +kernel) rfl, tt_of 1313 (by decide +kernel) rfl, tt_of 1314 (by decide +kernel) rfl, tt_of 76 (by decide +kernel) rfl, ⟨by decide +kernel, by decide +kernel, by decide +kernel⟩⟩
theorem lk_L_55 : Cond.methodLink R_law 55 yX11_may ∈ TT := tt_of 1312 (by decide +kernel) rfl
theorem mv_X10_does : MV yX10_does cX10_does 5 (some .int) 3 := ⟨tt_of 704 (by decide +kernel) rfl, tt_of 702 (by decide +kernel) rfl, tt_of 703 (by decide +kernel) rfl, tt_of 65 (by decide +kernel) rfl, ⟨by decide +kernel, by decide +kernel, by decide +kernel⟩⟩
theorem lk_L_56 : Cond.methodLink R_law 56 yX10_does ∈ TT := tt_of 701 (by decide +kernel) rfl
theorem mv_X11_does : MV yX11_does cX11_does 4 (some .int) 3 := ⟨tt_of 1330 (by decide +kernel) rfl, tt_of 1328 (by decide +kernel) rfl, tt_of 1329 (by decide +kernel) rfl, tt_of 76 (by decide +kernel) rfl, ⟨by decide +kernel, by decide +kernel, by decide +kernel⟩⟩
theorem lk_L_59 : Cond.methodLink R_law 59 yX11_does ∈ TT := tt_of 1327 (by decide +kernel) rfl
theorem mv_X10_chance : MV yX10_chance cX10_chance 5 (some .int) 3 := ⟨tt_of 715 (by decide +kernel) rfl, tt_of 713 (by decide +kernel) rfl, tt_of 714 (by decide +kernel) rfl, tt_of 65 (by decide +kernel) rfl, ⟨by decide +kernel, by decide +kernel, by decide +kernel⟩⟩
theorem lk_L_60 : Cond.methodLink R_law 60 yX10_chance ∈ TT := tt_of 712 (by decide +kernel) rfl
theorem mv_X11_chance : MV yX11_chance cX11_chance 6 (some .int) 3 := ⟨tt_of 1341 (by decide +kernel) rfl, tt_of 1339 (by decide +kernel) rfl, tt_of 1340 (by decide +kernel) rfl, tt_of 76 (by decide +kernel) rfl, ⟨by decide +kernel, by decide +kernel, by decide +kernel⟩⟩
theorem lk_L_63 : Cond.methodLink R_law 63 yX11_chance ∈ TT := tt_of 1338 (by decide +kernel) rfl
theorem mv_X10_mean : MV yX10_mean cX10_mean 6 (some .long) 4 := ⟨tt_of 743 (by decide +kernel) rfl, tt_of 741 (by decide +kernel) rfl, tt_of 742 (by decide +kernel) rfl, tt_of 65 (by decide +kernel) rfl, ⟨by decide +kernel, by decide +kernel, by decide +kernel⟩⟩
theorem lk_L_64 : Cond.methodLink R_law 64 yX10_mean ∈ TT := tt_of 740 (by decide +kernel) rfl
theorem mv_X11_mean : MV yX11_mean cX11_mean 6 (some .long) 4 := ⟨tt_of 1362 (by decide +kernel) rfl, tt_of 1360 (by decide +kernel) rfl, tt_of 1361 (by decide +kernel) rfl, tt_of 76 (by decide +kernel) rfl, ⟨by decide +kernel, by decide +kernel, by decide +kernel⟩⟩
theorem lk_L_68 : Cond.methodLink R_law 68 yX11_mean ∈ TT := tt_of 1359 (by decide +kernel) rfl
theorem mv_X10_all : MV yX10_all cX10_all 6 (some .long) 4 := ⟨tt_of 834 (by decide +kernel) rfl, tt_of 832 (by decide +kernel) rfl, tt_of 833 (by decide +kernel) rfl, tt_of 65 (by decide +kernel) rfl, ⟨by decide +kernel, by decide +kernel, by decide +kernel⟩⟩
theorem lk_L_69 : Cond.methodLink R_law 69 yX10_all ∈ TT := tt_of 831 (by decide +kernel) rfl
theorem mv_X11_all : MV yX11_all cX11_all 6 (some .long) 4 := ⟨tt_of 1398 (by decide +kernel) rfl, tt_of 1396 (by decide +kernel) rfl, tt_of 1397 (by decide +kernel) rfl, tt_of 76 (by decide +kernel) rfl, ⟨by decide +kernel, by decide +kernel, by decide +kernel⟩⟩
theorem lk_L_72 : Cond.methodLink R_law 72 yX11_all ∈ TT := tt_of 1395 (by decide +kernel) rfl
theorem mv_X10_end : MV yX10_end cX10_end 5 (some .int) 3 := ⟨tt_of 842 (by decide +kernel) rfl, tt_of 840 (by decide +kernel) rfl, tt_of 841 (by decide +kernel) rfl, tt_of 65 (by decide +kernel) rfl, ⟨by decide +kernel, by decide +kernel, by decide +kernel⟩⟩
theorem lk_L_73 : Cond.methodLink R_law 73 yX10_end ∈ TT := tt_of 839 (by decide +kernel) rfl
theorem mv_X11_end : MV yX11_end cX11_end 7 (some .int) 3 := ⟨tt_of 1408 (by decide +kernel) rfl, tt_of 1406 (by decide +kernel) rfl, tt_of 1407 (by decide +kernel) rfl, tt_of 76 (by decide +kernel) rfl, ⟨by decide +kernel, by decide +kernel, by decide +kernel⟩⟩
theorem lk_L_76 : Cond.methodLink R_law 76 yX11_end ∈ TT := tt_of 1405 (by decide +kernel) rfl
theorem mv_X10_best : MV yX10_best cX10_best 4 (some .int) 2 := ⟨tt_of 850 (by decide +kernel) rfl, tt_of 848 (by decide +kernel) rfl, tt_of 849 (by decide +kernel) rfl, tt_of 65 (by decide +kernel) rfl, ⟨by decide +kernel, by decide +kernel, by decide +kernel⟩⟩
theorem lk_L_77 : Cond.methodLink R_law 77 yX10_best ∈ TT := tt_of 847 (by decide +kernel) rfl
theorem mv_X11_best : MV yX11_best cX11_best 4 (some .int) 2 := ⟨tt_of 1412 (by decide +kernel) rfl, tt_of 1410 (by decide +kernel) rfl, tt_of 1411 (by decide +kernel) rfl, tt_of 76 (by decide +kernel) rfl, ⟨by decide +kernel, by decide +kernel, by decide +kernel⟩⟩
theorem lk_L_80 : Cond.methodLink R_law 80 yX11_best ∈ TT := tt_of 1409 (by decide +kernel) rfl
theorem mv_X10_sure : MV yX10_sure cX10_sure 6 (some .int) 4 := ⟨tt_of 882 (by decide +kernel) rfl, tt_of 880 (by decide +kernel) rfl, tt_of 881 (by decide +kernel) rfl, tt_of 65 (by decide +kernel) rfl, ⟨by decide +kernel, by decide +kernel, by decide +kernel⟩⟩
theorem lk_L_81 : Cond.methodLink R_law 81 yX10_sure ∈ TT := tt_of 879 (by decide +kernel) rfl
theorem mv_X11_sure : MV yX11_sure cX11_sure 9 (some .int) 4 := ⟨tt_of 1420 (by decide +kernel) rfl, tt_of 1418 (by decide +kernel) rfl, tt_of 1419 (by decide +kernel) rfl, tt_of 76 (by decide +kernel) rfl, ⟨by decide +kernel, by decide +kernel, by decide +kernel⟩⟩
theorem lk_L_85 : Cond.methodLink R_law 85 yX11_sure ∈ TT := tt_of 1417 (by decide +kernel) rfl
theorem mv_X10_know : MV yX10_know cX10_know 8 (some .long) 4 := ⟨tt_of 892 (by decide +kernel) rfl, tt_of 890 (by decide +kernel) rfl, tt_of 891 (by decide +kernel) rfl, tt_of 65 (by decide +kernel) rfl, ⟨by decide +kernel, by decide +kernel, by decide +kernel⟩⟩
theorem lk_L_86 : Cond.methodLink R_law 86 yX10_know ∈ TT := tt_of 889 (by decide +kernel) rfl
theorem mv_X11_know : MV yX11_know cX11_know 15 (some .long) 4 := ⟨tt_of 1425 (by decide +kernel) rfl, tt_of 1423 (by decide +kernel) rfl, tt_of 1424 (by decide +kernel) rfl, tt_of 76 (by decide +kernel) rfl, ⟨by decide +kernel, by decide +kernel, by decide +kernel⟩⟩
theorem lk_L_89 : Cond.methodLink R_law 89 yX11_know ∈ TT := tt_of 1422 (by decide +kernel) rfl
theorem mv_X10_both : MV yX10_both cX10_both 3 (some .int) 2 := ⟨tt_of 916 (by decide +kernel) rfl, tt_of 914 (by decide +kernel) rfl, tt_of 915 (by decide +kernel) rfl, tt_of 65 (by decide +kernel) rfl, ⟨by decide +kernel, by decide +kernel, by decide +kernel⟩⟩
theorem lk_L_90 : Cond.methodLink R_law 90 yX10_both ∈ TT := tt_of 913 (by decide +kernel) rfl
theorem mv_X11_both : MV yX11_both cX11_both 16 (some .int) 2 := ⟨tt_of 1430 (by decide +kernel) rfl, tt_of 1428 (by decide +kernel) rfl, tt_of 1429 (by decide +kernel) rfl, tt_of 76 (by decide +kernel) rfl, ⟨by decide +kernel, by decide +kernel, by decide +kernel⟩⟩
theorem lk_L_93 : Cond.methodLink R_law 93 yX11_both ∈ TT := tt_of 1427 (by decide +kernel) rfl
theorem mv_X10_value : MV yX10_value cX10_value 7 (some .long) 5 := ⟨tt_of 933 (by decide +kernel) rfl, tt_of 931 (by decide +kernel) rfl, tt_of 932 (by decide +kernel) rfl, tt_of 65 (by decide +kernel) rfl, ⟨by decide +kernel, by decide +kernel, by decide +kernel⟩⟩
theorem lk_L_94 : Cond.methodLink R_law 94 yX10_value ∈ TT := tt_of 930 (by decide +kernel) rfl
theorem mv_X11_value : MV yX11_value cX11_value 7 (some .long) 5 := ⟨tt_of 1434 (by decide +kernel) rfl, tt_of 1432 (by decide +kernel) rfl, tt_of 1433 (by decide +kernel) rfl, tt_of 76 (by decide +kernel) rfl, ⟨by decide +kernel, by decide +kernel, by decide +kernel⟩⟩
theorem lk_L_98 : Cond.methodLink R_law 98 yX11_value ∈ TT := tt_of 1431 (by decide +kernel) rfl
theorem mv_X10_next : MV yX10_next cX10_next 6 (some .int) 4 := ⟨tt_of 981 (by decide +kernel) rfl, tt_of 979 (by decide +kernel) rfl, tt_of 980 (by decide +kernel) rfl, tt_of 65 (by decide +kernel) rfl, ⟨by decide +kernel, by decide +kernel, by decide +kernel⟩⟩
theorem lk_L_99 : Cond.methodLink R_law 99 yX10_next ∈ TT := tt_of 978 (by decide +kernel) rfl
theorem mv_X11_next : MV yX11_next cX11_next 9 (some .int) 4 := ⟨tt_of 1492 (by decide +kernel) rfl, tt_of 1490 (by decide +kernel) rfl, tt_of 1491 (by decide +kernel) rfl, tt_of 76 (by decide +kernel) rfl, ⟨by decide +kernel, by decide +kernel, by decide +kernel⟩⟩
theorem lk_L_102 : Cond.methodLink R_law 102 yX11_next ∈ TT := tt_of 1489 (by decide +kernel) rfl
theorem mv_X10_stands : MV yX10_stands cX10_stands 3 (some .int) 2 := ⟨tt_of 989 (by decide +kernel) rfl, tt_of 987 (by decide +kernel) rfl, tt_of 988 (by decide +kernel) rfl, tt_of 65 (by decide +kernel) rfl, ⟨by decide +kernel, by decide +kernel, by decide +kernel⟩⟩
theorem lk_L_103 : Cond.methodLink R_law 103 yX10_stands ∈ TT := tt_of 986 (by decide +kernel) rfl
theorem mv_X11_stands : MV yX11_stands cX11_stands 6 (some .int) 2 := ⟨tt_of 1496 (by decide +kernel) rfl, tt_of 1494 (by decide +kernel) rfl, tt_of 1495 (by decide +kernel) rfl, tt_of 76 (by decide +kernel) rfl, ⟨by decide +kernel, by decide +kernel, by decide +kernel⟩⟩
theorem lk_L_106 : Cond.methodLink R_law 106 yX11_stands ∈ TT := tt_of 1493 (by decide +kernel) rfl
theorem mv_X10_idle : MV yX10_idle cX10_idle 1 (some .int) 0 := ⟨tt_of 998 (by decide +kernel) rfl, tt_of 996 (by decide +kernel) rfl, tt_of 997 (by decide +kernel) rfl, tt_of 65 (by decide +kernel) rfl, ⟨by decide +kernel, by decide +kernel, by decide +kernel⟩⟩
theorem lk_L_107 : Cond.methodLink R_law 107 yX10_idle ∈ TT := tt_of 995 (by decide +kernel) rfl
theorem mv_X11_idle : MV yX11_idle cX11_idle 3 (some .int) 0 := ⟨tt_of 1500 (by decide +kernel) rfl, tt_of 1498 (by decide +kernel) rfl, tt_of 1499 (by decide +kernel) rfl, tt_of 76 (by decide +kernel) rfl, ⟨by decide +kernel, by decide +kernel, by decide +kernel⟩⟩
theorem lk_L_110 : Cond.methodLink R_law 110 yX11_idle ∈ TT := tt_of 1497 (by decide +kernel) rfl
theorem mv_X10_visit : MV yX10_visit cX10_visit 5 (some .int) 3 := ⟨tt_of 1007 (by decide +kernel) rfl, tt_of 1005 (by decide +kernel) rfl, tt_of 1006 (by decide +kernel) rfl, tt_of 65 (by decide +kernel) rfl, ⟨by decide +kernel, by decide +kernel, by decide +kernel⟩⟩
theorem lk_L_111 : Cond.methodLink R_law 111 yX10_visit ∈ TT := tt_of 1004 (by decide +kernel) rfl
theorem mv_X11_visit : MV yX11_visit cX11_visit 4 (some .int) 3 := ⟨tt_of 1504 (by decide +kernel) rfl, tt_of 1502 (by decide +kernel) rfl, tt_of 1503 (by decide +kernel) rfl, tt_of 76 (by decide +kernel) rfl, ⟨by decide +kernel, by decide +kernel, by decide +kernel⟩⟩
theorem lk_L_114 : Cond.methodLink R_law 114 yX11_visit ∈ TT := tt_of 1501 (by decide +kernel) rfl
theorem mv_X10_saved : MV yX10_saved cX10_saved 2 (some .int) 1 := ⟨tt_of 1016 (by decide +kernel) rfl, tt_of 1014 (by decide +kernel) rfl, tt_of 1015 (by decide +kernel) rfl, tt_of 65 (by decide +kernel) rfl, ⟨by decide +kernel, by decide +kernel, by decide +kernel⟩⟩
theorem lk_L_115 : Cond.methodLink R_law 115 yX10_saved ∈ TT := tt_of 1013 (by decide +kernel) rfl
theorem mv_X11_saved : MV yX11_saved cX11_saved 2 (some .int) 1 := ⟨tt_of 1508 (by decide +kernel) rfl, tt_of 1506 (by decide +kernel) rfl, tt_of 1507 (by decide +kernel) rfl, tt_of 76 (by decide +kernel) rfl, ⟨by decide +kernel, by decide +kernel, by decide +kernel⟩⟩
theorem lk_L_118 : Cond.methodLink R_law 118 yX11_saved ∈ TT := tt_of 1505 (by decide +kernel) rfl
theorem mv_X10_most : MV yX10_most cX10_most 2 (some .int) 1 := ⟨tt_of 1030 (by decide +kernel) rfl, tt_of 1028 (by decide +kernel) rfl, tt_of 1029 (by decide +kernel) rfl, tt_of 65 (by decide +kernel) rfl, ⟨by decide +kernel, by decide +kernel, by decide +kernel⟩⟩
theorem lk_L_119 : Cond.methodLink R_law 119 yX10_most ∈ TT := tt_of 1027 (by decide +kernel) rfl
theorem mv_X11_most : MV yX11_most cX11_most 5 (some .int) 1 := ⟨tt_of 1516 (by decide +kernel) rfl, tt_of 1514 (by decide +kernel) rfl, tt_of 1515 (by decide +kernel) rfl, tt_of 76 (by decide +kernel) rfl, ⟨by decide +kernel, by decide +kernel, by decide +kernel⟩⟩
theorem lk_L_122 : Cond.methodLink R_law 122 yX11_most ∈ TT := tt_of 1513 (by decide +kernel) rfl
theorem mv_X10_box : MV yX10_box cX10_box 3 (some .int) 1 := ⟨tt_of 1040 (by decide +kernel) rfl, tt_of 1038 (by decide +kernel) rfl, tt_of 1039 (by decide +kernel) rfl, tt_of 65 (by decide +kernel) rfl, ⟨by decide +kernel, by decide +kernel, by decide +kernel⟩⟩
theorem lk_L_123 : Cond.methodLink R_law 123 yX10_box ∈ TT := tt_of 1037 (by decide +kernel) rfl
theorem mv_X11_box : MV yX11_box cX11_box 5 (some .int) 1 := ⟨tt_of 1523 (by decide +kernel) rfl, tt_of 1521 (by decide +kernel) rfl, tt_of 1522 (by decide +kernel) rfl, tt_of 76 (by decide +kernel) rfl, ⟨by decide +kernel, by decide +kernel, by decide +kernel⟩⟩
theorem lk_L_126 : Cond.methodLink R_law 126 yX11_box ∈ TT := tt_of 1520 (by decide +kernel) rfl
theorem mv_X10_run : MV yX10_run cX10_run 7 (some .int) 5 := ⟨tt_of 1055 (by decide +kernel) rfl, tt_of 1053 (by decide +kernel) rfl, tt_of 1054 (by decide +kernel) rfl, tt_of 65 (by decide +kernel) rfl, ⟨by decide +kernel, by decide +kernel, by decide +kernel⟩⟩
theorem lk_L_127 : Cond.methodLink R_law 127 yX10_run ∈ TT := tt_of 1052 (by decide +kernel) rfl
theorem mv_X11_run : MV yX11_run cX11_run 7 (some .int) 5 := ⟨tt_of 1531 (by decide +kernel) rfl, tt_of 1529 (by decide +kernel) rfl, tt_of 1530 (by decide +kernel) rfl, tt_of 76 (by decide +kernel) rfl, ⟨by decide +kernel, by decide +kernel, by decide +kernel⟩⟩
theorem lk_L_131 : Cond.methodLink R_law 131 yX11_run ∈ TT := tt_of 1528 (by decide +kernel) rfl
theorem mv_X10_count : MV yX10_count cX10_count 2 (some .int) 1 := ⟨tt_of 1085 (by decide +kernel) rfl, tt_of 1083 (by decide +kernel) rfl, tt_of 1084 (by decide +kernel) rfl, tt_of 65 (by decide +kernel) rfl, ⟨by decide +kernel, by decide +kernel, by decide +kernel⟩⟩
theorem lk_L_132 : Cond.methodLink R_law 132 yX10_count ∈ TT := tt_of 1082 (by decide +kernel) rfl
theorem mv_X11_count : MV yX11_count cX11_count 4 (some .int) 1 := ⟨tt_of 1536 (by decide +kernel) rfl, tt_of 1534 (by decide +kernel) rfl, tt_of 1535 (by decide +kernel) rfl, tt_of 76 (by decide +kernel) rfl, ⟨by decide +kernel, by decide +kernel, by decide +kernel⟩⟩
theorem lk_L_135 : Cond.methodLink R_law 135 yX11_count ∈ TT := tt_of 1533 (by decide +kernel) rfl
