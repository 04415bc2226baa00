-- ===== 19: constructors: cells come
def KC (D : va_G) (cI cC cS : ClassId) (U : State) : Prop := va_K D vwCl (xtys cI cC cS) U ∧ (∀ w ∈ NN, va_Nw w U) ∧ va_AO "CarryUp$Call" U ∧ va_AO "CarryUp$Sort" U
theorem kc_warm {D : va_G} {cI cC cS : ClassId} {s U : State} (hW : s.WarmedH U.vm) (h : KC D cI cC cS s) : KC D cI cC cS U := ⟨va_K.moved hW.alike h.1, fun w hw => nn_warm hW w (nn_nest hw) (h.2.1 w hw), h.2.2.1.moved hW.alike, h.2.2.2.moved hW.alike⟩
theorem kc_call {D : va_G} {cI cC cS : ClassId} {U : State} {g : JFrame} {mk : MethodId} {a : Array Value} (h : KC D cI cC cS U) : KC D cI cC cS (U.calling g mk a) := ⟨va_K.moved (u := U) (U := U.calling g mk a) (Vm.Alike.refl U.vm) h.1, fun w hw => nn_same (u := U) (U := U.calling g mk a) rfl w (nn_nest hw) (h.2.1 w hw), h.2.2.1.moved (u := U) (U := U.calling g mk a) (Vm.Alike.refl U.vm), h.2.2.2.moved (u := U) (U := U.calling g mk a) (Vm.Alike.refl U.vm)⟩
def Iw (D : va_G) (ws : va_W) (A : Nat → Prop) (s : State) (H : Heap) (locs : List Loc) : Prop := va_P D vwCl ws H ∧ va_D A ws ∧ va_S A s.heap H locs
def Qn (D : va_G) (ws : va_W) (post : va_W → Prop) (sz : Nat) : Array Value → State → Outcome → State → Prop := fun _ st oc t => oc = .returned none ∧ (∃ ws', post ws' ∧ va_P D vwCl ws' t.heap ∧ va_D (va_A ws sz) ws') ∧ va_F (va_A ws sz) st t
def Kn (l : Launch) (D : va_G) (cI cC cS : ClassId) (y : MethodName) (cc : ByteArray) (n fr lo mc ms : Nat) (As : List Value) (ws : va_W) (post : va_W → Prop) : Prop :=
  ∀ sz : Nat, Met l y (Cond.code y cc n none :: TT) ({ frames := fr, cells := mc, slots := ms, locals := lo }) (va_Pc As (fun U => U.heap.size = sz ∧ va_P D vwCl ws U.heap ∧ va_D (fun _ => True) ws ∧ KC D cI cC cS U)) (Qn D ws post sz) mc ms (va_A ws sz)
theorem n_ent {l : Launch} {D : va_G} {cI cC cS : ClassId} {y : MethodName} {cc : ByteArray} {n fr lo mc ms : Nat} {As : List Value} {ws : va_W} {post : va_W → Prop} (hy : plainName y.cls = true) (hy1 : y.name = "<init>") (hlen : (lg_sl As).length ≤ n)
    (body : ∀ (p : Program) (e : Env) (s : State) (m : MethodId) (args : Array Value) (below : List Frame) (meth : Method) (c : Code) (A : Nat → Prop) (Q : State → Prop), CallFix p m c cc n s args TT y.cls → KC D cI cC cS s → Iw D ws A s s.heap [] → (∀ q, s.heap.size ≤ q → A q) → meth.name = "<init>" →
      (∀ (ws' : va_W) (pc : Nat) (ls : Array Slot) (H : Heap) (locs : List Loc), post ws' → Iw D ws' A s H locs → decode cc pc = .ok (.return_, 1) → W p l e ({ frames := fr, cells := mc, slots := ms, locals := lo }) s m args below meth c H locs mc ms Q (F0 m pc ls [])) →
      ∀ ls : Array Slot, lv_has ls n (lv_args 0 As) → W p l e ({ frames := fr, cells := mc, slots := ms, locals := lo }) s m args below meth c s.heap [] 0 0 Q (F0 m 0 ls [])) :
    Kn l D cI cC cS y cc n fr lo mc ms As ws post := by
  intro sz
  refine Met.ofW (cc := cc) (maxL := n) (ret := none) hy rfl ?_
  intro p e s m args below meth c s₁ B hml hv
  obtain ⟨rfl, hsz, hP, hD, hK⟩ := hv
  have hts := atoms_spec (ws := Cond.code y cc n none :: TT) B.pre
  subst hsz
  rw [lg_entry_eq]
  refine body p e s m _ below meth c (va_A ws s.heap.size) _ ⟨B.exec, B.bytes, hml, findClass_of_methodNamed B.named, fun w hw => hts w (List.mem_cons_of_mem _ hw)⟩ hK ⟨hP, hD.self, va_S.rf⟩ (fun q h => Or.inr h) (by rw [(name_of_methodNamed B.named B.method).1]; exact hy1) ?_ _ (lv_entry As hlen)
  intro ws' pc ls H locs hp I hd
  obtain ⟨hP1, hD1, hS1⟩ := I
  exact W.vret B.exec B.bytes B.returns (fun t ht hW => ⟨rfl, ⟨ws', hp, by rw [ht]; exact hP1, hD1⟩, hS1.F ht⟩) hS1.2.2 hd (hlocks := B.notSynchronized)
theorem ra_eq {U : State} {c1 c2 : ClassId} {ty : FieldType} (h1 : va_RA U c1 ty) (h2 : va_RA U c2 ty) : c1 = c2 := by
  cases ty with
  | object C =>
    obtain ⟨_, _, _, _, _, h1⟩ := h1
    obtain ⟨_, _, _, _, _, h2⟩ := h2
    exact Option.some.inj (h1.symm.trans h2)
  | _ => exact Option.some.inj (Eq.trans (Eq.symm h1) h2)
section NEWS
variable {p : Program} {l : Launch} {e : Env} {R : Room} {s : State} {m : MethodId} {args : Array Value} {below : List Frame} {meth : Method} {c : Code} {H : Heap} {locs : List Loc} {Q : State → Prop} {cells slots : Nat}
variable {D : va_G} {cI cC cS : ClassId} {ws wc wr : va_W} {A : Nat → Prop} {cc bytes : ByteArray} {nL maxL fr lo mc ms n index pc : Nat} {own host : String} {y : MethodName} {As rest st : List Value} {ls : Array Slot} {b : Addr} {post : va_W → Prop}
theorem n_free (I : Iw D ws A s H locs) (hA : ∀ q, s.heap.size ≤ q → A q) (isC : List Nat) (hC : isC.map (fun i => ws[i]?) = wc.map some) : ∀ q, va_A wc H.size q → A q := va_free I.2.1 I.2.2 hA isC hC
theorem n_behind {aa : Array Value} (I : Iw D ws A s H locs) (hA : ∀ q, s.heap.size ≤ q → A q) (isC isR : List Nat) (hC : isC.map (fun i => ws[i]?) = wc.map some) (hR : isR.map (fun i => ws[i]?) = wr.map some) (hnd : va_nd isR = true) (hdis : ∀ i ∈ isR, i ∉ isC)
    (hr : va_Run p l e R s m args below meth c H locs cells slots mc ms (F0 m pc ls st) rest (Qn D wc post H.size aa) (va_A wc H.size))
    (kk : ∀ ws' : va_W, post ws' → ∀ (H1 : Heap) (locs1 : List Loc), Iw D (wr ++ ws') A s H1 locs1 → W p l e R s m args below meth c H1 locs1 (cells + mc) (slots + ms) Q (F0 m (pc + 3) ls rest)) : W p l e R s m args below meth c H locs cells slots Q (F0 m pc ls st) := by
  have hF := n_free I hA isC hC
  obtain ⟨hP, hD, hS⟩ := I
  intro T hT X
  obtain ⟨v', st₀, t, T', L, h0, X', hL, e1, e2, ⟨hv, ⟨ws', hp, hb1, hb2⟩, hz, hk⟩, stp⟩ := hr T hT X
  cases hv
  rw [h0] at hz hk
  have hj := va_join hP hD isC isR hC hR hnd hdis (H1 := T'.heap) (fun q h1 h2 => by rw [e1]; exact hk q h1 h2) hF (by rw [e1]; exact hb1) hb2
  obtain ⟨t2, a1, b1⟩ := kk ws' hp T'.heap (locs ++ L) ⟨hj.1, hj.2, Nat.le_trans hS.1 (by rw [e1]; exact hz), fun q h1 h2 => by rw [e1, hk q (Nat.lt_of_lt_of_le h1 hS.1) (fun z => h2 (hF q z))]; exact hS.2.1 q h1 h2, fun q hq => by
      rcases List.mem_append.mp hq with h | h
      · exact hS.2.2 q h
      · exact hF _ (hL q h)⟩ T' rfl X'
  exact ⟨t2, stp t2 a1, b1⟩
theorem n_pre (hK : KC D cI cC cS s) (I : Iw D ws A s H locs) (isC : List Nat) (hn : va_nd isC = true) (hC : isC.map (fun i => ws[i]?) = wc.map some) (hC2 : isC.filterMap (fun i => ws[i]?) = wc) (Bs : List Value) : PreS s H (va_Pc Bs (fun U => U.heap.size = H.size ∧ va_P D vwCl wc U.heap ∧ va_D (fun _ => True) wc ∧ KC D cI cC cS U)) Bs := by
  refine ⟨fun a U g mk q => ?_, fun U hU hW => ⟨rfl, by rw [hU], by rw [hU]; exact I.1.sub isC hC2, (I.2.1.sub isC hn hC).weaken (fun _ _ _ _ => trivial), kc_warm hW hK⟩⟩
  obtain ⟨q0, q1, q2, q3, q4⟩ := q
  exact ⟨q0, q1, q2, q3, kc_call q4⟩
def MI (y : MethodName) (bytes : ByteArray) (maxL n : Nat) : Prop := Cond.code y bytes maxL none ∈ TT ∧ Cond.instanceMethod y ∈ TT ∧ Cond.initialized y.cls ∈ TT ∧ y.name = "<init>" ∧ (y.cls ≠ "java/lang/invoke/MethodHandle" ∧ y.cls ≠ "java/lang/invoke/VarHandle" ∧ (parseMethodDescriptor y.desc).map (fun d => d.parameters.length) = some n)
theorem n_I (C : CallFix p m c cc nL s args TT own) (hK : KC D cI cC cS s) (I : Iw D ws A s H locs) (hA : ∀ q, s.heap.size ≤ q → A q) (isC isR : List Nat) (hC : isC.map (fun i => ws[i]?) = wc.map some) (hC2 : isC.filterMap (fun i => ws[i]?) = wc) (hR : isR.map (fun i => ws[i]?) = wr.map some) (hnd : va_nd isR = true) (hnc : va_nd isC = true) (hdis : ∀ i ∈ isR, i ∉ isC)
    (hc : Kn l D cI cC cS y bytes maxL fr lo mc ms (.ref b :: As) wc post) (hRm : fr + 1 ≤ R.frames ∧ 8 + (maxL + 11) + lo ≤ R.locals) (hf : cells + mc ≤ R.cells ∧ slots + ms ≤ R.slots) (hm : MI y bytes maxL n) (hl : Cond.methodLink own index y ∈ TT) (hn : As.length = n) (hz : ls.size = nL) (hst : As.reverse ++ .ref b :: rest = st) (hW : (rest.map fun v => v.category).sum ≤ 8) (hdg : decode cc pc = .ok (.invokespecial index, 3))
    (kk : ∀ ws' : va_W, post ws' → ∀ (H1 : Heap) (locs1 : List Loc), Iw D (wr ++ ws') A s H1 locs1 → W p l e R s m args below meth c H1 locs1 (cells + mc) (slots + ms) Q (F0 m (pc + 3) ls rest)) : W p l e R s m args below meth c H locs cells slots Q (F0 m pc ls st) := by
  obtain ⟨m1, m2, m4, m6, m5⟩ := hm
  have ht := C.2.2.2.2
  exact n_behind I hA isC isR hC hR hnd hdis (va_runI (rest := rest) C (hc H.size) ⟨callB_of n ht (goodTT m1) rfl rfl rfl (ht _ m4) (ht _ hl) m5 hRm, m6, ht _ m2⟩ (n_pre hK I isC hnc hC hC2 (.ref b :: As)) rfl hn hz hst.symm (by simpa using hW) hdg hf) kk
theorem n_IN (C : CallFix p m c cc nL s args TT own) (hK : KC D cI cC cS s) (I : Iw D ws A s H locs) (hA : ∀ q, s.heap.size ≤ q → A q) (isC isR : List Nat) (hC : isC.map (fun i => ws[i]?) = wc.map some) (hC2 : isC.filterMap (fun i => ws[i]?) = wc) (hR : isR.map (fun i => ws[i]?) = wr.map some) (hnd : va_nd isR = true) (hnc : va_nd isC = true) (hdis : ∀ i ∈ isR, i ∉ isC)
    (hc : Kn l D cI cC cS y bytes maxL fr lo mc ms (.ref b :: As) wc post) (hRm : fr + 1 ≤ R.frames ∧ 8 + (maxL + 11) + lo ≤ R.locals) (hf : cells + mc ≤ R.cells ∧ slots + ms ≤ R.slots) (hm : MI y bytes maxL n) (hl : Cond.methodLinkNest own index y host ∈ NN) (hn : As.length = n) (hz : ls.size = nL) (hst : As.reverse ++ .ref b :: rest = st) (hW : (rest.map fun v => v.category).sum ≤ 8) (hdg : decode cc pc = .ok (.invokespecial index, 3))
    (kk : ∀ ws' : va_W, post ws' → ∀ (H1 : Heap) (locs1 : List Loc), Iw D (wr ++ ws') A s H1 locs1 → W p l e R s m args below meth c H1 locs1 (cells + mc) (slots + ms) Q (F0 m (pc + 3) ls rest)) : W p l e R s m args below meth c H locs cells slots Q (F0 m pc ls st) := by
  obtain ⟨m1, m2, m4, m6, m5⟩ := hm
  have ht := C.2.2.2.2
  exact n_behind I hA isC isR hC hR hnd hdis (va_runIN (rest := rest) C (hc H.size) ⟨va_cnB n ht (goodTT m1) rfl rfl rfl (hK.2.1 _ hl) (ht _ m4) m5 hRm, m6, ht _ m2⟩ (n_pre hK I isC hnc hC hC2 (.ref b :: As)) rfl hn hz hst.symm (by simpa using hW) hdg hf) kk
theorem n_new (C : CallFix p m c cc nL s args TT own) (hK : KC D cI cC cS s) (I : Iw D ws A s H locs) (hA : ∀ q, s.heap.size ≤ q → A q) {Cn : String} {T : u_T} {N ci : Nat} (hin : ∀ w ∈ u_ws Cn T N, w ∈ TT) (ty : Nat → FieldType) (hty : ∀ k, k < N → parseFieldDescriptor (T k).2.2.1 = some (ty k)) (hcl : Cond.classLink own index Cn ∈ TT) (hins : Cond.instantiable Cn N ∈ TT) (hini : Cond.initialized Cn ∈ TT) (hci : vwCl[ci]? = some (Cn, T, N)) {fs : List Value} (hfs : ∀ j, j < N → defaultValue (ty j) = vp_V fs j) (hcells : cells + 1 ≤ R.cells) (hslots : slots + N ≤ R.slots) (hdg : decode cc pc = .ok (.new index, 3))
    (kk : ∀ (q : Nat) (H1 : Heap), Iw D (ws ++ [(q, .inr (ci, fs))]) A s H1 locs → W p l e R s m args below meth c H1 locs (cells + 1) (slots + N) Q (F0 m (pc + 3) ls (.ref q :: rest))) : W p l e R s m args below meth c H locs cells slots Q (F0 m pc ls rest) := by
  obtain ⟨hx, hb, -, hown, ht⟩ := C
  exact va_new hx hb ht hin ty hty hown (ht _ hcl) (ht _ hins) (ht _ hini) hK.1 I.1 I.2.1 I.2.2 hA hci hfs hcells hslots hdg (fun q H1 a b c => kk q H1 ⟨a, b, c⟩)
theorem n_int (C : CallFix p m c cc nL s args TT own) (hK : KC D cI cC cS s) (I : Iw D ws A s H locs) (hA : ∀ q, s.heap.size ≤ q → A q) (har : Cond.arrayClass .int ∈ TT) {k : Int32} {N : Nat} (hn : ¬ k < 0) (hN : k.toNatClampNeg = N) (hbytes : N * 4 ≤ 536870912) (hcells : cells + 1 ≤ R.cells) (hslots : slots + N ≤ R.slots) (hdg : decode cc pc = .ok (.newarray .int, 2))
    (kk : ∀ (q : Nat) (H1 : Heap), Iw D (ws ++ [(q, .inl (cI, N, .inl (fun _ => 0)))]) A s H1 locs → W p l e R s m args below meth c H1 locs (cells + 1) (slots + N) Q (F0 m (pc + 2) ls (.ref q :: rest))) : W p l e R s m args below meth c H locs cells slots Q (F0 m pc ls (.int k :: rest)) := by
  obtain ⟨hx, hb, -, hown, ht⟩ := C
  refine va_newa (atype := .int) (ty := .int) (a0 := (N, .inl (fun _ => 0))) hx hb (ht _ har) rfl hK.1 I.1 I.2.1 I.2.2 hA (fun cA => rfl) hn hN hbytes hcells hslots hdg (fun q cA H1 k1 a b c => ?_)
  have e : cA = cI := ra_eq (k1.2 3 (cA, .int) rfl).2 (hK.1.2 0 (cI, .int) rfl).2
  subst e
  exact kk q H1 ⟨a, b, c⟩
theorem n_ref (C : CallFix p m c cc nL s args TT own) (hK : KC D cI cC cS s) (I : Iw D ws A s H locs) (hA : ∀ q, s.heap.size ≤ q → A q) {Cn : String} {cX : ClassId} (t0 : Nat) (ht0 : (xtys cI cC cS)[t0]? = some (cX, .object Cn)) (hao : va_AO Cn s) (hcl : Cond.classLink own index Cn ∈ TT) {k : Int32} {N : Nat} (hn : ¬ k < 0) (hN : k.toNatClampNeg = N) (hbytes : N * 4 ≤ 536870912) (hcells : cells + 1 ≤ R.cells) (hslots : slots + N ≤ R.slots) (hdg : decode cc pc = .ok (.anewarray index, 3))
    (kk : ∀ (q : Nat) (H1 : Heap), Iw D (ws ++ [(q, .inl (cX, N, .inr (.inr (.inr (.inr (fun _ => none))))))]) A s H1 locs → W p l e R s m args below meth c H1 locs (cells + 1) (slots + N) Q (F0 m (pc + 3) ls (.ref q :: rest))) : W p l e R s m args below meth c H locs cells slots Q (F0 m pc ls (.int k :: rest)) := by
  obtain ⟨hx, hb, -, hown, ht⟩ := C
  refine va_newq hx hb hown (ht _ hcl) hao hK.1 I.1 I.2.1 I.2.2 hA hn hN hbytes hcells hslots hdg (fun q cA H1 k1 a b c => ?_)
  have e : cA = cX := ra_eq (k1.2 3 (cA, .object Cn) rfl).2 (hK.1.2 t0 (cX, .object Cn) ht0).2
  subst e
  exact kk q H1 ⟨a, b, c⟩
theorem n_obj (C : CallFix p m c cc nL s args TT own) (h1 : Cond.methodLink own index objectInit ∈ TT) (h2 : Cond.instanceMethod objectInit ∈ TT) (h3 : Cond.code objectInit ⟨#[0xb1]⟩ 1 none ∈ TT) (hz : ls.size = nL) (hdg : decode cc pc = .ok (.invokespecial index, 3)) (hframes : 1 ≤ R.frames) (hlocals : 12 ≤ R.locals) (kk : W p l e R s m args below meth c H locs cells slots Q (F0 m (pc + 3) ls [])) : W p l e R s m args below meth c H locs cells slots Q (F0 m pc ls [.ref b]) := by
  obtain ⟨hx, hb, hml, hown, ht⟩ := C
  exact W.objInit hx hb hown (ht _ h1) (ht _ h2) (ht _ h3) rfl (by rw [hml]; exact hz) rfl hdg hframes (by show 2 * 0 + 0 + 12 ≤ _; omega) kk
theorem n_get (C : CallFix p m c cc nL s args TT own) (hK : KC D cI cC cS s) (I : Iw D ws A s H locs) {Cn : String} {T : u_T} {N : Nat} (hin : ∀ w ∈ u_ws Cn T N, w ∈ TT) (q0 ci k : Nat) {a : Nat} {fs : List Value} {x : Value} (he : ws[q0]? = some (a, .inr (ci, fs))) (hci : vwCl[ci]? = some (Cn, T, N)) (hk : k < N) (hO : (T k).1 = Cn) (hl : Cond.fieldLink own index Cn (T k).2.1 (T k).2.2.1 ∈ TT) (hv : fs[k]? = some x) (hdg : decode cc pc = .ok (.getfield index, 3))
    (kk : W p l e R s m args below meth c H locs cells slots Q (F0 m (pc + 3) ls (x :: rest))) : W p l e R s m args below meth c H locs cells slots Q (F0 m pc ls (.ref a :: rest)) := by
  obtain ⟨hx, hb, -, hown, ht⟩ := C
  exact va_get hx hb ht hin hown hK.1 I.1 q0 he hci k hk (ht _ hl) (fun z h => by rw [hO] at h; exact h) hv hdg kk
theorem n_put (C : CallFix p m c cc nL s args TT own) (hK : KC D cI cC cS s) (I : Iw D ws A s H locs) {Cn : String} {T : u_T} {N : Nat} (hin : ∀ w ∈ u_ws Cn T N, w ∈ TT) (ty0 : Nat → FieldType) (hty : ∀ k, k < N → parseFieldDescriptor (T k).2.2.1 = some (ty0 k)) (hnm : ∀ a, a < N → ∀ b, b < N → a ≠ b → (T a).2.1 ≠ (T b).2.1)
    (q0 ci k : Nat) {a : Nat} {fs : List Value} {x : Value} (he : ws[q0]? = some (a, .inr (ci, fs))) (hci : vwCl[ci]? = some (Cn, T, N)) (hk : k < N) (hO : (T k).1 = Cn) (hl : Cond.fieldLink own index Cn (T k).2.1 (T k).2.2.1 ∈ TT) (hfin : (T k).2.2.2 = false) (hn : narrow (ty0 k) x = x) (hfit : fits (ty0 k) x = true) (hlen : k < fs.length) {ws1 : va_W} (hset : ws.set q0 (a, .inr (ci, fs.set k x)) = ws1) (hdg : decode cc pc = .ok (.putfield index, 3))
    (kk : ∀ (H1 : Heap) (locs1 : List Loc), Iw D ws1 A s H1 locs1 → W p l e R s m args below meth c H1 locs1 cells slots Q (F0 m (pc + 3) ls rest)) : W p l e R s m args below meth c H locs cells slots Q (F0 m pc ls (x :: .ref a :: rest)) := by
  subst hset
  obtain ⟨hx, hb, -, hown, ht⟩ := C
  exact va_put hx hb ht hin ty0 hty hnm hown hK.1 I.1 I.2.1 I.2.2 q0 he hci k hk (ht _ hl) (fun z h => by rw [hO] at h; exact h) hfin (hty k hk) hn hfit hlen hdg (fun H1 locs1 a b c => kk H1 locs1 ⟨a, b, c⟩)
theorem n_putF (C : CallFix p m c cc nL s args TT own) (hK : KC D cI cC cS s) (I : Iw D ws A s H locs) {Cn : String} {T : u_T} {N : Nat} (hin : ∀ w ∈ u_ws Cn T N, w ∈ TT) (ty0 : Nat → FieldType) (hty : ∀ k, k < N → parseFieldDescriptor (T k).2.2.1 = some (ty0 k)) (hnm : ∀ a, a < N → ∀ b, b < N → a ≠ b → (T a).2.1 ≠ (T b).2.1)
    (q0 ci k : Nat) {a : Nat} {fs : List Value} {x : Value} (he : ws[q0]? = some (a, .inr (ci, fs))) (hci : vwCl[ci]? = some (Cn, T, N)) (hk : k < N) (hO : (T k).1 = Cn) (hO2 : (T k).1 = own) (hin2 : meth.name = "<init>") (hl : Cond.fieldLink own index Cn (T k).2.1 (T k).2.2.1 ∈ TT) (hfin : (T k).2.2.2 = true) (hn : narrow (ty0 k) x = x) (hfit : fits (ty0 k) x = true) (hlen : k < fs.length) {ws1 : va_W} (hset : ws.set q0 (a, .inr (ci, fs.set k x)) = ws1) (hdg : decode cc pc = .ok (.putfield index, 3))
    (kk : ∀ (H1 : Heap) (locs1 : List Loc), Iw D ws1 A s H1 locs1 → W p l e R s m args below meth c H1 locs1 cells slots Q (F0 m (pc + 3) ls rest)) : W p l e R s m args below meth c H locs cells slots Q (F0 m pc ls (x :: .ref a :: rest)) := by
  subst hset
  obtain ⟨hx, hb, -, hown, ht⟩ := C
  exact va_putF hx hb ht hin ty0 hty hnm hown hK.1 I.1 I.2.1 I.2.2 q0 he hci k hk (ht _ hl) (fun z h => by rw [hO] at h; exact h) hfin hin2 hO2 (hty k hk) hn hfit hlen hdg (fun H1 locs1 a b c => kk H1 locs1 ⟨a, b, c⟩)
theorem n_ast (C : CallFix p m c cc nL s args TT own) (hK : KC D cI cC cS s) (I : Iw D ws A s H locs) (q0 : Nat) {a N : Nat} {f : Nat → Int32} (ha : ws[q0]? = some (a, .inl (cI, N, .inl f))) {i x : Int32} (hin : ixo i N) {ws1 : va_W} (hset : ws.set q0 (a, .inl (cI, N, .inl (upd f i.toNatClampNeg x))) = ws1) (hdg : decode cc pc = .ok (.iastore, 1))
    (kk : ∀ (H1 : Heap) (locs1 : List Loc), Iw D ws1 A s H1 locs1 → W p l e R s m args below meth c H1 locs1 cells slots Q (F0 m (pc + 1) ls rest)) : W p l e R s m args below meth c H locs cells slots Q (F0 m pc ls (.int x :: .int i :: .ref a :: rest)) := by
  subst hset
  exact va_iast C.1 C.2.1 hK.1 I.1 I.2.1 I.2.2 q0 0 ha rfl hin hdg (fun H1 locs1 a b c => kk H1 locs1 ⟨a, b, c⟩)
theorem n_len (C : CallFix p m c cc nL s args TT own) (hK : KC D cI cC cS s) (I : Iw D ws A s H locs) (q0 t0 : Nat) {a : Nat} {cA : ClassId} {x : vp_A} (ha : ws[q0]? = some (a, .inl (cA, x))) {ty : FieldType} (ht : (xtys cI cC cS)[t0]? = some (cA, ty)) {v : Int32} (hv : Int32.ofNat x.1 = v) (hdg : decode cc pc = .ok (.arraylength, 1))
    (kk : W p l e R s m args below meth c H locs cells slots Q (F0 m (pc + 1) ls (.int v :: rest))) : W p l e R s m args below meth c H locs cells slots Q (F0 m pc ls (.ref a :: rest)) := va_alen C.1 C.2.1 hK.1 I.1 q0 t0 ha ht hv hdg kk
theorem n_asr (C : CallFix p m c cc nL s args TT own) (hK : KC D cI cC cS s) (I : Iw D ws A s H locs) (q0 t0 qk ci : Nat) {a : Nat} {cA : ClassId} {r : vw_C} {N v : Nat} {vs : List Value} {f : Nat → Option Nat} (ha : ws[q0]? = some (a, .inl (cA, N, .inr (.inr (.inr (.inr f)))))) (ht : (xtys cI cC cS)[t0]? = some (cA, .object r.1)) (hv : ws[qk]? = some (v, .inr (ci, vs))) (hc : vwCl[ci]? = some r) {i : Int32} (hin : ixo i N) {ws1 : va_W} (hset : ws.set q0 (a, .inl (cA, N, .inr (.inr (.inr (.inr (va_up f i.toNatClampNeg (some v))))))) = ws1) (hdg : decode cc pc = .ok (.aastore, 1))
    (kk : ∀ (H1 : Heap) (locs1 : List Loc), Iw D ws1 A s H1 locs1 → W p l e R s m args below meth c H1 locs1 cells slots Q (F0 m (pc + 1) ls rest)) : W p l e R s m args below meth c H locs cells slots Q (F0 m pc ls (.ref v :: .int i :: .ref a :: rest)) := by
  subst hset
  exact va_astq C.1 C.2.1 hK.1 I.1 I.2.1 I.2.2 q0 t0 qk ci ha ht hv hc hin hdg (fun H1 locs1 a b c => kk H1 locs1 ⟨a, b, c⟩)
end NEWS
