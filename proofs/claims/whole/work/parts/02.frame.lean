-- ===== 02: the state of a world as numbers, and what a call says
abbrev St : Type := (Nat → Nat → Int32) × (Nat → Nat → Int64) × (Nat → Option (Fin 6))
def setI (S : St) (p j : Nat) (v : Int32) : St := (fun a => if a = p then upd (S.1 a) j v else S.1 a, S.2.1, S.2.2)
def setL (S : St) (p j : Nat) (v : Int64) : St := (S.1, fun a => if a = p then vp_updL (S.2.1 a) j v else S.2.1 a, S.2.2)
def setR (S : St) (i : Nat) (v : Option (Fin 6)) : St := (S.1, S.2.1, va_up S.2.2 i v)
-- a value gets a name
def bnd {α β : Type} (x : α) (f : α → β) : β := f x
theorem bnd_at {α β : Type} {x y : α} {f : α → β} {o : β} (e : y = x) (h : bnd x f = o) : f y = o := by subst e; exact h
theorem bnd_ex {α β : Type} {x : α} {f : α → β} {o : β} (h : bnd x f = o) : ∃ y, x = y ∧ f y = o := ⟨x, rfl, h⟩
-- the rest, if something may be done
def chk {β : Type} (c : Prop) [Decidable c] (x : Option β) : Option β := if c then x else none
theorem chk_ex {β : Type} {c : Prop} [Decidable c] {x : Option β} {o : β} (h : chk c x = some o) : c ∧ x = some o := by
  unfold chk at h
  by_cases q : c
  · rw [if_pos q] at h; exact ⟨q, h⟩
  · rw [if_neg q] at h; cases h
theorem chk_t {β : Type} {c : Prop} [Decidable c] {x : Option β} (h : c) : chk c x = x := if_pos h
def obd {α β : Type} (x : Option α) (f : α → Option β) : Option β := match x with
  | none => none
  | some a => f a
theorem obd_ex {α β : Type} {x : Option α} {f : α → Option β} {o : β} (h : obd x f = some o) : ∃ y, x = some y ∧ f y = some o := by
  cases x with
  | none => cases h
  | some a => exact ⟨a, rfl, h⟩
theorem obd_s {α β : Type} (a : α) (f : α → Option β) : obd (some a) f = f a := rfl
def oel {α β : Type} (x : Option α) (a : β) (f : α → β) : β := match x with
  | none => a
  | some c => f c
theorem oel_n {α β : Type} {a o : β} {f : α → β} (h : oel none a f = o) : a = o := h
theorem oel_s {α β : Type} {a o : β} {c : α} {f : α → β} (h : oel (some c) a f = o) : f c = o := h
theorem ite_t {β : Type} {c : Prop} [Decidable c] {x y o : β} (q : c) (h : (if c then x else y) = o) : x = o := by rw [if_pos q] at h; exact h
theorem ite_n {β : Type} {c : Prop} [Decidable c] {x y o : β} (q : ¬ c) (h : (if c then x else y) = o) : y = o := by rw [if_neg q] at h; exact h
abbrev ixo (i : Int32) (n : Nat) : Prop := ¬ (i < 0 ∨ n ≤ i.toNatClampNeg)
abbrev zb (v : Int32) : Prop := v = 0 ∨ v = 1
theorem zb_n {v : Int32} (h : zb v) : narrow .boolean (.int v) = .int v := by rcases h with rfl | rfl <;> rfl
theorem zb_f {v : Int32} (h : zb v) : fits .boolean (.int v) = true := by rcases h with rfl | rfl <;> rfl
theorem ix_lt {i : Int32} {n : Nat} (h : ixo i n) : i.toNatClampNeg < n := Nat.not_le.mp fun q => h (Or.inr q)
def fin6 (i : Int32) : Option (Fin 6) := if h : ixo i 6 then some ⟨i.toNatClampNeg, ix_lt h⟩ else none
theorem fin6_ex {i : Int32} {c : Fin 6} (h : fin6 i = some c) : vp_in i 6 ∧ c.val = i.toNatClampNeg := by
  unfold fin6 at h
  by_cases q : ixo i 6
  · rw [dif_pos q] at h; cases h; exact ⟨q, rfl⟩
  · rw [dif_neg q] at h; cases h
def finS (c : Fin 6) (i : Int32) : Option (Fin 24) := if h : ixo i 4 then some ⟨4 * c.val + i.toNatClampNeg, by have := ix_lt h; have := c.isLt; omega⟩ else none
theorem finS_ex {c : Fin 6} {i : Int32} {q : Fin 24} (h : finS c i = some q) : vp_in i 4 ∧ q.val = 4 * c.val + i.toNatClampNeg := by
  unfold finS at h
  by_cases z : ixo i 4
  · rw [dif_pos z] at h; cases h; exact ⟨z, rfl⟩
  · rw [dif_neg z] at h; cases h
-- how far a loop may go, at the most
def FU : Nat := 5000
theorem FU_eq : FU = 5000 := rfl
-- what goes with the tables (strings, nest mates, classes) beside a world
def KKok (D : va_G) (tys : List (ClassId × FieldType)) (KK : (Nat → Prop) → State → Prop) : Prop :=
  (∀ (A B : Nat → Prop) (s U : State) (locs : List Loc), KK A s → s.WarmedH U.vm → va_S A s.heap U.heap locs → (∀ q, B q → A q) → KK B U) ∧
  (∀ (A : Nat → Prop) (U : State) (g : JFrame) (mk : MethodId) (a : Array Value), KK A U → KK A (U.calling g mk a)) ∧
  (∀ (A : Nat → Prop) (U : State), KK A U → va_K D vwCl tys U) ∧
  (∀ (A : Nat → Prop) (U : State), KK A U → ∀ w ∈ NN, va_Nw w U)
def Iv (D : va_G) (w : St → va_W) (S : St) (A : Nat → Prop) (s : State) (H : Heap) (locs : List Loc) : Prop := va_P D vwCl (w S) H ∧ va_D A (w S) ∧ va_S A s.heap H locs
def Bw (D : va_G) (w : St → va_W) (A : Nat → Prop) (u : St) (t : State) : Prop := va_P D vwCl (w u) t.heap ∧ va_D A (w u)
def Pw (D : va_G) (w : St → va_W) (KK : (Nat → Prop) → State → Prop) (S : St) (sz : Nat) (U : State) : Prop := U.heap.size = sz ∧ va_P D vwCl (w S) U.heap ∧ va_D (fun _ => True) (w S) ∧ KK (va_A (w S) sz) U
def Qw (D : va_G) (w : St → va_W) (S S1 : St) (v : Option Value) (sz : Nat) : Array Value → State → Outcome → State → Prop := fun _ st oc t => oc = .returned v ∧ Bw D w (va_A (w S) sz) S1 t ∧ va_F (va_A (w S) sz) st t
/-- a method's contract: from S, with the values As, it answers v and leaves S1 -/
def Kt (l : Launch) (D : va_G) (w : St → va_W) (KK : (Nat → Prop) → State → Prop) (y : MethodName) (cc : ByteArray) (n : Nat) (ret : Option FieldType) (fr lo : Nat) (As : List Value) (S : St) (v : Option Value) (S1 : St) : Prop :=
  ∀ sz : Nat, Met l y (Cond.code y cc n ret :: TT) ({ frames := fr, cells := 0, slots := 0, locals := lo }) (va_Pc As (Pw D w KK S sz)) (Qw D w S S1 v sz) 0 0 (va_A (w S) sz)
/-- what the tables say of a method that is called -/
def MV (y : MethodName) (bytes : ByteArray) (maxL : Nat) (ret : Option FieldType) (n : Nat) : Prop := Cond.code y bytes maxL ret ∈ TT ∧ Cond.instanceMethod y ∈ TT ∧ Cond.selects y.cls y y ∈ TT ∧ Cond.initialized y.cls ∈ TT ∧ (y.cls ≠ "java/lang/invoke/MethodHandle" ∧ y.cls ≠ "java/lang/invoke/VarHandle" ∧ (parseMethodDescriptor y.desc).map (fun d => d.parameters.length) = some n)
def MS (y : MethodName) (bytes : ByteArray) (maxL : Nat) (ret : Option FieldType) (n : Nat) : Prop := Cond.code y bytes maxL ret ∈ TT ∧ Cond.static y ∈ TT ∧ Cond.initialized y.cls ∈ TT ∧ (y.cls ≠ "java/lang/invoke/MethodHandle" ∧ y.cls ≠ "java/lang/invoke/VarHandle" ∧ (parseMethodDescriptor y.desc).map (fun d => d.parameters.length) = some n)
theorem goodTT {B : Cond} (h : B ∈ TT) : GoodIn TT (B :: TT) := fun w hw => (List.mem_cons.mp hw).elim (fun e => e ▸ ⟨h, tt_good h⟩) (fun h => ⟨h, tt_good h⟩)
theorem free_in {D : va_G} {w : St → va_W} {S : St} {A : Nat → Prop} {s : State} {H : Heap} {locs : List Loc} (I : Iv D w S A s H locs) (hA : ∀ q, s.heap.size ≤ q → A q) : ∀ q, va_A (w S) H.size q → A q := by
  intro q h
  rcases h with ⟨k, e, h⟩ | h
  · exact I.2.1.2 k (q, e) h
  · exact hA q (Nat.le_trans I.2.2.1 h)
section KCALL
variable {p : Program} {l : Launch} {e : Env} {R : Room} {s : State} {m : MethodId} {args : Array Value} {below : List Frame} {meth : Method} {c : Code} {H : Heap} {locs : List Loc} {Q : State → Prop}
variable {D : va_G} {tys : List (ClassId × FieldType)} {KK : (Nat → Prop) → State → Prop} {w : St → va_W} {S S1 : St} {A : Nat → Prop} {cc bytes : ByteArray} {nL maxL fr lo n index pc : Nat} {own host : String} {y : MethodName} {ret : Option FieldType} {As rest st st1 : List Value} {v : Option Value} {ls : Array Slot} {b : Addr}
/-- behind a call -/
theorem k_behind {aa : Array Value} (I : Iv D w S A s H locs) (hA : ∀ q, s.heap.size ≤ q → A q)
    (hr : va_Run p l e R s m args below meth c H locs 0 0 0 0 (F0 m pc ls st) rest (Qw D w S S1 v H.size aa) (va_A (w S) H.size)) (h1 : v.toList ++ rest = st1)
    (kk : ∀ (H1 : Heap) (locs1 : List Loc), Iv D w S1 A s H1 locs1 → W p l e R s m args below meth c H1 locs1 0 0 Q (F0 m (pc + 3) ls st1)) : W p l e R s m args below meth c H locs 0 0 Q (F0 m pc ls st) := by
  have hF := free_in I hA
  obtain ⟨hP, hD, hS⟩ := I
  intro T hT X
  obtain ⟨v', st₀, t, T', L, h0, X', hL, e1, e2, ⟨hv, ⟨hb1, hb2⟩, hz, hk⟩, stp⟩ := hr T hT X
  cases hv
  rw [h0] at hz hk
  obtain ⟨t2, a1, b1⟩ := kk T'.heap (locs ++ L) ⟨by rw [e1]; exact hb1, hb2.weaken (fun k q _ h => hF q.1 h), Nat.le_trans hS.1 (by rw [e1]; exact hz), fun q h1 h2 => by rw [e1, hk q (Nat.lt_of_lt_of_le h1 hS.1) (fun z => h2 (hF q z))]; exact hS.2.1 q h1 h2, fun q hq => by
      rcases List.mem_append.mp hq with h | h
      · exact hS.2.2 q h
      · exact hF _ (hL q h)⟩ T' rfl X'
  refine ⟨t2, stp t2 ?_, b1⟩
  subst h1
  exact a1
theorem k_pre (hk : KKok D tys KK) (hK : KK A s) (I : Iv D w S A s H locs) (hA : ∀ q, s.heap.size ≤ q → A q) (Bs : List Value) : PreS s H (va_Pc Bs (Pw D w KK S H.size)) Bs := by
  have hF := free_in I hA
  obtain ⟨hP, hD, hS⟩ := I
  refine ⟨fun a U g mk q => ?_, fun U hU hW => ?_⟩
  · obtain ⟨q0, q1, q2, q3, q4⟩ := q
    exact ⟨q0, q1, q2, q3, hk.2.1 _ _ _ _ _ q4⟩
  · exact ⟨rfl, by rw [hU], by rw [hU]; exact hP, hD.weaken (fun _ _ _ _ => trivial), hk.1 A _ s U locs hK hW (by rw [hU]; exact hS) hF⟩
/-- a method of its own class, or a public one of another, on an object of the world -/
theorem k_V (C : CallFix p m c cc nL s args TT own) (hk : KKok D tys KK) (hK : KK A s) (I : Iv D w S A s H locs) (hA : ∀ q, s.heap.size ≤ q → A q)
    (hc : Kt l D w KK y bytes maxL ret fr lo (.ref b :: As) S v S1) (hR : fr + 1 ≤ R.frames ∧ 8 + (maxL + 11) + lo ≤ R.locals) (hm : MV y bytes maxL ret n) (hl : Cond.methodLink own index y ∈ TT)
    (q0 ci : Nat) {fs : List Value} {T : u_T} {N : Nat} (he : (w S)[q0]? = some (b, .inr (ci, fs))) (hci : vwCl[ci]? = some (y.cls, T, N)) (hn : As.length = n) (hz : ls.size = nL) (hst : As.reverse ++ .ref b :: rest = st) (hW : (rest.map fun v => v.category).sum ≤ 8) (hdg : decode cc pc = .ok (.invokevirtual index, 3)) (h1 : v.toList ++ rest = st1)
    (kk : ∀ (H1 : Heap) (locs1 : List Loc), Iv D w S1 A s H1 locs1 → W p l e R s m args below meth c H1 locs1 0 0 Q (F0 m (pc + 3) ls st1)) : W p l e R s m args below meth c H locs 0 0 Q (F0 m pc ls st) := by
  obtain ⟨m1, m2, m3, m4, m5⟩ := hm
  have hP := I.1
  have ht := C.2.2.2.2
  refine k_behind I hA (va_runV (rest := rest) C (hc H.size) ⟨callB_of n ht (goodTT m1) rfl rfl rfl (ht _ m4) (ht _ hl) m5 hR, ht _ m2, ht _ m3⟩ ⟨(k_pre hk hK I hA (.ref b :: As)).1, va_recv (hk.2.2.1 _ _ hK) hP hci he, (k_pre hk hK I hA (.ref b :: As)).2⟩ rfl hn hz hst.symm (by simpa using hW) hdg ⟨Nat.zero_le _, Nat.zero_le _⟩) h1 kk
/-- a static method of the same class -/
theorem k_S (C : CallFix p m c cc nL s args TT own) (hk : KKok D tys KK) (hK : KK A s) (I : Iv D w S A s H locs) (hA : ∀ q, s.heap.size ≤ q → A q)
    (hc : Kt l D w KK y bytes maxL ret fr lo As S v S1) (hR : fr + 1 ≤ R.frames ∧ 8 + (maxL + 11) + lo ≤ R.locals) (hm : MS y bytes maxL ret n) (hl : Cond.methodLink own index y ∈ TT)
    (hn : As.length = n) (hz : ls.size = nL) (hst : As.reverse ++ rest = st) (hW : (rest.map fun v => v.category).sum ≤ 8) (hdg : decode cc pc = .ok (.invokestatic index, 3)) (h1 : v.toList ++ rest = st1)
    (kk : ∀ (H1 : Heap) (locs1 : List Loc), Iv D w S1 A s H1 locs1 → W p l e R s m args below meth c H1 locs1 0 0 Q (F0 m (pc + 3) ls st1)) : W p l e R s m args below meth c H locs 0 0 Q (F0 m pc ls st) := by
  obtain ⟨m1, m2, m4, m5⟩ := hm
  have ht := C.2.2.2.2
  refine k_behind I hA (va_runS (rest := rest) C (hc H.size) ⟨callB_of n ht (goodTT m1) rfl rfl rfl (ht _ m4) (ht _ hl) m5 hR, ht _ m2⟩ (k_pre hk hK I hA As) rfl hn hz hst.symm (by simpa using hW) hdg ⟨Nat.zero_le _, Nat.zero_le _⟩) h1 kk
/-- a private static method of a nest mate -/
theorem k_SN (C : CallFix p m c cc nL s args TT own) (hk : KKok D tys KK) (hK : KK A s) (I : Iv D w S A s H locs) (hA : ∀ q, s.heap.size ≤ q → A q)
    (hc : Kt l D w KK y bytes maxL ret fr lo As S v S1) (hR : fr + 1 ≤ R.frames ∧ 8 + (maxL + 11) + lo ≤ R.locals) (hm : MS y bytes maxL ret n) (hl : Cond.methodLinkNest own index y host ∈ NN)
    (hn : As.length = n) (hz : ls.size = nL) (hst : As.reverse ++ rest = st) (hW : (rest.map fun v => v.category).sum ≤ 8) (hdg : decode cc pc = .ok (.invokestatic index, 3)) (h1 : v.toList ++ rest = st1)
    (kk : ∀ (H1 : Heap) (locs1 : List Loc), Iv D w S1 A s H1 locs1 → W p l e R s m args below meth c H1 locs1 0 0 Q (F0 m (pc + 3) ls st1)) : W p l e R s m args below meth c H locs 0 0 Q (F0 m pc ls st) := by
  obtain ⟨m1, m2, m4, m5⟩ := hm
  have ht := C.2.2.2.2
  refine k_behind I hA (va_runSN (rest := rest) C (hc H.size) ⟨va_cnB n ht (goodTT m1) rfl rfl rfl (hk.2.2.2 _ _ hK _ hl) (ht _ m4) m5 hR, ht _ m2, trivial⟩ (k_pre hk hK I hA As) rfl hn hz hst.symm (by simpa using hW) hdg ⟨Nat.zero_le _, Nat.zero_le _⟩) h1 kk
/-- a field is read -/
theorem k_get (C : CallFix p m c cc nL s args TT own) (hK : va_K D vwCl tys s) (I : Iv D w S A s H locs) {Cn : String} {T : u_T} {N : Nat} (hin : ∀ w ∈ u_ws Cn T N, w ∈ TT) (q0 ci k : Nat) {a : Nat} {fs : List Value} {x : Value} (he : (w S)[q0]? = some (a, .inr (ci, fs))) (hci : vwCl[ci]? = some (Cn, T, N)) (hk : k < N) (hO : (T k).1 = Cn) (hl : Cond.fieldLink own index Cn (T k).2.1 (T k).2.2.1 ∈ TT) (hv : fs[k]? = some x) (hdg : decode cc pc = .ok (.getfield index, 3))
    (kk : W p l e R s m args below meth c H locs 0 0 Q (F0 m (pc + 3) ls (x :: rest))) : W p l e R s m args below meth c H locs 0 0 Q (F0 m pc ls (.ref a :: rest)) := by
  obtain ⟨hx, hb, -, hown, ht⟩ := C
  exact va_get hx hb ht hin hown hK I.1 q0 he hci k hk (ht _ hl) (fun z h => by rw [hO] at h; exact h) hv hdg kk
theorem k_getN (C : CallFix p m c cc nL s args TT own) (hK : va_K D vwCl tys s) (hN : ∀ w ∈ NN, va_Nw w s) (I : Iv D w S A s H locs) {Cn : String} {T : u_T} {N : Nat} (hin : ∀ w ∈ u_ws Cn T N, w ∈ TT) (q0 ci k : Nat) {a : Nat} {fs : List Value} {x : Value} (he : (w S)[q0]? = some (a, .inr (ci, fs))) (hci : vwCl[ci]? = some (Cn, T, N)) (hk : k < N) (hO : (T k).1 = Cn) (hl : Cond.fieldLinkNest own index Cn (T k).2.1 (T k).2.2.1 host ∈ NN) (hv : fs[k]? = some x) (hdg : decode cc pc = .ok (.getfield index, 3))
    (kk : W p l e R s m args below meth c H locs 0 0 Q (F0 m (pc + 3) ls (x :: rest))) : W p l e R s m args below meth c H locs 0 0 Q (F0 m pc ls (.ref a :: rest)) := by
  obtain ⟨hx, hb, -, hown, ht⟩ := C
  exact va_getN hx hb ht hin hown hK I.1 q0 he hci k hk (va_Nw.use (nn_on (nn_nest hl)) (hN _ hl)) (fun z h => by rw [hO] at h; exact h) hv hdg kk
/-- a field is written -/
theorem k_put (C : CallFix p m c cc nL s args TT own) (hK : va_K D vwCl tys s) (I : Iv D w S A s H locs) {Cn : String} {T : u_T} {N : Nat} (hin : ∀ w ∈ u_ws Cn T N, w ∈ TT) (ty0 : Nat → FieldType) (hty : ∀ k, k < N → parseFieldDescriptor (T k).2.2.1 = some (ty0 k)) (hnm : ∀ a, a < N → ∀ b, b < N → a ≠ b → (T a).2.1 ≠ (T b).2.1)
    (q0 ci k : Nat) {a : Nat} {fs : List Value} {x : Value} (he : (w S)[q0]? = some (a, .inr (ci, fs))) (hci : vwCl[ci]? = some (Cn, T, N)) (hk : k < N) (hO : (T k).1 = Cn) (hl : Cond.fieldLink own index Cn (T k).2.1 (T k).2.2.1 ∈ TT) (hfin : (T k).2.2.2 = false) (hn : narrow (ty0 k) x = x) (hfit : fits (ty0 k) x = true) (hlen : k < fs.length) (hset : (w S).set q0 (a, .inr (ci, fs.set k x)) = w S1) (hdg : decode cc pc = .ok (.putfield index, 3))
    (kk : ∀ (H1 : Heap) (locs1 : List Loc), Iv D w S1 A s H1 locs1 → W p l e R s m args below meth c H1 locs1 0 0 Q (F0 m (pc + 3) ls rest)) : W p l e R s m args below meth c H locs 0 0 Q (F0 m pc ls (x :: .ref a :: rest)) := by
  obtain ⟨hx, hb, -, hown, ht⟩ := C
  obtain ⟨hP, hD, hS⟩ := I
  refine va_put hx hb ht hin ty0 hty hnm hown hK hP hD hS q0 he hci k hk (ht _ hl) (fun z h => by rw [hO] at h; exact h) hfin (hty k hk) hn hfit hlen hdg (fun H1 locs1 h1 h2 h3 => kk H1 locs1 ⟨?_, ?_, h3⟩)
  · rw [← hset]; exact h1
  · rw [← hset]; exact h2
/-- arrays of ints -/
theorem k_ald (C : CallFix p m c cc nL s args TT own) (hK : va_K D vwCl tys s) (I : Iv D w S A s H locs) (q0 t0 : Nat) {a : Nat} {cA : ClassId} {N : Nat} {f : Nat → Int32} (ha : (w S)[q0]? = some (a, .inl (cA, N, .inl f))) (ht : tys[t0]? = some (cA, .int)) {i : Int32} (hin : ixo i N) (hdg : decode cc pc = .ok (.iaload, 1))
    (kk : W p l e R s m args below meth c H locs 0 0 Q (F0 m (pc + 1) ls (.int (f i.toNatClampNeg) :: rest))) : W p l e R s m args below meth c H locs 0 0 Q (F0 m pc ls (.int i :: .ref a :: rest)) := va_iald C.1 C.2.1 hK I.1 q0 t0 ha ht hin hdg kk
theorem k_ast (C : CallFix p m c cc nL s args TT own) (hK : va_K D vwCl tys s) (I : Iv D w S A s H locs) (q0 t0 : Nat) {a : Nat} {cA : ClassId} {N : Nat} {f : Nat → Int32} (ha : (w S)[q0]? = some (a, .inl (cA, N, .inl f))) (ht : tys[t0]? = some (cA, .int)) {i x : Int32} (hin : ixo i N) (hset : (w S).set q0 (a, .inl (cA, N, .inl (upd f i.toNatClampNeg x))) = w S1) (hdg : decode cc pc = .ok (.iastore, 1))
    (kk : ∀ (H1 : Heap) (locs1 : List Loc), Iv D w S1 A s H1 locs1 → W p l e R s m args below meth c H1 locs1 0 0 Q (F0 m (pc + 1) ls rest)) : W p l e R s m args below meth c H locs 0 0 Q (F0 m pc ls (.int x :: .int i :: .ref a :: rest)) := by
  obtain ⟨hP, hD, hS⟩ := I
  refine va_iast C.1 C.2.1 hK hP hD hS q0 t0 ha ht hin hdg (fun H1 locs1 h1 h2 h3 => kk H1 locs1 ⟨?_, ?_, h3⟩)
  · rw [← hset]; exact h1
  · rw [← hset]; exact h2
end KCALL
/-- what a walk of a method's body starts with, and how it ends -/
def Rt (p : Program) (l : Launch) (e : Env) (R : Room) (s : State) (m : MethodId) (args : Array Value) (below : List Frame) (meth : Method) (c : Code) (D : va_G) (w : St → va_W) (A : Nat → Prop) (S1 : St) (Q : State → Prop) (cc : ByteArray) (ins : Instr) (st : List Value) : Prop :=
  ∀ (pc : Nat) (ls : Array Slot) (H : Heap) (locs : List Loc), Iv D w S1 A s H locs → decode cc pc = .ok (ins, 1) → W p l e R s m args below meth c H locs 0 0 Q (F0 m pc ls st)
def RetOk (l : Launch) (cc : ByteArray) (ret : Option FieldType) (v : Option Value) (ins : Instr) (st : List Value) : Prop :=
  ∀ (p : Program) (e : Env) (R : Room) (s : State) (m : MethodId) (args : Array Value) (below : List Frame) (meth : Method) (c : Code) (H : Heap) (locs : List Loc) (pc : Nat) (ls : Array Slot) (Qc : Array Value → State → Outcome → State → Prop) (free : Addr → Prop),
    p.tables.exec = Jvm.exec → c.code = cc → meth.sig.returnType = ret → meth.locks = false → (∀ t : State, t.heap = H → s.WarmedH t.vm → Qc args s (.returned v) t) → (∀ q ∈ locs, free q.base) → decode cc pc = .ok (ins, 1) →
    W p l e R s m args below meth c H locs 0 0 (MQ below Qc args s 0 0 free) (F0 m pc ls st)
theorem ret_i {l : Launch} {cc : ByteArray} {r : Int32} : RetOk l cc (some .int) (some (.int r)) .ireturn [.int r] := fun p e R s m args below meth c H locs pc ls Qc free hx hb hr hlk hq hf hd => W.iret (v := r) hx hb hr hq hf hd (hlocks := hlk)
theorem ret_z {l : Launch} {cc : ByteArray} {r : Int32} (h : zb r) : RetOk l cc (some .boolean) (some (.int r)) .ireturn [.int r] := fun p e R s m args below meth c H locs pc ls Qc free hx hb hr hlk hq hf hd => W.zret (v := r) hx hb hr (zb_n h) hq hf hd (hlocks := hlk)
theorem ret_l {l : Launch} {cc : ByteArray} {r : Int64} : RetOk l cc (some .long) (some (.long r)) .lreturn [.long r] := fun p e R s m args below meth c H locs pc ls Qc free hx hb hr hlk hq hf hd => W.lret (v := r) hx hb hr hq hf hd (hlocks := hlk)
theorem ret_v {l : Launch} {cc : ByteArray} : RetOk l cc none none .return_ [] := fun p e R s m args below meth c H locs pc ls Qc free hx hb hr hlk hq hf hd => W.vret hx hb hr hq hf hd (hlocks := hlk)
theorem ret_a {l : Launch} {cc : ByteArray} {C : String} {r : Option Nat} : RetOk l cc (some (.object C)) (some (va_rf r)) .areturn [va_rf r] := fun p e R s m args below meth c H locs pc ls Qc free hx hb hr hlk hq hf hd => W.aret (v := va_rf r) hx hb hr (Or.inl ⟨C, rfl⟩) (by cases r with | none => exact Or.inl rfl | some a => exact Or.inr ⟨a, rfl⟩) hq hf hd (hlocks := hlk)
theorem k_ent {l : Launch} {D : va_G} {KK : (Nat → Prop) → State → Prop} {w : St → va_W} {y : MethodName} {cc : ByteArray} {n : Nat} {ret : Option FieldType} {fr lo : Nat} {As : List Value} {S S1 : St} {v : Option Value} {ins : Instr} {st : List Value} (hy : plainName y.cls = true) (hlen : (lg_sl As).length ≤ n) (hret : RetOk l cc ret v ins st)
    (body : ∀ (p : Program) (e : Env) (s : State) (m : MethodId) (args : Array Value) (below : List Frame) (meth : Method) (c : Code) (A : Nat → Prop) (Q : State → Prop), CallFix p m c cc n s args TT y.cls → KK A s → Iv D w S A s s.heap [] → (∀ q, s.heap.size ≤ q → A q) →
      Rt p l e ({ frames := fr, cells := 0, slots := 0, locals := lo }) s m args below meth c D w A S1 Q cc ins st → ∀ ls : Array Slot, lv_has ls n (lv_args 0 As) → W p l e ({ frames := fr, cells := 0, slots := 0, locals := lo }) s m args below meth c s.heap [] 0 0 Q (F0 m 0 ls [])) :
    Kt l D w KK y cc n ret fr lo As S v S1 := by
  intro sz
  refine Met.ofW (cc := cc) (maxL := n) (ret := ret) hy rfl ?_
  intro p e s m args below meth c s₁ B hml hv
  obtain ⟨rfl, hsz, hP, hD, hK⟩ := hv
  have hts := atoms_spec (ws := Cond.code y cc n ret :: TT) B.pre
  subst hsz
  rw [lg_entry_eq]
  refine body p e s m _ below meth c (va_A (w S) s.heap.size) _ ⟨B.exec, B.bytes, hml, findClass_of_methodNamed B.named, fun w hw => hts w (List.mem_cons_of_mem _ hw)⟩ hK ⟨hP, hD.self, va_S.rf⟩ (fun q h => Or.inr h) ?_ _ (lv_entry As hlen)
  intro pc ls H locs I hd
  obtain ⟨hP1, hD1, hS1⟩ := I
  exact hret p e _ s m _ below meth c H locs pc ls _ _ B.exec B.bytes B.returns B.notSynchronized (fun t ht hW => ⟨rfl, ⟨by rw [ht]; exact hP1, hD1⟩, hS1.F ht⟩) hS1.2.2 hd
/-- the same for an answer that is true or false -/
theorem k_entz {l : Launch} {D : va_G} {KK : (Nat → Prop) → State → Prop} {w : St → va_W} {y : MethodName} {cc : ByteArray} {n : Nat} {fr lo : Nat} {As : List Value} {S S1 : St} {r : Int32} (hy : plainName y.cls = true) (hlen : (lg_sl As).length ≤ n)
    (body : ∀ (p : Program) (e : Env) (s : State) (m : MethodId) (args : Array Value) (below : List Frame) (meth : Method) (c : Code) (A : Nat → Prop) (Q : State → Prop), CallFix p m c cc n s args TT y.cls → KK A s → Iv D w S A s s.heap [] → (∀ q, s.heap.size ≤ q → A q) →
      (zb r → Rt p l e ({ frames := fr, cells := 0, slots := 0, locals := lo }) s m args below meth c D w A S1 Q cc .ireturn [.int r]) → ∀ ls : Array Slot, lv_has ls n (lv_args 0 As) → W p l e ({ frames := fr, cells := 0, slots := 0, locals := lo }) s m args below meth c s.heap [] 0 0 Q (F0 m 0 ls [])) :
    Kt l D w KK y cc n (some .boolean) fr lo As S (some (.int r)) S1 := by
  intro sz
  refine Met.ofW (cc := cc) (maxL := n) (ret := some .boolean) hy rfl ?_
  intro p e s m args below meth c s₁ B hml hv
  obtain ⟨rfl, hsz, hP, hD, hK⟩ := hv
  have hts := atoms_spec (ws := Cond.code y cc n (some .boolean) :: TT) B.pre
  subst hsz
  rw [lg_entry_eq]
  refine body p e s m _ below meth c (va_A (w S) s.heap.size) _ ⟨B.exec, B.bytes, hml, findClass_of_methodNamed B.named, fun w hw => hts w (List.mem_cons_of_mem _ hw)⟩ hK ⟨hP, hD.self, va_S.rf⟩ (fun q h => Or.inr h) ?_ _ (lv_entry As hlen)
  intro hz pc ls H locs I hd
  obtain ⟨hP1, hD1, hS1⟩ := I
  exact ret_z (l := l) hz p e _ s m _ below meth c H locs pc ls _ _ B.exec B.bytes B.returns B.notSynchronized (fun t ht hW => ⟨rfl, ⟨by rw [ht]; exact hP1, hD1⟩, hS1.F ht⟩) hS1.2.2 hd
def obd2 {α β : Type} (x : Option (α × St)) (f : α → St → Option β) : Option β := match x with
  | none => none
  | some a => f a.1 a.2
theorem obd2_ex {α β : Type} {x : Option (α × St)} {f : α → St → Option β} {o : β} (h : obd2 x f = some o) : ∃ r S, x = some (r, S) ∧ f r S = some o := by
  cases x with
  | none => cases h
  | some a => exact ⟨a.1, a.2, rfl, h⟩
def bnd2 {α β : Type} (x : α × St) (f : α → St → β) : β := f x.1 x.2
theorem bnd2_ex {α β : Type} {x : α × St} {f : α → St → β} {o : β} (h : bnd2 x f = o) : ∃ r S, x = (r, S) ∧ f r S = o := ⟨x.1, x.2, rfl, h⟩
section RT
variable {p : Program} {l : Launch} {e : Env} {R : Room} {s : State} {m : MethodId} {args : Array Value} {below : List Frame} {meth : Method} {c : Code} {H : Heap} {locs : List Loc} {Q : State → Prop} {D : va_G} {w : St → va_W} {A : Nat → Prop} {S S1 : St} {cc : ByteArray} {pc : Nat} {ls : Array Slot}
theorem rt_i {v r : Int32} (hq : Rt p l e R s m args below meth c D w A S1 Q cc .ireturn [.int r]) (h : some (v, S) = some (r, S1)) (I : Iv D w S A s H locs) (hd : decode cc pc = .ok (.ireturn, 1)) : W p l e R s m args below meth c H locs 0 0 Q (F0 m pc ls [.int v]) := by cases h; exact hq _ _ _ _ I hd
theorem rt_z {v r : Int32} (hz : zb v) (hq : zb r → Rt p l e R s m args below meth c D w A S1 Q cc .ireturn [.int r]) (h : some (v, S) = some (r, S1)) (I : Iv D w S A s H locs) (hd : decode cc pc = .ok (.ireturn, 1)) : W p l e R s m args below meth c H locs 0 0 Q (F0 m pc ls [.int v]) := by cases h; exact hq hz _ _ _ _ I hd
theorem rt_l {v r : Int64} (hq : Rt p l e R s m args below meth c D w A S1 Q cc .lreturn [.long r]) (h : some (v, S) = some (r, S1)) (I : Iv D w S A s H locs) (hd : decode cc pc = .ok (.lreturn, 1)) : W p l e R s m args below meth c H locs 0 0 Q (F0 m pc ls [.long v]) := by cases h; exact hq _ _ _ _ I hd
theorem rt_v (hq : Rt p l e R s m args below meth c D w A S1 Q cc .return_ []) (h : some S = some S1) (I : Iv D w S A s H locs) (hd : decode cc pc = .ok (.return_, 1)) : W p l e R s m args below meth c H locs 0 0 Q (F0 m pc ls []) := by cases h; exact hq _ _ _ _ I hd
theorem rt_a {α : Type} {f : α → Value} {v r : α} (hq : Rt p l e R s m args below meth c D w A S1 Q cc .areturn [f r]) (h : some (v, S) = some (r, S1)) (I : Iv D w S A s H locs) (hd : decode cc pc = .ok (.areturn, 1)) : W p l e R s m args below meth c H locs 0 0 Q (F0 m pc ls [f v]) := by cases h; exact hq _ _ _ _ I hd
variable {st rest : List Value} {nL : Nat}
theorem k_top {α : Type} {f : α → Value} {x : α} (k : ∀ y : α, y = x → W p l e R s m args below meth c H locs 0 0 Q (F0 m pc ls (f y :: rest))) : W p l e R s m args below meth c H locs 0 0 Q (F0 m pc ls (f x :: rest)) := k x rfl
/-- references that may be none: loads, stores, tests -/
theorem k_aload {v : Value} (r : Option Nat) (hx : p.tables.exec = Jvm.exec) (hb : c.code = cc) {i : Nat} (hdg : decode cc pc = .ok (.aload i, 2)) (hr : va_rf r = v) (hl : ls[i]? = some (.val v)) (k : W p l e R s m args below meth c H locs 0 0 Q (F0 m (pc + 2) ls (v :: rest))) : W p l e R s m args below meth c H locs 0 0 Q (F0 m pc ls rest) := by
  subst hr
  cases r with
  | none => exact lv_aloadN hx hb hdg hl k
  | some a => exact lv_aload hx hb hdg hl k
theorem k_aload_n {v : Value} (r : Option Nat) (hx : p.tables.exec = Jvm.exec) (hb : c.code = cc) {j : Fin 4} {i : Nat} (hdg : decode cc pc = .ok (.aload_n j, 1)) (hi : (j : Nat) = i) (hr : va_rf r = v) (hl : ls[i]? = some (.val v)) (k : W p l e R s m args below meth c H locs 0 0 Q (F0 m (pc + 1) ls (v :: rest))) : W p l e R s m args below meth c H locs 0 0 Q (F0 m pc ls rest) := by
  subst hr
  cases r with
  | none => exact lv_aload_nN hx hb hdg hi hl k
  | some a => exact lv_aload_n hx hb hdg hi hl k
theorem k_astore {v : Value} (r : Option Nat) (hx : p.tables.exec = Jvm.exec) (hb : c.code = cc) {i : Nat} {lv lv' : List (Nat × Value)} (hdg : decode cc pc = .ok (.astore i, 2)) (hr : va_rf r = v) (h : lv_has ls nL lv) (hn : i < nL) (hl : (i, v) :: lv.filter (fun q => !(q.1 == i) && !(q.1 + 1 == i && q.2.category == 2)) = lv') (kk : ∀ ls' : Array Slot, lv_has ls' nL lv' → W p l e R s m args below meth c H locs 0 0 Q (F0 m (pc + 2) ls' rest)) : W p l e R s m args below meth c H locs 0 0 Q (F0 m pc ls (v :: rest)) := by
  subst hr
  cases r with
  | none => exact lv_astoreN hx hb hdg h hn hl kk
  | some a => exact lv_astore hx hb hdg h hn hl kk
theorem k_astore_n {v : Value} (r : Option Nat) (hx : p.tables.exec = Jvm.exec) (hb : c.code = cc) {j : Fin 4} {i : Nat} {lv lv' : List (Nat × Value)} (hdg : decode cc pc = .ok (.astore_n j, 1)) (hi : (j : Nat) = i) (hr : va_rf r = v) (h : lv_has ls nL lv) (hn : i < nL) (hl : (i, v) :: lv.filter (fun q => !(q.1 == i) && !(q.1 + 1 == i && q.2.category == 2)) = lv') (kk : ∀ ls' : Array Slot, lv_has ls' nL lv' → W p l e R s m args below meth c H locs 0 0 Q (F0 m (pc + 1) ls' rest)) : W p l e R s m args below meth c H locs 0 0 Q (F0 m pc ls (v :: rest)) := by
  subst hr
  cases r with
  | none => exact lv_astore_nN hx hb hdg hi h hn hl kk
  | some a => exact lv_astore_n hx hb hdg hi h hn hl kk
theorem k_ifnn {α : Type} {g : α → Nat} {o : Option α} (hx : p.tables.exec = Jvm.exec) (hb : c.code = cc) {off : Int} {tgt : Nat} (hdg : decode cc pc = .ok (.ifnonnull off, 3)) (ht : (pc : Int) + off = (tgt : Int)) (ks : ∀ q, o = some q → W p l e R s m args below meth c H locs 0 0 Q (F0 m tgt ls rest)) (kn : o = none → W p l e R s m args below meth c H locs 0 0 Q (F0 m (pc + 3) ls rest)) : W p l e R s m args below meth c H locs 0 0 Q (F0 m pc ls (va_rf (o.map g) :: rest)) := by
  cases o with
  | none => exact lv_ifnonnullN hx hb hdg (kn rfl)
  | some q => exact lv_ifnonnull hx hb hdg ht (ks q rfl)
theorem k_ifn {α : Type} {g : α → Nat} {o : Option α} (hx : p.tables.exec = Jvm.exec) (hb : c.code = cc) {off : Int} {tgt : Nat} (hdg : decode cc pc = .ok (.ifnull off, 3)) (ht : (pc : Int) + off = (tgt : Int)) (kn : o = none → W p l e R s m args below meth c H locs 0 0 Q (F0 m tgt ls rest)) (ks : ∀ q, o = some q → W p l e R s m args below meth c H locs 0 0 Q (F0 m (pc + 3) ls rest)) : W p l e R s m args below meth c H locs 0 0 Q (F0 m pc ls (va_rf (o.map g) :: rest)) := by
  cases o with
  | none => exact lv_ifnullN hx hb hdg ht (kn rfl)
  | some q => exact lv_ifnull hx hb hdg (ks q rfl)
end RT
