/-! ===== the base: contracts in one form, the context of a walk, calls ===== -/
abbrev St : Type := Nat → Nat → Int32
abbrev tyL (cA : Nat → ClassId) : List (ClassId × FieldType) := [(cA 0, .int), (cA 1, .byte), (cA 2, .boolean), (cA 3, .object RX0)]
/-- private members of nest mates: these links are no words that go along, they are kept by themselves -/
def nwL : List Cond := [.methodLinkNest RX10 9 yX7_init RX10, .methodLinkNest RX10 18 yX0_init RX10, .methodLinkNest RX10 25 yX4_init RX10, .methodLinkNest RX10 32 yX1_init RX10, .methodLinkNest RX1 9 yX0_init RX10, .methodLinkNest RX10 39 yX2_init RX10, .methodLinkNest RX10 46 yX5_init RX10, .methodLinkNest RX10 53 yX8_init RX10, .methodLinkNest RX10 60 yX9_init RX10, .methodLinkNest RX9 11 yX0_init RX10, .methodLinkNest RX9 34 yX6_init RX10, .methodLinkNest RX9 81 yX10_isFigure RX10, .methodLinkNest RX9 94 yX10_isWithin RX10]
def isNest (w : Cond) : Prop := ∃ a i x h, w = .methodLinkNest a i x h
theorem nwL_nest : ∀ w ∈ nwL, isNest w := by
  intro w hw
  simp only [nwL, List.mem_cons, List.not_mem_nil, or_false] at hw
  rcases hw with h | h | h | h | h | h | h | h | h | h | h | h | h <;> exact ⟨_, _, _, _, h⟩
def NN (U : State) : Prop := ∀ w ∈ nwL, va_Nw w U
theorem NN.warm {s U : State} (hW : s.WarmedH U.vm) (h : NN s) : NN U := by
  intro w hw
  obtain ⟨a, i, x, hh, rfl⟩ := nwL_nest w hw
  exact va_Nw.warmM hW (h _ hw)
theorem NN.same {u U : State} (e : u.vm = U.vm) (h : NN u) : NN U := by
  intro w hw
  obtain ⟨a, i, x, hh, rfl⟩ := nwL_nest w hw
  exact va_Nw.same rfl e (h _ hw)
def KN (D : va_G) (cA : Nat → ClassId) (U : State) : Prop := va_K D vwCl (tyL cA) U ∧ NN U
theorem KN.warm {D : va_G} {cA : Nat → ClassId} {s U : State} (hW : s.WarmedH U.vm) (h : KN D cA s) : KN D cA U := ⟨va_K.moved hW.alike h.1, h.2.warm hW⟩
/-- what a method starts from: its world W0 -/
def PreC (D : va_G) (cA : Nat → ClassId) (W0 : va_W) (sz : Nat) (av : List Value) : Array Value → State → Prop := va_Pc av (fun U => U.heap.size = sz ∧ va_P D vwCl W0 U.heap ∧ KN D cA U ∧ va_D (fun _ => True) W0)
theorem PreC.blind {D : va_G} {cA : Nat → ClassId} {W0 : va_W} {sz : Nat} {av : List Value} : FrameBlind (PreC D cA W0 sz av) := fun a U g mk q => ⟨q.1, q.2.1, q.2.2.1, ⟨va_K.moved (u := U) (U := U.calling g mk a) (Vm.Alike.refl U.vm) q.2.2.2.1.1, q.2.2.2.1.2.same (u := U) (U := U.calling g mk a) rfl⟩, q.2.2.2.2⟩
def EndW (D : va_G) (A : Nat → Prop) (W1 : va_W) : Unit → State → Prop := fun _ t => va_P D vwCl W1 t.heap ∧ va_D A W1
def QI (D : va_G) (A : Nat → Prop) (v : Int32) (W1 : va_W) := va_Qi (fun r (_ : Unit) => r = v) (EndW D A W1) A
def QL (D : va_G) (A : Nat → Prop) (v : Int64) (W1 : va_W) := va_Ql (fun r (_ : Unit) => r = v) (EndW D A W1) A
def QV (D : va_G) (A : Nat → Prop) (W1 : va_W) := va_Qv (fun (_ : Unit) => True) (EndW D A W1) A
abbrev wsU (y : MethodName) (cc : ByteArray) (n : Nat) (r : Option FieldType) : List Cond := .code y cc n r :: wsL_law
abbrev rmU (fr lo mc ms : Nat) : Room := { frames := fr, cells := mc, slots := ms, locals := lo }
/-- contracts: from the world W0 to the world W1; the answer is v -/
def CtI (l : Launch) (y : MethodName) (cc : ByteArray) (n : Nat) (r : Option FieldType) (fr lo : Nat) (D : va_G) (cA : Nat → ClassId) (W0 W1 : va_W) (av : List Value) (v : Int32) : Prop := ∀ sz : Nat, Met l y (wsU y cc n r) (rmU fr lo 0 0) (PreC D cA W0 sz av) (QI D (va_A W0 sz) v W1) 0 0 (va_A W0 sz)
def CtL (l : Launch) (y : MethodName) (cc : ByteArray) (n : Nat) (r : Option FieldType) (fr lo : Nat) (D : va_G) (cA : Nat → ClassId) (W0 W1 : va_W) (av : List Value) (v : Int64) : Prop := ∀ sz : Nat, Met l y (wsU y cc n r) (rmU fr lo 0 0) (PreC D cA W0 sz av) (QL D (va_A W0 sz) v W1) 0 0 (va_A W0 sz)
def CtV (l : Launch) (y : MethodName) (cc : ByteArray) (n : Nat) (r : Option FieldType) (fr lo : Nat) (D : va_G) (cA : Nat → ClassId) (W0 W1 : va_W) (av : List Value) : Prop := ∀ sz : Nat, Met l y (wsU y cc n r) (rmU fr lo 0 0) (PreC D cA W0 sz av) (QV D (va_A W0 sz) W1) 0 0 (va_A W0 sz)
theorem good_all : GoodIn wsL_law wsL_law := goodIn_sub (fun _ h => h) (by decide +kernel)
/-- the context of a walk -/
def Cx (p : Program) (s : State) (m : MethodId) (args : Array Value) (meth : Method) (c : Code) (D : va_G) (cA : Nat → ClassId) (cc : ByteArray) (nL : Nat) (own : String) (ret : Option FieldType) : Prop :=
  p.tables.exec = Jvm.exec ∧ c.code = cc ∧ c.maxLocals = nL ∧ s.vm.findClass own = some m.cls ∧ (∀ w ∈ wsL_law, w.before args s = true) ∧ va_K D vwCl (tyL cA) s ∧ NN s ∧ meth.sig.returnType = ret ∧ meth.locks = false
theorem Cx.of {p : Program} {l : Launch} {y : MethodName} {cc : ByteArray} {n : Nat} {r : Option FieldType} {rm : Room} {e : Env} {s s₁ : State} {m : MethodId} {args : Array Value} {below : List Frame} {meth : Method} {c : Code} {D : va_G} {cA : Nat → ClassId} (B : BodyLoose p l y (headSpec (wsU y cc n r) rm) cc n r e s m args below meth c s₁) (hml : c.maxLocals = n) (hK : KN D cA s) : Cx p s m args meth c D cA cc n y.cls r :=
  ⟨B.exec, B.bytes, hml, findClass_of_methodNamed B.named, fun w h => atoms_spec (ws := wsU y cc n r) B.pre w (List.mem_cons_of_mem _ h), hK.1, hK.2, B.returns, B.notSynchronized⟩
section BaseRows
variable {p : Program} {l : Launch} {e : Env} {R : Room} {s : State} {m : MethodId} {args : Array Value} {below : List Frame} {meth : Method} {c : Code} {H : Heap} {locs : List Loc} {cells slots : Nat} {Q : State → Prop}
variable {D : va_G} {cA : Nat → ClassId} {cc : ByteArray} {nL : Nat} {own : String} {ret : Option FieldType} {pc : Nat} {ls : Array Slot} {rest : List Value} {A : Nat → Prop}
theorem ret_i {v : Int32} {W1 : va_W} (C : Cx p s m args meth c D cA cc nL own (some .int)) (hP : va_P D vwCl W1 H) (hD : va_D A W1) (hS : va_S A s.heap H locs) (hdg : decode cc pc = .ok (.ireturn, 1)) : W p l e R s m args below meth c H locs cells slots (MQ below (QI D A v W1) args s cells slots A) (F0 m pc ls [.int v]) := by
  obtain ⟨hx, hb, -, -, -, -, -, hr, hlocks⟩ := C
  exact W.iret hx hb hr (fun t ht hW => ⟨⟨v, (), rfl, rfl, by rw [ht]; exact hP, hD⟩, hS.F ht⟩) hS.2.2 hdg
theorem ret_z {v : Int32} {W1 : va_W} (C : Cx p s m args meth c D cA cc nL own (some .boolean)) (hv : v = 0 ∨ v = 1) (hP : va_P D vwCl W1 H) (hD : va_D A W1) (hS : va_S A s.heap H locs) (hdg : decode cc pc = .ok (.ireturn, 1)) : W p l e R s m args below meth c H locs cells slots (MQ below (QI D A v W1) args s cells slots A) (F0 m pc ls [.int v]) := by
  obtain ⟨hx, hb, -, -, -, -, -, hr, hlocks⟩ := C
  refine W.zret hx hb hr ?_ (fun t ht hW => ⟨⟨v, (), rfl, rfl, by rw [ht]; exact hP, hD⟩, hS.F ht⟩) hS.2.2 hdg
  rcases hv with rfl | rfl <;> decide
theorem ret_l {v : Int64} {W1 : va_W} (C : Cx p s m args meth c D cA cc nL own (some .long)) (hP : va_P D vwCl W1 H) (hD : va_D A W1) (hS : va_S A s.heap H locs) (hdg : decode cc pc = .ok (.lreturn, 1)) : W p l e R s m args below meth c H locs cells slots (MQ below (QL D A v W1) args s cells slots A) (F0 m pc ls [.long v]) := by
  obtain ⟨hx, hb, -, -, -, -, -, hr, hlocks⟩ := C
  exact W.lret hx hb hr (fun t ht hW => ⟨⟨v, (), rfl, rfl, by rw [ht]; exact hP, hD⟩, hS.F ht⟩) hS.2.2 hdg
theorem ret_v {W1 : va_W} (C : Cx p s m args meth c D cA cc nL own none) (hP : va_P D vwCl W1 H) (hD : va_D A W1) (hS : va_S A s.heap H locs) (hdg : decode cc pc = .ok (.return_, 1)) : W p l e R s m args below meth c H locs cells slots (MQ below (QV D A W1) args s cells slots A) (F0 m pc ls []) := by
  obtain ⟨hx, hb, -, -, -, -, -, hr, hlocks⟩ := C
  exact W.vret hx hb hr (fun t ht hW => ⟨⟨(), rfl, trivial, by rw [ht]; exact hP, hD⟩, hS.F ht⟩) hS.2.2 hdg
/-- behind a call: the caller's world with the callee's new one in its place -/
theorem aft_j {ws Wc Wr W1 ws' : va_W} {H1 : Heap} (hP : va_P D vwCl ws H) (hD : va_D A ws) (hS : va_S A s.heap H locs) (hA : ∀ q : Nat, s.heap.size ≤ q → A q) (isC isR isB : List Nat) (hC : isC.map (fun i => ws[i]?) = Wc.map some) (hR : isR.map (fun i => ws[i]?) = Wr.map some) (hn : va_nd isR = true) (hdis : ∀ i ∈ isR, i ∉ isC) (hB : isB.map (fun i => (Wr ++ W1)[i]?) = ws'.map some) (hnB : va_nd isB = true)
    (hk1 : ∀ q : Nat, q < H.size → ¬ va_A Wc H.size q → H1[q]? = H[q]?) (hP1 : va_P D vwCl W1 H1) (hD1 : va_D (va_A Wc H.size) W1) : va_P D vwCl ws' H1 ∧ va_D A ws' := by
  have hFc := va_free (wc := Wc) hD hS hA isC hC
  obtain ⟨hP2, hD2⟩ := va_join hP hD isC isR hC hR hn hdis hk1 hFc hP1 hD1
  refine ⟨fun k q hk => ?_, hD2.sub isB hnB hB⟩
  have h1 : (ws'.map some)[k]? = some (some q) := by rw [List.getElem?_map, hk]; rfl
  rw [← hB, List.getElem?_map] at h1
  cases hb : isB[k]? with
  | none => rw [hb] at h1; cases h1
  | some i =>
    rw [hb] at h1
    exact hP2 i q (Option.some.inj h1)
theorem aft_i {ws Wc Wr W1 ws' : va_W} {v : Int32} {st0 : List Value} {a : Array Value} {mc ms : Nat} (hr : va_Run p l e R s m args below meth c H locs cells slots mc ms (F0 m pc ls st0) rest (QI D (va_A Wc H.size) v W1 a) (va_A Wc H.size)) (hP : va_P D vwCl ws H) (hD : va_D A ws) (hS : va_S A s.heap H locs) (hA : ∀ q : Nat, s.heap.size ≤ q → A q) (isC isR isB : List Nat) (hC : isC.map (fun i => ws[i]?) = Wc.map some) (hR : isR.map (fun i => ws[i]?) = Wr.map some) (hn : va_nd isR = true) (hdis : ∀ i ∈ isR, i ∉ isC) (hB : isB.map (fun i => (Wr ++ W1)[i]?) = ws'.map some) (hnB : va_nd isB = true)
    (kk : ∀ (H1 : Heap) (locs1 : List Loc), va_P D vwCl ws' H1 → va_D A ws' → va_S A s.heap H1 locs1 → W p l e R s m args below meth c H1 locs1 (cells + mc) (slots + ms) Q (F0 m (pc + 3) ls (.int v :: rest))) : W p l e R s m args below meth c H locs cells slots Q (F0 m pc ls st0) := by
  have hFc := va_free (wc := Wc) hD hS hA isC hC
  refine va_calli hr hS (fun q _ h => hFc q h) hFc (fun r u t H1 locs1 ht hvm hw hB1 hz1 hk1 hS1 => ?_)
  obtain ⟨hP1, hD1⟩ := hB1
  rw [ht] at hP1
  have h2 := aft_j hP hD hS hA isC isR isB hC hR hn hdis hB hnB hk1 hP1 hD1
  have hw : r = v := hw
  subst hw
  exact kk H1 locs1 h2.1 h2.2 hS1
theorem aft_l {ws Wc Wr W1 ws' : va_W} {v : Int64} {st0 : List Value} {a : Array Value} {mc ms : Nat} (hr : va_Run p l e R s m args below meth c H locs cells slots mc ms (F0 m pc ls st0) rest (QL D (va_A Wc H.size) v W1 a) (va_A Wc H.size)) (hP : va_P D vwCl ws H) (hD : va_D A ws) (hS : va_S A s.heap H locs) (hA : ∀ q : Nat, s.heap.size ≤ q → A q) (isC isR isB : List Nat) (hC : isC.map (fun i => ws[i]?) = Wc.map some) (hR : isR.map (fun i => ws[i]?) = Wr.map some) (hn : va_nd isR = true) (hdis : ∀ i ∈ isR, i ∉ isC) (hB : isB.map (fun i => (Wr ++ W1)[i]?) = ws'.map some) (hnB : va_nd isB = true)
    (kk : ∀ (H1 : Heap) (locs1 : List Loc), va_P D vwCl ws' H1 → va_D A ws' → va_S A s.heap H1 locs1 → W p l e R s m args below meth c H1 locs1 (cells + mc) (slots + ms) Q (F0 m (pc + 3) ls (.long v :: rest))) : W p l e R s m args below meth c H locs cells slots Q (F0 m pc ls st0) := by
  have hFc := va_free (wc := Wc) hD hS hA isC hC
  refine va_calll hr hS (fun q _ h => hFc q h) hFc (fun r u t H1 locs1 ht hvm hw hB1 hz1 hk1 hS1 => ?_)
  obtain ⟨hP1, hD1⟩ := hB1
  rw [ht] at hP1
  have h2 := aft_j hP hD hS hA isC isR isB hC hR hn hdis hB hnB hk1 hP1 hD1
  have hw : r = v := hw
  subst hw
  exact kk H1 locs1 h2.1 h2.2 hS1
theorem aft_v {ws Wc Wr W1 ws' : va_W} {st0 : List Value} {a : Array Value} {mc ms : Nat} (hr : va_Run p l e R s m args below meth c H locs cells slots mc ms (F0 m pc ls st0) rest (QV D (va_A Wc H.size) W1 a) (va_A Wc H.size)) (hP : va_P D vwCl ws H) (hD : va_D A ws) (hS : va_S A s.heap H locs) (hA : ∀ q : Nat, s.heap.size ≤ q → A q) (isC isR isB : List Nat) (hC : isC.map (fun i => ws[i]?) = Wc.map some) (hR : isR.map (fun i => ws[i]?) = Wr.map some) (hn : va_nd isR = true) (hdis : ∀ i ∈ isR, i ∉ isC) (hB : isB.map (fun i => (Wr ++ W1)[i]?) = ws'.map some) (hnB : va_nd isB = true)
    (kk : ∀ (H1 : Heap) (locs1 : List Loc), va_P D vwCl ws' H1 → va_D A ws' → va_S A s.heap H1 locs1 → W p l e R s m args below meth c H1 locs1 (cells + mc) (slots + ms) Q (F0 m (pc + 3) ls rest)) : W p l e R s m args below meth c H locs cells slots Q (F0 m pc ls st0) := by
  have hFc := va_free (wc := Wc) hD hS hA isC hC
  refine va_callv hr hS (fun q _ h => hFc q h) hFc (fun u t H1 locs1 ht hvm hw hB1 hz1 hk1 hS1 => ?_)
  obtain ⟨hP1, hD1⟩ := hB1
  rw [ht] at hP1
  have h2 := aft_j hP hD hS hA isC isR isB hC hR hn hdis hB hnB hk1 hP1 hD1
  exact kk H1 locs1 h2.1 h2.2 hS1
/-- what a call takes from the tables -/
def Lk (own : String) (idx : Nat) (y : MethodName) (bytes : ByteArray) (maxL : Nat) (ret : Option FieldType) (n : Nat) : Prop := Cond.code y bytes maxL ret ∈ wsL_law ∧ Cond.methodLink own idx y ∈ wsL_law ∧ Cond.initialized y.cls ∈ wsL_law ∧ y.cls ≠ "java/lang/invoke/MethodHandle" ∧ y.cls ≠ "java/lang/invoke/VarHandle" ∧ (parseMethodDescriptor y.desc).map (fun d => d.parameters.length) = some n
def LkV (own : String) (idx : Nat) (y : MethodName) (bytes : ByteArray) (maxL : Nat) (ret : Option FieldType) (n : Nat) : Prop := Lk own idx y bytes maxL ret n ∧ Cond.instanceMethod y ∈ wsL_law ∧ Cond.selects y.cls y y ∈ wsL_law
def LkS (own : String) (idx : Nat) (y : MethodName) (bytes : ByteArray) (maxL : Nat) (ret : Option FieldType) (n : Nat) : Prop := Lk own idx y bytes maxL ret n ∧ Cond.static y ∈ wsL_law
def LkN (own : String) (idx : Nat) (y : MethodName) (bytes : ByteArray) (maxL : Nat) (ret : Option FieldType) (n : Nat) : Prop := Cond.code y bytes maxL ret ∈ wsL_law ∧ Cond.methodLinkNest own idx y RX10 ∈ nwL ∧ Cond.initialized y.cls ∈ wsL_law ∧ y.cls ≠ "java/lang/invoke/MethodHandle" ∧ y.cls ≠ "java/lang/invoke/VarHandle" ∧ (parseMethodDescriptor y.desc).map (fun d => d.parameters.length) = some n
variable {y : MethodName} {bytes : ByteArray} {maxL fr lo mc ms n idx : Nat} {rt : Option FieldType} {Wc W1 : va_W} {Qc : Array Value → State → Outcome → State → Prop} {As : List Value} {b : Nat}
theorem goodU (hcode : Cond.code y bytes maxL rt ∈ wsL_law) : GoodIn wsL_law (wsU y bytes maxL rt) := fun w hw => (List.mem_cons.mp hw).elim (fun e => e ▸ good_all _ hcode) (fun h => good_all _ h)
theorem cb_of (C : Cx p s m args meth c D cA cc nL own ret) (L : Lk own idx y bytes maxL rt n) (hR : fr + 1 ≤ R.frames ∧ 8 + (maxL + 11) + lo ≤ R.locals) : CallB R s args own idx y bytes maxL rt (wsU y bytes maxL rt) (rmU fr lo mc ms) mc ms n := by
  obtain ⟨-, -, -, -, hts, -, -, -, -⟩ := C
  obtain ⟨h1, h2, h3, h4⟩ := L
  exact callB_of n hts (goodU h1) rfl rfl rfl (hts _ h3) (hts _ h2) h4 hR
theorem fixU (C : Cx p s m args meth c D cA cc nL own ret) : CallFix p m c cc nL s args wsL_law own := ⟨C.1, C.2.1, C.2.2.1, C.2.2.2.1, C.2.2.2.2.1⟩
theorem preS_of {av : List Value} (C : Cx p s m args meth c D cA cc nL own ret) (hP : va_P D vwCl Wc H) (hD : va_D A Wc) : PreS s H (PreC D cA Wc H.size av) av :=
  ⟨PreC.blind, fun U hU hW => ⟨rfl, by rw [hU], by rw [hU]; exact hP, KN.warm hW ⟨C.2.2.2.2.2.1, C.2.2.2.2.2.2.1⟩, hD.weaken (fun _ _ _ _ => trivial)⟩⟩
theorem preV_of {ci q0 : Nat} {q : vw_C} {fs : List Value} (C : Cx p s m args meth c D cA cc nL own ret) (hP : va_P D vwCl Wc H) (hD : va_D A Wc) (hc : vwCl[ci]? = some q) (he : Wc[q0]? = some (b, .inr (ci, fs))) : PreV s H q.1 b (PreC D cA Wc H.size (.ref b :: As)) As :=
  ⟨PreC.blind, va_recv C.2.2.2.2.2.1 hP hc he, fun U hU hW => ⟨rfl, by rw [hU], by rw [hU]; exact hP, KN.warm hW ⟨C.2.2.2.2.2.1, C.2.2.2.2.2.2.1⟩, hD.weaken (fun _ _ _ _ => trivial)⟩⟩
theorem runU_V {ci q0 : Nat} {q : vw_C} {fs : List Value} (C : Cx p s m args meth c D cA cc nL own ret) (L : LkV own idx y bytes maxL rt n) (hM : Met l y (wsU y bytes maxL rt) (rmU fr lo mc ms) (PreC D cA Wc H.size (.ref b :: As)) Qc mc ms (va_A Wc H.size)) (hR : fr + 1 ≤ R.frames ∧ 8 + (maxL + 11) + lo ≤ R.locals) (hf : cells + mc ≤ R.cells ∧ slots + ms ≤ R.slots) (hP : va_P D vwCl Wc H) (hD : va_D A Wc) (hc : vwCl[ci]? = some q) (he : Wc[q0]? = some (b, .inr (ci, fs))) (hq : y.cls = q.1) (hl : ls.size = nL) (hn : As.length = n) (hw : (rest.map fun v => v.category).sum ≤ 8) (hdg : decode cc pc = .ok (.invokevirtual idx, 3)) :
    va_Run p l e R s m args below meth c H locs cells slots mc ms (F0 m pc ls (As.reverse ++ .ref b :: rest)) rest (Qc (Value.ref b :: As).toArray) (va_A Wc H.size) :=
  va_runV (n := n) (fixU C) hM ⟨cb_of C L.1 hR, C.2.2.2.2.1 _ L.2.1, by rw [← hq]; exact C.2.2.2.2.1 _ L.2.2⟩ (preV_of C hP hD hc he) rfl hn hl rfl (lv_room hw) hdg hf
theorem runU_S (C : Cx p s m args meth c D cA cc nL own ret) (L : LkS own idx y bytes maxL rt n) (hM : Met l y (wsU y bytes maxL rt) (rmU fr lo mc ms) (PreC D cA Wc H.size As) Qc mc ms (va_A Wc H.size)) (hR : fr + 1 ≤ R.frames ∧ 8 + (maxL + 11) + lo ≤ R.locals) (hf : cells + mc ≤ R.cells ∧ slots + ms ≤ R.slots) (hP : va_P D vwCl Wc H) (hD : va_D A Wc) (hl : ls.size = nL) (hn : As.length = n) (hw : (rest.map fun v => v.category).sum ≤ 8) (hdg : decode cc pc = .ok (.invokestatic idx, 3)) :
    va_Run p l e R s m args below meth c H locs cells slots mc ms (F0 m pc ls (As.reverse ++ rest)) rest (Qc As.toArray) (va_A Wc H.size) :=
  va_runS (n := n) (fixU C) hM ⟨cb_of C L.1 hR, C.2.2.2.2.1 _ L.2⟩ (preS_of C hP hD) rfl hn hl rfl (lv_room hw) hdg hf
theorem cn_of (C : Cx p s m args meth c D cA cc nL own ret) (L : LkN own idx y bytes maxL rt n) (hR : fr + 1 ≤ R.frames ∧ 8 + (maxL + 11) + lo ≤ R.locals) : va_CN R s args own idx y RX10 bytes maxL rt (wsU y bytes maxL rt) (rmU fr lo mc ms) mc ms n := by
  obtain ⟨-, -, -, -, hts, -, hN, -, -⟩ := C
  obtain ⟨h1, h2, h3, h4⟩ := L
  exact va_cnB n hts (goodU h1) rfl rfl rfl (hN _ h2) (hts _ h3) h4 hR
theorem runU_SN (C : Cx p s m args meth c D cA cc nL own ret) (L : LkN own idx y bytes maxL rt n ∧ Cond.static y ∈ wsL_law) (hM : Met l y (wsU y bytes maxL rt) (rmU fr lo mc ms) (PreC D cA Wc H.size As) Qc mc ms (va_A Wc H.size)) (hR : fr + 1 ≤ R.frames ∧ 8 + (maxL + 11) + lo ≤ R.locals) (hf : cells + mc ≤ R.cells ∧ slots + ms ≤ R.slots) (hP : va_P D vwCl Wc H) (hD : va_D A Wc) (hl : ls.size = nL) (hn : As.length = n) (hw : (rest.map fun v => v.category).sum ≤ 8) (hdg : decode cc pc = .ok (.invokestatic idx, 3)) :
    va_Run p l e R s m args below meth c H locs cells slots mc ms (F0 m pc ls (As.reverse ++ rest)) rest (Qc As.toArray) (va_A Wc H.size) :=
  va_runSN (n := n) (fixU C) hM ⟨cn_of C L.1 hR, C.2.2.2.2.1 _ L.2, trivial⟩ (preS_of C hP hD) rfl hn hl rfl (lv_room hw) hdg hf
theorem runU_IN (C : Cx p s m args meth c D cA cc nL own ret) (L : LkN own idx y bytes maxL none n ∧ Cond.instanceMethod y ∈ wsL_law) (hy : y.name = "<init>") (hM : Met l y (wsU y bytes maxL none) (rmU fr lo mc ms) (PreC D cA Wc H.size (.ref b :: As)) Qc mc ms (va_A Wc H.size)) (hR : fr + 1 ≤ R.frames ∧ 8 + (maxL + 11) + lo ≤ R.locals) (hf : cells + mc ≤ R.cells ∧ slots + ms ≤ R.slots) (hP : va_P D vwCl Wc H) (hD : va_D A Wc) (hl : ls.size = nL) (hn : As.length = n) (hw : (rest.map fun v => v.category).sum ≤ 8) (hdg : decode cc pc = .ok (.invokespecial idx, 3)) :
    va_Run p l e R s m args below meth c H locs cells slots mc ms (F0 m pc ls (As.reverse ++ .ref b :: rest)) rest (Qc (Value.ref b :: As).toArray) (va_A Wc H.size) :=
  va_runIN (n := n) (fixU C) hM ⟨cn_of C L.1 hR, hy, C.2.2.2.2.1 _ L.2⟩ (preS_of C hP hD) rfl hn hl rfl (lv_room hw) hdg hf
theorem runU_I (C : Cx p s m args meth c D cA cc nL own ret) (L : Lk own idx y bytes maxL none n ∧ Cond.instanceMethod y ∈ wsL_law) (hy : y.name = "<init>") (hM : Met l y (wsU y bytes maxL none) (rmU fr lo mc ms) (PreC D cA Wc H.size (.ref b :: As)) Qc mc ms (va_A Wc H.size)) (hR : fr + 1 ≤ R.frames ∧ 8 + (maxL + 11) + lo ≤ R.locals) (hf : cells + mc ≤ R.cells ∧ slots + ms ≤ R.slots) (hP : va_P D vwCl Wc H) (hD : va_D A Wc) (hl : ls.size = nL) (hn : As.length = n) (hw : (rest.map fun v => v.category).sum ≤ 8) (hdg : decode cc pc = .ok (.invokespecial idx, 3)) :
    va_Run p l e R s m args below meth c H locs cells slots mc ms (F0 m pc ls (As.reverse ++ .ref b :: rest)) rest (Qc (Value.ref b :: As).toArray) (va_A Wc H.size) :=
  va_runI (n := n) (fixU C) hM ⟨cb_of C L.1 hR, hy, C.2.2.2.2.1 _ L.2⟩ (preS_of C hP hD) rfl hn hl rfl (lv_room hw) hdg hf
end BaseRows
/-! ===== the pure side: loops by fuel, and how a pure step is read ===== -/
def lpN {σ ρ : Type} (body : (σ → Option ρ) → σ → Option ρ) : Nat → σ → Option ρ
  | 0 => fun _ => none
  | k + 1 => body (lpN body k)
theorem lpN_spec {σ ρ : Type} {body : (σ → Option ρ) → σ → Option ρ} (I : σ → Prop) (μ : σ → Nat) (f : σ → Option ρ) (h : ∀ (g : σ → Option ρ) (s : σ), I s → (∀ s', I s' → μ s' < μ s → g s' = f s') → body g s = f s) : ∀ (k : Nat) (s : σ), I s → μ s < k → lpN body k s = f s
  | 0, s, _, h2 => absurd h2 (Nat.not_lt_zero _)
  | k + 1, s, h1, h2 => h (lpN body k) s h1 (fun s' h3 h4 => lpN_spec I μ f h k s' h3 (by omega))
theorem pt_t {α : Type} {c : Prop} {inst : Decidable c} {a b : Option α} {z : α} (h : c) (e : (@ite _ c inst a b) = some z) : a = some z := by rw [if_pos h] at e; exact e
theorem pt_f {α : Type} {c : Prop} {inst : Decidable c} {a b : Option α} {z : α} (h : ¬ c) (e : (@ite _ c inst a b) = some z) : b = some z := by rw [if_neg h] at e; exact e
theorem pt_g {α : Type} {c : Prop} {inst : Decidable c} {a : Option α} {z : α} (e : (@ite _ c inst a none) = some z) : c ∧ a = some z := by
  by_cases h : c
  · rw [if_pos h] at e; exact ⟨h, e⟩
  · rw [if_neg h] at e; cases e
theorem pt_b {α β : Type} {x : Option α} {k : α → Option β} {z : β} (e : Option.bind x k = some z) : ∃ y, x = some y ∧ k y = some z := by
  cases x with
  | none => cases e
  | some y => exact ⟨y, rfl, e⟩
def sh {α : Type} (S : Nat → α) (b : Nat) : Nat → α := fun k => S (b + k)
def pt {α : Type} (S : Nat → α) (b n : Nat) (F : Nat → α) : Nat → α := fun k => if b ≤ k ∧ k < b + n then F (k - b) else S k
