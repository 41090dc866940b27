/-! ===== constructors: contracts that make cells ===== -/
abbrev zS : St := fun _ _ => 0
def PreE (X : State → Prop) (D : va_G) (cA : Nat → ClassId) (W0 : va_W) (sz : Nat) (av : List Value) : Array Value → State → Prop := fun a U => PreC D cA W0 sz av a U ∧ X U
def QN (D : va_G) (A : Nat → Prop) (W1 : (Nat → Nat) → va_W) (h : Nat) := va_Qv (fun (u : Nat → Nat) => u 0 = h) (fun u t => va_P D vwCl (W1 u) t.heap ∧ va_D A (W1 u)) A
def CtN (l : Launch) (y : MethodName) (cc : ByteArray) (n : Nat) (fr lo mc ms : Nat) (X : State → Prop) (D : va_G) (cA : Nat → ClassId) (W0 : va_W) (W1 : (Nat → Nat) → va_W) (h : Nat) : Prop := ∀ sz : Nat, Met l y (wsU y cc n none) (rmU fr lo mc ms) (PreE X D cA W0 sz [.ref h]) (QN D (va_A W0 sz) W1 h) mc ms (va_A W0 sz)
section Base3
variable {p : Program} {l : Launch} {e : Env} {R : Room} {s : State} {m : MethodId} {args : Array Value} {below : List Frame} {meth : Method} {c : Code} {H : Heap} {locs : List Loc} {cells slots : Nat} {Q : State → Prop}
variable {D : va_G} {cA : Nat → ClassId} {cc : ByteArray} {nL : Nat} {own : String} {ret : Option FieldType} {pc : Nat} {ls : Array Slot} {rest : List Value} {A : Nat → Prop} {ws : va_W} {st0 : List Value} {a : Array Value}
theorem ret_n {W1 : (Nat → Nat) → va_W} {h : Nat} (u : Nat → Nat) (hu : u 0 = h) (C : Cx p s m args meth c D cA cc nL own none) (hP : va_P D vwCl (W1 u) H) (hD : va_D A (W1 u)) (hS : va_S A s.heap H locs) (hdg : decode cc pc = .ok (.return_, 1)) : W p l e R s m args below meth c H locs cells slots (MQ below (QN D A W1 h) args s cells slots A) (F0 m pc ls []) := by
  obtain ⟨hx, hb, -, -, -, -, -, hr, hlocks⟩ := C
  exact W.vret hx hb hr (fun t ht hW => ⟨⟨u, rfl, hu, by rw [ht]; exact hP, hD⟩, hS.F ht⟩) hS.2.2 hdg
theorem tyEq {k j : Nat} {c1 c2 : ClassId} {ty : FieldType} {t1 t2 : List (ClassId × FieldType)} (hp : ty = .int ∨ ty = .byte ∨ ty = .boolean ∨ ∃ C, ty = .object C) (h1 : va_K D vwCl t1 s) (h2 : va_K D vwCl t2 s) (e1 : t1[k]? = some (c1, ty)) (e2 : t2[j]? = some (c2, ty)) : c1 = c2 := by
  have r1 := (h1.2 k _ e1).2
  have r2 := (h2.2 j _ e2).2
  rcases hp with rfl | rfl | rfl | ⟨C, rfl⟩
  · exact Option.some.inj (r1.symm.trans r2)
  · exact Option.some.inj (r1.symm.trans r2)
  · exact Option.some.inj (r1.symm.trans r2)
  · obtain ⟨k1, p1, -, -, -, q1⟩ := r1
    obtain ⟨k2, p2, -, -, -, q2⟩ := r2
    exact Option.some.inj (q1.symm.trans q2)
theorem newA {k N' : Nat} {ty : FieldType} {atype : ArrayType} {n : Int32} (C : Cx p s m args meth c D cA cc nL own ret) (hA : ∀ q : Nat, s.heap.size ≤ q → A q) (hp : ty = .int ∨ ty = .byte ∨ ty = .boolean) (hk : (tyL cA)[k]? = some (cA k, ty)) (harr : Cond.arrayClass (newarray.typeOf atype) ∈ wsL_law) (hty : newarray.typeOf atype = ty) (hP : va_P D vwCl ws H) (hD : va_D A ws) (hS : va_S A s.heap H locs) (hn : ¬ n < 0) (hN : n.toNatClampNeg = N') (hbytes : N' * componentBytes ty ≤ 536870912) (hcells : cells + 1 ≤ R.cells) (hslots : slots + N' ≤ R.slots) (hdg : decode cc pc = .ok (.newarray atype, 2))
    (kk : ∀ (q : Nat) (H1 : Heap), va_P D vwCl (ws ++ [(q, .inl (cA k, N', .inl (fun _ => 0)))]) H1 → va_D A (ws ++ [(q, .inl (cA k, N', .inl (fun _ => 0)))]) → va_S A s.heap H1 locs → W p l e R s m args below meth c H1 locs (cells + 1) (slots + N') Q (F0 m (pc + 2) ls (.ref q :: rest))) : W p l e R s m args below meth c H locs cells slots Q (F0 m pc ls (.int n :: rest)) := by
  obtain ⟨hx, hb, -, -, hts, hK, -, -, -⟩ := C
  refine va_newa (a0 := (N', .inl (fun _ => 0))) hx hb (hts _ harr) hty hK hP hD hS hA (fun c9 => ?_) hn hN hbytes hcells hslots hdg (fun q c9 H1 hK1 hP1 hD1 hS1 => ?_)
  · rcases hp with rfl | rfl | rfl <;> rfl
  · have e9 : c9 = cA k := tyEq (hp.elim Or.inl (fun h => h.elim (fun h => Or.inr (Or.inl h)) (fun h => Or.inr (Or.inr (Or.inl h))))) hK1 hK (k := 4) (j := k) rfl hk
    subst e9
    exact kk q H1 hP1 hD1 hS1
theorem runE_IN {y : MethodName} {bytes : ByteArray} {maxL fr lo mc ms n idx b : Nat} {Wc : va_W} {X : State → Prop} {Qc : Array Value → State → Outcome → State → Prop} (C : Cx p s m args meth c D cA cc nL own ret) (L : LkN own idx y bytes maxL none n ∧ Cond.instanceMethod y ∈ wsL_law) (hy : y.name = "<init>") (hX : ∀ (a : Array Value) (U : State) (g : JFrame) (mk : MethodId), X U → X (U.calling g mk a)) (hXw : ∀ U : State, U.heap = H → s.WarmedH U.vm → X U) (hM : Met l y (wsU y bytes maxL none) (rmU fr lo mc ms) (PreE X D cA Wc H.size [.ref b]) Qc mc ms (va_A Wc H.size)) (hR : fr + 1 ≤ R.frames ∧ 8 + (maxL + 11) + lo ≤ R.locals) (hf : cells + mc ≤ R.cells ∧ slots + ms ≤ R.slots) (hP : va_P D vwCl Wc H) (hD : va_D A Wc) (hl : ls.size = nL) (hn : 0 = n) (hw : (rest.map fun v => v.category).sum ≤ 8) (hdg : decode cc pc = .ok (.invokespecial idx, 3)) :
    va_Run p l e R s m args below meth c H locs cells slots mc ms (F0 m pc ls (.ref b :: rest)) rest (Qc [Value.ref b].toArray) (va_A Wc H.size) :=
  va_runIN (n := n) (As := []) (fixU C) hM ⟨cn_of C L.1 hR, hy, C.2.2.2.2.1 _ L.2⟩ ⟨fun a U g mk q => ⟨PreC.blind a U g mk q.1, hX a U g mk q.2⟩, fun U hU hW => ⟨(preS_of C hP hD).2 U hU hW, hXw U hU hW⟩⟩ rfl hn hl rfl (lv_room hw) hdg hf
theorem new_v {W1 : (Nat → Nat) → va_W} {q : Nat} {e0 : va_E} {mc ms : Nat} (hr : va_Run p l e R s m args below meth c H locs cells slots mc ms (F0 m pc ls st0) rest (QN D (va_A [(q, e0)] H.size) W1 q a) (va_A [(q, e0)] H.size)) (hP : va_P D vwCl (ws ++ [(q, e0)]) H) (hD : va_D A (ws ++ [(q, e0)])) (hS : va_S A s.heap H locs) (hA : ∀ q : Nat, s.heap.size ≤ q → A q)
    (kk : ∀ (u : Nat → Nat) (H1 : Heap) (locs1 : List Loc), u 0 = q → va_P D vwCl (ws ++ W1 u) H1 → va_D A (ws ++ W1 u) → va_S A s.heap H1 locs1 → W p l e R s m args below meth c H1 locs1 (cells + mc) (slots + ms) Q (F0 m (pc + 3) ls rest)) : W p l e R s m args below meth c H locs cells slots Q (F0 m pc ls st0) := by
  have hq : (ws ++ [(q, e0)])[ws.length]? = some (q, e0) := by simp
  have hF : ∀ x : Nat, va_A [(q, e0)] H.size x → A x := va_free (wc := [(q, e0)]) hD hS hA [ws.length] (by simp)
  have out : ∀ (k : Nat) (x : Nat × va_E), ws[k]? = some x → (ws ++ [(q, e0)])[k]? = some x ∧ x.1 < H.size ∧ ¬ va_A [(q, e0)] H.size x.1 := by
    intro k x hx
    have hk : k < ws.length := (List.getElem?_eq_some_iff.mp hx).1
    have hx' : (ws ++ [(q, e0)])[k]? = some x := by rw [List.getElem?_append_left hk]; exact hx
    refine ⟨hx', (hP k x hx').lt, fun h => ?_⟩
    rcases h with ⟨k2, e2, h⟩ | h
    · have h3 : x.1 = q := by
        cases k2 with
        | zero => have := Option.some.inj h; exact (congrArg Prod.fst this).symm
        | succ k2 => simp at h
      have := hD.1 k ws.length x (q, e0) hx' hq h3
      omega
    · exact absurd (hP k x hx').lt (by omega)
  refine va_callv hr hS (fun q _ h => hF q h) hF (fun u t H1 locs1 ht hvm hw hB1 hz1 hk1 hS1 => ?_)
  obtain ⟨hP1, hD1⟩ := hB1
  rw [ht] at hP1
  refine kk u H1 locs1 hw (va_P.app (fun k x hx => ?_) hP1) (va_D.app ⟨fun i j x y hx hy hxy => hD.1 i j x y (out i x hx).1 (out j y hy).1 hxy, fun k x hx => hD.2 k x (out k x hx).1⟩ (hD1.weaken (fun _ x _ h => hF x.1 h)) (fun i j x y hx hy hxy => ?_)) hS1
  · exact (hP k x (out k x hx).1).kept (hk1 x.1 (out k x hx).2.1 (out k x hx).2.2)
  · exact (out i x hx).2.2 (by rw [hxy]; exact hD1.2 j y hy)
end Base3
theorem ob_1 : Cond.instanceMethod objectInit ∈ wsL_law := by decide +kernel
theorem ob_2 : Cond.code objectInit ⟨#[0xb1]⟩ 1 none ∈ wsL_law := by decide +kernel
theorem ac_int : Cond.arrayClass (newarray.typeOf .int) ∈ wsL_law := by decide +kernel
theorem ac_byte : Cond.arrayClass (newarray.typeOf .byte) ∈ wsL_law := by decide +kernel
theorem ac_boolean : Cond.arrayClass (newarray.typeOf .boolean) ∈ wsL_law := by decide +kernel
