/-! ===== the String constant that the class begins with: length and charAt of it ===== -/
def strL : List Nat := [34]
def strB : List (List Int32) := [[120, 55, 59, 102, 55, 44, 54, 59, 99, 53, 59, 99, 49, 48, 59, 99, 50, 55, 59, 99, 53, 48, 59, 101, 53, 54, 43, 55, 42, 56, 45, 49, 55, 59]]
def chS (k : Nat) : Int32 := (strB.getD 0 []).getD k 0
theorem chS_ok : ∀ k, k < 34 → (((chS k) &&& 255).toUInt32 % 65536).toInt32 = chS k ∧ narrow .char (.int (chS k)) = .int (chS k) := by decide +kernel
abbrev SioN : String := "Ljava/util/function/BiFunction;"
def StrA (q v : Nat) (A : Nat → Prop) (U : State) (H : Heap) : Prop := vk_S 1 strL strB (fun _ => q) (fun _ => v) A U H ∧ va_Z "java/lang/String" "COMPACT_STRINGS" "Z" (.int 1) A U H ∧ va_Zq "jdk/internal/util/Preconditions" "SIOOBE_FORMATTER" SioN A U H
theorem StrA.moved {q v : Nat} {A : Nat → Prop} {u U : State} {H : Heap} (hvm : u.vm.Alike U.vm) (h : StrA q v A u H) : StrA q v A U H := ⟨vk_S.moved hvm h.1, va_Z.moved hvm h.2.1, va_Zq.moved hvm h.2.2⟩
theorem StrA.kept {q v : Nat} {A : Nat → Prop} {U : State} {H H1 : Heap} (h : StrA q v A U H) (hq : ∀ a : Nat, a < H.size → ¬ A a → H1[a]? = H[a]?) : StrA q v A U H1 := ⟨h.1.kept hq, h.2.1.kept hq, h.2.2.kept hq⟩
theorem StrA.narrow {q v : Nat} {A B : Nat → Prop} {U : State} {H : Heap} (h : StrA q v A U H) (hAB : ∀ q, B q → A q) : StrA q v B U H := ⟨h.1.narrow hAB, h.2.1.narrow hAB, h.2.2.narrow hAB⟩
def PreT (q v : Nat) (D : va_G) (cA : Nat → ClassId) (W0 : va_W) (sz : Nat) (av : List Value) : Array Value → State → Prop := fun a U => PreC D cA W0 sz av a U ∧ StrA q v (va_A W0 sz) U U.heap
theorem PreT.blind {q v : Nat} {D : va_G} {cA : Nat → ClassId} {W0 : va_W} {sz : Nat} {av : List Value} : FrameBlind (PreT q v D cA W0 sz av) := fun a U g mk h => ⟨PreC.blind a U g mk h.1, StrA.moved (u := U) (U := U.calling g mk a) (Vm.Alike.refl U.vm) h.2⟩
def CtT (l : Launch) (y : MethodName) (cc : ByteArray) (n : Nat) (r : Option FieldType) (fr lo : Nat) (q v : Nat) (D : va_G) (cA : Nat → ClassId) (W0 W1 : va_W) (av : List Value) (x : Int32) : Prop := ∀ sz : Nat, Met l y (wsU y cc n r) (rmU fr lo 0 0) (PreT q v D cA W0 sz av) (QI D (va_A W0 sz) x W1) 0 0 (va_A W0 sz)
def CtTV (l : Launch) (y : MethodName) (cc : ByteArray) (n : Nat) (r : Option FieldType) (fr lo : Nat) (q v : Nat) (D : va_G) (cA : Nat → ClassId) (W0 W1 : va_W) (av : List Value) : Prop := ∀ sz : Nat, Met l y (wsU y cc n r) (rmU fr lo 0 0) (PreT q v D cA W0 sz av) (QV D (va_A W0 sz) W1) 0 0 (va_A W0 sz)
section PStr
variable {p : Program} {l : Launch} {e : Env} {R : Room} {s : State} {m : MethodId} {args : Array Value} {below : List Frame} {meth : Method} {c : Code} {H : Heap} {locs : List Loc} {cells slots : Nat} {Q : State → Prop}
variable {D : va_G} {cA : Nat → ClassId} {cc : ByteArray} {nL : Nat} {own : String} {ret : Option FieldType} {pc : Nat} {ls : Array Slot} {rest : List Value} {A : Nat → Prop} {a : Nat → Nat} {S : St} {q v : Nat}
theorem ret_c {x : Int32} {W1 : va_W} {ty : FieldType} (C : Cx p s m args meth c D cA cc nL own (some ty)) (hn : narrow ty (.int x) = .int x) (hP : va_P D vwCl W1 H) (hD : va_D A W1) (hS : va_S A s.heap H locs) (hdg : decode cc pc = .ok (.ireturn, 1)) : W p l e R s m args below meth c H locs cells slots (MQ below (QI D A x W1) args s cells slots A) (F0 m pc ls [.int x]) := by
  obtain ⟨hx, hb, -, -, -, -, -, hr, hlocks⟩ := C
  exact W.zret hx hb hr hn (fun t ht hW => ⟨⟨x, (), rfl, rfl, by rw [ht]; exact hP, hD⟩, hS.F ht⟩) hS.2.2 hdg
variable {y : MethodName} {bytes : ByteArray} {maxL fr lo mc ms n idx b : Nat} {rt : Option FieldType} {Wc W1 : va_W} {Qc : Array Value → State → Outcome → State → Prop} {As : List Value}
theorem strU (hStr : StrA q v A s s.heap) (hS : va_S A s.heap H locs) (hF : ∀ x : Nat, va_A Wc H.size x → A x) : ∀ U : State, U.heap = H → s.WarmedH U.vm → StrA q v (va_A Wc H.size) U U.heap := fun U hU hW => by
  rw [hU]
  exact StrA.moved hW.alike ((hStr.kept hS.2.1).narrow hF)
theorem runT_S (hStr : StrA q v A s s.heap) (hS : va_S A s.heap H locs) (hF : ∀ x : Nat, va_A Wc H.size x → A x) (C : Cx p s m args meth c D cA cc nL own ret) (L : LkS own idx y bytes maxL rt n) (hM : Met l y (wsU y bytes maxL rt) (rmU fr lo mc ms) (PreT q v D cA Wc H.size As) Qc mc ms (va_A Wc H.size)) (hR : fr + 1 ≤ R.frames ∧ 8 + (maxL + 11) + lo ≤ R.locals) (hf : cells + mc ≤ R.cells ∧ slots + ms ≤ R.slots) (hP : va_P D vwCl Wc H) (hD : va_D A Wc) (hl : ls.size = nL) (hn : As.length = n) (hw : (rest.map fun v => v.category).sum ≤ 8) (hdg : decode cc pc = .ok (.invokestatic idx, 3)) :
    va_Run p l e R s m args below meth c H locs cells slots mc ms (F0 m pc ls (As.reverse ++ rest)) rest (Qc As.toArray) (va_A Wc H.size) :=
  va_runS (n := n) (fixU C) hM ⟨cb_of C L.1 hR, C.2.2.2.2.1 _ L.2⟩ ⟨PreT.blind, fun U hU hW => ⟨(preS_of C hP hD).2 U hU hW, strU hStr hS hF U hU hW⟩⟩ rfl hn hl rfl (lv_room hw) hdg hf
theorem runT_V (hStr : StrA q v A s s.heap) (hS : va_S A s.heap H locs) (hF : ∀ x : Nat, va_A Wc H.size x → A x) (C : Cx p s m args meth c D cA cc nL own ret) (L : LkV own idx y bytes maxL rt n) (hrc : ∃ cellB : Cell, H[b]? = some cellB ∧ cellB.vm.isStatics = false ∧ s.vm.findClass y.cls = some cellB.cls) (hM : Met l y (wsU y bytes maxL rt) (rmU fr lo mc ms) (PreT q v D cA Wc H.size (.ref b :: As)) Qc mc ms (va_A Wc H.size)) (hR : fr + 1 ≤ R.frames ∧ 8 + (maxL + 11) + lo ≤ R.locals) (hf : cells + mc ≤ R.cells ∧ slots + ms ≤ R.slots) (hP : va_P D vwCl Wc H) (hD : va_D A Wc) (hl : ls.size = nL) (hn : As.length = n) (hw : (rest.map fun v => v.category).sum ≤ 8) (hdg : decode cc pc = .ok (.invokevirtual idx, 3)) :
    va_Run p l e R s m args below meth c H locs cells slots mc ms (F0 m pc ls (As.reverse ++ .ref b :: rest)) rest (Qc (Value.ref b :: As).toArray) (va_A Wc H.size) :=
  va_runV (n := n) (fixU C) hM ⟨cb_of C L.1 hR, C.2.2.2.2.1 _ L.2.1, C.2.2.2.2.1 _ L.2.2⟩ ⟨PreT.blind, hrc, fun U hU hW => ⟨(preS_of C hP hD).2 U hU hW, strU hStr hS hF U hU hW⟩⟩ rfl hn hl rfl (lv_room hw) hdg hf
theorem em_P : va_P D vwCl ([] : va_W) H := fun k q h => by simp at h
theorem em_D : va_D A ([] : va_W) := ⟨fun i j p q h => by simp at h, fun k q h => by simp at h⟩
theorem em_F (hS : va_S A s.heap H locs) (hA : ∀ q : Nat, s.heap.size ≤ q → A q) : ∀ x : Nat, va_A ([] : va_W) H.size x → A x := fun x h => by
  rcases h with ⟨k, e9, h⟩ | h
  · simp at h
  · exact hA x (Nat.le_trans hS.1 h)
theorem prt_v {a9 : Array Value} (hr : va_Run p l e R s m args below meth c H locs cells slots 0 0 (F0 m pc ls As) rest (QV D (va_A Wc H.size) Wc a9) (va_A Wc H.size)) {ws : va_W} (hP : va_P D vwCl ws H) (hD : va_D A ws) (hS : va_S A s.heap H locs) (hA : ∀ q : Nat, s.heap.size ≤ q → A q) (isC : List Nat) (hC : isC.map (fun i => ws[i]?) = Wc.map some)
    (kk : ∀ (H1 : Heap) (locs1 : List Loc), va_P D vwCl ws H1 → va_D A ws → va_S A s.heap H1 locs1 → W p l e R s m args below meth c H1 locs1 cells slots Q (F0 m (pc + 3) ls rest)) : W p l e R s m args below meth c H locs cells slots Q (F0 m pc ls As) := by
  have hF := va_free (wc := Wc) hD hS hA isC hC
  refine va_callv hr hS (fun q _ h => hF q h) hF (fun u t H1 locs1 ht hvm hw hB1 hz1 hk1 hS1 => ?_)
  obtain ⟨hP1, hD1⟩ := hB1
  rw [ht] at hP1
  exact kk H1 locs1 (aft_p hP hD isC hC hk1 hP1) hD hS1
set_option maxRecDepth 100000 in
set_option maxHeartbeats 4000000 in
theorem kJ3N (l : Launch) (D : va_G) (cA : Nat → ClassId) {i n : Int32} (h0 : ¬ i < 0) (h1 : i < n) : CtI l yJ3_checkIndex_8e157 cJ3_checkIndex_8e157 3 (some .int) 0 0 D cA [] [] [.int i, .int n, .null] i := by
  intro sz
  refine Met.ofW (cc := cJ3_checkIndex_8e157) (maxL := 3) (ret := (some .int)) (by decide) rfl ?_
  intro p e s m args below meth c s₁ B hml hv
  obtain ⟨rfl, hsz, hP, hK, hD0⟩ := hv
  subst hsz
  have C : Cx p s m _ meth c D cA cJ3_checkIndex_8e157 3 RJ3 (some .int) := Cx.of B hml hK
  have hD := hD0.self (sz := s.heap.size)
  have hA : ∀ q : Nat, s.heap.size ≤ q → va_A ([] : va_W) s.heap.size q := fun q h => Or.inr h
  have hS : va_S (va_A ([] : va_W) s.heap.size) s.heap s.heap [] := va_S.rf
  have hl := lv_entry ([.int i, .int n, .null]) (n := 3) (Nat.le_of_ble_eq_true rfl)
  rw [lg_entry_eq]
  generalize (lg_sl ([.int i, .int n, .null]) ++ List.replicate (3 - (lg_sl ([.int i, .int n, .null])).length) Slot.unset).toArray = ls at hl ⊢
  obtain ⟨hx, hb, hml, hown, hts, hK, hN, hr, hlk⟩ := id C
  have hl : lv_has ls 3 [(0, .int i), (1, .int n), (2, .null)] := hl
  refine lv_iload_n (pc := 0) hx hb dJ3_checkIndex_8e157_0 rfl (lv_at hl 0 rfl) ?_
  refine lv_if_lt (tgt := 9) (pc := 1) hx hb dJ3_checkIndex_8e157_1 (by decide) (fun c1 => absurd c1 h0) (fun _ => ?_)
  refine lv_iload_n (pc := 4) hx hb dJ3_checkIndex_8e157_4 rfl (lv_at hl 0 rfl) ?_
  refine lv_iload_n (pc := 5) hx hb dJ3_checkIndex_8e157_5 rfl (lv_at hl 1 rfl) ?_
  refine lv_icmp_lt (tgt := 16) (pc := 6) hx hb dJ3_checkIndex_8e157_6 (by decide) (fun _ => ?_) (fun c1 => absurd h1 c1)
  refine lv_iload_n (pc := 16) hx hb dJ3_checkIndex_8e157_16 rfl (lv_at hl 0 rfl) ?_
  exact ret_i C hP hD hS dJ3_checkIndex_8e157_17
set_option maxRecDepth 100000 in
set_option maxHeartbeats 4000000 in
theorem kJ3R (l : Launch) (D : va_G) (cA : Nat → ClassId) (t : Nat) {i n : Int32} (h0 : ¬ i < 0) (h1 : i < n) : CtI l yJ3_checkIndex_8e157 cJ3_checkIndex_8e157 3 (some .int) 0 0 D cA [] [] [.int i, .int n, .ref t] i := by
  intro sz
  refine Met.ofW (cc := cJ3_checkIndex_8e157) (maxL := 3) (ret := (some .int)) (by decide) rfl ?_
  intro p e s m args below meth c s₁ B hml hv
  obtain ⟨rfl, hsz, hP, hK, hD0⟩ := hv
  subst hsz
  have C : Cx p s m _ meth c D cA cJ3_checkIndex_8e157 3 RJ3 (some .int) := Cx.of B hml hK
  have hD := hD0.self (sz := s.heap.size)
  have hA : ∀ q : Nat, s.heap.size ≤ q → va_A ([] : va_W) s.heap.size q := fun q h => Or.inr h
  have hS : va_S (va_A ([] : va_W) s.heap.size) s.heap s.heap [] := va_S.rf
  have hl := lv_entry ([.int i, .int n, .ref t]) (n := 3) (Nat.le_of_ble_eq_true rfl)
  rw [lg_entry_eq]
  generalize (lg_sl ([.int i, .int n, .ref t]) ++ List.replicate (3 - (lg_sl ([.int i, .int n, .ref t])).length) Slot.unset).toArray = ls at hl ⊢
  obtain ⟨hx, hb, hml, hown, hts, hK, hN, hr, hlk⟩ := id C
  have hl : lv_has ls 3 [(0, .int i), (1, .int n), (2, .ref t)] := hl
  refine lv_iload_n (pc := 0) hx hb dJ3_checkIndex_8e157_0 rfl (lv_at hl 0 rfl) ?_
  refine lv_if_lt (tgt := 9) (pc := 1) hx hb dJ3_checkIndex_8e157_1 (by decide) (fun c1 => absurd c1 h0) (fun _ => ?_)
  refine lv_iload_n (pc := 4) hx hb dJ3_checkIndex_8e157_4 rfl (lv_at hl 0 rfl) ?_
  refine lv_iload_n (pc := 5) hx hb dJ3_checkIndex_8e157_5 rfl (lv_at hl 1 rfl) ?_
  refine lv_icmp_lt (tgt := 16) (pc := 6) hx hb dJ3_checkIndex_8e157_6 (by decide) (fun _ => ?_) (fun c1 => absurd h1 c1)
  refine lv_iload_n (pc := 16) hx hb dJ3_checkIndex_8e157_16 rfl (lv_at hl 0 rfl) ?_
  exact ret_i C hP hD hS dJ3_checkIndex_8e157_17
theorem fl_RJ0_1053 : Cond.fieldLink RJ0 1053 "jdk/internal/util/Preconditions" "SIOOBE_FORMATTER" "Ljava/util/function/BiFunction;" ∈ wsL_law := by decide +kernel
theorem lk_RJ0_1059 : LkS RJ0 1059 yJ3_checkIndex_8e157 cJ3_checkIndex_8e157 3 (some .int) 3 := ⟨⟨by decide +kernel, by decide +kernel, by decide +kernel, by decide +kernel, by decide +kernel, by decide +kernel⟩, by decide +kernel⟩
set_option maxRecDepth 100000 in
set_option maxHeartbeats 4000000 in
theorem kJ0ck (l : Launch) (q v : Nat) (D : va_G) (cA : Nat → ClassId) {i n : Int32} (h0 : ¬ i < 0) (h1 : i < n) : CtTV l yJ0_checkIndex_df160 cJ0_checkIndex_df160 2 none 1 22 q v D cA [] [] [.int i, .int n] := by
  intro sz
  refine Met.ofW (cc := cJ0_checkIndex_df160) (maxL := 2) (ret := none) (by decide) rfl ?_
  intro p e s m args below meth c s₁ B hml hv
  obtain ⟨⟨rfl, hsz, hP, hK, hD0⟩, hStr⟩ := hv
  subst hsz
  have C : Cx p s m _ meth c D cA cJ0_checkIndex_df160 2 RJ0 none := Cx.of B hml hK
  have hD := hD0.self (sz := s.heap.size)
  have hA : ∀ q : Nat, s.heap.size ≤ q → va_A ([] : va_W) s.heap.size q := fun q h => Or.inr h
  have hS : va_S (va_A ([] : va_W) s.heap.size) s.heap s.heap [] := va_S.rf
  have hl := lv_entry ([.int i, .int n]) (n := 2) (Nat.le_of_ble_eq_true rfl)
  rw [lg_entry_eq]
  generalize (lg_sl ([.int i, .int n]) ++ List.replicate (2 - (lg_sl ([.int i, .int n])).length) Slot.unset).toArray = ls at hl ⊢
  obtain ⟨hx, hb, hml, hown, hts, hK, hN, hr, hlk⟩ := id C
  have hl : lv_has ls 2 [(0, .int i), (1, .int n)] := hl
  refine lv_iload_n (pc := 0) hx hb dJ0_checkIndex_df160_0 rfl (lv_at hl 0 rfl) ?_
  refine lv_iload_n (pc := 1) hx hb dJ0_checkIndex_df160_1 rfl (lv_at hl 1 rfl) ?_
  rcases hStr.2.2 with hZ | ⟨t, hZ⟩
  · refine va_gets (pc := 2) hx hb hZ hS hown (hts _ fl_RJ0_1053) (fun _ h9 => h9) dJ0_checkIndex_df160_2 ?_
    refine prt_i (runU_S (pc := 5) (As := [.int i, .int n, .null]) (rest := []) C lk_RJ0_1059 (kJ3N l D cA h0 h1 s.heap.size) ⟨Nat.le_of_ble_eq_true rfl, Nat.le_of_ble_eq_true rfl⟩ ⟨Nat.le_refl _, Nat.le_refl _⟩ em_P (em_D (A := fun _ => True)) hl.1 rfl (Nat.le_of_ble_eq_true rfl) dJ0_checkIndex_df160_5) hP hD hS hA [] rfl (fun H locs hP hD hS => ?_)
    refine lv_pop (pc := 8) hx hb dJ0_checkIndex_df160_8 rfl ?_
    exact ret_v C hP hD hS dJ0_checkIndex_df160_9
  · refine va_gets (pc := 2) hx hb hZ hS hown (hts _ fl_RJ0_1053) (fun _ h9 => h9) dJ0_checkIndex_df160_2 ?_
    refine prt_i (runU_S (pc := 5) (As := [.int i, .int n, .ref t]) (rest := []) C lk_RJ0_1059 (kJ3R l D cA t h0 h1 s.heap.size) ⟨Nat.le_of_ble_eq_true rfl, Nat.le_of_ble_eq_true rfl⟩ ⟨Nat.le_refl _, Nat.le_refl _⟩ em_P (em_D (A := fun _ => True)) hl.1 rfl (Nat.le_of_ble_eq_true rfl) dJ0_checkIndex_df160_5) hP hD hS hA [] rfl (fun H locs hP hD hS => ?_)
    refine lv_pop (pc := 8) hx hb dJ0_checkIndex_df160_8 rfl ?_
    exact ret_v C hP hD hS dJ0_checkIndex_df160_9
theorem lk_RJ1_9 : LkS RJ1 9 yJ0_checkIndex_df160 cJ0_checkIndex_df160 2 none 2 := ⟨⟨by decide +kernel, by decide +kernel, by decide +kernel, by decide +kernel, by decide +kernel, by decide +kernel⟩, by decide +kernel⟩
set_option maxRecDepth 100000 in
set_option maxHeartbeats 4000000 in
theorem kJ1 (l : Launch) (q v : Nat) (D : va_G) (cA : Nat → ClassId) {k : Nat} (hk : k < 34) : CtT l yJ1_charAt_3b067 cJ1_charAt_3b067 2 (some .char) 2 43 q v D cA [] [] [.ref v, .int (nI k)] (chS k) := by
  intro sz
  refine Met.ofW (cc := cJ1_charAt_3b067) (maxL := 2) (ret := (some .char)) (by decide) rfl ?_
  intro p e s m args below meth c s₁ B hml hv
  obtain ⟨⟨rfl, hsz, hP, hK, hD0⟩, hStr⟩ := hv
  subst hsz
  have C : Cx p s m _ meth c D cA cJ1_charAt_3b067 2 RJ1 (some .char) := Cx.of B hml hK
  have hD := hD0.self (sz := s.heap.size)
  have hA : ∀ q : Nat, s.heap.size ≤ q → va_A ([] : va_W) s.heap.size q := fun q h => Or.inr h
  have hS : va_S (va_A ([] : va_W) s.heap.size) s.heap s.heap [] := va_S.rf
  have hl := lv_entry ([.ref v, .int (nI k)]) (n := 2) (Nat.le_of_ble_eq_true rfl)
  rw [lg_entry_eq]
  generalize (lg_sl ([.ref v, .int (nI k)]) ++ List.replicate (2 - (lg_sl ([.ref v, .int (nI k)])).length) Slot.unset).toArray = ls at hl ⊢
  obtain ⟨hx, hb, hml, hown, hts, hK, hN, hr, hlk⟩ := id C
  have hl : lv_has ls 2 [(0, .ref v), (1, .int (nI k))] := hl
  obtain ⟨ek, nk⟩ := chS_ok k hk
  have hT : va_T .byte v 34 (fun j => .int (chS j)) _ s s.heap := (hStr.1.1 0 (by decide)).2.2.2
  refine lv_iload_n (pc := 0) hx hb dJ1_charAt_3b067_0 rfl (lv_at hl 1 rfl) ?_
  refine lv_aload_n (pc := 1) hx hb dJ1_charAt_3b067_1 rfl (lv_at hl 0 rfl) ?_
  refine va_tlen (pc := 2) (v := 34) hx hb hT hS rfl dJ1_charAt_3b067_2 ?_
  refine prt_v (runT_S (pc := 3) (As := [.int (nI k), .int 34]) (rest := []) hStr hS (em_F hS hA) C lk_RJ1_9 (kJ0ck l q v D cA (nI_pos (by omega)) (nI_lt (a := k) (b := 34) hk (by decide)) s.heap.size) ⟨Nat.le_of_ble_eq_true rfl, Nat.le_of_ble_eq_true rfl⟩ ⟨Nat.le_refl _, Nat.le_refl _⟩ em_P em_D hl.1 rfl (Nat.le_of_ble_eq_true rfl) dJ1_charAt_3b067_3) hP hD hS hA [] rfl (fun H locs hP hD hS => ?_)
  refine lv_aload_n (pc := 6) hx hb dJ1_charAt_3b067_6 rfl (lv_at hl 0 rfl) ?_
  refine lv_iload_n (pc := 7) hx hb dJ1_charAt_3b067_7 rfl (lv_at hl 1 rfl) ?_
  refine va_tb (pc := 8) (v := .int (chS k)) hx hb hT hS (vp_in_nI hk (by decide)) (by show Value.int (chS (nI k).toNatClampNeg) = _; rw [nI_clamp (by omega)]) dJ1_charAt_3b067_8 ?_
  refine lv_sipush (v := (255 : Int32)) (pc := 9) hx hb dJ1_charAt_3b067_9 (by decide) ?_
  refine lv_iand (pc := 12) hx hb dJ1_charAt_3b067_12 ?_
  refine lv_i2c (v := chS k) (pc := 13) hx hb dJ1_charAt_3b067_13 ek ?_
  exact ret_c C nk hP hD hS dJ1_charAt_3b067_14
theorem fl_RJ0_38 : Cond.fieldLink RJ0 38 "java/lang/String" "COMPACT_STRINGS" "Z" ∈ wsL_law := by decide +kernel
theorem fl_RJ0_15 : Cond.fieldLink RJ0 15 "java/lang/String" "coder" "B" ∈ wsL_law := by decide +kernel
theorem fl_RJ0_9 : Cond.fieldLink RJ0 9 "java/lang/String" "value" "[B" ∈ wsL_law := by decide +kernel
set_option maxRecDepth 100000 in
set_option maxHeartbeats 4000000 in
theorem kJ0cd (l : Launch) (q v : Nat) (D : va_G) (cA : Nat → ClassId) : CtT l yJ0_coder_7d493 cJ0_coder_7d493 1 (some .byte) 0 0 q v D cA [] [] [.ref q] 0 := by
  intro sz
  refine Met.ofW (cc := cJ0_coder_7d493) (maxL := 1) (ret := (some .byte)) (by decide) rfl ?_
  intro p e s m args below meth c s₁ B hml hv
  obtain ⟨⟨rfl, hsz, hP, hK, hD0⟩, hStr⟩ := hv
  subst hsz
  have C : Cx p s m _ meth c D cA cJ0_coder_7d493 1 RJ0 (some .byte) := Cx.of B hml hK
  have hD := hD0.self (sz := s.heap.size)
  have hA : ∀ q : Nat, s.heap.size ≤ q → va_A ([] : va_W) s.heap.size q := fun q h => Or.inr h
  have hS : va_S (va_A ([] : va_W) s.heap.size) s.heap s.heap [] := va_S.rf
  have hl := lv_entry ([.ref q]) (n := 1) (Nat.le_of_ble_eq_true rfl)
  rw [lg_entry_eq]
  generalize (lg_sl ([.ref q]) ++ List.replicate (1 - (lg_sl ([.ref q])).length) Slot.unset).toArray = ls at hl ⊢
  obtain ⟨hx, hb, hml, hown, hts, hK, hN, hr, hlk⟩ := id C
  have hl : lv_has ls 1 [(0, .ref q)] := hl
  refine va_gets (pc := 0) hx hb hStr.2.1 hS hown (hts _ fl_RJ0_38) (fun _ h9 => h9) dJ0_coder_7d493_0 ?_
  refine lv_if_eq (tgt := 13) (pc := 3) hx hb dJ0_coder_7d493_3 (by decide) (fun c1 => absurd c1 (by decide)) (fun _ => ?_)
  refine lv_aload_n (pc := 6) hx hb dJ0_coder_7d493_6 rfl (lv_at hl 0 rfl) ?_
  refine vk_getf (pc := 7) hx hb (hStr.1.1 0 (by decide)).2.1 hS hown (hts _ fl_RJ0_15) (fun _ h9 => h9) dJ0_coder_7d493_7 ?_
  refine lv_goto (tgt := 14) (pc := 10) hx hb dJ0_coder_7d493_10 (by decide) ?_
  exact ret_c C (by decide) hP hD hS dJ0_coder_7d493_14
set_option maxRecDepth 100000 in
set_option maxHeartbeats 4000000 in
theorem kJ0il (l : Launch) (q v : Nat) (D : va_G) (cA : Nat → ClassId) : CtT l yJ0_isLatin1_aae02 cJ0_isLatin1_aae02 1 (some .boolean) 0 0 q v D cA [] [] [.ref q] 1 := by
  intro sz
  refine Met.ofW (cc := cJ0_isLatin1_aae02) (maxL := 1) (ret := (some .boolean)) (by decide) rfl ?_
  intro p e s m args below meth c s₁ B hml hv
  obtain ⟨⟨rfl, hsz, hP, hK, hD0⟩, hStr⟩ := hv
  subst hsz
  have C : Cx p s m _ meth c D cA cJ0_isLatin1_aae02 1 RJ0 (some .boolean) := Cx.of B hml hK
  have hD := hD0.self (sz := s.heap.size)
  have hA : ∀ q : Nat, s.heap.size ≤ q → va_A ([] : va_W) s.heap.size q := fun q h => Or.inr h
  have hS : va_S (va_A ([] : va_W) s.heap.size) s.heap s.heap [] := va_S.rf
  have hl := lv_entry ([.ref q]) (n := 1) (Nat.le_of_ble_eq_true rfl)
  rw [lg_entry_eq]
  generalize (lg_sl ([.ref q]) ++ List.replicate (1 - (lg_sl ([.ref q])).length) Slot.unset).toArray = ls at hl ⊢
  obtain ⟨hx, hb, hml, hown, hts, hK, hN, hr, hlk⟩ := id C
  have hl : lv_has ls 1 [(0, .ref q)] := hl
  refine va_gets (pc := 0) hx hb hStr.2.1 hS hown (hts _ fl_RJ0_38) (fun _ h9 => h9) dJ0_isLatin1_aae02_0 ?_
  refine lv_if_eq (tgt := 17) (pc := 3) hx hb dJ0_isLatin1_aae02_3 (by decide) (fun c1 => absurd c1 (by decide)) (fun _ => ?_)
  refine lv_aload_n (pc := 6) hx hb dJ0_isLatin1_aae02_6 rfl (lv_at hl 0 rfl) ?_
  refine vk_getf (pc := 7) hx hb (hStr.1.1 0 (by decide)).2.1 hS hown (hts _ fl_RJ0_15) (fun _ h9 => h9) dJ0_isLatin1_aae02_7 ?_
  refine lv_if_ne (tgt := 17) (pc := 10) hx hb dJ0_isLatin1_aae02_10 (by decide) (fun c1 => absurd rfl c1) (fun _ => ?_)
  refine lv_iconst (v := (1 : Int32)) (pc := 13) hx hb dJ0_isLatin1_aae02_13 (by decide) ?_
  refine lv_goto (tgt := 18) (pc := 14) hx hb dJ0_isLatin1_aae02_14 (by decide) ?_
  exact ret_c C (by decide) hP hD hS dJ0_isLatin1_aae02_18
theorem lk_RJ0_335 : LkV RJ0 335 yJ0_coder_7d493 cJ0_coder_7d493 1 (some .byte) 0 := ⟨⟨by decide +kernel, by decide +kernel, by decide +kernel, by decide +kernel, by decide +kernel, by decide +kernel⟩, by decide +kernel, by decide +kernel⟩
theorem lk_RJ0_492 : LkV RJ0 492 yJ0_isLatin1_aae02 cJ0_isLatin1_aae02 1 (some .boolean) 0 := ⟨⟨by decide +kernel, by decide +kernel, by decide +kernel, by decide +kernel, by decide +kernel, by decide +kernel⟩, by decide +kernel, by decide +kernel⟩
theorem lk_RJ0_495 : LkS RJ0 495 yJ1_charAt_3b067 cJ1_charAt_3b067 2 (some .char) 2 := ⟨⟨by decide +kernel, by decide +kernel, by decide +kernel, by decide +kernel, by decide +kernel, by decide +kernel⟩, by decide +kernel⟩
set_option maxRecDepth 100000 in
set_option maxHeartbeats 4000000 in
theorem kJ0len (l : Launch) (q v : Nat) (D : va_G) (cA : Nat → ClassId) : CtT l yJ0_length_8abf5 cJ0_length_8abf5 1 (some .int) 1 20 q v D cA [] [] [.ref q] 34 := by
  intro sz
  refine Met.ofW (cc := cJ0_length_8abf5) (maxL := 1) (ret := (some .int)) (by decide) rfl ?_
  intro p e s m args below meth c s₁ B hml hv
  obtain ⟨⟨rfl, hsz, hP, hK, hD0⟩, hStr⟩ := hv
  subst hsz
  have C : Cx p s m _ meth c D cA cJ0_length_8abf5 1 RJ0 (some .int) := Cx.of B hml hK
  have hD := hD0.self (sz := s.heap.size)
  have hA : ∀ q : Nat, s.heap.size ≤ q → va_A ([] : va_W) s.heap.size q := fun q h => Or.inr h
  have hS : va_S (va_A ([] : va_W) s.heap.size) s.heap s.heap [] := va_S.rf
  have hl := lv_entry ([.ref q]) (n := 1) (Nat.le_of_ble_eq_true rfl)
  rw [lg_entry_eq]
  generalize (lg_sl ([.ref q]) ++ List.replicate (1 - (lg_sl ([.ref q])).length) Slot.unset).toArray = ls at hl ⊢
  obtain ⟨hx, hb, hml, hown, hts, hK, hN, hr, hlk⟩ := id C
  have hl : lv_has ls 1 [(0, .ref q)] := hl
  have hT : va_T .byte v 34 (fun j => .int (chS j)) _ s s.heap := (hStr.1.1 0 (by decide)).2.2.2
  refine lv_aload_n (pc := 0) hx hb dJ0_length_8abf5_0 rfl (lv_at hl 0 rfl) ?_
  refine vk_getf (pc := 1) hx hb (hStr.1.1 0 (by decide)).2.2.1 hS hown (hts _ fl_RJ0_9) (fun _ h9 => h9) dJ0_length_8abf5_1 ?_
  refine va_tlen (pc := 4) (v := 34) hx hb hT hS rfl dJ0_length_8abf5_4 ?_
  refine lv_aload_n (pc := 5) hx hb dJ0_length_8abf5_5 rfl (lv_at hl 0 rfl) ?_
  refine prt_i (runT_V (pc := 6) (As := []) (b := q) (rest := [.int 34]) hStr hS (em_F hS hA) C lk_RJ0_335 (vk_recv hStr.1 (i := 0) (by decide) hS) (kJ0cd l q v D cA s.heap.size) ⟨Nat.le_of_ble_eq_true rfl, Nat.le_of_ble_eq_true rfl⟩ ⟨Nat.le_refl _, Nat.le_refl _⟩ em_P em_D hl.1 rfl (Nat.le_of_ble_eq_true rfl) dJ0_length_8abf5_6) hP hD hS hA [] rfl (fun H locs hP hD hS => ?_)
  refine lv_ishr (pc := 9) hx hb dJ0_length_8abf5_9 ?_
  exact ret_i C hP hD hS dJ0_length_8abf5_10
set_option maxRecDepth 100000 in
set_option maxHeartbeats 4000000 in
theorem kJ0cha (l : Launch) (q v : Nat) (D : va_G) (cA : Nat → ClassId) {k : Nat} (hk : k < 34) : CtT l yJ0_charAt_5068e cJ0_charAt_5068e 2 (some .char) 3 64 q v D cA [] [] [.ref q, .int (nI k)] (chS k) := by
  intro sz
  refine Met.ofW (cc := cJ0_charAt_5068e) (maxL := 2) (ret := (some .char)) (by decide) rfl ?_
  intro p e s m args below meth c s₁ B hml hv
  obtain ⟨⟨rfl, hsz, hP, hK, hD0⟩, hStr⟩ := hv
  subst hsz
  have C : Cx p s m _ meth c D cA cJ0_charAt_5068e 2 RJ0 (some .char) := Cx.of B hml hK
  have hD := hD0.self (sz := s.heap.size)
  have hA : ∀ q : Nat, s.heap.size ≤ q → va_A ([] : va_W) s.heap.size q := fun q h => Or.inr h
  have hS : va_S (va_A ([] : va_W) s.heap.size) s.heap s.heap [] := va_S.rf
  have hl := lv_entry ([.ref q, .int (nI k)]) (n := 2) (Nat.le_of_ble_eq_true rfl)
  rw [lg_entry_eq]
  generalize (lg_sl ([.ref q, .int (nI k)]) ++ List.replicate (2 - (lg_sl ([.ref q, .int (nI k)])).length) Slot.unset).toArray = ls at hl ⊢
  obtain ⟨hx, hb, hml, hown, hts, hK, hN, hr, hlk⟩ := id C
  have hl : lv_has ls 2 [(0, .ref q), (1, .int (nI k))] := hl
  refine lv_aload_n (pc := 0) hx hb dJ0_charAt_5068e_0 rfl (lv_at hl 0 rfl) ?_
  refine prt_i (runT_V (pc := 1) (As := []) (b := q) (rest := []) hStr hS (em_F hS hA) C lk_RJ0_492 (vk_recv hStr.1 (i := 0) (by decide) hS) (kJ0il l q v D cA s.heap.size) ⟨Nat.le_of_ble_eq_true rfl, Nat.le_of_ble_eq_true rfl⟩ ⟨Nat.le_refl _, Nat.le_refl _⟩ em_P em_D hl.1 rfl (Nat.le_of_ble_eq_true rfl) dJ0_charAt_5068e_1) hP hD hS hA [] rfl (fun H locs hP hD hS => ?_)
  refine lv_if_eq (tgt := 16) (pc := 4) hx hb dJ0_charAt_5068e_4 (by decide) (fun c1 => absurd c1 (by decide)) (fun _ => ?_)
  refine lv_aload_n (pc := 7) hx hb dJ0_charAt_5068e_7 rfl (lv_at hl 0 rfl) ?_
  refine vk_getf (pc := 8) hx hb (hStr.1.1 0 (by decide)).2.2.1 hS hown (hts _ fl_RJ0_9) (fun _ h9 => h9) dJ0_charAt_5068e_8 ?_
  refine lv_iload_n (pc := 11) hx hb dJ0_charAt_5068e_11 rfl (lv_at hl 1 rfl) ?_
  refine prt_i (runT_S (pc := 12) (As := [.ref v, .int (nI k)]) (rest := []) hStr hS (em_F hS hA) C lk_RJ0_495 (kJ1 l q v D cA hk H.size) ⟨Nat.le_of_ble_eq_true rfl, Nat.le_of_ble_eq_true rfl⟩ ⟨Nat.le_refl _, Nat.le_refl _⟩ em_P em_D hl.1 rfl (Nat.le_of_ble_eq_true rfl) dJ0_charAt_5068e_12) hP hD hS hA [] rfl (fun H locs hP hD hS => ?_)
  exact ret_c C (chS_ok k hk).2 hP hD hS dJ0_charAt_5068e_15
theorem lk_RX7_17 : LkV RX7 17 yX7_clear cX7_clear 1 none 0 := ⟨⟨by decide +kernel, by decide +kernel, by decide +kernel, by decide +kernel, by decide +kernel, by decide +kernel⟩, by decide +kernel, by decide +kernel⟩
theorem lk_RX7_20 : LkV RX7 20 yJ0_length_8abf5 cJ0_length_8abf5 1 (some .int) 0 := ⟨⟨by decide +kernel, by decide +kernel, by decide +kernel, by decide +kernel, by decide +kernel, by decide +kernel⟩, by decide +kernel, by decide +kernel⟩
theorem lk_RX7_25 : LkV RX7 25 yJ0_charAt_5068e cJ0_charAt_5068e 2 (some .char) 1 := ⟨⟨by decide +kernel, by decide +kernel, by decide +kernel, by decide +kernel, by decide +kernel, by decide +kernel⟩, by decide +kernel, by decide +kernel⟩
theorem lk_RX7_29 : LkV RX7 29 yX7_append cX7_append 2 (some .boolean) 1 := ⟨⟨by decide +kernel, by decide +kernel, by decide +kernel, by decide +kernel, by decide +kernel, by decide +kernel⟩, by decide +kernel, by decide +kernel⟩
def cpF (N : Nat) : Nat → Nat → St → Option St
  | 0, _, S => some S
  | r + 1, k, S => Option.bind (fX7_append N S (chS k)) (fun q => cpF N r (k + 1) q.2)
def fX7_copyFrom (N : Nat) (S : St) : Option St := Option.bind (fX7_clear N S) (fun q => cpF N 34 0 q)
set_option maxRecDepth 100000 in
set_option maxHeartbeats 4000000 in
theorem wX7_copyFrom_6 (C : Cx p s m args meth c D cA cX7_copyFrom 3 RX7 none) (hA : ∀ q : Nat, s.heap.size ≤ q → A q) (hStr : StrA q v A s s.heap) {N : Nat} {z : St} : ∀ (r i : Nat) (S : St), i + r = 34 → cpF N r i S = some z → ∀ (H : Heap) (locs : List Loc) (ls : Array Slot), va_P D vwCl (w_T cA a S) H → va_D A (w_T cA a S) → va_S A s.heap H locs → lv_has ls 3 [(0, .ref (a 0)), (1, .ref q), (2, .int (nI i))] → W p l e (rmU 4 85 0 0) s m args below meth c H locs 0 0 (MQ below (QV D A (w_T cA a z)) args s 0 0 A) (F0 m 6 ls []) := by
  obtain ⟨hx, hb, hml, hown, hts, hK, hN, hr, hlk⟩ := id C
  intro r
  induction r with
  | zero =>
    intro i S hi hf H locs ls hP hD hS hl
    have hf : some S = some z := hf
    cases hf
    refine lv_iload_n (pc := 6) hx hb dX7_copyFrom_6 rfl (lv_at hl 2 rfl) ?_
    refine lv_aload_n (pc := 7) hx hb dX7_copyFrom_7 rfl (lv_at hl 1 rfl) ?_
    refine prt_i (runT_V (pc := 8) (As := []) (b := q) (rest := [.int (nI i)]) hStr hS (em_F hS hA) C lk_RX7_20 (vk_recv hStr.1 (i := 0) (by decide) hS) (kJ0len l q v D cA H.size) ⟨Nat.le_of_ble_eq_true rfl, Nat.le_of_ble_eq_true rfl⟩ ⟨Nat.le_refl _, Nat.le_refl _⟩ em_P em_D hl.1 rfl (Nat.le_of_ble_eq_true rfl) dX7_copyFrom_8) hP hD hS hA [] rfl (fun H locs hP hD hS => ?_)
    refine lv_icmp_ge (tgt := 30) (pc := 11) hx hb dX7_copyFrom_11 (by decide) (fun _ => ?_) (fun c1 => absurd (nI_le (a := 34) (b := i) (by omega) (by omega)) c1)
    exact ret_v C hP hD hS dX7_copyFrom_30
  | succ r ih =>
    intro i S hi hf H locs ls hP hD hS hl
    have hf : Option.bind (fX7_append N S (chS i)) (fun q => cpF N r (i + 1) q.2) = some z := hf
    refine lv_iload_n (pc := 6) hx hb dX7_copyFrom_6 rfl (lv_at hl 2 rfl) ?_
    refine lv_aload_n (pc := 7) hx hb dX7_copyFrom_7 rfl (lv_at hl 1 rfl) ?_
    refine prt_i (runT_V (pc := 8) (As := []) (b := q) (rest := [.int (nI i)]) hStr hS (em_F hS hA) C lk_RX7_20 (vk_recv hStr.1 (i := 0) (by decide) hS) (kJ0len l q v D cA H.size) ⟨Nat.le_of_ble_eq_true rfl, Nat.le_of_ble_eq_true rfl⟩ ⟨Nat.le_refl _, Nat.le_refl _⟩ em_P em_D hl.1 rfl (Nat.le_of_ble_eq_true rfl) dX7_copyFrom_8) hP hD hS hA [] rfl (fun H locs hP hD hS => ?_)
    refine lv_icmp_ge (tgt := 30) (pc := 11) hx hb dX7_copyFrom_11 (by decide) (fun c1 => absurd c1 (nI_ge (a := i) (b := 34) (by omega) (by decide))) (fun _ => ?_)
    refine lv_aload_n (pc := 14) hx hb dX7_copyFrom_14 rfl (lv_at hl 0 rfl) ?_
    refine lv_aload_n (pc := 15) hx hb dX7_copyFrom_15 rfl (lv_at hl 1 rfl) ?_
    refine lv_iload_n (pc := 16) hx hb dX7_copyFrom_16 rfl (lv_at hl 2 rfl) ?_
    refine prt_i (runT_V (pc := 17) (As := [.int (nI i)]) (b := q) (rest := [.ref (a 0)]) hStr hS (em_F hS hA) C lk_RX7_25 (vk_recv hStr.1 (i := 0) (by decide) hS) (kJ0cha l q v D cA (k := i) (by omega) H.size) ⟨Nat.le_of_ble_eq_true rfl, Nat.le_of_ble_eq_true rfl⟩ ⟨Nat.le_refl _, Nat.le_refl _⟩ em_P em_D hl.1 rfl (Nat.le_of_ble_eq_true rfl) dX7_copyFrom_17) hP hD hS hA [] rfl (fun H locs hP hD hS => ?_)
    obtain ⟨q1, hq1, hf⟩ := pt_b hf
    refine all_i (runU_V (pc := 20) (As := [.int (chS i)]) (b := a 0) (rest := []) (ci := 6) (q0 := 0) C lk_RX7_29 (kX7_append l D cA a hq1 H.size) ⟨Nat.le_of_ble_eq_true rfl, Nat.le_of_ble_eq_true rfl⟩ ⟨Nat.le_refl _, Nat.le_refl _⟩ hP hD rfl rfl rfl hl.1 rfl (Nat.le_of_ble_eq_true rfl) dX7_copyFrom_20) hD hS hA (fun H locs hP hD hS => ?_)
    refine lv_pop (pc := 23) hx hb dX7_copyFrom_23 rfl ?_
    refine lv_iinc (v := nI (i + 1)) (lv' := [(2, .int (nI (i + 1))), (0, .ref (a 0)), (1, .ref q)]) (pc := 24) hx hb dX7_copyFrom_24 hl (k := 2) rfl (nI_1 i) (by decide) rfl (fun ls hl => ?_)
    refine lv_goto (tgt := 6) (pc := 27) hx hb dX7_copyFrom_27 (by decide) ?_
    exact ih (i + 1) q1.2 (by omega) hf _ _ _ hP hD hS (lv_sub hl [1, 2, 0] rfl)
set_option maxRecDepth 100000 in
set_option maxHeartbeats 4000000 in
theorem kX7_copyFrom (l : Launch) (q v : Nat) (D : va_G) (cA : Nat → ClassId) (a : Nat → Nat) {N : Nat} {S z : St} (hf : fX7_copyFrom N S = some z) : CtTV l yX7_copyFrom cX7_copyFrom 3 none 4 85 q v D cA (w_T cA a S) (w_T cA a z) [.ref (a 0), .ref q] := by
  intro sz
  refine Met.ofW (cc := cX7_copyFrom) (maxL := 3) (ret := none) (by decide) rfl ?_
  intro p e s m args below meth c s₁ B hml hv
  obtain ⟨⟨rfl, hsz, hP, hK, hD0⟩, hStr⟩ := hv
  subst hsz
  have C : Cx p s m _ meth c D cA cX7_copyFrom 3 RX7 none := Cx.of B hml hK
  have hD := hD0.self (sz := s.heap.size)
  have hA : ∀ q : Nat, s.heap.size ≤ q → va_A (w_T cA a S) s.heap.size q := fun q h => Or.inr h
  have hS : va_S (va_A (w_T cA a S) s.heap.size) s.heap s.heap [] := va_S.rf
  have hl := lv_entry ([.ref (a 0), .ref q]) (n := 3) (Nat.le_of_ble_eq_true rfl)
  rw [lg_entry_eq]
  generalize (lg_sl ([.ref (a 0), .ref q]) ++ List.replicate (3 - (lg_sl ([.ref (a 0), .ref q])).length) Slot.unset).toArray = ls at hl ⊢
  obtain ⟨hx, hb, hml, hown, hts, hK, hN, hr, hlk⟩ := id C
  have hl : lv_has ls 3 [(0, .ref (a 0)), (1, .ref q)] := hl
  unfold fX7_copyFrom at hf
  refine lv_aload_n (pc := 0) hx hb dX7_copyFrom_0 rfl (lv_at hl 0 rfl) ?_
  obtain ⟨q1, hq1, hf⟩ := pt_b hf
  refine all_v (runU_V (pc := 1) (As := []) (b := a 0) (rest := []) (ci := 6) (q0 := 0) C lk_RX7_17 (kX7_clear l D cA a hq1 s.heap.size) ⟨Nat.le_of_ble_eq_true rfl, Nat.le_of_ble_eq_true rfl⟩ ⟨Nat.le_refl _, Nat.le_refl _⟩ hP hD rfl rfl rfl hl.1 rfl (Nat.le_of_ble_eq_true rfl) dX7_copyFrom_1) hD hS hA (fun H locs hP hD hS => ?_)
  refine lv_iconst (v := nI 0) (pc := 4) hx hb dX7_copyFrom_4 (by decide) ?_
  refine lv_istore_n (lv' := [(2, .int (nI 0)), (0, .ref (a 0)), (1, .ref q)]) (pc := 5) hx hb dX7_copyFrom_5 rfl hl (by decide) rfl (fun ls hl => ?_)
  exact wX7_copyFrom_6 C hA hStr 34 0 q1 rfl hf _ _ _ hP hD hS (lv_sub hl [1, 2, 0] rfl)
end PStr
