section PCtor
variable {p : Program} {l : Launch} {e : Env} {R : Room} {s : State} {m : MethodId} {args : Array Value} {below : List Frame} {meth : Method} {c : Code} {H : Heap} {locs : List Loc} {cells slots : Nat} {Q : State → Prop}
variable {D : va_G} {cA : Nat → ClassId} {cc : ByteArray} {nL : Nat} {own : String} {ret : Option FieldType} {pc : Nat} {ls : Array Slot} {rest : List Value} {A : Nat → Prop} {a b d : Nat → Nat} {S T U : St}
theorem lo_RX0 : Cond.methodLink RX0 3 objectInit ∈ wsL_law := by decide +kernel
set_option maxRecDepth 100000 in
set_option maxHeartbeats 4000000 in
theorem nX0_init (l : Launch) (D : va_G) (cA : Nat → ClassId) (h : Nat) : CtN l yX0_init cX0_init 1 1 12 1 10 (fun _ => True) D cA [(h, .inr (0, [.int 0, .null]))] (fun u => w_F cA u zS) h := by
  intro sz
  refine Met.ofW (cc := cX0_init) (maxL := 1) (ret := none) (by decide) rfl ?_
  intro p e s m args below meth c s₁ B hml hv
  obtain ⟨⟨rfl, hsz, hP, hKN, hD0⟩, hO⟩ := hv
  subst hsz
  have C : Cx p s m _ meth c D cA cX0_init 1 RX0 none := Cx.of B hml hKN
  have hin : meth.name = "<init>" := (name_of_methodNamed B.named B.method).1
  have hD := hD0.self (sz := s.heap.size)
  generalize hAe : va_A [(h, .inr (0, [.int 0, .null]))] s.heap.size = A at hD ⊢
  have hA : ∀ q : Nat, s.heap.size ≤ q → A q := fun q h => by rw [← hAe]; exact Or.inr h
  have hS : va_S A s.heap s.heap [] := va_S.rf
  have hl := lv_entry ([.ref h]) (n := 1) (Nat.le_of_ble_eq_true rfl)
  rw [lg_entry_eq]
  generalize (lg_sl ([.ref h]) ++ List.replicate (1 - (lg_sl ([.ref h])).length) Slot.unset).toArray = ls at hl ⊢
  have hl : lv_has ls 1 [(0, .ref h)] := hl
  obtain ⟨hx, hb, hml, hown, hts, hK, hN, hr, hlk⟩ := id C
  refine lv_aload_n (pc := 0) hx hb dX0_init_0 rfl (lv_at hl 0 rfl) ?_
  refine W.objInit hx hb hown (hts _ lo_RX0) (hts _ ob_1) (hts _ ob_2) rfl (hl.1.trans hml.symm) rfl dX0_init_1 (Nat.le_of_ble_eq_true rfl) (Nat.le_of_ble_eq_true rfl) ?_
  refine W.eq (g2 := F0 m 4 ls []) rfl ?_
  refine lv_aload_n (pc := 4) hx hb dX0_init_4 rfl (lv_at hl 0 rfl) ?_
  refine lv_iconst (v := (0 : Int32)) (pc := 5) hx hb dX0_init_5 (by decide) ?_
  refine va_put (D := D) (pc := 6) (ci := 0) (v := .int (0 : Int32)) (ty := .int) (C := RX0) (T := TX0) (N := 2) hx hb hts inlX0 tyX0 tyX0_ok nmX0 hown hK hP hD hS 0 rfl rfl 0 (by decide) (hts _ fl_RX0_9) (fun _ h9 => h9) rfl (by decide +kernel) rfl rfl (Nat.le_of_ble_eq_true rfl) dX0_init_6 (fun H locs hP hD hS => ?_)
  have hP : va_P D vwCl [(h, .inr (0, [.int (0 : Int32), .null]))] _ := hP
  have hD : va_D A [(h, .inr (0, [.int (0 : Int32), .null]))] := hD
  refine lv_aload_n (pc := 9) hx hb dX0_init_9 rfl (lv_at hl 0 rfl) ?_
  refine lv_bipush (v := (10 : Int32)) (pc := 10) hx hb dX0_init_10 (by decide) ?_
  refine newA (pc := 12) (k := 0) (N' := 10) (ty := .int) (atype := .int) C hA (by decide) rfl ac_int rfl hP hD hS (by decide) (by decide) (by decide) (Nat.le_of_ble_eq_true rfl) (Nat.le_of_ble_eq_true rfl) dX0_init_12 (fun q1 H hP hD hS => ?_)
  have hP : va_P D vwCl [(h, .inr (0, [.int (0 : Int32), .null])), (q1, .inl (cA 0, 10, .inl (fun _ => 0)))] _ := hP
  have hD : va_D A [(h, .inr (0, [.int (0 : Int32), .null])), (q1, .inl (cA 0, 10, .inl (fun _ => 0)))] := hD
  refine W.widen (k := 1) (n := 10) (Nat.le_of_ble_eq_true rfl) (Nat.le_of_ble_eq_true rfl) ?_
  refine va_putF (D := D) (pc := 14) (ci := 0) (v := .ref q1) (ty := .array .int) (C := RX0) (T := TX0) (N := 2) hx hb hts inlX0 tyX0 tyX0_ok nmX0 hown hK hP hD hS 0 rfl rfl 1 (by decide) (hts _ fl_RX0_15) (fun _ h9 => h9) rfl hin rfl (by decide +kernel) rfl rfl (Nat.le_of_ble_eq_true rfl) dX0_init_14 (fun H locs hP hD hS => ?_)
  have hP : va_P D vwCl [(h, .inr (0, [.int (0 : Int32), .ref q1])), (q1, .inl (cA 0, 10, .inl (fun _ => 0)))] _ := hP
  have hD : va_D A [(h, .inr (0, [.int (0 : Int32), .ref q1])), (q1, .inl (cA 0, 10, .inl (fun _ => 0)))] := hD
  have hP : va_P D vwCl (w_F cA (fun k => [h, q1].getD k 0) zS) _ := hP.sub [0, 1] rfl
  have hD : va_D A (w_F cA (fun k => [h, q1].getD k 0) zS) := hD.sub [0, 1] (by decide) rfl
  exact ret_n (W1 := (fun u => w_F cA u zS)) (fun k => [h, q1].getD k 0) rfl C hP hD hS dX0_init_17
theorem lo_RX7 : Cond.methodLink RX7 1 objectInit ∈ wsL_law := by decide +kernel
set_option maxRecDepth 100000 in
set_option maxHeartbeats 4000000 in
theorem nX7_init (l : Launch) (D : va_G) (cA : Nat → ClassId) (h : Nat) : CtN l yX7_init cX7_init 1 1 12 1 200 (fun _ => True) D cA [(h, .inr (6, [.null, .int 0]))] (fun u => w_T cA u zS) h := by
  intro sz
  refine Met.ofW (cc := cX7_init) (maxL := 1) (ret := none) (by decide) rfl ?_
  intro p e s m args below meth c s₁ B hml hv
  obtain ⟨⟨rfl, hsz, hP, hKN, hD0⟩, hO⟩ := hv
  subst hsz
  have C : Cx p s m _ meth c D cA cX7_init 1 RX7 none := Cx.of B hml hKN
  have hin : meth.name = "<init>" := (name_of_methodNamed B.named B.method).1
  have hD := hD0.self (sz := s.heap.size)
  generalize hAe : va_A [(h, .inr (6, [.null, .int 0]))] s.heap.size = A at hD ⊢
  have hA : ∀ q : Nat, s.heap.size ≤ q → A q := fun q h => by rw [← hAe]; exact Or.inr h
  have hS : va_S A s.heap s.heap [] := va_S.rf
  have hl := lv_entry ([.ref h]) (n := 1) (Nat.le_of_ble_eq_true rfl)
  rw [lg_entry_eq]
  generalize (lg_sl ([.ref h]) ++ List.replicate (1 - (lg_sl ([.ref h])).length) Slot.unset).toArray = ls at hl ⊢
  have hl : lv_has ls 1 [(0, .ref h)] := hl
  obtain ⟨hx, hb, hml, hown, hts, hK, hN, hr, hlk⟩ := id C
  refine lv_aload_n (pc := 0) hx hb dX7_init_0 rfl (lv_at hl 0 rfl) ?_
  refine W.objInit hx hb hown (hts _ lo_RX7) (hts _ ob_1) (hts _ ob_2) rfl (hl.1.trans hml.symm) rfl dX7_init_1 (Nat.le_of_ble_eq_true rfl) (Nat.le_of_ble_eq_true rfl) ?_
  refine W.eq (g2 := F0 m 4 ls []) rfl ?_
  refine lv_aload_n (pc := 4) hx hb dX7_init_4 rfl (lv_at hl 0 rfl) ?_
  refine lv_sipush (v := (200 : Int32)) (pc := 5) hx hb dX7_init_5 (by decide) ?_
  refine newA (pc := 8) (k := 1) (N' := 200) (ty := .byte) (atype := .byte) C hA (by decide) rfl ac_byte rfl hP hD hS (by decide) (by decide) (by decide) (Nat.le_of_ble_eq_true rfl) (Nat.le_of_ble_eq_true rfl) dX7_init_8 (fun q1 H hP hD hS => ?_)
  have hP : va_P D vwCl [(h, .inr (6, [.null, .int 0])), (q1, .inl (cA 1, 200, .inl (fun _ => 0)))] _ := hP
  have hD : va_D A [(h, .inr (6, [.null, .int 0])), (q1, .inl (cA 1, 200, .inl (fun _ => 0)))] := hD
  refine W.widen (k := 1) (n := 200) (Nat.le_of_ble_eq_true rfl) (Nat.le_of_ble_eq_true rfl) ?_
  refine va_putF (D := D) (pc := 10) (ci := 6) (v := .ref q1) (ty := .array .byte) (C := RX7) (T := TX7) (N := 2) hx hb hts inlX7 tyX7 tyX7_ok nmX7 hown hK hP hD hS 0 rfl rfl 0 (by decide) (hts _ fl_RX7_9) (fun _ h9 => h9) rfl hin rfl (by decide +kernel) rfl rfl (Nat.le_of_ble_eq_true rfl) dX7_init_10 (fun H locs hP hD hS => ?_)
  have hP : va_P D vwCl [(h, .inr (6, [.ref q1, .int 0])), (q1, .inl (cA 1, 200, .inl (fun _ => 0)))] _ := hP
  have hD : va_D A [(h, .inr (6, [.ref q1, .int 0])), (q1, .inl (cA 1, 200, .inl (fun _ => 0)))] := hD
  refine lv_aload_n (pc := 13) hx hb dX7_init_13 rfl (lv_at hl 0 rfl) ?_
  refine lv_iconst (v := (0 : Int32)) (pc := 14) hx hb dX7_init_14 (by decide) ?_
  refine va_put (D := D) (pc := 15) (ci := 6) (v := .int (0 : Int32)) (ty := .int) (C := RX7) (T := TX7) (N := 2) hx hb hts inlX7 tyX7 tyX7_ok nmX7 hown hK hP hD hS 0 rfl rfl 1 (by decide) (hts _ fl_RX7_13) (fun _ h9 => h9) rfl (by decide +kernel) rfl rfl (Nat.le_of_ble_eq_true rfl) dX7_init_15 (fun H locs hP hD hS => ?_)
  have hP : va_P D vwCl [(h, .inr (6, [.ref q1, .int (0 : Int32)])), (q1, .inl (cA 1, 200, .inl (fun _ => 0)))] _ := hP
  have hD : va_D A [(h, .inr (6, [.ref q1, .int (0 : Int32)])), (q1, .inl (cA 1, 200, .inl (fun _ => 0)))] := hD
  have hP : va_P D vwCl (w_T cA (fun k => [h, q1].getD k 0) zS) _ := hP.sub [0, 1] rfl
  have hD : va_D A (w_T cA (fun k => [h, q1].getD k 0) zS) := hD.sub [0, 1] (by decide) rfl
  exact ret_n (W1 := (fun u => w_T cA u zS)) (fun k => [h, q1].getD k 0) rfl C hP hD hS dX7_init_18
theorem lo_RX6 : Cond.methodLink RX6 1 objectInit ∈ wsL_law := by decide +kernel
set_option maxRecDepth 100000 in
set_option maxHeartbeats 4000000 in
theorem nX6_init (l : Launch) (D : va_G) (cA : Nat → ClassId) (h : Nat) : CtN l yX6_init cX6_init 1 1 12 1 20 (fun _ => True) D cA [(h, .inr (5, [.null, .int 0]))] (fun u => w_U cA u zS) h := by
  intro sz
  refine Met.ofW (cc := cX6_init) (maxL := 1) (ret := none) (by decide) rfl ?_
  intro p e s m args below meth c s₁ B hml hv
  obtain ⟨⟨rfl, hsz, hP, hKN, hD0⟩, hO⟩ := hv
  subst hsz
  have C : Cx p s m _ meth c D cA cX6_init 1 RX6 none := Cx.of B hml hKN
  have hin : meth.name = "<init>" := (name_of_methodNamed B.named B.method).1
  have hD := hD0.self (sz := s.heap.size)
  generalize hAe : va_A [(h, .inr (5, [.null, .int 0]))] s.heap.size = A at hD ⊢
  have hA : ∀ q : Nat, s.heap.size ≤ q → A q := fun q h => by rw [← hAe]; exact Or.inr h
  have hS : va_S A s.heap s.heap [] := va_S.rf
  have hl := lv_entry ([.ref h]) (n := 1) (Nat.le_of_ble_eq_true rfl)
  rw [lg_entry_eq]
  generalize (lg_sl ([.ref h]) ++ List.replicate (1 - (lg_sl ([.ref h])).length) Slot.unset).toArray = ls at hl ⊢
  have hl : lv_has ls 1 [(0, .ref h)] := hl
  obtain ⟨hx, hb, hml, hown, hts, hK, hN, hr, hlk⟩ := id C
  refine lv_aload_n (pc := 0) hx hb dX6_init_0 rfl (lv_at hl 0 rfl) ?_
  refine W.objInit hx hb hown (hts _ lo_RX6) (hts _ ob_1) (hts _ ob_2) rfl (hl.1.trans hml.symm) rfl dX6_init_1 (Nat.le_of_ble_eq_true rfl) (Nat.le_of_ble_eq_true rfl) ?_
  refine W.eq (g2 := F0 m 4 ls []) rfl ?_
  refine lv_aload_n (pc := 4) hx hb dX6_init_4 rfl (lv_at hl 0 rfl) ?_
  refine lv_bipush (v := (20 : Int32)) (pc := 5) hx hb dX6_init_5 (by decide) ?_
  refine newA (pc := 7) (k := 1) (N' := 20) (ty := .byte) (atype := .byte) C hA (by decide) rfl ac_byte rfl hP hD hS (by decide) (by decide) (by decide) (Nat.le_of_ble_eq_true rfl) (Nat.le_of_ble_eq_true rfl) dX6_init_7 (fun q1 H hP hD hS => ?_)
  have hP : va_P D vwCl [(h, .inr (5, [.null, .int 0])), (q1, .inl (cA 1, 20, .inl (fun _ => 0)))] _ := hP
  have hD : va_D A [(h, .inr (5, [.null, .int 0])), (q1, .inl (cA 1, 20, .inl (fun _ => 0)))] := hD
  refine W.widen (k := 1) (n := 20) (Nat.le_of_ble_eq_true rfl) (Nat.le_of_ble_eq_true rfl) ?_
  refine va_putF (D := D) (pc := 9) (ci := 5) (v := .ref q1) (ty := .array .byte) (C := RX6) (T := TX6) (N := 2) hx hb hts inlX6 tyX6 tyX6_ok nmX6 hown hK hP hD hS 0 rfl rfl 0 (by decide) (hts _ fl_RX6_9) (fun _ h9 => h9) rfl hin rfl (by decide +kernel) rfl rfl (Nat.le_of_ble_eq_true rfl) dX6_init_9 (fun H locs hP hD hS => ?_)
  have hP : va_P D vwCl [(h, .inr (5, [.ref q1, .int 0])), (q1, .inl (cA 1, 20, .inl (fun _ => 0)))] _ := hP
  have hD : va_D A [(h, .inr (5, [.ref q1, .int 0])), (q1, .inl (cA 1, 20, .inl (fun _ => 0)))] := hD
  refine lv_aload_n (pc := 12) hx hb dX6_init_12 rfl (lv_at hl 0 rfl) ?_
  refine lv_iconst (v := (0 : Int32)) (pc := 13) hx hb dX6_init_13 (by decide) ?_
  refine va_put (D := D) (pc := 14) (ci := 5) (v := .int (0 : Int32)) (ty := .int) (C := RX6) (T := TX6) (N := 2) hx hb hts inlX6 tyX6 tyX6_ok nmX6 hown hK hP hD hS 0 rfl rfl 1 (by decide) (hts _ fl_RX6_13) (fun _ h9 => h9) rfl (by decide +kernel) rfl rfl (Nat.le_of_ble_eq_true rfl) dX6_init_14 (fun H locs hP hD hS => ?_)
  have hP : va_P D vwCl [(h, .inr (5, [.ref q1, .int (0 : Int32)])), (q1, .inl (cA 1, 20, .inl (fun _ => 0)))] _ := hP
  have hD : va_D A [(h, .inr (5, [.ref q1, .int (0 : Int32)])), (q1, .inl (cA 1, 20, .inl (fun _ => 0)))] := hD
  have hP : va_P D vwCl (w_U cA (fun k => [h, q1].getD k 0) zS) _ := hP.sub [0, 1] rfl
  have hD : va_D A (w_U cA (fun k => [h, q1].getD k 0) zS) := hD.sub [0, 1] (by decide) rfl
  exact ret_n (W1 := (fun u => w_U cA u zS)) (fun k => [h, q1].getD k 0) rfl C hP hD hS dX6_init_17
theorem lo_RX4 : Cond.methodLink RX4 1 objectInit ∈ wsL_law := by decide +kernel
set_option maxRecDepth 100000 in
set_option maxHeartbeats 4000000 in
theorem nX4_init (l : Launch) (D : va_G) (cA : Nat → ClassId) (h : Nat) : CtN l yX4_init cX4_init 1 1 12 2 16 (fun _ => True) D cA [(h, .inr (3, [.null, .null, .int 0]))] (fun u => w_P cA u zS) h := by
  intro sz
  refine Met.ofW (cc := cX4_init) (maxL := 1) (ret := none) (by decide) rfl ?_
  intro p e s m args below meth c s₁ B hml hv
  obtain ⟨⟨rfl, hsz, hP, hKN, hD0⟩, hO⟩ := hv
  subst hsz
  have C : Cx p s m _ meth c D cA cX4_init 1 RX4 none := Cx.of B hml hKN
  have hin : meth.name = "<init>" := (name_of_methodNamed B.named B.method).1
  have hD := hD0.self (sz := s.heap.size)
  generalize hAe : va_A [(h, .inr (3, [.null, .null, .int 0]))] s.heap.size = A at hD ⊢
  have hA : ∀ q : Nat, s.heap.size ≤ q → A q := fun q h => by rw [← hAe]; exact Or.inr h
  have hS : va_S A s.heap s.heap [] := va_S.rf
  have hl := lv_entry ([.ref h]) (n := 1) (Nat.le_of_ble_eq_true rfl)
  rw [lg_entry_eq]
  generalize (lg_sl ([.ref h]) ++ List.replicate (1 - (lg_sl ([.ref h])).length) Slot.unset).toArray = ls at hl ⊢
  have hl : lv_has ls 1 [(0, .ref h)] := hl
  obtain ⟨hx, hb, hml, hown, hts, hK, hN, hr, hlk⟩ := id C
  refine lv_aload_n (pc := 0) hx hb dX4_init_0 rfl (lv_at hl 0 rfl) ?_
  refine W.objInit hx hb hown (hts _ lo_RX4) (hts _ ob_1) (hts _ ob_2) rfl (hl.1.trans hml.symm) rfl dX4_init_1 (Nat.le_of_ble_eq_true rfl) (Nat.le_of_ble_eq_true rfl) ?_
  refine W.eq (g2 := F0 m 4 ls []) rfl ?_
  refine lv_aload_n (pc := 4) hx hb dX4_init_4 rfl (lv_at hl 0 rfl) ?_
  refine lv_bipush (v := (8 : Int32)) (pc := 5) hx hb dX4_init_5 (by decide) ?_
  refine newA (pc := 7) (k := 0) (N' := 8) (ty := .int) (atype := .int) C hA (by decide) rfl ac_int rfl hP hD hS (by decide) (by decide) (by decide) (Nat.le_of_ble_eq_true rfl) (Nat.le_of_ble_eq_true rfl) dX4_init_7 (fun q1 H hP hD hS => ?_)
  have hP : va_P D vwCl [(h, .inr (3, [.null, .null, .int 0])), (q1, .inl (cA 0, 8, .inl (fun _ => 0)))] _ := hP
  have hD : va_D A [(h, .inr (3, [.null, .null, .int 0])), (q1, .inl (cA 0, 8, .inl (fun _ => 0)))] := hD
  refine W.widen (k := 1) (n := 8) (Nat.le_of_ble_eq_true rfl) (Nat.le_of_ble_eq_true rfl) ?_
  refine va_putF (D := D) (pc := 9) (ci := 3) (v := .ref q1) (ty := .array .int) (C := RX4) (T := TX4) (N := 3) hx hb hts inlX4 tyX4 tyX4_ok nmX4 hown hK hP hD hS 0 rfl rfl 0 (by decide) (hts _ fl_RX4_9) (fun _ h9 => h9) rfl hin rfl (by decide +kernel) rfl rfl (Nat.le_of_ble_eq_true rfl) dX4_init_9 (fun H locs hP hD hS => ?_)
  have hP : va_P D vwCl [(h, .inr (3, [.ref q1, .null, .int 0])), (q1, .inl (cA 0, 8, .inl (fun _ => 0)))] _ := hP
  have hD : va_D A [(h, .inr (3, [.ref q1, .null, .int 0])), (q1, .inl (cA 0, 8, .inl (fun _ => 0)))] := hD
  refine lv_aload_n (pc := 12) hx hb dX4_init_12 rfl (lv_at hl 0 rfl) ?_
  refine lv_bipush (v := (8 : Int32)) (pc := 13) hx hb dX4_init_13 (by decide) ?_
  refine newA (pc := 15) (k := 0) (N' := 8) (ty := .int) (atype := .int) C hA (by decide) rfl ac_int rfl hP hD hS (by decide) (by decide) (by decide) (Nat.le_of_ble_eq_true rfl) (Nat.le_of_ble_eq_true rfl) dX4_init_15 (fun q2 H hP hD hS => ?_)
  have hP : va_P D vwCl [(h, .inr (3, [.ref q1, .null, .int 0])), (q1, .inl (cA 0, 8, .inl (fun _ => 0))), (q2, .inl (cA 0, 8, .inl (fun _ => 0)))] _ := hP
  have hD : va_D A [(h, .inr (3, [.ref q1, .null, .int 0])), (q1, .inl (cA 0, 8, .inl (fun _ => 0))), (q2, .inl (cA 0, 8, .inl (fun _ => 0)))] := hD
  refine W.widen (k := 2) (n := 16) (Nat.le_of_ble_eq_true rfl) (Nat.le_of_ble_eq_true rfl) ?_
  refine va_putF (D := D) (pc := 17) (ci := 3) (v := .ref q2) (ty := .array .int) (C := RX4) (T := TX4) (N := 3) hx hb hts inlX4 tyX4 tyX4_ok nmX4 hown hK hP hD hS 0 rfl rfl 1 (by decide) (hts _ fl_RX4_13) (fun _ h9 => h9) rfl hin rfl (by decide +kernel) rfl rfl (Nat.le_of_ble_eq_true rfl) dX4_init_17 (fun H locs hP hD hS => ?_)
  have hP : va_P D vwCl [(h, .inr (3, [.ref q1, .ref q2, .int 0])), (q1, .inl (cA 0, 8, .inl (fun _ => 0))), (q2, .inl (cA 0, 8, .inl (fun _ => 0)))] _ := hP
  have hD : va_D A [(h, .inr (3, [.ref q1, .ref q2, .int 0])), (q1, .inl (cA 0, 8, .inl (fun _ => 0))), (q2, .inl (cA 0, 8, .inl (fun _ => 0)))] := hD
  refine lv_aload_n (pc := 20) hx hb dX4_init_20 rfl (lv_at hl 0 rfl) ?_
  refine lv_iconst (v := (0 : Int32)) (pc := 21) hx hb dX4_init_21 (by decide) ?_
  refine va_put (D := D) (pc := 22) (ci := 3) (v := .int (0 : Int32)) (ty := .int) (C := RX4) (T := TX4) (N := 3) hx hb hts inlX4 tyX4 tyX4_ok nmX4 hown hK hP hD hS 0 rfl rfl 2 (by decide) (hts _ fl_RX4_16) (fun _ h9 => h9) rfl (by decide +kernel) rfl rfl (Nat.le_of_ble_eq_true rfl) dX4_init_22 (fun H locs hP hD hS => ?_)
  have hP : va_P D vwCl [(h, .inr (3, [.ref q1, .ref q2, .int (0 : Int32)])), (q1, .inl (cA 0, 8, .inl (fun _ => 0))), (q2, .inl (cA 0, 8, .inl (fun _ => 0)))] _ := hP
  have hD : va_D A [(h, .inr (3, [.ref q1, .ref q2, .int (0 : Int32)])), (q1, .inl (cA 0, 8, .inl (fun _ => 0))), (q2, .inl (cA 0, 8, .inl (fun _ => 0)))] := hD
  have hP : va_P D vwCl (w_P cA (fun k => [h, q1, q2].getD k 0) zS) _ := hP.sub [0, 1, 2] rfl
  have hD : va_D A (w_P cA (fun k => [h, q1, q2].getD k 0) zS) := hD.sub [0, 1, 2] (by decide) rfl
  exact ret_n (W1 := (fun u => w_P cA u zS)) (fun k => [h, q1, q2].getD k 0) rfl C hP hD hS dX4_init_25
theorem lo_RX2 : Cond.methodLink RX2 1 objectInit ∈ wsL_law := by decide +kernel
set_option maxRecDepth 100000 in
set_option maxHeartbeats 4000000 in
theorem nX2_init (l : Launch) (D : va_G) (cA : Nat → ClassId) (h : Nat) : CtN l yX2_init cX2_init 1 1 12 2 16 (fun _ => True) D cA [(h, .inr (2, [.null, .null, .int 0]))] (fun u => w_N cA u zS) h := by
  intro sz
  refine Met.ofW (cc := cX2_init) (maxL := 1) (ret := none) (by decide) rfl ?_
  intro p e s m args below meth c s₁ B hml hv
  obtain ⟨⟨rfl, hsz, hP, hKN, hD0⟩, hO⟩ := hv
  subst hsz
  have C : Cx p s m _ meth c D cA cX2_init 1 RX2 none := Cx.of B hml hKN
  have hin : meth.name = "<init>" := (name_of_methodNamed B.named B.method).1
  have hD := hD0.self (sz := s.heap.size)
  generalize hAe : va_A [(h, .inr (2, [.null, .null, .int 0]))] s.heap.size = A at hD ⊢
  have hA : ∀ q : Nat, s.heap.size ≤ q → A q := fun q h => by rw [← hAe]; exact Or.inr h
  have hS : va_S A s.heap s.heap [] := va_S.rf
  have hl := lv_entry ([.ref h]) (n := 1) (Nat.le_of_ble_eq_true rfl)
  rw [lg_entry_eq]
  generalize (lg_sl ([.ref h]) ++ List.replicate (1 - (lg_sl ([.ref h])).length) Slot.unset).toArray = ls at hl ⊢
  have hl : lv_has ls 1 [(0, .ref h)] := hl
  obtain ⟨hx, hb, hml, hown, hts, hK, hN, hr, hlk⟩ := id C
  refine lv_aload_n (pc := 0) hx hb dX2_init_0 rfl (lv_at hl 0 rfl) ?_
  refine W.objInit hx hb hown (hts _ lo_RX2) (hts _ ob_1) (hts _ ob_2) rfl (hl.1.trans hml.symm) rfl dX2_init_1 (Nat.le_of_ble_eq_true rfl) (Nat.le_of_ble_eq_true rfl) ?_
  refine W.eq (g2 := F0 m 4 ls []) rfl ?_
  refine lv_aload_n (pc := 4) hx hb dX2_init_4 rfl (lv_at hl 0 rfl) ?_
  refine lv_bipush (v := (8 : Int32)) (pc := 5) hx hb dX2_init_5 (by decide) ?_
  refine newA (pc := 7) (k := 0) (N' := 8) (ty := .int) (atype := .int) C hA (by decide) rfl ac_int rfl hP hD hS (by decide) (by decide) (by decide) (Nat.le_of_ble_eq_true rfl) (Nat.le_of_ble_eq_true rfl) dX2_init_7 (fun q1 H hP hD hS => ?_)
  have hP : va_P D vwCl [(h, .inr (2, [.null, .null, .int 0])), (q1, .inl (cA 0, 8, .inl (fun _ => 0)))] _ := hP
  have hD : va_D A [(h, .inr (2, [.null, .null, .int 0])), (q1, .inl (cA 0, 8, .inl (fun _ => 0)))] := hD
  refine W.widen (k := 1) (n := 8) (Nat.le_of_ble_eq_true rfl) (Nat.le_of_ble_eq_true rfl) ?_
  refine va_putF (D := D) (pc := 9) (ci := 2) (v := .ref q1) (ty := .array .int) (C := RX2) (T := TX2) (N := 3) hx hb hts inlX2 tyX2 tyX2_ok nmX2 hown hK hP hD hS 0 rfl rfl 0 (by decide) (hts _ fl_RX2_9) (fun _ h9 => h9) rfl hin rfl (by decide +kernel) rfl rfl (Nat.le_of_ble_eq_true rfl) dX2_init_9 (fun H locs hP hD hS => ?_)
  have hP : va_P D vwCl [(h, .inr (2, [.ref q1, .null, .int 0])), (q1, .inl (cA 0, 8, .inl (fun _ => 0)))] _ := hP
  have hD : va_D A [(h, .inr (2, [.ref q1, .null, .int 0])), (q1, .inl (cA 0, 8, .inl (fun _ => 0)))] := hD
  refine lv_aload_n (pc := 12) hx hb dX2_init_12 rfl (lv_at hl 0 rfl) ?_
  refine lv_bipush (v := (8 : Int32)) (pc := 13) hx hb dX2_init_13 (by decide) ?_
  refine newA (pc := 15) (k := 0) (N' := 8) (ty := .int) (atype := .int) C hA (by decide) rfl ac_int rfl hP hD hS (by decide) (by decide) (by decide) (Nat.le_of_ble_eq_true rfl) (Nat.le_of_ble_eq_true rfl) dX2_init_15 (fun q2 H hP hD hS => ?_)
  have hP : va_P D vwCl [(h, .inr (2, [.ref q1, .null, .int 0])), (q1, .inl (cA 0, 8, .inl (fun _ => 0))), (q2, .inl (cA 0, 8, .inl (fun _ => 0)))] _ := hP
  have hD : va_D A [(h, .inr (2, [.ref q1, .null, .int 0])), (q1, .inl (cA 0, 8, .inl (fun _ => 0))), (q2, .inl (cA 0, 8, .inl (fun _ => 0)))] := hD
  refine W.widen (k := 2) (n := 16) (Nat.le_of_ble_eq_true rfl) (Nat.le_of_ble_eq_true rfl) ?_
  refine va_putF (D := D) (pc := 17) (ci := 2) (v := .ref q2) (ty := .array .int) (C := RX2) (T := TX2) (N := 3) hx hb hts inlX2 tyX2 tyX2_ok nmX2 hown hK hP hD hS 0 rfl rfl 1 (by decide) (hts _ fl_RX2_13) (fun _ h9 => h9) rfl hin rfl (by decide +kernel) rfl rfl (Nat.le_of_ble_eq_true rfl) dX2_init_17 (fun H locs hP hD hS => ?_)
  have hP : va_P D vwCl [(h, .inr (2, [.ref q1, .ref q2, .int 0])), (q1, .inl (cA 0, 8, .inl (fun _ => 0))), (q2, .inl (cA 0, 8, .inl (fun _ => 0)))] _ := hP
  have hD : va_D A [(h, .inr (2, [.ref q1, .ref q2, .int 0])), (q1, .inl (cA 0, 8, .inl (fun _ => 0))), (q2, .inl (cA 0, 8, .inl (fun _ => 0)))] := hD
  refine lv_aload_n (pc := 20) hx hb dX2_init_20 rfl (lv_at hl 0 rfl) ?_
  refine lv_iconst (v := (0 : Int32)) (pc := 21) hx hb dX2_init_21 (by decide) ?_
  refine va_put (D := D) (pc := 22) (ci := 2) (v := .int (0 : Int32)) (ty := .int) (C := RX2) (T := TX2) (N := 3) hx hb hts inlX2 tyX2 tyX2_ok nmX2 hown hK hP hD hS 0 rfl rfl 2 (by decide) (hts _ fl_RX2_16) (fun _ h9 => h9) rfl (by decide +kernel) rfl rfl (Nat.le_of_ble_eq_true rfl) dX2_init_22 (fun H locs hP hD hS => ?_)
  have hP : va_P D vwCl [(h, .inr (2, [.ref q1, .ref q2, .int (0 : Int32)])), (q1, .inl (cA 0, 8, .inl (fun _ => 0))), (q2, .inl (cA 0, 8, .inl (fun _ => 0)))] _ := hP
  have hD : va_D A [(h, .inr (2, [.ref q1, .ref q2, .int (0 : Int32)])), (q1, .inl (cA 0, 8, .inl (fun _ => 0))), (q2, .inl (cA 0, 8, .inl (fun _ => 0)))] := hD
  have hP : va_P D vwCl (w_N cA (fun k => [h, q1, q2].getD k 0) zS) _ := hP.sub [0, 1, 2] rfl
  have hD : va_D A (w_N cA (fun k => [h, q1, q2].getD k 0) zS) := hD.sub [0, 1, 2] (by decide) rfl
  exact ret_n (W1 := (fun u => w_N cA u zS)) (fun k => [h, q1, q2].getD k 0) rfl C hP hD hS dX2_init_25
theorem lo_RX5 : Cond.methodLink RX5 3 objectInit ∈ wsL_law := by decide +kernel
set_option maxRecDepth 100000 in
set_option maxHeartbeats 4000000 in
theorem nX5_init (l : Launch) (D : va_G) (cA : Nat → ClassId) (h : Nat) : CtN l yX5_init cX5_init 1 1 12 1 1000 (fun _ => True) D cA [(h, .inr (4, [.null, .int 0, .int 0, .int 0, .int 0, .int 0, .int 0]))] (fun u => w_S cA u (stf zS 0 (-1))) h := by
  intro sz
  refine Met.ofW (cc := cX5_init) (maxL := 1) (ret := none) (by decide) rfl ?_
  intro p e s m args below meth c s₁ B hml hv
  obtain ⟨⟨rfl, hsz, hP, hKN, hD0⟩, hO⟩ := hv
  subst hsz
  have C : Cx p s m _ meth c D cA cX5_init 1 RX5 none := Cx.of B hml hKN
  have hin : meth.name = "<init>" := (name_of_methodNamed B.named B.method).1
  have hD := hD0.self (sz := s.heap.size)
  generalize hAe : va_A [(h, .inr (4, [.null, .int 0, .int 0, .int 0, .int 0, .int 0, .int 0]))] s.heap.size = A at hD ⊢
  have hA : ∀ q : Nat, s.heap.size ≤ q → A q := fun q h => by rw [← hAe]; exact Or.inr h
  have hS : va_S A s.heap s.heap [] := va_S.rf
  have hl := lv_entry ([.ref h]) (n := 1) (Nat.le_of_ble_eq_true rfl)
  rw [lg_entry_eq]
  generalize (lg_sl ([.ref h]) ++ List.replicate (1 - (lg_sl ([.ref h])).length) Slot.unset).toArray = ls at hl ⊢
  have hl : lv_has ls 1 [(0, .ref h)] := hl
  obtain ⟨hx, hb, hml, hown, hts, hK, hN, hr, hlk⟩ := id C
  refine lv_aload_n (pc := 0) hx hb dX5_init_0 rfl (lv_at hl 0 rfl) ?_
  refine W.objInit hx hb hown (hts _ lo_RX5) (hts _ ob_1) (hts _ ob_2) rfl (hl.1.trans hml.symm) rfl dX5_init_1 (Nat.le_of_ble_eq_true rfl) (Nat.le_of_ble_eq_true rfl) ?_
  refine W.eq (g2 := F0 m 4 ls []) rfl ?_
  refine lv_aload_n (pc := 4) hx hb dX5_init_4 rfl (lv_at hl 0 rfl) ?_
  refine lv_sipush (v := (1000 : Int32)) (pc := 5) hx hb dX5_init_5 (by decide) ?_
  refine newA (pc := 8) (k := 2) (N' := 1000) (ty := .boolean) (atype := .boolean) C hA (by decide) rfl ac_boolean rfl hP hD hS (by decide) (by decide) (by decide) (Nat.le_of_ble_eq_true rfl) (Nat.le_of_ble_eq_true rfl) dX5_init_8 (fun q1 H hP hD hS => ?_)
  have hP : va_P D vwCl [(h, .inr (4, [.null, .int 0, .int 0, .int 0, .int 0, .int 0, .int 0])), (q1, .inl (cA 2, 1000, .inl (fun _ => 0)))] _ := hP
  have hD : va_D A [(h, .inr (4, [.null, .int 0, .int 0, .int 0, .int 0, .int 0, .int 0])), (q1, .inl (cA 2, 1000, .inl (fun _ => 0)))] := hD
  refine W.widen (k := 1) (n := 1000) (Nat.le_of_ble_eq_true rfl) (Nat.le_of_ble_eq_true rfl) ?_
  refine va_putF (D := D) (pc := 10) (ci := 4) (v := .ref q1) (ty := .array .boolean) (C := RX5) (T := TX5) (N := 7) hx hb hts inlX5 tyX5 tyX5_ok nmX5 hown hK hP hD hS 0 rfl rfl 0 (by decide) (hts _ fl_RX5_9) (fun _ h9 => h9) rfl hin rfl (by decide +kernel) rfl rfl (Nat.le_of_ble_eq_true rfl) dX5_init_10 (fun H locs hP hD hS => ?_)
  have hP : va_P D vwCl [(h, .inr (4, [.ref q1, .int 0, .int 0, .int 0, .int 0, .int 0, .int 0])), (q1, .inl (cA 2, 1000, .inl (fun _ => 0)))] _ := hP
  have hD : va_D A [(h, .inr (4, [.ref q1, .int 0, .int 0, .int 0, .int 0, .int 0, .int 0])), (q1, .inl (cA 2, 1000, .inl (fun _ => 0)))] := hD
  refine lv_aload_n (pc := 13) hx hb dX5_init_13 rfl (lv_at hl 0 rfl) ?_
  refine lv_iconst (v := (-1 : Int32)) (pc := 14) hx hb dX5_init_14 (by decide) ?_
  refine va_put (D := D) (pc := 15) (ci := 4) (v := .int (-1 : Int32)) (ty := .int) (C := RX5) (T := TX5) (N := 7) hx hb hts inlX5 tyX5 tyX5_ok nmX5 hown hK hP hD hS 0 rfl rfl 1 (by decide) (hts _ fl_RX5_15) (fun _ h9 => h9) rfl (by decide +kernel) rfl rfl (Nat.le_of_ble_eq_true rfl) dX5_init_15 (fun H locs hP hD hS => ?_)
  have hP : va_P D vwCl [(h, .inr (4, [.ref q1, .int (-1 : Int32), .int 0, .int 0, .int 0, .int 0, .int 0])), (q1, .inl (cA 2, 1000, .inl (fun _ => 0)))] _ := hP
  have hD : va_D A [(h, .inr (4, [.ref q1, .int (-1 : Int32), .int 0, .int 0, .int 0, .int 0, .int 0])), (q1, .inl (cA 2, 1000, .inl (fun _ => 0)))] := hD
  refine lv_aload_n (pc := 18) hx hb dX5_init_18 rfl (lv_at hl 0 rfl) ?_
  refine lv_iconst (v := (0 : Int32)) (pc := 19) hx hb dX5_init_19 (by decide) ?_
  refine va_put (D := D) (pc := 20) (ci := 4) (v := .int (0 : Int32)) (ty := .int) (C := RX5) (T := TX5) (N := 7) hx hb hts inlX5 tyX5 tyX5_ok nmX5 hown hK hP hD hS 0 rfl rfl 2 (by decide) (hts _ fl_RX5_19) (fun _ h9 => h9) rfl (by decide +kernel) rfl rfl (Nat.le_of_ble_eq_true rfl) dX5_init_20 (fun H locs hP hD hS => ?_)
  have hP : va_P D vwCl [(h, .inr (4, [.ref q1, .int (-1 : Int32), .int (0 : Int32), .int 0, .int 0, .int 0, .int 0])), (q1, .inl (cA 2, 1000, .inl (fun _ => 0)))] _ := hP
  have hD : va_D A [(h, .inr (4, [.ref q1, .int (-1 : Int32), .int (0 : Int32), .int 0, .int 0, .int 0, .int 0])), (q1, .inl (cA 2, 1000, .inl (fun _ => 0)))] := hD
  refine lv_aload_n (pc := 23) hx hb dX5_init_23 rfl (lv_at hl 0 rfl) ?_
  refine lv_iconst (v := (0 : Int32)) (pc := 24) hx hb dX5_init_24 (by decide) ?_
  refine va_put (D := D) (pc := 25) (ci := 4) (v := .int (0 : Int32)) (ty := .int) (C := RX5) (T := TX5) (N := 7) hx hb hts inlX5 tyX5 tyX5_ok nmX5 hown hK hP hD hS 0 rfl rfl 3 (by decide) (hts _ fl_RX5_22) (fun _ h9 => h9) rfl (by decide +kernel) rfl rfl (Nat.le_of_ble_eq_true rfl) dX5_init_25 (fun H locs hP hD hS => ?_)
  have hP : va_P D vwCl [(h, .inr (4, [.ref q1, .int (-1 : Int32), .int (0 : Int32), .int (0 : Int32), .int 0, .int 0, .int 0])), (q1, .inl (cA 2, 1000, .inl (fun _ => 0)))] _ := hP
  have hD : va_D A [(h, .inr (4, [.ref q1, .int (-1 : Int32), .int (0 : Int32), .int (0 : Int32), .int 0, .int 0, .int 0])), (q1, .inl (cA 2, 1000, .inl (fun _ => 0)))] := hD
  refine lv_aload_n (pc := 28) hx hb dX5_init_28 rfl (lv_at hl 0 rfl) ?_
  refine lv_iconst (v := (0 : Int32)) (pc := 29) hx hb dX5_init_29 (by decide) ?_
  refine va_put (D := D) (pc := 30) (ci := 4) (v := .int (0 : Int32)) (ty := .int) (C := RX5) (T := TX5) (N := 7) hx hb hts inlX5 tyX5 tyX5_ok nmX5 hown hK hP hD hS 0 rfl rfl 4 (by decide) (hts _ fl_RX5_25) (fun _ h9 => h9) rfl (by decide +kernel) rfl rfl (Nat.le_of_ble_eq_true rfl) dX5_init_30 (fun H locs hP hD hS => ?_)
  have hP : va_P D vwCl [(h, .inr (4, [.ref q1, .int (-1 : Int32), .int (0 : Int32), .int (0 : Int32), .int (0 : Int32), .int 0, .int 0])), (q1, .inl (cA 2, 1000, .inl (fun _ => 0)))] _ := hP
  have hD : va_D A [(h, .inr (4, [.ref q1, .int (-1 : Int32), .int (0 : Int32), .int (0 : Int32), .int (0 : Int32), .int 0, .int 0])), (q1, .inl (cA 2, 1000, .inl (fun _ => 0)))] := hD
  refine lv_aload_n (pc := 33) hx hb dX5_init_33 rfl (lv_at hl 0 rfl) ?_
  refine lv_iconst (v := (0 : Int32)) (pc := 34) hx hb dX5_init_34 (by decide) ?_
  refine va_put (D := D) (pc := 35) (ci := 4) (v := .int (0 : Int32)) (ty := .int) (C := RX5) (T := TX5) (N := 7) hx hb hts inlX5 tyX5 tyX5_ok nmX5 hown hK hP hD hS 0 rfl rfl 5 (by decide) (hts _ fl_RX5_28) (fun _ h9 => h9) rfl (by decide +kernel) rfl rfl (Nat.le_of_ble_eq_true rfl) dX5_init_35 (fun H locs hP hD hS => ?_)
  have hP : va_P D vwCl [(h, .inr (4, [.ref q1, .int (-1 : Int32), .int (0 : Int32), .int (0 : Int32), .int (0 : Int32), .int (0 : Int32), .int 0])), (q1, .inl (cA 2, 1000, .inl (fun _ => 0)))] _ := hP
  have hD : va_D A [(h, .inr (4, [.ref q1, .int (-1 : Int32), .int (0 : Int32), .int (0 : Int32), .int (0 : Int32), .int (0 : Int32), .int 0])), (q1, .inl (cA 2, 1000, .inl (fun _ => 0)))] := hD
  refine lv_aload_n (pc := 38) hx hb dX5_init_38 rfl (lv_at hl 0 rfl) ?_
  refine lv_iconst (v := (0 : Int32)) (pc := 39) hx hb dX5_init_39 (by decide) ?_
  refine va_put (D := D) (pc := 40) (ci := 4) (v := .int (0 : Int32)) (ty := .int) (C := RX5) (T := TX5) (N := 7) hx hb hts inlX5 tyX5 tyX5_ok nmX5 hown hK hP hD hS 0 rfl rfl 6 (by decide) (hts _ fl_RX5_31) (fun _ h9 => h9) rfl (by decide +kernel) rfl rfl (Nat.le_of_ble_eq_true rfl) dX5_init_40 (fun H locs hP hD hS => ?_)
  have hP : va_P D vwCl [(h, .inr (4, [.ref q1, .int (-1 : Int32), .int (0 : Int32), .int (0 : Int32), .int (0 : Int32), .int (0 : Int32), .int (0 : Int32)])), (q1, .inl (cA 2, 1000, .inl (fun _ => 0)))] _ := hP
  have hD : va_D A [(h, .inr (4, [.ref q1, .int (-1 : Int32), .int (0 : Int32), .int (0 : Int32), .int (0 : Int32), .int (0 : Int32), .int (0 : Int32)])), (q1, .inl (cA 2, 1000, .inl (fun _ => 0)))] := hD
  have hP : va_P D vwCl (w_S cA (fun k => [h, q1].getD k 0) (stf zS 0 (-1))) _ := hP.sub [0, 1] rfl
  have hD : va_D A (w_S cA (fun k => [h, q1].getD k 0) (stf zS 0 (-1))) := hD.sub [0, 1] (by decide) rfl
  exact ret_n (W1 := (fun u => w_S cA u (stf zS 0 (-1)))) (fun k => [h, q1].getD k 0) rfl C hP hD hS dX5_init_43
theorem lo_RX8 : Cond.methodLink RX8 3 objectInit ∈ wsL_law := by decide +kernel
set_option maxRecDepth 100000 in
set_option maxHeartbeats 4000000 in
theorem nX8_init (l : Launch) (D : va_G) (cA : Nat → ClassId) (h : Nat) : CtN l yX8_init cX8_init 1 1 12 1 201 (fun _ => True) D cA [(h, .inr (7, [.null]))] (fun u => w_L cA u zS) h := by
  intro sz
  refine Met.ofW (cc := cX8_init) (maxL := 1) (ret := none) (by decide) rfl ?_
  intro p e s m args below meth c s₁ B hml hv
  obtain ⟨⟨rfl, hsz, hP, hKN, hD0⟩, hO⟩ := hv
  subst hsz
  have C : Cx p s m _ meth c D cA cX8_init 1 RX8 none := Cx.of B hml hKN
  have hin : meth.name = "<init>" := (name_of_methodNamed B.named B.method).1
  have hD := hD0.self (sz := s.heap.size)
  generalize hAe : va_A [(h, .inr (7, [.null]))] s.heap.size = A at hD ⊢
  have hA : ∀ q : Nat, s.heap.size ≤ q → A q := fun q h => by rw [← hAe]; exact Or.inr h
  have hS : va_S A s.heap s.heap [] := va_S.rf
  have hl := lv_entry ([.ref h]) (n := 1) (Nat.le_of_ble_eq_true rfl)
  rw [lg_entry_eq]
  generalize (lg_sl ([.ref h]) ++ List.replicate (1 - (lg_sl ([.ref h])).length) Slot.unset).toArray = ls at hl ⊢
  have hl : lv_has ls 1 [(0, .ref h)] := hl
  obtain ⟨hx, hb, hml, hown, hts, hK, hN, hr, hlk⟩ := id C
  refine lv_aload_n (pc := 0) hx hb dX8_init_0 rfl (lv_at hl 0 rfl) ?_
  refine W.objInit hx hb hown (hts _ lo_RX8) (hts _ ob_1) (hts _ ob_2) rfl (hl.1.trans hml.symm) rfl dX8_init_1 (Nat.le_of_ble_eq_true rfl) (Nat.le_of_ble_eq_true rfl) ?_
  refine W.eq (g2 := F0 m 4 ls []) rfl ?_
  refine lv_aload_n (pc := 4) hx hb dX8_init_4 rfl (lv_at hl 0 rfl) ?_
  refine lv_sipush (v := (201 : Int32)) (pc := 5) hx hb dX8_init_5 (by decide) ?_
  refine newA (pc := 8) (k := 0) (N' := 201) (ty := .int) (atype := .int) C hA (by decide) rfl ac_int rfl hP hD hS (by decide) (by decide) (by decide) (Nat.le_of_ble_eq_true rfl) (Nat.le_of_ble_eq_true rfl) dX8_init_8 (fun q1 H hP hD hS => ?_)
  have hP : va_P D vwCl [(h, .inr (7, [.null])), (q1, .inl (cA 0, 201, .inl (fun _ => 0)))] _ := hP
  have hD : va_D A [(h, .inr (7, [.null])), (q1, .inl (cA 0, 201, .inl (fun _ => 0)))] := hD
  refine W.widen (k := 1) (n := 201) (Nat.le_of_ble_eq_true rfl) (Nat.le_of_ble_eq_true rfl) ?_
  refine va_putF (D := D) (pc := 10) (ci := 7) (v := .ref q1) (ty := .array .int) (C := RX8) (T := TX8) (N := 1) hx hb hts inlX8 tyX8 tyX8_ok nmX8 hown hK hP hD hS 0 rfl rfl 0 (by decide) (hts _ fl_RX8_9) (fun _ h9 => h9) rfl hin rfl (by decide +kernel) rfl rfl (Nat.le_of_ble_eq_true rfl) dX8_init_10 (fun H locs hP hD hS => ?_)
  have hP : va_P D vwCl [(h, .inr (7, [.ref q1])), (q1, .inl (cA 0, 201, .inl (fun _ => 0)))] _ := hP
  have hD : va_D A [(h, .inr (7, [.ref q1])), (q1, .inl (cA 0, 201, .inl (fun _ => 0)))] := hD
  have hP : va_P D vwCl (w_L cA (fun k => [h, q1].getD k 0) zS) _ := hP.sub [0, 1] rfl
  have hD : va_D A (w_L cA (fun k => [h, q1].getD k 0) zS) := hD.sub [0, 1] (by decide) rfl
  exact ret_n (W1 := (fun u => w_L cA u zS)) (fun k => [h, q1].getD k 0) rfl C hP hD hS dX8_init_13
theorem lo_RX9 : Cond.methodLink RX9 3 objectInit ∈ wsL_law := by decide +kernel
theorem cl_RX9_9 : Cond.classLink RX9 9 RX0 ∈ wsL_law ∧ Cond.instantiable RX0 2 ∈ wsL_law ∧ Cond.initialized RX0 ∈ wsL_law := ⟨by decide +kernel, by decide +kernel, by decide +kernel⟩
theorem lk_RX9_11 : LkN RX9 11 yX0_init cX0_init 1 none 0 ∧ Cond.instanceMethod yX0_init ∈ wsL_law := ⟨⟨by decide +kernel, by decide +kernel, by decide +kernel, by decide +kernel, by decide +kernel, by decide +kernel⟩, by decide +kernel⟩
theorem cl_RX9_32 : Cond.classLink RX9 32 RX6 ∈ wsL_law ∧ Cond.instantiable RX6 2 ∈ wsL_law ∧ Cond.initialized RX6 ∈ wsL_law := ⟨by decide +kernel, by decide +kernel, by decide +kernel⟩
theorem lk_RX9_34 : LkN RX9 34 yX6_init cX6_init 1 none 0 ∧ Cond.instanceMethod yX6_init ∈ wsL_law := ⟨⟨by decide +kernel, by decide +kernel, by decide +kernel, by decide +kernel, by decide +kernel, by decide +kernel⟩, by decide +kernel⟩
set_option maxRecDepth 100000 in
set_option maxHeartbeats 4000000 in
theorem nX9_init (l : Launch) (D : va_G) (cA : Nat → ClassId) (h : Nat) : CtN l yX9_init cX9_init 1 2 32 5 40 (fun _ => True) D cA [(h, .inr (8, [.null, .null, .int 0, .int 0, .int 0, .null, .int 0]))] (fun u => w_D cA u (stf (stf zS 1 6) 2 7)) h := by
  intro sz
  refine Met.ofW (cc := cX9_init) (maxL := 1) (ret := none) (by decide) rfl ?_
  intro p e s m args below meth c s₁ B hml hv
  obtain ⟨⟨rfl, hsz, hP, hKN, hD0⟩, hO⟩ := hv
  subst hsz
  have C : Cx p s m _ meth c D cA cX9_init 1 RX9 none := Cx.of B hml hKN
  have hin : meth.name = "<init>" := (name_of_methodNamed B.named B.method).1
  have hD := hD0.self (sz := s.heap.size)
  generalize hAe : va_A [(h, .inr (8, [.null, .null, .int 0, .int 0, .int 0, .null, .int 0]))] s.heap.size = A at hD ⊢
  have hA : ∀ q : Nat, s.heap.size ≤ q → A q := fun q h => by rw [← hAe]; exact Or.inr h
  have hS : va_S A s.heap s.heap [] := va_S.rf
  have hl := lv_entry ([.ref h]) (n := 1) (Nat.le_of_ble_eq_true rfl)
  rw [lg_entry_eq]
  generalize (lg_sl ([.ref h]) ++ List.replicate (1 - (lg_sl ([.ref h])).length) Slot.unset).toArray = ls at hl ⊢
  have hl : lv_has ls 1 [(0, .ref h)] := hl
  obtain ⟨hx, hb, hml, hown, hts, hK, hN, hr, hlk⟩ := id C
  refine lv_aload_n (pc := 0) hx hb dX9_init_0 rfl (lv_at hl 0 rfl) ?_
  refine W.objInit hx hb hown (hts _ lo_RX9) (hts _ ob_1) (hts _ ob_2) rfl (hl.1.trans hml.symm) rfl dX9_init_1 (Nat.le_of_ble_eq_true rfl) (Nat.le_of_ble_eq_true rfl) ?_
  refine W.eq (g2 := F0 m 4 ls []) rfl ?_
  refine lv_aload_n (pc := 4) hx hb dX9_init_4 rfl (lv_at hl 0 rfl) ?_
  refine va_new (pc := 5) (ci := 0) (fs := [.int 0, .null]) (C := RX0) (T := TX0) (N := 2) hx hb hts inlX0 tyX0 tyX0_ok hown (hts _ cl_RX9_9.1) (hts _ cl_RX9_9.2.1) (hts _ cl_RX9_9.2.2) hK hP hD hS hA rfl (by decide) (Nat.le_of_ble_eq_true rfl) (Nat.le_of_ble_eq_true rfl) dX9_init_5 (fun q1 H hP hD hS => ?_)
  have hP : va_P D vwCl [(h, .inr (8, [.null, .null, .int 0, .int 0, .int 0, .null, .int 0])), (q1, .inr (0, [.int 0, .null]))] _ := hP
  have hD : va_D A [(h, .inr (8, [.null, .null, .int 0, .int 0, .int 0, .null, .int 0])), (q1, .inr (0, [.int 0, .null]))] := hD
  refine W.widen (k := 1) (n := 2) (Nat.le_of_ble_eq_true rfl) (Nat.le_of_ble_eq_true rfl) ?_
  refine lv_dup (pc := 8) hx hb dX9_init_8 rfl ?_
  have hPc : va_P D vwCl [(q1, .inr (0, [.int 0, .null]))] _ := hP.sub [1] rfl
  have hDc : va_D A [(q1, .inr (0, [.int 0, .null]))] := hD.sub [1] (by decide) rfl
  refine new_v (ws := [(h, .inr (8, [.null, .null, .int 0, .int 0, .int 0, .null, .int 0]))]) (runE_IN (pc := 9) (b := q1) (rest := [.ref q1, .ref h]) C lk_RX9_11 rfl (fun _ _ _ _ _ => trivial) (fun _ _ _ => trivial) (nX0_init l D cA q1 H.size) ⟨Nat.le_of_ble_eq_true rfl, Nat.le_of_ble_eq_true rfl⟩ ⟨Nat.le_of_ble_eq_true rfl, Nat.le_of_ble_eq_true rfl⟩ hPc hDc hl.1 rfl (Nat.le_of_ble_eq_true rfl) dX9_init_9) hP hD hS hA (fun u1 H locs hu hP8 hD8 hS8 => ?_)
  subst hu
  have hP : va_P D vwCl [(h, .inr (8, [.null, .null, .int 0, .int 0, .int 0, .null, .int 0])), (u1 0, .inr (0, [.int (zS 0 0), .ref (u1 1)])), (u1 1, .inl (cA 0, 10, .inl (zS 1)))] _ := hP8
  have hD : va_D A [(h, .inr (8, [.null, .null, .int 0, .int 0, .int 0, .null, .int 0])), (u1 0, .inr (0, [.int (zS 0 0), .ref (u1 1)])), (u1 1, .inl (cA 0, 10, .inl (zS 1)))] := hD8
  have hS := hS8
  refine W.widen (k := 2) (n := 12) (Nat.le_of_ble_eq_true rfl) (Nat.le_of_ble_eq_true rfl) ?_
  refine va_putF (D := D) (pc := 12) (ci := 8) (v := .ref (u1 0)) (ty := .object "SevenOnStrike$Figures") (C := RX9) (T := TX9) (N := 7) hx hb hts inlX9 tyX9 tyX9_ok nmX9 hown hK hP hD hS 0 rfl rfl 0 (by decide) (hts _ fl_RX9_12) (fun _ h9 => h9) rfl hin rfl (by decide +kernel) rfl rfl (Nat.le_of_ble_eq_true rfl) dX9_init_12 (fun H locs hP hD hS => ?_)
  have hP : va_P D vwCl [(h, .inr (8, [.ref (u1 0), .null, .int 0, .int 0, .int 0, .null, .int 0])), (u1 0, .inr (0, [.int (zS 0 0), .ref (u1 1)])), (u1 1, .inl (cA 0, 10, .inl (zS 1)))] _ := hP
  have hD : va_D A [(h, .inr (8, [.ref (u1 0), .null, .int 0, .int 0, .int 0, .null, .int 0])), (u1 0, .inr (0, [.int (zS 0 0), .ref (u1 1)])), (u1 1, .inl (cA 0, 10, .inl (zS 1)))] := hD
  refine lv_aload_n (pc := 15) hx hb dX9_init_15 rfl (lv_at hl 0 rfl) ?_
  refine lv_bipush (v := (6 : Int32)) (pc := 16) hx hb dX9_init_16 (by decide) ?_
  refine newA (pc := 18) (k := 0) (N' := 6) (ty := .int) (atype := .int) C hA (by decide) rfl ac_int rfl hP hD hS (by decide) (by decide) (by decide) (Nat.le_of_ble_eq_true rfl) (Nat.le_of_ble_eq_true rfl) dX9_init_18 (fun q2 H hP hD hS => ?_)
  have hP : va_P D vwCl [(h, .inr (8, [.ref (u1 0), .null, .int 0, .int 0, .int 0, .null, .int 0])), (u1 0, .inr (0, [.int (zS 0 0), .ref (u1 1)])), (u1 1, .inl (cA 0, 10, .inl (zS 1))), (q2, .inl (cA 0, 6, .inl (fun _ => 0)))] _ := hP
  have hD : va_D A [(h, .inr (8, [.ref (u1 0), .null, .int 0, .int 0, .int 0, .null, .int 0])), (u1 0, .inr (0, [.int (zS 0 0), .ref (u1 1)])), (u1 1, .inl (cA 0, 10, .inl (zS 1))), (q2, .inl (cA 0, 6, .inl (fun _ => 0)))] := hD
  refine W.widen (k := 3) (n := 18) (Nat.le_of_ble_eq_true rfl) (Nat.le_of_ble_eq_true rfl) ?_
  refine va_putF (D := D) (pc := 20) (ci := 8) (v := .ref q2) (ty := .array .int) (C := RX9) (T := TX9) (N := 7) hx hb hts inlX9 tyX9 tyX9_ok nmX9 hown hK hP hD hS 0 rfl rfl 1 (by decide) (hts _ fl_RX9_18) (fun _ h9 => h9) rfl hin rfl (by decide +kernel) rfl rfl (Nat.le_of_ble_eq_true rfl) dX9_init_20 (fun H locs hP hD hS => ?_)
  have hP : va_P D vwCl [(h, .inr (8, [.ref (u1 0), .ref q2, .int 0, .int 0, .int 0, .null, .int 0])), (u1 0, .inr (0, [.int (zS 0 0), .ref (u1 1)])), (u1 1, .inl (cA 0, 10, .inl (zS 1))), (q2, .inl (cA 0, 6, .inl (fun _ => 0)))] _ := hP
  have hD : va_D A [(h, .inr (8, [.ref (u1 0), .ref q2, .int 0, .int 0, .int 0, .null, .int 0])), (u1 0, .inr (0, [.int (zS 0 0), .ref (u1 1)])), (u1 1, .inl (cA 0, 10, .inl (zS 1))), (q2, .inl (cA 0, 6, .inl (fun _ => 0)))] := hD
  refine lv_aload_n (pc := 23) hx hb dX9_init_23 rfl (lv_at hl 0 rfl) ?_
  refine lv_iconst (v := (0 : Int32)) (pc := 24) hx hb dX9_init_24 (by decide) ?_
  refine va_put (D := D) (pc := 25) (ci := 8) (v := .int (0 : Int32)) (ty := .int) (C := RX9) (T := TX9) (N := 7) hx hb hts inlX9 tyX9 tyX9_ok nmX9 hown hK hP hD hS 0 rfl rfl 2 (by decide) (hts _ fl_RX9_22) (fun _ h9 => h9) rfl (by decide +kernel) rfl rfl (Nat.le_of_ble_eq_true rfl) dX9_init_25 (fun H locs hP hD hS => ?_)
  have hP : va_P D vwCl [(h, .inr (8, [.ref (u1 0), .ref q2, .int (0 : Int32), .int 0, .int 0, .null, .int 0])), (u1 0, .inr (0, [.int (zS 0 0), .ref (u1 1)])), (u1 1, .inl (cA 0, 10, .inl (zS 1))), (q2, .inl (cA 0, 6, .inl (fun _ => 0)))] _ := hP
  have hD : va_D A [(h, .inr (8, [.ref (u1 0), .ref q2, .int (0 : Int32), .int 0, .int 0, .null, .int 0])), (u1 0, .inr (0, [.int (zS 0 0), .ref (u1 1)])), (u1 1, .inl (cA 0, 10, .inl (zS 1))), (q2, .inl (cA 0, 6, .inl (fun _ => 0)))] := hD
  refine lv_aload_n (pc := 28) hx hb dX9_init_28 rfl (lv_at hl 0 rfl) ?_
  refine lv_bipush (v := (6 : Int32)) (pc := 29) hx hb dX9_init_29 (by decide) ?_
  refine va_put (D := D) (pc := 31) (ci := 8) (v := .int (6 : Int32)) (ty := .int) (C := RX9) (T := TX9) (N := 7) hx hb hts inlX9 tyX9 tyX9_ok nmX9 hown hK hP hD hS 0 rfl rfl 3 (by decide) (hts _ fl_RX9_26) (fun _ h9 => h9) rfl (by decide +kernel) rfl rfl (Nat.le_of_ble_eq_true rfl) dX9_init_31 (fun H locs hP hD hS => ?_)
  have hP : va_P D vwCl [(h, .inr (8, [.ref (u1 0), .ref q2, .int (0 : Int32), .int (6 : Int32), .int 0, .null, .int 0])), (u1 0, .inr (0, [.int (zS 0 0), .ref (u1 1)])), (u1 1, .inl (cA 0, 10, .inl (zS 1))), (q2, .inl (cA 0, 6, .inl (fun _ => 0)))] _ := hP
  have hD : va_D A [(h, .inr (8, [.ref (u1 0), .ref q2, .int (0 : Int32), .int (6 : Int32), .int 0, .null, .int 0])), (u1 0, .inr (0, [.int (zS 0 0), .ref (u1 1)])), (u1 1, .inl (cA 0, 10, .inl (zS 1))), (q2, .inl (cA 0, 6, .inl (fun _ => 0)))] := hD
  refine lv_aload_n (pc := 34) hx hb dX9_init_34 rfl (lv_at hl 0 rfl) ?_
  refine lv_bipush (v := (7 : Int32)) (pc := 35) hx hb dX9_init_35 (by decide) ?_
  refine va_put (D := D) (pc := 37) (ci := 8) (v := .int (7 : Int32)) (ty := .int) (C := RX9) (T := TX9) (N := 7) hx hb hts inlX9 tyX9 tyX9_ok nmX9 hown hK hP hD hS 0 rfl rfl 4 (by decide) (hts _ fl_RX9_29) (fun _ h9 => h9) rfl (by decide +kernel) rfl rfl (Nat.le_of_ble_eq_true rfl) dX9_init_37 (fun H locs hP hD hS => ?_)
  have hP : va_P D vwCl [(h, .inr (8, [.ref (u1 0), .ref q2, .int (0 : Int32), .int (6 : Int32), .int (7 : Int32), .null, .int 0])), (u1 0, .inr (0, [.int (zS 0 0), .ref (u1 1)])), (u1 1, .inl (cA 0, 10, .inl (zS 1))), (q2, .inl (cA 0, 6, .inl (fun _ => 0)))] _ := hP
  have hD : va_D A [(h, .inr (8, [.ref (u1 0), .ref q2, .int (0 : Int32), .int (6 : Int32), .int (7 : Int32), .null, .int 0])), (u1 0, .inr (0, [.int (zS 0 0), .ref (u1 1)])), (u1 1, .inl (cA 0, 10, .inl (zS 1))), (q2, .inl (cA 0, 6, .inl (fun _ => 0)))] := hD
  refine lv_aload_n (pc := 40) hx hb dX9_init_40 rfl (lv_at hl 0 rfl) ?_
  refine va_new (pc := 41) (ci := 5) (fs := [.null, .int 0]) (C := RX6) (T := TX6) (N := 2) hx hb hts inlX6 tyX6 tyX6_ok hown (hts _ cl_RX9_32.1) (hts _ cl_RX9_32.2.1) (hts _ cl_RX9_32.2.2) hK hP hD hS hA rfl (by decide) (Nat.le_of_ble_eq_true rfl) (Nat.le_of_ble_eq_true rfl) dX9_init_41 (fun q3 H hP hD hS => ?_)
  have hP : va_P D vwCl [(h, .inr (8, [.ref (u1 0), .ref q2, .int (0 : Int32), .int (6 : Int32), .int (7 : Int32), .null, .int 0])), (u1 0, .inr (0, [.int (zS 0 0), .ref (u1 1)])), (u1 1, .inl (cA 0, 10, .inl (zS 1))), (q2, .inl (cA 0, 6, .inl (fun _ => 0))), (q3, .inr (5, [.null, .int 0]))] _ := hP
  have hD : va_D A [(h, .inr (8, [.ref (u1 0), .ref q2, .int (0 : Int32), .int (6 : Int32), .int (7 : Int32), .null, .int 0])), (u1 0, .inr (0, [.int (zS 0 0), .ref (u1 1)])), (u1 1, .inl (cA 0, 10, .inl (zS 1))), (q2, .inl (cA 0, 6, .inl (fun _ => 0))), (q3, .inr (5, [.null, .int 0]))] := hD
  refine W.widen (k := 4) (n := 20) (Nat.le_of_ble_eq_true rfl) (Nat.le_of_ble_eq_true rfl) ?_
  refine lv_dup (pc := 44) hx hb dX9_init_44 rfl ?_
  have hPc : va_P D vwCl [(q3, .inr (5, [.null, .int 0]))] _ := hP.sub [4] rfl
  have hDc : va_D A [(q3, .inr (5, [.null, .int 0]))] := hD.sub [4] (by decide) rfl
  refine new_v (ws := [(h, .inr (8, [.ref (u1 0), .ref q2, .int (0 : Int32), .int (6 : Int32), .int (7 : Int32), .null, .int 0])), (u1 0, .inr (0, [.int (zS 0 0), .ref (u1 1)])), (u1 1, .inl (cA 0, 10, .inl (zS 1))), (q2, .inl (cA 0, 6, .inl (fun _ => 0)))]) (runE_IN (pc := 45) (b := q3) (rest := [.ref q3, .ref h]) C lk_RX9_34 rfl (fun _ _ _ _ _ => trivial) (fun _ _ _ => trivial) (nX6_init l D cA q3 H.size) ⟨Nat.le_of_ble_eq_true rfl, Nat.le_of_ble_eq_true rfl⟩ ⟨Nat.le_of_ble_eq_true rfl, Nat.le_of_ble_eq_true rfl⟩ hPc hDc hl.1 rfl (Nat.le_of_ble_eq_true rfl) dX9_init_45) hP hD hS hA (fun u3 H locs hu hP8 hD8 hS8 => ?_)
  subst hu
  have hP : va_P D vwCl [(h, .inr (8, [.ref (u1 0), .ref q2, .int (0 : Int32), .int (6 : Int32), .int (7 : Int32), .null, .int 0])), (u1 0, .inr (0, [.int (zS 0 0), .ref (u1 1)])), (u1 1, .inl (cA 0, 10, .inl (zS 1))), (q2, .inl (cA 0, 6, .inl (fun _ => 0))), (u3 0, .inr (5, [.ref (u3 1), .int (zS 0 0)])), (u3 1, .inl (cA 1, 20, .inl (zS 1)))] _ := hP8
  have hD : va_D A [(h, .inr (8, [.ref (u1 0), .ref q2, .int (0 : Int32), .int (6 : Int32), .int (7 : Int32), .null, .int 0])), (u1 0, .inr (0, [.int (zS 0 0), .ref (u1 1)])), (u1 1, .inl (cA 0, 10, .inl (zS 1))), (q2, .inl (cA 0, 6, .inl (fun _ => 0))), (u3 0, .inr (5, [.ref (u3 1), .int (zS 0 0)])), (u3 1, .inl (cA 1, 20, .inl (zS 1)))] := hD8
  have hS := hS8
  refine W.widen (k := 5) (n := 40) (Nat.le_of_ble_eq_true rfl) (Nat.le_of_ble_eq_true rfl) ?_
  refine va_putF (D := D) (pc := 48) (ci := 8) (v := .ref (u3 0)) (ty := .object "SevenOnStrike$Sum") (C := RX9) (T := TX9) (N := 7) hx hb hts inlX9 tyX9 tyX9_ok nmX9 hown hK hP hD hS 0 rfl rfl 5 (by decide) (hts _ fl_RX9_35) (fun _ h9 => h9) rfl hin rfl (by decide +kernel) rfl rfl (Nat.le_of_ble_eq_true rfl) dX9_init_48 (fun H locs hP hD hS => ?_)
  have hP : va_P D vwCl [(h, .inr (8, [.ref (u1 0), .ref q2, .int (0 : Int32), .int (6 : Int32), .int (7 : Int32), .ref (u3 0), .int 0])), (u1 0, .inr (0, [.int (zS 0 0), .ref (u1 1)])), (u1 1, .inl (cA 0, 10, .inl (zS 1))), (q2, .inl (cA 0, 6, .inl (fun _ => 0))), (u3 0, .inr (5, [.ref (u3 1), .int (zS 0 0)])), (u3 1, .inl (cA 1, 20, .inl (zS 1)))] _ := hP
  have hD : va_D A [(h, .inr (8, [.ref (u1 0), .ref q2, .int (0 : Int32), .int (6 : Int32), .int (7 : Int32), .ref (u3 0), .int 0])), (u1 0, .inr (0, [.int (zS 0 0), .ref (u1 1)])), (u1 1, .inl (cA 0, 10, .inl (zS 1))), (q2, .inl (cA 0, 6, .inl (fun _ => 0))), (u3 0, .inr (5, [.ref (u3 1), .int (zS 0 0)])), (u3 1, .inl (cA 1, 20, .inl (zS 1)))] := hD
  refine lv_aload_n (pc := 51) hx hb dX9_init_51 rfl (lv_at hl 0 rfl) ?_
  refine lv_iconst (v := (0 : Int32)) (pc := 52) hx hb dX9_init_52 (by decide) ?_
  refine va_put (D := D) (pc := 53) (ci := 8) (v := .int (0 : Int32)) (ty := .int) (C := RX9) (T := TX9) (N := 7) hx hb hts inlX9 tyX9 tyX9_ok nmX9 hown hK hP hD hS 0 rfl rfl 6 (by decide) (hts _ fl_RX9_39) (fun _ h9 => h9) rfl (by decide +kernel) rfl rfl (Nat.le_of_ble_eq_true rfl) dX9_init_53 (fun H locs hP hD hS => ?_)
  have hP : va_P D vwCl [(h, .inr (8, [.ref (u1 0), .ref q2, .int (0 : Int32), .int (6 : Int32), .int (7 : Int32), .ref (u3 0), .int (0 : Int32)])), (u1 0, .inr (0, [.int (zS 0 0), .ref (u1 1)])), (u1 1, .inl (cA 0, 10, .inl (zS 1))), (q2, .inl (cA 0, 6, .inl (fun _ => 0))), (u3 0, .inr (5, [.ref (u3 1), .int (zS 0 0)])), (u3 1, .inl (cA 1, 20, .inl (zS 1)))] _ := hP
  have hD : va_D A [(h, .inr (8, [.ref (u1 0), .ref q2, .int (0 : Int32), .int (6 : Int32), .int (7 : Int32), .ref (u3 0), .int (0 : Int32)])), (u1 0, .inr (0, [.int (zS 0 0), .ref (u1 1)])), (u1 1, .inl (cA 0, 10, .inl (zS 1))), (q2, .inl (cA 0, 6, .inl (fun _ => 0))), (u3 0, .inr (5, [.ref (u3 1), .int (zS 0 0)])), (u3 1, .inl (cA 1, 20, .inl (zS 1)))] := hD
  have hP : va_P D vwCl (w_D cA (fun k => [h, u1 0, u1 1, q2, u3 0, u3 1].getD k 0) (stf (stf zS 1 6) 2 7)) _ := hP.sub [0, 1, 2, 3, 4, 5] rfl
  have hD : va_D A (w_D cA (fun k => [h, u1 0, u1 1, q2, u3 0, u3 1].getD k 0) (stf (stf zS 1 6) 2 7)) := hD.sub [0, 1, 2, 3, 4, 5] (by decide) rfl
  exact ret_n (W1 := (fun u => w_D cA u (stf (stf zS 1 6) 2 7))) (fun k => [h, u1 0, u1 1, q2, u3 0, u3 1].getD k 0) rfl C hP hD hS dX9_init_56
theorem lo_RX1 : Cond.methodLink RX1 1 objectInit ∈ wsL_law := by decide +kernel
theorem cl_RX1_7 : Cond.classLink RX1 7 RX0 ∈ wsL_law ∧ Cond.instantiable RX0 2 ∈ wsL_law ∧ Cond.initialized RX0 ∈ wsL_law := ⟨by decide +kernel, by decide +kernel, by decide +kernel⟩
theorem lk_RX1_9 : LkN RX1 9 yX0_init cX0_init 1 none 0 ∧ Cond.instanceMethod yX0_init ∈ wsL_law := ⟨⟨by decide +kernel, by decide +kernel, by decide +kernel, by decide +kernel, by decide +kernel, by decide +kernel⟩, by decide +kernel⟩
theorem qf2_up (x y : Nat) : va_up (va_up (fun _ => none) 0 (some x)) 1 (some y) = qf2 x y := by
  funext k
  by_cases h0 : k = 0
  · subst h0; rfl
  · by_cases h1 : k = 1
    · subst h1; rfl
    · simp [va_up, qf2, h0, h1]
def w_K (cA : Nat → ClassId) (a : Nat → Nat) (S : St) : va_W := [(a 0, .inr (1, [.ref (a 1), .int (S 0 0)])), (a 1, .inl (cA 3, 2, .inr (.inr (.inr (.inr (qf2 (a 2) (a 4))))))), (a 2, .inr (0, [.int (S 1 0), .ref (a 3)])), (a 3, .inl (cA 0, 10, .inl (S 2))), (a 4, .inr (0, [.int (S 3 0), .ref (a 5)])), (a 5, .inl (cA 0, 10, .inl (S 4)))]
set_option maxRecDepth 100000 in
set_option maxHeartbeats 4000000 in
theorem nX1_init (l : Launch) (D : va_G) (cA : Nat → ClassId) (h : Nat) : CtN l yX1_init cX1_init 1 2 32 5 26 (va_AO RX0) D cA [(h, .inr (1, [.null, .int 0]))] (fun u => w_K cA u zS) h := by
  intro sz
  refine Met.ofW (cc := cX1_init) (maxL := 1) (ret := none) (by decide) rfl ?_
  intro p e s m args below meth c s₁ B hml hv
  obtain ⟨⟨rfl, hsz, hP, hKN, hD0⟩, hO⟩ := hv
  subst hsz
  have C : Cx p s m _ meth c D cA cX1_init 1 RX1 none := Cx.of B hml hKN
  have hin : meth.name = "<init>" := (name_of_methodNamed B.named B.method).1
  have hD := hD0.self (sz := s.heap.size)
  generalize hAe : va_A [(h, .inr (1, [.null, .int 0]))] s.heap.size = A at hD ⊢
  have hA : ∀ q : Nat, s.heap.size ≤ q → A q := fun q h => by rw [← hAe]; exact Or.inr h
  have hS : va_S A s.heap s.heap [] := va_S.rf
  have hl := lv_entry ([.ref h]) (n := 1) (Nat.le_of_ble_eq_true rfl)
  rw [lg_entry_eq]
  generalize (lg_sl ([.ref h]) ++ List.replicate (1 - (lg_sl ([.ref h])).length) Slot.unset).toArray = ls at hl ⊢
  have hl : lv_has ls 1 [(0, .ref h)] := hl
  obtain ⟨hx, hb, hml, hown, hts, hK, hN, hr, hlk⟩ := id C
  refine lv_aload_n (pc := 0) hx hb dX1_init_0 rfl (lv_at hl 0 rfl) ?_
  refine W.objInit hx hb hown (hts _ lo_RX1) (hts _ ob_1) (hts _ ob_2) rfl (hl.1.trans hml.symm) rfl dX1_init_1 (Nat.le_of_ble_eq_true rfl) (Nat.le_of_ble_eq_true rfl) ?_
  refine W.eq (g2 := F0 m 4 ls []) rfl ?_
  refine lv_aload_n (pc := 4) hx hb dX1_init_4 rfl (lv_at hl 0 rfl) ?_
  refine lv_iconst (v := (2 : Int32)) (pc := 5) hx hb dX1_init_5 (by decide) ?_
  refine va_newq (D := D) (pc := 6) (C := RX0) (N' := 2) hx hb hown (hts _ cl_RX1_7.1) hO hK hP hD hS hA (by decide) (by decide) (by decide) (Nat.le_of_ble_eq_true rfl) (Nat.le_of_ble_eq_true rfl) dX1_init_6 (fun q1 c9 H hK9 hP hD hS => ?_)
  have e9 : c9 = cA 3 := tyEq (Or.inr (Or.inr (Or.inr ⟨_, rfl⟩))) hK9 hK (k := 4) (j := 3) rfl rfl
  subst e9
  have hP : va_P D vwCl [(h, .inr (1, [.null, .int 0])), (q1, .inl (cA 3, 2, .inr (.inr (.inr (.inr (fun _ => none))))))] _ := hP
  have hD : va_D A [(h, .inr (1, [.null, .int 0])), (q1, .inl (cA 3, 2, .inr (.inr (.inr (.inr (fun _ => none))))))] := hD
  refine W.widen (k := 1) (n := 2) (Nat.le_of_ble_eq_true rfl) (Nat.le_of_ble_eq_true rfl) ?_
  refine lv_dup (pc := 9) hx hb dX1_init_9 rfl ?_
  refine lv_iconst (v := (0 : Int32)) (pc := 10) hx hb dX1_init_10 (by decide) ?_
  refine va_new (pc := 11) (ci := 0) (fs := [.int 0, .null]) (C := RX0) (T := TX0) (N := 2) hx hb hts inlX0 tyX0 tyX0_ok hown (hts _ cl_RX1_7.1) (hts _ cl_RX1_7.2.1) (hts _ cl_RX1_7.2.2) hK hP hD hS hA rfl (by decide) (Nat.le_of_ble_eq_true rfl) (Nat.le_of_ble_eq_true rfl) dX1_init_11 (fun q2 H hP hD hS => ?_)
  have hP : va_P D vwCl [(h, .inr (1, [.null, .int 0])), (q1, .inl (cA 3, 2, .inr (.inr (.inr (.inr (fun _ => none)))))), (q2, .inr (0, [.int 0, .null]))] _ := hP
  have hD : va_D A [(h, .inr (1, [.null, .int 0])), (q1, .inl (cA 3, 2, .inr (.inr (.inr (.inr (fun _ => none)))))), (q2, .inr (0, [.int 0, .null]))] := hD
  refine W.widen (k := 2) (n := 4) (Nat.le_of_ble_eq_true rfl) (Nat.le_of_ble_eq_true rfl) ?_
  refine lv_dup (pc := 14) hx hb dX1_init_14 rfl ?_
  have hPc : va_P D vwCl [(q2, .inr (0, [.int 0, .null]))] _ := hP.sub [2] rfl
  have hDc : va_D A [(q2, .inr (0, [.int 0, .null]))] := hD.sub [2] (by decide) rfl
  refine new_v (ws := [(h, .inr (1, [.null, .int 0])), (q1, .inl (cA 3, 2, .inr (.inr (.inr (.inr (fun _ => none))))))]) (runE_IN (pc := 15) (b := q2) (rest := [.ref q2, .int (0 : Int32), .ref q1, .ref q1, .ref h]) C lk_RX1_9 rfl (fun _ _ _ _ _ => trivial) (fun _ _ _ => trivial) (nX0_init l D cA q2 H.size) ⟨Nat.le_of_ble_eq_true rfl, Nat.le_of_ble_eq_true rfl⟩ ⟨Nat.le_of_ble_eq_true rfl, Nat.le_of_ble_eq_true rfl⟩ hPc hDc hl.1 rfl (Nat.le_of_ble_eq_true rfl) dX1_init_15) hP hD hS hA (fun u2 H locs hu hP8 hD8 hS8 => ?_)
  subst hu
  have hP : va_P D vwCl [(h, .inr (1, [.null, .int 0])), (q1, .inl (cA 3, 2, .inr (.inr (.inr (.inr (fun _ => none)))))), (u2 0, .inr (0, [.int (zS 0 0), .ref (u2 1)])), (u2 1, .inl (cA 0, 10, .inl (zS 1)))] _ := hP8
  have hD : va_D A [(h, .inr (1, [.null, .int 0])), (q1, .inl (cA 3, 2, .inr (.inr (.inr (.inr (fun _ => none)))))), (u2 0, .inr (0, [.int (zS 0 0), .ref (u2 1)])), (u2 1, .inl (cA 0, 10, .inl (zS 1)))] := hD8
  have hS := hS8
  refine W.widen (k := 3) (n := 14) (Nat.le_of_ble_eq_true rfl) (Nat.le_of_ble_eq_true rfl) ?_
  refine va_astq (D := D) (pc := 18) hx hb hK hP hD hS 1 3 2 0 (r := (RX0, TX0, 2)) rfl rfl rfl rfl (inK rfl) dX1_init_18 (fun H locs hP hD hS => ?_)
  have hP : va_P D vwCl [(h, .inr (1, [.null, .int 0])), (q1, .inl (cA 3, 2, .inr (.inr (.inr (.inr (va_up (fun _ => none) 0 (some (u2 0)))))))), (u2 0, .inr (0, [.int (zS 0 0), .ref (u2 1)])), (u2 1, .inl (cA 0, 10, .inl (zS 1)))] _ := hP
  have hD : va_D A [(h, .inr (1, [.null, .int 0])), (q1, .inl (cA 3, 2, .inr (.inr (.inr (.inr (va_up (fun _ => none) 0 (some (u2 0)))))))), (u2 0, .inr (0, [.int (zS 0 0), .ref (u2 1)])), (u2 1, .inl (cA 0, 10, .inl (zS 1)))] := hD
  refine lv_dup (pc := 19) hx hb dX1_init_19 rfl ?_
  refine lv_iconst (v := (1 : Int32)) (pc := 20) hx hb dX1_init_20 (by decide) ?_
  refine va_new (pc := 21) (ci := 0) (fs := [.int 0, .null]) (C := RX0) (T := TX0) (N := 2) hx hb hts inlX0 tyX0 tyX0_ok hown (hts _ cl_RX1_7.1) (hts _ cl_RX1_7.2.1) (hts _ cl_RX1_7.2.2) hK hP hD hS hA rfl (by decide) (Nat.le_of_ble_eq_true rfl) (Nat.le_of_ble_eq_true rfl) dX1_init_21 (fun q3 H hP hD hS => ?_)
  have hP : va_P D vwCl [(h, .inr (1, [.null, .int 0])), (q1, .inl (cA 3, 2, .inr (.inr (.inr (.inr (va_up (fun _ => none) 0 (some (u2 0)))))))), (u2 0, .inr (0, [.int (zS 0 0), .ref (u2 1)])), (u2 1, .inl (cA 0, 10, .inl (zS 1))), (q3, .inr (0, [.int 0, .null]))] _ := hP
  have hD : va_D A [(h, .inr (1, [.null, .int 0])), (q1, .inl (cA 3, 2, .inr (.inr (.inr (.inr (va_up (fun _ => none) 0 (some (u2 0)))))))), (u2 0, .inr (0, [.int (zS 0 0), .ref (u2 1)])), (u2 1, .inl (cA 0, 10, .inl (zS 1))), (q3, .inr (0, [.int 0, .null]))] := hD
  refine W.widen (k := 4) (n := 16) (Nat.le_of_ble_eq_true rfl) (Nat.le_of_ble_eq_true rfl) ?_
  refine lv_dup (pc := 24) hx hb dX1_init_24 rfl ?_
  have hPc : va_P D vwCl [(q3, .inr (0, [.int 0, .null]))] _ := hP.sub [4] rfl
  have hDc : va_D A [(q3, .inr (0, [.int 0, .null]))] := hD.sub [4] (by decide) rfl
  refine new_v (ws := [(h, .inr (1, [.null, .int 0])), (q1, .inl (cA 3, 2, .inr (.inr (.inr (.inr (va_up (fun _ => none) 0 (some (u2 0)))))))), (u2 0, .inr (0, [.int (zS 0 0), .ref (u2 1)])), (u2 1, .inl (cA 0, 10, .inl (zS 1)))]) (runE_IN (pc := 25) (b := q3) (rest := [.ref q3, .int (1 : Int32), .ref q1, .ref q1, .ref h]) C lk_RX1_9 rfl (fun _ _ _ _ _ => trivial) (fun _ _ _ => trivial) (nX0_init l D cA q3 H.size) ⟨Nat.le_of_ble_eq_true rfl, Nat.le_of_ble_eq_true rfl⟩ ⟨Nat.le_of_ble_eq_true rfl, Nat.le_of_ble_eq_true rfl⟩ hPc hDc hl.1 rfl (Nat.le_of_ble_eq_true rfl) dX1_init_25) hP hD hS hA (fun u3 H locs hu hP8 hD8 hS8 => ?_)
  subst hu
  have hP : va_P D vwCl [(h, .inr (1, [.null, .int 0])), (q1, .inl (cA 3, 2, .inr (.inr (.inr (.inr (va_up (fun _ => none) 0 (some (u2 0)))))))), (u2 0, .inr (0, [.int (zS 0 0), .ref (u2 1)])), (u2 1, .inl (cA 0, 10, .inl (zS 1))), (u3 0, .inr (0, [.int (zS 0 0), .ref (u3 1)])), (u3 1, .inl (cA 0, 10, .inl (zS 1)))] _ := hP8
  have hD : va_D A [(h, .inr (1, [.null, .int 0])), (q1, .inl (cA 3, 2, .inr (.inr (.inr (.inr (va_up (fun _ => none) 0 (some (u2 0)))))))), (u2 0, .inr (0, [.int (zS 0 0), .ref (u2 1)])), (u2 1, .inl (cA 0, 10, .inl (zS 1))), (u3 0, .inr (0, [.int (zS 0 0), .ref (u3 1)])), (u3 1, .inl (cA 0, 10, .inl (zS 1)))] := hD8
  have hS := hS8
  refine W.widen (k := 5) (n := 26) (Nat.le_of_ble_eq_true rfl) (Nat.le_of_ble_eq_true rfl) ?_
  refine va_astq (D := D) (pc := 28) hx hb hK hP hD hS 1 3 4 0 (r := (RX0, TX0, 2)) rfl rfl rfl rfl (inK rfl) dX1_init_28 (fun H locs hP hD hS => ?_)
  have hP : va_P D vwCl [(h, .inr (1, [.null, .int 0])), (q1, .inl (cA 3, 2, .inr (.inr (.inr (.inr (va_up (va_up (fun _ => none) 0 (some (u2 0))) 1 (some (u3 0)))))))), (u2 0, .inr (0, [.int (zS 0 0), .ref (u2 1)])), (u2 1, .inl (cA 0, 10, .inl (zS 1))), (u3 0, .inr (0, [.int (zS 0 0), .ref (u3 1)])), (u3 1, .inl (cA 0, 10, .inl (zS 1)))] _ := hP
  have hD : va_D A [(h, .inr (1, [.null, .int 0])), (q1, .inl (cA 3, 2, .inr (.inr (.inr (.inr (va_up (va_up (fun _ => none) 0 (some (u2 0))) 1 (some (u3 0)))))))), (u2 0, .inr (0, [.int (zS 0 0), .ref (u2 1)])), (u2 1, .inl (cA 0, 10, .inl (zS 1))), (u3 0, .inr (0, [.int (zS 0 0), .ref (u3 1)])), (u3 1, .inl (cA 0, 10, .inl (zS 1)))] := hD
  refine va_putF (D := D) (pc := 29) (ci := 1) (v := .ref q1) (ty := .array (.object "SevenOnStrike$Figures")) (C := RX1) (T := TX1) (N := 2) hx hb hts inlX1 tyX1 tyX1_ok nmX1 hown hK hP hD hS 0 rfl rfl 0 (by decide) (hts _ fl_RX1_10) (fun _ h9 => h9) rfl hin rfl (by decide +kernel) rfl rfl (Nat.le_of_ble_eq_true rfl) dX1_init_29 (fun H locs hP hD hS => ?_)
  have hP : va_P D vwCl [(h, .inr (1, [.ref q1, .int 0])), (q1, .inl (cA 3, 2, .inr (.inr (.inr (.inr (va_up (va_up (fun _ => none) 0 (some (u2 0))) 1 (some (u3 0)))))))), (u2 0, .inr (0, [.int (zS 0 0), .ref (u2 1)])), (u2 1, .inl (cA 0, 10, .inl (zS 1))), (u3 0, .inr (0, [.int (zS 0 0), .ref (u3 1)])), (u3 1, .inl (cA 0, 10, .inl (zS 1)))] _ := hP
  have hD : va_D A [(h, .inr (1, [.ref q1, .int 0])), (q1, .inl (cA 3, 2, .inr (.inr (.inr (.inr (va_up (va_up (fun _ => none) 0 (some (u2 0))) 1 (some (u3 0)))))))), (u2 0, .inr (0, [.int (zS 0 0), .ref (u2 1)])), (u2 1, .inl (cA 0, 10, .inl (zS 1))), (u3 0, .inr (0, [.int (zS 0 0), .ref (u3 1)])), (u3 1, .inl (cA 0, 10, .inl (zS 1)))] := hD
  refine lv_aload_n (pc := 32) hx hb dX1_init_32 rfl (lv_at hl 0 rfl) ?_
  refine lv_iconst (v := (0 : Int32)) (pc := 33) hx hb dX1_init_33 (by decide) ?_
  refine va_put (D := D) (pc := 34) (ci := 1) (v := .int (0 : Int32)) (ty := .int) (C := RX1) (T := TX1) (N := 2) hx hb hts inlX1 tyX1 tyX1_ok nmX1 hown hK hP hD hS 0 rfl rfl 1 (by decide) (hts _ fl_RX1_16) (fun _ h9 => h9) rfl (by decide +kernel) rfl rfl (Nat.le_of_ble_eq_true rfl) dX1_init_34 (fun H locs hP hD hS => ?_)
  have hP : va_P D vwCl [(h, .inr (1, [.ref q1, .int (0 : Int32)])), (q1, .inl (cA 3, 2, .inr (.inr (.inr (.inr (va_up (va_up (fun _ => none) 0 (some (u2 0))) 1 (some (u3 0)))))))), (u2 0, .inr (0, [.int (zS 0 0), .ref (u2 1)])), (u2 1, .inl (cA 0, 10, .inl (zS 1))), (u3 0, .inr (0, [.int (zS 0 0), .ref (u3 1)])), (u3 1, .inl (cA 0, 10, .inl (zS 1)))] _ := hP
  have hD : va_D A [(h, .inr (1, [.ref q1, .int (0 : Int32)])), (q1, .inl (cA 3, 2, .inr (.inr (.inr (.inr (va_up (va_up (fun _ => none) 0 (some (u2 0))) 1 (some (u3 0)))))))), (u2 0, .inr (0, [.int (zS 0 0), .ref (u2 1)])), (u2 1, .inl (cA 0, 10, .inl (zS 1))), (u3 0, .inr (0, [.int (zS 0 0), .ref (u3 1)])), (u3 1, .inl (cA 0, 10, .inl (zS 1)))] := hD
  have hqf : (va_up (va_up (fun _ => none) 0 (some (u2 0))) 1 (some (u3 0))) = qf2 (u2 0) (u3 0) := qf2_up _ _
  rw [hqf] at hP hD
  have hP : va_P D vwCl (w_K cA (fun k => [h, q1, u2 0, u2 1, u3 0, u3 1].getD k 0) zS) _ := hP.sub [0, 1, 2, 3, 4, 5] rfl
  have hD : va_D A (w_K cA (fun k => [h, q1, u2 0, u2 1, u3 0, u3 1].getD k 0) zS) := hD.sub [0, 1, 2, 3, 4, 5] (by decide) rfl
  exact ret_n (W1 := (fun u => w_K cA u zS)) (fun k => [h, q1, u2 0, u2 1, u3 0, u3 1].getD k 0) rfl C hP hD hS dX1_init_37
end PCtor
