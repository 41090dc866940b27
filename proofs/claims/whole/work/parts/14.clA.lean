section PClA
variable {p : Program} {l : Launch} {e : Env} {R : Room} {s : State} {m : MethodId} {args : Array Value} {below : List Frame} {meth : Method} {c : Code} {H : Heap} {locs : List Loc} {cells slots : Nat} {Q : State → Prop}
variable {D : va_G} {cA : Nat → ClassId} {cc : ByteArray} {nL : Nat} {own : String} {ret : Option FieldType} {pc : Nat} {ls : Array Slot} {rest : List Value} {A : Nat → Prop} {a b d : Nat → Nat} {S T U : St}
def w_F (cA : Nat → ClassId) (a : Nat → Nat) (S : St) : va_W := [(a 0, .inr (0, [.int (S 0 0), .ref (a 1)])), (a 1, .inl (cA 0, 10, .inl (S 1)))]
theorem fl_RX0_9 : Cond.fieldLink RX0 9 "SevenOnStrike$Figures" "mask" "I" ∈ wsL_law := by decide +kernel
theorem ge_RX0_9_F_0_0 (C : Cx p s m args meth c D cA cc nL RX0 ret) (hP : va_P D vwCl (w_F cA a S) H) (hdg : decode cc pc = .ok (.getfield 9, 3)) (kk : W p l e R s m args below meth c H locs cells slots Q (F0 m (pc + 3) ls (.int (S 0 0) :: rest))) : W p l e R s m args below meth c H locs cells slots Q (F0 m pc ls (.ref (a 0) :: rest)) := by
  obtain ⟨hx, hb, -, hown, hts, hK, -, -, -⟩ := C
  exact va_get (D := D) (ci := 0) (v := .int (S 0 0)) (C := RX0) (T := TX0) (N := 2) hx hb hts inlX0 hown hK hP 0 rfl rfl 0 (by decide) (hts _ fl_RX0_9) (fun _ h9 => h9) rfl hdg kk
def fX0_isOnStrike (N : Nat) (S : St) (p1 : Int32) : Option (Int32) :=
  if (((S 0 0) >>> (p1 &&& 31)) &&& (1 : Int32)) = (1 : Int32) then (some ((1 : Int32))) else (some ((0 : Int32)))
set_option maxRecDepth 100000 in
set_option maxHeartbeats 4000000 in
theorem wX0_isOnStrike (C : Cx p s m args meth c D cA cX0_isOnStrike 2 RX0 (some .boolean)) (hA : ∀ q : Nat, s.heap.size ≤ q → A q) {N : Nat} {z : Int32} {S : St} {p1 : Int32} (hf : fX0_isOnStrike N S p1 = some z) {H : Heap} {locs : List Loc} {ls : Array Slot} (hP : va_P D vwCl (w_F cA a S) H) (hD : va_D A (w_F cA a S)) (hS : va_S A s.heap H locs) (hl : lv_has ls 2 [(0, .ref (a 0)), (1, .int p1)]) : W p l e (rmU 0 0 0 0) s m args below meth c H locs 0 0 (MQ below (QI D A z (w_F cA a S)) args s 0 0 A) (F0 m 0 ls []) := by
  obtain ⟨hx, hb, hml, hown, hts, hK, hN, hr, hlk⟩ := id C
  unfold fX0_isOnStrike at hf
  refine lv_aload_n (pc := 0) hx hb dX0_isOnStrike_0 rfl (lv_at hl 0 rfl) ?_
  refine ge_RX0_9_F_0_0 (pc := 1) C hP dX0_isOnStrike_1 ?_
  refine lv_iload_n (pc := 4) hx hb dX0_isOnStrike_4 rfl (lv_at hl 1 rfl) ?_
  refine lv_ishr (pc := 5) hx hb dX0_isOnStrike_5 ?_
  refine lv_iconst (v := (1 : Int32)) (pc := 6) hx hb dX0_isOnStrike_6 (by decide) ?_
  refine lv_iand (pc := 7) hx hb dX0_isOnStrike_7 ?_
  refine lv_iconst (v := (1 : Int32)) (pc := 8) hx hb dX0_isOnStrike_8 (by decide) ?_
  refine lv_icmp_ne (tgt := 16) (pc := 9) hx hb dX0_isOnStrike_9 (by decide) (fun c1 => ?_) (fun c1 => ?_)
  · have hf := pt_f c1 hf
    refine lv_iconst (v := (0 : Int32)) (pc := 16) hx hb dX0_isOnStrike_16 (by decide) ?_
    cases hf
    exact ret_z C (Or.inl rfl) hP hD hS dX0_isOnStrike_17
  · have hf := pt_t c1 hf
    refine lv_iconst (v := (1 : Int32)) (pc := 12) hx hb dX0_isOnStrike_12 (by decide) ?_
    refine lv_goto (tgt := 17) (pc := 13) hx hb dX0_isOnStrike_13 (by decide) ?_
    cases hf
    exact ret_z C (Or.inr rfl) hP hD hS dX0_isOnStrike_17
set_option maxRecDepth 100000 in
set_option maxHeartbeats 4000000 in
theorem kX0_isOnStrike (l : Launch) (D : va_G) (cA : Nat → ClassId) (a : Nat → Nat) {N : Nat} {S : St} {p1 : Int32} {z : Int32} (hf : fX0_isOnStrike N S p1 = some z) : CtI l yX0_isOnStrike cX0_isOnStrike 2 (some .boolean) 0 0 D cA (w_F cA a S) (w_F cA a S) [.ref (a 0), .int p1] z := by
  intro sz
  refine Met.ofW (cc := cX0_isOnStrike) (maxL := 2) (ret := (some .boolean)) (by decide) rfl ?_
  intro p e s m args below meth c s₁ B hml hv
  obtain ⟨rfl, hsz, hP, hK, hD0⟩ := hv
  subst hsz
  have C : Cx p s m _ meth c D cA cX0_isOnStrike 2 RX0 (some .boolean) := Cx.of B hml hK
  have hD := hD0.self (sz := s.heap.size)
  have hA : ∀ q : Nat, s.heap.size ≤ q → va_A (w_F cA a S) s.heap.size q := fun q h => Or.inr h
  have hS : va_S (va_A (w_F cA a S) s.heap.size) s.heap s.heap [] := va_S.rf
  have hl := lv_entry ([.ref (a 0), .int p1]) (n := 2) (Nat.le_of_ble_eq_true rfl)
  rw [lg_entry_eq]
  generalize (lg_sl ([.ref (a 0), .int p1]) ++ List.replicate (2 - (lg_sl ([.ref (a 0), .int p1])).length) Slot.unset).toArray = ls at hl ⊢
  exact wX0_isOnStrike C hA hf hP hD hS hl
theorem lk_RX0_19 : LkS RX0 19 yJ6_bitCount_0f7a4 cJ6_bitCount_0f7a4 1 (some .int) 1 := ⟨⟨by decide +kernel, by decide +kernel, by decide +kernel, by decide +kernel, by decide +kernel, by decide +kernel⟩, by decide +kernel⟩
def fX0_strikers (N : Nat) (S : St) : Option (Int32) :=
  Option.bind (fJ6_bitCount_0f7a4 N ((S 0 0))) (fun q1 => some q1)
set_option maxRecDepth 100000 in
set_option maxHeartbeats 4000000 in
theorem wX0_strikers (C : Cx p s m args meth c D cA cX0_strikers 1 RX0 (some .int)) (hA : ∀ q : Nat, s.heap.size ≤ q → A q) {N : Nat} {z : Int32} {S : St} (hf : fX0_strikers N S = some z) {H : Heap} {locs : List Loc} {ls : Array Slot} (hP : va_P D vwCl (w_F cA a S) H) (hD : va_D A (w_F cA a S)) (hS : va_S A s.heap H locs) (hl : lv_has ls 1 [(0, .ref (a 0))]) : W p l e (rmU 1 20 0 0) s m args below meth c H locs 0 0 (MQ below (QI D A z (w_F cA a S)) args s 0 0 A) (F0 m 0 ls []) := by
  obtain ⟨hx, hb, hml, hown, hts, hK, hN, hr, hlk⟩ := id C
  unfold fX0_strikers at hf
  refine lv_aload_n (pc := 0) hx hb dX0_strikers_0 rfl (lv_at hl 0 rfl) ?_
  refine ge_RX0_9_F_0_0 (pc := 1) C hP dX0_strikers_1 ?_
  obtain ⟨q1, hq1, hf⟩ := pt_b hf
  have hPc : va_P D vwCl ([] : va_W) H := hP.sub [] rfl
  have hDc : va_D A ([] : va_W) := hD.sub [] (by decide) rfl
  refine prt_i (runU_S (pc := 4) (As := [.int ((S 0 0))]) (rest := []) C lk_RX0_19 (kJ6_bitCount_0f7a4 l D cA hq1 H.size) ⟨Nat.le_of_ble_eq_true rfl, Nat.le_of_ble_eq_true rfl⟩ ⟨Nat.le_refl _, Nat.le_refl _⟩ hPc hDc hl.1 rfl (Nat.le_of_ble_eq_true rfl) dX0_strikers_4) hP hD hS hA [] rfl (fun H locs hP hD hS => ?_)
  cases hf
  exact ret_i C hP hD hS dX0_strikers_7
set_option maxRecDepth 100000 in
set_option maxHeartbeats 4000000 in
theorem kX0_strikers (l : Launch) (D : va_G) (cA : Nat → ClassId) (a : Nat → Nat) {N : Nat} {S : St} {z : Int32} (hf : fX0_strikers N S = some z) : CtI l yX0_strikers cX0_strikers 1 (some .int) 1 20 D cA (w_F cA a S) (w_F cA a S) [.ref (a 0)] z := by
  intro sz
  refine Met.ofW (cc := cX0_strikers) (maxL := 1) (ret := (some .int)) (by decide) rfl ?_
  intro p e s m args below meth c s₁ B hml hv
  obtain ⟨rfl, hsz, hP, hK, hD0⟩ := hv
  subst hsz
  have C : Cx p s m _ meth c D cA cX0_strikers 1 RX0 (some .int) := Cx.of B hml hK
  have hD := hD0.self (sz := s.heap.size)
  have hA : ∀ q : Nat, s.heap.size ≤ q → va_A (w_F cA a S) s.heap.size q := fun q h => Or.inr h
  have hS : va_S (va_A (w_F cA a S) s.heap.size) s.heap s.heap [] := va_S.rf
  have hl := lv_entry ([.ref (a 0)]) (n := 1) (Nat.le_of_ble_eq_true rfl)
  rw [lg_entry_eq]
  generalize (lg_sl ([.ref (a 0)]) ++ List.replicate (1 - (lg_sl ([.ref (a 0)])).length) Slot.unset).toArray = ls at hl ⊢
  exact wX0_strikers C hA hf hP hD hS hl
def w_F_F (cA : Nat → ClassId) (a : Nat → Nat) (S : St) (b : Nat → Nat) (T : St) : va_W := [(a 0, .inr (0, [.int (S 0 0), .ref (a 1)])), (a 1, .inl (cA 0, 10, .inl (S 1))), (b 0, .inr (0, [.int (T 0 0), .ref (b 1)])), (b 1, .inl (cA 0, 10, .inl (T 1)))]
theorem ge_RX0_9_F_F_1_0 (C : Cx p s m args meth c D cA cc nL RX0 ret) (hP : va_P D vwCl (w_F_F cA a S b T) H) (hdg : decode cc pc = .ok (.getfield 9, 3)) (kk : W p l e R s m args below meth c H locs cells slots Q (F0 m (pc + 3) ls (.int (T 0 0) :: rest))) : W p l e R s m args below meth c H locs cells slots Q (F0 m pc ls (.ref (b 0) :: rest)) := by
  obtain ⟨hx, hb, -, hown, hts, hK, -, -, -⟩ := C
  exact va_get (D := D) (ci := 0) (v := .int (T 0 0)) (C := RX0) (T := TX0) (N := 2) hx hb hts inlX0 hown hK hP 2 rfl rfl 0 (by decide) (hts _ fl_RX0_9) (fun _ h9 => h9) rfl hdg kk
theorem pu_RX0_9_F_F_0_0 {v : Int32} (C : Cx p s m args meth c D cA cc nL RX0 ret) (hP : va_P D vwCl (w_F_F cA a S b T) H) (hD : va_D A (w_F_F cA a S b T)) (hS : va_S A s.heap H locs) (hdg : decode cc pc = .ok (.putfield 9, 3)) (kk : ∀ (H1 : Heap) (locs1 : List Loc), va_P D vwCl (w_F_F cA a (stf S 0 v) b T) H1 → va_D A (w_F_F cA a (stf S 0 v) b T) → va_S A s.heap H1 locs1 → W p l e R s m args below meth c H1 locs1 cells slots Q (F0 m (pc + 3) ls rest)) : W p l e R s m args below meth c H locs cells slots Q (F0 m pc ls (.int v :: .ref (a 0) :: rest)) := by
  obtain ⟨hx, hb, -, hown, hts, hK, -, -, -⟩ := C
  exact va_put (D := D) (ci := 0) (v := .int v) (ty := .int) (C := RX0) (T := TX0) (N := 2) hx hb hts inlX0 tyX0 tyX0_ok nmX0 hown hK hP hD hS 0 rfl rfl 0 (by decide) (hts _ fl_RX0_9) (fun _ h9 => h9) rfl (by decide +kernel) rfl rfl (Nat.le_of_ble_eq_true rfl) hdg (fun H1 locs1 h1 h2 h3 => kk H1 locs1 h1 h2 h3)
theorem fl_RX0_15 : Cond.fieldLink RX0 15 "SevenOnStrike$Figures" "standIns" "[I" ∈ wsL_law := by decide +kernel
theorem ge_RX0_15_F_F_1_0 (C : Cx p s m args meth c D cA cc nL RX0 ret) (hP : va_P D vwCl (w_F_F cA a S b T) H) (hdg : decode cc pc = .ok (.getfield 15, 3)) (kk : W p l e R s m args below meth c H locs cells slots Q (F0 m (pc + 3) ls (.ref (b 1) :: rest))) : W p l e R s m args below meth c H locs cells slots Q (F0 m pc ls (.ref (b 0) :: rest)) := by
  obtain ⟨hx, hb, -, hown, hts, hK, -, -, -⟩ := C
  exact va_get (D := D) (ci := 0) (v := .ref (b 1)) (C := RX0) (T := TX0) (N := 2) hx hb hts inlX0 hown hK hP 2 rfl rfl 1 (by decide) (hts _ fl_RX0_15) (fun _ h9 => h9) rfl hdg kk
theorem ge_RX0_15_F_F_0_0 (C : Cx p s m args meth c D cA cc nL RX0 ret) (hP : va_P D vwCl (w_F_F cA a S b T) H) (hdg : decode cc pc = .ok (.getfield 15, 3)) (kk : W p l e R s m args below meth c H locs cells slots Q (F0 m (pc + 3) ls (.ref (a 1) :: rest))) : W p l e R s m args below meth c H locs cells slots Q (F0 m pc ls (.ref (a 0) :: rest)) := by
  obtain ⟨hx, hb, -, hown, hts, hK, -, -, -⟩ := C
  exact va_get (D := D) (ci := 0) (v := .ref (a 1)) (C := RX0) (T := TX0) (N := 2) hx hb hts inlX0 hown hK hP 0 rfl rfl 1 (by decide) (hts _ fl_RX0_15) (fun _ h9 => h9) rfl hdg kk
theorem lc_RX0_25 : Cond.methodLink RX0 25 arraycopyName ∈ wsL_law ∧ Cond.native arraycopyName ∈ wsL_law ∧ Cond.static arraycopyName ∈ wsL_law ∧ Cond.initialized "java/lang/System" ∈ wsL_law := ⟨by decide +kernel, by decide +kernel, by decide +kernel, by decide +kernel⟩
def fX0_copyFrom (N : Nat) (S : St) (T : St) : Option (St) :=
  some ((va_up (stf S 0 ((T 0 0))) 1 (va_cpy (T 1) ((stf S 0 ((T 0 0))) 1) 0 0 10)))
set_option maxRecDepth 100000 in
set_option maxHeartbeats 4000000 in
theorem wX0_copyFrom (C : Cx p s m args meth c D cA cX0_copyFrom 2 RX0 none) (hA : ∀ q : Nat, s.heap.size ≤ q → A q) {N : Nat} {z : St} {S : St} {T : St} (hf : fX0_copyFrom N S T = some z) {H : Heap} {locs : List Loc} {ls : Array Slot} (hP : va_P D vwCl (w_F_F cA a S b T) H) (hD : va_D A (w_F_F cA a S b T)) (hS : va_S A s.heap H locs) (hl : lv_has ls 2 [(0, .ref (a 0)), (1, .ref (b 0))]) : W p l e (rmU 1 30 0 0) s m args below meth c H locs 0 0 (MQ below (QV D A (w_F_F cA a z b T)) args s 0 0 A) (F0 m 0 ls []) := by
  obtain ⟨hx, hb, hml, hown, hts, hK, hN, hr, hlk⟩ := id C
  unfold fX0_copyFrom at hf
  refine lv_aload_n (pc := 0) hx hb dX0_copyFrom_0 rfl (lv_at hl 0 rfl) ?_
  refine lv_aload_n (pc := 1) hx hb dX0_copyFrom_1 rfl (lv_at hl 1 rfl) ?_
  refine ge_RX0_9_F_F_1_0 (pc := 2) C hP dX0_copyFrom_2 ?_
  refine pu_RX0_9_F_F_0_0 (pc := 5) C hP hD hS dX0_copyFrom_5 (fun H locs hP hD hS => ?_)
  refine lv_aload_n (pc := 8) hx hb dX0_copyFrom_8 rfl (lv_at hl 1 rfl) ?_
  refine ge_RX0_15_F_F_1_0 (pc := 9) C hP dX0_copyFrom_9 ?_
  refine lv_iconst (v := (0 : Int32)) (pc := 12) hx hb dX0_copyFrom_12 (by decide) ?_
  refine lv_aload_n (pc := 13) hx hb dX0_copyFrom_13 rfl (lv_at hl 0 rfl) ?_
  refine ge_RX0_15_F_F_0_0 (pc := 14) C hP dX0_copyFrom_14 ?_
  refine lv_iconst (v := (0 : Int32)) (pc := 17) hx hb dX0_copyFrom_17 (by decide) ?_
  refine lv_bipush (v := (10 : Int32)) (pc := 18) hx hb dX0_copyFrom_18 (by decide) ?_
  refine va_copyi (D := D) (pc := 20) (ty := .int) hx hb (hml.trans hl.1.symm) hown (hts _ lc_RX0_25.1) (hts _ lc_RX0_25.2.1) (hts _ lc_RX0_25.2.2.1) (hts _ lc_RX0_25.2.2.2) hK hP hD hS 3 1 0 0 rfl rfl rfl rfl rfl (by decide) (by decide) (by decide) (by decide) (by decide) (fun _ _ => rfl) (Nat.le_of_ble_eq_true rfl) (Nat.le_of_ble_eq_true rfl) dX0_copyFrom_20 (fun H locs hP hD hS => ?_)
  have hP : va_P D vwCl (w_F_F cA a (va_up (stf S 0 ((T 0 0))) 1 (va_cpy (T 1) ((stf S 0 ((T 0 0))) 1) 0 0 10)) b T) H := hP
  have hD : va_D A (w_F_F cA a (va_up (stf S 0 ((T 0 0))) 1 (va_cpy (T 1) ((stf S 0 ((T 0 0))) 1) 0 0 10)) b T) := hD
  cases hf
  exact ret_v C hP hD hS dX0_copyFrom_23
set_option maxRecDepth 100000 in
set_option maxHeartbeats 4000000 in
theorem kX0_copyFrom (l : Launch) (D : va_G) (cA : Nat → ClassId) (a : Nat → Nat) (b : Nat → Nat) {N : Nat} {S : St} {T : St} {z : St} (hf : fX0_copyFrom N S T = some z) : CtV l yX0_copyFrom cX0_copyFrom 2 none 1 30 D cA (w_F_F cA a S b T) (w_F_F cA a z b T) [.ref (a 0), .ref (b 0)] := by
  intro sz
  refine Met.ofW (cc := cX0_copyFrom) (maxL := 2) (ret := none) (by decide) rfl ?_
  intro p e s m args below meth c s₁ B hml hv
  obtain ⟨rfl, hsz, hP, hK, hD0⟩ := hv
  subst hsz
  have C : Cx p s m _ meth c D cA cX0_copyFrom 2 RX0 none := Cx.of B hml hK
  have hD := hD0.self (sz := s.heap.size)
  have hA : ∀ q : Nat, s.heap.size ≤ q → va_A (w_F_F cA a S b T) s.heap.size q := fun q h => Or.inr h
  have hS : va_S (va_A (w_F_F cA a S b T) s.heap.size) s.heap s.heap [] := va_S.rf
  have hl := lv_entry ([.ref (a 0), .ref (b 0)]) (n := 2) (Nat.le_of_ble_eq_true rfl)
  rw [lg_entry_eq]
  generalize (lg_sl ([.ref (a 0), .ref (b 0)]) ++ List.replicate (2 - (lg_sl ([.ref (a 0), .ref (b 0)])).length) Slot.unset).toArray = ls at hl ⊢
  exact wX0_copyFrom C hA hf hP hD hS hl
theorem ge_RX0_15_F_0_0 (C : Cx p s m args meth c D cA cc nL RX0 ret) (hP : va_P D vwCl (w_F cA a S) H) (hdg : decode cc pc = .ok (.getfield 15, 3)) (kk : W p l e R s m args below meth c H locs cells slots Q (F0 m (pc + 3) ls (.ref (a 1) :: rest))) : W p l e R s m args below meth c H locs cells slots Q (F0 m pc ls (.ref (a 0) :: rest)) := by
  obtain ⟨hx, hb, -, hown, hts, hK, -, -, -⟩ := C
  exact va_get (D := D) (ci := 0) (v := .ref (a 1)) (C := RX0) (T := TX0) (N := 2) hx hb hts inlX0 hown hK hP 0 rfl rfl 1 (by decide) (hts _ fl_RX0_15) (fun _ h9 => h9) rfl hdg kk
theorem sr_F_0_1 {i v : Int32} {j : Nat} (C : Cx p s m args meth c D cA cc nL own ret) (hP : va_P D vwCl (w_F cA a S) H) (hD : va_D A (w_F cA a S)) (hS : va_S A s.heap H locs) (hin : vp_in i 10) (hj : i.toNatClampNeg = j) (hdg : decode cc pc = .ok (.iastore, 1)) (kk : ∀ (H1 : Heap) (locs1 : List Loc), va_P D vwCl (w_F cA a (sti S 1 j v)) H1 → va_D A (w_F cA a (sti S 1 j v)) → va_S A s.heap H1 locs1 → W p l e R s m args below meth c H1 locs1 cells slots Q (F0 m (pc + 1) ls rest)) : W p l e R s m args below meth c H locs cells slots Q (F0 m pc ls (.int v :: .int i :: .ref (a 1) :: rest)) := by
  obtain ⟨hx, hb, -, hown, hts, hK, -, -, -⟩ := C
  subst hj
  exact va_iast hx hb hK hP hD hS 1 0 rfl rfl hin hdg (fun H1 locs1 h1 h2 h3 => kk H1 locs1 h1 h2 h3)
theorem pu_RX0_9_F_0_0 {v : Int32} (C : Cx p s m args meth c D cA cc nL RX0 ret) (hP : va_P D vwCl (w_F cA a S) H) (hD : va_D A (w_F cA a S)) (hS : va_S A s.heap H locs) (hdg : decode cc pc = .ok (.putfield 9, 3)) (kk : ∀ (H1 : Heap) (locs1 : List Loc), va_P D vwCl (w_F cA a (stf S 0 v)) H1 → va_D A (w_F cA a (stf S 0 v)) → va_S A s.heap H1 locs1 → W p l e R s m args below meth c H1 locs1 cells slots Q (F0 m (pc + 3) ls rest)) : W p l e R s m args below meth c H locs cells slots Q (F0 m pc ls (.int v :: .ref (a 0) :: rest)) := by
  obtain ⟨hx, hb, -, hown, hts, hK, -, -, -⟩ := C
  exact va_put (D := D) (ci := 0) (v := .int v) (ty := .int) (C := RX0) (T := TX0) (N := 2) hx hb hts inlX0 tyX0 tyX0_ok nmX0 hown hK hP hD hS 0 rfl rfl 0 (by decide) (hts _ fl_RX0_9) (fun _ h9 => h9) rfl (by decide +kernel) rfl rfl (Nat.le_of_ble_eq_true rfl) hdg (fun H1 locs1 h1 h2 h3 => kk H1 locs1 h1 h2 h3)
def fX0_clear_b7 (N : Nat) (g7 : Int32 × St → Option (St)) (x1 : Int32) (S : St) : Option (St) :=
  if (10 : Int32) ≤ x1 then (some S) else (if ¬ (x1 < 0 ∨ 10 ≤ x1.toNatClampNeg) then (g7 (((x1 + 1), (sti S 1 x1.toNatClampNeg x1)))) else none)
def fX0_clear_l7 (N : Nat) (k : Nat) (q : Int32 × St) : Option (St) := lpN (fun g q => fX0_clear_b7 N  g q.1 q.2) k q
def fX0_clear (N : Nat) (S : St) : Option (St) :=
  fX0_clear_l7 N  N (((0 : Int32), (stf S 0 ((0 : Int32)))))
set_option maxRecDepth 100000 in
set_option maxHeartbeats 4000000 in
theorem wX0_clear_7 (C : Cx p s m args meth c D cA cX0_clear 2 RX0 none) (hA : ∀ q : Nat, s.heap.size ≤ q → A q) {N : Nat} {z : St} : ∀ (k : Nat) (x1 : Int32) (S : St), fX0_clear_l7 N  k (x1, S) = some z → ∀ (H : Heap) (locs : List Loc) (ls : Array Slot), va_P D vwCl (w_F cA a S) H → va_D A (w_F cA a S) → va_S A s.heap H locs → lv_has ls 2 [(0, .ref (a 0)), (1, .int x1)] → W p l e (rmU 0 0 0 0) s m args below meth c H locs 0 0 (MQ below (QV D A (w_F cA a z)) args s 0 0 A) (F0 m 7 ls []) := by
  obtain ⟨hx, hb, hml, hown, hts, hK, hN, hr, hlk⟩ := id C
  intro k
  induction k with
  | zero =>
    intro x1 S hf
    have hf : (none : Option (St)) = some z := hf
    cases hf
  | succ k hg7 =>
    intro x1 S hf H locs ls hP hD hS hl
    have hf : fX0_clear_b7 N  (fX0_clear_l7 N  k) x1 S = some z := hf
    unfold fX0_clear_b7 at hf
    refine lv_iload_n (pc := 7) hx hb dX0_clear_7 rfl (lv_at hl 1 rfl) ?_
    refine lv_bipush (v := (10 : Int32)) (pc := 8) hx hb dX0_clear_8 (by decide) ?_
    refine lv_icmp_ge (tgt := 26) (pc := 10) hx hb dX0_clear_10 (by decide) (fun c1 => ?_) (fun c1 => ?_)
    · have hf := pt_t c1 hf
      cases hf
      exact ret_v C hP hD hS dX0_clear_26
    · have hf := pt_f c1 hf
      refine lv_aload_n (pc := 13) hx hb dX0_clear_13 rfl (lv_at hl 0 rfl) ?_
      refine ge_RX0_15_F_0_0 (pc := 14) C hP dX0_clear_14 ?_
      refine lv_iload_n (pc := 17) hx hb dX0_clear_17 rfl (lv_at hl 1 rfl) ?_
      refine lv_iload_n (pc := 18) hx hb dX0_clear_18 rfl (lv_at hl 1 rfl) ?_
      obtain ⟨h2, hf⟩ := pt_g hf
      refine sr_F_0_1 (pc := 19) (j := x1.toNatClampNeg) C hP hD hS h2 rfl dX0_clear_19 (fun H locs hP hD hS => ?_)
      refine lv_iinc (v := (x1 + 1)) (lv' := [(1, .int ((x1 + 1))), (0, .ref (a 0))]) (pc := 20) hx hb dX0_clear_20 hl (k := 1) rfl (by rfl) (by decide) rfl (fun ls hl => ?_)
      refine lv_goto (tgt := 7) (pc := 23) hx hb dX0_clear_23 (by decide) ?_
      exact hg7 ((x1 + 1)) ((sti S 1 x1.toNatClampNeg x1)) hf _ _ _ hP hD hS (lv_sub hl [1, 0] rfl)
set_option maxRecDepth 100000 in
set_option maxHeartbeats 4000000 in
theorem wX0_clear (C : Cx p s m args meth c D cA cX0_clear 2 RX0 none) (hA : ∀ q : Nat, s.heap.size ≤ q → A q) {N : Nat} {z : St} {S : St} (hf : fX0_clear N S = some z) {H : Heap} {locs : List Loc} {ls : Array Slot} (hP : va_P D vwCl (w_F cA a S) H) (hD : va_D A (w_F cA a S)) (hS : va_S A s.heap H locs) (hl : lv_has ls 2 [(0, .ref (a 0))]) : W p l e (rmU 0 0 0 0) s m args below meth c H locs 0 0 (MQ below (QV D A (w_F cA a z)) args s 0 0 A) (F0 m 0 ls []) := by
  obtain ⟨hx, hb, hml, hown, hts, hK, hN, hr, hlk⟩ := id C
  unfold fX0_clear at hf
  refine lv_aload_n (pc := 0) hx hb dX0_clear_0 rfl (lv_at hl 0 rfl) ?_
  refine lv_iconst (v := (0 : Int32)) (pc := 1) hx hb dX0_clear_1 (by decide) ?_
  refine pu_RX0_9_F_0_0 (pc := 2) C hP hD hS dX0_clear_2 (fun H locs hP hD hS => ?_)
  refine lv_iconst (v := (0 : Int32)) (pc := 5) hx hb dX0_clear_5 (by decide) ?_
  refine lv_istore_n (lv' := [(1, .int ((0 : Int32))), (0, .ref (a 0))]) (pc := 6) hx hb dX0_clear_6 rfl hl (by decide) rfl (fun ls hl => ?_)
  exact wX0_clear_7 C hA  _ ((0 : Int32)) ((stf S 0 ((0 : Int32)))) hf _ _ _ hP hD hS (lv_sub hl [1, 0] rfl)
set_option maxRecDepth 100000 in
set_option maxHeartbeats 4000000 in
theorem kX0_clear (l : Launch) (D : va_G) (cA : Nat → ClassId) (a : Nat → Nat) {N : Nat} {S : St} {z : St} (hf : fX0_clear N S = some z) : CtV l yX0_clear cX0_clear 2 none 0 0 D cA (w_F cA a S) (w_F cA a z) [.ref (a 0)] := by
  intro sz
  refine Met.ofW (cc := cX0_clear) (maxL := 2) (ret := none) (by decide) rfl ?_
  intro p e s m args below meth c s₁ B hml hv
  obtain ⟨rfl, hsz, hP, hK, hD0⟩ := hv
  subst hsz
  have C : Cx p s m _ meth c D cA cX0_clear 2 RX0 none := Cx.of B hml hK
  have hD := hD0.self (sz := s.heap.size)
  have hA : ∀ q : Nat, s.heap.size ≤ q → va_A (w_F cA a S) s.heap.size q := fun q h => Or.inr h
  have hS : va_S (va_A (w_F cA a S) s.heap.size) s.heap s.heap [] := va_S.rf
  have hl := lv_entry ([.ref (a 0)]) (n := 2) (Nat.le_of_ble_eq_true rfl)
  rw [lg_entry_eq]
  generalize (lg_sl ([.ref (a 0)]) ++ List.replicate (2 - (lg_sl ([.ref (a 0)])).length) Slot.unset).toArray = ls at hl ⊢
  exact wX0_clear C hA hf hP hD hS hl
def w_A (cA : Nat → ClassId) (a : Nat → Nat) (S : St) : va_W := [(a 0, .inl (cA 0, 10, .inl (S 0)))]
theorem ld_A_0_0 {i : Int32} {j : Nat} (C : Cx p s m args meth c D cA cc nL own ret) (hP : va_P D vwCl (w_A cA a S) H) (hin : vp_in i 10) (hj : i.toNatClampNeg = j) (hdg : decode cc pc = .ok (.iaload, 1)) (kk : W p l e R s m args below meth c H locs cells slots Q (F0 m (pc + 1) ls (.int (S 0 j) :: rest))) : W p l e R s m args below meth c H locs cells slots Q (F0 m pc ls (.int i :: .ref (a 0) :: rest)) := by
  obtain ⟨hx, hb, -, hown, hts, hK, -, -, -⟩ := C
  subst hj
  exact va_iald hx hb hK hP 0 0 rfl rfl hin hdg kk
def fX0_heardAs (N : Nat) (S : St) (p0 : Int32) (p1 : Int32) : Option (Int32) :=
  if ((p1 >>> (p0 &&& 31)) &&& (1 : Int32)) = (1 : Int32) then (if ¬ (p0 < 0 ∨ 10 ≤ p0.toNatClampNeg) then (some ((S 0 p0.toNatClampNeg))) else none) else (some p0)
set_option maxRecDepth 100000 in
set_option maxHeartbeats 4000000 in
theorem wX0_heardAs (C : Cx p s m args meth c D cA cX0_heardAs 3 RX0 (some .int)) (hA : ∀ q : Nat, s.heap.size ≤ q → A q) {N : Nat} {z : Int32} {S : St} {p0 : Int32} {p1 : Int32} (hf : fX0_heardAs N S p0 p1 = some z) {H : Heap} {locs : List Loc} {ls : Array Slot} (hP : va_P D vwCl (w_A cA a S) H) (hD : va_D A (w_A cA a S)) (hS : va_S A s.heap H locs) (hl : lv_has ls 3 [(0, .int p0), (1, .int p1), (2, .ref (a 0))]) : W p l e (rmU 0 0 0 0) s m args below meth c H locs 0 0 (MQ below (QI D A z (w_A cA a S)) args s 0 0 A) (F0 m 0 ls []) := by
  obtain ⟨hx, hb, hml, hown, hts, hK, hN, hr, hlk⟩ := id C
  unfold fX0_heardAs at hf
  refine lv_iload_n (pc := 0) hx hb dX0_heardAs_0 rfl (lv_at hl 1 rfl) ?_
  refine lv_iload_n (pc := 1) hx hb dX0_heardAs_1 rfl (lv_at hl 0 rfl) ?_
  refine lv_ishr (pc := 2) hx hb dX0_heardAs_2 ?_
  refine lv_iconst (v := (1 : Int32)) (pc := 3) hx hb dX0_heardAs_3 (by decide) ?_
  refine lv_iand (pc := 4) hx hb dX0_heardAs_4 ?_
  refine lv_iconst (v := (1 : Int32)) (pc := 5) hx hb dX0_heardAs_5 (by decide) ?_
  refine lv_icmp_ne (tgt := 15) (pc := 6) hx hb dX0_heardAs_6 (by decide) (fun c1 => ?_) (fun c1 => ?_)
  · have hf := pt_f c1 hf
    refine lv_iload_n (pc := 15) hx hb dX0_heardAs_15 rfl (lv_at hl 0 rfl) ?_
    cases hf
    exact ret_i C hP hD hS dX0_heardAs_16
  · have hf := pt_t c1 hf
    refine lv_aload_n (pc := 9) hx hb dX0_heardAs_9 rfl (lv_at hl 2 rfl) ?_
    refine lv_iload_n (pc := 10) hx hb dX0_heardAs_10 rfl (lv_at hl 0 rfl) ?_
    obtain ⟨h2, hf⟩ := pt_g hf
    refine ld_A_0_0 (pc := 11) (j := p0.toNatClampNeg) C hP h2 rfl dX0_heardAs_11 ?_
    refine lv_goto (tgt := 16) (pc := 12) hx hb dX0_heardAs_12 (by decide) ?_
    cases hf
    exact ret_i C hP hD hS dX0_heardAs_16
set_option maxRecDepth 100000 in
set_option maxHeartbeats 4000000 in
theorem kX0_heardAs (l : Launch) (D : va_G) (cA : Nat → ClassId) (a : Nat → Nat) {N : Nat} {S : St} {p0 : Int32} {p1 : Int32} {z : Int32} (hf : fX0_heardAs N S p0 p1 = some z) : CtI l yX0_heardAs cX0_heardAs 3 (some .int) 0 0 D cA (w_A cA a S) (w_A cA a S) [.int p0, .int p1, .ref (a 0)] z := by
  intro sz
  refine Met.ofW (cc := cX0_heardAs) (maxL := 3) (ret := (some .int)) (by decide) rfl ?_
  intro p e s m args below meth c s₁ B hml hv
  obtain ⟨rfl, hsz, hP, hK, hD0⟩ := hv
  subst hsz
  have C : Cx p s m _ meth c D cA cX0_heardAs 3 RX0 (some .int) := Cx.of B hml hK
  have hD := hD0.self (sz := s.heap.size)
  have hA : ∀ q : Nat, s.heap.size ≤ q → va_A (w_A cA a S) s.heap.size q := fun q h => Or.inr h
  have hS : va_S (va_A (w_A cA a S) s.heap.size) s.heap s.heap [] := va_S.rf
  have hl := lv_entry ([.int p0, .int p1, .ref (a 0)]) (n := 3) (Nat.le_of_ble_eq_true rfl)
  rw [lg_entry_eq]
  generalize (lg_sl ([.int p0, .int p1, .ref (a 0)]) ++ List.replicate (3 - (lg_sl ([.int p0, .int p1, .ref (a 0)])).length) Slot.unset).toArray = ls at hl ⊢
  exact wX0_heardAs C hA hf hP hD hS hl
def w_T (cA : Nat → ClassId) (a : Nat → Nat) (S : St) : va_W := [(a 0, .inr (6, [.ref (a 1), .int (S 0 0)])), (a 1, .inl (cA 1, 200, .inl (S 1)))]
theorem fl_RX7_13 : Cond.fieldLink RX7 13 "SevenOnStrike$Text" "length" "I" ∈ wsL_law := by decide +kernel
theorem ge_RX7_13_T_0_0 (C : Cx p s m args meth c D cA cc nL RX7 ret) (hP : va_P D vwCl (w_T cA a S) H) (hdg : decode cc pc = .ok (.getfield 13, 3)) (kk : W p l e R s m args below meth c H locs cells slots Q (F0 m (pc + 3) ls (.int (S 0 0) :: rest))) : W p l e R s m args below meth c H locs cells slots Q (F0 m pc ls (.ref (a 0) :: rest)) := by
  obtain ⟨hx, hb, -, hown, hts, hK, -, -, -⟩ := C
  exact va_get (D := D) (ci := 6) (v := .int (S 0 0)) (C := RX7) (T := TX7) (N := 2) hx hb hts inlX7 hown hK hP 0 rfl rfl 1 (by decide) (hts _ fl_RX7_13) (fun _ h9 => h9) rfl hdg kk
theorem fl_RX7_9 : Cond.fieldLink RX7 9 "SevenOnStrike$Text" "letters" "[B" ∈ wsL_law := by decide +kernel
theorem ge_RX7_9_T_0_0 (C : Cx p s m args meth c D cA cc nL RX7 ret) (hP : va_P D vwCl (w_T cA a S) H) (hdg : decode cc pc = .ok (.getfield 9, 3)) (kk : W p l e R s m args below meth c H locs cells slots Q (F0 m (pc + 3) ls (.ref (a 1) :: rest))) : W p l e R s m args below meth c H locs cells slots Q (F0 m pc ls (.ref (a 0) :: rest)) := by
  obtain ⟨hx, hb, -, hown, hts, hK, -, -, -⟩ := C
  exact va_get (D := D) (ci := 6) (v := .ref (a 1)) (C := RX7) (T := TX7) (N := 2) hx hb hts inlX7 hown hK hP 0 rfl rfl 0 (by decide) (hts _ fl_RX7_9) (fun _ h9 => h9) rfl hdg kk
theorem sr_T_0_1 {i v : Int32} {j : Nat} (C : Cx p s m args meth c D cA cc nL own ret) (hP : va_P D vwCl (w_T cA a S) H) (hD : va_D A (w_T cA a S)) (hS : va_S A s.heap H locs) (hin : vp_in i 200) (hj : i.toNatClampNeg = j) (hdg : decode cc pc = .ok (.bastore, 1)) (kk : ∀ (H1 : Heap) (locs1 : List Loc), va_P D vwCl (w_T cA a (sti S 1 j (vp_nar .byte v))) H1 → va_D A (w_T cA a (sti S 1 j (vp_nar .byte v))) → va_S A s.heap H1 locs1 → W p l e R s m args below meth c H1 locs1 cells slots Q (F0 m (pc + 1) ls rest)) : W p l e R s m args below meth c H locs cells slots Q (F0 m pc ls (.int v :: .int i :: .ref (a 1) :: rest)) := by
  obtain ⟨hx, hb, -, hown, hts, hK, -, -, -⟩ := C
  subst hj
  exact va_bast hx hb hK hP hD hS 1 1 rfl rfl hin hdg (fun H1 locs1 h1 h2 h3 => kk H1 locs1 h1 h2 h3)
theorem pu_RX7_13_T_0_0 {v : Int32} (C : Cx p s m args meth c D cA cc nL RX7 ret) (hP : va_P D vwCl (w_T cA a S) H) (hD : va_D A (w_T cA a S)) (hS : va_S A s.heap H locs) (hdg : decode cc pc = .ok (.putfield 13, 3)) (kk : ∀ (H1 : Heap) (locs1 : List Loc), va_P D vwCl (w_T cA a (stf S 0 v)) H1 → va_D A (w_T cA a (stf S 0 v)) → va_S A s.heap H1 locs1 → W p l e R s m args below meth c H1 locs1 cells slots Q (F0 m (pc + 3) ls rest)) : W p l e R s m args below meth c H locs cells slots Q (F0 m pc ls (.int v :: .ref (a 0) :: rest)) := by
  obtain ⟨hx, hb, -, hown, hts, hK, -, -, -⟩ := C
  exact va_put (D := D) (ci := 6) (v := .int v) (ty := .int) (C := RX7) (T := TX7) (N := 2) hx hb hts inlX7 tyX7 tyX7_ok nmX7 hown hK hP hD hS 0 rfl rfl 1 (by decide) (hts _ fl_RX7_13) (fun _ h9 => h9) rfl (by decide +kernel) rfl rfl (Nat.le_of_ble_eq_true rfl) hdg (fun H1 locs1 h1 h2 h3 => kk H1 locs1 h1 h2 h3)
def fX7_append (N : Nat) (S : St) (p1 : Int32) : Option (Int32 × St) :=
  if (S 0 0) < (200 : Int32) then (if ¬ ((S 0 0) < 0 ∨ 200 ≤ ((S 0 0)).toNatClampNeg) then (some ((1 : Int32), (stf (sti S 1 (((S 0 0)).toNatClampNeg) (vp_nar .byte p1.toInt8.toInt32)) 0 ((((sti S 1 (((S 0 0)).toNatClampNeg) (vp_nar .byte p1.toInt8.toInt32)) 0 0) + (1 : Int32)))))) else none) else (some ((0 : Int32), S))
set_option maxRecDepth 100000 in
set_option maxHeartbeats 4000000 in
theorem wX7_append (C : Cx p s m args meth c D cA cX7_append 2 RX7 (some .boolean)) (hA : ∀ q : Nat, s.heap.size ≤ q → A q) {N : Nat} {z : Int32 × St} {S : St} {p1 : Int32} (hf : fX7_append N S p1 = some z) {H : Heap} {locs : List Loc} {ls : Array Slot} (hP : va_P D vwCl (w_T cA a S) H) (hD : va_D A (w_T cA a S)) (hS : va_S A s.heap H locs) (hl : lv_has ls 2 [(0, .ref (a 0)), (1, .int p1)]) : W p l e (rmU 0 0 0 0) s m args below meth c H locs 0 0 (MQ below (QI D A z.1 (w_T cA a z.2)) args s 0 0 A) (F0 m 0 ls []) := by
  obtain ⟨hx, hb, hml, hown, hts, hK, hN, hr, hlk⟩ := id C
  unfold fX7_append at hf
  refine lv_aload_n (pc := 0) hx hb dX7_append_0 rfl (lv_at hl 0 rfl) ?_
  refine ge_RX7_13_T_0_0 (pc := 1) C hP dX7_append_1 ?_
  refine lv_sipush (v := (200 : Int32)) (pc := 4) hx hb dX7_append_4 (by decide) ?_
  refine lv_icmp_lt (tgt := 12) (pc := 7) hx hb dX7_append_7 (by decide) (fun c1 => ?_) (fun c1 => ?_)
  · have hf := pt_t c1 hf
    refine lv_aload_n (pc := 12) hx hb dX7_append_12 rfl (lv_at hl 0 rfl) ?_
    refine ge_RX7_9_T_0_0 (pc := 13) C hP dX7_append_13 ?_
    refine lv_aload_n (pc := 16) hx hb dX7_append_16 rfl (lv_at hl 0 rfl) ?_
    refine ge_RX7_13_T_0_0 (pc := 17) C hP dX7_append_17 ?_
    refine lv_iload_n (pc := 20) hx hb dX7_append_20 rfl (lv_at hl 1 rfl) ?_
    refine lv_i2b (v := p1.toInt8.toInt32) (pc := 21) hx hb dX7_append_21 rfl ?_
    obtain ⟨h2, hf⟩ := pt_g hf
    refine sr_T_0_1 (pc := 22) (j := ((S 0 0)).toNatClampNeg) C hP hD hS h2 rfl dX7_append_22 (fun H locs hP hD hS => ?_)
    refine lv_aload_n (pc := 23) hx hb dX7_append_23 rfl (lv_at hl 0 rfl) ?_
    refine lv_dup (pc := 24) hx hb dX7_append_24 rfl ?_
    refine ge_RX7_13_T_0_0 (pc := 25) C hP dX7_append_25 ?_
    refine lv_iconst (v := (1 : Int32)) (pc := 28) hx hb dX7_append_28 (by decide) ?_
    refine lv_iadd (pc := 29) hx hb dX7_append_29 ?_
    refine pu_RX7_13_T_0_0 (pc := 30) C hP hD hS dX7_append_30 (fun H locs hP hD hS => ?_)
    refine lv_iconst (v := (1 : Int32)) (pc := 33) hx hb dX7_append_33 (by decide) ?_
    cases hf
    exact ret_z C (Or.inr rfl) hP hD hS dX7_append_34
  · have hf := pt_f c1 hf
    refine lv_iconst (v := (0 : Int32)) (pc := 10) hx hb dX7_append_10 (by decide) ?_
    cases hf
    exact ret_z C (Or.inl rfl) hP hD hS dX7_append_11
set_option maxRecDepth 100000 in
set_option maxHeartbeats 4000000 in
theorem kX7_append (l : Launch) (D : va_G) (cA : Nat → ClassId) (a : Nat → Nat) {N : Nat} {S : St} {p1 : Int32} {z : Int32 × St} (hf : fX7_append N S p1 = some z) : CtI l yX7_append cX7_append 2 (some .boolean) 0 0 D cA (w_T cA a S) (w_T cA a z.2) [.ref (a 0), .int p1] z.1 := by
  intro sz
  refine Met.ofW (cc := cX7_append) (maxL := 2) (ret := (some .boolean)) (by decide) rfl ?_
  intro p e s m args below meth c s₁ B hml hv
  obtain ⟨rfl, hsz, hP, hK, hD0⟩ := hv
  subst hsz
  have C : Cx p s m _ meth c D cA cX7_append 2 RX7 (some .boolean) := Cx.of B hml hK
  have hD := hD0.self (sz := s.heap.size)
  have hA : ∀ q : Nat, s.heap.size ≤ q → va_A (w_T cA a S) s.heap.size q := fun q h => Or.inr h
  have hS : va_S (va_A (w_T cA a S) s.heap.size) s.heap s.heap [] := va_S.rf
  have hl := lv_entry ([.ref (a 0), .int p1]) (n := 2) (Nat.le_of_ble_eq_true rfl)
  rw [lg_entry_eq]
  generalize (lg_sl ([.ref (a 0), .int p1]) ++ List.replicate (2 - (lg_sl ([.ref (a 0), .int p1])).length) Slot.unset).toArray = ls at hl ⊢
  exact wX7_append C hA hf hP hD hS hl
def fX7_clear (N : Nat) (S : St) : Option (St) :=
  some ((stf S 0 ((0 : Int32))))
set_option maxRecDepth 100000 in
set_option maxHeartbeats 4000000 in
theorem wX7_clear (C : Cx p s m args meth c D cA cX7_clear 1 RX7 none) (hA : ∀ q : Nat, s.heap.size ≤ q → A q) {N : Nat} {z : St} {S : St} (hf : fX7_clear N S = some z) {H : Heap} {locs : List Loc} {ls : Array Slot} (hP : va_P D vwCl (w_T cA a S) H) (hD : va_D A (w_T cA a S)) (hS : va_S A s.heap H locs) (hl : lv_has ls 1 [(0, .ref (a 0))]) : W p l e (rmU 0 0 0 0) s m args below meth c H locs 0 0 (MQ below (QV D A (w_T cA a z)) args s 0 0 A) (F0 m 0 ls []) := by
  obtain ⟨hx, hb, hml, hown, hts, hK, hN, hr, hlk⟩ := id C
  unfold fX7_clear at hf
  refine lv_aload_n (pc := 0) hx hb dX7_clear_0 rfl (lv_at hl 0 rfl) ?_
  refine lv_iconst (v := (0 : Int32)) (pc := 1) hx hb dX7_clear_1 (by decide) ?_
  refine pu_RX7_13_T_0_0 (pc := 2) C hP hD hS dX7_clear_2 (fun H locs hP hD hS => ?_)
  cases hf
  exact ret_v C hP hD hS dX7_clear_5
set_option maxRecDepth 100000 in
set_option maxHeartbeats 4000000 in
theorem kX7_clear (l : Launch) (D : va_G) (cA : Nat → ClassId) (a : Nat → Nat) {N : Nat} {S : St} {z : St} (hf : fX7_clear N S = some z) : CtV l yX7_clear cX7_clear 1 none 0 0 D cA (w_T cA a S) (w_T cA a z) [.ref (a 0)] := by
  intro sz
  refine Met.ofW (cc := cX7_clear) (maxL := 1) (ret := none) (by decide) rfl ?_
  intro p e s m args below meth c s₁ B hml hv
  obtain ⟨rfl, hsz, hP, hK, hD0⟩ := hv
  subst hsz
  have C : Cx p s m _ meth c D cA cX7_clear 1 RX7 none := Cx.of B hml hK
  have hD := hD0.self (sz := s.heap.size)
  have hA : ∀ q : Nat, s.heap.size ≤ q → va_A (w_T cA a S) s.heap.size q := fun q h => Or.inr h
  have hS : va_S (va_A (w_T cA a S) s.heap.size) s.heap s.heap [] := va_S.rf
  have hl := lv_entry ([.ref (a 0)]) (n := 1) (Nat.le_of_ble_eq_true rfl)
  rw [lg_entry_eq]
  generalize (lg_sl ([.ref (a 0)]) ++ List.replicate (1 - (lg_sl ([.ref (a 0)])).length) Slot.unset).toArray = ls at hl ⊢
  exact wX7_clear C hA hf hP hD hS hl
theorem ld_T_0_1 {i : Int32} {j : Nat} (C : Cx p s m args meth c D cA cc nL own ret) (hP : va_P D vwCl (w_T cA a S) H) (hin : vp_in i 200) (hj : i.toNatClampNeg = j) (hdg : decode cc pc = .ok (.baload, 1)) (kk : W p l e R s m args below meth c H locs cells slots Q (F0 m (pc + 1) ls (.int (S 1 j) :: rest))) : W p l e R s m args below meth c H locs cells slots Q (F0 m pc ls (.int i :: .ref (a 1) :: rest)) := by
  obtain ⟨hx, hb, -, hown, hts, hK, -, -, -⟩ := C
  subst hj
  exact va_bald hx hb hK hP 1 1 rfl rfl hin hdg kk
def fX7_letterAt (N : Nat) (S : St) (p1 : Int32) : Option (Int32) :=
  if p1 < 0 then (some ((0 : Int32))) else (if (S 0 0) ≤ p1 then (some ((0 : Int32))) else (if ¬ (p1 < 0 ∨ 200 ≤ p1.toNatClampNeg) then (some ((S 1 p1.toNatClampNeg))) else none))
set_option maxRecDepth 100000 in
set_option maxHeartbeats 4000000 in
theorem wX7_letterAt (C : Cx p s m args meth c D cA cX7_letterAt 2 RX7 (some .int)) (hA : ∀ q : Nat, s.heap.size ≤ q → A q) {N : Nat} {z : Int32} {S : St} {p1 : Int32} (hf : fX7_letterAt N S p1 = some z) {H : Heap} {locs : List Loc} {ls : Array Slot} (hP : va_P D vwCl (w_T cA a S) H) (hD : va_D A (w_T cA a S)) (hS : va_S A s.heap H locs) (hl : lv_has ls 2 [(0, .ref (a 0)), (1, .int p1)]) : W p l e (rmU 0 0 0 0) s m args below meth c H locs 0 0 (MQ below (QI D A z (w_T cA a S)) args s 0 0 A) (F0 m 0 ls []) := by
  obtain ⟨hx, hb, hml, hown, hts, hK, hN, hr, hlk⟩ := id C
  unfold fX7_letterAt at hf
  refine lv_iload_n (pc := 0) hx hb dX7_letterAt_0 rfl (lv_at hl 1 rfl) ?_
  refine lv_if_lt (tgt := 21) (pc := 1) hx hb dX7_letterAt_1 (by decide) (fun c1 => ?_) (fun c1 => ?_)
  · have hf := pt_t c1 hf
    refine lv_iconst (v := (0 : Int32)) (pc := 21) hx hb dX7_letterAt_21 (by decide) ?_
    cases hf
    exact ret_i C hP hD hS dX7_letterAt_22
  · have hf := pt_f c1 hf
    refine lv_iload_n (pc := 4) hx hb dX7_letterAt_4 rfl (lv_at hl 1 rfl) ?_
    refine lv_aload_n (pc := 5) hx hb dX7_letterAt_5 rfl (lv_at hl 0 rfl) ?_
    refine ge_RX7_13_T_0_0 (pc := 6) C hP dX7_letterAt_6 ?_
    refine lv_icmp_ge (tgt := 21) (pc := 9) hx hb dX7_letterAt_9 (by decide) (fun c2 => ?_) (fun c2 => ?_)
    · have hf := pt_t c2 hf
      refine lv_iconst (v := (0 : Int32)) (pc := 21) hx hb dX7_letterAt_21 (by decide) ?_
      cases hf
      exact ret_i C hP hD hS dX7_letterAt_22
    · have hf := pt_f c2 hf
      refine lv_aload_n (pc := 12) hx hb dX7_letterAt_12 rfl (lv_at hl 0 rfl) ?_
      refine ge_RX7_9_T_0_0 (pc := 13) C hP dX7_letterAt_13 ?_
      refine lv_iload_n (pc := 16) hx hb dX7_letterAt_16 rfl (lv_at hl 1 rfl) ?_
      obtain ⟨h3, hf⟩ := pt_g hf
      refine ld_T_0_1 (pc := 17) (j := p1.toNatClampNeg) C hP h3 rfl dX7_letterAt_17 ?_
      refine lv_goto (tgt := 22) (pc := 18) hx hb dX7_letterAt_18 (by decide) ?_
      cases hf
      exact ret_i C hP hD hS dX7_letterAt_22
set_option maxRecDepth 100000 in
set_option maxHeartbeats 4000000 in
theorem kX7_letterAt (l : Launch) (D : va_G) (cA : Nat → ClassId) (a : Nat → Nat) {N : Nat} {S : St} {p1 : Int32} {z : Int32} (hf : fX7_letterAt N S p1 = some z) : CtI l yX7_letterAt cX7_letterAt 2 (some .int) 0 0 D cA (w_T cA a S) (w_T cA a S) [.ref (a 0), .int p1] z := by
  intro sz
  refine Met.ofW (cc := cX7_letterAt) (maxL := 2) (ret := (some .int)) (by decide) rfl ?_
  intro p e s m args below meth c s₁ B hml hv
  obtain ⟨rfl, hsz, hP, hK, hD0⟩ := hv
  subst hsz
  have C : Cx p s m _ meth c D cA cX7_letterAt 2 RX7 (some .int) := Cx.of B hml hK
  have hD := hD0.self (sz := s.heap.size)
  have hA : ∀ q : Nat, s.heap.size ≤ q → va_A (w_T cA a S) s.heap.size q := fun q h => Or.inr h
  have hS : va_S (va_A (w_T cA a S) s.heap.size) s.heap s.heap [] := va_S.rf
  have hl := lv_entry ([.ref (a 0), .int p1]) (n := 2) (Nat.le_of_ble_eq_true rfl)
  rw [lg_entry_eq]
  generalize (lg_sl ([.ref (a 0), .int p1]) ++ List.replicate (2 - (lg_sl ([.ref (a 0), .int p1])).length) Slot.unset).toArray = ls at hl ⊢
  exact wX7_letterAt C hA hf hP hD hS hl
def w_U (cA : Nat → ClassId) (a : Nat → Nat) (S : St) : va_W := [(a 0, .inr (5, [.ref (a 1), .int (S 0 0)])), (a 1, .inl (cA 1, 20, .inl (S 1)))]
theorem fl_RX6_13 : Cond.fieldLink RX6 13 "SevenOnStrike$Sum" "length" "I" ∈ wsL_law := by decide +kernel
theorem ge_RX6_13_U_0_0 (C : Cx p s m args meth c D cA cc nL RX6 ret) (hP : va_P D vwCl (w_U cA a S) H) (hdg : decode cc pc = .ok (.getfield 13, 3)) (kk : W p l e R s m args below meth c H locs cells slots Q (F0 m (pc + 3) ls (.int (S 0 0) :: rest))) : W p l e R s m args below meth c H locs cells slots Q (F0 m pc ls (.ref (a 0) :: rest)) := by
  obtain ⟨hx, hb, -, hown, hts, hK, -, -, -⟩ := C
  exact va_get (D := D) (ci := 5) (v := .int (S 0 0)) (C := RX6) (T := TX6) (N := 2) hx hb hts inlX6 hown hK hP 0 rfl rfl 1 (by decide) (hts _ fl_RX6_13) (fun _ h9 => h9) rfl hdg kk
theorem fl_RX6_9 : Cond.fieldLink RX6 9 "SevenOnStrike$Sum" "letters" "[B" ∈ wsL_law := by decide +kernel
theorem ge_RX6_9_U_0_0 (C : Cx p s m args meth c D cA cc nL RX6 ret) (hP : va_P D vwCl (w_U cA a S) H) (hdg : decode cc pc = .ok (.getfield 9, 3)) (kk : W p l e R s m args below meth c H locs cells slots Q (F0 m (pc + 3) ls (.ref (a 1) :: rest))) : W p l e R s m args below meth c H locs cells slots Q (F0 m pc ls (.ref (a 0) :: rest)) := by
  obtain ⟨hx, hb, -, hown, hts, hK, -, -, -⟩ := C
  exact va_get (D := D) (ci := 5) (v := .ref (a 1)) (C := RX6) (T := TX6) (N := 2) hx hb hts inlX6 hown hK hP 0 rfl rfl 0 (by decide) (hts _ fl_RX6_9) (fun _ h9 => h9) rfl hdg kk
theorem sr_U_0_1 {i v : Int32} {j : Nat} (C : Cx p s m args meth c D cA cc nL own ret) (hP : va_P D vwCl (w_U cA a S) H) (hD : va_D A (w_U cA a S)) (hS : va_S A s.heap H locs) (hin : vp_in i 20) (hj : i.toNatClampNeg = j) (hdg : decode cc pc = .ok (.bastore, 1)) (kk : ∀ (H1 : Heap) (locs1 : List Loc), va_P D vwCl (w_U cA a (sti S 1 j (vp_nar .byte v))) H1 → va_D A (w_U cA a (sti S 1 j (vp_nar .byte v))) → va_S A s.heap H1 locs1 → W p l e R s m args below meth c H1 locs1 cells slots Q (F0 m (pc + 1) ls rest)) : W p l e R s m args below meth c H locs cells slots Q (F0 m pc ls (.int v :: .int i :: .ref (a 1) :: rest)) := by
  obtain ⟨hx, hb, -, hown, hts, hK, -, -, -⟩ := C
  subst hj
  exact va_bast hx hb hK hP hD hS 1 1 rfl rfl hin hdg (fun H1 locs1 h1 h2 h3 => kk H1 locs1 h1 h2 h3)
theorem pu_RX6_13_U_0_0 {v : Int32} (C : Cx p s m args meth c D cA cc nL RX6 ret) (hP : va_P D vwCl (w_U cA a S) H) (hD : va_D A (w_U cA a S)) (hS : va_S A s.heap H locs) (hdg : decode cc pc = .ok (.putfield 13, 3)) (kk : ∀ (H1 : Heap) (locs1 : List Loc), va_P D vwCl (w_U cA a (stf S 0 v)) H1 → va_D A (w_U cA a (stf S 0 v)) → va_S A s.heap H1 locs1 → W p l e R s m args below meth c H1 locs1 cells slots Q (F0 m (pc + 3) ls rest)) : W p l e R s m args below meth c H locs cells slots Q (F0 m pc ls (.int v :: .ref (a 0) :: rest)) := by
  obtain ⟨hx, hb, -, hown, hts, hK, -, -, -⟩ := C
  exact va_put (D := D) (ci := 5) (v := .int v) (ty := .int) (C := RX6) (T := TX6) (N := 2) hx hb hts inlX6 tyX6 tyX6_ok nmX6 hown hK hP hD hS 0 rfl rfl 1 (by decide) (hts _ fl_RX6_13) (fun _ h9 => h9) rfl (by decide +kernel) rfl rfl (Nat.le_of_ble_eq_true rfl) hdg (fun H1 locs1 h1 h2 h3 => kk H1 locs1 h1 h2 h3)
def fX6_append (N : Nat) (S : St) (p1 : Int32) : Option (St) :=
  if (20 : Int32) ≤ (S 0 0) then (some S) else (if ¬ ((S 0 0) < 0 ∨ 20 ≤ ((S 0 0)).toNatClampNeg) then (some ((stf (sti S 1 (((S 0 0)).toNatClampNeg) (vp_nar .byte p1.toInt8.toInt32)) 0 ((((sti S 1 (((S 0 0)).toNatClampNeg) (vp_nar .byte p1.toInt8.toInt32)) 0 0) + (1 : Int32)))))) else none)
set_option maxRecDepth 100000 in
set_option maxHeartbeats 4000000 in
theorem wX6_append (C : Cx p s m args meth c D cA cX6_append 2 RX6 none) (hA : ∀ q : Nat, s.heap.size ≤ q → A q) {N : Nat} {z : St} {S : St} {p1 : Int32} (hf : fX6_append N S p1 = some z) {H : Heap} {locs : List Loc} {ls : Array Slot} (hP : va_P D vwCl (w_U cA a S) H) (hD : va_D A (w_U cA a S)) (hS : va_S A s.heap H locs) (hl : lv_has ls 2 [(0, .ref (a 0)), (1, .int p1)]) : W p l e (rmU 0 0 0 0) s m args below meth c H locs 0 0 (MQ below (QV D A (w_U cA a z)) args s 0 0 A) (F0 m 0 ls []) := by
  obtain ⟨hx, hb, hml, hown, hts, hK, hN, hr, hlk⟩ := id C
  unfold fX6_append at hf
  refine lv_aload_n (pc := 0) hx hb dX6_append_0 rfl (lv_at hl 0 rfl) ?_
  refine ge_RX6_13_U_0_0 (pc := 1) C hP dX6_append_1 ?_
  refine lv_bipush (v := (20 : Int32)) (pc := 4) hx hb dX6_append_4 (by decide) ?_
  refine lv_icmp_ge (tgt := 30) (pc := 6) hx hb dX6_append_6 (by decide) (fun c1 => ?_) (fun c1 => ?_)
  · have hf := pt_t c1 hf
    cases hf
    exact ret_v C hP hD hS dX6_append_30
  · have hf := pt_f c1 hf
    refine lv_aload_n (pc := 9) hx hb dX6_append_9 rfl (lv_at hl 0 rfl) ?_
    refine ge_RX6_9_U_0_0 (pc := 10) C hP dX6_append_10 ?_
    refine lv_aload_n (pc := 13) hx hb dX6_append_13 rfl (lv_at hl 0 rfl) ?_
    refine ge_RX6_13_U_0_0 (pc := 14) C hP dX6_append_14 ?_
    refine lv_iload_n (pc := 17) hx hb dX6_append_17 rfl (lv_at hl 1 rfl) ?_
    refine lv_i2b (v := p1.toInt8.toInt32) (pc := 18) hx hb dX6_append_18 rfl ?_
    obtain ⟨h2, hf⟩ := pt_g hf
    refine sr_U_0_1 (pc := 19) (j := ((S 0 0)).toNatClampNeg) C hP hD hS h2 rfl dX6_append_19 (fun H locs hP hD hS => ?_)
    refine lv_aload_n (pc := 20) hx hb dX6_append_20 rfl (lv_at hl 0 rfl) ?_
    refine lv_dup (pc := 21) hx hb dX6_append_21 rfl ?_
    refine ge_RX6_13_U_0_0 (pc := 22) C hP dX6_append_22 ?_
    refine lv_iconst (v := (1 : Int32)) (pc := 25) hx hb dX6_append_25 (by decide) ?_
    refine lv_iadd (pc := 26) hx hb dX6_append_26 ?_
    refine pu_RX6_13_U_0_0 (pc := 27) C hP hD hS dX6_append_27 (fun H locs hP hD hS => ?_)
    cases hf
    exact ret_v C hP hD hS dX6_append_30
set_option maxRecDepth 100000 in
set_option maxHeartbeats 4000000 in
theorem kX6_append (l : Launch) (D : va_G) (cA : Nat → ClassId) (a : Nat → Nat) {N : Nat} {S : St} {p1 : Int32} {z : St} (hf : fX6_append N S p1 = some z) : CtV l yX6_append cX6_append 2 none 0 0 D cA (w_U cA a S) (w_U cA a z) [.ref (a 0), .int p1] := by
  intro sz
  refine Met.ofW (cc := cX6_append) (maxL := 2) (ret := none) (by decide) rfl ?_
  intro p e s m args below meth c s₁ B hml hv
  obtain ⟨rfl, hsz, hP, hK, hD0⟩ := hv
  subst hsz
  have C : Cx p s m _ meth c D cA cX6_append 2 RX6 none := Cx.of B hml hK
  have hD := hD0.self (sz := s.heap.size)
  have hA : ∀ q : Nat, s.heap.size ≤ q → va_A (w_U cA a S) s.heap.size q := fun q h => Or.inr h
  have hS : va_S (va_A (w_U cA a S) s.heap.size) s.heap s.heap [] := va_S.rf
  have hl := lv_entry ([.ref (a 0), .int p1]) (n := 2) (Nat.le_of_ble_eq_true rfl)
  rw [lg_entry_eq]
  generalize (lg_sl ([.ref (a 0), .int p1]) ++ List.replicate (2 - (lg_sl ([.ref (a 0), .int p1])).length) Slot.unset).toArray = ls at hl ⊢
  exact wX6_append C hA hf hP hD hS hl
def fX6_isSign_j18 (N : Nat) (p0 : Int32) : Option (Int32) :=
  some ((1 : Int32))
def fX6_isSign (N : Nat) (p0 : Int32) : Option (Int32) :=
  if p0 = (43 : Int32) then (fX6_isSign_j18 N p0) else (if p0 = (45 : Int32) then (fX6_isSign_j18 N p0) else (if p0 = (42 : Int32) then (fX6_isSign_j18 N p0) else (some ((0 : Int32)))))
set_option maxRecDepth 100000 in
set_option maxHeartbeats 4000000 in
theorem wX6_isSign_18 (C : Cx p s m args meth c D cA cX6_isSign 1 RX6 (some .boolean)) (hA : ∀ q : Nat, s.heap.size ≤ q → A q) {N : Nat} {z : Int32} {p0 : Int32} (hf : fX6_isSign_j18 N p0 = some z) {H : Heap} {locs : List Loc} {ls : Array Slot} (hP : va_P D vwCl ([] : va_W) H) (hD : va_D A ([] : va_W)) (hS : va_S A s.heap H locs) (hl : lv_has ls 1 []) : W p l e (rmU 0 0 0 0) s m args below meth c H locs 0 0 (MQ below (QI D A z ([] : va_W)) args s 0 0 A) (F0 m 18 ls []) := by
  obtain ⟨hx, hb, hml, hown, hts, hK, hN, hr, hlk⟩ := id C
  unfold fX6_isSign_j18 at hf
  refine lv_iconst (v := (1 : Int32)) (pc := 18) hx hb dX6_isSign_18 (by decide) ?_
  refine lv_goto (tgt := 23) (pc := 19) hx hb dX6_isSign_19 (by decide) ?_
  cases hf
  exact ret_z C (Or.inr rfl) hP hD hS dX6_isSign_23
set_option maxRecDepth 100000 in
set_option maxHeartbeats 4000000 in
theorem wX6_isSign (C : Cx p s m args meth c D cA cX6_isSign 1 RX6 (some .boolean)) (hA : ∀ q : Nat, s.heap.size ≤ q → A q) {N : Nat} {z : Int32} {p0 : Int32} (hf : fX6_isSign N p0 = some z) {H : Heap} {locs : List Loc} {ls : Array Slot} (hP : va_P D vwCl ([] : va_W) H) (hD : va_D A ([] : va_W)) (hS : va_S A s.heap H locs) (hl : lv_has ls 1 [(0, .int p0)]) : W p l e (rmU 0 0 0 0) s m args below meth c H locs 0 0 (MQ below (QI D A z ([] : va_W)) args s 0 0 A) (F0 m 0 ls []) := by
  obtain ⟨hx, hb, hml, hown, hts, hK, hN, hr, hlk⟩ := id C
  unfold fX6_isSign at hf
  refine lv_iload_n (pc := 0) hx hb dX6_isSign_0 rfl (lv_at hl 0 rfl) ?_
  refine lv_bipush (v := (43 : Int32)) (pc := 1) hx hb dX6_isSign_1 (by decide) ?_
  refine lv_icmp_eq (tgt := 18) (pc := 3) hx hb dX6_isSign_3 (by decide) (fun c1 => ?_) (fun c1 => ?_)
  · have hf := pt_t c1 hf
    exact wX6_isSign_18 C hA  hf hP hD hS (lv_sub hl [] rfl)
  · have hf := pt_f c1 hf
    refine lv_iload_n (pc := 6) hx hb dX6_isSign_6 rfl (lv_at hl 0 rfl) ?_
    refine lv_bipush (v := (45 : Int32)) (pc := 7) hx hb dX6_isSign_7 (by decide) ?_
    refine lv_icmp_eq (tgt := 18) (pc := 9) hx hb dX6_isSign_9 (by decide) (fun c2 => ?_) (fun c2 => ?_)
    · have hf := pt_t c2 hf
      exact wX6_isSign_18 C hA  hf hP hD hS (lv_sub hl [] rfl)
    · have hf := pt_f c2 hf
      refine lv_iload_n (pc := 12) hx hb dX6_isSign_12 rfl (lv_at hl 0 rfl) ?_
      refine lv_bipush (v := (42 : Int32)) (pc := 13) hx hb dX6_isSign_13 (by decide) ?_
      refine lv_icmp_ne (tgt := 22) (pc := 15) hx hb dX6_isSign_15 (by decide) (fun c3 => ?_) (fun c3 => ?_)
      · have hf := pt_f c3 hf
        refine lv_iconst (v := (0 : Int32)) (pc := 22) hx hb dX6_isSign_22 (by decide) ?_
        cases hf
        exact ret_z C (Or.inl rfl) hP hD hS dX6_isSign_23
      · have hf := pt_t c3 hf
        exact wX6_isSign_18 C hA  hf hP hD hS (lv_sub hl [] rfl)
set_option maxRecDepth 100000 in
set_option maxHeartbeats 4000000 in
theorem kX6_isSign (l : Launch) (D : va_G) (cA : Nat → ClassId) {N : Nat} {p0 : Int32} {z : Int32} (hf : fX6_isSign N p0 = some z) : CtI l yX6_isSign cX6_isSign 1 (some .boolean) 0 0 D cA ([] : va_W) ([] : va_W) [.int p0] z := by
  intro sz
  refine Met.ofW (cc := cX6_isSign) (maxL := 1) (ret := (some .boolean)) (by decide) rfl ?_
  intro p e s m args below meth c s₁ B hml hv
  obtain ⟨rfl, hsz, hP, hK, hD0⟩ := hv
  subst hsz
  have C : Cx p s m _ meth c D cA cX6_isSign 1 RX6 (some .boolean) := Cx.of B hml hK
  have hD := hD0.self (sz := s.heap.size)
  have hA : ∀ q : Nat, s.heap.size ≤ q → va_A ([] : va_W) s.heap.size q := fun q h => Or.inr h
  have hS : va_S (va_A ([] : va_W) s.heap.size) s.heap s.heap [] := va_S.rf
  have hl := lv_entry ([.int p0]) (n := 1) (Nat.le_of_ble_eq_true rfl)
  rw [lg_entry_eq]
  generalize (lg_sl ([.int p0]) ++ List.replicate (1 - (lg_sl ([.int p0])).length) Slot.unset).toArray = ls at hl ⊢
  exact wX6_isSign C hA hf hP hD hS hl
theorem ld_U_0_1 {i : Int32} {j : Nat} (C : Cx p s m args meth c D cA cc nL own ret) (hP : va_P D vwCl (w_U cA a S) H) (hin : vp_in i 20) (hj : i.toNatClampNeg = j) (hdg : decode cc pc = .ok (.baload, 1)) (kk : W p l e R s m args below meth c H locs cells slots Q (F0 m (pc + 1) ls (.int (S 1 j) :: rest))) : W p l e R s m args below meth c H locs cells slots Q (F0 m pc ls (.int i :: .ref (a 1) :: rest)) := by
  obtain ⟨hx, hb, -, hown, hts, hK, -, -, -⟩ := C
  subst hj
  exact va_bald hx hb hK hP 1 1 rfl rfl hin hdg kk
theorem lk_RX6_17 : LkS RX6 17 yX6_isSign cX6_isSign 1 (some .boolean) 1 := ⟨⟨by decide +kernel, by decide +kernel, by decide +kernel, by decide +kernel, by decide +kernel, by decide +kernel⟩, by decide +kernel⟩
def fX6_numbers_j38 (N : Nat) (S : St) (g15 : Int32 × Int32 → Option (Int32)) (x1 : Int32) (x2 : Int32) : Option (Int32) :=
  g15 ((x1, (x2 + 1)))
def fX6_numbers_b15 (N : Nat) (S : St) (g15 : Int32 × Int32 → Option (Int32)) (x1 : Int32) (x2 : Int32) : Option (Int32) :=
  if (S 0 0) ≤ x2 then (some x1) else (if ¬ (x2 < 0 ∨ 20 ≤ x2.toNatClampNeg) then (Option.bind (fX6_isSign N ((S 1 x2.toNatClampNeg))) (fun q3 => if q3 = 0 then (fX6_numbers_j38 N S g15 x1 x2) else (fX6_numbers_j38 N S g15 ((x1 + 1)) x2))) else none)
def fX6_numbers_l15 (N : Nat) (S : St) (k : Nat) (q : Int32 × Int32) : Option (Int32) := lpN (fun g q => fX6_numbers_b15 N S g q.1 q.2) k q
def fX6_numbers_j12 (N : Nat) (S : St) (y0 : Int32) : Option (Int32) :=
  fX6_numbers_l15 N S N ((y0, (0 : Int32)))
def fX6_numbers (N : Nat) (S : St) : Option (Int32) :=
  if (S 0 0) ≤ 0 then (fX6_numbers_j12 N S ((0 : Int32))) else (fX6_numbers_j12 N S ((1 : Int32)))
set_option maxRecDepth 100000 in
set_option maxHeartbeats 4000000 in
theorem wX6_numbers_38 (C : Cx p s m args meth c D cA cX6_numbers 3 RX6 (some .int)) (hA : ∀ q : Nat, s.heap.size ≤ q → A q) {N : Nat} {z : Int32} {S : St} {g15 : Int32 × Int32 → Option (Int32)} (hg15 : ∀ (x1 : Int32) (x2 : Int32), g15 (x1, x2) = some z → ∀ (H : Heap) (locs : List Loc) (ls : Array Slot), va_P D vwCl (w_U cA a S) H → va_D A (w_U cA a S) → va_S A s.heap H locs → lv_has ls 3 [(0, .ref (a 0)), (1, .int x1), (2, .int x2)] → W p l e (rmU 1 20 0 0) s m args below meth c H locs 0 0 (MQ below (QI D A z (w_U cA a S)) args s 0 0 A) (F0 m 15 ls [])) {x1 : Int32} {x2 : Int32} (hf : fX6_numbers_j38 N S g15 x1 x2 = some z) {H : Heap} {locs : List Loc} {ls : Array Slot} (hP : va_P D vwCl (w_U cA a S) H) (hD : va_D A (w_U cA a S)) (hS : va_S A s.heap H locs) (hl : lv_has ls 3 [(0, .ref (a 0)), (1, .int x1), (2, .int x2)]) : W p l e (rmU 1 20 0 0) s m args below meth c H locs 0 0 (MQ below (QI D A z (w_U cA a S)) args s 0 0 A) (F0 m 38 ls []) := by
  obtain ⟨hx, hb, hml, hown, hts, hK, hN, hr, hlk⟩ := id C
  unfold fX6_numbers_j38 at hf
  refine lv_iinc (v := (x2 + 1)) (lv' := [(2, .int ((x2 + 1))), (0, .ref (a 0)), (1, .int x1)]) (pc := 38) hx hb dX6_numbers_38 hl (k := 2) rfl (by rfl) (by decide) rfl (fun ls hl => ?_)
  refine lv_goto (tgt := 15) (pc := 41) hx hb dX6_numbers_41 (by decide) ?_
  exact hg15 x1 ((x2 + 1)) hf _ _ _ hP hD hS (lv_sub hl [1, 2, 0] rfl)
set_option maxRecDepth 100000 in
set_option maxHeartbeats 4000000 in
theorem wX6_numbers_15 (C : Cx p s m args meth c D cA cX6_numbers 3 RX6 (some .int)) (hA : ∀ q : Nat, s.heap.size ≤ q → A q) {N : Nat} {z : Int32} {S : St} : ∀ (k : Nat) (x1 : Int32) (x2 : Int32), fX6_numbers_l15 N S k (x1, x2) = some z → ∀ (H : Heap) (locs : List Loc) (ls : Array Slot), va_P D vwCl (w_U cA a S) H → va_D A (w_U cA a S) → va_S A s.heap H locs → lv_has ls 3 [(0, .ref (a 0)), (1, .int x1), (2, .int x2)] → W p l e (rmU 1 20 0 0) s m args below meth c H locs 0 0 (MQ below (QI D A z (w_U cA a S)) args s 0 0 A) (F0 m 15 ls []) := by
  obtain ⟨hx, hb, hml, hown, hts, hK, hN, hr, hlk⟩ := id C
  intro k
  induction k with
  | zero =>
    intro x1 x2 hf
    have hf : (none : Option (Int32)) = some z := hf
    cases hf
  | succ k hg15 =>
    intro x1 x2 hf H locs ls hP hD hS hl
    have hf : fX6_numbers_b15 N S (fX6_numbers_l15 N S k) x1 x2 = some z := hf
    unfold fX6_numbers_b15 at hf
    refine lv_iload_n (pc := 15) hx hb dX6_numbers_15 rfl (lv_at hl 2 rfl) ?_
    refine lv_aload_n (pc := 16) hx hb dX6_numbers_16 rfl (lv_at hl 0 rfl) ?_
    refine ge_RX6_13_U_0_0 (pc := 17) C hP dX6_numbers_17 ?_
    refine lv_icmp_ge (tgt := 44) (pc := 20) hx hb dX6_numbers_20 (by decide) (fun c1 => ?_) (fun c1 => ?_)
    · have hf := pt_t c1 hf
      refine lv_iload_n (pc := 44) hx hb dX6_numbers_44 rfl (lv_at hl 1 rfl) ?_
      cases hf
      exact ret_i C hP hD hS dX6_numbers_45
    · have hf := pt_f c1 hf
      refine lv_aload_n (pc := 23) hx hb dX6_numbers_23 rfl (lv_at hl 0 rfl) ?_
      refine ge_RX6_9_U_0_0 (pc := 24) C hP dX6_numbers_24 ?_
      refine lv_iload_n (pc := 27) hx hb dX6_numbers_27 rfl (lv_at hl 2 rfl) ?_
      obtain ⟨h2, hf⟩ := pt_g hf
      refine ld_U_0_1 (pc := 28) (j := x2.toNatClampNeg) C hP h2 rfl dX6_numbers_28 ?_
      obtain ⟨q3, hq3, hf⟩ := pt_b hf
      have hPc : va_P D vwCl ([] : va_W) H := hP.sub [] rfl
      have hDc : va_D A ([] : va_W) := hD.sub [] (by decide) rfl
      refine prt_i (runU_S (pc := 29) (As := [.int ((S 1 x2.toNatClampNeg))]) (rest := []) C lk_RX6_17 (kX6_isSign l D cA hq3 H.size) ⟨Nat.le_of_ble_eq_true rfl, Nat.le_of_ble_eq_true rfl⟩ ⟨Nat.le_refl _, Nat.le_refl _⟩ hPc hDc hl.1 rfl (Nat.le_of_ble_eq_true rfl) dX6_numbers_29) hP hD hS hA [] rfl (fun H locs hP hD hS => ?_)
      refine lv_if_eq (tgt := 38) (pc := 32) hx hb dX6_numbers_32 (by decide) (fun c4 => ?_) (fun c4 => ?_)
      · have hf := pt_t c4 hf
        exact wX6_numbers_38 C hA hg15 hf hP hD hS (lv_sub hl [0, 1, 2] rfl)
      · have hf := pt_f c4 hf
        refine lv_iinc (v := (x1 + 1)) (lv' := [(1, .int ((x1 + 1))), (0, .ref (a 0)), (2, .int x2)]) (pc := 35) hx hb dX6_numbers_35 hl (k := 1) rfl (by rfl) (by decide) rfl (fun ls hl => ?_)
        exact wX6_numbers_38 C hA hg15 hf hP hD hS (lv_sub hl [1, 0, 2] rfl)
set_option maxRecDepth 100000 in
set_option maxHeartbeats 4000000 in
theorem wX6_numbers_12 (C : Cx p s m args meth c D cA cX6_numbers 3 RX6 (some .int)) (hA : ∀ q : Nat, s.heap.size ≤ q → A q) {N : Nat} {z : Int32} {S : St} {y0 : Int32} (hf : fX6_numbers_j12 N S y0 = some z) {H : Heap} {locs : List Loc} {ls : Array Slot} (hP : va_P D vwCl (w_U cA a S) H) (hD : va_D A (w_U cA a S)) (hS : va_S A s.heap H locs) (hl : lv_has ls 3 [(0, .ref (a 0))]) : W p l e (rmU 1 20 0 0) s m args below meth c H locs 0 0 (MQ below (QI D A z (w_U cA a S)) args s 0 0 A) (F0 m 12 ls [.int y0]) := by
  obtain ⟨hx, hb, hml, hown, hts, hK, hN, hr, hlk⟩ := id C
  unfold fX6_numbers_j12 at hf
  refine lv_istore_n (lv' := [(1, .int y0), (0, .ref (a 0))]) (pc := 12) hx hb dX6_numbers_12 rfl hl (by decide) rfl (fun ls hl => ?_)
  refine lv_iconst (v := (0 : Int32)) (pc := 13) hx hb dX6_numbers_13 (by decide) ?_
  refine lv_istore_n (lv' := [(2, .int ((0 : Int32))), (1, .int y0), (0, .ref (a 0))]) (pc := 14) hx hb dX6_numbers_14 rfl hl (by decide) rfl (fun ls hl => ?_)
  exact wX6_numbers_15 C hA  _ y0 ((0 : Int32)) hf _ _ _ hP hD hS (lv_sub hl [2, 1, 0] rfl)
set_option maxRecDepth 100000 in
set_option maxHeartbeats 4000000 in
theorem wX6_numbers (C : Cx p s m args meth c D cA cX6_numbers 3 RX6 (some .int)) (hA : ∀ q : Nat, s.heap.size ≤ q → A q) {N : Nat} {z : Int32} {S : St} (hf : fX6_numbers N S = some z) {H : Heap} {locs : List Loc} {ls : Array Slot} (hP : va_P D vwCl (w_U cA a S) H) (hD : va_D A (w_U cA a S)) (hS : va_S A s.heap H locs) (hl : lv_has ls 3 [(0, .ref (a 0))]) : W p l e (rmU 1 20 0 0) s m args below meth c H locs 0 0 (MQ below (QI D A z (w_U cA a S)) args s 0 0 A) (F0 m 0 ls []) := by
  obtain ⟨hx, hb, hml, hown, hts, hK, hN, hr, hlk⟩ := id C
  unfold fX6_numbers at hf
  refine lv_aload_n (pc := 0) hx hb dX6_numbers_0 rfl (lv_at hl 0 rfl) ?_
  refine ge_RX6_13_U_0_0 (pc := 1) C hP dX6_numbers_1 ?_
  refine lv_if_le (tgt := 11) (pc := 4) hx hb dX6_numbers_4 (by decide) (fun c1 => ?_) (fun c1 => ?_)
  · have hf := pt_t c1 hf
    refine lv_iconst (v := (0 : Int32)) (pc := 11) hx hb dX6_numbers_11 (by decide) ?_
    exact wX6_numbers_12 C hA  hf hP hD hS (lv_sub hl [0] rfl)
  · have hf := pt_f c1 hf
    refine lv_iconst (v := (1 : Int32)) (pc := 7) hx hb dX6_numbers_7 (by decide) ?_
    refine lv_goto (tgt := 12) (pc := 8) hx hb dX6_numbers_8 (by decide) ?_
    exact wX6_numbers_12 C hA  hf hP hD hS (lv_sub hl [0] rfl)
set_option maxRecDepth 100000 in
set_option maxHeartbeats 4000000 in
theorem kX6_numbers (l : Launch) (D : va_G) (cA : Nat → ClassId) (a : Nat → Nat) {N : Nat} {S : St} {z : Int32} (hf : fX6_numbers N S = some z) : CtI l yX6_numbers cX6_numbers 3 (some .int) 1 20 D cA (w_U cA a S) (w_U cA a S) [.ref (a 0)] z := by
  intro sz
  refine Met.ofW (cc := cX6_numbers) (maxL := 3) (ret := (some .int)) (by decide) rfl ?_
  intro p e s m args below meth c s₁ B hml hv
  obtain ⟨rfl, hsz, hP, hK, hD0⟩ := hv
  subst hsz
  have C : Cx p s m _ meth c D cA cX6_numbers 3 RX6 (some .int) := Cx.of B hml hK
  have hD := hD0.self (sz := s.heap.size)
  have hA : ∀ q : Nat, s.heap.size ≤ q → va_A (w_U cA a S) s.heap.size q := fun q h => Or.inr h
  have hS : va_S (va_A (w_U cA a S) s.heap.size) s.heap s.heap [] := va_S.rf
  have hl := lv_entry ([.ref (a 0)]) (n := 3) (Nat.le_of_ble_eq_true rfl)
  rw [lg_entry_eq]
  generalize (lg_sl ([.ref (a 0)]) ++ List.replicate (3 - (lg_sl ([.ref (a 0)])).length) Slot.unset).toArray = ls at hl ⊢
  exact wX6_numbers C hA hf hP hD hS hl
theorem kl_RX6_33 : Cond.constantLong RX6 33 (-2000000000) ∈ wsL_law := by decide +kernel
theorem kl_RX6_35 : Cond.constantLong RX6 35 (2000000000) ∈ wsL_law := by decide +kernel
theorem lm_RX6_37 : Cond.methodLink RX6 37 Lib.MathLoose.min_long.x ∈ wsL_law ∧ Cond.static Lib.MathLoose.min_long.x ∈ wsL_law ∧ Cond.initialized "java/lang/Math" ∈ wsL_law ∧ Cond.code Lib.MathLoose.min_long.x Lib.MathLoose.min_long.code 4 (some .long) ∈ wsL_law := ⟨by decide +kernel, by decide +kernel, by decide +kernel, by decide +kernel⟩
theorem lm_RX6_43 : Cond.methodLink RX6 43 Lib.MathLoose.max_long.x ∈ wsL_law ∧ Cond.static Lib.MathLoose.max_long.x ∈ wsL_law ∧ Cond.initialized "java/lang/Math" ∈ wsL_law ∧ Cond.code Lib.MathLoose.max_long.x Lib.MathLoose.max_long.code 4 (some .long) ∈ wsL_law := ⟨by decide +kernel, by decide +kernel, by decide +kernel, by decide +kernel⟩
def fX6_keptWithin (N : Nat) (p0 : Int64) : Option (Int64) :=
  some ((if (if p0 < (2000000000 : Int64) then p0 else (2000000000 : Int64)) < (-2000000000 : Int64) then (-2000000000 : Int64) else (if p0 < (2000000000 : Int64) then p0 else (2000000000 : Int64))))
set_option maxRecDepth 100000 in
set_option maxHeartbeats 4000000 in
theorem wX6_keptWithin (C : Cx p s m args meth c D cA cX6_keptWithin 2 RX6 (some .long)) (hA : ∀ q : Nat, s.heap.size ≤ q → A q) {N : Nat} {z : Int64} {p0 : Int64} (hf : fX6_keptWithin N p0 = some z) {H : Heap} {locs : List Loc} {ls : Array Slot} (hP : va_P D vwCl ([] : va_W) H) (hD : va_D A ([] : va_W)) (hS : va_S A s.heap H locs) (hl : lv_has ls 2 [(0, .long p0)]) : W p l e (rmU 1 17 0 0) s m args below meth c H locs 0 0 (MQ below (QL D A z ([] : va_W)) args s 0 0 A) (F0 m 0 ls []) := by
  obtain ⟨hx, hb, hml, hown, hts, hK, hN, hr, hlk⟩ := id C
  unfold fX6_keptWithin at hf
  refine lv_ldc2 (pc := 0) (v := (-2000000000 : Int64)) hx hb hown (hts _ kl_RX6_33) dX6_keptWithin_0 ?_
  refine lv_ldc2 (pc := 3) (v := (2000000000 : Int64)) hx hb hown (hts _ kl_RX6_35) dX6_keptWithin_3 ?_
  refine lv_lload_n (pc := 6) hx hb dX6_keptWithin_6 rfl (lv_at hl 0 rfl) ?_
  refine va_mmin_long (pc := 7) hx hb (hml.trans hl.1.symm) hown (hts _ lm_RX6_37.1) (hts _ lm_RX6_37.2.1) (hts _ lm_RX6_37.2.2.1) (hts _ lm_RX6_37.2.2.2) (Nat.le_of_ble_eq_true rfl) (Nat.le_of_ble_eq_true rfl) (Nat.zero_le _) (Nat.zero_le _) dX6_keptWithin_7 ?_
  refine va_mmax_long (pc := 10) hx hb (hml.trans hl.1.symm) hown (hts _ lm_RX6_43.1) (hts _ lm_RX6_43.2.1) (hts _ lm_RX6_43.2.2.1) (hts _ lm_RX6_43.2.2.2) (Nat.le_of_ble_eq_true rfl) (Nat.le_of_ble_eq_true rfl) (Nat.zero_le _) (Nat.zero_le _) dX6_keptWithin_10 ?_
  cases hf
  exact ret_l C hP hD hS dX6_keptWithin_13
set_option maxRecDepth 100000 in
set_option maxHeartbeats 4000000 in
theorem kX6_keptWithin (l : Launch) (D : va_G) (cA : Nat → ClassId) {N : Nat} {p0 : Int64} {z : Int64} (hf : fX6_keptWithin N p0 = some z) : CtL l yX6_keptWithin cX6_keptWithin 2 (some .long) 1 17 D cA ([] : va_W) ([] : va_W) [.long p0] z := by
  intro sz
  refine Met.ofW (cc := cX6_keptWithin) (maxL := 2) (ret := (some .long)) (by decide) rfl ?_
  intro p e s m args below meth c s₁ B hml hv
  obtain ⟨rfl, hsz, hP, hK, hD0⟩ := hv
  subst hsz
  have C : Cx p s m _ meth c D cA cX6_keptWithin 2 RX6 (some .long) := Cx.of B hml hK
  have hD := hD0.self (sz := s.heap.size)
  have hA : ∀ q : Nat, s.heap.size ≤ q → va_A ([] : va_W) s.heap.size q := fun q h => Or.inr h
  have hS : va_S (va_A ([] : va_W) s.heap.size) s.heap s.heap [] := va_S.rf
  have hl := lv_entry ([.long p0]) (n := 2) (Nat.le_of_ble_eq_true rfl)
  rw [lg_entry_eq]
  generalize (lg_sl ([.long p0]) ++ List.replicate (2 - (lg_sl ([.long p0])).length) Slot.unset).toArray = ls at hl ⊢
  exact wX6_keptWithin C hA hf hP hD hS hl
def w_U_A (cA : Nat → ClassId) (a : Nat → Nat) (S : St) (b : Nat → Nat) (T : St) : va_W := [(a 0, .inr (5, [.ref (a 1), .int (S 0 0)])), (a 1, .inl (cA 1, 20, .inl (S 1))), (b 0, .inl (cA 0, 10, .inl (T 0)))]
theorem lk_RX6_29 : LkS RX6 29 yX6_keptWithin cX6_keptWithin 2 (some .long) 1 := ⟨⟨by decide +kernel, by decide +kernel, by decide +kernel, by decide +kernel, by decide +kernel, by decide +kernel⟩, by decide +kernel⟩
theorem kl_RX6_21 : Cond.constantLong RX6 21 (10) ∈ wsL_law := by decide +kernel
theorem lk_RX6_23 : LkS RX6 23 yX0_heardAs cX0_heardAs 3 (some .int) 3 := ⟨⟨by decide +kernel, by decide +kernel, by decide +kernel, by decide +kernel, by decide +kernel, by decide +kernel⟩, by decide +kernel⟩
theorem ge_RX6_13_U_A_0_0 (C : Cx p s m args meth c D cA cc nL RX6 ret) (hP : va_P D vwCl (w_U_A cA a S b T) H) (hdg : decode cc pc = .ok (.getfield 13, 3)) (kk : W p l e R s m args below meth c H locs cells slots Q (F0 m (pc + 3) ls (.int (S 0 0) :: rest))) : W p l e R s m args below meth c H locs cells slots Q (F0 m pc ls (.ref (a 0) :: rest)) := by
  obtain ⟨hx, hb, -, hown, hts, hK, -, -, -⟩ := C
  exact va_get (D := D) (ci := 5) (v := .int (S 0 0)) (C := RX6) (T := TX6) (N := 2) hx hb hts inlX6 hown hK hP 0 rfl rfl 1 (by decide) (hts _ fl_RX6_13) (fun _ h9 => h9) rfl hdg kk
theorem ge_RX6_9_U_A_0_0 (C : Cx p s m args meth c D cA cc nL RX6 ret) (hP : va_P D vwCl (w_U_A cA a S b T) H) (hdg : decode cc pc = .ok (.getfield 9, 3)) (kk : W p l e R s m args below meth c H locs cells slots Q (F0 m (pc + 3) ls (.ref (a 1) :: rest))) : W p l e R s m args below meth c H locs cells slots Q (F0 m pc ls (.ref (a 0) :: rest)) := by
  obtain ⟨hx, hb, -, hown, hts, hK, -, -, -⟩ := C
  exact va_get (D := D) (ci := 5) (v := .ref (a 1)) (C := RX6) (T := TX6) (N := 2) hx hb hts inlX6 hown hK hP 0 rfl rfl 0 (by decide) (hts _ fl_RX6_9) (fun _ h9 => h9) rfl hdg kk
theorem ld_U_A_0_1 {i : Int32} {j : Nat} (C : Cx p s m args meth c D cA cc nL own ret) (hP : va_P D vwCl (w_U_A cA a S b T) H) (hin : vp_in i 20) (hj : i.toNatClampNeg = j) (hdg : decode cc pc = .ok (.baload, 1)) (kk : W p l e R s m args below meth c H locs cells slots Q (F0 m (pc + 1) ls (.int (S 1 j) :: rest))) : W p l e R s m args below meth c H locs cells slots Q (F0 m pc ls (.int i :: .ref (a 1) :: rest)) := by
  obtain ⟨hx, hb, -, hown, hts, hK, -, -, -⟩ := C
  subst hj
  exact va_bald hx hb hK hP 1 1 rfl rfl hin hdg kk
def fX6_comesTo_j156 (N : Nat) (S : St) (T : St) (p1 : Int32) (g17 : Int64 × Int64 × Int64 × Int32 × Int32 × Int32 → Option (Int32)) (x3 : Int64) (x5 : Int64) (x7 : Int64) (x9 : Int32) (x10 : Int32) (x11 : Int32) : Option (Int32) :=
  g17 ((x3, x5, x7, x9, x10, (x11 + 1)))
def fX6_comesTo_j154 (N : Nat) (S : St) (T : St) (p1 : Int32) (g17 : Int64 × Int64 × Int64 × Int32 × Int32 × Int32 → Option (Int32)) (x3 : Int64) (x5 : Int64) (x7 : Int64) (x9 : Int32) (x11 : Int32) (y0 : Int32) : Option (Int32) :=
  fX6_comesTo_j156 N S T p1 g17 x3 x5 x7 x9 y0 x11
def fX6_comesTo_j138 (N : Nat) (S : St) (T : St) (p1 : Int32) (g17 : Int64 × Int64 × Int64 × Int32 × Int32 × Int32 → Option (Int32)) (x5 : Int64) (x7 : Int64) (x9 : Int32) (x11 : Int32) (x12 : Int32) (y0 : Int64) : Option (Int32) :=
  Option.bind (fX6_keptWithin N y0) (fun q1 => if x12 = (45 : Int32) then (fX6_comesTo_j154 N S T p1 g17 q1 x5 x7 x9 x11 ((1 : Int32))) else (fX6_comesTo_j154 N S T p1 g17 q1 x5 x7 x9 x11 ((0 : Int32))))
def fX6_comesTo_j115 (N : Nat) (S : St) (T : St) (p1 : Int32) (g17 : Int64 × Int64 × Int64 × Int32 × Int32 × Int32 → Option (Int32)) (x3 : Int64) (x5 : Int64) (x7 : Int64) (x10 : Int32) (x11 : Int32) (x12 : Int32) (y0 : Int32) : Option (Int32) :=
  if y0 = 0 then (if x10 = 0 then (fX6_comesTo_j138 N S T p1 g17 x5 x7 y0 x11 x12 ((x3 + x5))) else (fX6_comesTo_j138 N S T p1 g17 x5 x7 y0 x11 x12 ((x3 - x5)))) else (fX6_comesTo_j156 N S T p1 g17 x3 x5 x7 y0 x10 x11)
def fX6_comesTo_j98 (N : Nat) (S : St) (T : St) (p1 : Int32) (g17 : Int64 × Int64 × Int64 × Int32 × Int32 × Int32 → Option (Int32)) (x3 : Int64) (x10 : Int32) (x11 : Int32) (x12 : Int32) (y0 : Int64) : Option (Int32) :=
  if x12 = (42 : Int32) then (fX6_comesTo_j115 N S T p1 g17 x3 y0 ((0 : Int64)) x10 x11 x12 ((1 : Int32))) else (fX6_comesTo_j115 N S T p1 g17 x3 y0 ((0 : Int64)) x10 x11 x12 ((0 : Int32)))
def fX6_comesTo_j47 (N : Nat) (S : St) (T : St) (p1 : Int32) (g17 : Int64 × Int64 × Int64 × Int32 × Int32 × Int32 → Option (Int32)) (x3 : Int64) (x5 : Int64) (x7 : Int64) (x9 : Int32) (x10 : Int32) (x11 : Int32) (y0 : Int32) : Option (Int32) :=
  Option.bind (fX6_isSign N y0) (fun q1 => if q1 = 0 then (Option.bind (fX0_heardAs N T ((y0 - (48 : Int32))) p1) (fun q5 => nm (((x7 * (10 : Int64)) + q5.toInt64)) (fun v6 => fX6_comesTo_j156 N S T p1 g17 x3 x5 v6 x9 x10 x11))) else (if x9 = 0 then (fX6_comesTo_j98 N S T p1 g17 x3 x10 x11 y0 x7) else (Option.bind (fX6_keptWithin N ((x5 * x7))) (fun q4 => fX6_comesTo_j98 N S T p1 g17 x3 x10 x11 y0 q4))))
def fX6_comesTo_b17 (N : Nat) (S : St) (T : St) (p1 : Int32) (g17 : Int64 × Int64 × Int64 × Int32 × Int32 × Int32 → Option (Int32)) (x3 : Int64) (x5 : Int64) (x7 : Int64) (x9 : Int32) (x10 : Int32) (x11 : Int32) : Option (Int32) :=
  if (S 0 0) < x11 then (some x3.toInt32) else (if (S 0 0) ≤ x11 then (fX6_comesTo_j47 N S T p1 g17 x3 x5 x7 x9 x10 x11 ((43 : Int32))) else (if ¬ (x11 < 0 ∨ 20 ≤ x11.toNatClampNeg) then (fX6_comesTo_j47 N S T p1 g17 x3 x5 x7 x9 x10 x11 ((S 1 x11.toNatClampNeg))) else none))
def fX6_comesTo_l17 (N : Nat) (S : St) (T : St) (p1 : Int32) (k : Nat) (q : Int64 × Int64 × Int64 × Int32 × Int32 × Int32) : Option (Int32) := lpN (fun g q => fX6_comesTo_b17 N S T p1 g q.1 q.2.1 q.2.2.1 q.2.2.2.1 q.2.2.2.2.1 q.2.2.2.2.2) k q
def fX6_comesTo (N : Nat) (S : St) (T : St) (p1 : Int32) : Option (Int32) :=
  fX6_comesTo_l17 N S T p1 N (((0 : Int64), (0 : Int64), (0 : Int64), (0 : Int32), (0 : Int32), (0 : Int32)))
set_option maxRecDepth 100000 in
set_option maxHeartbeats 4000000 in
theorem wX6_comesTo_156 (C : Cx p s m args meth c D cA cX6_comesTo 13 RX6 (some .int)) (hA : ∀ q : Nat, s.heap.size ≤ q → A q) {N : Nat} {z : Int32} {S : St} {T : St} {p1 : Int32} {g17 : Int64 × Int64 × Int64 × Int32 × Int32 × Int32 → Option (Int32)} (hg17 : ∀ (x3 : Int64) (x5 : Int64) (x7 : Int64) (x9 : Int32) (x10 : Int32) (x11 : Int32), g17 (x3, x5, x7, x9, x10, x11) = some z → ∀ (H : Heap) (locs : List Loc) (ls : Array Slot), va_P D vwCl (w_U_A cA a S b T) H → va_D A (w_U_A cA a S b T) → va_S A s.heap H locs → lv_has ls 13 [(0, .ref (a 0)), (1, .int p1), (2, .ref (b 0)), (3, .long x3), (5, .long x5), (7, .long x7), (9, .int x9), (10, .int x10), (11, .int x11)] → W p l e (rmU 2 38 0 0) s m args below meth c H locs 0 0 (MQ below (QI D A z (w_U_A cA a S b T)) args s 0 0 A) (F0 m 17 ls [])) {x3 : Int64} {x5 : Int64} {x7 : Int64} {x9 : Int32} {x10 : Int32} {x11 : Int32} (hf : fX6_comesTo_j156 N S T p1 g17 x3 x5 x7 x9 x10 x11 = some z) {H : Heap} {locs : List Loc} {ls : Array Slot} (hP : va_P D vwCl (w_U_A cA a S b T) H) (hD : va_D A (w_U_A cA a S b T)) (hS : va_S A s.heap H locs) (hl : lv_has ls 13 [(0, .ref (a 0)), (1, .int p1), (2, .ref (b 0)), (3, .long x3), (5, .long x5), (7, .long x7), (9, .int x9), (10, .int x10), (11, .int x11)]) : W p l e (rmU 2 38 0 0) s m args below meth c H locs 0 0 (MQ below (QI D A z (w_U_A cA a S b T)) args s 0 0 A) (F0 m 156 ls []) := by
  obtain ⟨hx, hb, hml, hown, hts, hK, hN, hr, hlk⟩ := id C
  unfold fX6_comesTo_j156 at hf
  refine lv_iinc (v := (x11 + 1)) (lv' := [(11, .int ((x11 + 1))), (0, .ref (a 0)), (1, .int p1), (2, .ref (b 0)), (3, .long x3), (5, .long x5), (7, .long x7), (9, .int x9), (10, .int x10)]) (pc := 156) hx hb dX6_comesTo_156 hl (k := 8) rfl (by rfl) (by decide) rfl (fun ls hl => ?_)
  refine lv_goto (tgt := 17) (pc := 159) hx hb dX6_comesTo_159 (by decide) ?_
  exact hg17 x3 x5 x7 x9 x10 ((x11 + 1)) hf _ _ _ hP hD hS (lv_sub hl [1, 2, 3, 4, 5, 6, 7, 8, 0] rfl)
set_option maxRecDepth 100000 in
set_option maxHeartbeats 4000000 in
theorem wX6_comesTo_154 (C : Cx p s m args meth c D cA cX6_comesTo 13 RX6 (some .int)) (hA : ∀ q : Nat, s.heap.size ≤ q → A q) {N : Nat} {z : Int32} {S : St} {T : St} {p1 : Int32} {g17 : Int64 × Int64 × Int64 × Int32 × Int32 × Int32 → Option (Int32)} (hg17 : ∀ (x3 : Int64) (x5 : Int64) (x7 : Int64) (x9 : Int32) (x10 : Int32) (x11 : Int32), g17 (x3, x5, x7, x9, x10, x11) = some z → ∀ (H : Heap) (locs : List Loc) (ls : Array Slot), va_P D vwCl (w_U_A cA a S b T) H → va_D A (w_U_A cA a S b T) → va_S A s.heap H locs → lv_has ls 13 [(0, .ref (a 0)), (1, .int p1), (2, .ref (b 0)), (3, .long x3), (5, .long x5), (7, .long x7), (9, .int x9), (10, .int x10), (11, .int x11)] → W p l e (rmU 2 38 0 0) s m args below meth c H locs 0 0 (MQ below (QI D A z (w_U_A cA a S b T)) args s 0 0 A) (F0 m 17 ls [])) {x3 : Int64} {x5 : Int64} {x7 : Int64} {x9 : Int32} {x11 : Int32} {y0 : Int32} (hf : fX6_comesTo_j154 N S T p1 g17 x3 x5 x7 x9 x11 y0 = some z) {H : Heap} {locs : List Loc} {ls : Array Slot} (hP : va_P D vwCl (w_U_A cA a S b T) H) (hD : va_D A (w_U_A cA a S b T)) (hS : va_S A s.heap H locs) (hl : lv_has ls 13 [(0, .ref (a 0)), (1, .int p1), (2, .ref (b 0)), (3, .long x3), (5, .long x5), (7, .long x7), (9, .int x9), (11, .int x11)]) : W p l e (rmU 2 38 0 0) s m args below meth c H locs 0 0 (MQ below (QI D A z (w_U_A cA a S b T)) args s 0 0 A) (F0 m 154 ls [.int y0]) := by
  obtain ⟨hx, hb, hml, hown, hts, hK, hN, hr, hlk⟩ := id C
  unfold fX6_comesTo_j154 at hf
  refine lv_istore (lv' := [(10, .int y0), (0, .ref (a 0)), (1, .int p1), (2, .ref (b 0)), (3, .long x3), (5, .long x5), (7, .long x7), (9, .int x9), (11, .int x11)]) (pc := 154) hx hb dX6_comesTo_154 hl (by decide) rfl (fun ls hl => ?_)
  exact wX6_comesTo_156 C hA hg17 hf hP hD hS (lv_sub hl [1, 2, 3, 4, 5, 6, 7, 0, 8] rfl)
set_option maxRecDepth 100000 in
set_option maxHeartbeats 4000000 in
theorem wX6_comesTo_138 (C : Cx p s m args meth c D cA cX6_comesTo 13 RX6 (some .int)) (hA : ∀ q : Nat, s.heap.size ≤ q → A q) {N : Nat} {z : Int32} {S : St} {T : St} {p1 : Int32} {g17 : Int64 × Int64 × Int64 × Int32 × Int32 × Int32 → Option (Int32)} (hg17 : ∀ (x3 : Int64) (x5 : Int64) (x7 : Int64) (x9 : Int32) (x10 : Int32) (x11 : Int32), g17 (x3, x5, x7, x9, x10, x11) = some z → ∀ (H : Heap) (locs : List Loc) (ls : Array Slot), va_P D vwCl (w_U_A cA a S b T) H → va_D A (w_U_A cA a S b T) → va_S A s.heap H locs → lv_has ls 13 [(0, .ref (a 0)), (1, .int p1), (2, .ref (b 0)), (3, .long x3), (5, .long x5), (7, .long x7), (9, .int x9), (10, .int x10), (11, .int x11)] → W p l e (rmU 2 38 0 0) s m args below meth c H locs 0 0 (MQ below (QI D A z (w_U_A cA a S b T)) args s 0 0 A) (F0 m 17 ls [])) {x5 : Int64} {x7 : Int64} {x9 : Int32} {x11 : Int32} {x12 : Int32} {y0 : Int64} (hf : fX6_comesTo_j138 N S T p1 g17 x5 x7 x9 x11 x12 y0 = some z) {H : Heap} {locs : List Loc} {ls : Array Slot} (hP : va_P D vwCl (w_U_A cA a S b T) H) (hD : va_D A (w_U_A cA a S b T)) (hS : va_S A s.heap H locs) (hl : lv_has ls 13 [(0, .ref (a 0)), (1, .int p1), (2, .ref (b 0)), (5, .long x5), (7, .long x7), (9, .int x9), (11, .int x11), (12, .int x12)]) : W p l e (rmU 2 38 0 0) s m args below meth c H locs 0 0 (MQ below (QI D A z (w_U_A cA a S b T)) args s 0 0 A) (F0 m 138 ls [.long y0]) := by
  obtain ⟨hx, hb, hml, hown, hts, hK, hN, hr, hlk⟩ := id C
  unfold fX6_comesTo_j138 at hf
  obtain ⟨q1, hq1, hf⟩ := pt_b hf
  have hPc : va_P D vwCl ([] : va_W) H := hP.sub [] rfl
  have hDc : va_D A ([] : va_W) := hD.sub [] (by decide) rfl
  refine prt_l (runU_S (pc := 138) (As := [.long y0]) (rest := []) C lk_RX6_29 (kX6_keptWithin l D cA hq1 H.size) ⟨Nat.le_of_ble_eq_true rfl, Nat.le_of_ble_eq_true rfl⟩ ⟨Nat.le_refl _, Nat.le_refl _⟩ hPc hDc hl.1 rfl (Nat.le_of_ble_eq_true rfl) dX6_comesTo_138) hP hD hS hA [] rfl (fun H locs hP hD hS => ?_)
  refine lv_lstore_n (lv' := [(3, .long q1), (0, .ref (a 0)), (1, .int p1), (2, .ref (b 0)), (5, .long x5), (7, .long x7), (9, .int x9), (11, .int x11), (12, .int x12)]) (pc := 141) hx hb dX6_comesTo_141 rfl hl (by decide) rfl (fun ls hl => ?_)
  refine lv_iload (pc := 142) hx hb dX6_comesTo_142 (lv_at hl 8 rfl) ?_
  refine lv_bipush (v := (45 : Int32)) (pc := 144) hx hb dX6_comesTo_144 (by decide) ?_
  refine lv_icmp_ne (tgt := 153) (pc := 146) hx hb dX6_comesTo_146 (by decide) (fun c2 => ?_) (fun c2 => ?_)
  · have hf := pt_f c2 hf
    refine lv_iconst (v := (0 : Int32)) (pc := 153) hx hb dX6_comesTo_153 (by decide) ?_
    exact wX6_comesTo_154 C hA hg17 hf hP hD hS (lv_sub hl [1, 2, 3, 0, 4, 5, 6, 7] rfl)
  · have hf := pt_t c2 hf
    refine lv_iconst (v := (1 : Int32)) (pc := 149) hx hb dX6_comesTo_149 (by decide) ?_
    refine lv_goto (tgt := 154) (pc := 150) hx hb dX6_comesTo_150 (by decide) ?_
    exact wX6_comesTo_154 C hA hg17 hf hP hD hS (lv_sub hl [1, 2, 3, 0, 4, 5, 6, 7] rfl)
set_option maxRecDepth 100000 in
set_option maxHeartbeats 4000000 in
theorem wX6_comesTo_115 (C : Cx p s m args meth c D cA cX6_comesTo 13 RX6 (some .int)) (hA : ∀ q : Nat, s.heap.size ≤ q → A q) {N : Nat} {z : Int32} {S : St} {T : St} {p1 : Int32} {g17 : Int64 × Int64 × Int64 × Int32 × Int32 × Int32 → Option (Int32)} (hg17 : ∀ (x3 : Int64) (x5 : Int64) (x7 : Int64) (x9 : Int32) (x10 : Int32) (x11 : Int32), g17 (x3, x5, x7, x9, x10, x11) = some z → ∀ (H : Heap) (locs : List Loc) (ls : Array Slot), va_P D vwCl (w_U_A cA a S b T) H → va_D A (w_U_A cA a S b T) → va_S A s.heap H locs → lv_has ls 13 [(0, .ref (a 0)), (1, .int p1), (2, .ref (b 0)), (3, .long x3), (5, .long x5), (7, .long x7), (9, .int x9), (10, .int x10), (11, .int x11)] → W p l e (rmU 2 38 0 0) s m args below meth c H locs 0 0 (MQ below (QI D A z (w_U_A cA a S b T)) args s 0 0 A) (F0 m 17 ls [])) {x3 : Int64} {x5 : Int64} {x7 : Int64} {x10 : Int32} {x11 : Int32} {x12 : Int32} {y0 : Int32} (hf : fX6_comesTo_j115 N S T p1 g17 x3 x5 x7 x10 x11 x12 y0 = some z) {H : Heap} {locs : List Loc} {ls : Array Slot} (hP : va_P D vwCl (w_U_A cA a S b T) H) (hD : va_D A (w_U_A cA a S b T)) (hS : va_S A s.heap H locs) (hl : lv_has ls 13 [(0, .ref (a 0)), (1, .int p1), (2, .ref (b 0)), (3, .long x3), (5, .long x5), (7, .long x7), (10, .int x10), (11, .int x11), (12, .int x12)]) : W p l e (rmU 2 38 0 0) s m args below meth c H locs 0 0 (MQ below (QI D A z (w_U_A cA a S b T)) args s 0 0 A) (F0 m 115 ls [.int y0]) := by
  obtain ⟨hx, hb, hml, hown, hts, hK, hN, hr, hlk⟩ := id C
  unfold fX6_comesTo_j115 at hf
  refine lv_istore (lv' := [(9, .int y0), (0, .ref (a 0)), (1, .int p1), (2, .ref (b 0)), (3, .long x3), (5, .long x5), (7, .long x7), (10, .int x10), (11, .int x11), (12, .int x12)]) (pc := 115) hx hb dX6_comesTo_115 hl (by decide) rfl (fun ls hl => ?_)
  refine lv_iload (pc := 117) hx hb dX6_comesTo_117 (lv_at hl 0 rfl) ?_
  refine lv_if_ne (tgt := 156) (pc := 119) hx hb dX6_comesTo_119 (by decide) (fun c1 => ?_) (fun c1 => ?_)
  · have hf := pt_f c1 hf
    exact wX6_comesTo_156 C hA hg17 hf hP hD hS (lv_sub hl [1, 2, 3, 4, 5, 6, 0, 7, 8] rfl)
  · have hf := pt_t c1 hf
    refine lv_iload (pc := 122) hx hb dX6_comesTo_122 (lv_at hl 7 rfl) ?_
    refine lv_if_eq (tgt := 134) (pc := 124) hx hb dX6_comesTo_124 (by decide) (fun c2 => ?_) (fun c2 => ?_)
    · have hf := pt_t c2 hf
      refine lv_lload_n (pc := 134) hx hb dX6_comesTo_134 rfl (lv_at hl 4 rfl) ?_
      refine lv_lload (pc := 135) hx hb dX6_comesTo_135 (lv_at hl 5 rfl) ?_
      refine lv_ladd (pc := 137) hx hb dX6_comesTo_137 ?_
      exact wX6_comesTo_138 C hA hg17 hf hP hD hS (lv_sub hl [1, 2, 3, 5, 6, 0, 8, 9] rfl)
    · have hf := pt_f c2 hf
      refine lv_lload_n (pc := 127) hx hb dX6_comesTo_127 rfl (lv_at hl 4 rfl) ?_
      refine lv_lload (pc := 128) hx hb dX6_comesTo_128 (lv_at hl 5 rfl) ?_
      refine lv_lsub (pc := 130) hx hb dX6_comesTo_130 ?_
      refine lv_goto (tgt := 138) (pc := 131) hx hb dX6_comesTo_131 (by decide) ?_
      exact wX6_comesTo_138 C hA hg17 hf hP hD hS (lv_sub hl [1, 2, 3, 5, 6, 0, 8, 9] rfl)
set_option maxRecDepth 100000 in
set_option maxHeartbeats 4000000 in
theorem wX6_comesTo_98 (C : Cx p s m args meth c D cA cX6_comesTo 13 RX6 (some .int)) (hA : ∀ q : Nat, s.heap.size ≤ q → A q) {N : Nat} {z : Int32} {S : St} {T : St} {p1 : Int32} {g17 : Int64 × Int64 × Int64 × Int32 × Int32 × Int32 → Option (Int32)} (hg17 : ∀ (x3 : Int64) (x5 : Int64) (x7 : Int64) (x9 : Int32) (x10 : Int32) (x11 : Int32), g17 (x3, x5, x7, x9, x10, x11) = some z → ∀ (H : Heap) (locs : List Loc) (ls : Array Slot), va_P D vwCl (w_U_A cA a S b T) H → va_D A (w_U_A cA a S b T) → va_S A s.heap H locs → lv_has ls 13 [(0, .ref (a 0)), (1, .int p1), (2, .ref (b 0)), (3, .long x3), (5, .long x5), (7, .long x7), (9, .int x9), (10, .int x10), (11, .int x11)] → W p l e (rmU 2 38 0 0) s m args below meth c H locs 0 0 (MQ below (QI D A z (w_U_A cA a S b T)) args s 0 0 A) (F0 m 17 ls [])) {x3 : Int64} {x10 : Int32} {x11 : Int32} {x12 : Int32} {y0 : Int64} (hf : fX6_comesTo_j98 N S T p1 g17 x3 x10 x11 x12 y0 = some z) {H : Heap} {locs : List Loc} {ls : Array Slot} (hP : va_P D vwCl (w_U_A cA a S b T) H) (hD : va_D A (w_U_A cA a S b T)) (hS : va_S A s.heap H locs) (hl : lv_has ls 13 [(0, .ref (a 0)), (1, .int p1), (2, .ref (b 0)), (3, .long x3), (10, .int x10), (11, .int x11), (12, .int x12)]) : W p l e (rmU 2 38 0 0) s m args below meth c H locs 0 0 (MQ below (QI D A z (w_U_A cA a S b T)) args s 0 0 A) (F0 m 98 ls [.long y0]) := by
  obtain ⟨hx, hb, hml, hown, hts, hK, hN, hr, hlk⟩ := id C
  unfold fX6_comesTo_j98 at hf
  refine lv_lstore (lv' := [(5, .long y0), (0, .ref (a 0)), (1, .int p1), (2, .ref (b 0)), (3, .long x3), (10, .int x10), (11, .int x11), (12, .int x12)]) (pc := 98) hx hb dX6_comesTo_98 hl (by decide) rfl (fun ls hl => ?_)
  refine lv_lconst (v := (0 : Int64)) (pc := 100) hx hb dX6_comesTo_100 (by decide) ?_
  refine lv_lstore (lv' := [(7, .long ((0 : Int64))), (5, .long y0), (0, .ref (a 0)), (1, .int p1), (2, .ref (b 0)), (3, .long x3), (10, .int x10), (11, .int x11), (12, .int x12)]) (pc := 101) hx hb dX6_comesTo_101 hl (by decide) rfl (fun ls hl => ?_)
  refine lv_iload (pc := 103) hx hb dX6_comesTo_103 (lv_at hl 8 rfl) ?_
  refine lv_bipush (v := (42 : Int32)) (pc := 105) hx hb dX6_comesTo_105 (by decide) ?_
  refine lv_icmp_ne (tgt := 114) (pc := 107) hx hb dX6_comesTo_107 (by decide) (fun c1 => ?_) (fun c1 => ?_)
  · have hf := pt_f c1 hf
    refine lv_iconst (v := (0 : Int32)) (pc := 114) hx hb dX6_comesTo_114 (by decide) ?_
    exact wX6_comesTo_115 C hA hg17 hf hP hD hS (lv_sub hl [2, 3, 4, 5, 1, 0, 6, 7, 8] rfl)
  · have hf := pt_t c1 hf
    refine lv_iconst (v := (1 : Int32)) (pc := 110) hx hb dX6_comesTo_110 (by decide) ?_
    refine lv_goto (tgt := 115) (pc := 111) hx hb dX6_comesTo_111 (by decide) ?_
    exact wX6_comesTo_115 C hA hg17 hf hP hD hS (lv_sub hl [2, 3, 4, 5, 1, 0, 6, 7, 8] rfl)
set_option maxRecDepth 100000 in
set_option maxHeartbeats 4000000 in
theorem wX6_comesTo_47 (C : Cx p s m args meth c D cA cX6_comesTo 13 RX6 (some .int)) (hA : ∀ q : Nat, s.heap.size ≤ q → A q) {N : Nat} {z : Int32} {S : St} {T : St} {p1 : Int32} {g17 : Int64 × Int64 × Int64 × Int32 × Int32 × Int32 → Option (Int32)} (hg17 : ∀ (x3 : Int64) (x5 : Int64) (x7 : Int64) (x9 : Int32) (x10 : Int32) (x11 : Int32), g17 (x3, x5, x7, x9, x10, x11) = some z → ∀ (H : Heap) (locs : List Loc) (ls : Array Slot), va_P D vwCl (w_U_A cA a S b T) H → va_D A (w_U_A cA a S b T) → va_S A s.heap H locs → lv_has ls 13 [(0, .ref (a 0)), (1, .int p1), (2, .ref (b 0)), (3, .long x3), (5, .long x5), (7, .long x7), (9, .int x9), (10, .int x10), (11, .int x11)] → W p l e (rmU 2 38 0 0) s m args below meth c H locs 0 0 (MQ below (QI D A z (w_U_A cA a S b T)) args s 0 0 A) (F0 m 17 ls [])) {x3 : Int64} {x5 : Int64} {x7 : Int64} {x9 : Int32} {x10 : Int32} {x11 : Int32} {y0 : Int32} (hf : fX6_comesTo_j47 N S T p1 g17 x3 x5 x7 x9 x10 x11 y0 = some z) {H : Heap} {locs : List Loc} {ls : Array Slot} (hP : va_P D vwCl (w_U_A cA a S b T) H) (hD : va_D A (w_U_A cA a S b T)) (hS : va_S A s.heap H locs) (hl : lv_has ls 13 [(0, .ref (a 0)), (1, .int p1), (2, .ref (b 0)), (3, .long x3), (5, .long x5), (7, .long x7), (9, .int x9), (10, .int x10), (11, .int x11)]) : W p l e (rmU 2 38 0 0) s m args below meth c H locs 0 0 (MQ below (QI D A z (w_U_A cA a S b T)) args s 0 0 A) (F0 m 47 ls [.int y0]) := by
  obtain ⟨hx, hb, hml, hown, hts, hK, hN, hr, hlk⟩ := id C
  unfold fX6_comesTo_j47 at hf
  refine lv_istore (lv' := [(12, .int y0), (0, .ref (a 0)), (1, .int p1), (2, .ref (b 0)), (3, .long x3), (5, .long x5), (7, .long x7), (9, .int x9), (10, .int x10), (11, .int x11)]) (pc := 47) hx hb dX6_comesTo_47 hl (by decide) rfl (fun ls hl => ?_)
  refine lv_iload (pc := 49) hx hb dX6_comesTo_49 (lv_at hl 0 rfl) ?_
  obtain ⟨q1, hq1, hf⟩ := pt_b hf
  have hPc : va_P D vwCl ([] : va_W) H := hP.sub [] rfl
  have hDc : va_D A ([] : va_W) := hD.sub [] (by decide) rfl
  refine prt_i (runU_S (pc := 51) (As := [.int y0]) (rest := []) C lk_RX6_17 (kX6_isSign l D cA hq1 H.size) ⟨Nat.le_of_ble_eq_true rfl, Nat.le_of_ble_eq_true rfl⟩ ⟨Nat.le_refl _, Nat.le_refl _⟩ hPc hDc hl.1 rfl (Nat.le_of_ble_eq_true rfl) dX6_comesTo_51) hP hD hS hA [] rfl (fun H locs hP hD hS => ?_)
  refine lv_if_ne (tgt := 80) (pc := 54) hx hb dX6_comesTo_54 (by decide) (fun c2 => ?_) (fun c2 => ?_)
  · have hf := pt_f c2 hf
    refine lv_iload (pc := 80) hx hb dX6_comesTo_80 (lv_at hl 7 rfl) ?_
    refine lv_if_eq (tgt := 96) (pc := 82) hx hb dX6_comesTo_82 (by decide) (fun c3 => ?_) (fun c3 => ?_)
    · have hf := pt_t c3 hf
      refine lv_lload (pc := 96) hx hb dX6_comesTo_96 (lv_at hl 6 rfl) ?_
      exact wX6_comesTo_98 C hA hg17 hf hP hD hS (lv_sub hl [1, 2, 3, 4, 8, 9, 0] rfl)
    · have hf := pt_f c3 hf
      refine lv_lload (pc := 85) hx hb dX6_comesTo_85 (lv_at hl 5 rfl) ?_
      refine lv_lload (pc := 87) hx hb dX6_comesTo_87 (lv_at hl 6 rfl) ?_
      refine lv_lmul (pc := 89) hx hb dX6_comesTo_89 ?_
      obtain ⟨q4, hq4, hf⟩ := pt_b hf
      have hPc : va_P D vwCl ([] : va_W) H := hP.sub [] rfl
      have hDc : va_D A ([] : va_W) := hD.sub [] (by decide) rfl
      refine prt_l (runU_S (pc := 90) (As := [.long ((x5 * x7))]) (rest := []) C lk_RX6_29 (kX6_keptWithin l D cA hq4 H.size) ⟨Nat.le_of_ble_eq_true rfl, Nat.le_of_ble_eq_true rfl⟩ ⟨Nat.le_refl _, Nat.le_refl _⟩ hPc hDc hl.1 rfl (Nat.le_of_ble_eq_true rfl) dX6_comesTo_90) hP hD hS hA [] rfl (fun H locs hP hD hS => ?_)
      refine lv_goto (tgt := 98) (pc := 93) hx hb dX6_comesTo_93 (by decide) ?_
      exact wX6_comesTo_98 C hA hg17 hf hP hD hS (lv_sub hl [1, 2, 3, 4, 8, 9, 0] rfl)
  · have hf := pt_t c2 hf
    refine lv_lload (pc := 57) hx hb dX6_comesTo_57 (lv_at hl 6 rfl) ?_
    refine lv_ldc2 (pc := 59) (v := (10 : Int64)) hx hb hown (hts _ kl_RX6_21) dX6_comesTo_59 ?_
    refine lv_lmul (pc := 62) hx hb dX6_comesTo_62 ?_
    refine lv_iload (pc := 63) hx hb dX6_comesTo_63 (lv_at hl 0 rfl) ?_
    refine lv_bipush (v := (48 : Int32)) (pc := 65) hx hb dX6_comesTo_65 (by decide) ?_
    refine lv_isub (pc := 67) hx hb dX6_comesTo_67 ?_
    refine lv_iload_n (pc := 68) hx hb dX6_comesTo_68 rfl (lv_at hl 2 rfl) ?_
    refine lv_aload_n (pc := 69) hx hb dX6_comesTo_69 rfl (lv_at hl 3 rfl) ?_
    obtain ⟨q5, hq5, hf⟩ := pt_b hf
    have hPc : va_P D vwCl (w_A cA b T) H := hP.sub [2] rfl
    have hDc : va_D A (w_A cA b T) := hD.sub [2] (by decide) rfl
    refine prt_i (runU_S (pc := 70) (As := [.int ((y0 - (48 : Int32))), .int p1, .ref (b 0)]) (rest := [.long ((x7 * (10 : Int64)))]) C lk_RX6_23 (kX0_heardAs l D cA b hq5 H.size) ⟨Nat.le_of_ble_eq_true rfl, Nat.le_of_ble_eq_true rfl⟩ ⟨Nat.le_refl _, Nat.le_refl _⟩ hPc hDc hl.1 rfl (Nat.le_of_ble_eq_true rfl) dX6_comesTo_70) hP hD hS hA [2] rfl (fun H locs hP hD hS => ?_)
    refine lv_i2l (v := q5.toInt64) (pc := 73) hx hb dX6_comesTo_73 rfl ?_
    refine lv_ladd (pc := 74) hx hb dX6_comesTo_74 ?_
    refine lv_topl (fun v6 ev6 => ?_)
    have hf := pt_n ev6 hf
    refine lv_lstore (lv' := [(7, .long v6), (12, .int y0), (0, .ref (a 0)), (1, .int p1), (2, .ref (b 0)), (3, .long x3), (5, .long x5), (9, .int x9), (10, .int x10), (11, .int x11)]) (pc := 75) hx hb dX6_comesTo_75 hl (by decide) rfl (fun ls hl => ?_)
    refine lv_goto (tgt := 156) (pc := 77) hx hb dX6_comesTo_77 (by decide) ?_
    exact wX6_comesTo_156 C hA hg17 hf hP hD hS (lv_sub hl [2, 3, 4, 5, 6, 0, 7, 8, 9] rfl)
set_option maxRecDepth 100000 in
set_option maxHeartbeats 4000000 in
theorem wX6_comesTo_17 (C : Cx p s m args meth c D cA cX6_comesTo 13 RX6 (some .int)) (hA : ∀ q : Nat, s.heap.size ≤ q → A q) {N : Nat} {z : Int32} {S : St} {T : St} {p1 : Int32} : ∀ (k : Nat) (x3 : Int64) (x5 : Int64) (x7 : Int64) (x9 : Int32) (x10 : Int32) (x11 : Int32), fX6_comesTo_l17 N S T p1 k (x3, x5, x7, x9, x10, x11) = some z → ∀ (H : Heap) (locs : List Loc) (ls : Array Slot), va_P D vwCl (w_U_A cA a S b T) H → va_D A (w_U_A cA a S b T) → va_S A s.heap H locs → lv_has ls 13 [(0, .ref (a 0)), (1, .int p1), (2, .ref (b 0)), (3, .long x3), (5, .long x5), (7, .long x7), (9, .int x9), (10, .int x10), (11, .int x11)] → W p l e (rmU 2 38 0 0) s m args below meth c H locs 0 0 (MQ below (QI D A z (w_U_A cA a S b T)) args s 0 0 A) (F0 m 17 ls []) := by
  obtain ⟨hx, hb, hml, hown, hts, hK, hN, hr, hlk⟩ := id C
  intro k
  induction k with
  | zero =>
    intro x3 x5 x7 x9 x10 x11 hf
    have hf : (none : Option (Int32)) = some z := hf
    cases hf
  | succ k hg17 =>
    intro x3 x5 x7 x9 x10 x11 hf H locs ls hP hD hS hl
    have hf : fX6_comesTo_b17 N S T p1 (fX6_comesTo_l17 N S T p1 k) x3 x5 x7 x9 x10 x11 = some z := hf
    unfold fX6_comesTo_b17 at hf
    refine lv_iload (pc := 17) hx hb dX6_comesTo_17 (lv_at hl 8 rfl) ?_
    refine lv_aload_n (pc := 19) hx hb dX6_comesTo_19 rfl (lv_at hl 0 rfl) ?_
    refine ge_RX6_13_U_A_0_0 (pc := 20) C hP dX6_comesTo_20 ?_
    refine lv_icmp_gt (tgt := 162) (pc := 23) hx hb dX6_comesTo_23 (by decide) (fun c1 => ?_) (fun c1 => ?_)
    · have hf := pt_t c1 hf
      refine lv_lload_n (pc := 162) hx hb dX6_comesTo_162 rfl (lv_at hl 3 rfl) ?_
      refine lv_l2i (v := x3.toInt32) (pc := 163) hx hb dX6_comesTo_163 rfl ?_
      cases hf
      exact ret_i C hP hD hS dX6_comesTo_164
    · have hf := pt_f c1 hf
      refine lv_iload (pc := 26) hx hb dX6_comesTo_26 (lv_at hl 8 rfl) ?_
      refine lv_aload_n (pc := 28) hx hb dX6_comesTo_28 rfl (lv_at hl 0 rfl) ?_
      refine ge_RX6_13_U_A_0_0 (pc := 29) C hP dX6_comesTo_29 ?_
      refine lv_icmp_ge (tgt := 45) (pc := 32) hx hb dX6_comesTo_32 (by decide) (fun c2 => ?_) (fun c2 => ?_)
      · have hf := pt_t c2 hf
        refine lv_bipush (v := (43 : Int32)) (pc := 45) hx hb dX6_comesTo_45 (by decide) ?_
        exact wX6_comesTo_47 C hA hg17 hf hP hD hS (lv_sub hl [0, 1, 2, 3, 4, 5, 6, 7, 8] rfl)
      · have hf := pt_f c2 hf
        refine lv_aload_n (pc := 35) hx hb dX6_comesTo_35 rfl (lv_at hl 0 rfl) ?_
        refine ge_RX6_9_U_A_0_0 (pc := 36) C hP dX6_comesTo_36 ?_
        refine lv_iload (pc := 39) hx hb dX6_comesTo_39 (lv_at hl 8 rfl) ?_
        obtain ⟨h3, hf⟩ := pt_g hf
        refine ld_U_A_0_1 (pc := 41) (j := x11.toNatClampNeg) C hP h3 rfl dX6_comesTo_41 ?_
        refine lv_goto (tgt := 47) (pc := 42) hx hb dX6_comesTo_42 (by decide) ?_
        exact wX6_comesTo_47 C hA hg17 hf hP hD hS (lv_sub hl [0, 1, 2, 3, 4, 5, 6, 7, 8] rfl)
set_option maxRecDepth 100000 in
set_option maxHeartbeats 4000000 in
theorem wX6_comesTo (C : Cx p s m args meth c D cA cX6_comesTo 13 RX6 (some .int)) (hA : ∀ q : Nat, s.heap.size ≤ q → A q) {N : Nat} {z : Int32} {S : St} {T : St} {p1 : Int32} (hf : fX6_comesTo N S T p1 = some z) {H : Heap} {locs : List Loc} {ls : Array Slot} (hP : va_P D vwCl (w_U_A cA a S b T) H) (hD : va_D A (w_U_A cA a S b T)) (hS : va_S A s.heap H locs) (hl : lv_has ls 13 [(0, .ref (a 0)), (1, .int p1), (2, .ref (b 0))]) : W p l e (rmU 2 38 0 0) s m args below meth c H locs 0 0 (MQ below (QI D A z (w_U_A cA a S b T)) args s 0 0 A) (F0 m 0 ls []) := by
  obtain ⟨hx, hb, hml, hown, hts, hK, hN, hr, hlk⟩ := id C
  unfold fX6_comesTo at hf
  refine lv_lconst (v := (0 : Int64)) (pc := 0) hx hb dX6_comesTo_0 (by decide) ?_
  refine lv_lstore_n (lv' := [(3, .long ((0 : Int64))), (0, .ref (a 0)), (1, .int p1), (2, .ref (b 0))]) (pc := 1) hx hb dX6_comesTo_1 rfl hl (by decide) rfl (fun ls hl => ?_)
  refine lv_lconst (v := (0 : Int64)) (pc := 2) hx hb dX6_comesTo_2 (by decide) ?_
  refine lv_lstore (lv' := [(5, .long ((0 : Int64))), (3, .long ((0 : Int64))), (0, .ref (a 0)), (1, .int p1), (2, .ref (b 0))]) (pc := 3) hx hb dX6_comesTo_3 hl (by decide) rfl (fun ls hl => ?_)
  refine lv_lconst (v := (0 : Int64)) (pc := 5) hx hb dX6_comesTo_5 (by decide) ?_
  refine lv_lstore (lv' := [(7, .long ((0 : Int64))), (5, .long ((0 : Int64))), (3, .long ((0 : Int64))), (0, .ref (a 0)), (1, .int p1), (2, .ref (b 0))]) (pc := 6) hx hb dX6_comesTo_6 hl (by decide) rfl (fun ls hl => ?_)
  refine lv_iconst (v := (0 : Int32)) (pc := 8) hx hb dX6_comesTo_8 (by decide) ?_
  refine lv_istore (lv' := [(9, .int ((0 : Int32))), (7, .long ((0 : Int64))), (5, .long ((0 : Int64))), (3, .long ((0 : Int64))), (0, .ref (a 0)), (1, .int p1), (2, .ref (b 0))]) (pc := 9) hx hb dX6_comesTo_9 hl (by decide) rfl (fun ls hl => ?_)
  refine lv_iconst (v := (0 : Int32)) (pc := 11) hx hb dX6_comesTo_11 (by decide) ?_
  refine lv_istore (lv' := [(10, .int ((0 : Int32))), (9, .int ((0 : Int32))), (7, .long ((0 : Int64))), (5, .long ((0 : Int64))), (3, .long ((0 : Int64))), (0, .ref (a 0)), (1, .int p1), (2, .ref (b 0))]) (pc := 12) hx hb dX6_comesTo_12 hl (by decide) rfl (fun ls hl => ?_)
  refine lv_iconst (v := (0 : Int32)) (pc := 14) hx hb dX6_comesTo_14 (by decide) ?_
  refine lv_istore (lv' := [(11, .int ((0 : Int32))), (10, .int ((0 : Int32))), (9, .int ((0 : Int32))), (7, .long ((0 : Int64))), (5, .long ((0 : Int64))), (3, .long ((0 : Int64))), (0, .ref (a 0)), (1, .int p1), (2, .ref (b 0))]) (pc := 15) hx hb dX6_comesTo_15 hl (by decide) rfl (fun ls hl => ?_)
  exact wX6_comesTo_17 C hA  _ ((0 : Int64)) ((0 : Int64)) ((0 : Int64)) ((0 : Int32)) ((0 : Int32)) ((0 : Int32)) hf _ _ _ hP hD hS (lv_sub hl [6, 7, 8, 5, 4, 3, 2, 1, 0] rfl)
set_option maxRecDepth 100000 in
set_option maxHeartbeats 4000000 in
theorem kX6_comesTo (l : Launch) (D : va_G) (cA : Nat → ClassId) (a : Nat → Nat) (b : Nat → Nat) {N : Nat} {S : St} {T : St} {p1 : Int32} {z : Int32} (hf : fX6_comesTo N S T p1 = some z) : CtI l yX6_comesTo cX6_comesTo 13 (some .int) 2 38 D cA (w_U_A cA a S b T) (w_U_A cA a S b T) [.ref (a 0), .int p1, .ref (b 0)] z := by
  intro sz
  refine Met.ofW (cc := cX6_comesTo) (maxL := 13) (ret := (some .int)) (by decide) rfl ?_
  intro p e s m args below meth c s₁ B hml hv
  obtain ⟨rfl, hsz, hP, hK, hD0⟩ := hv
  subst hsz
  have C : Cx p s m _ meth c D cA cX6_comesTo 13 RX6 (some .int) := Cx.of B hml hK
  have hD := hD0.self (sz := s.heap.size)
  have hA : ∀ q : Nat, s.heap.size ≤ q → va_A (w_U_A cA a S b T) s.heap.size q := fun q h => Or.inr h
  have hS : va_S (va_A (w_U_A cA a S b T) s.heap.size) s.heap s.heap [] := va_S.rf
  have hl := lv_entry ([.ref (a 0), .int p1, .ref (b 0)]) (n := 13) (Nat.le_of_ble_eq_true rfl)
  rw [lg_entry_eq]
  generalize (lg_sl ([.ref (a 0), .int p1, .ref (b 0)]) ++ List.replicate (13 - (lg_sl ([.ref (a 0), .int p1, .ref (b 0)])).length) Slot.unset).toArray = ls at hl ⊢
  exact wX6_comesTo C hA hf hP hD hS hl
def w_P (cA : Nat → ClassId) (a : Nat → Nat) (S : St) : va_W := [(a 0, .inr (3, [.ref (a 1), .ref (a 2), .int (S 0 0)])), (a 1, .inl (cA 0, 8, .inl (S 1))), (a 2, .inl (cA 0, 8, .inl (S 2)))]
theorem fl_RX4_9 : Cond.fieldLink RX4 9 "SevenOnStrike$Past" "changed" "[I" ∈ wsL_law := by decide +kernel
theorem ge_RX4_9_P_0_0 (C : Cx p s m args meth c D cA cc nL RX4 ret) (hP : va_P D vwCl (w_P cA a S) H) (hdg : decode cc pc = .ok (.getfield 9, 3)) (kk : W p l e R s m args below meth c H locs cells slots Q (F0 m (pc + 3) ls (.ref (a 1) :: rest))) : W p l e R s m args below meth c H locs cells slots Q (F0 m pc ls (.ref (a 0) :: rest)) := by
  obtain ⟨hx, hb, -, hown, hts, hK, -, -, -⟩ := C
  exact va_get (D := D) (ci := 3) (v := .ref (a 1)) (C := RX4) (T := TX4) (N := 3) hx hb hts inlX4 hown hK hP 0 rfl rfl 0 (by decide) (hts _ fl_RX4_9) (fun _ h9 => h9) rfl hdg kk
theorem fl_RX4_16 : Cond.fieldLink RX4 16 "SevenOnStrike$Past" "size" "I" ∈ wsL_law := by decide +kernel
theorem ge_RX4_16_P_0_0 (C : Cx p s m args meth c D cA cc nL RX4 ret) (hP : va_P D vwCl (w_P cA a S) H) (hdg : decode cc pc = .ok (.getfield 16, 3)) (kk : W p l e R s m args below meth c H locs cells slots Q (F0 m (pc + 3) ls (.int (S 0 0) :: rest))) : W p l e R s m args below meth c H locs cells slots Q (F0 m pc ls (.ref (a 0) :: rest)) := by
  obtain ⟨hx, hb, -, hown, hts, hK, -, -, -⟩ := C
  exact va_get (D := D) (ci := 3) (v := .int (S 0 0)) (C := RX4) (T := TX4) (N := 3) hx hb hts inlX4 hown hK hP 0 rfl rfl 2 (by decide) (hts _ fl_RX4_16) (fun _ h9 => h9) rfl hdg kk
theorem sr_P_0_1 {i v : Int32} {j : Nat} (C : Cx p s m args meth c D cA cc nL own ret) (hP : va_P D vwCl (w_P cA a S) H) (hD : va_D A (w_P cA a S)) (hS : va_S A s.heap H locs) (hin : vp_in i 8) (hj : i.toNatClampNeg = j) (hdg : decode cc pc = .ok (.iastore, 1)) (kk : ∀ (H1 : Heap) (locs1 : List Loc), va_P D vwCl (w_P cA a (sti S 1 j v)) H1 → va_D A (w_P cA a (sti S 1 j v)) → va_S A s.heap H1 locs1 → W p l e R s m args below meth c H1 locs1 cells slots Q (F0 m (pc + 1) ls rest)) : W p l e R s m args below meth c H locs cells slots Q (F0 m pc ls (.int v :: .int i :: .ref (a 1) :: rest)) := by
  obtain ⟨hx, hb, -, hown, hts, hK, -, -, -⟩ := C
  subst hj
  exact va_iast hx hb hK hP hD hS 1 0 rfl rfl hin hdg (fun H1 locs1 h1 h2 h3 => kk H1 locs1 h1 h2 h3)
theorem fl_RX4_13 : Cond.fieldLink RX4 13 "SevenOnStrike$Past" "before" "[I" ∈ wsL_law := by decide +kernel
theorem ge_RX4_13_P_0_0 (C : Cx p s m args meth c D cA cc nL RX4 ret) (hP : va_P D vwCl (w_P cA a S) H) (hdg : decode cc pc = .ok (.getfield 13, 3)) (kk : W p l e R s m args below meth c H locs cells slots Q (F0 m (pc + 3) ls (.ref (a 2) :: rest))) : W p l e R s m args below meth c H locs cells slots Q (F0 m pc ls (.ref (a 0) :: rest)) := by
  obtain ⟨hx, hb, -, hown, hts, hK, -, -, -⟩ := C
  exact va_get (D := D) (ci := 3) (v := .ref (a 2)) (C := RX4) (T := TX4) (N := 3) hx hb hts inlX4 hown hK hP 0 rfl rfl 1 (by decide) (hts _ fl_RX4_13) (fun _ h9 => h9) rfl hdg kk
theorem sr_P_0_2 {i v : Int32} {j : Nat} (C : Cx p s m args meth c D cA cc nL own ret) (hP : va_P D vwCl (w_P cA a S) H) (hD : va_D A (w_P cA a S)) (hS : va_S A s.heap H locs) (hin : vp_in i 8) (hj : i.toNatClampNeg = j) (hdg : decode cc pc = .ok (.iastore, 1)) (kk : ∀ (H1 : Heap) (locs1 : List Loc), va_P D vwCl (w_P cA a (sti S 2 j v)) H1 → va_D A (w_P cA a (sti S 2 j v)) → va_S A s.heap H1 locs1 → W p l e R s m args below meth c H1 locs1 cells slots Q (F0 m (pc + 1) ls rest)) : W p l e R s m args below meth c H locs cells slots Q (F0 m pc ls (.int v :: .int i :: .ref (a 2) :: rest)) := by
  obtain ⟨hx, hb, -, hown, hts, hK, -, -, -⟩ := C
  subst hj
  exact va_iast hx hb hK hP hD hS 2 0 rfl rfl hin hdg (fun H1 locs1 h1 h2 h3 => kk H1 locs1 h1 h2 h3)
theorem pu_RX4_16_P_0_0 {v : Int32} (C : Cx p s m args meth c D cA cc nL RX4 ret) (hP : va_P D vwCl (w_P cA a S) H) (hD : va_D A (w_P cA a S)) (hS : va_S A s.heap H locs) (hdg : decode cc pc = .ok (.putfield 16, 3)) (kk : ∀ (H1 : Heap) (locs1 : List Loc), va_P D vwCl (w_P cA a (stf S 0 v)) H1 → va_D A (w_P cA a (stf S 0 v)) → va_S A s.heap H1 locs1 → W p l e R s m args below meth c H1 locs1 cells slots Q (F0 m (pc + 3) ls rest)) : W p l e R s m args below meth c H locs cells slots Q (F0 m pc ls (.int v :: .ref (a 0) :: rest)) := by
  obtain ⟨hx, hb, -, hown, hts, hK, -, -, -⟩ := C
  exact va_put (D := D) (ci := 3) (v := .int v) (ty := .int) (C := RX4) (T := TX4) (N := 3) hx hb hts inlX4 tyX4 tyX4_ok nmX4 hown hK hP hD hS 0 rfl rfl 2 (by decide) (hts _ fl_RX4_16) (fun _ h9 => h9) rfl (by decide +kernel) rfl rfl (Nat.le_of_ble_eq_true rfl) hdg (fun H1 locs1 h1 h2 h3 => kk H1 locs1 h1 h2 h3)
theorem lc_RX4_20 : Cond.methodLink RX4 20 arraycopyName ∈ wsL_law ∧ Cond.native arraycopyName ∈ wsL_law ∧ Cond.static arraycopyName ∈ wsL_law ∧ Cond.initialized "java/lang/System" ∈ wsL_law := ⟨by decide +kernel, by decide +kernel, by decide +kernel, by decide +kernel⟩
def fX4_remember_j45 (N : Nat) (p1 : Int32) (p2 : Int32) (S : St) : Option (St) :=
  if ¬ ((S 0 0) < 0 ∨ 8 ≤ ((S 0 0)).toNatClampNeg) then (if ¬ (((sti S 1 (((S 0 0)).toNatClampNeg) p1) 0 0) < 0 ∨ 8 ≤ (((sti S 1 (((S 0 0)).toNatClampNeg) p1) 0 0)).toNatClampNeg) then (some ((stf (sti (sti S 1 (((S 0 0)).toNatClampNeg) p1) 2 ((((sti S 1 (((S 0 0)).toNatClampNeg) p1) 0 0)).toNatClampNeg) p2) 0 ((((sti (sti S 1 (((S 0 0)).toNatClampNeg) p1) 2 ((((sti S 1 (((S 0 0)).toNatClampNeg) p1) 0 0)).toNatClampNeg) p2) 0 0) + (1 : Int32)))))) else none) else none
def fX4_remember (N : Nat) (S : St) (p1 : Int32) (p2 : Int32) : Option (St) :=
  if (S 0 0) < (8 : Int32) then (fX4_remember_j45 N p1 p2 S) else (fX4_remember_j45 N p1 p2 ((stf (va_up (va_up S 1 (va_cpy (S 1) (S 1) 1 0 7)) 2 (va_cpy ((va_up S 1 (va_cpy (S 1) (S 1) 1 0 7)) 2) ((va_up S 1 (va_cpy (S 1) (S 1) 1 0 7)) 2) 1 0 7)) 0 ((7 : Int32)))))
set_option maxRecDepth 100000 in
set_option maxHeartbeats 4000000 in
theorem wX4_remember_45 (C : Cx p s m args meth c D cA cX4_remember 3 RX4 none) (hA : ∀ q : Nat, s.heap.size ≤ q → A q) {N : Nat} {z : St} {p1 : Int32} {p2 : Int32} {S : St} (hf : fX4_remember_j45 N p1 p2 S = some z) {H : Heap} {locs : List Loc} {ls : Array Slot} (hP : va_P D vwCl (w_P cA a S) H) (hD : va_D A (w_P cA a S)) (hS : va_S A s.heap H locs) (hl : lv_has ls 3 [(0, .ref (a 0)), (1, .int p1), (2, .int p2)]) : W p l e (rmU 1 30 0 0) s m args below meth c H locs 0 0 (MQ below (QV D A (w_P cA a z)) args s 0 0 A) (F0 m 45 ls []) := by
  obtain ⟨hx, hb, hml, hown, hts, hK, hN, hr, hlk⟩ := id C
  unfold fX4_remember_j45 at hf
  refine lv_aload_n (pc := 45) hx hb dX4_remember_45 rfl (lv_at hl 0 rfl) ?_
  refine ge_RX4_9_P_0_0 (pc := 46) C hP dX4_remember_46 ?_
  refine lv_aload_n (pc := 49) hx hb dX4_remember_49 rfl (lv_at hl 0 rfl) ?_
  refine ge_RX4_16_P_0_0 (pc := 50) C hP dX4_remember_50 ?_
  refine lv_iload_n (pc := 53) hx hb dX4_remember_53 rfl (lv_at hl 1 rfl) ?_
  obtain ⟨h1, hf⟩ := pt_g hf
  refine sr_P_0_1 (pc := 54) (j := ((S 0 0)).toNatClampNeg) C hP hD hS h1 rfl dX4_remember_54 (fun H locs hP hD hS => ?_)
  refine lv_aload_n (pc := 55) hx hb dX4_remember_55 rfl (lv_at hl 0 rfl) ?_
  refine ge_RX4_13_P_0_0 (pc := 56) C hP dX4_remember_56 ?_
  refine lv_aload_n (pc := 59) hx hb dX4_remember_59 rfl (lv_at hl 0 rfl) ?_
  refine ge_RX4_16_P_0_0 (pc := 60) C hP dX4_remember_60 ?_
  refine lv_iload_n (pc := 63) hx hb dX4_remember_63 rfl (lv_at hl 2 rfl) ?_
  obtain ⟨h2, hf⟩ := pt_g hf
  refine sr_P_0_2 (pc := 64) (j := (((sti S 1 (((S 0 0)).toNatClampNeg) p1) 0 0)).toNatClampNeg) C hP hD hS h2 rfl dX4_remember_64 (fun H locs hP hD hS => ?_)
  refine lv_aload_n (pc := 65) hx hb dX4_remember_65 rfl (lv_at hl 0 rfl) ?_
  refine lv_dup (pc := 66) hx hb dX4_remember_66 rfl ?_
  refine ge_RX4_16_P_0_0 (pc := 67) C hP dX4_remember_67 ?_
  refine lv_iconst (v := (1 : Int32)) (pc := 70) hx hb dX4_remember_70 (by decide) ?_
  refine lv_iadd (pc := 71) hx hb dX4_remember_71 ?_
  refine pu_RX4_16_P_0_0 (pc := 72) C hP hD hS dX4_remember_72 (fun H locs hP hD hS => ?_)
  cases hf
  exact ret_v C hP hD hS dX4_remember_75
set_option maxRecDepth 100000 in
set_option maxHeartbeats 4000000 in
theorem wX4_remember (C : Cx p s m args meth c D cA cX4_remember 3 RX4 none) (hA : ∀ q : Nat, s.heap.size ≤ q → A q) {N : Nat} {z : St} {S : St} {p1 : Int32} {p2 : Int32} (hf : fX4_remember N S p1 p2 = some z) {H : Heap} {locs : List Loc} {ls : Array Slot} (hP : va_P D vwCl (w_P cA a S) H) (hD : va_D A (w_P cA a S)) (hS : va_S A s.heap H locs) (hl : lv_has ls 3 [(0, .ref (a 0)), (1, .int p1), (2, .int p2)]) : W p l e (rmU 1 30 0 0) s m args below meth c H locs 0 0 (MQ below (QV D A (w_P cA a z)) args s 0 0 A) (F0 m 0 ls []) := by
  obtain ⟨hx, hb, hml, hown, hts, hK, hN, hr, hlk⟩ := id C
  unfold fX4_remember at hf
  refine lv_aload_n (pc := 0) hx hb dX4_remember_0 rfl (lv_at hl 0 rfl) ?_
  refine ge_RX4_16_P_0_0 (pc := 1) C hP dX4_remember_1 ?_
  refine lv_bipush (v := (8 : Int32)) (pc := 4) hx hb dX4_remember_4 (by decide) ?_
  refine lv_icmp_lt (tgt := 45) (pc := 6) hx hb dX4_remember_6 (by decide) (fun c1 => ?_) (fun c1 => ?_)
  · have hf := pt_t c1 hf
    exact wX4_remember_45 C hA  hf hP hD hS (lv_sub hl [0, 1, 2] rfl)
  · have hf := pt_f c1 hf
    refine lv_aload_n (pc := 9) hx hb dX4_remember_9 rfl (lv_at hl 0 rfl) ?_
    refine ge_RX4_9_P_0_0 (pc := 10) C hP dX4_remember_10 ?_
    refine lv_iconst (v := (1 : Int32)) (pc := 13) hx hb dX4_remember_13 (by decide) ?_
    refine lv_aload_n (pc := 14) hx hb dX4_remember_14 rfl (lv_at hl 0 rfl) ?_
    refine ge_RX4_9_P_0_0 (pc := 15) C hP dX4_remember_15 ?_
    refine lv_iconst (v := (0 : Int32)) (pc := 18) hx hb dX4_remember_18 (by decide) ?_
    refine lv_bipush (v := (7 : Int32)) (pc := 19) hx hb dX4_remember_19 (by decide) ?_
    refine va_copyi (D := D) (pc := 21) (ty := .int) hx hb (hml.trans hl.1.symm) hown (hts _ lc_RX4_20.1) (hts _ lc_RX4_20.2.1) (hts _ lc_RX4_20.2.2.1) (hts _ lc_RX4_20.2.2.2) hK hP hD hS 1 1 0 0 rfl rfl rfl rfl rfl (by decide) (by decide) (by decide) (by decide) (by decide) (fun _ _ => rfl) (Nat.le_of_ble_eq_true rfl) (Nat.le_of_ble_eq_true rfl) dX4_remember_21 (fun H locs hP hD hS => ?_)
    have hP : va_P D vwCl (w_P cA a (va_up S 1 (va_cpy (S 1) (S 1) 1 0 7))) H := hP
    have hD : va_D A (w_P cA a (va_up S 1 (va_cpy (S 1) (S 1) 1 0 7))) := hD
    refine lv_aload_n (pc := 24) hx hb dX4_remember_24 rfl (lv_at hl 0 rfl) ?_
    refine ge_RX4_13_P_0_0 (pc := 25) C hP dX4_remember_25 ?_
    refine lv_iconst (v := (1 : Int32)) (pc := 28) hx hb dX4_remember_28 (by decide) ?_
    refine lv_aload_n (pc := 29) hx hb dX4_remember_29 rfl (lv_at hl 0 rfl) ?_
    refine ge_RX4_13_P_0_0 (pc := 30) C hP dX4_remember_30 ?_
    refine lv_iconst (v := (0 : Int32)) (pc := 33) hx hb dX4_remember_33 (by decide) ?_
    refine lv_bipush (v := (7 : Int32)) (pc := 34) hx hb dX4_remember_34 (by decide) ?_
    refine va_copyi (D := D) (pc := 36) (ty := .int) hx hb (hml.trans hl.1.symm) hown (hts _ lc_RX4_20.1) (hts _ lc_RX4_20.2.1) (hts _ lc_RX4_20.2.2.1) (hts _ lc_RX4_20.2.2.2) hK hP hD hS 2 2 0 0 rfl rfl rfl rfl rfl (by decide) (by decide) (by decide) (by decide) (by decide) (fun _ _ => rfl) (Nat.le_of_ble_eq_true rfl) (Nat.le_of_ble_eq_true rfl) dX4_remember_36 (fun H locs hP hD hS => ?_)
    have hP : va_P D vwCl (w_P cA a (va_up (va_up S 1 (va_cpy (S 1) (S 1) 1 0 7)) 2 (va_cpy ((va_up S 1 (va_cpy (S 1) (S 1) 1 0 7)) 2) ((va_up S 1 (va_cpy (S 1) (S 1) 1 0 7)) 2) 1 0 7))) H := hP
    have hD : va_D A (w_P cA a (va_up (va_up S 1 (va_cpy (S 1) (S 1) 1 0 7)) 2 (va_cpy ((va_up S 1 (va_cpy (S 1) (S 1) 1 0 7)) 2) ((va_up S 1 (va_cpy (S 1) (S 1) 1 0 7)) 2) 1 0 7))) := hD
    refine lv_aload_n (pc := 39) hx hb dX4_remember_39 rfl (lv_at hl 0 rfl) ?_
    refine lv_bipush (v := (7 : Int32)) (pc := 40) hx hb dX4_remember_40 (by decide) ?_
    refine pu_RX4_16_P_0_0 (pc := 42) C hP hD hS dX4_remember_42 (fun H locs hP hD hS => ?_)
    exact wX4_remember_45 C hA  hf hP hD hS (lv_sub hl [0, 1, 2] rfl)
set_option maxRecDepth 100000 in
set_option maxHeartbeats 4000000 in
theorem kX4_remember (l : Launch) (D : va_G) (cA : Nat → ClassId) (a : Nat → Nat) {N : Nat} {S : St} {p1 : Int32} {p2 : Int32} {z : St} (hf : fX4_remember N S p1 p2 = some z) : CtV l yX4_remember cX4_remember 3 none 1 30 D cA (w_P cA a S) (w_P cA a z) [.ref (a 0), .int p1, .int p2] := by
  intro sz
  refine Met.ofW (cc := cX4_remember) (maxL := 3) (ret := none) (by decide) rfl ?_
  intro p e s m args below meth c s₁ B hml hv
  obtain ⟨rfl, hsz, hP, hK, hD0⟩ := hv
  subst hsz
  have C : Cx p s m _ meth c D cA cX4_remember 3 RX4 none := Cx.of B hml hK
  have hD := hD0.self (sz := s.heap.size)
  have hA : ∀ q : Nat, s.heap.size ≤ q → va_A (w_P cA a S) s.heap.size q := fun q h => Or.inr h
  have hS : va_S (va_A (w_P cA a S) s.heap.size) s.heap s.heap [] := va_S.rf
  have hl := lv_entry ([.ref (a 0), .int p1, .int p2]) (n := 3) (Nat.le_of_ble_eq_true rfl)
  rw [lg_entry_eq]
  generalize (lg_sl ([.ref (a 0), .int p1, .int p2]) ++ List.replicate (3 - (lg_sl ([.ref (a 0), .int p1, .int p2])).length) Slot.unset).toArray = ls at hl ⊢
  exact wX4_remember C hA hf hP hD hS hl
def w_P_F (cA : Nat → ClassId) (a : Nat → Nat) (S : St) (b : Nat → Nat) (T : St) : va_W := [(a 0, .inr (3, [.ref (a 1), .ref (a 2), .int (S 0 0)])), (a 1, .inl (cA 0, 8, .inl (S 1))), (a 2, .inl (cA 0, 8, .inl (S 2))), (b 0, .inr (0, [.int (T 0 0), .ref (b 1)])), (b 1, .inl (cA 0, 10, .inl (T 1)))]
theorem ge_RX4_16_P_F_0_0 (C : Cx p s m args meth c D cA cc nL RX4 ret) (hP : va_P D vwCl (w_P_F cA a S b T) H) (hdg : decode cc pc = .ok (.getfield 16, 3)) (kk : W p l e R s m args below meth c H locs cells slots Q (F0 m (pc + 3) ls (.int (S 0 0) :: rest))) : W p l e R s m args below meth c H locs cells slots Q (F0 m pc ls (.ref (a 0) :: rest)) := by
  obtain ⟨hx, hb, -, hown, hts, hK, -, -, -⟩ := C
  exact va_get (D := D) (ci := 3) (v := .int (S 0 0)) (C := RX4) (T := TX4) (N := 3) hx hb hts inlX4 hown hK hP 0 rfl rfl 2 (by decide) (hts _ fl_RX4_16) (fun _ h9 => h9) rfl hdg kk
theorem pu_RX4_16_P_F_0_0 {v : Int32} (C : Cx p s m args meth c D cA cc nL RX4 ret) (hP : va_P D vwCl (w_P_F cA a S b T) H) (hD : va_D A (w_P_F cA a S b T)) (hS : va_S A s.heap H locs) (hdg : decode cc pc = .ok (.putfield 16, 3)) (kk : ∀ (H1 : Heap) (locs1 : List Loc), va_P D vwCl (w_P_F cA a (stf S 0 v) b T) H1 → va_D A (w_P_F cA a (stf S 0 v) b T) → va_S A s.heap H1 locs1 → W p l e R s m args below meth c H1 locs1 cells slots Q (F0 m (pc + 3) ls rest)) : W p l e R s m args below meth c H locs cells slots Q (F0 m pc ls (.int v :: .ref (a 0) :: rest)) := by
  obtain ⟨hx, hb, -, hown, hts, hK, -, -, -⟩ := C
  exact va_put (D := D) (ci := 3) (v := .int v) (ty := .int) (C := RX4) (T := TX4) (N := 3) hx hb hts inlX4 tyX4 tyX4_ok nmX4 hown hK hP hD hS 0 rfl rfl 2 (by decide) (hts _ fl_RX4_16) (fun _ h9 => h9) rfl (by decide +kernel) rfl rfl (Nat.le_of_ble_eq_true rfl) hdg (fun H1 locs1 h1 h2 h3 => kk H1 locs1 h1 h2 h3)
theorem ge_RX4_9_P_F_0_0 (C : Cx p s m args meth c D cA cc nL RX4 ret) (hP : va_P D vwCl (w_P_F cA a S b T) H) (hdg : decode cc pc = .ok (.getfield 9, 3)) (kk : W p l e R s m args below meth c H locs cells slots Q (F0 m (pc + 3) ls (.ref (a 1) :: rest))) : W p l e R s m args below meth c H locs cells slots Q (F0 m pc ls (.ref (a 0) :: rest)) := by
  obtain ⟨hx, hb, -, hown, hts, hK, -, -, -⟩ := C
  exact va_get (D := D) (ci := 3) (v := .ref (a 1)) (C := RX4) (T := TX4) (N := 3) hx hb hts inlX4 hown hK hP 0 rfl rfl 0 (by decide) (hts _ fl_RX4_9) (fun _ h9 => h9) rfl hdg kk
theorem ld_P_F_0_1 {i : Int32} {j : Nat} (C : Cx p s m args meth c D cA cc nL own ret) (hP : va_P D vwCl (w_P_F cA a S b T) H) (hin : vp_in i 8) (hj : i.toNatClampNeg = j) (hdg : decode cc pc = .ok (.iaload, 1)) (kk : W p l e R s m args below meth c H locs cells slots Q (F0 m (pc + 1) ls (.int (S 1 j) :: rest))) : W p l e R s m args below meth c H locs cells slots Q (F0 m pc ls (.int i :: .ref (a 1) :: rest)) := by
  obtain ⟨hx, hb, -, hown, hts, hK, -, -, -⟩ := C
  subst hj
  exact va_iald hx hb hK hP 1 0 rfl rfl hin hdg kk
theorem ge_RX4_13_P_F_0_0 (C : Cx p s m args meth c D cA cc nL RX4 ret) (hP : va_P D vwCl (w_P_F cA a S b T) H) (hdg : decode cc pc = .ok (.getfield 13, 3)) (kk : W p l e R s m args below meth c H locs cells slots Q (F0 m (pc + 3) ls (.ref (a 2) :: rest))) : W p l e R s m args below meth c H locs cells slots Q (F0 m pc ls (.ref (a 0) :: rest)) := by
  obtain ⟨hx, hb, -, hown, hts, hK, -, -, -⟩ := C
  exact va_get (D := D) (ci := 3) (v := .ref (a 2)) (C := RX4) (T := TX4) (N := 3) hx hb hts inlX4 hown hK hP 0 rfl rfl 1 (by decide) (hts _ fl_RX4_13) (fun _ h9 => h9) rfl hdg kk
theorem ld_P_F_0_2 {i : Int32} {j : Nat} (C : Cx p s m args meth c D cA cc nL own ret) (hP : va_P D vwCl (w_P_F cA a S b T) H) (hin : vp_in i 8) (hj : i.toNatClampNeg = j) (hdg : decode cc pc = .ok (.iaload, 1)) (kk : W p l e R s m args below meth c H locs cells slots Q (F0 m (pc + 1) ls (.int (S 2 j) :: rest))) : W p l e R s m args below meth c H locs cells slots Q (F0 m pc ls (.int i :: .ref (a 2) :: rest)) := by
  obtain ⟨hx, hb, -, hown, hts, hK, -, -, -⟩ := C
  subst hj
  exact va_iald hx hb hK hP 2 0 rfl rfl hin hdg kk
theorem fl_RX4_31 : Cond.fieldLink RX4 31 "SevenOnStrike$Figures" "standIns" "[I" ∈ wsL_law := by decide +kernel
theorem ge_RX4_31_P_F_1_0 (C : Cx p s m args meth c D cA cc nL RX4 ret) (hP : va_P D vwCl (w_P_F cA a S b T) H) (hdg : decode cc pc = .ok (.getfield 31, 3)) (kk : W p l e R s m args below meth c H locs cells slots Q (F0 m (pc + 3) ls (.ref (b 1) :: rest))) : W p l e R s m args below meth c H locs cells slots Q (F0 m pc ls (.ref (b 0) :: rest)) := by
  obtain ⟨hx, hb, -, hown, hts, hK, -, -, -⟩ := C
  exact va_get (D := D) (ci := 0) (v := .ref (b 1)) (C := RX0) (T := TX0) (N := 2) hx hb hts inlX0 hown hK hP 3 rfl rfl 1 (by decide) (hts _ fl_RX4_31) (fun _ h9 => h9) rfl hdg kk
theorem sr_P_F_1_1 {i v : Int32} {j : Nat} (C : Cx p s m args meth c D cA cc nL own ret) (hP : va_P D vwCl (w_P_F cA a S b T) H) (hD : va_D A (w_P_F cA a S b T)) (hS : va_S A s.heap H locs) (hin : vp_in i 10) (hj : i.toNatClampNeg = j) (hdg : decode cc pc = .ok (.iastore, 1)) (kk : ∀ (H1 : Heap) (locs1 : List Loc), va_P D vwCl (w_P_F cA a S b (sti T 1 j v)) H1 → va_D A (w_P_F cA a S b (sti T 1 j v)) → va_S A s.heap H1 locs1 → W p l e R s m args below meth c H1 locs1 cells slots Q (F0 m (pc + 1) ls rest)) : W p l e R s m args below meth c H locs cells slots Q (F0 m pc ls (.int v :: .int i :: .ref (b 1) :: rest)) := by
  obtain ⟨hx, hb, -, hown, hts, hK, -, -, -⟩ := C
  subst hj
  exact va_iast hx hb hK hP hD hS 4 0 rfl rfl hin hdg (fun H1 locs1 h1 h2 h3 => kk H1 locs1 h1 h2 h3)
theorem fl_RX4_26 : Cond.fieldLink RX4 26 "SevenOnStrike$Figures" "mask" "I" ∈ wsL_law := by decide +kernel
theorem ge_RX4_26_P_F_1_0 (C : Cx p s m args meth c D cA cc nL RX4 ret) (hP : va_P D vwCl (w_P_F cA a S b T) H) (hdg : decode cc pc = .ok (.getfield 26, 3)) (kk : W p l e R s m args below meth c H locs cells slots Q (F0 m (pc + 3) ls (.int (T 0 0) :: rest))) : W p l e R s m args below meth c H locs cells slots Q (F0 m pc ls (.ref (b 0) :: rest)) := by
  obtain ⟨hx, hb, -, hown, hts, hK, -, -, -⟩ := C
  exact va_get (D := D) (ci := 0) (v := .int (T 0 0)) (C := RX0) (T := TX0) (N := 2) hx hb hts inlX0 hown hK hP 3 rfl rfl 0 (by decide) (hts _ fl_RX4_26) (fun _ h9 => h9) rfl hdg kk
theorem pu_RX4_26_P_F_1_0 {v : Int32} (C : Cx p s m args meth c D cA cc nL RX4 ret) (hP : va_P D vwCl (w_P_F cA a S b T) H) (hD : va_D A (w_P_F cA a S b T)) (hS : va_S A s.heap H locs) (hdg : decode cc pc = .ok (.putfield 26, 3)) (kk : ∀ (H1 : Heap) (locs1 : List Loc), va_P D vwCl (w_P_F cA a S b (stf T 0 v)) H1 → va_D A (w_P_F cA a S b (stf T 0 v)) → va_S A s.heap H1 locs1 → W p l e R s m args below meth c H1 locs1 cells slots Q (F0 m (pc + 3) ls rest)) : W p l e R s m args below meth c H locs cells slots Q (F0 m pc ls (.int v :: .ref (b 0) :: rest)) := by
  obtain ⟨hx, hb, -, hown, hts, hK, -, -, -⟩ := C
  exact va_put (D := D) (ci := 0) (v := .int v) (ty := .int) (C := RX0) (T := TX0) (N := 2) hx hb hts inlX0 tyX0 tyX0_ok nmX0 hown hK hP hD hS 3 rfl rfl 0 (by decide) (hts _ fl_RX4_26) (fun _ h9 => h9) rfl (by decide +kernel) rfl rfl (Nat.le_of_ble_eq_true rfl) hdg (fun H1 locs1 h1 h2 h3 => kk H1 locs1 h1 h2 h3)
def fX4_takeBack (N : Nat) (S : St) (T : St) : Option (Int32 × St × St) :=
  if 0 < (S 0 0) then (if ¬ (((stf S 0 (((S 0 0) - (1 : Int32)))) 0 0) < 0 ∨ 8 ≤ (((stf S 0 (((S 0 0) - (1 : Int32)))) 0 0)).toNatClampNeg) then (nm (((stf S 0 (((S 0 0) - (1 : Int32)))) 1 ((((stf S 0 (((S 0 0) - (1 : Int32)))) 0 0)).toNatClampNeg))) (fun v3 => if ¬ (((stf S 0 (((S 0 0) - (1 : Int32)))) 0 0) < 0 ∨ 8 ≤ (((stf S 0 (((S 0 0) - (1 : Int32)))) 0 0)).toNatClampNeg) then (if ((stf S 0 (((S 0 0) - (1 : Int32)))) 2 ((((stf S 0 (((S 0 0) - (1 : Int32)))) 0 0)).toNatClampNeg)) = (-1 : Int32) then (some ((1 : Int32), (stf S 0 (((S 0 0) - (1 : Int32)))), (stf T 0 (((T 0 0) ^^^ ((1 : Int32) <<< (v3 &&& 31))))))) else (if ¬ (((stf S 0 (((S 0 0) - (1 : Int32)))) 0 0) < 0 ∨ 8 ≤ (((stf S 0 (((S 0 0) - (1 : Int32)))) 0 0)).toNatClampNeg) then (if ¬ (v3 < 0 ∨ 10 ≤ v3.toNatClampNeg) then (some ((1 : Int32), (stf S 0 (((S 0 0) - (1 : Int32)))), (sti T 1 v3.toNatClampNeg (((stf S 0 (((S 0 0) - (1 : Int32)))) 2 ((((stf S 0 (((S 0 0) - (1 : Int32)))) 0 0)).toNatClampNeg)))))) else none) else none)) else none)) else none) else (some ((0 : Int32), S, T))
set_option maxRecDepth 100000 in
set_option maxHeartbeats 4000000 in
theorem wX4_takeBack (C : Cx p s m args meth c D cA cX4_takeBack 3 RX4 (some .boolean)) (hA : ∀ q : Nat, s.heap.size ≤ q → A q) {N : Nat} {z : Int32 × St × St} {S : St} {T : St} (hf : fX4_takeBack N S T = some z) {H : Heap} {locs : List Loc} {ls : Array Slot} (hP : va_P D vwCl (w_P_F cA a S b T) H) (hD : va_D A (w_P_F cA a S b T)) (hS : va_S A s.heap H locs) (hl : lv_has ls 3 [(0, .ref (a 0)), (1, .ref (b 0))]) : W p l e (rmU 0 0 0 0) s m args below meth c H locs 0 0 (MQ below (QI D A z.1 (w_P_F cA a z.2.1 b z.2.2)) args s 0 0 A) (F0 m 0 ls []) := by
  obtain ⟨hx, hb, hml, hown, hts, hK, hN, hr, hlk⟩ := id C
  unfold fX4_takeBack at hf
  refine lv_aload_n (pc := 0) hx hb dX4_takeBack_0 rfl (lv_at hl 0 rfl) ?_
  refine ge_RX4_16_P_F_0_0 (pc := 1) C hP dX4_takeBack_1 ?_
  refine lv_if_gt (tgt := 9) (pc := 4) hx hb dX4_takeBack_4 (by decide) (fun c1 => ?_) (fun c1 => ?_)
  · have hf := pt_t c1 hf
    refine lv_aload_n (pc := 9) hx hb dX4_takeBack_9 rfl (lv_at hl 0 rfl) ?_
    refine lv_dup (pc := 10) hx hb dX4_takeBack_10 rfl ?_
    refine ge_RX4_16_P_F_0_0 (pc := 11) C hP dX4_takeBack_11 ?_
    refine lv_iconst (v := (1 : Int32)) (pc := 14) hx hb dX4_takeBack_14 (by decide) ?_
    refine lv_isub (pc := 15) hx hb dX4_takeBack_15 ?_
    refine pu_RX4_16_P_F_0_0 (pc := 16) C hP hD hS dX4_takeBack_16 (fun H locs hP hD hS => ?_)
    refine lv_aload_n (pc := 19) hx hb dX4_takeBack_19 rfl (lv_at hl 0 rfl) ?_
    refine ge_RX4_9_P_F_0_0 (pc := 20) C hP dX4_takeBack_20 ?_
    refine lv_aload_n (pc := 23) hx hb dX4_takeBack_23 rfl (lv_at hl 0 rfl) ?_
    refine ge_RX4_16_P_F_0_0 (pc := 24) C hP dX4_takeBack_24 ?_
    obtain ⟨h2, hf⟩ := pt_g hf
    refine ld_P_F_0_1 (pc := 27) (j := (((stf S 0 (((S 0 0) - (1 : Int32)))) 0 0)).toNatClampNeg) C hP h2 rfl dX4_takeBack_27 ?_
    refine lv_topi (fun v3 ev3 => ?_)
    have hf := pt_n ev3 hf
    refine lv_istore_n (lv' := [(2, .int v3), (0, .ref (a 0)), (1, .ref (b 0))]) (pc := 28) hx hb dX4_takeBack_28 rfl hl (by decide) rfl (fun ls hl => ?_)
    refine lv_aload_n (pc := 29) hx hb dX4_takeBack_29 rfl (lv_at hl 1 rfl) ?_
    refine ge_RX4_13_P_F_0_0 (pc := 30) C hP dX4_takeBack_30 ?_
    refine lv_aload_n (pc := 33) hx hb dX4_takeBack_33 rfl (lv_at hl 1 rfl) ?_
    refine ge_RX4_16_P_F_0_0 (pc := 34) C hP dX4_takeBack_34 ?_
    obtain ⟨h4, hf⟩ := pt_g hf
    refine ld_P_F_0_2 (pc := 37) (j := (((stf S 0 (((S 0 0) - (1 : Int32)))) 0 0)).toNatClampNeg) C hP h4 rfl dX4_takeBack_37 ?_
    refine lv_iconst (v := (-1 : Int32)) (pc := 38) hx hb dX4_takeBack_38 (by decide) ?_
    refine lv_icmp_ne (tgt := 57) (pc := 39) hx hb dX4_takeBack_39 (by decide) (fun c5 => ?_) (fun c5 => ?_)
    · have hf := pt_f c5 hf
      refine lv_aload_n (pc := 57) hx hb dX4_takeBack_57 rfl (lv_at hl 2 rfl) ?_
      refine ge_RX4_31_P_F_1_0 (pc := 58) C hP dX4_takeBack_58 ?_
      refine lv_iload_n (pc := 61) hx hb dX4_takeBack_61 rfl (lv_at hl 0 rfl) ?_
      refine lv_aload_n (pc := 62) hx hb dX4_takeBack_62 rfl (lv_at hl 1 rfl) ?_
      refine ge_RX4_13_P_F_0_0 (pc := 63) C hP dX4_takeBack_63 ?_
      refine lv_aload_n (pc := 66) hx hb dX4_takeBack_66 rfl (lv_at hl 1 rfl) ?_
      refine ge_RX4_16_P_F_0_0 (pc := 67) C hP dX4_takeBack_67 ?_
      obtain ⟨h6, hf⟩ := pt_g hf
      refine ld_P_F_0_2 (pc := 70) (j := (((stf S 0 (((S 0 0) - (1 : Int32)))) 0 0)).toNatClampNeg) C hP h6 rfl dX4_takeBack_70 ?_
      obtain ⟨h7, hf⟩ := pt_g hf
      refine sr_P_F_1_1 (pc := 71) (j := v3.toNatClampNeg) C hP hD hS h7 rfl dX4_takeBack_71 (fun H locs hP hD hS => ?_)
      refine lv_iconst (v := (1 : Int32)) (pc := 72) hx hb dX4_takeBack_72 (by decide) ?_
      cases hf
      exact ret_z C (Or.inr rfl) hP hD hS dX4_takeBack_73
    · have hf := pt_t c5 hf
      refine lv_aload_n (pc := 42) hx hb dX4_takeBack_42 rfl (lv_at hl 2 rfl) ?_
      refine lv_dup (pc := 43) hx hb dX4_takeBack_43 rfl ?_
      refine ge_RX4_26_P_F_1_0 (pc := 44) C hP dX4_takeBack_44 ?_
      refine lv_iconst (v := (1 : Int32)) (pc := 47) hx hb dX4_takeBack_47 (by decide) ?_
      refine lv_iload_n (pc := 48) hx hb dX4_takeBack_48 rfl (lv_at hl 0 rfl) ?_
      refine lv_ishl (pc := 49) hx hb dX4_takeBack_49 ?_
      refine lv_ixor (pc := 50) hx hb dX4_takeBack_50 ?_
      refine pu_RX4_26_P_F_1_0 (pc := 51) C hP hD hS dX4_takeBack_51 (fun H locs hP hD hS => ?_)
      refine lv_goto (tgt := 72) (pc := 54) hx hb dX4_takeBack_54 (by decide) ?_
      refine lv_iconst (v := (1 : Int32)) (pc := 72) hx hb dX4_takeBack_72 (by decide) ?_
      cases hf
      exact ret_z C (Or.inr rfl) hP hD hS dX4_takeBack_73
  · have hf := pt_f c1 hf
    refine lv_iconst (v := (0 : Int32)) (pc := 7) hx hb dX4_takeBack_7 (by decide) ?_
    cases hf
    exact ret_z C (Or.inl rfl) hP hD hS dX4_takeBack_8
set_option maxRecDepth 100000 in
set_option maxHeartbeats 4000000 in
theorem kX4_takeBack (l : Launch) (D : va_G) (cA : Nat → ClassId) (a : Nat → Nat) (b : Nat → Nat) {N : Nat} {S : St} {T : St} {z : Int32 × St × St} (hf : fX4_takeBack N S T = some z) : CtI l yX4_takeBack cX4_takeBack 3 (some .boolean) 0 0 D cA (w_P_F cA a S b T) (w_P_F cA a z.2.1 b z.2.2) [.ref (a 0), .ref (b 0)] z.1 := by
  intro sz
  refine Met.ofW (cc := cX4_takeBack) (maxL := 3) (ret := (some .boolean)) (by decide) rfl ?_
  intro p e s m args below meth c s₁ B hml hv
  obtain ⟨rfl, hsz, hP, hK, hD0⟩ := hv
  subst hsz
  have C : Cx p s m _ meth c D cA cX4_takeBack 3 RX4 (some .boolean) := Cx.of B hml hK
  have hD := hD0.self (sz := s.heap.size)
  have hA : ∀ q : Nat, s.heap.size ≤ q → va_A (w_P_F cA a S b T) s.heap.size q := fun q h => Or.inr h
  have hS : va_S (va_A (w_P_F cA a S b T) s.heap.size) s.heap s.heap [] := va_S.rf
  have hl := lv_entry ([.ref (a 0), .ref (b 0)]) (n := 3) (Nat.le_of_ble_eq_true rfl)
  rw [lg_entry_eq]
  generalize (lg_sl ([.ref (a 0), .ref (b 0)]) ++ List.replicate (3 - (lg_sl ([.ref (a 0), .ref (b 0)])).length) Slot.unset).toArray = ls at hl ⊢
  exact wX4_takeBack C hA hf hP hD hS hl
def w_N (cA : Nat → ClassId) (a : Nat → Nat) (S : St) : va_W := [(a 0, .inr (2, [.ref (a 1), .ref (a 2), .int (S 0 0)])), (a 1, .inl (cA 0, 8, .inl (S 1))), (a 2, .inl (cA 0, 8, .inl (S 2)))]
theorem fl_RX2_16 : Cond.fieldLink RX2 16 "SevenOnStrike$Night" "size" "I" ∈ wsL_law := by decide +kernel
theorem ge_RX2_16_N_0_0 (C : Cx p s m args meth c D cA cc nL RX2 ret) (hP : va_P D vwCl (w_N cA a S) H) (hdg : decode cc pc = .ok (.getfield 16, 3)) (kk : W p l e R s m args below meth c H locs cells slots Q (F0 m (pc + 3) ls (.int (S 0 0) :: rest))) : W p l e R s m args below meth c H locs cells slots Q (F0 m pc ls (.ref (a 0) :: rest)) := by
  obtain ⟨hx, hb, -, hown, hts, hK, -, -, -⟩ := C
  exact va_get (D := D) (ci := 2) (v := .int (S 0 0)) (C := RX2) (T := TX2) (N := 3) hx hb hts inlX2 hown hK hP 0 rfl rfl 2 (by decide) (hts _ fl_RX2_16) (fun _ h9 => h9) rfl hdg kk
theorem fl_RX2_9 : Cond.fieldLink RX2 9 "SevenOnStrike$Night" "told" "[I" ∈ wsL_law := by decide +kernel
theorem ge_RX2_9_N_0_0 (C : Cx p s m args meth c D cA cc nL RX2 ret) (hP : va_P D vwCl (w_N cA a S) H) (hdg : decode cc pc = .ok (.getfield 9, 3)) (kk : W p l e R s m args below meth c H locs cells slots Q (F0 m (pc + 3) ls (.ref (a 1) :: rest))) : W p l e R s m args below meth c H locs cells slots Q (F0 m pc ls (.ref (a 0) :: rest)) := by
  obtain ⟨hx, hb, -, hown, hts, hK, -, -, -⟩ := C
  exact va_get (D := D) (ci := 2) (v := .ref (a 1)) (C := RX2) (T := TX2) (N := 3) hx hb hts inlX2 hown hK hP 0 rfl rfl 0 (by decide) (hts _ fl_RX2_9) (fun _ h9 => h9) rfl hdg kk
theorem sr_N_0_1 {i v : Int32} {j : Nat} (C : Cx p s m args meth c D cA cc nL own ret) (hP : va_P D vwCl (w_N cA a S) H) (hD : va_D A (w_N cA a S)) (hS : va_S A s.heap H locs) (hin : vp_in i 8) (hj : i.toNatClampNeg = j) (hdg : decode cc pc = .ok (.iastore, 1)) (kk : ∀ (H1 : Heap) (locs1 : List Loc), va_P D vwCl (w_N cA a (sti S 1 j v)) H1 → va_D A (w_N cA a (sti S 1 j v)) → va_S A s.heap H1 locs1 → W p l e R s m args below meth c H1 locs1 cells slots Q (F0 m (pc + 1) ls rest)) : W p l e R s m args below meth c H locs cells slots Q (F0 m pc ls (.int v :: .int i :: .ref (a 1) :: rest)) := by
  obtain ⟨hx, hb, -, hown, hts, hK, -, -, -⟩ := C
  subst hj
  exact va_iast hx hb hK hP hD hS 1 0 rfl rfl hin hdg (fun H1 locs1 h1 h2 h3 => kk H1 locs1 h1 h2 h3)
theorem fl_RX2_13 : Cond.fieldLink RX2 13 "SevenOnStrike$Night" "heard" "[I" ∈ wsL_law := by decide +kernel
theorem ge_RX2_13_N_0_0 (C : Cx p s m args meth c D cA cc nL RX2 ret) (hP : va_P D vwCl (w_N cA a S) H) (hdg : decode cc pc = .ok (.getfield 13, 3)) (kk : W p l e R s m args below meth c H locs cells slots Q (F0 m (pc + 3) ls (.ref (a 2) :: rest))) : W p l e R s m args below meth c H locs cells slots Q (F0 m pc ls (.ref (a 0) :: rest)) := by
  obtain ⟨hx, hb, -, hown, hts, hK, -, -, -⟩ := C
  exact va_get (D := D) (ci := 2) (v := .ref (a 2)) (C := RX2) (T := TX2) (N := 3) hx hb hts inlX2 hown hK hP 0 rfl rfl 1 (by decide) (hts _ fl_RX2_13) (fun _ h9 => h9) rfl hdg kk
theorem sr_N_0_2 {i v : Int32} {j : Nat} (C : Cx p s m args meth c D cA cc nL own ret) (hP : va_P D vwCl (w_N cA a S) H) (hD : va_D A (w_N cA a S)) (hS : va_S A s.heap H locs) (hin : vp_in i 8) (hj : i.toNatClampNeg = j) (hdg : decode cc pc = .ok (.iastore, 1)) (kk : ∀ (H1 : Heap) (locs1 : List Loc), va_P D vwCl (w_N cA a (sti S 2 j v)) H1 → va_D A (w_N cA a (sti S 2 j v)) → va_S A s.heap H1 locs1 → W p l e R s m args below meth c H1 locs1 cells slots Q (F0 m (pc + 1) ls rest)) : W p l e R s m args below meth c H locs cells slots Q (F0 m pc ls (.int v :: .int i :: .ref (a 2) :: rest)) := by
  obtain ⟨hx, hb, -, hown, hts, hK, -, -, -⟩ := C
  subst hj
  exact va_iast hx hb hK hP hD hS 2 0 rfl rfl hin hdg (fun H1 locs1 h1 h2 h3 => kk H1 locs1 h1 h2 h3)
theorem pu_RX2_16_N_0_0 {v : Int32} (C : Cx p s m args meth c D cA cc nL RX2 ret) (hP : va_P D vwCl (w_N cA a S) H) (hD : va_D A (w_N cA a S)) (hS : va_S A s.heap H locs) (hdg : decode cc pc = .ok (.putfield 16, 3)) (kk : ∀ (H1 : Heap) (locs1 : List Loc), va_P D vwCl (w_N cA a (stf S 0 v)) H1 → va_D A (w_N cA a (stf S 0 v)) → va_S A s.heap H1 locs1 → W p l e R s m args below meth c H1 locs1 cells slots Q (F0 m (pc + 3) ls rest)) : W p l e R s m args below meth c H locs cells slots Q (F0 m pc ls (.int v :: .ref (a 0) :: rest)) := by
  obtain ⟨hx, hb, -, hown, hts, hK, -, -, -⟩ := C
  exact va_put (D := D) (ci := 2) (v := .int v) (ty := .int) (C := RX2) (T := TX2) (N := 3) hx hb hts inlX2 tyX2 tyX2_ok nmX2 hown hK hP hD hS 0 rfl rfl 2 (by decide) (hts _ fl_RX2_16) (fun _ h9 => h9) rfl (by decide +kernel) rfl rfl (Nat.le_of_ble_eq_true rfl) hdg (fun H1 locs1 h1 h2 h3 => kk H1 locs1 h1 h2 h3)
def fX2_tell (N : Nat) (S : St) (p1 : Int32) (p2 : Int32) : Option (Int32 × St) :=
  if (S 0 0) < (8 : Int32) then (if ¬ ((S 0 0) < 0 ∨ 8 ≤ ((S 0 0)).toNatClampNeg) then (if ¬ (((sti S 1 (((S 0 0)).toNatClampNeg) p1) 0 0) < 0 ∨ 8 ≤ (((sti S 1 (((S 0 0)).toNatClampNeg) p1) 0 0)).toNatClampNeg) then (some ((1 : Int32), (stf (sti (sti S 1 (((S 0 0)).toNatClampNeg) p1) 2 ((((sti S 1 (((S 0 0)).toNatClampNeg) p1) 0 0)).toNatClampNeg) p2) 0 ((((sti (sti S 1 (((S 0 0)).toNatClampNeg) p1) 2 ((((sti S 1 (((S 0 0)).toNatClampNeg) p1) 0 0)).toNatClampNeg) p2) 0 0) + (1 : Int32)))))) else none) else none) else (some ((0 : Int32), S))
set_option maxRecDepth 100000 in
set_option maxHeartbeats 4000000 in
theorem wX2_tell (C : Cx p s m args meth c D cA cX2_tell 3 RX2 (some .boolean)) (hA : ∀ q : Nat, s.heap.size ≤ q → A q) {N : Nat} {z : Int32 × St} {S : St} {p1 : Int32} {p2 : Int32} (hf : fX2_tell N S p1 p2 = some z) {H : Heap} {locs : List Loc} {ls : Array Slot} (hP : va_P D vwCl (w_N cA a S) H) (hD : va_D A (w_N cA a S)) (hS : va_S A s.heap H locs) (hl : lv_has ls 3 [(0, .ref (a 0)), (1, .int p1), (2, .int p2)]) : W p l e (rmU 0 0 0 0) s m args below meth c H locs 0 0 (MQ below (QI D A z.1 (w_N cA a z.2)) args s 0 0 A) (F0 m 0 ls []) := by
  obtain ⟨hx, hb, hml, hown, hts, hK, hN, hr, hlk⟩ := id C
  unfold fX2_tell at hf
  refine lv_aload_n (pc := 0) hx hb dX2_tell_0 rfl (lv_at hl 0 rfl) ?_
  refine ge_RX2_16_N_0_0 (pc := 1) C hP dX2_tell_1 ?_
  refine lv_bipush (v := (8 : Int32)) (pc := 4) hx hb dX2_tell_4 (by decide) ?_
  refine lv_icmp_lt (tgt := 11) (pc := 6) hx hb dX2_tell_6 (by decide) (fun c1 => ?_) (fun c1 => ?_)
  · have hf := pt_t c1 hf
    refine lv_aload_n (pc := 11) hx hb dX2_tell_11 rfl (lv_at hl 0 rfl) ?_
    refine ge_RX2_9_N_0_0 (pc := 12) C hP dX2_tell_12 ?_
    refine lv_aload_n (pc := 15) hx hb dX2_tell_15 rfl (lv_at hl 0 rfl) ?_
    refine ge_RX2_16_N_0_0 (pc := 16) C hP dX2_tell_16 ?_
    refine lv_iload_n (pc := 19) hx hb dX2_tell_19 rfl (lv_at hl 1 rfl) ?_
    obtain ⟨h2, hf⟩ := pt_g hf
    refine sr_N_0_1 (pc := 20) (j := ((S 0 0)).toNatClampNeg) C hP hD hS h2 rfl dX2_tell_20 (fun H locs hP hD hS => ?_)
    refine lv_aload_n (pc := 21) hx hb dX2_tell_21 rfl (lv_at hl 0 rfl) ?_
    refine ge_RX2_13_N_0_0 (pc := 22) C hP dX2_tell_22 ?_
    refine lv_aload_n (pc := 25) hx hb dX2_tell_25 rfl (lv_at hl 0 rfl) ?_
    refine ge_RX2_16_N_0_0 (pc := 26) C hP dX2_tell_26 ?_
    refine lv_iload_n (pc := 29) hx hb dX2_tell_29 rfl (lv_at hl 2 rfl) ?_
    obtain ⟨h3, hf⟩ := pt_g hf
    refine sr_N_0_2 (pc := 30) (j := (((sti S 1 (((S 0 0)).toNatClampNeg) p1) 0 0)).toNatClampNeg) C hP hD hS h3 rfl dX2_tell_30 (fun H locs hP hD hS => ?_)
    refine lv_aload_n (pc := 31) hx hb dX2_tell_31 rfl (lv_at hl 0 rfl) ?_
    refine lv_dup (pc := 32) hx hb dX2_tell_32 rfl ?_
    refine ge_RX2_16_N_0_0 (pc := 33) C hP dX2_tell_33 ?_
    refine lv_iconst (v := (1 : Int32)) (pc := 36) hx hb dX2_tell_36 (by decide) ?_
    refine lv_iadd (pc := 37) hx hb dX2_tell_37 ?_
    refine pu_RX2_16_N_0_0 (pc := 38) C hP hD hS dX2_tell_38 (fun H locs hP hD hS => ?_)
    refine lv_iconst (v := (1 : Int32)) (pc := 41) hx hb dX2_tell_41 (by decide) ?_
    cases hf
    exact ret_z C (Or.inr rfl) hP hD hS dX2_tell_42
  · have hf := pt_f c1 hf
    refine lv_iconst (v := (0 : Int32)) (pc := 9) hx hb dX2_tell_9 (by decide) ?_
    cases hf
    exact ret_z C (Or.inl rfl) hP hD hS dX2_tell_10
set_option maxRecDepth 100000 in
set_option maxHeartbeats 4000000 in
theorem kX2_tell (l : Launch) (D : va_G) (cA : Nat → ClassId) (a : Nat → Nat) {N : Nat} {S : St} {p1 : Int32} {p2 : Int32} {z : Int32 × St} (hf : fX2_tell N S p1 p2 = some z) : CtI l yX2_tell cX2_tell 3 (some .boolean) 0 0 D cA (w_N cA a S) (w_N cA a z.2) [.ref (a 0), .int p1, .int p2] z.1 := by
  intro sz
  refine Met.ofW (cc := cX2_tell) (maxL := 3) (ret := (some .boolean)) (by decide) rfl ?_
  intro p e s m args below meth c s₁ B hml hv
  obtain ⟨rfl, hsz, hP, hK, hD0⟩ := hv
  subst hsz
  have C : Cx p s m _ meth c D cA cX2_tell 3 RX2 (some .boolean) := Cx.of B hml hK
  have hD := hD0.self (sz := s.heap.size)
  have hA : ∀ q : Nat, s.heap.size ≤ q → va_A (w_N cA a S) s.heap.size q := fun q h => Or.inr h
  have hS : va_S (va_A (w_N cA a S) s.heap.size) s.heap s.heap [] := va_S.rf
  have hl := lv_entry ([.ref (a 0), .int p1, .int p2]) (n := 3) (Nat.le_of_ble_eq_true rfl)
  rw [lg_entry_eq]
  generalize (lg_sl ([.ref (a 0), .int p1, .int p2]) ++ List.replicate (3 - (lg_sl ([.ref (a 0), .int p1, .int p2])).length) Slot.unset).toArray = ls at hl ⊢
  exact wX2_tell C hA hf hP hD hS hl
theorem lk_RX2_30 : LkS RX2 30 yX0_heardAs cX0_heardAs 3 (some .int) 3 := ⟨⟨by decide +kernel, by decide +kernel, by decide +kernel, by decide +kernel, by decide +kernel, by decide +kernel⟩, by decide +kernel⟩
theorem lk_RX2_24 : LkS RX2 24 yX3_lengthOf cX3_lengthOf 1 (some .int) 1 := ⟨⟨by decide +kernel, by decide +kernel, by decide +kernel, by decide +kernel, by decide +kernel, by decide +kernel⟩, by decide +kernel⟩
def fX2_isHeardAs_b15 (N : Nat) (S : St) (p0 : Int32) (p1 : Int32) (p2 : Int32) (g15 : Int32 × Int32 × Int32 × Int32 → Option (Int32)) (x4 : Int32) (x5 : Int32) (x6 : Int32) (x7 : Int32) : Option (Int32) :=
  if x4 ≤ x7 then (some ((1 : Int32))) else (Option.bind (fX0_heardAs N S ((x5 - x5 / (10 : Int32) * (10 : Int32))) p2) (fun q2 => if q2 = (x6 - x6 / (10 : Int32) * (10 : Int32)) then (g15 ((x4, (x5 / (10 : Int32)), (x6 / (10 : Int32)), (x7 + 1)))) else (some ((0 : Int32)))))
def fX2_isHeardAs_l15 (N : Nat) (S : St) (p0 : Int32) (p1 : Int32) (p2 : Int32) (k : Nat) (q : Int32 × Int32 × Int32 × Int32) : Option (Int32) := lpN (fun g q => fX2_isHeardAs_b15 N S p0 p1 p2 g q.1 q.2.1 q.2.2.1 q.2.2.2) k q
def fX2_isHeardAs (N : Nat) (S : St) (p0 : Int32) (p1 : Int32) (p2 : Int32) : Option (Int32) :=
  Option.bind (fX3_lengthOf N p0) (fun q1 => fX2_isHeardAs_l15 N S p0 p1 p2 N ((q1, p0, p1, (0 : Int32))))
set_option maxRecDepth 100000 in
set_option maxHeartbeats 4000000 in
theorem wX2_isHeardAs_15 (C : Cx p s m args meth c D cA cX2_isHeardAs 8 RX2 (some .boolean)) (hA : ∀ q : Nat, s.heap.size ≤ q → A q) {N : Nat} {z : Int32} {S : St} {p0 : Int32} {p1 : Int32} {p2 : Int32} : ∀ (k : Nat) (x4 : Int32) (x5 : Int32) (x6 : Int32) (x7 : Int32), fX2_isHeardAs_l15 N S p0 p1 p2 k (x4, x5, x6, x7) = some z → ∀ (H : Heap) (locs : List Loc) (ls : Array Slot), va_P D vwCl (w_A cA a S) H → va_D A (w_A cA a S) → va_S A s.heap H locs → lv_has ls 8 [(2, .int p2), (3, .ref (a 0)), (4, .int x4), (5, .int x5), (6, .int x6), (7, .int x7)] → W p l e (rmU 1 22 0 0) s m args below meth c H locs 0 0 (MQ below (QI D A z (w_A cA a S)) args s 0 0 A) (F0 m 15 ls []) := by
  obtain ⟨hx, hb, hml, hown, hts, hK, hN, hr, hlk⟩ := id C
  intro k
  induction k with
  | zero =>
    intro x4 x5 x6 x7 hf
    have hf : (none : Option (Int32)) = some z := hf
    cases hf
  | succ k hg15 =>
    intro x4 x5 x6 x7 hf H locs ls hP hD hS hl
    have hf : fX2_isHeardAs_b15 N S p0 p1 p2 (fX2_isHeardAs_l15 N S p0 p1 p2 k) x4 x5 x6 x7 = some z := hf
    unfold fX2_isHeardAs_b15 at hf
    refine lv_iload (pc := 15) hx hb dX2_isHeardAs_15 (lv_at hl 5 rfl) ?_
    refine lv_iload (pc := 17) hx hb dX2_isHeardAs_17 (lv_at hl 2 rfl) ?_
    refine lv_icmp_ge (tgt := 62) (pc := 19) hx hb dX2_isHeardAs_19 (by decide) (fun c1 => ?_) (fun c1 => ?_)
    · have hf := pt_t c1 hf
      refine lv_iconst (v := (1 : Int32)) (pc := 62) hx hb dX2_isHeardAs_62 (by decide) ?_
      cases hf
      exact ret_z C (Or.inr rfl) hP hD hS dX2_isHeardAs_63
    · have hf := pt_f c1 hf
      refine lv_iload (pc := 22) hx hb dX2_isHeardAs_22 (lv_at hl 3 rfl) ?_
      refine lv_bipush (v := (10 : Int32)) (pc := 24) hx hb dX2_isHeardAs_24 (by decide) ?_
      refine lv_irem (pc := 26) hx hb dX2_isHeardAs_26 (by decide) ?_
      refine lv_iload_n (pc := 27) hx hb dX2_isHeardAs_27 rfl (lv_at hl 0 rfl) ?_
      refine lv_aload_n (pc := 28) hx hb dX2_isHeardAs_28 rfl (lv_at hl 1 rfl) ?_
      obtain ⟨q2, hq2, hf⟩ := pt_b hf
      refine all_i (runU_S (pc := 29) (As := [.int ((x5 - x5 / (10 : Int32) * (10 : Int32))), .int p2, .ref (a 0)]) (rest := []) C lk_RX2_30 (kX0_heardAs l D cA a hq2 H.size) ⟨Nat.le_of_ble_eq_true rfl, Nat.le_of_ble_eq_true rfl⟩ ⟨Nat.le_refl _, Nat.le_refl _⟩ hP hD hl.1 rfl (Nat.le_of_ble_eq_true rfl) dX2_isHeardAs_29) hD hS hA (fun H locs hP hD hS => ?_)
      refine lv_iload (pc := 32) hx hb dX2_isHeardAs_32 (lv_at hl 4 rfl) ?_
      refine lv_bipush (v := (10 : Int32)) (pc := 34) hx hb dX2_isHeardAs_34 (by decide) ?_
      refine lv_irem (pc := 36) hx hb dX2_isHeardAs_36 (by decide) ?_
      refine lv_icmp_eq (tgt := 42) (pc := 37) hx hb dX2_isHeardAs_37 (by decide) (fun c3 => ?_) (fun c3 => ?_)
      · have hf := pt_t c3 hf
        refine lv_iload (pc := 42) hx hb dX2_isHeardAs_42 (lv_at hl 3 rfl) ?_
        refine lv_bipush (v := (10 : Int32)) (pc := 44) hx hb dX2_isHeardAs_44 (by decide) ?_
        refine lv_idiv (pc := 46) hx hb dX2_isHeardAs_46 (by decide) ?_
        refine lv_istore (lv' := [(5, .int ((x5 / (10 : Int32)))), (2, .int p2), (3, .ref (a 0)), (4, .int x4), (6, .int x6), (7, .int x7)]) (pc := 47) hx hb dX2_isHeardAs_47 hl (by decide) rfl (fun ls hl => ?_)
        refine lv_iload (pc := 49) hx hb dX2_isHeardAs_49 (lv_at hl 4 rfl) ?_
        refine lv_bipush (v := (10 : Int32)) (pc := 51) hx hb dX2_isHeardAs_51 (by decide) ?_
        refine lv_idiv (pc := 53) hx hb dX2_isHeardAs_53 (by decide) ?_
        refine lv_istore (lv' := [(6, .int ((x6 / (10 : Int32)))), (5, .int ((x5 / (10 : Int32)))), (2, .int p2), (3, .ref (a 0)), (4, .int x4), (7, .int x7)]) (pc := 54) hx hb dX2_isHeardAs_54 hl (by decide) rfl (fun ls hl => ?_)
        refine lv_iinc (v := (x7 + 1)) (lv' := [(7, .int ((x7 + 1))), (6, .int ((x6 / (10 : Int32)))), (5, .int ((x5 / (10 : Int32)))), (2, .int p2), (3, .ref (a 0)), (4, .int x4)]) (pc := 56) hx hb dX2_isHeardAs_56 hl (k := 5) rfl (by rfl) (by decide) rfl (fun ls hl => ?_)
        refine lv_goto (tgt := 15) (pc := 59) hx hb dX2_isHeardAs_59 (by decide) ?_
        exact hg15 x4 ((x5 / (10 : Int32))) ((x6 / (10 : Int32))) ((x7 + 1)) hf _ _ _ hP hD hS (lv_sub hl [3, 4, 5, 2, 1, 0] rfl)
      · have hf := pt_f c3 hf
        refine lv_iconst (v := (0 : Int32)) (pc := 40) hx hb dX2_isHeardAs_40 (by decide) ?_
        cases hf
        exact ret_z C (Or.inl rfl) hP hD hS dX2_isHeardAs_41
set_option maxRecDepth 100000 in
set_option maxHeartbeats 4000000 in
theorem wX2_isHeardAs (C : Cx p s m args meth c D cA cX2_isHeardAs 8 RX2 (some .boolean)) (hA : ∀ q : Nat, s.heap.size ≤ q → A q) {N : Nat} {z : Int32} {S : St} {p0 : Int32} {p1 : Int32} {p2 : Int32} (hf : fX2_isHeardAs N S p0 p1 p2 = some z) {H : Heap} {locs : List Loc} {ls : Array Slot} (hP : va_P D vwCl (w_A cA a S) H) (hD : va_D A (w_A cA a S)) (hS : va_S A s.heap H locs) (hl : lv_has ls 8 [(0, .int p0), (1, .int p1), (2, .int p2), (3, .ref (a 0))]) : W p l e (rmU 1 22 0 0) s m args below meth c H locs 0 0 (MQ below (QI D A z (w_A cA a S)) args s 0 0 A) (F0 m 0 ls []) := by
  obtain ⟨hx, hb, hml, hown, hts, hK, hN, hr, hlk⟩ := id C
  unfold fX2_isHeardAs at hf
  refine lv_iload_n (pc := 0) hx hb dX2_isHeardAs_0 rfl (lv_at hl 0 rfl) ?_
  obtain ⟨q1, hq1, hf⟩ := pt_b hf
  have hPc : va_P D vwCl ([] : va_W) H := hP.sub [] rfl
  have hDc : va_D A ([] : va_W) := hD.sub [] (by decide) rfl
  refine prt_i (runU_S (pc := 1) (As := [.int p0]) (rest := []) C lk_RX2_24 (kX3_lengthOf l D cA hq1 H.size) ⟨Nat.le_of_ble_eq_true rfl, Nat.le_of_ble_eq_true rfl⟩ ⟨Nat.le_refl _, Nat.le_refl _⟩ hPc hDc hl.1 rfl (Nat.le_of_ble_eq_true rfl) dX2_isHeardAs_1) hP hD hS hA [] rfl (fun H locs hP hD hS => ?_)
  refine lv_istore (lv' := [(4, .int q1), (0, .int p0), (1, .int p1), (2, .int p2), (3, .ref (a 0))]) (pc := 4) hx hb dX2_isHeardAs_4 hl (by decide) rfl (fun ls hl => ?_)
  refine lv_iload_n (pc := 6) hx hb dX2_isHeardAs_6 rfl (lv_at hl 1 rfl) ?_
  refine lv_istore (lv' := [(5, .int p0), (4, .int q1), (0, .int p0), (1, .int p1), (2, .int p2), (3, .ref (a 0))]) (pc := 7) hx hb dX2_isHeardAs_7 hl (by decide) rfl (fun ls hl => ?_)
  refine lv_iload_n (pc := 9) hx hb dX2_isHeardAs_9 rfl (lv_at hl 3 rfl) ?_
  refine lv_istore (lv' := [(6, .int p1), (5, .int p0), (4, .int q1), (0, .int p0), (1, .int p1), (2, .int p2), (3, .ref (a 0))]) (pc := 10) hx hb dX2_isHeardAs_10 hl (by decide) rfl (fun ls hl => ?_)
  refine lv_iconst (v := (0 : Int32)) (pc := 12) hx hb dX2_isHeardAs_12 (by decide) ?_
  refine lv_istore (lv' := [(7, .int ((0 : Int32))), (6, .int p1), (5, .int p0), (4, .int q1), (0, .int p0), (1, .int p1), (2, .int p2), (3, .ref (a 0))]) (pc := 13) hx hb dX2_isHeardAs_13 hl (by decide) rfl (fun ls hl => ?_)
  exact wX2_isHeardAs_15 C hA  _ q1 p0 p1 ((0 : Int32)) hf _ _ _ hP hD hS (lv_sub hl [6, 7, 3, 2, 1, 0] rfl)
set_option maxRecDepth 100000 in
set_option maxHeartbeats 4000000 in
theorem kX2_isHeardAs (l : Launch) (D : va_G) (cA : Nat → ClassId) (a : Nat → Nat) {N : Nat} {S : St} {p0 : Int32} {p1 : Int32} {p2 : Int32} {z : Int32} (hf : fX2_isHeardAs N S p0 p1 p2 = some z) : CtI l yX2_isHeardAs cX2_isHeardAs 8 (some .boolean) 1 22 D cA (w_A cA a S) (w_A cA a S) [.int p0, .int p1, .int p2, .ref (a 0)] z := by
  intro sz
  refine Met.ofW (cc := cX2_isHeardAs) (maxL := 8) (ret := (some .boolean)) (by decide) rfl ?_
  intro p e s m args below meth c s₁ B hml hv
  obtain ⟨rfl, hsz, hP, hK, hD0⟩ := hv
  subst hsz
  have C : Cx p s m _ meth c D cA cX2_isHeardAs 8 RX2 (some .boolean) := Cx.of B hml hK
  have hD := hD0.self (sz := s.heap.size)
  have hA : ∀ q : Nat, s.heap.size ≤ q → va_A (w_A cA a S) s.heap.size q := fun q h => Or.inr h
  have hS : va_S (va_A (w_A cA a S) s.heap.size) s.heap s.heap [] := va_S.rf
  have hl := lv_entry ([.int p0, .int p1, .int p2, .ref (a 0)]) (n := 8) (Nat.le_of_ble_eq_true rfl)
  rw [lg_entry_eq]
  generalize (lg_sl ([.int p0, .int p1, .int p2, .ref (a 0)]) ++ List.replicate (8 - (lg_sl ([.int p0, .int p1, .int p2, .ref (a 0)])).length) Slot.unset).toArray = ls at hl ⊢
  exact wX2_isHeardAs C hA hf hP hD hS hl
def w_N_A (cA : Nat → ClassId) (a : Nat → Nat) (S : St) (b : Nat → Nat) (T : St) : va_W := [(a 0, .inr (2, [.ref (a 1), .ref (a 2), .int (S 0 0)])), (a 1, .inl (cA 0, 8, .inl (S 1))), (a 2, .inl (cA 0, 8, .inl (S 2))), (b 0, .inl (cA 0, 10, .inl (T 0)))]
theorem ge_RX2_16_N_A_0_0 (C : Cx p s m args meth c D cA cc nL RX2 ret) (hP : va_P D vwCl (w_N_A cA a S b T) H) (hdg : decode cc pc = .ok (.getfield 16, 3)) (kk : W p l e R s m args below meth c H locs cells slots Q (F0 m (pc + 3) ls (.int (S 0 0) :: rest))) : W p l e R s m args below meth c H locs cells slots Q (F0 m pc ls (.ref (a 0) :: rest)) := by
  obtain ⟨hx, hb, -, hown, hts, hK, -, -, -⟩ := C
  exact va_get (D := D) (ci := 2) (v := .int (S 0 0)) (C := RX2) (T := TX2) (N := 3) hx hb hts inlX2 hown hK hP 0 rfl rfl 2 (by decide) (hts _ fl_RX2_16) (fun _ h9 => h9) rfl hdg kk
theorem ge_RX2_9_N_A_0_0 (C : Cx p s m args meth c D cA cc nL RX2 ret) (hP : va_P D vwCl (w_N_A cA a S b T) H) (hdg : decode cc pc = .ok (.getfield 9, 3)) (kk : W p l e R s m args below meth c H locs cells slots Q (F0 m (pc + 3) ls (.ref (a 1) :: rest))) : W p l e R s m args below meth c H locs cells slots Q (F0 m pc ls (.ref (a 0) :: rest)) := by
  obtain ⟨hx, hb, -, hown, hts, hK, -, -, -⟩ := C
  exact va_get (D := D) (ci := 2) (v := .ref (a 1)) (C := RX2) (T := TX2) (N := 3) hx hb hts inlX2 hown hK hP 0 rfl rfl 0 (by decide) (hts _ fl_RX2_9) (fun _ h9 => h9) rfl hdg kk
theorem ld_N_A_0_1 {i : Int32} {j : Nat} (C : Cx p s m args meth c D cA cc nL own ret) (hP : va_P D vwCl (w_N_A cA a S b T) H) (hin : vp_in i 8) (hj : i.toNatClampNeg = j) (hdg : decode cc pc = .ok (.iaload, 1)) (kk : W p l e R s m args below meth c H locs cells slots Q (F0 m (pc + 1) ls (.int (S 1 j) :: rest))) : W p l e R s m args below meth c H locs cells slots Q (F0 m pc ls (.int i :: .ref (a 1) :: rest)) := by
  obtain ⟨hx, hb, -, hown, hts, hK, -, -, -⟩ := C
  subst hj
  exact va_iald hx hb hK hP 1 0 rfl rfl hin hdg kk
theorem ge_RX2_13_N_A_0_0 (C : Cx p s m args meth c D cA cc nL RX2 ret) (hP : va_P D vwCl (w_N_A cA a S b T) H) (hdg : decode cc pc = .ok (.getfield 13, 3)) (kk : W p l e R s m args below meth c H locs cells slots Q (F0 m (pc + 3) ls (.ref (a 2) :: rest))) : W p l e R s m args below meth c H locs cells slots Q (F0 m pc ls (.ref (a 0) :: rest)) := by
  obtain ⟨hx, hb, -, hown, hts, hK, -, -, -⟩ := C
  exact va_get (D := D) (ci := 2) (v := .ref (a 2)) (C := RX2) (T := TX2) (N := 3) hx hb hts inlX2 hown hK hP 0 rfl rfl 1 (by decide) (hts _ fl_RX2_13) (fun _ h9 => h9) rfl hdg kk
theorem ld_N_A_0_2 {i : Int32} {j : Nat} (C : Cx p s m args meth c D cA cc nL own ret) (hP : va_P D vwCl (w_N_A cA a S b T) H) (hin : vp_in i 8) (hj : i.toNatClampNeg = j) (hdg : decode cc pc = .ok (.iaload, 1)) (kk : W p l e R s m args below meth c H locs cells slots Q (F0 m (pc + 1) ls (.int (S 2 j) :: rest))) : W p l e R s m args below meth c H locs cells slots Q (F0 m pc ls (.int i :: .ref (a 2) :: rest)) := by
  obtain ⟨hx, hb, -, hown, hts, hK, -, -, -⟩ := C
  subst hj
  exact va_iald hx hb hK hP 2 0 rfl rfl hin hdg kk
theorem lk_RX2_20 : LkS RX2 20 yX2_isHeardAs cX2_isHeardAs 8 (some .boolean) 4 := ⟨⟨by decide +kernel, by decide +kernel, by decide +kernel, by decide +kernel, by decide +kernel, by decide +kernel⟩, by decide +kernel⟩
def fX2_isSo_b2 (N : Nat) (S : St) (T : St) (p1 : Int32) (g2 : Int32 → Option (Int32)) (x3 : Int32) : Option (Int32) :=
  if (S 0 0) ≤ x3 then (some ((1 : Int32))) else (if ¬ (x3 < 0 ∨ 8 ≤ x3.toNatClampNeg) then (if ¬ (x3 < 0 ∨ 8 ≤ x3.toNatClampNeg) then (Option.bind (fX2_isHeardAs N T ((S 1 x3.toNatClampNeg)) ((S 2 x3.toNatClampNeg)) p1) (fun q4 => if q4 = 0 then (some ((0 : Int32))) else (g2 ((x3 + 1))))) else none) else none)
def fX2_isSo_l2 (N : Nat) (S : St) (T : St) (p1 : Int32) (k : Nat) (q : Int32) : Option (Int32) := lpN (fun g q => fX2_isSo_b2 N S T p1 g q) k q
def fX2_isSo (N : Nat) (S : St) (T : St) (p1 : Int32) : Option (Int32) :=
  fX2_isSo_l2 N S T p1 N ((0 : Int32))
set_option maxRecDepth 100000 in
set_option maxHeartbeats 4000000 in
theorem wX2_isSo_2 (C : Cx p s m args meth c D cA cX2_isSo 4 RX2 (some .boolean)) (hA : ∀ q : Nat, s.heap.size ≤ q → A q) {N : Nat} {z : Int32} {S : St} {T : St} {p1 : Int32} : ∀ (k : Nat) (x3 : Int32), fX2_isSo_l2 N S T p1 k x3 = some z → ∀ (H : Heap) (locs : List Loc) (ls : Array Slot), va_P D vwCl (w_N_A cA a S b T) H → va_D A (w_N_A cA a S b T) → va_S A s.heap H locs → lv_has ls 4 [(0, .ref (a 0)), (1, .int p1), (2, .ref (b 0)), (3, .int x3)] → W p l e (rmU 2 49 0 0) s m args below meth c H locs 0 0 (MQ below (QI D A z (w_N_A cA a S b T)) args s 0 0 A) (F0 m 2 ls []) := by
  obtain ⟨hx, hb, hml, hown, hts, hK, hN, hr, hlk⟩ := id C
  intro k
  induction k with
  | zero =>
    intro x3 hf
    have hf : (none : Option (Int32)) = some z := hf
    cases hf
  | succ k hg2 =>
    intro x3 hf H locs ls hP hD hS hl
    have hf : fX2_isSo_b2 N S T p1 (fX2_isSo_l2 N S T p1 k) x3 = some z := hf
    unfold fX2_isSo_b2 at hf
    refine lv_iload_n (pc := 2) hx hb dX2_isSo_2 rfl (lv_at hl 3 rfl) ?_
    refine lv_aload_n (pc := 3) hx hb dX2_isSo_3 rfl (lv_at hl 0 rfl) ?_
    refine ge_RX2_16_N_A_0_0 (pc := 4) C hP dX2_isSo_4 ?_
    refine lv_icmp_ge (tgt := 38) (pc := 7) hx hb dX2_isSo_7 (by decide) (fun c1 => ?_) (fun c1 => ?_)
    · have hf := pt_t c1 hf
      refine lv_iconst (v := (1 : Int32)) (pc := 38) hx hb dX2_isSo_38 (by decide) ?_
      cases hf
      exact ret_z C (Or.inr rfl) hP hD hS dX2_isSo_39
    · have hf := pt_f c1 hf
      refine lv_aload_n (pc := 10) hx hb dX2_isSo_10 rfl (lv_at hl 0 rfl) ?_
      refine ge_RX2_9_N_A_0_0 (pc := 11) C hP dX2_isSo_11 ?_
      refine lv_iload_n (pc := 14) hx hb dX2_isSo_14 rfl (lv_at hl 3 rfl) ?_
      obtain ⟨h2, hf⟩ := pt_g hf
      refine ld_N_A_0_1 (pc := 15) (j := x3.toNatClampNeg) C hP h2 rfl dX2_isSo_15 ?_
      refine lv_aload_n (pc := 16) hx hb dX2_isSo_16 rfl (lv_at hl 0 rfl) ?_
      refine ge_RX2_13_N_A_0_0 (pc := 17) C hP dX2_isSo_17 ?_
      refine lv_iload_n (pc := 20) hx hb dX2_isSo_20 rfl (lv_at hl 3 rfl) ?_
      obtain ⟨h3, hf⟩ := pt_g hf
      refine ld_N_A_0_2 (pc := 21) (j := x3.toNatClampNeg) C hP h3 rfl dX2_isSo_21 ?_
      refine lv_iload_n (pc := 22) hx hb dX2_isSo_22 rfl (lv_at hl 1 rfl) ?_
      refine lv_aload_n (pc := 23) hx hb dX2_isSo_23 rfl (lv_at hl 2 rfl) ?_
      obtain ⟨q4, hq4, hf⟩ := pt_b hf
      have hPc : va_P D vwCl (w_A cA b T) H := hP.sub [3] rfl
      have hDc : va_D A (w_A cA b T) := hD.sub [3] (by decide) rfl
      refine prt_i (runU_S (pc := 24) (As := [.int ((S 1 x3.toNatClampNeg)), .int ((S 2 x3.toNatClampNeg)), .int p1, .ref (b 0)]) (rest := []) C lk_RX2_20 (kX2_isHeardAs l D cA b hq4 H.size) ⟨Nat.le_of_ble_eq_true rfl, Nat.le_of_ble_eq_true rfl⟩ ⟨Nat.le_refl _, Nat.le_refl _⟩ hPc hDc hl.1 rfl (Nat.le_of_ble_eq_true rfl) dX2_isSo_24) hP hD hS hA [3] rfl (fun H locs hP hD hS => ?_)
      refine lv_if_ne (tgt := 32) (pc := 27) hx hb dX2_isSo_27 (by decide) (fun c5 => ?_) (fun c5 => ?_)
      · have hf := pt_f c5 hf
        refine lv_iinc (v := (x3 + 1)) (lv' := [(3, .int ((x3 + 1))), (0, .ref (a 0)), (1, .int p1), (2, .ref (b 0))]) (pc := 32) hx hb dX2_isSo_32 hl (k := 3) rfl (by rfl) (by decide) rfl (fun ls hl => ?_)
        refine lv_goto (tgt := 2) (pc := 35) hx hb dX2_isSo_35 (by decide) ?_
        exact hg2 ((x3 + 1)) hf _ _ _ hP hD hS (lv_sub hl [1, 2, 3, 0] rfl)
      · have hf := pt_t c5 hf
        refine lv_iconst (v := (0 : Int32)) (pc := 30) hx hb dX2_isSo_30 (by decide) ?_
        cases hf
        exact ret_z C (Or.inl rfl) hP hD hS dX2_isSo_31
set_option maxRecDepth 100000 in
set_option maxHeartbeats 4000000 in
theorem wX2_isSo (C : Cx p s m args meth c D cA cX2_isSo 4 RX2 (some .boolean)) (hA : ∀ q : Nat, s.heap.size ≤ q → A q) {N : Nat} {z : Int32} {S : St} {T : St} {p1 : Int32} (hf : fX2_isSo N S T p1 = some z) {H : Heap} {locs : List Loc} {ls : Array Slot} (hP : va_P D vwCl (w_N_A cA a S b T) H) (hD : va_D A (w_N_A cA a S b T)) (hS : va_S A s.heap H locs) (hl : lv_has ls 4 [(0, .ref (a 0)), (1, .int p1), (2, .ref (b 0))]) : W p l e (rmU 2 49 0 0) s m args below meth c H locs 0 0 (MQ below (QI D A z (w_N_A cA a S b T)) args s 0 0 A) (F0 m 0 ls []) := by
  obtain ⟨hx, hb, hml, hown, hts, hK, hN, hr, hlk⟩ := id C
  unfold fX2_isSo at hf
  refine lv_iconst (v := (0 : Int32)) (pc := 0) hx hb dX2_isSo_0 (by decide) ?_
  refine lv_istore_n (lv' := [(3, .int ((0 : Int32))), (0, .ref (a 0)), (1, .int p1), (2, .ref (b 0))]) (pc := 1) hx hb dX2_isSo_1 rfl hl (by decide) rfl (fun ls hl => ?_)
  exact wX2_isSo_2 C hA  _ ((0 : Int32)) hf _ _ _ hP hD hS (lv_sub hl [1, 2, 3, 0] rfl)
set_option maxRecDepth 100000 in
set_option maxHeartbeats 4000000 in
theorem kX2_isSo (l : Launch) (D : va_G) (cA : Nat → ClassId) (a : Nat → Nat) (b : Nat → Nat) {N : Nat} {S : St} {T : St} {p1 : Int32} {z : Int32} (hf : fX2_isSo N S T p1 = some z) : CtI l yX2_isSo cX2_isSo 4 (some .boolean) 2 49 D cA (w_N_A cA a S b T) (w_N_A cA a S b T) [.ref (a 0), .int p1, .ref (b 0)] z := by
  intro sz
  refine Met.ofW (cc := cX2_isSo) (maxL := 4) (ret := (some .boolean)) (by decide) rfl ?_
  intro p e s m args below meth c s₁ B hml hv
  obtain ⟨rfl, hsz, hP, hK, hD0⟩ := hv
  subst hsz
  have C : Cx p s m _ meth c D cA cX2_isSo 4 RX2 (some .boolean) := Cx.of B hml hK
  have hD := hD0.self (sz := s.heap.size)
  have hA : ∀ q : Nat, s.heap.size ≤ q → va_A (w_N_A cA a S b T) s.heap.size q := fun q h => Or.inr h
  have hS : va_S (va_A (w_N_A cA a S b T) s.heap.size) s.heap s.heap [] := va_S.rf
  have hl := lv_entry ([.ref (a 0), .int p1, .ref (b 0)]) (n := 4) (Nat.le_of_ble_eq_true rfl)
  rw [lg_entry_eq]
  generalize (lg_sl ([.ref (a 0), .int p1, .ref (b 0)]) ++ List.replicate (4 - (lg_sl ([.ref (a 0), .int p1, .ref (b 0)])).length) Slot.unset).toArray = ls at hl ⊢
  exact wX2_isSo C hA hf hP hD hS hl
def w_K_F (cA : Nat → ClassId) (a : Nat → Nat) (S : St) (b : Nat → Nat) (T : St) : va_W := [(a 0, .inr (1, [.ref (a 1), .int (S 0 0)])), (a 1, .inl (cA 3, 2, .inr (.inr (.inr (.inr (qf2 (a 2) (a 4))))))), (a 2, .inr (0, [.int (S 1 0), .ref (a 3)])), (a 3, .inl (cA 0, 10, .inl (S 2))), (a 4, .inr (0, [.int (S 3 0), .ref (a 5)])), (a 5, .inl (cA 0, 10, .inl (S 4))), (b 0, .inr (0, [.int (T 0 0), .ref (b 1)])), (b 1, .inl (cA 0, 10, .inl (T 1)))]
theorem fl_RX1_16 : Cond.fieldLink RX1 16 "SevenOnStrike$Kept" "size" "I" ∈ wsL_law := by decide +kernel
theorem ge_RX1_16_K_F_0_0 (C : Cx p s m args meth c D cA cc nL RX1 ret) (hP : va_P D vwCl (w_K_F cA a S b T) H) (hdg : decode cc pc = .ok (.getfield 16, 3)) (kk : W p l e R s m args below meth c H locs cells slots Q (F0 m (pc + 3) ls (.int (S 0 0) :: rest))) : W p l e R s m args below meth c H locs cells slots Q (F0 m pc ls (.ref (a 0) :: rest)) := by
  obtain ⟨hx, hb, -, hown, hts, hK, -, -, -⟩ := C
  exact va_get (D := D) (ci := 1) (v := .int (S 0 0)) (C := RX1) (T := TX1) (N := 2) hx hb hts inlX1 hown hK hP 0 rfl rfl 1 (by decide) (hts _ fl_RX1_16) (fun _ h9 => h9) rfl hdg kk
theorem fl_RX1_10 : Cond.fieldLink RX1 10 "SevenOnStrike$Kept" "rows" "[LSevenOnStrike$Figures;" ∈ wsL_law := by decide +kernel
theorem ge_RX1_10_K_F_0_0 (C : Cx p s m args meth c D cA cc nL RX1 ret) (hP : va_P D vwCl (w_K_F cA a S b T) H) (hdg : decode cc pc = .ok (.getfield 10, 3)) (kk : W p l e R s m args below meth c H locs cells slots Q (F0 m (pc + 3) ls (.ref (a 1) :: rest))) : W p l e R s m args below meth c H locs cells slots Q (F0 m pc ls (.ref (a 0) :: rest)) := by
  obtain ⟨hx, hb, -, hown, hts, hK, -, -, -⟩ := C
  exact va_get (D := D) (ci := 1) (v := .ref (a 1)) (C := RX1) (T := TX1) (N := 2) hx hb hts inlX1 hown hK hP 0 rfl rfl 0 (by decide) (hts _ fl_RX1_10) (fun _ h9 => h9) rfl hdg kk
theorem lk_RX1_20 : LkV RX1 20 yX0_copyFrom cX0_copyFrom 2 none 1 := ⟨⟨by decide +kernel, by decide +kernel, by decide +kernel, by decide +kernel, by decide +kernel, by decide +kernel⟩, by decide +kernel, by decide +kernel⟩
theorem pu_RX1_16_K_F_0_0 {v : Int32} (C : Cx p s m args meth c D cA cc nL RX1 ret) (hP : va_P D vwCl (w_K_F cA a S b T) H) (hD : va_D A (w_K_F cA a S b T)) (hS : va_S A s.heap H locs) (hdg : decode cc pc = .ok (.putfield 16, 3)) (kk : ∀ (H1 : Heap) (locs1 : List Loc), va_P D vwCl (w_K_F cA a (stf S 0 v) b T) H1 → va_D A (w_K_F cA a (stf S 0 v) b T) → va_S A s.heap H1 locs1 → W p l e R s m args below meth c H1 locs1 cells slots Q (F0 m (pc + 3) ls rest)) : W p l e R s m args below meth c H locs cells slots Q (F0 m pc ls (.int v :: .ref (a 0) :: rest)) := by
  obtain ⟨hx, hb, -, hown, hts, hK, -, -, -⟩ := C
  exact va_put (D := D) (ci := 1) (v := .int v) (ty := .int) (C := RX1) (T := TX1) (N := 2) hx hb hts inlX1 tyX1 tyX1_ok nmX1 hown hK hP hD hS 0 rfl rfl 1 (by decide) (hts _ fl_RX1_16) (fun _ h9 => h9) rfl (by decide +kernel) rfl rfl (Nat.le_of_ble_eq_true rfl) hdg (fun H1 locs1 h1 h2 h3 => kk H1 locs1 h1 h2 h3)
def fX1_put (N : Nat) (S : St) (T : St) : Option (Int32 × St) :=
  if (S 0 0) < (2 : Int32) then (if (S 0 0) = 0 then (Option.bind (fX0_copyFrom N (sh S 1) T) (fun q3 => some ((1 : Int32), (stf (pt S 1 2 q3) 0 ((((pt S 1 2 q3) 0 0) + (1 : Int32))))))) else (if (S 0 0) = 1 then (Option.bind (fX0_copyFrom N (sh S 3) T) (fun q5 => some ((1 : Int32), (stf (pt S 3 2 q5) 0 ((((pt S 3 2 q5) 0 0) + (1 : Int32))))))) else (none))) else (some ((0 : Int32), S))
set_option maxRecDepth 100000 in
set_option maxHeartbeats 4000000 in
theorem wX1_put (C : Cx p s m args meth c D cA cX1_put 2 RX1 (some .boolean)) (hA : ∀ q : Nat, s.heap.size ≤ q → A q) {N : Nat} {z : Int32 × St} {S : St} {T : St} (hf : fX1_put N S T = some z) {H : Heap} {locs : List Loc} {ls : Array Slot} (hP : va_P D vwCl (w_K_F cA a S b T) H) (hD : va_D A (w_K_F cA a S b T)) (hS : va_S A s.heap H locs) (hl : lv_has ls 2 [(0, .ref (a 0)), (1, .ref (b 0))]) : W p l e (rmU 2 51 0 0) s m args below meth c H locs 0 0 (MQ below (QI D A z.1 (w_K_F cA a z.2 b T)) args s 0 0 A) (F0 m 0 ls []) := by
  obtain ⟨hx, hb, hml, hown, hts, hK, hN, hr, hlk⟩ := id C
  unfold fX1_put at hf
  refine lv_aload_n (pc := 0) hx hb dX1_put_0 rfl (lv_at hl 0 rfl) ?_
  refine ge_RX1_16_K_F_0_0 (pc := 1) C hP dX1_put_1 ?_
  refine lv_iconst (v := (2 : Int32)) (pc := 4) hx hb dX1_put_4 (by decide) ?_
  refine lv_icmp_lt (tgt := 10) (pc := 5) hx hb dX1_put_5 (by decide) (fun c1 => ?_) (fun c1 => ?_)
  · have hf := pt_t c1 hf
    refine lv_aload_n (pc := 10) hx hb dX1_put_10 rfl (lv_at hl 0 rfl) ?_
    refine ge_RX1_10_K_F_0_0 (pc := 11) C hP dX1_put_11 ?_
    refine lv_aload_n (pc := 14) hx hb dX1_put_14 rfl (lv_at hl 0 rfl) ?_
    refine ge_RX1_16_K_F_0_0 (pc := 15) C hP dX1_put_15 ?_
    by_cases c2 : (S 0 0) = 0
    · have hf := pt_t c2 hf
      refine va_aldq (D := D) (pc := 18) hx hb hK hP 1 3 rfl rfl (by rw [c2]; exact inK rfl) dX1_put_18 ?_
      refine W.eq (g2 := F0 m 19 ls (.ref (a 2) :: [])) (by rw [c2]; rfl) ?_
      refine lv_aload_n (pc := 19) hx hb dX1_put_19 rfl (lv_at hl 1 rfl) ?_
      obtain ⟨q3, hq3, hf⟩ := pt_b hf
      have hPc : va_P D vwCl (w_F_F cA (sh a 2) (sh S 1) b T) H := hP.sub [2, 3, 6, 7] rfl
      have hDc : va_D A (w_F_F cA (sh a 2) (sh S 1) b T) := hD.sub [2, 3, 6, 7] (by decide) rfl
      refine upd_v (W1 := (w_F_F cA (sh a 2) q3 b T)) (runU_V (pc := 20) (As := [.ref (b 0)]) (b := a 2) (rest := []) (ci := 0) (q0 := 0) C lk_RX1_20 (kX0_copyFrom l D cA (sh a 2) b hq3 H.size) ⟨Nat.le_of_ble_eq_true rfl, Nat.le_of_ble_eq_true rfl⟩ ⟨Nat.le_refl _, Nat.le_refl _⟩ hPc hDc rfl rfl rfl hl.1 rfl (Nat.le_of_ble_eq_true rfl) dX1_put_20) hP hD hS hA [2, 3, 6, 7] rfl (by decide) rfl (fun H locs hP hD hS => ?_)
      have hP : va_P D vwCl (w_K_F cA a (pt S 1 2 q3) b T) H := hP
      have hD : va_D A (w_K_F cA a (pt S 1 2 q3) b T) := hD
      refine lv_aload_n (pc := 23) hx hb dX1_put_23 rfl (lv_at hl 0 rfl) ?_
      refine lv_dup (pc := 24) hx hb dX1_put_24 rfl ?_
      refine ge_RX1_16_K_F_0_0 (pc := 25) C hP dX1_put_25 ?_
      refine lv_iconst (v := (1 : Int32)) (pc := 28) hx hb dX1_put_28 (by decide) ?_
      refine lv_iadd (pc := 29) hx hb dX1_put_29 ?_
      refine pu_RX1_16_K_F_0_0 (pc := 30) C hP hD hS dX1_put_30 (fun H locs hP hD hS => ?_)
      refine lv_iconst (v := (1 : Int32)) (pc := 33) hx hb dX1_put_33 (by decide) ?_
      cases hf
      exact ret_z C (Or.inr rfl) hP hD hS dX1_put_34
    · have hf := pt_f c2 hf
      by_cases c4 : (S 0 0) = 1
      · have hf := pt_t c4 hf
        refine va_aldq (D := D) (pc := 18) hx hb hK hP 1 3 rfl rfl (by rw [c4]; exact inK rfl) dX1_put_18 ?_
        refine W.eq (g2 := F0 m 19 ls (.ref (a 4) :: [])) (by rw [c4]; rfl) ?_
        refine lv_aload_n (pc := 19) hx hb dX1_put_19 rfl (lv_at hl 1 rfl) ?_
        obtain ⟨q5, hq5, hf⟩ := pt_b hf
        have hPc : va_P D vwCl (w_F_F cA (sh a 4) (sh S 3) b T) H := hP.sub [4, 5, 6, 7] rfl
        have hDc : va_D A (w_F_F cA (sh a 4) (sh S 3) b T) := hD.sub [4, 5, 6, 7] (by decide) rfl
        refine upd_v (W1 := (w_F_F cA (sh a 4) q5 b T)) (runU_V (pc := 20) (As := [.ref (b 0)]) (b := a 4) (rest := []) (ci := 0) (q0 := 0) C lk_RX1_20 (kX0_copyFrom l D cA (sh a 4) b hq5 H.size) ⟨Nat.le_of_ble_eq_true rfl, Nat.le_of_ble_eq_true rfl⟩ ⟨Nat.le_refl _, Nat.le_refl _⟩ hPc hDc rfl rfl rfl hl.1 rfl (Nat.le_of_ble_eq_true rfl) dX1_put_20) hP hD hS hA [4, 5, 6, 7] rfl (by decide) rfl (fun H locs hP hD hS => ?_)
        have hP : va_P D vwCl (w_K_F cA a (pt S 3 2 q5) b T) H := hP
        have hD : va_D A (w_K_F cA a (pt S 3 2 q5) b T) := hD
        refine lv_aload_n (pc := 23) hx hb dX1_put_23 rfl (lv_at hl 0 rfl) ?_
        refine lv_dup (pc := 24) hx hb dX1_put_24 rfl ?_
        refine ge_RX1_16_K_F_0_0 (pc := 25) C hP dX1_put_25 ?_
        refine lv_iconst (v := (1 : Int32)) (pc := 28) hx hb dX1_put_28 (by decide) ?_
        refine lv_iadd (pc := 29) hx hb dX1_put_29 ?_
        refine pu_RX1_16_K_F_0_0 (pc := 30) C hP hD hS dX1_put_30 (fun H locs hP hD hS => ?_)
        refine lv_iconst (v := (1 : Int32)) (pc := 33) hx hb dX1_put_33 (by decide) ?_
        cases hf
        exact ret_z C (Or.inr rfl) hP hD hS dX1_put_34
      · have hf := pt_f c4 hf
        cases hf
  · have hf := pt_f c1 hf
    refine lv_iconst (v := (0 : Int32)) (pc := 8) hx hb dX1_put_8 (by decide) ?_
    cases hf
    exact ret_z C (Or.inl rfl) hP hD hS dX1_put_9
set_option maxRecDepth 100000 in
set_option maxHeartbeats 4000000 in
theorem kX1_put (l : Launch) (D : va_G) (cA : Nat → ClassId) (a : Nat → Nat) (b : Nat → Nat) {N : Nat} {S : St} {T : St} {z : Int32 × St} (hf : fX1_put N S T = some z) : CtI l yX1_put cX1_put 2 (some .boolean) 2 51 D cA (w_K_F cA a S b T) (w_K_F cA a z.2 b T) [.ref (a 0), .ref (b 0)] z.1 := by
  intro sz
  refine Met.ofW (cc := cX1_put) (maxL := 2) (ret := (some .boolean)) (by decide) rfl ?_
  intro p e s m args below meth c s₁ B hml hv
  obtain ⟨rfl, hsz, hP, hK, hD0⟩ := hv
  subst hsz
  have C : Cx p s m _ meth c D cA cX1_put 2 RX1 (some .boolean) := Cx.of B hml hK
  have hD := hD0.self (sz := s.heap.size)
  have hA : ∀ q : Nat, s.heap.size ≤ q → va_A (w_K_F cA a S b T) s.heap.size q := fun q h => Or.inr h
  have hS : va_S (va_A (w_K_F cA a S b T) s.heap.size) s.heap s.heap [] := va_S.rf
  have hl := lv_entry ([.ref (a 0), .ref (b 0)]) (n := 2) (Nat.le_of_ble_eq_true rfl)
  rw [lg_entry_eq]
  generalize (lg_sl ([.ref (a 0), .ref (b 0)]) ++ List.replicate (2 - (lg_sl ([.ref (a 0), .ref (b 0)])).length) Slot.unset).toArray = ls at hl ⊢
  exact wX1_put C hA hf hP hD hS hl
def fX1_restore (N : Nat) (S : St) (T : St) : Option (Int32 × St × St) :=
  if 0 < (S 0 0) then (if ((stf S 0 (((S 0 0) - (1 : Int32)))) 0 0) = 0 then (Option.bind (fX0_copyFrom N T (sh (stf S 0 (((S 0 0) - (1 : Int32)))) 1)) (fun q3 => some ((1 : Int32), (stf S 0 (((S 0 0) - (1 : Int32)))), q3))) else (if ((stf S 0 (((S 0 0) - (1 : Int32)))) 0 0) = 1 then (Option.bind (fX0_copyFrom N T (sh (stf S 0 (((S 0 0) - (1 : Int32)))) 3)) (fun q5 => some ((1 : Int32), (stf S 0 (((S 0 0) - (1 : Int32)))), q5))) else (none))) else (some ((0 : Int32), S, T))
set_option maxRecDepth 100000 in
set_option maxHeartbeats 4000000 in
theorem wX1_restore (C : Cx p s m args meth c D cA cX1_restore 2 RX1 (some .boolean)) (hA : ∀ q : Nat, s.heap.size ≤ q → A q) {N : Nat} {z : Int32 × St × St} {S : St} {T : St} (hf : fX1_restore N S T = some z) {H : Heap} {locs : List Loc} {ls : Array Slot} (hP : va_P D vwCl (w_K_F cA a S b T) H) (hD : va_D A (w_K_F cA a S b T)) (hS : va_S A s.heap H locs) (hl : lv_has ls 2 [(0, .ref (a 0)), (1, .ref (b 0))]) : W p l e (rmU 2 51 0 0) s m args below meth c H locs 0 0 (MQ below (QI D A z.1 (w_K_F cA a z.2.1 b z.2.2)) args s 0 0 A) (F0 m 0 ls []) := by
  obtain ⟨hx, hb, hml, hown, hts, hK, hN, hr, hlk⟩ := id C
  unfold fX1_restore at hf
  refine lv_aload_n (pc := 0) hx hb dX1_restore_0 rfl (lv_at hl 0 rfl) ?_
  refine ge_RX1_16_K_F_0_0 (pc := 1) C hP dX1_restore_1 ?_
  refine lv_if_gt (tgt := 9) (pc := 4) hx hb dX1_restore_4 (by decide) (fun c1 => ?_) (fun c1 => ?_)
  · have hf := pt_t c1 hf
    refine lv_aload_n (pc := 9) hx hb dX1_restore_9 rfl (lv_at hl 0 rfl) ?_
    refine lv_dup (pc := 10) hx hb dX1_restore_10 rfl ?_
    refine ge_RX1_16_K_F_0_0 (pc := 11) C hP dX1_restore_11 ?_
    refine lv_iconst (v := (1 : Int32)) (pc := 14) hx hb dX1_restore_14 (by decide) ?_
    refine lv_isub (pc := 15) hx hb dX1_restore_15 ?_
    refine pu_RX1_16_K_F_0_0 (pc := 16) C hP hD hS dX1_restore_16 (fun H locs hP hD hS => ?_)
    refine lv_aload_n (pc := 19) hx hb dX1_restore_19 rfl (lv_at hl 1 rfl) ?_
    refine lv_aload_n (pc := 20) hx hb dX1_restore_20 rfl (lv_at hl 0 rfl) ?_
    refine ge_RX1_10_K_F_0_0 (pc := 21) C hP dX1_restore_21 ?_
    refine lv_aload_n (pc := 24) hx hb dX1_restore_24 rfl (lv_at hl 0 rfl) ?_
    refine ge_RX1_16_K_F_0_0 (pc := 25) C hP dX1_restore_25 ?_
    by_cases c2 : ((stf S 0 (((S 0 0) - (1 : Int32)))) 0 0) = 0
    · have hf := pt_t c2 hf
      refine va_aldq (D := D) (pc := 28) hx hb hK hP 1 3 rfl rfl (by rw [c2]; exact inK rfl) dX1_restore_28 ?_
      refine W.eq (g2 := F0 m 29 ls (.ref (a 2) :: [.ref (b 0)])) (by rw [c2]; rfl) ?_
      obtain ⟨q3, hq3, hf⟩ := pt_b hf
      have hPc : va_P D vwCl (w_F_F cA b T (sh a 2) (sh (stf S 0 (((S 0 0) - (1 : Int32)))) 1)) H := hP.sub [6, 7, 2, 3] rfl
      have hDc : va_D A (w_F_F cA b T (sh a 2) (sh (stf S 0 (((S 0 0) - (1 : Int32)))) 1)) := hD.sub [6, 7, 2, 3] (by decide) rfl
      refine upd_v (W1 := (w_F_F cA b q3 (sh a 2) (sh (stf S 0 (((S 0 0) - (1 : Int32)))) 1))) (runU_V (pc := 29) (As := [.ref (a 2)]) (b := b 0) (rest := []) (ci := 0) (q0 := 0) C lk_RX1_20 (kX0_copyFrom l D cA b (sh a 2) hq3 H.size) ⟨Nat.le_of_ble_eq_true rfl, Nat.le_of_ble_eq_true rfl⟩ ⟨Nat.le_refl _, Nat.le_refl _⟩ hPc hDc rfl rfl rfl hl.1 rfl (Nat.le_of_ble_eq_true rfl) dX1_restore_29) hP hD hS hA [6, 7, 2, 3] rfl (by decide) rfl (fun H locs hP hD hS => ?_)
      have hP : va_P D vwCl (w_K_F cA a (stf S 0 (((S 0 0) - (1 : Int32)))) b q3) H := hP
      have hD : va_D A (w_K_F cA a (stf S 0 (((S 0 0) - (1 : Int32)))) b q3) := hD
      refine lv_iconst (v := (1 : Int32)) (pc := 32) hx hb dX1_restore_32 (by decide) ?_
      cases hf
      exact ret_z C (Or.inr rfl) hP hD hS dX1_restore_33
    · have hf := pt_f c2 hf
      by_cases c4 : ((stf S 0 (((S 0 0) - (1 : Int32)))) 0 0) = 1
      · have hf := pt_t c4 hf
        refine va_aldq (D := D) (pc := 28) hx hb hK hP 1 3 rfl rfl (by rw [c4]; exact inK rfl) dX1_restore_28 ?_
        refine W.eq (g2 := F0 m 29 ls (.ref (a 4) :: [.ref (b 0)])) (by rw [c4]; rfl) ?_
        obtain ⟨q5, hq5, hf⟩ := pt_b hf
        have hPc : va_P D vwCl (w_F_F cA b T (sh a 4) (sh (stf S 0 (((S 0 0) - (1 : Int32)))) 3)) H := hP.sub [6, 7, 4, 5] rfl
        have hDc : va_D A (w_F_F cA b T (sh a 4) (sh (stf S 0 (((S 0 0) - (1 : Int32)))) 3)) := hD.sub [6, 7, 4, 5] (by decide) rfl
        refine upd_v (W1 := (w_F_F cA b q5 (sh a 4) (sh (stf S 0 (((S 0 0) - (1 : Int32)))) 3))) (runU_V (pc := 29) (As := [.ref (a 4)]) (b := b 0) (rest := []) (ci := 0) (q0 := 0) C lk_RX1_20 (kX0_copyFrom l D cA b (sh a 4) hq5 H.size) ⟨Nat.le_of_ble_eq_true rfl, Nat.le_of_ble_eq_true rfl⟩ ⟨Nat.le_refl _, Nat.le_refl _⟩ hPc hDc rfl rfl rfl hl.1 rfl (Nat.le_of_ble_eq_true rfl) dX1_restore_29) hP hD hS hA [6, 7, 4, 5] rfl (by decide) rfl (fun H locs hP hD hS => ?_)
        have hP : va_P D vwCl (w_K_F cA a (stf S 0 (((S 0 0) - (1 : Int32)))) b q5) H := hP
        have hD : va_D A (w_K_F cA a (stf S 0 (((S 0 0) - (1 : Int32)))) b q5) := hD
        refine lv_iconst (v := (1 : Int32)) (pc := 32) hx hb dX1_restore_32 (by decide) ?_
        cases hf
        exact ret_z C (Or.inr rfl) hP hD hS dX1_restore_33
      · have hf := pt_f c4 hf
        cases hf
  · have hf := pt_f c1 hf
    refine lv_iconst (v := (0 : Int32)) (pc := 7) hx hb dX1_restore_7 (by decide) ?_
    cases hf
    exact ret_z C (Or.inl rfl) hP hD hS dX1_restore_8
set_option maxRecDepth 100000 in
set_option maxHeartbeats 4000000 in
theorem kX1_restore (l : Launch) (D : va_G) (cA : Nat → ClassId) (a : Nat → Nat) (b : Nat → Nat) {N : Nat} {S : St} {T : St} {z : Int32 × St × St} (hf : fX1_restore N S T = some z) : CtI l yX1_restore cX1_restore 2 (some .boolean) 2 51 D cA (w_K_F cA a S b T) (w_K_F cA a z.2.1 b z.2.2) [.ref (a 0), .ref (b 0)] z.1 := by
  intro sz
  refine Met.ofW (cc := cX1_restore) (maxL := 2) (ret := (some .boolean)) (by decide) rfl ?_
  intro p e s m args below meth c s₁ B hml hv
  obtain ⟨rfl, hsz, hP, hK, hD0⟩ := hv
  subst hsz
  have C : Cx p s m _ meth c D cA cX1_restore 2 RX1 (some .boolean) := Cx.of B hml hK
  have hD := hD0.self (sz := s.heap.size)
  have hA : ∀ q : Nat, s.heap.size ≤ q → va_A (w_K_F cA a S b T) s.heap.size q := fun q h => Or.inr h
  have hS : va_S (va_A (w_K_F cA a S b T) s.heap.size) s.heap s.heap [] := va_S.rf
  have hl := lv_entry ([.ref (a 0), .ref (b 0)]) (n := 2) (Nat.le_of_ble_eq_true rfl)
  rw [lg_entry_eq]
  generalize (lg_sl ([.ref (a 0), .ref (b 0)]) ++ List.replicate (2 - (lg_sl ([.ref (a 0), .ref (b 0)])).length) Slot.unset).toArray = ls at hl ⊢
  exact wX1_restore C hA hf hP hD hS hl
end PClA
