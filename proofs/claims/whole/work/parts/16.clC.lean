section PClC
variable {p : Program} {l : Launch} {e : Env} {R : Room} {s : State} {m : MethodId} {args : Array Value} {below : List Frame} {meth : Method} {c : Code} {H : Heap} {locs : List Loc} {cells slots : Nat} {Q : State → Prop}
variable {D : va_G} {cA : Nat → ClassId} {cc : ByteArray} {nL : Nat} {own : String} {ret : Option FieldType} {pc : Nat} {ls : Array Slot} {rest : List Value} {A : Nat → Prop} {a b d : Nat → Nat} {S T U : St}
def w_X (cA : Nat → ClassId) (a : Nat → Nat) (S : St) : va_W := [(a 0, .inr (9, [.ref (a 1), .ref (a 3), .ref (a 5), .ref (a 8), .ref (a 14), .ref (a 17), .ref (a 19), .ref (a 21), .ref (a 27)])), (a 1, .inr (6, [.ref (a 2), .int (S 0 0)])), (a 2, .inl (cA 1, 200, .inl (S 1))), (a 3, .inr (0, [.int (S 2 0), .ref (a 4)])), (a 4, .inl (cA 0, 10, .inl (S 3))), (a 5, .inr (3, [.ref (a 6), .ref (a 7), .int (S 4 0)])), (a 6, .inl (cA 0, 8, .inl (S 5))), (a 7, .inl (cA 0, 8, .inl (S 6))), (a 8, .inr (1, [.ref (a 9), .int (S 7 0)])), (a 9, .inl (cA 3, 2, .inr (.inr (.inr (.inr (qf2 (a 10) (a 12))))))), (a 10, .inr (0, [.int (S 8 0), .ref (a 11)])), (a 11, .inl (cA 0, 10, .inl (S 9))), (a 12, .inr (0, [.int (S 10 0), .ref (a 13)])), (a 13, .inl (cA 0, 10, .inl (S 11))), (a 14, .inr (2, [.ref (a 15), .ref (a 16), .int (S 12 0)])), (a 15, .inl (cA 0, 8, .inl (S 13))), (a 16, .inl (cA 0, 8, .inl (S 14))), (a 17, .inr (4, [.ref (a 18), .int (S 15 0), .int (S 16 0), .int (S 17 0), .int (S 18 0), .int (S 19 0), .int (S 20 0)])), (a 18, .inl (cA 2, 1000, .inl (S 21))), (a 19, .inr (7, [.ref (a 20)])), (a 20, .inl (cA 0, 201, .inl (S 22))), (a 21, .inr (8, [.ref (a 22), .ref (a 24), .int (S 23 0), .int (S 24 0), .int (S 25 0), .ref (a 25), .int (S 26 0)])), (a 22, .inr (0, [.int (S 28 0), .ref (a 23)])), (a 23, .inl (cA 0, 10, .inl (S 29))), (a 24, .inl (cA 0, 6, .inl (S 27))), (a 25, .inr (5, [.ref (a 26), .int (S 30 0)])), (a 26, .inl (cA 1, 20, .inl (S 31))), (a 27, .inr (8, [.ref (a 28), .ref (a 30), .int (S 32 0), .int (S 33 0), .int (S 34 0), .ref (a 31), .int (S 35 0)])), (a 28, .inr (0, [.int (S 37 0), .ref (a 29)])), (a 29, .inl (cA 0, 10, .inl (S 38))), (a 30, .inl (cA 0, 6, .inl (S 36))), (a 31, .inr (5, [.ref (a 32), .int (S 39 0)])), (a 32, .inl (cA 1, 20, .inl (S 40)))]
theorem fl_RX10_10 : Cond.fieldLink RX10 10 "SevenOnStrike" "text" "LSevenOnStrike$Text;" ∈ wsL_law := by decide +kernel
theorem ge_RX10_10_X_0_0 (C : Cx p s m args meth c D cA cc nL RX10 ret) (hP : va_P D vwCl (w_X cA a S) H) (hdg : decode cc pc = .ok (.getfield 10, 3)) (kk : W p l e R s m args below meth c H locs cells slots Q (F0 m (pc + 3) ls (.ref (a 1) :: rest))) : W p l e R s m args below meth c H locs cells slots Q (F0 m pc ls (.ref (a 0) :: rest)) := by
  obtain ⟨hx, hb, -, hown, hts, hK, -, -, -⟩ := C
  exact va_get (D := D) (ci := 9) (v := .ref (a 1)) (C := RX10) (T := TX10) (N := 9) hx hb hts inlX10 hown hK hP 0 rfl rfl 0 (by decide) (hts _ fl_RX10_10) (fun _ h9 => h9) rfl hdg kk
theorem lk_RX10_81 : LkV RX10 81 yX7_append cX7_append 2 (some .boolean) 1 := ⟨⟨by decide +kernel, by decide +kernel, by decide +kernel, by decide +kernel, by decide +kernel, by decide +kernel⟩, by decide +kernel, by decide +kernel⟩
theorem fl_RX10_85 : Cond.fieldLink RX10 85 "SevenOnStrike$Text" "length" "I" ∈ wsL_law := by decide +kernel
theorem ge_RX10_85_X_0_1 (C : Cx p s m args meth c D cA cc nL RX10 ret) (hP : va_P D vwCl (w_X cA a S) H) (hdg : decode cc pc = .ok (.getfield 85, 3)) (kk : W p l e R s m args below meth c H locs cells slots Q (F0 m (pc + 3) ls (.int (S 0 0) :: rest))) : W p l e R s m args below meth c H locs cells slots Q (F0 m pc ls (.ref (a 1) :: rest)) := by
  obtain ⟨hx, hb, -, hown, hts, hK, -, -, -⟩ := C
  exact va_get (D := D) (ci := 6) (v := .int (S 0 0)) (C := RX7) (T := TX7) (N := 2) hx hb hts inlX7 hown hK hP 1 rfl rfl 1 (by decide) (hts _ fl_RX10_85) (fun _ h9 => h9) rfl hdg kk
def fX10_write (N : Nat) (S : St) (p1 : Int32) : Option (Int32 × St) :=
  if p1 < (32 : Int32) then (some ((-1 : Int32), S)) else (if p1 ≤ (126 : Int32) then (Option.bind (fX7_append N (sh S 0) p1) (fun q3 => if q3.1 = 0 then (some ((-3 : Int32), (pt S 0 2 q3.2))) else (some (((pt S 0 2 q3.2) 0 0), (pt S 0 2 q3.2))))) else (some ((-1 : Int32), S)))
set_option maxRecDepth 100000 in
set_option maxHeartbeats 4000000 in
theorem wX10_write (C : Cx p s m args meth c D cA cX10_write 2 RX10 (some .int)) (hA : ∀ q : Nat, s.heap.size ≤ q → A q) {N : Nat} {z : Int32 × St} {S : St} {p1 : Int32} (hf : fX10_write N S p1 = some z) {H : Heap} {locs : List Loc} {ls : Array Slot} (hP : va_P D vwCl (w_X cA a S) H) (hD : va_D A (w_X cA a S)) (hS : va_S A s.heap H locs) (hl : lv_has ls 2 [(0, .ref (a 0)), (1, .int p1)]) : W p l e (rmU 1 21 0 0) s m args below meth c H locs 0 0 (MQ below (QI D A z.1 (w_X cA a z.2)) args s 0 0 A) (F0 m 0 ls []) := by
  obtain ⟨hx, hb, hml, hown, hts, hK, hN, hr, hlk⟩ := id C
  unfold fX10_write at hf
  refine lv_iload_n (pc := 0) hx hb dX10_write_0 rfl (lv_at hl 1 rfl) ?_
  refine lv_bipush (v := (32 : Int32)) (pc := 1) hx hb dX10_write_1 (by decide) ?_
  refine lv_icmp_lt (tgt := 12) (pc := 3) hx hb dX10_write_3 (by decide) (fun c1 => ?_) (fun c1 => ?_)
  · have hf := pt_t c1 hf
    refine lv_iconst (v := (-1 : Int32)) (pc := 12) hx hb dX10_write_12 (by decide) ?_
    cases hf
    exact ret_i C hP hD hS dX10_write_13
  · have hf := pt_f c1 hf
    refine lv_iload_n (pc := 6) hx hb dX10_write_6 rfl (lv_at hl 1 rfl) ?_
    refine lv_bipush (v := (126 : Int32)) (pc := 7) hx hb dX10_write_7 (by decide) ?_
    refine lv_icmp_le (tgt := 14) (pc := 9) hx hb dX10_write_9 (by decide) (fun c2 => ?_) (fun c2 => ?_)
    · have hf := pt_t c2 hf
      refine lv_aload_n (pc := 14) hx hb dX10_write_14 rfl (lv_at hl 0 rfl) ?_
      refine ge_RX10_10_X_0_0 (pc := 15) C hP dX10_write_15 ?_
      refine lv_iload_n (pc := 18) hx hb dX10_write_18 rfl (lv_at hl 1 rfl) ?_
      obtain ⟨q3, hq3, hf⟩ := pt_b hf
      have hPc : va_P D vwCl (w_T cA (sh a 1) (sh S 0)) H := hP.sub [1, 2] rfl
      have hDc : va_D A (w_T cA (sh a 1) (sh S 0)) := hD.sub [1, 2] (by decide) rfl
      refine upd_i (W1 := (w_T cA (sh a 1) q3.2)) (runU_V (pc := 19) (As := [.int p1]) (b := a 1) (rest := []) (ci := 6) (q0 := 0) C lk_RX10_81 (kX7_append l D cA (sh a 1) hq3 H.size) ⟨Nat.le_of_ble_eq_true rfl, Nat.le_of_ble_eq_true rfl⟩ ⟨Nat.le_refl _, Nat.le_refl _⟩ hPc hDc rfl rfl rfl hl.1 rfl (Nat.le_of_ble_eq_true rfl) dX10_write_19) hP hD hS hA [1, 2] rfl (by decide) rfl (fun H locs hP hD hS => ?_)
      have hP : va_P D vwCl (w_X cA a (pt S 0 2 q3.2)) H := hP
      have hD : va_D A (w_X cA a (pt S 0 2 q3.2)) := hD
      refine lv_if_eq (tgt := 35) (pc := 22) hx hb dX10_write_22 (by decide) (fun c4 => ?_) (fun c4 => ?_)
      · have hf := pt_t c4 hf
        refine lv_bipush (v := (-3 : Int32)) (pc := 35) hx hb dX10_write_35 (by decide) ?_
        cases hf
        exact ret_i C hP hD hS dX10_write_37
      · have hf := pt_f c4 hf
        refine lv_aload_n (pc := 25) hx hb dX10_write_25 rfl (lv_at hl 0 rfl) ?_
        refine ge_RX10_10_X_0_0 (pc := 26) C hP dX10_write_26 ?_
        refine ge_RX10_85_X_0_1 (pc := 29) C hP dX10_write_29 ?_
        refine lv_goto (tgt := 37) (pc := 32) hx hb dX10_write_32 (by decide) ?_
        cases hf
        exact ret_i C hP hD hS dX10_write_37
    · have hf := pt_f c2 hf
      refine lv_iconst (v := (-1 : Int32)) (pc := 12) hx hb dX10_write_12 (by decide) ?_
      cases hf
      exact ret_i C hP hD hS dX10_write_13
set_option maxRecDepth 100000 in
set_option maxHeartbeats 4000000 in
theorem kX10_write (l : Launch) (D : va_G) (cA : Nat → ClassId) (a : Nat → Nat) {N : Nat} {S : St} {p1 : Int32} {z : Int32 × St} (hf : fX10_write N S p1 = some z) : CtI l yX10_write cX10_write 2 (some .int) 1 21 D cA (w_X cA a S) (w_X cA a z.2) [.ref (a 0), .int p1] z.1 := by
  intro sz
  refine Met.ofW (cc := cX10_write) (maxL := 2) (ret := (some .int)) (by decide) rfl ?_
  intro p e s m args below meth c s₁ B hml hv
  obtain ⟨rfl, hsz, hP, hK, hD0⟩ := hv
  subst hsz
  have C : Cx p s m _ meth c D cA cX10_write 2 RX10 (some .int) := Cx.of B hml hK
  have hD := hD0.self (sz := s.heap.size)
  have hA : ∀ q : Nat, s.heap.size ≤ q → va_A (w_X cA a S) s.heap.size q := fun q h => Or.inr h
  have hS : va_S (va_A (w_X cA a S) s.heap.size) s.heap s.heap [] := va_S.rf
  have hl := lv_entry ([.ref (a 0), .int p1]) (n := 2) (Nat.le_of_ble_eq_true rfl)
  rw [lg_entry_eq]
  generalize (lg_sl ([.ref (a 0), .int p1]) ++ List.replicate (2 - (lg_sl ([.ref (a 0), .int p1])).length) Slot.unset).toArray = ls at hl ⊢
  exact wX10_write C hA hf hP hD hS hl
theorem lk_RX10_78 : LkV RX10 78 yX7_clear cX7_clear 1 none 0 := ⟨⟨by decide +kernel, by decide +kernel, by decide +kernel, by decide +kernel, by decide +kernel, by decide +kernel⟩, by decide +kernel, by decide +kernel⟩
def fX10_wipe (N : Nat) (S : St) : Option (Int32 × St) :=
  Option.bind (fX7_clear N (sh S 0)) (fun q1 => some ((S 0 0), (pt S 0 2 q1)))
set_option maxRecDepth 100000 in
set_option maxHeartbeats 4000000 in
theorem wX10_wipe (C : Cx p s m args meth c D cA cX10_wipe 2 RX10 (some .int)) (hA : ∀ q : Nat, s.heap.size ≤ q → A q) {N : Nat} {z : Int32 × St} {S : St} (hf : fX10_wipe N S = some z) {H : Heap} {locs : List Loc} {ls : Array Slot} (hP : va_P D vwCl (w_X cA a S) H) (hD : va_D A (w_X cA a S)) (hS : va_S A s.heap H locs) (hl : lv_has ls 2 [(0, .ref (a 0))]) : W p l e (rmU 1 20 0 0) s m args below meth c H locs 0 0 (MQ below (QI D A z.1 (w_X cA a z.2)) args s 0 0 A) (F0 m 0 ls []) := by
  obtain ⟨hx, hb, hml, hown, hts, hK, hN, hr, hlk⟩ := id C
  unfold fX10_wipe at hf
  refine lv_aload_n (pc := 0) hx hb dX10_wipe_0 rfl (lv_at hl 0 rfl) ?_
  refine ge_RX10_10_X_0_0 (pc := 1) C hP dX10_wipe_1 ?_
  refine ge_RX10_85_X_0_1 (pc := 4) C hP dX10_wipe_4 ?_
  refine lv_istore_n (lv' := [(1, .int ((S 0 0))), (0, .ref (a 0))]) (pc := 7) hx hb dX10_wipe_7 rfl hl (by decide) rfl (fun ls hl => ?_)
  refine lv_aload_n (pc := 8) hx hb dX10_wipe_8 rfl (lv_at hl 1 rfl) ?_
  refine ge_RX10_10_X_0_0 (pc := 9) C hP dX10_wipe_9 ?_
  obtain ⟨q1, hq1, hf⟩ := pt_b hf
  have hPc : va_P D vwCl (w_T cA (sh a 1) (sh S 0)) H := hP.sub [1, 2] rfl
  have hDc : va_D A (w_T cA (sh a 1) (sh S 0)) := hD.sub [1, 2] (by decide) rfl
  refine upd_v (W1 := (w_T cA (sh a 1) q1)) (runU_V (pc := 12) (As := []) (b := a 1) (rest := []) (ci := 6) (q0 := 0) C lk_RX10_78 (kX7_clear l D cA (sh a 1) hq1 H.size) ⟨Nat.le_of_ble_eq_true rfl, Nat.le_of_ble_eq_true rfl⟩ ⟨Nat.le_refl _, Nat.le_refl _⟩ hPc hDc rfl rfl rfl hl.1 rfl (Nat.le_of_ble_eq_true rfl) dX10_wipe_12) hP hD hS hA [1, 2] rfl (by decide) rfl (fun H locs hP hD hS => ?_)
  have hP : va_P D vwCl (w_X cA a (pt S 0 2 q1)) H := hP
  have hD : va_D A (w_X cA a (pt S 0 2 q1)) := hD
  refine lv_iload_n (pc := 15) hx hb dX10_wipe_15 rfl (lv_at hl 0 rfl) ?_
  cases hf
  exact ret_i C hP hD hS dX10_wipe_16
set_option maxRecDepth 100000 in
set_option maxHeartbeats 4000000 in
theorem kX10_wipe (l : Launch) (D : va_G) (cA : Nat → ClassId) (a : Nat → Nat) {N : Nat} {S : St} {z : Int32 × St} (hf : fX10_wipe N S = some z) : CtI l yX10_wipe cX10_wipe 2 (some .int) 1 20 D cA (w_X cA a S) (w_X cA a z.2) [.ref (a 0)] z.1 := by
  intro sz
  refine Met.ofW (cc := cX10_wipe) (maxL := 2) (ret := (some .int)) (by decide) rfl ?_
  intro p e s m args below meth c s₁ B hml hv
  obtain ⟨rfl, hsz, hP, hK, hD0⟩ := hv
  subst hsz
  have C : Cx p s m _ meth c D cA cX10_wipe 2 RX10 (some .int) := Cx.of B hml hK
  have hD := hD0.self (sz := s.heap.size)
  have hA : ∀ q : Nat, s.heap.size ≤ q → va_A (w_X cA a S) s.heap.size q := fun q h => Or.inr h
  have hS : va_S (va_A (w_X cA a S) s.heap.size) s.heap s.heap [] := va_S.rf
  have hl := lv_entry ([.ref (a 0)]) (n := 2) (Nat.le_of_ble_eq_true rfl)
  rw [lg_entry_eq]
  generalize (lg_sl ([.ref (a 0)]) ++ List.replicate (2 - (lg_sl ([.ref (a 0)])).length) Slot.unset).toArray = ls at hl ⊢
  exact wX10_wipe C hA hf hP hD hS hl
theorem fl_RX10_65 : Cond.fieldLink RX10 65 "SevenOnStrike" "draft" "LSevenOnStrike$Told;" ∈ wsL_law := by decide +kernel
theorem ge_RX10_65_X_0_0 (C : Cx p s m args meth c D cA cc nL RX10 ret) (hP : va_P D vwCl (w_X cA a S) H) (hdg : decode cc pc = .ok (.getfield 65, 3)) (kk : W p l e R s m args below meth c H locs cells slots Q (F0 m (pc + 3) ls (.ref (a 27) :: rest))) : W p l e R s m args below meth c H locs cells slots Q (F0 m pc ls (.ref (a 0) :: rest)) := by
  obtain ⟨hx, hb, -, hown, hts, hK, -, -, -⟩ := C
  exact va_get (D := D) (ci := 9) (v := .ref (a 27)) (C := RX10) (T := TX10) (N := 9) hx hb hts inlX10 hown hK hP 0 rfl rfl 8 (by decide) (hts _ fl_RX10_65) (fun _ h9 => h9) rfl hdg kk
theorem lk_RX10_89 : LkV RX10 89 yX9_readFrom cX9_readFrom 4 (some .int) 1 := ⟨⟨by decide +kernel, by decide +kernel, by decide +kernel, by decide +kernel, by decide +kernel, by decide +kernel⟩, by decide +kernel, by decide +kernel⟩
def fX10_fault (N : Nat) (S : St) : Option (Int32 × St) :=
  Option.bind (fX9_readFrom N (sh S 32) (sh S 0)) (fun q1 => some (q1.1, (pt S 32 9 q1.2)))
set_option maxRecDepth 100000 in
set_option maxHeartbeats 4000000 in
theorem wX10_fault (C : Cx p s m args meth c D cA cX10_fault 1 RX10 (some .int)) (hA : ∀ q : Nat, s.heap.size ≤ q → A q) {N : Nat} {z : Int32 × St} {S : St} (hf : fX10_fault N S = some z) {H : Heap} {locs : List Loc} {ls : Array Slot} (hP : va_P D vwCl (w_X cA a S) H) (hD : va_D A (w_X cA a S)) (hS : va_S A s.heap H locs) (hl : lv_has ls 1 [(0, .ref (a 0))]) : W p l e (rmU 5 112 0 0) s m args below meth c H locs 0 0 (MQ below (QI D A z.1 (w_X cA a z.2)) args s 0 0 A) (F0 m 0 ls []) := by
  obtain ⟨hx, hb, hml, hown, hts, hK, hN, hr, hlk⟩ := id C
  unfold fX10_fault at hf
  refine lv_aload_n (pc := 0) hx hb dX10_fault_0 rfl (lv_at hl 0 rfl) ?_
  refine ge_RX10_65_X_0_0 (pc := 1) C hP dX10_fault_1 ?_
  refine lv_aload_n (pc := 4) hx hb dX10_fault_4 rfl (lv_at hl 0 rfl) ?_
  refine ge_RX10_10_X_0_0 (pc := 5) C hP dX10_fault_5 ?_
  obtain ⟨q1, hq1, hf⟩ := pt_b hf
  have hPc : va_P D vwCl (w_D_T cA (sh a 27) (sh S 32) (sh a 1) (sh S 0)) H := hP.sub [27, 28, 29, 30, 31, 32, 1, 2] rfl
  have hDc : va_D A (w_D_T cA (sh a 27) (sh S 32) (sh a 1) (sh S 0)) := hD.sub [27, 28, 29, 30, 31, 32, 1, 2] (by decide) rfl
  refine upd_i (W1 := (w_D_T cA (sh a 27) q1.2 (sh a 1) (sh S 0))) (runU_V (pc := 8) (As := [.ref (a 1)]) (b := a 27) (rest := []) (ci := 8) (q0 := 0) C lk_RX10_89 (kX9_readFrom l D cA (sh a 27) (sh a 1) hq1 H.size) ⟨Nat.le_of_ble_eq_true rfl, Nat.le_of_ble_eq_true rfl⟩ ⟨Nat.le_refl _, Nat.le_refl _⟩ hPc hDc rfl rfl rfl hl.1 rfl (Nat.le_of_ble_eq_true rfl) dX10_fault_8) hP hD hS hA [27, 28, 29, 30, 31, 32, 1, 2] rfl (by decide) rfl (fun H locs hP hD hS => ?_)
  have hP : va_P D vwCl (w_X cA a (pt S 32 9 q1.2)) H := hP
  have hD : va_D A (w_X cA a (pt S 32 9 q1.2)) := hD
  cases hf
  exact ret_i C hP hD hS dX10_fault_11
set_option maxRecDepth 100000 in
set_option maxHeartbeats 4000000 in
theorem kX10_fault (l : Launch) (D : va_G) (cA : Nat → ClassId) (a : Nat → Nat) {N : Nat} {S : St} {z : Int32 × St} (hf : fX10_fault N S = some z) : CtI l yX10_fault cX10_fault 1 (some .int) 5 112 D cA (w_X cA a S) (w_X cA a z.2) [.ref (a 0)] z.1 := by
  intro sz
  refine Met.ofW (cc := cX10_fault) (maxL := 1) (ret := (some .int)) (by decide) rfl ?_
  intro p e s m args below meth c s₁ B hml hv
  obtain ⟨rfl, hsz, hP, hK, hD0⟩ := hv
  subst hsz
  have C : Cx p s m _ meth c D cA cX10_fault 1 RX10 (some .int) := Cx.of B hml hK
  have hD := hD0.self (sz := s.heap.size)
  have hA : ∀ q : Nat, s.heap.size ≤ q → va_A (w_X cA a S) s.heap.size q := fun q h => Or.inr h
  have hS : va_S (va_A (w_X cA a S) s.heap.size) s.heap s.heap [] := va_S.rf
  have hl := lv_entry ([.ref (a 0)]) (n := 1) (Nat.le_of_ble_eq_true rfl)
  rw [lg_entry_eq]
  generalize (lg_sl ([.ref (a 0)]) ++ List.replicate (1 - (lg_sl ([.ref (a 0)])).length) Slot.unset).toArray = ls at hl ⊢
  exact wX10_fault C hA hf hP hD hS hl
theorem lk_RX10_97 : LkS RX10 97 yX10_isFigure cX10_isFigure 1 (some .boolean) 1 := ⟨⟨by decide +kernel, by decide +kernel, by decide +kernel, by decide +kernel, by decide +kernel, by decide +kernel⟩, by decide +kernel⟩
theorem fl_RX10_19 : Cond.fieldLink RX10 19 "SevenOnStrike" "figures" "LSevenOnStrike$Figures;" ∈ wsL_law := by decide +kernel
theorem ge_RX10_19_X_0_0 (C : Cx p s m args meth c D cA cc nL RX10 ret) (hP : va_P D vwCl (w_X cA a S) H) (hdg : decode cc pc = .ok (.getfield 19, 3)) (kk : W p l e R s m args below meth c H locs cells slots Q (F0 m (pc + 3) ls (.ref (a 3) :: rest))) : W p l e R s m args below meth c H locs cells slots Q (F0 m pc ls (.ref (a 0) :: rest)) := by
  obtain ⟨hx, hb, -, hown, hts, hK, -, -, -⟩ := C
  exact va_get (D := D) (ci := 9) (v := .ref (a 3)) (C := RX10) (T := TX10) (N := 9) hx hb hts inlX10 hown hK hP 0 rfl rfl 1 (by decide) (hts _ fl_RX10_19) (fun _ h9 => h9) rfl hdg kk
theorem fl_RX10_107 : Cond.fieldLink RX10 107 "SevenOnStrike$Figures" "standIns" "[I" ∈ wsL_law := by decide +kernel
theorem ge_RX10_107_X_0_3 (C : Cx p s m args meth c D cA cc nL RX10 ret) (hP : va_P D vwCl (w_X cA a S) H) (hdg : decode cc pc = .ok (.getfield 107, 3)) (kk : W p l e R s m args below meth c H locs cells slots Q (F0 m (pc + 3) ls (.ref (a 4) :: rest))) : W p l e R s m args below meth c H locs cells slots Q (F0 m pc ls (.ref (a 3) :: rest)) := by
  obtain ⟨hx, hb, -, hown, hts, hK, -, -, -⟩ := C
  exact va_get (D := D) (ci := 0) (v := .ref (a 4)) (C := RX0) (T := TX0) (N := 2) hx hb hts inlX0 hown hK hP 3 rfl rfl 1 (by decide) (hts _ fl_RX10_107) (fun _ h9 => h9) rfl hdg kk
theorem ld_X_0_4 {i : Int32} {j : Nat} (C : Cx p s m args meth c D cA cc nL own ret) (hP : va_P D vwCl (w_X cA a S) H) (hin : vp_in i 10) (hj : i.toNatClampNeg = j) (hdg : decode cc pc = .ok (.iaload, 1)) (kk : W p l e R s m args below meth c H locs cells slots Q (F0 m (pc + 1) ls (.int (S 3 j) :: rest))) : W p l e R s m args below meth c H locs cells slots Q (F0 m pc ls (.int i :: .ref (a 4) :: rest)) := by
  obtain ⟨hx, hb, -, hown, hts, hK, -, -, -⟩ := C
  subst hj
  exact va_iald hx hb hK hP 4 0 rfl rfl hin hdg kk
theorem lk_RX10_104 : LkV RX10 104 yX0_isOnStrike cX0_isOnStrike 2 (some .boolean) 1 := ⟨⟨by decide +kernel, by decide +kernel, by decide +kernel, by decide +kernel, by decide +kernel, by decide +kernel⟩, by decide +kernel, by decide +kernel⟩
def fX10_figure (N : Nat) (S : St) (p1 : Int32) (p2 : Int32) : Option (Int32) :=
  Option.bind (fX10_isFigure N p1) (fun q1 => if q1 = 0 then (some ((-1 : Int32))) else (Option.bind (fX10_isWithin N p2 ((0 : Int32)) ((1 : Int32))) (fun q3 => if q3 = 0 then (some ((-1 : Int32))) else (if p2 = 0 then (Option.bind (fX0_isOnStrike N (sh S 2) p1) (fun q7 => if q7 = 0 then (some ((0 : Int32))) else (some ((1 : Int32))))) else (if ¬ (p1 < 0 ∨ 10 ≤ p1.toNatClampNeg) then (some ((S 3 p1.toNatClampNeg))) else none)))))
set_option maxRecDepth 100000 in
set_option maxHeartbeats 4000000 in
theorem wX10_figure (C : Cx p s m args meth c D cA cX10_figure 3 RX10 (some .int)) (hA : ∀ q : Nat, s.heap.size ≤ q → A q) {N : Nat} {z : Int32} {S : St} {p1 : Int32} {p2 : Int32} (hf : fX10_figure N S p1 p2 = some z) {H : Heap} {locs : List Loc} {ls : Array Slot} (hP : va_P D vwCl (w_X cA a S) H) (hD : va_D A (w_X cA a S)) (hS : va_S A s.heap H locs) (hl : lv_has ls 3 [(0, .ref (a 0)), (1, .int p1), (2, .int p2)]) : W p l e (rmU 2 42 0 0) s m args below meth c H locs 0 0 (MQ below (QI D A z (w_X cA a S)) args s 0 0 A) (F0 m 0 ls []) := by
  obtain ⟨hx, hb, hml, hown, hts, hK, hN, hr, hlk⟩ := id C
  unfold fX10_figure at hf
  refine lv_iload_n (pc := 0) hx hb dX10_figure_0 rfl (lv_at hl 1 rfl) ?_
  obtain ⟨q1, hq1, hf⟩ := pt_b hf
  have hPc : va_P D vwCl ([] : va_W) H := hP.sub [] rfl
  have hDc : va_D A ([] : va_W) := hD.sub [] (by decide) rfl
  refine prt_i (runU_S (pc := 1) (As := [.int p1]) (rest := []) C lk_RX10_97 (kX10_isFigure l D cA hq1 H.size) ⟨Nat.le_of_ble_eq_true rfl, Nat.le_of_ble_eq_true rfl⟩ ⟨Nat.le_refl _, Nat.le_refl _⟩ hPc hDc hl.1 rfl (Nat.le_of_ble_eq_true rfl) dX10_figure_1) hP hD hS hA [] rfl (fun H locs hP hD hS => ?_)
  refine lv_if_eq (tgt := 16) (pc := 4) hx hb dX10_figure_4 (by decide) (fun c2 => ?_) (fun c2 => ?_)
  · have hf := pt_t c2 hf
    refine lv_iconst (v := (-1 : Int32)) (pc := 16) hx hb dX10_figure_16 (by decide) ?_
    cases hf
    exact ret_i C hP hD hS dX10_figure_17
  · have hf := pt_f c2 hf
    refine lv_iload_n (pc := 7) hx hb dX10_figure_7 rfl (lv_at hl 2 rfl) ?_
    refine lv_iconst (v := (0 : Int32)) (pc := 8) hx hb dX10_figure_8 (by decide) ?_
    refine lv_iconst (v := (1 : Int32)) (pc := 9) hx hb dX10_figure_9 (by decide) ?_
    obtain ⟨q3, hq3, hf⟩ := pt_b hf
    have hPc : va_P D vwCl ([] : va_W) H := hP.sub [] rfl
    have hDc : va_D A ([] : va_W) := hD.sub [] (by decide) rfl
    refine prt_i (runU_S (pc := 10) (As := [.int p2, .int ((0 : Int32)), .int ((1 : Int32))]) (rest := []) C lk_RX10_100 (kX10_isWithin l D cA hq3 H.size) ⟨Nat.le_of_ble_eq_true rfl, Nat.le_of_ble_eq_true rfl⟩ ⟨Nat.le_refl _, Nat.le_refl _⟩ hPc hDc hl.1 rfl (Nat.le_of_ble_eq_true rfl) dX10_figure_10) hP hD hS hA [] rfl (fun H locs hP hD hS => ?_)
    refine lv_if_ne (tgt := 18) (pc := 13) hx hb dX10_figure_13 (by decide) (fun c4 => ?_) (fun c4 => ?_)
    · have hf := pt_f c4 hf
      refine lv_iload_n (pc := 18) hx hb dX10_figure_18 rfl (lv_at hl 2 rfl) ?_
      refine lv_if_ne (tgt := 39) (pc := 19) hx hb dX10_figure_19 (by decide) (fun c5 => ?_) (fun c5 => ?_)
      · have hf := pt_f c5 hf
        refine lv_aload_n (pc := 39) hx hb dX10_figure_39 rfl (lv_at hl 0 rfl) ?_
        refine ge_RX10_19_X_0_0 (pc := 40) C hP dX10_figure_40 ?_
        refine ge_RX10_107_X_0_3 (pc := 43) C hP dX10_figure_43 ?_
        refine lv_iload_n (pc := 46) hx hb dX10_figure_46 rfl (lv_at hl 1 rfl) ?_
        obtain ⟨h6, hf⟩ := pt_g hf
        refine ld_X_0_4 (pc := 47) (j := p1.toNatClampNeg) C hP h6 rfl dX10_figure_47 ?_
        cases hf
        exact ret_i C hP hD hS dX10_figure_48
      · have hf := pt_t c5 hf
        refine lv_aload_n (pc := 22) hx hb dX10_figure_22 rfl (lv_at hl 0 rfl) ?_
        refine ge_RX10_19_X_0_0 (pc := 23) C hP dX10_figure_23 ?_
        refine lv_iload_n (pc := 26) hx hb dX10_figure_26 rfl (lv_at hl 1 rfl) ?_
        obtain ⟨q7, hq7, hf⟩ := pt_b hf
        have hPc : va_P D vwCl (w_F cA (sh a 3) (sh S 2)) H := hP.sub [3, 4] rfl
        have hDc : va_D A (w_F cA (sh a 3) (sh S 2)) := hD.sub [3, 4] (by decide) rfl
        refine prt_i (runU_V (pc := 27) (As := [.int p1]) (b := a 3) (rest := []) (ci := 0) (q0 := 0) C lk_RX10_104 (kX0_isOnStrike l D cA (sh a 3) hq7 H.size) ⟨Nat.le_of_ble_eq_true rfl, Nat.le_of_ble_eq_true rfl⟩ ⟨Nat.le_refl _, Nat.le_refl _⟩ hPc hDc rfl rfl rfl hl.1 rfl (Nat.le_of_ble_eq_true rfl) dX10_figure_27) hP hD hS hA [3, 4] rfl (fun H locs hP hD hS => ?_)
        refine lv_if_eq (tgt := 37) (pc := 30) hx hb dX10_figure_30 (by decide) (fun c8 => ?_) (fun c8 => ?_)
        · have hf := pt_t c8 hf
          refine lv_iconst (v := (0 : Int32)) (pc := 37) hx hb dX10_figure_37 (by decide) ?_
          cases hf
          exact ret_i C hP hD hS dX10_figure_38
        · have hf := pt_f c8 hf
          refine lv_iconst (v := (1 : Int32)) (pc := 33) hx hb dX10_figure_33 (by decide) ?_
          refine lv_goto (tgt := 38) (pc := 34) hx hb dX10_figure_34 (by decide) ?_
          cases hf
          exact ret_i C hP hD hS dX10_figure_38
    · have hf := pt_t c4 hf
      refine lv_iconst (v := (-1 : Int32)) (pc := 16) hx hb dX10_figure_16 (by decide) ?_
      cases hf
      exact ret_i C hP hD hS dX10_figure_17
set_option maxRecDepth 100000 in
set_option maxHeartbeats 4000000 in
theorem kX10_figure (l : Launch) (D : va_G) (cA : Nat → ClassId) (a : Nat → Nat) {N : Nat} {S : St} {p1 : Int32} {p2 : Int32} {z : Int32} (hf : fX10_figure N S p1 p2 = some z) : CtI l yX10_figure cX10_figure 3 (some .int) 2 42 D cA (w_X cA a S) (w_X cA a S) [.ref (a 0), .int p1, .int p2] z := by
  intro sz
  refine Met.ofW (cc := cX10_figure) (maxL := 3) (ret := (some .int)) (by decide) rfl ?_
  intro p e s m args below meth c s₁ B hml hv
  obtain ⟨rfl, hsz, hP, hK, hD0⟩ := hv
  subst hsz
  have C : Cx p s m _ meth c D cA cX10_figure 3 RX10 (some .int) := Cx.of B hml hK
  have hD := hD0.self (sz := s.heap.size)
  have hA : ∀ q : Nat, s.heap.size ≤ q → va_A (w_X cA a S) s.heap.size q := fun q h => Or.inr h
  have hS : va_S (va_A (w_X cA a S) s.heap.size) s.heap s.heap [] := va_S.rf
  have hl := lv_entry ([.ref (a 0), .int p1, .int p2]) (n := 3) (Nat.le_of_ble_eq_true rfl)
  rw [lg_entry_eq]
  generalize (lg_sl ([.ref (a 0), .int p1, .int p2]) ++ List.replicate (3 - (lg_sl ([.ref (a 0), .int p1, .int p2])).length) Slot.unset).toArray = ls at hl ⊢
  exact wX10_figure C hA hf hP hD hS hl
theorem fl_RX10_61 : Cond.fieldLink RX10 61 "SevenOnStrike" "laid" "LSevenOnStrike$Told;" ∈ wsL_law := by decide +kernel
theorem ge_RX10_61_X_0_0 (C : Cx p s m args meth c D cA cc nL RX10 ret) (hP : va_P D vwCl (w_X cA a S) H) (hdg : decode cc pc = .ok (.getfield 61, 3)) (kk : W p l e R s m args below meth c H locs cells slots Q (F0 m (pc + 3) ls (.ref (a 21) :: rest))) : W p l e R s m args below meth c H locs cells slots Q (F0 m pc ls (.ref (a 0) :: rest)) := by
  obtain ⟨hx, hb, -, hown, hts, hK, -, -, -⟩ := C
  exact va_get (D := D) (ci := 9) (v := .ref (a 21)) (C := RX10) (T := TX10) (N := 9) hx hb hts inlX10 hown hK hP 0 rfl rfl 7 (by decide) (hts _ fl_RX10_61) (fun _ h9 => h9) rfl hdg kk
theorem fl_RX10_111 : Cond.fieldLink RX10 111 "SevenOnStrike$Told" "coinCount" "I" ∈ wsL_law := by decide +kernel
theorem ge_RX10_111_X_0_21 (C : Cx p s m args meth c D cA cc nL RX10 ret) (hP : va_P D vwCl (w_X cA a S) H) (hdg : decode cc pc = .ok (.getfield 111, 3)) (kk : W p l e R s m args below meth c H locs cells slots Q (F0 m (pc + 3) ls (.int (S 23 0) :: rest))) : W p l e R s m args below meth c H locs cells slots Q (F0 m pc ls (.ref (a 21) :: rest)) := by
  obtain ⟨hx, hb, -, hown, hts, hK, -, -, -⟩ := C
  exact va_get (D := D) (ci := 8) (v := .int (S 23 0)) (C := RX9) (T := TX9) (N := 7) hx hb hts inlX9 hown hK hP 21 rfl rfl 2 (by decide) (hts _ fl_RX10_111) (fun _ h9 => h9) rfl hdg kk
theorem fl_RX10_114 : Cond.fieldLink RX10 114 "SevenOnStrike$Told" "coins" "[I" ∈ wsL_law := by decide +kernel
theorem ge_RX10_114_X_0_21 (C : Cx p s m args meth c D cA cc nL RX10 ret) (hP : va_P D vwCl (w_X cA a S) H) (hdg : decode cc pc = .ok (.getfield 114, 3)) (kk : W p l e R s m args below meth c H locs cells slots Q (F0 m (pc + 3) ls (.ref (a 24) :: rest))) : W p l e R s m args below meth c H locs cells slots Q (F0 m pc ls (.ref (a 21) :: rest)) := by
  obtain ⟨hx, hb, -, hown, hts, hK, -, -, -⟩ := C
  exact va_get (D := D) (ci := 8) (v := .ref (a 24)) (C := RX9) (T := TX9) (N := 7) hx hb hts inlX9 hown hK hP 21 rfl rfl 1 (by decide) (hts _ fl_RX10_114) (fun _ h9 => h9) rfl hdg kk
theorem ld_X_0_24 {i : Int32} {j : Nat} (C : Cx p s m args meth c D cA cc nL own ret) (hP : va_P D vwCl (w_X cA a S) H) (hin : vp_in i 6) (hj : i.toNatClampNeg = j) (hdg : decode cc pc = .ok (.iaload, 1)) (kk : W p l e R s m args below meth c H locs cells slots Q (F0 m (pc + 1) ls (.int (S 27 j) :: rest))) : W p l e R s m args below meth c H locs cells slots Q (F0 m pc ls (.int i :: .ref (a 24) :: rest)) := by
  obtain ⟨hx, hb, -, hown, hts, hK, -, -, -⟩ := C
  subst hj
  exact va_iald hx hb hK hP 24 0 rfl rfl hin hdg kk
def fX10_coin (N : Nat) (S : St) (p1 : Int32) : Option (Int32) :=
  Option.bind (fX10_isWithin N p1 ((0 : Int32)) (((S 23 0) - (1 : Int32)))) (fun q1 => if q1 = 0 then (some ((-1 : Int32))) else (if ¬ (p1 < 0 ∨ 6 ≤ p1.toNatClampNeg) then (some ((S 27 p1.toNatClampNeg))) else none))
set_option maxRecDepth 100000 in
set_option maxHeartbeats 4000000 in
theorem wX10_coin (C : Cx p s m args meth c D cA cX10_coin 2 RX10 (some .int)) (hA : ∀ q : Nat, s.heap.size ≤ q → A q) {N : Nat} {z : Int32} {S : St} {p1 : Int32} (hf : fX10_coin N S p1 = some z) {H : Heap} {locs : List Loc} {ls : Array Slot} (hP : va_P D vwCl (w_X cA a S) H) (hD : va_D A (w_X cA a S)) (hS : va_S A s.heap H locs) (hl : lv_has ls 2 [(0, .ref (a 0)), (1, .int p1)]) : W p l e (rmU 1 22 0 0) s m args below meth c H locs 0 0 (MQ below (QI D A z (w_X cA a S)) args s 0 0 A) (F0 m 0 ls []) := by
  obtain ⟨hx, hb, hml, hown, hts, hK, hN, hr, hlk⟩ := id C
  unfold fX10_coin at hf
  refine lv_iload_n (pc := 0) hx hb dX10_coin_0 rfl (lv_at hl 1 rfl) ?_
  refine lv_iconst (v := (0 : Int32)) (pc := 1) hx hb dX10_coin_1 (by decide) ?_
  refine lv_aload_n (pc := 2) hx hb dX10_coin_2 rfl (lv_at hl 0 rfl) ?_
  refine ge_RX10_61_X_0_0 (pc := 3) C hP dX10_coin_3 ?_
  refine ge_RX10_111_X_0_21 (pc := 6) C hP dX10_coin_6 ?_
  refine lv_iconst (v := (1 : Int32)) (pc := 9) hx hb dX10_coin_9 (by decide) ?_
  refine lv_isub (pc := 10) hx hb dX10_coin_10 ?_
  obtain ⟨q1, hq1, hf⟩ := pt_b hf
  have hPc : va_P D vwCl ([] : va_W) H := hP.sub [] rfl
  have hDc : va_D A ([] : va_W) := hD.sub [] (by decide) rfl
  refine prt_i (runU_S (pc := 11) (As := [.int p1, .int ((0 : Int32)), .int (((S 23 0) - (1 : Int32)))]) (rest := []) C lk_RX10_100 (kX10_isWithin l D cA hq1 H.size) ⟨Nat.le_of_ble_eq_true rfl, Nat.le_of_ble_eq_true rfl⟩ ⟨Nat.le_refl _, Nat.le_refl _⟩ hPc hDc hl.1 rfl (Nat.le_of_ble_eq_true rfl) dX10_coin_11) hP hD hS hA [] rfl (fun H locs hP hD hS => ?_)
  refine lv_if_eq (tgt := 29) (pc := 14) hx hb dX10_coin_14 (by decide) (fun c2 => ?_) (fun c2 => ?_)
  · have hf := pt_t c2 hf
    refine lv_iconst (v := (-1 : Int32)) (pc := 29) hx hb dX10_coin_29 (by decide) ?_
    cases hf
    exact ret_i C hP hD hS dX10_coin_30
  · have hf := pt_f c2 hf
    refine lv_aload_n (pc := 17) hx hb dX10_coin_17 rfl (lv_at hl 0 rfl) ?_
    refine ge_RX10_61_X_0_0 (pc := 18) C hP dX10_coin_18 ?_
    refine ge_RX10_114_X_0_21 (pc := 21) C hP dX10_coin_21 ?_
    refine lv_iload_n (pc := 24) hx hb dX10_coin_24 rfl (lv_at hl 1 rfl) ?_
    obtain ⟨h3, hf⟩ := pt_g hf
    refine ld_X_0_24 (pc := 25) (j := p1.toNatClampNeg) C hP h3 rfl dX10_coin_25 ?_
    refine lv_goto (tgt := 30) (pc := 26) hx hb dX10_coin_26 (by decide) ?_
    cases hf
    exact ret_i C hP hD hS dX10_coin_30
set_option maxRecDepth 100000 in
set_option maxHeartbeats 4000000 in
theorem kX10_coin (l : Launch) (D : va_G) (cA : Nat → ClassId) (a : Nat → Nat) {N : Nat} {S : St} {p1 : Int32} {z : Int32} (hf : fX10_coin N S p1 = some z) : CtI l yX10_coin cX10_coin 2 (some .int) 1 22 D cA (w_X cA a S) (w_X cA a S) [.ref (a 0), .int p1] z := by
  intro sz
  refine Met.ofW (cc := cX10_coin) (maxL := 2) (ret := (some .int)) (by decide) rfl ?_
  intro p e s m args below meth c s₁ B hml hv
  obtain ⟨rfl, hsz, hP, hK, hD0⟩ := hv
  subst hsz
  have C : Cx p s m _ meth c D cA cX10_coin 2 RX10 (some .int) := Cx.of B hml hK
  have hD := hD0.self (sz := s.heap.size)
  have hA : ∀ q : Nat, s.heap.size ≤ q → va_A (w_X cA a S) s.heap.size q := fun q h => Or.inr h
  have hS : va_S (va_A (w_X cA a S) s.heap.size) s.heap s.heap [] := va_S.rf
  have hl := lv_entry ([.ref (a 0), .int p1]) (n := 2) (Nat.le_of_ble_eq_true rfl)
  rw [lg_entry_eq]
  generalize (lg_sl ([.ref (a 0), .int p1]) ++ List.replicate (2 - (lg_sl ([.ref (a 0), .int p1])).length) Slot.unset).toArray = ls at hl ⊢
  exact wX10_coin C hA hf hP hD hS hl
theorem fl_RX10_117 : Cond.fieldLink RX10 117 "SevenOnStrike$Figures" "mask" "I" ∈ wsL_law := by decide +kernel
theorem ge_RX10_117_X_0_3 (C : Cx p s m args meth c D cA cc nL RX10 ret) (hP : va_P D vwCl (w_X cA a S) H) (hdg : decode cc pc = .ok (.getfield 117, 3)) (kk : W p l e R s m args below meth c H locs cells slots Q (F0 m (pc + 3) ls (.int (S 2 0) :: rest))) : W p l e R s m args below meth c H locs cells slots Q (F0 m pc ls (.ref (a 3) :: rest)) := by
  obtain ⟨hx, hb, -, hown, hts, hK, -, -, -⟩ := C
  exact va_get (D := D) (ci := 0) (v := .int (S 2 0)) (C := RX0) (T := TX0) (N := 2) hx hb hts inlX0 hown hK hP 3 rfl rfl 0 (by decide) (hts _ fl_RX10_117) (fun _ h9 => h9) rfl hdg kk
theorem pu_RX10_117_X_0_3 {v : Int32} (C : Cx p s m args meth c D cA cc nL RX10 ret) (hP : va_P D vwCl (w_X cA a S) H) (hD : va_D A (w_X cA a S)) (hS : va_S A s.heap H locs) (hdg : decode cc pc = .ok (.putfield 117, 3)) (kk : ∀ (H1 : Heap) (locs1 : List Loc), va_P D vwCl (w_X cA a (stf S 2 v)) H1 → va_D A (w_X cA a (stf S 2 v)) → va_S A s.heap H1 locs1 → W p l e R s m args below meth c H1 locs1 cells slots Q (F0 m (pc + 3) ls rest)) : W p l e R s m args below meth c H locs cells slots Q (F0 m pc ls (.int v :: .ref (a 3) :: rest)) := by
  obtain ⟨hx, hb, -, hown, hts, hK, -, -, -⟩ := C
  exact va_put (D := D) (ci := 0) (v := .int v) (ty := .int) (C := RX0) (T := TX0) (N := 2) hx hb hts inlX0 tyX0 tyX0_ok nmX0 hown hK hP hD hS 3 rfl rfl 0 (by decide) (hts _ fl_RX10_117) (fun _ h9 => h9) rfl (by decide +kernel) rfl rfl (Nat.le_of_ble_eq_true rfl) hdg (fun H1 locs1 h1 h2 h3 => kk H1 locs1 h1 h2 h3)
theorem fl_RX10_26 : Cond.fieldLink RX10 26 "SevenOnStrike" "past" "LSevenOnStrike$Past;" ∈ wsL_law := by decide +kernel
theorem ge_RX10_26_X_0_0 (C : Cx p s m args meth c D cA cc nL RX10 ret) (hP : va_P D vwCl (w_X cA a S) H) (hdg : decode cc pc = .ok (.getfield 26, 3)) (kk : W p l e R s m args below meth c H locs cells slots Q (F0 m (pc + 3) ls (.ref (a 5) :: rest))) : W p l e R s m args below meth c H locs cells slots Q (F0 m pc ls (.ref (a 0) :: rest)) := by
  obtain ⟨hx, hb, -, hown, hts, hK, -, -, -⟩ := C
  exact va_get (D := D) (ci := 9) (v := .ref (a 5)) (C := RX10) (T := TX10) (N := 9) hx hb hts inlX10 hown hK hP 0 rfl rfl 2 (by decide) (hts _ fl_RX10_26) (fun _ h9 => h9) rfl hdg kk
theorem lk_RX10_120 : LkV RX10 120 yX4_remember cX4_remember 3 none 2 := ⟨⟨by decide +kernel, by decide +kernel, by decide +kernel, by decide +kernel, by decide +kernel, by decide +kernel⟩, by decide +kernel, by decide +kernel⟩
theorem lk_RX10_93 : LkV RX10 93 yX0_strikers cX0_strikers 1 (some .int) 0 := ⟨⟨by decide +kernel, by decide +kernel, by decide +kernel, by decide +kernel, by decide +kernel, by decide +kernel⟩, by decide +kernel, by decide +kernel⟩
def fX10_strike_j36 (N : Nat) (p1 : Int32) (p2 : Int32) (y0 : Int32) (y1 : Int32) (S : St) : Option (Int32 × St) :=
  if y0 = y1 then (some ((-2 : Int32), S)) else (Option.bind (fX4_remember N (sh (stf S 2 (((S 2 0) ^^^ ((1 : Int32) <<< (p1 &&& 31))))) 4) p1 ((-1 : Int32))) (fun q2 => Option.bind (fX0_strikers N (sh (pt (stf S 2 (((S 2 0) ^^^ ((1 : Int32) <<< (p1 &&& 31))))) 4 3 q2) 2)) (fun q3 => some (q3, (pt (stf S 2 (((S 2 0) ^^^ ((1 : Int32) <<< (p1 &&& 31))))) 4 3 q2)))))
def fX10_strike (N : Nat) (S : St) (p1 : Int32) (p2 : Int32) : Option (Int32 × St) :=
  Option.bind (fX10_isFigure N p1) (fun q1 => if q1 = 0 then (some ((-1 : Int32), S)) else (Option.bind (fX10_isWithin N p2 ((0 : Int32)) ((1 : Int32))) (fun q3 => if q3 = 0 then (some ((-1 : Int32), S)) else (Option.bind (fX0_isOnStrike N (sh S 2) p1) (fun q5 => if p2 = (1 : Int32) then (fX10_strike_j36 N p1 p2 q5 ((1 : Int32)) S) else (fX10_strike_j36 N p1 p2 q5 ((0 : Int32)) S))))))
set_option maxRecDepth 100000 in
set_option maxHeartbeats 4000000 in
theorem wX10_strike_36 (C : Cx p s m args meth c D cA cX10_strike 3 RX10 (some .int)) (hA : ∀ q : Nat, s.heap.size ≤ q → A q) {N : Nat} {z : Int32 × St} {p1 : Int32} {p2 : Int32} {y0 : Int32} {y1 : Int32} {S : St} (hf : fX10_strike_j36 N p1 p2 y0 y1 S = some z) {H : Heap} {locs : List Loc} {ls : Array Slot} (hP : va_P D vwCl (w_X cA a S) H) (hD : va_D A (w_X cA a S)) (hS : va_S A s.heap H locs) (hl : lv_has ls 3 [(0, .ref (a 0)), (1, .int p1)]) : W p l e (rmU 2 52 0 0) s m args below meth c H locs 0 0 (MQ below (QI D A z.1 (w_X cA a z.2)) args s 0 0 A) (F0 m 36 ls [.int y1, .int y0]) := by
  obtain ⟨hx, hb, hml, hown, hts, hK, hN, hr, hlk⟩ := id C
  unfold fX10_strike_j36 at hf
  refine lv_icmp_ne (tgt := 42) (pc := 36) hx hb dX10_strike_36 (by decide) (fun c1 => ?_) (fun c1 => ?_)
  · have hf := pt_f c1 hf
    refine lv_aload_n (pc := 42) hx hb dX10_strike_42 rfl (lv_at hl 0 rfl) ?_
    refine ge_RX10_19_X_0_0 (pc := 43) C hP dX10_strike_43 ?_
    refine lv_dup (pc := 46) hx hb dX10_strike_46 rfl ?_
    refine ge_RX10_117_X_0_3 (pc := 47) C hP dX10_strike_47 ?_
    refine lv_iconst (v := (1 : Int32)) (pc := 50) hx hb dX10_strike_50 (by decide) ?_
    refine lv_iload_n (pc := 51) hx hb dX10_strike_51 rfl (lv_at hl 1 rfl) ?_
    refine lv_ishl (pc := 52) hx hb dX10_strike_52 ?_
    refine lv_ixor (pc := 53) hx hb dX10_strike_53 ?_
    refine pu_RX10_117_X_0_3 (pc := 54) C hP hD hS dX10_strike_54 (fun H locs hP hD hS => ?_)
    refine lv_aload_n (pc := 57) hx hb dX10_strike_57 rfl (lv_at hl 0 rfl) ?_
    refine ge_RX10_26_X_0_0 (pc := 58) C hP dX10_strike_58 ?_
    refine lv_iload_n (pc := 61) hx hb dX10_strike_61 rfl (lv_at hl 1 rfl) ?_
    refine lv_iconst (v := (-1 : Int32)) (pc := 62) hx hb dX10_strike_62 (by decide) ?_
    obtain ⟨q2, hq2, hf⟩ := pt_b hf
    have hPc : va_P D vwCl (w_P cA (sh a 5) (sh (stf S 2 (((S 2 0) ^^^ ((1 : Int32) <<< (p1 &&& 31))))) 4)) H := hP.sub [5, 6, 7] rfl
    have hDc : va_D A (w_P cA (sh a 5) (sh (stf S 2 (((S 2 0) ^^^ ((1 : Int32) <<< (p1 &&& 31))))) 4)) := hD.sub [5, 6, 7] (by decide) rfl
    refine upd_v (W1 := (w_P cA (sh a 5) q2)) (runU_V (pc := 63) (As := [.int p1, .int ((-1 : Int32))]) (b := a 5) (rest := []) (ci := 3) (q0 := 0) C lk_RX10_120 (kX4_remember l D cA (sh a 5) hq2 H.size) ⟨Nat.le_of_ble_eq_true rfl, Nat.le_of_ble_eq_true rfl⟩ ⟨Nat.le_refl _, Nat.le_refl _⟩ hPc hDc rfl rfl rfl hl.1 rfl (Nat.le_of_ble_eq_true rfl) dX10_strike_63) hP hD hS hA [5, 6, 7] rfl (by decide) rfl (fun H locs hP hD hS => ?_)
    have hP : va_P D vwCl (w_X cA a (pt (stf S 2 (((S 2 0) ^^^ ((1 : Int32) <<< (p1 &&& 31))))) 4 3 q2)) H := hP
    have hD : va_D A (w_X cA a (pt (stf S 2 (((S 2 0) ^^^ ((1 : Int32) <<< (p1 &&& 31))))) 4 3 q2)) := hD
    refine lv_aload_n (pc := 66) hx hb dX10_strike_66 rfl (lv_at hl 0 rfl) ?_
    refine ge_RX10_19_X_0_0 (pc := 67) C hP dX10_strike_67 ?_
    obtain ⟨q3, hq3, hf⟩ := pt_b hf
    have hPc : va_P D vwCl (w_F cA (sh a 3) (sh (pt (stf S 2 (((S 2 0) ^^^ ((1 : Int32) <<< (p1 &&& 31))))) 4 3 q2) 2)) H := hP.sub [3, 4] rfl
    have hDc : va_D A (w_F cA (sh a 3) (sh (pt (stf S 2 (((S 2 0) ^^^ ((1 : Int32) <<< (p1 &&& 31))))) 4 3 q2) 2)) := hD.sub [3, 4] (by decide) rfl
    refine prt_i (runU_V (pc := 70) (As := []) (b := a 3) (rest := []) (ci := 0) (q0 := 0) C lk_RX10_93 (kX0_strikers l D cA (sh a 3) hq3 H.size) ⟨Nat.le_of_ble_eq_true rfl, Nat.le_of_ble_eq_true rfl⟩ ⟨Nat.le_refl _, Nat.le_refl _⟩ hPc hDc rfl rfl rfl hl.1 rfl (Nat.le_of_ble_eq_true rfl) dX10_strike_70) hP hD hS hA [3, 4] rfl (fun H locs hP hD hS => ?_)
    cases hf
    exact ret_i C hP hD hS dX10_strike_73
  · have hf := pt_t c1 hf
    refine lv_bipush (v := (-2 : Int32)) (pc := 39) hx hb dX10_strike_39 (by decide) ?_
    cases hf
    exact ret_i C hP hD hS dX10_strike_41
set_option maxRecDepth 100000 in
set_option maxHeartbeats 4000000 in
theorem wX10_strike (C : Cx p s m args meth c D cA cX10_strike 3 RX10 (some .int)) (hA : ∀ q : Nat, s.heap.size ≤ q → A q) {N : Nat} {z : Int32 × St} {S : St} {p1 : Int32} {p2 : Int32} (hf : fX10_strike N S p1 p2 = some z) {H : Heap} {locs : List Loc} {ls : Array Slot} (hP : va_P D vwCl (w_X cA a S) H) (hD : va_D A (w_X cA a S)) (hS : va_S A s.heap H locs) (hl : lv_has ls 3 [(0, .ref (a 0)), (1, .int p1), (2, .int p2)]) : W p l e (rmU 2 52 0 0) s m args below meth c H locs 0 0 (MQ below (QI D A z.1 (w_X cA a z.2)) args s 0 0 A) (F0 m 0 ls []) := by
  obtain ⟨hx, hb, hml, hown, hts, hK, hN, hr, hlk⟩ := id C
  unfold fX10_strike at hf
  refine lv_iload_n (pc := 0) hx hb dX10_strike_0 rfl (lv_at hl 1 rfl) ?_
  obtain ⟨q1, hq1, hf⟩ := pt_b hf
  have hPc : va_P D vwCl ([] : va_W) H := hP.sub [] rfl
  have hDc : va_D A ([] : va_W) := hD.sub [] (by decide) rfl
  refine prt_i (runU_S (pc := 1) (As := [.int p1]) (rest := []) C lk_RX10_97 (kX10_isFigure l D cA hq1 H.size) ⟨Nat.le_of_ble_eq_true rfl, Nat.le_of_ble_eq_true rfl⟩ ⟨Nat.le_refl _, Nat.le_refl _⟩ hPc hDc hl.1 rfl (Nat.le_of_ble_eq_true rfl) dX10_strike_1) hP hD hS hA [] rfl (fun H locs hP hD hS => ?_)
  refine lv_if_eq (tgt := 16) (pc := 4) hx hb dX10_strike_4 (by decide) (fun c2 => ?_) (fun c2 => ?_)
  · have hf := pt_t c2 hf
    refine lv_iconst (v := (-1 : Int32)) (pc := 16) hx hb dX10_strike_16 (by decide) ?_
    cases hf
    exact ret_i C hP hD hS dX10_strike_17
  · have hf := pt_f c2 hf
    refine lv_iload_n (pc := 7) hx hb dX10_strike_7 rfl (lv_at hl 2 rfl) ?_
    refine lv_iconst (v := (0 : Int32)) (pc := 8) hx hb dX10_strike_8 (by decide) ?_
    refine lv_iconst (v := (1 : Int32)) (pc := 9) hx hb dX10_strike_9 (by decide) ?_
    obtain ⟨q3, hq3, hf⟩ := pt_b hf
    have hPc : va_P D vwCl ([] : va_W) H := hP.sub [] rfl
    have hDc : va_D A ([] : va_W) := hD.sub [] (by decide) rfl
    refine prt_i (runU_S (pc := 10) (As := [.int p2, .int ((0 : Int32)), .int ((1 : Int32))]) (rest := []) C lk_RX10_100 (kX10_isWithin l D cA hq3 H.size) ⟨Nat.le_of_ble_eq_true rfl, Nat.le_of_ble_eq_true rfl⟩ ⟨Nat.le_refl _, Nat.le_refl _⟩ hPc hDc hl.1 rfl (Nat.le_of_ble_eq_true rfl) dX10_strike_10) hP hD hS hA [] rfl (fun H locs hP hD hS => ?_)
    refine lv_if_ne (tgt := 18) (pc := 13) hx hb dX10_strike_13 (by decide) (fun c4 => ?_) (fun c4 => ?_)
    · have hf := pt_f c4 hf
      refine lv_aload_n (pc := 18) hx hb dX10_strike_18 rfl (lv_at hl 0 rfl) ?_
      refine ge_RX10_19_X_0_0 (pc := 19) C hP dX10_strike_19 ?_
      refine lv_iload_n (pc := 22) hx hb dX10_strike_22 rfl (lv_at hl 1 rfl) ?_
      obtain ⟨q5, hq5, hf⟩ := pt_b hf
      have hPc : va_P D vwCl (w_F cA (sh a 3) (sh S 2)) H := hP.sub [3, 4] rfl
      have hDc : va_D A (w_F cA (sh a 3) (sh S 2)) := hD.sub [3, 4] (by decide) rfl
      refine prt_i (runU_V (pc := 23) (As := [.int p1]) (b := a 3) (rest := []) (ci := 0) (q0 := 0) C lk_RX10_104 (kX0_isOnStrike l D cA (sh a 3) hq5 H.size) ⟨Nat.le_of_ble_eq_true rfl, Nat.le_of_ble_eq_true rfl⟩ ⟨Nat.le_refl _, Nat.le_refl _⟩ hPc hDc rfl rfl rfl hl.1 rfl (Nat.le_of_ble_eq_true rfl) dX10_strike_23) hP hD hS hA [3, 4] rfl (fun H locs hP hD hS => ?_)
      refine lv_iload_n (pc := 26) hx hb dX10_strike_26 rfl (lv_at hl 2 rfl) ?_
      refine lv_iconst (v := (1 : Int32)) (pc := 27) hx hb dX10_strike_27 (by decide) ?_
      refine lv_icmp_ne (tgt := 35) (pc := 28) hx hb dX10_strike_28 (by decide) (fun c6 => ?_) (fun c6 => ?_)
      · have hf := pt_f c6 hf
        refine lv_iconst (v := (0 : Int32)) (pc := 35) hx hb dX10_strike_35 (by decide) ?_
        exact wX10_strike_36 C hA  hf hP hD hS (lv_sub hl [0, 1] rfl)
      · have hf := pt_t c6 hf
        refine lv_iconst (v := (1 : Int32)) (pc := 31) hx hb dX10_strike_31 (by decide) ?_
        refine lv_goto (tgt := 36) (pc := 32) hx hb dX10_strike_32 (by decide) ?_
        exact wX10_strike_36 C hA  hf hP hD hS (lv_sub hl [0, 1] rfl)
    · have hf := pt_t c4 hf
      refine lv_iconst (v := (-1 : Int32)) (pc := 16) hx hb dX10_strike_16 (by decide) ?_
      cases hf
      exact ret_i C hP hD hS dX10_strike_17
set_option maxRecDepth 100000 in
set_option maxHeartbeats 4000000 in
theorem kX10_strike (l : Launch) (D : va_G) (cA : Nat → ClassId) (a : Nat → Nat) {N : Nat} {S : St} {p1 : Int32} {p2 : Int32} {z : Int32 × St} (hf : fX10_strike N S p1 p2 = some z) : CtI l yX10_strike cX10_strike 3 (some .int) 2 52 D cA (w_X cA a S) (w_X cA a z.2) [.ref (a 0), .int p1, .int p2] z.1 := by
  intro sz
  refine Met.ofW (cc := cX10_strike) (maxL := 3) (ret := (some .int)) (by decide) rfl ?_
  intro p e s m args below meth c s₁ B hml hv
  obtain ⟨rfl, hsz, hP, hK, hD0⟩ := hv
  subst hsz
  have C : Cx p s m _ meth c D cA cX10_strike 3 RX10 (some .int) := Cx.of B hml hK
  have hD := hD0.self (sz := s.heap.size)
  have hA : ∀ q : Nat, s.heap.size ≤ q → va_A (w_X cA a S) s.heap.size q := fun q h => Or.inr h
  have hS : va_S (va_A (w_X cA a S) s.heap.size) s.heap s.heap [] := va_S.rf
  have hl := lv_entry ([.ref (a 0), .int p1, .int p2]) (n := 3) (Nat.le_of_ble_eq_true rfl)
  rw [lg_entry_eq]
  generalize (lg_sl ([.ref (a 0), .int p1, .int p2]) ++ List.replicate (3 - (lg_sl ([.ref (a 0), .int p1, .int p2])).length) Slot.unset).toArray = ls at hl ⊢
  exact wX10_strike C hA hf hP hD hS hl
theorem sr_X_0_4 {i v : Int32} {j : Nat} (C : Cx p s m args meth c D cA cc nL own ret) (hP : va_P D vwCl (w_X cA a S) H) (hD : va_D A (w_X cA a S)) (hS : va_S A s.heap H locs) (hin : vp_in i 10) (hj : i.toNatClampNeg = j) (hdg : decode cc pc = .ok (.iastore, 1)) (kk : ∀ (H1 : Heap) (locs1 : List Loc), va_P D vwCl (w_X cA a (sti S 3 j v)) H1 → va_D A (w_X cA a (sti S 3 j v)) → va_S A s.heap H1 locs1 → W p l e R s m args below meth c H1 locs1 cells slots Q (F0 m (pc + 1) ls rest)) : W p l e R s m args below meth c H locs cells slots Q (F0 m pc ls (.int v :: .int i :: .ref (a 4) :: rest)) := by
  obtain ⟨hx, hb, -, hown, hts, hK, -, -, -⟩ := C
  subst hj
  exact va_iast hx hb hK hP hD hS 4 0 rfl rfl hin hdg (fun H1 locs1 h1 h2 h3 => kk H1 locs1 h1 h2 h3)
def fX10_standIn (N : Nat) (S : St) (p1 : Int32) (p2 : Int32) : Option (Int32 × St) :=
  Option.bind (fX10_isFigure N p1) (fun q1 => if q1 = 0 then (some ((-1 : Int32), S)) else (Option.bind (fX10_isFigure N p2) (fun q3 => if q3 = 0 then (some ((-1 : Int32), S)) else (if ¬ (p1 < 0 ∨ 10 ≤ p1.toNatClampNeg) then (if ¬ (p1 < 0 ∨ 10 ≤ p1.toNatClampNeg) then (Option.bind (fX4_remember N (sh (sti S 3 p1.toNatClampNeg p2) 4) p1 ((S 3 p1.toNatClampNeg))) (fun q7 => some ((S 3 p1.toNatClampNeg), (pt (sti S 3 p1.toNatClampNeg p2) 4 3 q7)))) else none) else none))))
set_option maxRecDepth 100000 in
set_option maxHeartbeats 4000000 in
theorem wX10_standIn (C : Cx p s m args meth c D cA cX10_standIn 4 RX10 (some .int)) (hA : ∀ q : Nat, s.heap.size ≤ q → A q) {N : Nat} {z : Int32 × St} {S : St} {p1 : Int32} {p2 : Int32} (hf : fX10_standIn N S p1 p2 = some z) {H : Heap} {locs : List Loc} {ls : Array Slot} (hP : va_P D vwCl (w_X cA a S) H) (hD : va_D A (w_X cA a S)) (hS : va_S A s.heap H locs) (hl : lv_has ls 4 [(0, .ref (a 0)), (1, .int p1), (2, .int p2)]) : W p l e (rmU 2 52 0 0) s m args below meth c H locs 0 0 (MQ below (QI D A z.1 (w_X cA a z.2)) args s 0 0 A) (F0 m 0 ls []) := by
  obtain ⟨hx, hb, hml, hown, hts, hK, hN, hr, hlk⟩ := id C
  unfold fX10_standIn at hf
  refine lv_iload_n (pc := 0) hx hb dX10_standIn_0 rfl (lv_at hl 1 rfl) ?_
  obtain ⟨q1, hq1, hf⟩ := pt_b hf
  have hPc : va_P D vwCl ([] : va_W) H := hP.sub [] rfl
  have hDc : va_D A ([] : va_W) := hD.sub [] (by decide) rfl
  refine prt_i (runU_S (pc := 1) (As := [.int p1]) (rest := []) C lk_RX10_97 (kX10_isFigure l D cA hq1 H.size) ⟨Nat.le_of_ble_eq_true rfl, Nat.le_of_ble_eq_true rfl⟩ ⟨Nat.le_refl _, Nat.le_refl _⟩ hPc hDc hl.1 rfl (Nat.le_of_ble_eq_true rfl) dX10_standIn_1) hP hD hS hA [] rfl (fun H locs hP hD hS => ?_)
  refine lv_if_eq (tgt := 14) (pc := 4) hx hb dX10_standIn_4 (by decide) (fun c2 => ?_) (fun c2 => ?_)
  · have hf := pt_t c2 hf
    refine lv_iconst (v := (-1 : Int32)) (pc := 14) hx hb dX10_standIn_14 (by decide) ?_
    cases hf
    exact ret_i C hP hD hS dX10_standIn_15
  · have hf := pt_f c2 hf
    refine lv_iload_n (pc := 7) hx hb dX10_standIn_7 rfl (lv_at hl 2 rfl) ?_
    obtain ⟨q3, hq3, hf⟩ := pt_b hf
    have hPc : va_P D vwCl ([] : va_W) H := hP.sub [] rfl
    have hDc : va_D A ([] : va_W) := hD.sub [] (by decide) rfl
    refine prt_i (runU_S (pc := 8) (As := [.int p2]) (rest := []) C lk_RX10_97 (kX10_isFigure l D cA hq3 H.size) ⟨Nat.le_of_ble_eq_true rfl, Nat.le_of_ble_eq_true rfl⟩ ⟨Nat.le_refl _, Nat.le_refl _⟩ hPc hDc hl.1 rfl (Nat.le_of_ble_eq_true rfl) dX10_standIn_8) hP hD hS hA [] rfl (fun H locs hP hD hS => ?_)
    refine lv_if_ne (tgt := 16) (pc := 11) hx hb dX10_standIn_11 (by decide) (fun c4 => ?_) (fun c4 => ?_)
    · have hf := pt_f c4 hf
      refine lv_aload_n (pc := 16) hx hb dX10_standIn_16 rfl (lv_at hl 0 rfl) ?_
      refine ge_RX10_19_X_0_0 (pc := 17) C hP dX10_standIn_17 ?_
      refine ge_RX10_107_X_0_3 (pc := 20) C hP dX10_standIn_20 ?_
      refine lv_iload_n (pc := 23) hx hb dX10_standIn_23 rfl (lv_at hl 1 rfl) ?_
      obtain ⟨h5, hf⟩ := pt_g hf
      refine ld_X_0_4 (pc := 24) (j := p1.toNatClampNeg) C hP h5 rfl dX10_standIn_24 ?_
      refine lv_istore_n (lv' := [(3, .int ((S 3 p1.toNatClampNeg))), (0, .ref (a 0)), (1, .int p1), (2, .int p2)]) (pc := 25) hx hb dX10_standIn_25 rfl hl (by decide) rfl (fun ls hl => ?_)
      refine lv_aload_n (pc := 26) hx hb dX10_standIn_26 rfl (lv_at hl 1 rfl) ?_
      refine ge_RX10_19_X_0_0 (pc := 27) C hP dX10_standIn_27 ?_
      refine ge_RX10_107_X_0_3 (pc := 30) C hP dX10_standIn_30 ?_
      refine lv_iload_n (pc := 33) hx hb dX10_standIn_33 rfl (lv_at hl 2 rfl) ?_
      refine lv_iload_n (pc := 34) hx hb dX10_standIn_34 rfl (lv_at hl 3 rfl) ?_
      obtain ⟨h6, hf⟩ := pt_g hf
      refine sr_X_0_4 (pc := 35) (j := p1.toNatClampNeg) C hP hD hS h6 rfl dX10_standIn_35 (fun H locs hP hD hS => ?_)
      refine lv_aload_n (pc := 36) hx hb dX10_standIn_36 rfl (lv_at hl 1 rfl) ?_
      refine ge_RX10_26_X_0_0 (pc := 37) C hP dX10_standIn_37 ?_
      refine lv_iload_n (pc := 40) hx hb dX10_standIn_40 rfl (lv_at hl 2 rfl) ?_
      refine lv_iload_n (pc := 41) hx hb dX10_standIn_41 rfl (lv_at hl 0 rfl) ?_
      obtain ⟨q7, hq7, hf⟩ := pt_b hf
      have hPc : va_P D vwCl (w_P cA (sh a 5) (sh (sti S 3 p1.toNatClampNeg p2) 4)) H := hP.sub [5, 6, 7] rfl
      have hDc : va_D A (w_P cA (sh a 5) (sh (sti S 3 p1.toNatClampNeg p2) 4)) := hD.sub [5, 6, 7] (by decide) rfl
      refine upd_v (W1 := (w_P cA (sh a 5) q7)) (runU_V (pc := 42) (As := [.int p1, .int ((S 3 p1.toNatClampNeg))]) (b := a 5) (rest := []) (ci := 3) (q0 := 0) C lk_RX10_120 (kX4_remember l D cA (sh a 5) hq7 H.size) ⟨Nat.le_of_ble_eq_true rfl, Nat.le_of_ble_eq_true rfl⟩ ⟨Nat.le_refl _, Nat.le_refl _⟩ hPc hDc rfl rfl rfl hl.1 rfl (Nat.le_of_ble_eq_true rfl) dX10_standIn_42) hP hD hS hA [5, 6, 7] rfl (by decide) rfl (fun H locs hP hD hS => ?_)
      have hP : va_P D vwCl (w_X cA a (pt (sti S 3 p1.toNatClampNeg p2) 4 3 q7)) H := hP
      have hD : va_D A (w_X cA a (pt (sti S 3 p1.toNatClampNeg p2) 4 3 q7)) := hD
      refine lv_iload_n (pc := 45) hx hb dX10_standIn_45 rfl (lv_at hl 0 rfl) ?_
      cases hf
      exact ret_i C hP hD hS dX10_standIn_46
    · have hf := pt_t c4 hf
      refine lv_iconst (v := (-1 : Int32)) (pc := 14) hx hb dX10_standIn_14 (by decide) ?_
      cases hf
      exact ret_i C hP hD hS dX10_standIn_15
set_option maxRecDepth 100000 in
set_option maxHeartbeats 4000000 in
theorem kX10_standIn (l : Launch) (D : va_G) (cA : Nat → ClassId) (a : Nat → Nat) {N : Nat} {S : St} {p1 : Int32} {p2 : Int32} {z : Int32 × St} (hf : fX10_standIn N S p1 p2 = some z) : CtI l yX10_standIn cX10_standIn 4 (some .int) 2 52 D cA (w_X cA a S) (w_X cA a z.2) [.ref (a 0), .int p1, .int p2] z.1 := by
  intro sz
  refine Met.ofW (cc := cX10_standIn) (maxL := 4) (ret := (some .int)) (by decide) rfl ?_
  intro p e s m args below meth c s₁ B hml hv
  obtain ⟨rfl, hsz, hP, hK, hD0⟩ := hv
  subst hsz
  have C : Cx p s m _ meth c D cA cX10_standIn 4 RX10 (some .int) := Cx.of B hml hK
  have hD := hD0.self (sz := s.heap.size)
  have hA : ∀ q : Nat, s.heap.size ≤ q → va_A (w_X cA a S) s.heap.size q := fun q h => Or.inr h
  have hS : va_S (va_A (w_X cA a S) s.heap.size) s.heap s.heap [] := va_S.rf
  have hl := lv_entry ([.ref (a 0), .int p1, .int p2]) (n := 4) (Nat.le_of_ble_eq_true rfl)
  rw [lg_entry_eq]
  generalize (lg_sl ([.ref (a 0), .int p1, .int p2]) ++ List.replicate (4 - (lg_sl ([.ref (a 0), .int p1, .int p2])).length) Slot.unset).toArray = ls at hl ⊢
  exact wX10_standIn C hA hf hP hD hS hl
theorem lk_RX10_124 : LkV RX10 124 yX4_takeBack cX4_takeBack 3 (some .boolean) 1 := ⟨⟨by decide +kernel, by decide +kernel, by decide +kernel, by decide +kernel, by decide +kernel, by decide +kernel⟩, by decide +kernel, by decide +kernel⟩
theorem fl_RX10_128 : Cond.fieldLink RX10 128 "SevenOnStrike$Past" "size" "I" ∈ wsL_law := by decide +kernel
theorem ge_RX10_128_X_0_5 (C : Cx p s m args meth c D cA cc nL RX10 ret) (hP : va_P D vwCl (w_X cA a S) H) (hdg : decode cc pc = .ok (.getfield 128, 3)) (kk : W p l e R s m args below meth c H locs cells slots Q (F0 m (pc + 3) ls (.int (S 4 0) :: rest))) : W p l e R s m args below meth c H locs cells slots Q (F0 m pc ls (.ref (a 5) :: rest)) := by
  obtain ⟨hx, hb, -, hown, hts, hK, -, -, -⟩ := C
  exact va_get (D := D) (ci := 3) (v := .int (S 4 0)) (C := RX4) (T := TX4) (N := 3) hx hb hts inlX4 hown hK hP 5 rfl rfl 2 (by decide) (hts _ fl_RX10_128) (fun _ h9 => h9) rfl hdg kk
def fX10_undo (N : Nat) (S : St) : Option (Int32 × St) :=
  Option.bind (fX4_takeBack N (sh S 4) (sh S 2)) (fun q1 => if q1.1 = 0 then (some ((-2 : Int32), (pt (pt S 4 3 q1.2.1) 2 2 q1.2.2))) else (some (((pt (pt S 4 3 q1.2.1) 2 2 q1.2.2) 4 0), (pt (pt S 4 3 q1.2.1) 2 2 q1.2.2))))
set_option maxRecDepth 100000 in
set_option maxHeartbeats 4000000 in
theorem wX10_undo (C : Cx p s m args meth c D cA cX10_undo 1 RX10 (some .int)) (hA : ∀ q : Nat, s.heap.size ≤ q → A q) {N : Nat} {z : Int32 × St} {S : St} (hf : fX10_undo N S = some z) {H : Heap} {locs : List Loc} {ls : Array Slot} (hP : va_P D vwCl (w_X cA a S) H) (hD : va_D A (w_X cA a S)) (hS : va_S A s.heap H locs) (hl : lv_has ls 1 [(0, .ref (a 0))]) : W p l e (rmU 1 22 0 0) s m args below meth c H locs 0 0 (MQ below (QI D A z.1 (w_X cA a z.2)) args s 0 0 A) (F0 m 0 ls []) := by
  obtain ⟨hx, hb, hml, hown, hts, hK, hN, hr, hlk⟩ := id C
  unfold fX10_undo at hf
  refine lv_aload_n (pc := 0) hx hb dX10_undo_0 rfl (lv_at hl 0 rfl) ?_
  refine ge_RX10_26_X_0_0 (pc := 1) C hP dX10_undo_1 ?_
  refine lv_aload_n (pc := 4) hx hb dX10_undo_4 rfl (lv_at hl 0 rfl) ?_
  refine ge_RX10_19_X_0_0 (pc := 5) C hP dX10_undo_5 ?_
  obtain ⟨q1, hq1, hf⟩ := pt_b hf
  have hPc : va_P D vwCl (w_P_F cA (sh a 5) (sh S 4) (sh a 3) (sh S 2)) H := hP.sub [5, 6, 7, 3, 4] rfl
  have hDc : va_D A (w_P_F cA (sh a 5) (sh S 4) (sh a 3) (sh S 2)) := hD.sub [5, 6, 7, 3, 4] (by decide) rfl
  refine upd_i (W1 := (w_P_F cA (sh a 5) q1.2.1 (sh a 3) q1.2.2)) (runU_V (pc := 8) (As := [.ref (a 3)]) (b := a 5) (rest := []) (ci := 3) (q0 := 0) C lk_RX10_124 (kX4_takeBack l D cA (sh a 5) (sh a 3) hq1 H.size) ⟨Nat.le_of_ble_eq_true rfl, Nat.le_of_ble_eq_true rfl⟩ ⟨Nat.le_refl _, Nat.le_refl _⟩ hPc hDc rfl rfl rfl hl.1 rfl (Nat.le_of_ble_eq_true rfl) dX10_undo_8) hP hD hS hA [5, 6, 7, 3, 4] rfl (by decide) rfl (fun H locs hP hD hS => ?_)
  have hP : va_P D vwCl (w_X cA a (pt (pt S 4 3 q1.2.1) 2 2 q1.2.2)) H := hP
  have hD : va_D A (w_X cA a (pt (pt S 4 3 q1.2.1) 2 2 q1.2.2)) := hD
  refine lv_if_eq (tgt := 24) (pc := 11) hx hb dX10_undo_11 (by decide) (fun c2 => ?_) (fun c2 => ?_)
  · have hf := pt_t c2 hf
    refine lv_bipush (v := (-2 : Int32)) (pc := 24) hx hb dX10_undo_24 (by decide) ?_
    cases hf
    exact ret_i C hP hD hS dX10_undo_26
  · have hf := pt_f c2 hf
    refine lv_aload_n (pc := 14) hx hb dX10_undo_14 rfl (lv_at hl 0 rfl) ?_
    refine ge_RX10_26_X_0_0 (pc := 15) C hP dX10_undo_15 ?_
    refine ge_RX10_128_X_0_5 (pc := 18) C hP dX10_undo_18 ?_
    refine lv_goto (tgt := 26) (pc := 21) hx hb dX10_undo_21 (by decide) ?_
    cases hf
    exact ret_i C hP hD hS dX10_undo_26
set_option maxRecDepth 100000 in
set_option maxHeartbeats 4000000 in
theorem kX10_undo (l : Launch) (D : va_G) (cA : Nat → ClassId) (a : Nat → Nat) {N : Nat} {S : St} {z : Int32 × St} (hf : fX10_undo N S = some z) : CtI l yX10_undo cX10_undo 1 (some .int) 1 22 D cA (w_X cA a S) (w_X cA a z.2) [.ref (a 0)] z.1 := by
  intro sz
  refine Met.ofW (cc := cX10_undo) (maxL := 1) (ret := (some .int)) (by decide) rfl ?_
  intro p e s m args below meth c s₁ B hml hv
  obtain ⟨rfl, hsz, hP, hK, hD0⟩ := hv
  subst hsz
  have C : Cx p s m _ meth c D cA cX10_undo 1 RX10 (some .int) := Cx.of B hml hK
  have hD := hD0.self (sz := s.heap.size)
  have hA : ∀ q : Nat, s.heap.size ≤ q → va_A (w_X cA a S) s.heap.size q := fun q h => Or.inr h
  have hS : va_S (va_A (w_X cA a S) s.heap.size) s.heap s.heap [] := va_S.rf
  have hl := lv_entry ([.ref (a 0)]) (n := 1) (Nat.le_of_ble_eq_true rfl)
  rw [lg_entry_eq]
  generalize (lg_sl ([.ref (a 0)]) ++ List.replicate (1 - (lg_sl ([.ref (a 0)])).length) Slot.unset).toArray = ls at hl ⊢
  exact wX10_undo C hA hf hP hD hS hl
theorem kc_RX10_131 : Cond.constant RX10 131 (99999) ∈ wsL_law := by decide +kernel
theorem lk_RX10_132 : LkS RX10 132 yX3_canSay cX3_canSay 4 (some .boolean) 2 := ⟨⟨by decide +kernel, by decide +kernel, by decide +kernel, by decide +kernel, by decide +kernel, by decide +kernel⟩, by decide +kernel⟩
def fX10_said (N : Nat) (S : St) (p1 : Int32) : Option (Int32) :=
  Option.bind (fX10_isWithin N p1 ((0 : Int32)) ((99999 : Int32))) (fun q1 => if q1 = 0 then (some ((-1 : Int32))) else (Option.bind (fX3_canSay N ((S 2 0)) p1) (fun q3 => if q3 = 0 then (some ((0 : Int32))) else (some ((1 : Int32))))))
set_option maxRecDepth 100000 in
set_option maxHeartbeats 4000000 in
theorem wX10_said (C : Cx p s m args meth c D cA cX10_said 2 RX10 (some .int)) (hA : ∀ q : Nat, s.heap.size ≤ q → A q) {N : Nat} {z : Int32} {S : St} {p1 : Int32} (hf : fX10_said N S p1 = some z) {H : Heap} {locs : List Loc} {ls : Array Slot} (hP : va_P D vwCl (w_X cA a S) H) (hD : va_D A (w_X cA a S)) (hS : va_S A s.heap H locs) (hl : lv_has ls 2 [(0, .ref (a 0)), (1, .int p1)]) : W p l e (rmU 1 23 0 0) s m args below meth c H locs 0 0 (MQ below (QI D A z (w_X cA a S)) args s 0 0 A) (F0 m 0 ls []) := by
  obtain ⟨hx, hb, hml, hown, hts, hK, hN, hr, hlk⟩ := id C
  unfold fX10_said at hf
  refine lv_iload_n (pc := 0) hx hb dX10_said_0 rfl (lv_at hl 1 rfl) ?_
  refine lv_iconst (v := (0 : Int32)) (pc := 1) hx hb dX10_said_1 (by decide) ?_
  refine lv_ldc (pc := 2) (v := (99999 : Int32)) hx hb hown (hts _ kc_RX10_131) dX10_said_2 ?_
  obtain ⟨q1, hq1, hf⟩ := pt_b hf
  have hPc : va_P D vwCl ([] : va_W) H := hP.sub [] rfl
  have hDc : va_D A ([] : va_W) := hD.sub [] (by decide) rfl
  refine prt_i (runU_S (pc := 4) (As := [.int p1, .int ((0 : Int32)), .int ((99999 : Int32))]) (rest := []) C lk_RX10_100 (kX10_isWithin l D cA hq1 H.size) ⟨Nat.le_of_ble_eq_true rfl, Nat.le_of_ble_eq_true rfl⟩ ⟨Nat.le_refl _, Nat.le_refl _⟩ hPc hDc hl.1 rfl (Nat.le_of_ble_eq_true rfl) dX10_said_4) hP hD hS hA [] rfl (fun H locs hP hD hS => ?_)
  refine lv_if_ne (tgt := 12) (pc := 7) hx hb dX10_said_7 (by decide) (fun c2 => ?_) (fun c2 => ?_)
  · have hf := pt_f c2 hf
    refine lv_aload_n (pc := 12) hx hb dX10_said_12 rfl (lv_at hl 0 rfl) ?_
    refine ge_RX10_19_X_0_0 (pc := 13) C hP dX10_said_13 ?_
    refine ge_RX10_117_X_0_3 (pc := 16) C hP dX10_said_16 ?_
    refine lv_iload_n (pc := 19) hx hb dX10_said_19 rfl (lv_at hl 1 rfl) ?_
    obtain ⟨q3, hq3, hf⟩ := pt_b hf
    have hPc : va_P D vwCl ([] : va_W) H := hP.sub [] rfl
    have hDc : va_D A ([] : va_W) := hD.sub [] (by decide) rfl
    refine prt_i (runU_S (pc := 20) (As := [.int ((S 2 0)), .int p1]) (rest := []) C lk_RX10_132 (kX3_canSay l D cA hq3 H.size) ⟨Nat.le_of_ble_eq_true rfl, Nat.le_of_ble_eq_true rfl⟩ ⟨Nat.le_refl _, Nat.le_refl _⟩ hPc hDc hl.1 rfl (Nat.le_of_ble_eq_true rfl) dX10_said_20) hP hD hS hA [] rfl (fun H locs hP hD hS => ?_)
    refine lv_if_eq (tgt := 30) (pc := 23) hx hb dX10_said_23 (by decide) (fun c4 => ?_) (fun c4 => ?_)
    · have hf := pt_t c4 hf
      refine lv_iconst (v := (0 : Int32)) (pc := 30) hx hb dX10_said_30 (by decide) ?_
      cases hf
      exact ret_i C hP hD hS dX10_said_31
    · have hf := pt_f c4 hf
      refine lv_iconst (v := (1 : Int32)) (pc := 26) hx hb dX10_said_26 (by decide) ?_
      refine lv_goto (tgt := 31) (pc := 27) hx hb dX10_said_27 (by decide) ?_
      cases hf
      exact ret_i C hP hD hS dX10_said_31
  · have hf := pt_t c2 hf
    refine lv_iconst (v := (-1 : Int32)) (pc := 10) hx hb dX10_said_10 (by decide) ?_
    cases hf
    exact ret_i C hP hD hS dX10_said_11
set_option maxRecDepth 100000 in
set_option maxHeartbeats 4000000 in
theorem kX10_said (l : Launch) (D : va_G) (cA : Nat → ClassId) (a : Nat → Nat) {N : Nat} {S : St} {p1 : Int32} {z : Int32} (hf : fX10_said N S p1 = some z) : CtI l yX10_said cX10_said 2 (some .int) 1 23 D cA (w_X cA a S) (w_X cA a S) [.ref (a 0), .int p1] z := by
  intro sz
  refine Met.ofW (cc := cX10_said) (maxL := 2) (ret := (some .int)) (by decide) rfl ?_
  intro p e s m args below meth c s₁ B hml hv
  obtain ⟨rfl, hsz, hP, hK, hD0⟩ := hv
  subst hsz
  have C : Cx p s m _ meth c D cA cX10_said 2 RX10 (some .int) := Cx.of B hml hK
  have hD := hD0.self (sz := s.heap.size)
  have hA : ∀ q : Nat, s.heap.size ≤ q → va_A (w_X cA a S) s.heap.size q := fun q h => Or.inr h
  have hS : va_S (va_A (w_X cA a S) s.heap.size) s.heap s.heap [] := va_S.rf
  have hl := lv_entry ([.ref (a 0), .int p1]) (n := 2) (Nat.le_of_ble_eq_true rfl)
  rw [lg_entry_eq]
  generalize (lg_sl ([.ref (a 0), .int p1]) ++ List.replicate (2 - (lg_sl ([.ref (a 0), .int p1])).length) Slot.unset).toArray = ls at hl ⊢
  exact wX10_said C hA hf hP hD hS hl
theorem lk_RX10_138 : LkS RX10 138 yX3_sayable cX3_sayable 9 (some .int) 2 := ⟨⟨by decide +kernel, by decide +kernel, by decide +kernel, by decide +kernel, by decide +kernel, by decide +kernel⟩, by decide +kernel⟩
theorem lk_RX10_142 : LkS RX10 142 yX3_atRank cX3_atRank 5 (some .int) 2 := ⟨⟨by decide +kernel, by decide +kernel, by decide +kernel, by decide +kernel, by decide +kernel, by decide +kernel⟩, by decide +kernel⟩
def fX10_next (N : Nat) (S : St) (p1 : Int32) : Option (Int32) :=
  Option.bind (fX10_isWithin N p1 ((0 : Int32)) ((99999 : Int32))) (fun q1 => if q1 = 0 then (some ((-1 : Int32))) else (Option.bind (fX3_sayable N ((S 2 0)) p1) (fun q3 => Option.bind (fX3_atRank N ((S 2 0)) q3) (fun q4 => some q4))))
set_option maxRecDepth 100000 in
set_option maxHeartbeats 4000000 in
theorem wX10_next (C : Cx p s m args meth c D cA cX10_next 2 RX10 (some .int)) (hA : ∀ q : Nat, s.heap.size ≤ q → A q) {N : Nat} {z : Int32} {S : St} {p1 : Int32} (hf : fX10_next N S p1 = some z) {H : Heap} {locs : List Loc} {ls : Array Slot} (hP : va_P D vwCl (w_X cA a S) H) (hD : va_D A (w_X cA a S)) (hS : va_S A s.heap H locs) (hl : lv_has ls 2 [(0, .ref (a 0)), (1, .int p1)]) : W p l e (rmU 4 93 0 0) s m args below meth c H locs 0 0 (MQ below (QI D A z (w_X cA a S)) args s 0 0 A) (F0 m 0 ls []) := by
  obtain ⟨hx, hb, hml, hown, hts, hK, hN, hr, hlk⟩ := id C
  unfold fX10_next at hf
  refine lv_iload_n (pc := 0) hx hb dX10_next_0 rfl (lv_at hl 1 rfl) ?_
  refine lv_iconst (v := (0 : Int32)) (pc := 1) hx hb dX10_next_1 (by decide) ?_
  refine lv_ldc (pc := 2) (v := (99999 : Int32)) hx hb hown (hts _ kc_RX10_131) dX10_next_2 ?_
  obtain ⟨q1, hq1, hf⟩ := pt_b hf
  have hPc : va_P D vwCl ([] : va_W) H := hP.sub [] rfl
  have hDc : va_D A ([] : va_W) := hD.sub [] (by decide) rfl
  refine prt_i (runU_S (pc := 4) (As := [.int p1, .int ((0 : Int32)), .int ((99999 : Int32))]) (rest := []) C lk_RX10_100 (kX10_isWithin l D cA hq1 H.size) ⟨Nat.le_of_ble_eq_true rfl, Nat.le_of_ble_eq_true rfl⟩ ⟨Nat.le_refl _, Nat.le_refl _⟩ hPc hDc hl.1 rfl (Nat.le_of_ble_eq_true rfl) dX10_next_4) hP hD hS hA [] rfl (fun H locs hP hD hS => ?_)
  refine lv_if_ne (tgt := 12) (pc := 7) hx hb dX10_next_7 (by decide) (fun c2 => ?_) (fun c2 => ?_)
  · have hf := pt_f c2 hf
    refine lv_aload_n (pc := 12) hx hb dX10_next_12 rfl (lv_at hl 0 rfl) ?_
    refine ge_RX10_19_X_0_0 (pc := 13) C hP dX10_next_13 ?_
    refine ge_RX10_117_X_0_3 (pc := 16) C hP dX10_next_16 ?_
    refine lv_aload_n (pc := 19) hx hb dX10_next_19 rfl (lv_at hl 0 rfl) ?_
    refine ge_RX10_19_X_0_0 (pc := 20) C hP dX10_next_20 ?_
    refine ge_RX10_117_X_0_3 (pc := 23) C hP dX10_next_23 ?_
    refine lv_iload_n (pc := 26) hx hb dX10_next_26 rfl (lv_at hl 1 rfl) ?_
    obtain ⟨q3, hq3, hf⟩ := pt_b hf
    have hPc : va_P D vwCl ([] : va_W) H := hP.sub [] rfl
    have hDc : va_D A ([] : va_W) := hD.sub [] (by decide) rfl
    refine prt_i (runU_S (pc := 27) (As := [.int ((S 2 0)), .int p1]) (rest := [.int ((S 2 0))]) C lk_RX10_138 (kX3_sayable l D cA hq3 H.size) ⟨Nat.le_of_ble_eq_true rfl, Nat.le_of_ble_eq_true rfl⟩ ⟨Nat.le_refl _, Nat.le_refl _⟩ hPc hDc hl.1 rfl (Nat.le_of_ble_eq_true rfl) dX10_next_27) hP hD hS hA [] rfl (fun H locs hP hD hS => ?_)
    obtain ⟨q4, hq4, hf⟩ := pt_b hf
    have hPc : va_P D vwCl ([] : va_W) H := hP.sub [] rfl
    have hDc : va_D A ([] : va_W) := hD.sub [] (by decide) rfl
    refine prt_i (runU_S (pc := 30) (As := [.int ((S 2 0)), .int q3]) (rest := []) C lk_RX10_142 (kX3_atRank l D cA hq4 H.size) ⟨Nat.le_of_ble_eq_true rfl, Nat.le_of_ble_eq_true rfl⟩ ⟨Nat.le_refl _, Nat.le_refl _⟩ hPc hDc hl.1 rfl (Nat.le_of_ble_eq_true rfl) dX10_next_30) hP hD hS hA [] rfl (fun H locs hP hD hS => ?_)
    cases hf
    exact ret_i C hP hD hS dX10_next_33
  · have hf := pt_t c2 hf
    refine lv_iconst (v := (-1 : Int32)) (pc := 10) hx hb dX10_next_10 (by decide) ?_
    cases hf
    exact ret_i C hP hD hS dX10_next_11
set_option maxRecDepth 100000 in
set_option maxHeartbeats 4000000 in
theorem kX10_next (l : Launch) (D : va_G) (cA : Nat → ClassId) (a : Nat → Nat) {N : Nat} {S : St} {p1 : Int32} {z : Int32} (hf : fX10_next N S p1 = some z) : CtI l yX10_next cX10_next 2 (some .int) 4 93 D cA (w_X cA a S) (w_X cA a S) [.ref (a 0), .int p1] z := by
  intro sz
  refine Met.ofW (cc := cX10_next) (maxL := 2) (ret := (some .int)) (by decide) rfl ?_
  intro p e s m args below meth c s₁ B hml hv
  obtain ⟨rfl, hsz, hP, hK, hD0⟩ := hv
  subst hsz
  have C : Cx p s m _ meth c D cA cX10_next 2 RX10 (some .int) := Cx.of B hml hK
  have hD := hD0.self (sz := s.heap.size)
  have hA : ∀ q : Nat, s.heap.size ≤ q → va_A (w_X cA a S) s.heap.size q := fun q h => Or.inr h
  have hS : va_S (va_A (w_X cA a S) s.heap.size) s.heap s.heap [] := va_S.rf
  have hl := lv_entry ([.ref (a 0), .int p1]) (n := 2) (Nat.le_of_ble_eq_true rfl)
  rw [lg_entry_eq]
  generalize (lg_sl ([.ref (a 0), .int p1]) ++ List.replicate (2 - (lg_sl ([.ref (a 0), .int p1])).length) Slot.unset).toArray = ls at hl ⊢
  exact wX10_next C hA hf hP hD hS hl
def fX10_rank (N : Nat) (S : St) (p1 : Int32) : Option (Int32) :=
  Option.bind (fX10_isWithin N p1 ((0 : Int32)) ((99999 : Int32))) (fun q1 => if q1 = 0 then (some ((-1 : Int32))) else (Option.bind (fX3_sayable N ((S 2 0)) p1) (fun q3 => some q3)))
set_option maxRecDepth 100000 in
set_option maxHeartbeats 4000000 in
theorem wX10_rank (C : Cx p s m args meth c D cA cX10_rank 2 RX10 (some .int)) (hA : ∀ q : Nat, s.heap.size ≤ q → A q) {N : Nat} {z : Int32} {S : St} {p1 : Int32} (hf : fX10_rank N S p1 = some z) {H : Heap} {locs : List Loc} {ls : Array Slot} (hP : va_P D vwCl (w_X cA a S) H) (hD : va_D A (w_X cA a S)) (hS : va_S A s.heap H locs) (hl : lv_has ls 2 [(0, .ref (a 0)), (1, .int p1)]) : W p l e (rmU 3 69 0 0) s m args below meth c H locs 0 0 (MQ below (QI D A z (w_X cA a S)) args s 0 0 A) (F0 m 0 ls []) := by
  obtain ⟨hx, hb, hml, hown, hts, hK, hN, hr, hlk⟩ := id C
  unfold fX10_rank at hf
  refine lv_iload_n (pc := 0) hx hb dX10_rank_0 rfl (lv_at hl 1 rfl) ?_
  refine lv_iconst (v := (0 : Int32)) (pc := 1) hx hb dX10_rank_1 (by decide) ?_
  refine lv_ldc (pc := 2) (v := (99999 : Int32)) hx hb hown (hts _ kc_RX10_131) dX10_rank_2 ?_
  obtain ⟨q1, hq1, hf⟩ := pt_b hf
  have hPc : va_P D vwCl ([] : va_W) H := hP.sub [] rfl
  have hDc : va_D A ([] : va_W) := hD.sub [] (by decide) rfl
  refine prt_i (runU_S (pc := 4) (As := [.int p1, .int ((0 : Int32)), .int ((99999 : Int32))]) (rest := []) C lk_RX10_100 (kX10_isWithin l D cA hq1 H.size) ⟨Nat.le_of_ble_eq_true rfl, Nat.le_of_ble_eq_true rfl⟩ ⟨Nat.le_refl _, Nat.le_refl _⟩ hPc hDc hl.1 rfl (Nat.le_of_ble_eq_true rfl) dX10_rank_4) hP hD hS hA [] rfl (fun H locs hP hD hS => ?_)
  refine lv_if_eq (tgt := 24) (pc := 7) hx hb dX10_rank_7 (by decide) (fun c2 => ?_) (fun c2 => ?_)
  · have hf := pt_t c2 hf
    refine lv_iconst (v := (-1 : Int32)) (pc := 24) hx hb dX10_rank_24 (by decide) ?_
    cases hf
    exact ret_i C hP hD hS dX10_rank_25
  · have hf := pt_f c2 hf
    refine lv_aload_n (pc := 10) hx hb dX10_rank_10 rfl (lv_at hl 0 rfl) ?_
    refine ge_RX10_19_X_0_0 (pc := 11) C hP dX10_rank_11 ?_
    refine ge_RX10_117_X_0_3 (pc := 14) C hP dX10_rank_14 ?_
    refine lv_iload_n (pc := 17) hx hb dX10_rank_17 rfl (lv_at hl 1 rfl) ?_
    obtain ⟨q3, hq3, hf⟩ := pt_b hf
    have hPc : va_P D vwCl ([] : va_W) H := hP.sub [] rfl
    have hDc : va_D A ([] : va_W) := hD.sub [] (by decide) rfl
    refine prt_i (runU_S (pc := 18) (As := [.int ((S 2 0)), .int p1]) (rest := []) C lk_RX10_138 (kX3_sayable l D cA hq3 H.size) ⟨Nat.le_of_ble_eq_true rfl, Nat.le_of_ble_eq_true rfl⟩ ⟨Nat.le_refl _, Nat.le_refl _⟩ hPc hDc hl.1 rfl (Nat.le_of_ble_eq_true rfl) dX10_rank_18) hP hD hS hA [] rfl (fun H locs hP hD hS => ?_)
    refine lv_goto (tgt := 25) (pc := 21) hx hb dX10_rank_21 (by decide) ?_
    cases hf
    exact ret_i C hP hD hS dX10_rank_25
set_option maxRecDepth 100000 in
set_option maxHeartbeats 4000000 in
theorem kX10_rank (l : Launch) (D : va_G) (cA : Nat → ClassId) (a : Nat → Nat) {N : Nat} {S : St} {p1 : Int32} {z : Int32} (hf : fX10_rank N S p1 = some z) : CtI l yX10_rank cX10_rank 2 (some .int) 3 69 D cA (w_X cA a S) (w_X cA a S) [.ref (a 0), .int p1] z := by
  intro sz
  refine Met.ofW (cc := cX10_rank) (maxL := 2) (ret := (some .int)) (by decide) rfl ?_
  intro p e s m args below meth c s₁ B hml hv
  obtain ⟨rfl, hsz, hP, hK, hD0⟩ := hv
  subst hsz
  have C : Cx p s m _ meth c D cA cX10_rank 2 RX10 (some .int) := Cx.of B hml hK
  have hD := hD0.self (sz := s.heap.size)
  have hA : ∀ q : Nat, s.heap.size ≤ q → va_A (w_X cA a S) s.heap.size q := fun q h => Or.inr h
  have hS : va_S (va_A (w_X cA a S) s.heap.size) s.heap s.heap [] := va_S.rf
  have hl := lv_entry ([.ref (a 0), .int p1]) (n := 2) (Nat.le_of_ble_eq_true rfl)
  rw [lg_entry_eq]
  generalize (lg_sl ([.ref (a 0), .int p1]) ++ List.replicate (2 - (lg_sl ([.ref (a 0), .int p1])).length) Slot.unset).toArray = ls at hl ⊢
  exact wX10_rank C hA hf hP hD hS hl
def fX10_kth (N : Nat) (S : St) (p1 : Int32) : Option (Int32) :=
  Option.bind (fX10_isWithin N p1 ((0 : Int32)) ((99999 : Int32))) (fun q1 => if q1 = 0 then (some ((-1 : Int32))) else (Option.bind (fX3_atRank N ((S 2 0)) p1) (fun q3 => some q3)))
set_option maxRecDepth 100000 in
set_option maxHeartbeats 4000000 in
theorem wX10_kth (C : Cx p s m args meth c D cA cX10_kth 2 RX10 (some .int)) (hA : ∀ q : Nat, s.heap.size ≤ q → A q) {N : Nat} {z : Int32} {S : St} {p1 : Int32} (hf : fX10_kth N S p1 = some z) {H : Heap} {locs : List Loc} {ls : Array Slot} (hP : va_P D vwCl (w_X cA a S) H) (hD : va_D A (w_X cA a S)) (hS : va_S A s.heap H locs) (hl : lv_has ls 2 [(0, .ref (a 0)), (1, .int p1)]) : W p l e (rmU 4 93 0 0) s m args below meth c H locs 0 0 (MQ below (QI D A z (w_X cA a S)) args s 0 0 A) (F0 m 0 ls []) := by
  obtain ⟨hx, hb, hml, hown, hts, hK, hN, hr, hlk⟩ := id C
  unfold fX10_kth at hf
  refine lv_iload_n (pc := 0) hx hb dX10_kth_0 rfl (lv_at hl 1 rfl) ?_
  refine lv_iconst (v := (0 : Int32)) (pc := 1) hx hb dX10_kth_1 (by decide) ?_
  refine lv_ldc (pc := 2) (v := (99999 : Int32)) hx hb hown (hts _ kc_RX10_131) dX10_kth_2 ?_
  obtain ⟨q1, hq1, hf⟩ := pt_b hf
  have hPc : va_P D vwCl ([] : va_W) H := hP.sub [] rfl
  have hDc : va_D A ([] : va_W) := hD.sub [] (by decide) rfl
  refine prt_i (runU_S (pc := 4) (As := [.int p1, .int ((0 : Int32)), .int ((99999 : Int32))]) (rest := []) C lk_RX10_100 (kX10_isWithin l D cA hq1 H.size) ⟨Nat.le_of_ble_eq_true rfl, Nat.le_of_ble_eq_true rfl⟩ ⟨Nat.le_refl _, Nat.le_refl _⟩ hPc hDc hl.1 rfl (Nat.le_of_ble_eq_true rfl) dX10_kth_4) hP hD hS hA [] rfl (fun H locs hP hD hS => ?_)
  refine lv_if_eq (tgt := 24) (pc := 7) hx hb dX10_kth_7 (by decide) (fun c2 => ?_) (fun c2 => ?_)
  · have hf := pt_t c2 hf
    refine lv_iconst (v := (-1 : Int32)) (pc := 24) hx hb dX10_kth_24 (by decide) ?_
    cases hf
    exact ret_i C hP hD hS dX10_kth_25
  · have hf := pt_f c2 hf
    refine lv_aload_n (pc := 10) hx hb dX10_kth_10 rfl (lv_at hl 0 rfl) ?_
    refine ge_RX10_19_X_0_0 (pc := 11) C hP dX10_kth_11 ?_
    refine ge_RX10_117_X_0_3 (pc := 14) C hP dX10_kth_14 ?_
    refine lv_iload_n (pc := 17) hx hb dX10_kth_17 rfl (lv_at hl 1 rfl) ?_
    obtain ⟨q3, hq3, hf⟩ := pt_b hf
    have hPc : va_P D vwCl ([] : va_W) H := hP.sub [] rfl
    have hDc : va_D A ([] : va_W) := hD.sub [] (by decide) rfl
    refine prt_i (runU_S (pc := 18) (As := [.int ((S 2 0)), .int p1]) (rest := []) C lk_RX10_142 (kX3_atRank l D cA hq3 H.size) ⟨Nat.le_of_ble_eq_true rfl, Nat.le_of_ble_eq_true rfl⟩ ⟨Nat.le_refl _, Nat.le_refl _⟩ hPc hDc hl.1 rfl (Nat.le_of_ble_eq_true rfl) dX10_kth_18) hP hD hS hA [] rfl (fun H locs hP hD hS => ?_)
    refine lv_goto (tgt := 25) (pc := 21) hx hb dX10_kth_21 (by decide) ?_
    cases hf
    exact ret_i C hP hD hS dX10_kth_25
set_option maxRecDepth 100000 in
set_option maxHeartbeats 4000000 in
theorem kX10_kth (l : Launch) (D : va_G) (cA : Nat → ClassId) (a : Nat → Nat) {N : Nat} {S : St} {p1 : Int32} {z : Int32} (hf : fX10_kth N S p1 = some z) : CtI l yX10_kth cX10_kth 2 (some .int) 4 93 D cA (w_X cA a S) (w_X cA a S) [.ref (a 0), .int p1] z := by
  intro sz
  refine Met.ofW (cc := cX10_kth) (maxL := 2) (ret := (some .int)) (by decide) rfl ?_
  intro p e s m args below meth c s₁ B hml hv
  obtain ⟨rfl, hsz, hP, hK, hD0⟩ := hv
  subst hsz
  have C : Cx p s m _ meth c D cA cX10_kth 2 RX10 (some .int) := Cx.of B hml hK
  have hD := hD0.self (sz := s.heap.size)
  have hA : ∀ q : Nat, s.heap.size ≤ q → va_A (w_X cA a S) s.heap.size q := fun q h => Or.inr h
  have hS : va_S (va_A (w_X cA a S) s.heap.size) s.heap s.heap [] := va_S.rf
  have hl := lv_entry ([.ref (a 0), .int p1]) (n := 2) (Nat.le_of_ble_eq_true rfl)
  rw [lg_entry_eq]
  generalize (lg_sl ([.ref (a 0), .int p1]) ++ List.replicate (2 - (lg_sl ([.ref (a 0), .int p1])).length) Slot.unset).toArray = ls at hl ⊢
  exact wX10_kth C hA hf hP hD hS hl
theorem fl_RX10_145 : Cond.fieldLink RX10 145 "SevenOnStrike$Told" "sum" "LSevenOnStrike$Sum;" ∈ wsL_law := by decide +kernel
theorem ge_RX10_145_X_0_21 (C : Cx p s m args meth c D cA cc nL RX10 ret) (hP : va_P D vwCl (w_X cA a S) H) (hdg : decode cc pc = .ok (.getfield 145, 3)) (kk : W p l e R s m args below meth c H locs cells slots Q (F0 m (pc + 3) ls (.ref (a 25) :: rest))) : W p l e R s m args below meth c H locs cells slots Q (F0 m pc ls (.ref (a 21) :: rest)) := by
  obtain ⟨hx, hb, -, hown, hts, hK, -, -, -⟩ := C
  exact va_get (D := D) (ci := 8) (v := .ref (a 25)) (C := RX9) (T := TX9) (N := 7) hx hb hts inlX9 hown hK hP 21 rfl rfl 5 (by decide) (hts _ fl_RX10_145) (fun _ h9 => h9) rfl hdg kk
theorem lk_RX10_149 : LkV RX10 149 yX6_comesTo cX6_comesTo 13 (some .int) 2 := ⟨⟨by decide +kernel, by decide +kernel, by decide +kernel, by decide +kernel, by decide +kernel, by decide +kernel⟩, by decide +kernel, by decide +kernel⟩
theorem lk_RX10_155 : LkV RX10 155 yX6_numbers cX6_numbers 3 (some .int) 0 := ⟨⟨by decide +kernel, by decide +kernel, by decide +kernel, by decide +kernel, by decide +kernel, by decide +kernel⟩, by decide +kernel, by decide +kernel⟩
def fX10_sum (N : Nat) (S : St) (p1 : Int32) : Option (Int32) :=
  if p1 = (0 : Int32) then (Option.bind (fX6_comesTo N (sh S 30) (sh S 3) ((0 : Int32))) (fun q2 => some q2)) else (if p1 = (1 : Int32) then (Option.bind (fX6_comesTo N (sh S 30) (sh S 3) ((S 2 0))) (fun q4 => some q4)) else (if p1 = (2 : Int32) then (Option.bind (fX6_numbers N (sh S 30)) (fun q6 => some q6)) else (some ((-1 : Int32)))))
set_option maxRecDepth 100000 in
set_option maxHeartbeats 4000000 in
theorem wX10_sum (C : Cx p s m args meth c D cA cX10_sum 2 RX10 (some .int)) (hA : ∀ q : Nat, s.heap.size ≤ q → A q) {N : Nat} {z : Int32} {S : St} {p1 : Int32} (hf : fX10_sum N S p1 = some z) {H : Heap} {locs : List Loc} {ls : Array Slot} (hP : va_P D vwCl (w_X cA a S) H) (hD : va_D A (w_X cA a S)) (hS : va_S A s.heap H locs) (hl : lv_has ls 2 [(0, .ref (a 0)), (1, .int p1)]) : W p l e (rmU 3 70 0 0) s m args below meth c H locs 0 0 (MQ below (QI D A z (w_X cA a S)) args s 0 0 A) (F0 m 0 ls []) := by
  obtain ⟨hx, hb, hml, hown, hts, hK, hN, hr, hlk⟩ := id C
  unfold fX10_sum at hf
  refine lv_iload_n (pc := 0) hx hb dX10_sum_0 rfl (lv_at hl 1 rfl) ?_
  by_cases c1 : p1 = (0 : Int32)
  · have hf := pt_t c1 hf
    refine lv_tableIn (off := 27) (tgt := 28) (pc := 1) hx hb dX10_sum_1 (by rw [c1]; decide) (by rw [c1]; decide) (by rw [c1]; rfl) (by decide) ?_
    refine lv_aload_n (pc := 28) hx hb dX10_sum_28 rfl (lv_at hl 0 rfl) ?_
    refine ge_RX10_61_X_0_0 (pc := 29) C hP dX10_sum_29 ?_
    refine ge_RX10_145_X_0_21 (pc := 32) C hP dX10_sum_32 ?_
    refine lv_iconst (v := (0 : Int32)) (pc := 35) hx hb dX10_sum_35 (by decide) ?_
    refine lv_aload_n (pc := 36) hx hb dX10_sum_36 rfl (lv_at hl 0 rfl) ?_
    refine ge_RX10_19_X_0_0 (pc := 37) C hP dX10_sum_37 ?_
    refine ge_RX10_107_X_0_3 (pc := 40) C hP dX10_sum_40 ?_
    obtain ⟨q2, hq2, hf⟩ := pt_b hf
    have hPc : va_P D vwCl (w_U_A cA (sh a 25) (sh S 30) (sh a 4) (sh S 3)) H := hP.sub [25, 26, 4] rfl
    have hDc : va_D A (w_U_A cA (sh a 25) (sh S 30) (sh a 4) (sh S 3)) := hD.sub [25, 26, 4] (by decide) rfl
    refine prt_i (runU_V (pc := 43) (As := [.int ((0 : Int32)), .ref (a 4)]) (b := a 25) (rest := []) (ci := 5) (q0 := 0) C lk_RX10_149 (kX6_comesTo l D cA (sh a 25) (sh a 4) hq2 H.size) ⟨Nat.le_of_ble_eq_true rfl, Nat.le_of_ble_eq_true rfl⟩ ⟨Nat.le_refl _, Nat.le_refl _⟩ hPc hDc rfl rfl rfl hl.1 rfl (Nat.le_of_ble_eq_true rfl) dX10_sum_43) hP hD hS hA [25, 26, 4] rfl (fun H locs hP hD hS => ?_)
    cases hf
    exact ret_i C hP hD hS dX10_sum_46
  · have hf := pt_f c1 hf
    by_cases c3 : p1 = (1 : Int32)
    · have hf := pt_t c3 hf
      refine lv_tableIn (off := 46) (tgt := 47) (pc := 1) hx hb dX10_sum_1 (by rw [c3]; decide) (by rw [c3]; decide) (by rw [c3]; rfl) (by decide) ?_
      refine lv_aload_n (pc := 47) hx hb dX10_sum_47 rfl (lv_at hl 0 rfl) ?_
      refine ge_RX10_61_X_0_0 (pc := 48) C hP dX10_sum_48 ?_
      refine ge_RX10_145_X_0_21 (pc := 51) C hP dX10_sum_51 ?_
      refine lv_aload_n (pc := 54) hx hb dX10_sum_54 rfl (lv_at hl 0 rfl) ?_
      refine ge_RX10_19_X_0_0 (pc := 55) C hP dX10_sum_55 ?_
      refine ge_RX10_117_X_0_3 (pc := 58) C hP dX10_sum_58 ?_
      refine lv_aload_n (pc := 61) hx hb dX10_sum_61 rfl (lv_at hl 0 rfl) ?_
      refine ge_RX10_19_X_0_0 (pc := 62) C hP dX10_sum_62 ?_
      refine ge_RX10_107_X_0_3 (pc := 65) C hP dX10_sum_65 ?_
      obtain ⟨q4, hq4, hf⟩ := pt_b hf
      have hPc : va_P D vwCl (w_U_A cA (sh a 25) (sh S 30) (sh a 4) (sh S 3)) H := hP.sub [25, 26, 4] rfl
      have hDc : va_D A (w_U_A cA (sh a 25) (sh S 30) (sh a 4) (sh S 3)) := hD.sub [25, 26, 4] (by decide) rfl
      refine prt_i (runU_V (pc := 68) (As := [.int ((S 2 0)), .ref (a 4)]) (b := a 25) (rest := []) (ci := 5) (q0 := 0) C lk_RX10_149 (kX6_comesTo l D cA (sh a 25) (sh a 4) hq4 H.size) ⟨Nat.le_of_ble_eq_true rfl, Nat.le_of_ble_eq_true rfl⟩ ⟨Nat.le_refl _, Nat.le_refl _⟩ hPc hDc rfl rfl rfl hl.1 rfl (Nat.le_of_ble_eq_true rfl) dX10_sum_68) hP hD hS hA [25, 26, 4] rfl (fun H locs hP hD hS => ?_)
      cases hf
      exact ret_i C hP hD hS dX10_sum_71
    · have hf := pt_f c3 hf
      by_cases c5 : p1 = (2 : Int32)
      · have hf := pt_t c5 hf
        refine lv_tableIn (off := 71) (tgt := 72) (pc := 1) hx hb dX10_sum_1 (by rw [c5]; decide) (by rw [c5]; decide) (by rw [c5]; rfl) (by decide) ?_
        refine lv_aload_n (pc := 72) hx hb dX10_sum_72 rfl (lv_at hl 0 rfl) ?_
        refine ge_RX10_61_X_0_0 (pc := 73) C hP dX10_sum_73 ?_
        refine ge_RX10_145_X_0_21 (pc := 76) C hP dX10_sum_76 ?_
        obtain ⟨q6, hq6, hf⟩ := pt_b hf
        have hPc : va_P D vwCl (w_U cA (sh a 25) (sh S 30)) H := hP.sub [25, 26] rfl
        have hDc : va_D A (w_U cA (sh a 25) (sh S 30)) := hD.sub [25, 26] (by decide) rfl
        refine prt_i (runU_V (pc := 79) (As := []) (b := a 25) (rest := []) (ci := 5) (q0 := 0) C lk_RX10_155 (kX6_numbers l D cA (sh a 25) hq6 H.size) ⟨Nat.le_of_ble_eq_true rfl, Nat.le_of_ble_eq_true rfl⟩ ⟨Nat.le_refl _, Nat.le_refl _⟩ hPc hDc rfl rfl rfl hl.1 rfl (Nat.le_of_ble_eq_true rfl) dX10_sum_79) hP hD hS hA [25, 26] rfl (fun H locs hP hD hS => ?_)
        cases hf
        exact ret_i C hP hD hS dX10_sum_82
      · have hf := pt_f c5 hf
        refine lv_tableOut (tgt := 83) (pc := 1) hx hb dX10_sum_1 (by have t0 := lv_neT (a := 0) c1 (by decide); have t1 := lv_neT (a := 1) c3 (by decide); have t2 := lv_neT (a := 2) c5 (by decide); omega) (by decide) ?_
        refine lv_iconst (v := (-1 : Int32)) (pc := 83) hx hb dX10_sum_83 (by decide) ?_
        cases hf
        exact ret_i C hP hD hS dX10_sum_84
set_option maxRecDepth 100000 in
set_option maxHeartbeats 4000000 in
theorem kX10_sum (l : Launch) (D : va_G) (cA : Nat → ClassId) (a : Nat → Nat) {N : Nat} {S : St} {p1 : Int32} {z : Int32} (hf : fX10_sum N S p1 = some z) : CtI l yX10_sum cX10_sum 2 (some .int) 3 70 D cA (w_X cA a S) (w_X cA a S) [.ref (a 0), .int p1] z := by
  intro sz
  refine Met.ofW (cc := cX10_sum) (maxL := 2) (ret := (some .int)) (by decide) rfl ?_
  intro p e s m args below meth c s₁ B hml hv
  obtain ⟨rfl, hsz, hP, hK, hD0⟩ := hv
  subst hsz
  have C : Cx p s m _ meth c D cA cX10_sum 2 RX10 (some .int) := Cx.of B hml hK
  have hD := hD0.self (sz := s.heap.size)
  have hA : ∀ q : Nat, s.heap.size ≤ q → va_A (w_X cA a S) s.heap.size q := fun q h => Or.inr h
  have hS : va_S (va_A (w_X cA a S) s.heap.size) s.heap s.heap [] := va_S.rf
  have hl := lv_entry ([.ref (a 0), .int p1]) (n := 2) (Nat.le_of_ble_eq_true rfl)
  rw [lg_entry_eq]
  generalize (lg_sl ([.ref (a 0), .int p1]) ++ List.replicate (2 - (lg_sl ([.ref (a 0), .int p1])).length) Slot.unset).toArray = ls at hl ⊢
  exact wX10_sum C hA hf hP hD hS hl
theorem fl_RX10_47 : Cond.fieldLink RX10 47 "SevenOnStrike" "speech" "LSevenOnStrike$Speech;" ∈ wsL_law := by decide +kernel
theorem ge_RX10_47_X_0_0 (C : Cx p s m args meth c D cA cc nL RX10 ret) (hP : va_P D vwCl (w_X cA a S) H) (hdg : decode cc pc = .ok (.getfield 47, 3)) (kk : W p l e R s m args below meth c H locs cells slots Q (F0 m (pc + 3) ls (.ref (a 17) :: rest))) : W p l e R s m args below meth c H locs cells slots Q (F0 m pc ls (.ref (a 0) :: rest)) := by
  obtain ⟨hx, hb, -, hown, hts, hK, -, -, -⟩ := C
  exact va_get (D := D) (ci := 9) (v := .ref (a 17)) (C := RX10) (T := TX10) (N := 9) hx hb hts inlX10 hown hK hP 0 rfl rfl 5 (by decide) (hts _ fl_RX10_47) (fun _ h9 => h9) rfl hdg kk
theorem lk_RX10_158 : LkV RX10 158 yX5_find cX5_find 4 none 2 := ⟨⟨by decide +kernel, by decide +kernel, by decide +kernel, by decide +kernel, by decide +kernel, by decide +kernel⟩, by decide +kernel, by decide +kernel⟩
theorem fl_RX10_161 : Cond.fieldLink RX10 161 "SevenOnStrike$Speech" "found" "I" ∈ wsL_law := by decide +kernel
theorem ge_RX10_161_X_0_17 (C : Cx p s m args meth c D cA cc nL RX10 ret) (hP : va_P D vwCl (w_X cA a S) H) (hdg : decode cc pc = .ok (.getfield 161, 3)) (kk : W p l e R s m args below meth c H locs cells slots Q (F0 m (pc + 3) ls (.int (S 16 0) :: rest))) : W p l e R s m args below meth c H locs cells slots Q (F0 m pc ls (.ref (a 17) :: rest)) := by
  obtain ⟨hx, hb, -, hown, hts, hK, -, -, -⟩ := C
  exact va_get (D := D) (ci := 4) (v := .int (S 16 0)) (C := RX5) (T := TX5) (N := 7) hx hb hts inlX5 hown hK hP 17 rfl rfl 2 (by decide) (hts _ fl_RX10_161) (fun _ h9 => h9) rfl hdg kk
def fX10_ways (N : Nat) (S : St) (p1 : Int32) : Option (Int32 × St) :=
  Option.bind (fX10_isWithin N p1 ((0 : Int32)) ((999 : Int32))) (fun q1 => if q1 = 0 then (some ((-1 : Int32), S)) else (Option.bind (fX5_find N (sh S 15) p1 ((S 2 0))) (fun q3 => some (((pt S 15 7 q3) 16 0), (pt S 15 7 q3)))))
set_option maxRecDepth 100000 in
set_option maxHeartbeats 4000000 in
theorem wX10_ways (C : Cx p s m args meth c D cA cX10_ways 2 RX10 (some .int)) (hA : ∀ q : Nat, s.heap.size ≤ q → A q) {N : Nat} {z : Int32 × St} {S : St} {p1 : Int32} (hf : fX10_ways N S p1 = some z) {H : Heap} {locs : List Loc} {ls : Array Slot} (hP : va_P D vwCl (w_X cA a S) H) (hD : va_D A (w_X cA a S)) (hS : va_S A s.heap H locs) (hl : lv_has ls 2 [(0, .ref (a 0)), (1, .int p1)]) : W p l e (rmU 4 90 0 0) s m args below meth c H locs 0 0 (MQ below (QI D A z.1 (w_X cA a z.2)) args s 0 0 A) (F0 m 0 ls []) := by
  obtain ⟨hx, hb, hml, hown, hts, hK, hN, hr, hlk⟩ := id C
  unfold fX10_ways at hf
  refine lv_iload_n (pc := 0) hx hb dX10_ways_0 rfl (lv_at hl 1 rfl) ?_
  refine lv_iconst (v := (0 : Int32)) (pc := 1) hx hb dX10_ways_1 (by decide) ?_
  refine lv_sipush (v := (999 : Int32)) (pc := 2) hx hb dX10_ways_2 (by decide) ?_
  obtain ⟨q1, hq1, hf⟩ := pt_b hf
  have hPc : va_P D vwCl ([] : va_W) H := hP.sub [] rfl
  have hDc : va_D A ([] : va_W) := hD.sub [] (by decide) rfl
  refine prt_i (runU_S (pc := 5) (As := [.int p1, .int ((0 : Int32)), .int ((999 : Int32))]) (rest := []) C lk_RX10_100 (kX10_isWithin l D cA hq1 H.size) ⟨Nat.le_of_ble_eq_true rfl, Nat.le_of_ble_eq_true rfl⟩ ⟨Nat.le_refl _, Nat.le_refl _⟩ hPc hDc hl.1 rfl (Nat.le_of_ble_eq_true rfl) dX10_ways_5) hP hD hS hA [] rfl (fun H locs hP hD hS => ?_)
  refine lv_if_ne (tgt := 13) (pc := 8) hx hb dX10_ways_8 (by decide) (fun c2 => ?_) (fun c2 => ?_)
  · have hf := pt_f c2 hf
    refine lv_aload_n (pc := 13) hx hb dX10_ways_13 rfl (lv_at hl 0 rfl) ?_
    refine ge_RX10_47_X_0_0 (pc := 14) C hP dX10_ways_14 ?_
    refine lv_iload_n (pc := 17) hx hb dX10_ways_17 rfl (lv_at hl 1 rfl) ?_
    refine lv_aload_n (pc := 18) hx hb dX10_ways_18 rfl (lv_at hl 0 rfl) ?_
    refine ge_RX10_19_X_0_0 (pc := 19) C hP dX10_ways_19 ?_
    refine ge_RX10_117_X_0_3 (pc := 22) C hP dX10_ways_22 ?_
    obtain ⟨q3, hq3, hf⟩ := pt_b hf
    have hPc : va_P D vwCl (w_S cA (sh a 17) (sh S 15)) H := hP.sub [17, 18] rfl
    have hDc : va_D A (w_S cA (sh a 17) (sh S 15)) := hD.sub [17, 18] (by decide) rfl
    refine upd_v (W1 := (w_S cA (sh a 17) q3)) (runU_V (pc := 25) (As := [.int p1, .int ((S 2 0))]) (b := a 17) (rest := []) (ci := 4) (q0 := 0) C lk_RX10_158 (kX5_find l D cA (sh a 17) hq3 H.size) ⟨Nat.le_of_ble_eq_true rfl, Nat.le_of_ble_eq_true rfl⟩ ⟨Nat.le_refl _, Nat.le_refl _⟩ hPc hDc rfl rfl rfl hl.1 rfl (Nat.le_of_ble_eq_true rfl) dX10_ways_25) hP hD hS hA [17, 18] rfl (by decide) rfl (fun H locs hP hD hS => ?_)
    have hP : va_P D vwCl (w_X cA a (pt S 15 7 q3)) H := hP
    have hD : va_D A (w_X cA a (pt S 15 7 q3)) := hD
    refine lv_aload_n (pc := 28) hx hb dX10_ways_28 rfl (lv_at hl 0 rfl) ?_
    refine ge_RX10_47_X_0_0 (pc := 29) C hP dX10_ways_29 ?_
    refine ge_RX10_161_X_0_17 (pc := 32) C hP dX10_ways_32 ?_
    cases hf
    exact ret_i C hP hD hS dX10_ways_35
  · have hf := pt_t c2 hf
    refine lv_iconst (v := (-1 : Int32)) (pc := 11) hx hb dX10_ways_11 (by decide) ?_
    cases hf
    exact ret_i C hP hD hS dX10_ways_12
set_option maxRecDepth 100000 in
set_option maxHeartbeats 4000000 in
theorem kX10_ways (l : Launch) (D : va_G) (cA : Nat → ClassId) (a : Nat → Nat) {N : Nat} {S : St} {p1 : Int32} {z : Int32 × St} (hf : fX10_ways N S p1 = some z) : CtI l yX10_ways cX10_ways 2 (some .int) 4 90 D cA (w_X cA a S) (w_X cA a z.2) [.ref (a 0), .int p1] z.1 := by
  intro sz
  refine Met.ofW (cc := cX10_ways) (maxL := 2) (ret := (some .int)) (by decide) rfl ?_
  intro p e s m args below meth c s₁ B hml hv
  obtain ⟨rfl, hsz, hP, hK, hD0⟩ := hv
  subst hsz
  have C : Cx p s m _ meth c D cA cX10_ways 2 RX10 (some .int) := Cx.of B hml hK
  have hD := hD0.self (sz := s.heap.size)
  have hA : ∀ q : Nat, s.heap.size ≤ q → va_A (w_X cA a S) s.heap.size q := fun q h => Or.inr h
  have hS : va_S (va_A (w_X cA a S) s.heap.size) s.heap s.heap [] := va_S.rf
  have hl := lv_entry ([.ref (a 0), .int p1]) (n := 2) (Nat.le_of_ble_eq_true rfl)
  rw [lg_entry_eq]
  generalize (lg_sl ([.ref (a 0), .int p1]) ++ List.replicate (2 - (lg_sl ([.ref (a 0), .int p1])).length) Slot.unset).toArray = ls at hl ⊢
  exact wX10_ways C hA hf hP hD hS hl
theorem fl_RX10_164 : Cond.fieldLink RX10 164 "SevenOnStrike$Speech" "letters" "I" ∈ wsL_law := by decide +kernel
theorem ge_RX10_164_X_0_17 (C : Cx p s m args meth c D cA cc nL RX10 ret) (hP : va_P D vwCl (w_X cA a S) H) (hdg : decode cc pc = .ok (.getfield 164, 3)) (kk : W p l e R s m args below meth c H locs cells slots Q (F0 m (pc + 3) ls (.int (S 17 0) :: rest))) : W p l e R s m args below meth c H locs cells slots Q (F0 m pc ls (.ref (a 17) :: rest)) := by
  obtain ⟨hx, hb, -, hown, hts, hK, -, -, -⟩ := C
  exact va_get (D := D) (ci := 4) (v := .int (S 17 0)) (C := RX5) (T := TX5) (N := 7) hx hb hts inlX5 hown hK hP 17 rfl rfl 3 (by decide) (hts _ fl_RX10_164) (fun _ h9 => h9) rfl hdg kk
theorem fl_RX10_167 : Cond.fieldLink RX10 167 "SevenOnStrike$Speech" "kind" "I" ∈ wsL_law := by decide +kernel
theorem ge_RX10_167_X_0_17 (C : Cx p s m args meth c D cA cc nL RX10 ret) (hP : va_P D vwCl (w_X cA a S) H) (hdg : decode cc pc = .ok (.getfield 167, 3)) (kk : W p l e R s m args below meth c H locs cells slots Q (F0 m (pc + 3) ls (.int (S 18 0) :: rest))) : W p l e R s m args below meth c H locs cells slots Q (F0 m pc ls (.ref (a 17) :: rest)) := by
  obtain ⟨hx, hb, -, hown, hts, hK, -, -, -⟩ := C
  exact va_get (D := D) (ci := 4) (v := .int (S 18 0)) (C := RX5) (T := TX5) (N := 7) hx hb hts inlX5 hown hK hP 17 rfl rfl 4 (by decide) (hts _ fl_RX10_167) (fun _ h9 => h9) rfl hdg kk
theorem fl_RX10_170 : Cond.fieldLink RX10 170 "SevenOnStrike$Speech" "first" "I" ∈ wsL_law := by decide +kernel
theorem ge_RX10_170_X_0_17 (C : Cx p s m args meth c D cA cc nL RX10 ret) (hP : va_P D vwCl (w_X cA a S) H) (hdg : decode cc pc = .ok (.getfield 170, 3)) (kk : W p l e R s m args below meth c H locs cells slots Q (F0 m (pc + 3) ls (.int (S 19 0) :: rest))) : W p l e R s m args below meth c H locs cells slots Q (F0 m pc ls (.ref (a 17) :: rest)) := by
  obtain ⟨hx, hb, -, hown, hts, hK, -, -, -⟩ := C
  exact va_get (D := D) (ci := 4) (v := .int (S 19 0)) (C := RX5) (T := TX5) (N := 7) hx hb hts inlX5 hown hK hP 17 rfl rfl 5 (by decide) (hts _ fl_RX10_170) (fun _ h9 => h9) rfl hdg kk
theorem fl_RX10_173 : Cond.fieldLink RX10 173 "SevenOnStrike$Speech" "second" "I" ∈ wsL_law := by decide +kernel
theorem ge_RX10_173_X_0_17 (C : Cx p s m args meth c D cA cc nL RX10 ret) (hP : va_P D vwCl (w_X cA a S) H) (hdg : decode cc pc = .ok (.getfield 173, 3)) (kk : W p l e R s m args below meth c H locs cells slots Q (F0 m (pc + 3) ls (.int (S 20 0) :: rest))) : W p l e R s m args below meth c H locs cells slots Q (F0 m pc ls (.ref (a 17) :: rest)) := by
  obtain ⟨hx, hb, -, hown, hts, hK, -, -, -⟩ := C
  exact va_get (D := D) (ci := 4) (v := .int (S 20 0)) (C := RX5) (T := TX5) (N := 7) hx hb hts inlX5 hown hK hP 17 rfl rfl 6 (by decide) (hts _ fl_RX10_173) (fun _ h9 => h9) rfl hdg kk
def fX10_shortest (N : Nat) (S : St) (p1 : Int32) (p2 : Int32) : Option (Int32 × St) :=
  Option.bind (fX10_isWithin N p1 ((0 : Int32)) ((999 : Int32))) (fun q1 => if q1 = 0 then (some ((-1 : Int32), S)) else (Option.bind (fX10_isWithin N p2 ((0 : Int32)) ((3 : Int32))) (fun q3 => if q3 = 0 then (some ((-1 : Int32), S)) else (Option.bind (fX5_find N (sh S 15) p1 ((S 2 0))) (fun q5 => if ((pt S 15 7 q5) 16 0) = 0 then (some ((-4 : Int32), (pt S 15 7 q5))) else (if p2 = (0 : Int32) then (some (((pt S 15 7 q5) 17 0), (pt S 15 7 q5))) else (if p2 = (1 : Int32) then (some (((pt S 15 7 q5) 18 0), (pt S 15 7 q5))) else (if p2 = (2 : Int32) then (some (((pt S 15 7 q5) 19 0), (pt S 15 7 q5))) else (some (((pt S 15 7 q5) 20 0), (pt S 15 7 q5)))))))))))
set_option maxRecDepth 100000 in
set_option maxHeartbeats 4000000 in
theorem wX10_shortest (C : Cx p s m args meth c D cA cX10_shortest 3 RX10 (some .int)) (hA : ∀ q : Nat, s.heap.size ≤ q → A q) {N : Nat} {z : Int32 × St} {S : St} {p1 : Int32} {p2 : Int32} (hf : fX10_shortest N S p1 p2 = some z) {H : Heap} {locs : List Loc} {ls : Array Slot} (hP : va_P D vwCl (w_X cA a S) H) (hD : va_D A (w_X cA a S)) (hS : va_S A s.heap H locs) (hl : lv_has ls 3 [(0, .ref (a 0)), (1, .int p1), (2, .int p2)]) : W p l e (rmU 4 90 0 0) s m args below meth c H locs 0 0 (MQ below (QI D A z.1 (w_X cA a z.2)) args s 0 0 A) (F0 m 0 ls []) := by
  obtain ⟨hx, hb, hml, hown, hts, hK, hN, hr, hlk⟩ := id C
  unfold fX10_shortest at hf
  refine lv_iload_n (pc := 0) hx hb dX10_shortest_0 rfl (lv_at hl 1 rfl) ?_
  refine lv_iconst (v := (0 : Int32)) (pc := 1) hx hb dX10_shortest_1 (by decide) ?_
  refine lv_sipush (v := (999 : Int32)) (pc := 2) hx hb dX10_shortest_2 (by decide) ?_
  obtain ⟨q1, hq1, hf⟩ := pt_b hf
  have hPc : va_P D vwCl ([] : va_W) H := hP.sub [] rfl
  have hDc : va_D A ([] : va_W) := hD.sub [] (by decide) rfl
  refine prt_i (runU_S (pc := 5) (As := [.int p1, .int ((0 : Int32)), .int ((999 : Int32))]) (rest := []) C lk_RX10_100 (kX10_isWithin l D cA hq1 H.size) ⟨Nat.le_of_ble_eq_true rfl, Nat.le_of_ble_eq_true rfl⟩ ⟨Nat.le_refl _, Nat.le_refl _⟩ hPc hDc hl.1 rfl (Nat.le_of_ble_eq_true rfl) dX10_shortest_5) hP hD hS hA [] rfl (fun H locs hP hD hS => ?_)
  refine lv_if_eq (tgt := 20) (pc := 8) hx hb dX10_shortest_8 (by decide) (fun c2 => ?_) (fun c2 => ?_)
  · have hf := pt_t c2 hf
    refine lv_iconst (v := (-1 : Int32)) (pc := 20) hx hb dX10_shortest_20 (by decide) ?_
    cases hf
    exact ret_i C hP hD hS dX10_shortest_21
  · have hf := pt_f c2 hf
    refine lv_iload_n (pc := 11) hx hb dX10_shortest_11 rfl (lv_at hl 2 rfl) ?_
    refine lv_iconst (v := (0 : Int32)) (pc := 12) hx hb dX10_shortest_12 (by decide) ?_
    refine lv_iconst (v := (3 : Int32)) (pc := 13) hx hb dX10_shortest_13 (by decide) ?_
    obtain ⟨q3, hq3, hf⟩ := pt_b hf
    have hPc : va_P D vwCl ([] : va_W) H := hP.sub [] rfl
    have hDc : va_D A ([] : va_W) := hD.sub [] (by decide) rfl
    refine prt_i (runU_S (pc := 14) (As := [.int p2, .int ((0 : Int32)), .int ((3 : Int32))]) (rest := []) C lk_RX10_100 (kX10_isWithin l D cA hq3 H.size) ⟨Nat.le_of_ble_eq_true rfl, Nat.le_of_ble_eq_true rfl⟩ ⟨Nat.le_refl _, Nat.le_refl _⟩ hPc hDc hl.1 rfl (Nat.le_of_ble_eq_true rfl) dX10_shortest_14) hP hD hS hA [] rfl (fun H locs hP hD hS => ?_)
    refine lv_if_ne (tgt := 22) (pc := 17) hx hb dX10_shortest_17 (by decide) (fun c4 => ?_) (fun c4 => ?_)
    · have hf := pt_f c4 hf
      refine lv_aload_n (pc := 22) hx hb dX10_shortest_22 rfl (lv_at hl 0 rfl) ?_
      refine ge_RX10_47_X_0_0 (pc := 23) C hP dX10_shortest_23 ?_
      refine lv_iload_n (pc := 26) hx hb dX10_shortest_26 rfl (lv_at hl 1 rfl) ?_
      refine lv_aload_n (pc := 27) hx hb dX10_shortest_27 rfl (lv_at hl 0 rfl) ?_
      refine ge_RX10_19_X_0_0 (pc := 28) C hP dX10_shortest_28 ?_
      refine ge_RX10_117_X_0_3 (pc := 31) C hP dX10_shortest_31 ?_
      obtain ⟨q5, hq5, hf⟩ := pt_b hf
      have hPc : va_P D vwCl (w_S cA (sh a 17) (sh S 15)) H := hP.sub [17, 18] rfl
      have hDc : va_D A (w_S cA (sh a 17) (sh S 15)) := hD.sub [17, 18] (by decide) rfl
      refine upd_v (W1 := (w_S cA (sh a 17) q5)) (runU_V (pc := 34) (As := [.int p1, .int ((S 2 0))]) (b := a 17) (rest := []) (ci := 4) (q0 := 0) C lk_RX10_158 (kX5_find l D cA (sh a 17) hq5 H.size) ⟨Nat.le_of_ble_eq_true rfl, Nat.le_of_ble_eq_true rfl⟩ ⟨Nat.le_refl _, Nat.le_refl _⟩ hPc hDc rfl rfl rfl hl.1 rfl (Nat.le_of_ble_eq_true rfl) dX10_shortest_34) hP hD hS hA [17, 18] rfl (by decide) rfl (fun H locs hP hD hS => ?_)
      have hP : va_P D vwCl (w_X cA a (pt S 15 7 q5)) H := hP
      have hD : va_D A (w_X cA a (pt S 15 7 q5)) := hD
      refine lv_aload_n (pc := 37) hx hb dX10_shortest_37 rfl (lv_at hl 0 rfl) ?_
      refine ge_RX10_47_X_0_0 (pc := 38) C hP dX10_shortest_38 ?_
      refine ge_RX10_161_X_0_17 (pc := 41) C hP dX10_shortest_41 ?_
      refine lv_if_ne (tgt := 50) (pc := 44) hx hb dX10_shortest_44 (by decide) (fun c6 => ?_) (fun c6 => ?_)
      · have hf := pt_f c6 hf
        refine lv_iload_n (pc := 50) hx hb dX10_shortest_50 rfl (lv_at hl 2 rfl) ?_
        by_cases c7 : p2 = (0 : Int32)
        · have hf := pt_t c7 hf
          refine lv_tableIn (off := 25) (tgt := 76) (pc := 51) hx hb dX10_shortest_51 (by rw [c7]; decide) (by rw [c7]; decide) (by rw [c7]; rfl) (by decide) ?_
          refine lv_aload_n (pc := 76) hx hb dX10_shortest_76 rfl (lv_at hl 0 rfl) ?_
          refine ge_RX10_47_X_0_0 (pc := 77) C hP dX10_shortest_77 ?_
          refine ge_RX10_164_X_0_17 (pc := 80) C hP dX10_shortest_80 ?_
          cases hf
          exact ret_i C hP hD hS dX10_shortest_83
        · have hf := pt_f c7 hf
          by_cases c8 : p2 = (1 : Int32)
          · have hf := pt_t c8 hf
            refine lv_tableIn (off := 33) (tgt := 84) (pc := 51) hx hb dX10_shortest_51 (by rw [c8]; decide) (by rw [c8]; decide) (by rw [c8]; rfl) (by decide) ?_
            refine lv_aload_n (pc := 84) hx hb dX10_shortest_84 rfl (lv_at hl 0 rfl) ?_
            refine ge_RX10_47_X_0_0 (pc := 85) C hP dX10_shortest_85 ?_
            refine ge_RX10_167_X_0_17 (pc := 88) C hP dX10_shortest_88 ?_
            cases hf
            exact ret_i C hP hD hS dX10_shortest_91
          · have hf := pt_f c8 hf
            by_cases c9 : p2 = (2 : Int32)
            · have hf := pt_t c9 hf
              refine lv_tableIn (off := 41) (tgt := 92) (pc := 51) hx hb dX10_shortest_51 (by rw [c9]; decide) (by rw [c9]; decide) (by rw [c9]; rfl) (by decide) ?_
              refine lv_aload_n (pc := 92) hx hb dX10_shortest_92 rfl (lv_at hl 0 rfl) ?_
              refine ge_RX10_47_X_0_0 (pc := 93) C hP dX10_shortest_93 ?_
              refine ge_RX10_170_X_0_17 (pc := 96) C hP dX10_shortest_96 ?_
              cases hf
              exact ret_i C hP hD hS dX10_shortest_99
            · have hf := pt_f c9 hf
              refine lv_tableOut (tgt := 100) (pc := 51) hx hb dX10_shortest_51 (by have t0 := lv_neT (a := 0) c7 (by decide); have t1 := lv_neT (a := 1) c8 (by decide); have t2 := lv_neT (a := 2) c9 (by decide); omega) (by decide) ?_
              refine lv_aload_n (pc := 100) hx hb dX10_shortest_100 rfl (lv_at hl 0 rfl) ?_
              refine ge_RX10_47_X_0_0 (pc := 101) C hP dX10_shortest_101 ?_
              refine ge_RX10_173_X_0_17 (pc := 104) C hP dX10_shortest_104 ?_
              cases hf
              exact ret_i C hP hD hS dX10_shortest_107
      · have hf := pt_t c6 hf
        refine lv_bipush (v := (-4 : Int32)) (pc := 47) hx hb dX10_shortest_47 (by decide) ?_
        cases hf
        exact ret_i C hP hD hS dX10_shortest_49
    · have hf := pt_t c4 hf
      refine lv_iconst (v := (-1 : Int32)) (pc := 20) hx hb dX10_shortest_20 (by decide) ?_
      cases hf
      exact ret_i C hP hD hS dX10_shortest_21
set_option maxRecDepth 100000 in
set_option maxHeartbeats 4000000 in
theorem kX10_shortest (l : Launch) (D : va_G) (cA : Nat → ClassId) (a : Nat → Nat) {N : Nat} {S : St} {p1 : Int32} {p2 : Int32} {z : Int32 × St} (hf : fX10_shortest N S p1 p2 = some z) : CtI l yX10_shortest cX10_shortest 3 (some .int) 4 90 D cA (w_X cA a S) (w_X cA a z.2) [.ref (a 0), .int p1, .int p2] z.1 := by
  intro sz
  refine Met.ofW (cc := cX10_shortest) (maxL := 3) (ret := (some .int)) (by decide) rfl ?_
  intro p e s m args below meth c s₁ B hml hv
  obtain ⟨rfl, hsz, hP, hK, hD0⟩ := hv
  subst hsz
  have C : Cx p s m _ meth c D cA cX10_shortest 3 RX10 (some .int) := Cx.of B hml hK
  have hD := hD0.self (sz := s.heap.size)
  have hA : ∀ q : Nat, s.heap.size ≤ q → va_A (w_X cA a S) s.heap.size q := fun q h => Or.inr h
  have hS : va_S (va_A (w_X cA a S) s.heap.size) s.heap s.heap [] := va_S.rf
  have hl := lv_entry ([.ref (a 0), .int p1, .int p2]) (n := 3) (Nat.le_of_ble_eq_true rfl)
  rw [lg_entry_eq]
  generalize (lg_sl ([.ref (a 0), .int p1, .int p2]) ++ List.replicate (3 - (lg_sl ([.ref (a 0), .int p1, .int p2])).length) Slot.unset).toArray = ls at hl ⊢
  exact wX10_shortest C hA hf hP hD hS hl
theorem fl_RX10_54 : Cond.fieldLink RX10 54 "SevenOnStrike" "till" "LSevenOnStrike$Till;" ∈ wsL_law := by decide +kernel
theorem ge_RX10_54_X_0_0 (C : Cx p s m args meth c D cA cc nL RX10 ret) (hP : va_P D vwCl (w_X cA a S) H) (hdg : decode cc pc = .ok (.getfield 54, 3)) (kk : W p l e R s m args below meth c H locs cells slots Q (F0 m (pc + 3) ls (.ref (a 19) :: rest))) : W p l e R s m args below meth c H locs cells slots Q (F0 m pc ls (.ref (a 0) :: rest)) := by
  obtain ⟨hx, hb, -, hown, hts, hK, -, -, -⟩ := C
  exact va_get (D := D) (ci := 9) (v := .ref (a 19)) (C := RX10) (T := TX10) (N := 9) hx hb hts inlX10 hown hK hP 0 rfl rfl 6 (by decide) (hts _ fl_RX10_54) (fun _ h9 => h9) rfl hdg kk
theorem lk_RX10_176 : LkV RX10 176 yX8_countFewest cX8_countFewest 6 none 2 := ⟨⟨by decide +kernel, by decide +kernel, by decide +kernel, by decide +kernel, by decide +kernel, by decide +kernel⟩, by decide +kernel, by decide +kernel⟩
theorem lk_RX10_180 : LkV RX10 180 yX8_isMade cX8_isMade 2 (some .boolean) 1 := ⟨⟨by decide +kernel, by decide +kernel, by decide +kernel, by decide +kernel, by decide +kernel, by decide +kernel⟩, by decide +kernel, by decide +kernel⟩
theorem fl_RX10_183 : Cond.fieldLink RX10 183 "SevenOnStrike$Till" "row" "[I" ∈ wsL_law := by decide +kernel
theorem ge_RX10_183_X_0_19 (C : Cx p s m args meth c D cA cc nL RX10 ret) (hP : va_P D vwCl (w_X cA a S) H) (hdg : decode cc pc = .ok (.getfield 183, 3)) (kk : W p l e R s m args below meth c H locs cells slots Q (F0 m (pc + 3) ls (.ref (a 20) :: rest))) : W p l e R s m args below meth c H locs cells slots Q (F0 m pc ls (.ref (a 19) :: rest)) := by
  obtain ⟨hx, hb, -, hown, hts, hK, -, -, -⟩ := C
  exact va_get (D := D) (ci := 7) (v := .ref (a 20)) (C := RX8) (T := TX8) (N := 1) hx hb hts inlX8 hown hK hP 19 rfl rfl 0 (by decide) (hts _ fl_RX10_183) (fun _ h9 => h9) rfl hdg kk
theorem ld_X_0_20 {i : Int32} {j : Nat} (C : Cx p s m args meth c D cA cc nL own ret) (hP : va_P D vwCl (w_X cA a S) H) (hin : vp_in i 201) (hj : i.toNatClampNeg = j) (hdg : decode cc pc = .ok (.iaload, 1)) (kk : W p l e R s m args below meth c H locs cells slots Q (F0 m (pc + 1) ls (.int (S 22 j) :: rest))) : W p l e R s m args below meth c H locs cells slots Q (F0 m pc ls (.int i :: .ref (a 20) :: rest)) := by
  obtain ⟨hx, hb, -, hown, hts, hK, -, -, -⟩ := C
  subst hj
  exact va_iald hx hb hK hP 20 0 rfl rfl hin hdg kk
def fX10_change (N : Nat) (S : St) (p1 : Int32) : Option (Int32 × St) :=
  Option.bind (fX10_isWithin N p1 ((0 : Int32)) ((200 : Int32))) (fun q1 => if q1 = 0 then (some ((-1 : Int32), S)) else (Option.bind (fX8_countFewest N (sh S 22) (sh S 23) ((S 2 0))) (fun q3 => Option.bind (fX8_isMade N (sh (pt S 22 1 q3) 22) p1) (fun q4 => if q4 = 0 then (some ((-4 : Int32), (pt S 22 1 q3))) else (if ¬ (p1 < 0 ∨ 201 ≤ p1.toNatClampNeg) then (some (((pt S 22 1 q3) 22 p1.toNatClampNeg), (pt S 22 1 q3))) else none)))))
set_option maxRecDepth 100000 in
set_option maxHeartbeats 4000000 in
theorem wX10_change (C : Cx p s m args meth c D cA cX10_change 2 RX10 (some .int)) (hA : ∀ q : Nat, s.heap.size ≤ q → A q) {N : Nat} {z : Int32 × St} {S : St} {p1 : Int32} (hf : fX10_change N S p1 = some z) {H : Heap} {locs : List Loc} {ls : Array Slot} (hP : va_P D vwCl (w_X cA a S) H) (hD : va_D A (w_X cA a S)) (hS : va_S A s.heap H locs) (hl : lv_has ls 2 [(0, .ref (a 0)), (1, .int p1)]) : W p l e (rmU 2 48 0 0) s m args below meth c H locs 0 0 (MQ below (QI D A z.1 (w_X cA a z.2)) args s 0 0 A) (F0 m 0 ls []) := by
  obtain ⟨hx, hb, hml, hown, hts, hK, hN, hr, hlk⟩ := id C
  unfold fX10_change at hf
  refine lv_iload_n (pc := 0) hx hb dX10_change_0 rfl (lv_at hl 1 rfl) ?_
  refine lv_iconst (v := (0 : Int32)) (pc := 1) hx hb dX10_change_1 (by decide) ?_
  refine lv_sipush (v := (200 : Int32)) (pc := 2) hx hb dX10_change_2 (by decide) ?_
  obtain ⟨q1, hq1, hf⟩ := pt_b hf
  have hPc : va_P D vwCl ([] : va_W) H := hP.sub [] rfl
  have hDc : va_D A ([] : va_W) := hD.sub [] (by decide) rfl
  refine prt_i (runU_S (pc := 5) (As := [.int p1, .int ((0 : Int32)), .int ((200 : Int32))]) (rest := []) C lk_RX10_100 (kX10_isWithin l D cA hq1 H.size) ⟨Nat.le_of_ble_eq_true rfl, Nat.le_of_ble_eq_true rfl⟩ ⟨Nat.le_refl _, Nat.le_refl _⟩ hPc hDc hl.1 rfl (Nat.le_of_ble_eq_true rfl) dX10_change_5) hP hD hS hA [] rfl (fun H locs hP hD hS => ?_)
  refine lv_if_ne (tgt := 13) (pc := 8) hx hb dX10_change_8 (by decide) (fun c2 => ?_) (fun c2 => ?_)
  · have hf := pt_f c2 hf
    refine lv_aload_n (pc := 13) hx hb dX10_change_13 rfl (lv_at hl 0 rfl) ?_
    refine ge_RX10_54_X_0_0 (pc := 14) C hP dX10_change_14 ?_
    refine lv_aload_n (pc := 17) hx hb dX10_change_17 rfl (lv_at hl 0 rfl) ?_
    refine ge_RX10_61_X_0_0 (pc := 18) C hP dX10_change_18 ?_
    refine lv_aload_n (pc := 21) hx hb dX10_change_21 rfl (lv_at hl 0 rfl) ?_
    refine ge_RX10_19_X_0_0 (pc := 22) C hP dX10_change_22 ?_
    refine ge_RX10_117_X_0_3 (pc := 25) C hP dX10_change_25 ?_
    obtain ⟨q3, hq3, hf⟩ := pt_b hf
    have hPc : va_P D vwCl (w_L_D cA (sh a 19) (sh S 22) (sh a 21) (sh S 23)) H := hP.sub [19, 20, 21, 22, 23, 24, 25, 26] rfl
    have hDc : va_D A (w_L_D cA (sh a 19) (sh S 22) (sh a 21) (sh S 23)) := hD.sub [19, 20, 21, 22, 23, 24, 25, 26] (by decide) rfl
    refine upd_v (W1 := (w_L_D cA (sh a 19) q3 (sh a 21) (sh S 23))) (runU_V (pc := 28) (As := [.ref (a 21), .int ((S 2 0))]) (b := a 19) (rest := []) (ci := 7) (q0 := 0) C lk_RX10_176 (kX8_countFewest l D cA (sh a 19) (sh a 21) hq3 H.size) ⟨Nat.le_of_ble_eq_true rfl, Nat.le_of_ble_eq_true rfl⟩ ⟨Nat.le_refl _, Nat.le_refl _⟩ hPc hDc rfl rfl rfl hl.1 rfl (Nat.le_of_ble_eq_true rfl) dX10_change_28) hP hD hS hA [19, 20, 21, 22, 23, 24, 25, 26] rfl (by decide) rfl (fun H locs hP hD hS => ?_)
    have hP : va_P D vwCl (w_X cA a (pt S 22 1 q3)) H := hP
    have hD : va_D A (w_X cA a (pt S 22 1 q3)) := hD
    refine lv_aload_n (pc := 31) hx hb dX10_change_31 rfl (lv_at hl 0 rfl) ?_
    refine ge_RX10_54_X_0_0 (pc := 32) C hP dX10_change_32 ?_
    refine lv_iload_n (pc := 35) hx hb dX10_change_35 rfl (lv_at hl 1 rfl) ?_
    obtain ⟨q4, hq4, hf⟩ := pt_b hf
    have hPc : va_P D vwCl (w_L cA (sh a 19) (sh (pt S 22 1 q3) 22)) H := hP.sub [19, 20] rfl
    have hDc : va_D A (w_L cA (sh a 19) (sh (pt S 22 1 q3) 22)) := hD.sub [19, 20] (by decide) rfl
    refine prt_i (runU_V (pc := 36) (As := [.int p1]) (b := a 19) (rest := []) (ci := 7) (q0 := 0) C lk_RX10_180 (kX8_isMade l D cA (sh a 19) hq4 H.size) ⟨Nat.le_of_ble_eq_true rfl, Nat.le_of_ble_eq_true rfl⟩ ⟨Nat.le_refl _, Nat.le_refl _⟩ hPc hDc rfl rfl rfl hl.1 rfl (Nat.le_of_ble_eq_true rfl) dX10_change_36) hP hD hS hA [19, 20] rfl (fun H locs hP hD hS => ?_)
    refine lv_if_eq (tgt := 54) (pc := 39) hx hb dX10_change_39 (by decide) (fun c5 => ?_) (fun c5 => ?_)
    · have hf := pt_t c5 hf
      refine lv_bipush (v := (-4 : Int32)) (pc := 54) hx hb dX10_change_54 (by decide) ?_
      cases hf
      exact ret_i C hP hD hS dX10_change_56
    · have hf := pt_f c5 hf
      refine lv_aload_n (pc := 42) hx hb dX10_change_42 rfl (lv_at hl 0 rfl) ?_
      refine ge_RX10_54_X_0_0 (pc := 43) C hP dX10_change_43 ?_
      refine ge_RX10_183_X_0_19 (pc := 46) C hP dX10_change_46 ?_
      refine lv_iload_n (pc := 49) hx hb dX10_change_49 rfl (lv_at hl 1 rfl) ?_
      obtain ⟨h6, hf⟩ := pt_g hf
      refine ld_X_0_20 (pc := 50) (j := p1.toNatClampNeg) C hP h6 rfl dX10_change_50 ?_
      refine lv_goto (tgt := 56) (pc := 51) hx hb dX10_change_51 (by decide) ?_
      cases hf
      exact ret_i C hP hD hS dX10_change_56
  · have hf := pt_t c2 hf
    refine lv_iconst (v := (-1 : Int32)) (pc := 11) hx hb dX10_change_11 (by decide) ?_
    cases hf
    exact ret_i C hP hD hS dX10_change_12
set_option maxRecDepth 100000 in
set_option maxHeartbeats 4000000 in
theorem kX10_change (l : Launch) (D : va_G) (cA : Nat → ClassId) (a : Nat → Nat) {N : Nat} {S : St} {p1 : Int32} {z : Int32 × St} (hf : fX10_change N S p1 = some z) : CtI l yX10_change cX10_change 2 (some .int) 2 48 D cA (w_X cA a S) (w_X cA a z.2) [.ref (a 0), .int p1] z.1 := by
  intro sz
  refine Met.ofW (cc := cX10_change) (maxL := 2) (ret := (some .int)) (by decide) rfl ?_
  intro p e s m args below meth c s₁ B hml hv
  obtain ⟨rfl, hsz, hP, hK, hD0⟩ := hv
  subst hsz
  have C : Cx p s m _ meth c D cA cX10_change 2 RX10 (some .int) := Cx.of B hml hK
  have hD := hD0.self (sz := s.heap.size)
  have hA : ∀ q : Nat, s.heap.size ≤ q → va_A (w_X cA a S) s.heap.size q := fun q h => Or.inr h
  have hS : va_S (va_A (w_X cA a S) s.heap.size) s.heap s.heap [] := va_S.rf
  have hl := lv_entry ([.ref (a 0), .int p1]) (n := 2) (Nat.le_of_ble_eq_true rfl)
  rw [lg_entry_eq]
  generalize (lg_sl ([.ref (a 0), .int p1]) ++ List.replicate (2 - (lg_sl ([.ref (a 0), .int p1])).length) Slot.unset).toArray = ls at hl ⊢
  exact wX10_change C hA hf hP hD hS hl
def fX10_never_b22 (N : Nat) (g22 : Int32 × St → Option (Int32 × St)) (x1 : Int32) (S : St) : Option (Int32 × St) :=
  if x1 < (1 : Int32) then (some ((-4 : Int32), S)) else (Option.bind (fX8_isMade N (sh S 22) x1) (fun q2 => if q2 = 0 then (some (x1, S)) else (g22 (((x1 + (-1)), S)))))
def fX10_never_l22 (N : Nat) (k : Nat) (q : Int32 × St) : Option (Int32 × St) := lpN (fun g q => fX10_never_b22 N  g q.1 q.2) k q
def fX10_never (N : Nat) (S : St) : Option (Int32 × St) :=
  Option.bind (fX8_countFewest N (sh S 22) (sh S 23) ((S 2 0))) (fun q1 => fX10_never_l22 N  N (((200 : Int32), (pt S 22 1 q1))))
set_option maxRecDepth 100000 in
set_option maxHeartbeats 4000000 in
theorem wX10_never_22 (C : Cx p s m args meth c D cA cX10_never 2 RX10 (some .int)) (hA : ∀ q : Nat, s.heap.size ≤ q → A q) {N : Nat} {z : Int32 × St} : ∀ (k : Nat) (x1 : Int32) (S : St), fX10_never_l22 N  k (x1, S) = some z → ∀ (H : Heap) (locs : List Loc) (ls : Array Slot), va_P D vwCl (w_X cA a S) H → va_D A (w_X cA a S) → va_S A s.heap H locs → lv_has ls 2 [(0, .ref (a 0)), (1, .int x1)] → W p l e (rmU 2 48 0 0) s m args below meth c H locs 0 0 (MQ below (QI D A z.1 (w_X cA a z.2)) args s 0 0 A) (F0 m 22 ls []) := by
  obtain ⟨hx, hb, hml, hown, hts, hK, hN, hr, hlk⟩ := id C
  intro k
  induction k with
  | zero =>
    intro x1 S hf
    have hf : (none : Option (Int32 × St)) = some z := hf
    cases hf
  | succ k hg22 =>
    intro x1 S hf H locs ls hP hD hS hl
    have hf : fX10_never_b22 N  (fX10_never_l22 N  k) x1 S = some z := hf
    unfold fX10_never_b22 at hf
    refine lv_iload_n (pc := 22) hx hb dX10_never_22 rfl (lv_at hl 1 rfl) ?_
    refine lv_iconst (v := (1 : Int32)) (pc := 23) hx hb dX10_never_23 (by decide) ?_
    refine lv_icmp_lt (tgt := 46) (pc := 24) hx hb dX10_never_24 (by decide) (fun c1 => ?_) (fun c1 => ?_)
    · have hf := pt_t c1 hf
      refine lv_bipush (v := (-4 : Int32)) (pc := 46) hx hb dX10_never_46 (by decide) ?_
      cases hf
      exact ret_i C hP hD hS dX10_never_48
    · have hf := pt_f c1 hf
      refine lv_aload_n (pc := 27) hx hb dX10_never_27 rfl (lv_at hl 0 rfl) ?_
      refine ge_RX10_54_X_0_0 (pc := 28) C hP dX10_never_28 ?_
      refine lv_iload_n (pc := 31) hx hb dX10_never_31 rfl (lv_at hl 1 rfl) ?_
      obtain ⟨q2, hq2, hf⟩ := pt_b hf
      have hPc : va_P D vwCl (w_L cA (sh a 19) (sh S 22)) H := hP.sub [19, 20] rfl
      have hDc : va_D A (w_L cA (sh a 19) (sh S 22)) := hD.sub [19, 20] (by decide) rfl
      refine prt_i (runU_V (pc := 32) (As := [.int x1]) (b := a 19) (rest := []) (ci := 7) (q0 := 0) C lk_RX10_180 (kX8_isMade l D cA (sh a 19) hq2 H.size) ⟨Nat.le_of_ble_eq_true rfl, Nat.le_of_ble_eq_true rfl⟩ ⟨Nat.le_refl _, Nat.le_refl _⟩ hPc hDc rfl rfl rfl hl.1 rfl (Nat.le_of_ble_eq_true rfl) dX10_never_32) hP hD hS hA [19, 20] rfl (fun H locs hP hD hS => ?_)
      refine lv_if_ne (tgt := 40) (pc := 35) hx hb dX10_never_35 (by decide) (fun c3 => ?_) (fun c3 => ?_)
      · have hf := pt_f c3 hf
        refine lv_iinc (v := (x1 + (-1))) (lv' := [(1, .int ((x1 + (-1)))), (0, .ref (a 0))]) (pc := 40) hx hb dX10_never_40 hl (k := 1) rfl (by rfl) (by decide) rfl (fun ls hl => ?_)
        refine lv_goto (tgt := 22) (pc := 43) hx hb dX10_never_43 (by decide) ?_
        exact hg22 ((x1 + (-1))) S hf _ _ _ hP hD hS (lv_sub hl [1, 0] rfl)
      · have hf := pt_t c3 hf
        refine lv_iload_n (pc := 38) hx hb dX10_never_38 rfl (lv_at hl 1 rfl) ?_
        cases hf
        exact ret_i C hP hD hS dX10_never_39
set_option maxRecDepth 100000 in
set_option maxHeartbeats 4000000 in
theorem wX10_never (C : Cx p s m args meth c D cA cX10_never 2 RX10 (some .int)) (hA : ∀ q : Nat, s.heap.size ≤ q → A q) {N : Nat} {z : Int32 × St} {S : St} (hf : fX10_never N S = some z) {H : Heap} {locs : List Loc} {ls : Array Slot} (hP : va_P D vwCl (w_X cA a S) H) (hD : va_D A (w_X cA a S)) (hS : va_S A s.heap H locs) (hl : lv_has ls 2 [(0, .ref (a 0))]) : W p l e (rmU 2 48 0 0) s m args below meth c H locs 0 0 (MQ below (QI D A z.1 (w_X cA a z.2)) args s 0 0 A) (F0 m 0 ls []) := by
  obtain ⟨hx, hb, hml, hown, hts, hK, hN, hr, hlk⟩ := id C
  unfold fX10_never at hf
  refine lv_aload_n (pc := 0) hx hb dX10_never_0 rfl (lv_at hl 0 rfl) ?_
  refine ge_RX10_54_X_0_0 (pc := 1) C hP dX10_never_1 ?_
  refine lv_aload_n (pc := 4) hx hb dX10_never_4 rfl (lv_at hl 0 rfl) ?_
  refine ge_RX10_61_X_0_0 (pc := 5) C hP dX10_never_5 ?_
  refine lv_aload_n (pc := 8) hx hb dX10_never_8 rfl (lv_at hl 0 rfl) ?_
  refine ge_RX10_19_X_0_0 (pc := 9) C hP dX10_never_9 ?_
  refine ge_RX10_117_X_0_3 (pc := 12) C hP dX10_never_12 ?_
  obtain ⟨q1, hq1, hf⟩ := pt_b hf
  have hPc : va_P D vwCl (w_L_D cA (sh a 19) (sh S 22) (sh a 21) (sh S 23)) H := hP.sub [19, 20, 21, 22, 23, 24, 25, 26] rfl
  have hDc : va_D A (w_L_D cA (sh a 19) (sh S 22) (sh a 21) (sh S 23)) := hD.sub [19, 20, 21, 22, 23, 24, 25, 26] (by decide) rfl
  refine upd_v (W1 := (w_L_D cA (sh a 19) q1 (sh a 21) (sh S 23))) (runU_V (pc := 15) (As := [.ref (a 21), .int ((S 2 0))]) (b := a 19) (rest := []) (ci := 7) (q0 := 0) C lk_RX10_176 (kX8_countFewest l D cA (sh a 19) (sh a 21) hq1 H.size) ⟨Nat.le_of_ble_eq_true rfl, Nat.le_of_ble_eq_true rfl⟩ ⟨Nat.le_refl _, Nat.le_refl _⟩ hPc hDc rfl rfl rfl hl.1 rfl (Nat.le_of_ble_eq_true rfl) dX10_never_15) hP hD hS hA [19, 20, 21, 22, 23, 24, 25, 26] rfl (by decide) rfl (fun H locs hP hD hS => ?_)
  have hP : va_P D vwCl (w_X cA a (pt S 22 1 q1)) H := hP
  have hD : va_D A (w_X cA a (pt S 22 1 q1)) := hD
  refine lv_sipush (v := (200 : Int32)) (pc := 18) hx hb dX10_never_18 (by decide) ?_
  refine lv_istore_n (lv' := [(1, .int ((200 : Int32))), (0, .ref (a 0))]) (pc := 21) hx hb dX10_never_21 rfl hl (by decide) rfl (fun ls hl => ?_)
  exact wX10_never_22 C hA  _ ((200 : Int32)) ((pt S 22 1 q1)) hf _ _ _ hP hD hS (lv_sub hl [1, 0] rfl)
set_option maxRecDepth 100000 in
set_option maxHeartbeats 4000000 in
theorem kX10_never (l : Launch) (D : va_G) (cA : Nat → ClassId) (a : Nat → Nat) {N : Nat} {S : St} {z : Int32 × St} (hf : fX10_never N S = some z) : CtI l yX10_never cX10_never 2 (some .int) 2 48 D cA (w_X cA a S) (w_X cA a z.2) [.ref (a 0)] z.1 := by
  intro sz
  refine Met.ofW (cc := cX10_never) (maxL := 2) (ret := (some .int)) (by decide) rfl ?_
  intro p e s m args below meth c s₁ B hml hv
  obtain ⟨rfl, hsz, hP, hK, hD0⟩ := hv
  subst hsz
  have C : Cx p s m _ meth c D cA cX10_never 2 RX10 (some .int) := Cx.of B hml hK
  have hD := hD0.self (sz := s.heap.size)
  have hA : ∀ q : Nat, s.heap.size ≤ q → va_A (w_X cA a S) s.heap.size q := fun q h => Or.inr h
  have hS : va_S (va_A (w_X cA a S) s.heap.size) s.heap s.heap [] := va_S.rf
  have hl := lv_entry ([.ref (a 0)]) (n := 2) (Nat.le_of_ble_eq_true rfl)
  rw [lg_entry_eq]
  generalize (lg_sl ([.ref (a 0)]) ++ List.replicate (2 - (lg_sl ([.ref (a 0)])).length) Slot.unset).toArray = ls at hl ⊢
  exact wX10_never C hA hf hP hD hS hl
theorem lk_RX10_186 : LkV RX10 186 yX8_countWays cX8_countWays 6 none 2 := ⟨⟨by decide +kernel, by decide +kernel, by decide +kernel, by decide +kernel, by decide +kernel, by decide +kernel⟩, by decide +kernel, by decide +kernel⟩
def fX10_pays (N : Nat) (S : St) (p1 : Int32) : Option (Int32 × St) :=
  Option.bind (fX10_isWithin N p1 ((0 : Int32)) ((200 : Int32))) (fun q1 => if q1 = 0 then (some ((-1 : Int32), S)) else (Option.bind (fX8_countWays N (sh S 22) (sh S 23) ((S 2 0))) (fun q3 => if ¬ (p1 < 0 ∨ 201 ≤ p1.toNatClampNeg) then (some (((pt S 22 1 q3) 22 p1.toNatClampNeg), (pt S 22 1 q3))) else none)))
set_option maxRecDepth 100000 in
set_option maxHeartbeats 4000000 in
theorem wX10_pays (C : Cx p s m args meth c D cA cX10_pays 2 RX10 (some .int)) (hA : ∀ q : Nat, s.heap.size ≤ q → A q) {N : Nat} {z : Int32 × St} {S : St} {p1 : Int32} (hf : fX10_pays N S p1 = some z) {H : Heap} {locs : List Loc} {ls : Array Slot} (hP : va_P D vwCl (w_X cA a S) H) (hD : va_D A (w_X cA a S)) (hS : va_S A s.heap H locs) (hl : lv_has ls 2 [(0, .ref (a 0)), (1, .int p1)]) : W p l e (rmU 2 48 0 0) s m args below meth c H locs 0 0 (MQ below (QI D A z.1 (w_X cA a z.2)) args s 0 0 A) (F0 m 0 ls []) := by
  obtain ⟨hx, hb, hml, hown, hts, hK, hN, hr, hlk⟩ := id C
  unfold fX10_pays at hf
  refine lv_iload_n (pc := 0) hx hb dX10_pays_0 rfl (lv_at hl 1 rfl) ?_
  refine lv_iconst (v := (0 : Int32)) (pc := 1) hx hb dX10_pays_1 (by decide) ?_
  refine lv_sipush (v := (200 : Int32)) (pc := 2) hx hb dX10_pays_2 (by decide) ?_
  obtain ⟨q1, hq1, hf⟩ := pt_b hf
  have hPc : va_P D vwCl ([] : va_W) H := hP.sub [] rfl
  have hDc : va_D A ([] : va_W) := hD.sub [] (by decide) rfl
  refine prt_i (runU_S (pc := 5) (As := [.int p1, .int ((0 : Int32)), .int ((200 : Int32))]) (rest := []) C lk_RX10_100 (kX10_isWithin l D cA hq1 H.size) ⟨Nat.le_of_ble_eq_true rfl, Nat.le_of_ble_eq_true rfl⟩ ⟨Nat.le_refl _, Nat.le_refl _⟩ hPc hDc hl.1 rfl (Nat.le_of_ble_eq_true rfl) dX10_pays_5) hP hD hS hA [] rfl (fun H locs hP hD hS => ?_)
  refine lv_if_ne (tgt := 13) (pc := 8) hx hb dX10_pays_8 (by decide) (fun c2 => ?_) (fun c2 => ?_)
  · have hf := pt_f c2 hf
    refine lv_aload_n (pc := 13) hx hb dX10_pays_13 rfl (lv_at hl 0 rfl) ?_
    refine ge_RX10_54_X_0_0 (pc := 14) C hP dX10_pays_14 ?_
    refine lv_aload_n (pc := 17) hx hb dX10_pays_17 rfl (lv_at hl 0 rfl) ?_
    refine ge_RX10_61_X_0_0 (pc := 18) C hP dX10_pays_18 ?_
    refine lv_aload_n (pc := 21) hx hb dX10_pays_21 rfl (lv_at hl 0 rfl) ?_
    refine ge_RX10_19_X_0_0 (pc := 22) C hP dX10_pays_22 ?_
    refine ge_RX10_117_X_0_3 (pc := 25) C hP dX10_pays_25 ?_
    obtain ⟨q3, hq3, hf⟩ := pt_b hf
    have hPc : va_P D vwCl (w_L_D cA (sh a 19) (sh S 22) (sh a 21) (sh S 23)) H := hP.sub [19, 20, 21, 22, 23, 24, 25, 26] rfl
    have hDc : va_D A (w_L_D cA (sh a 19) (sh S 22) (sh a 21) (sh S 23)) := hD.sub [19, 20, 21, 22, 23, 24, 25, 26] (by decide) rfl
    refine upd_v (W1 := (w_L_D cA (sh a 19) q3 (sh a 21) (sh S 23))) (runU_V (pc := 28) (As := [.ref (a 21), .int ((S 2 0))]) (b := a 19) (rest := []) (ci := 7) (q0 := 0) C lk_RX10_186 (kX8_countWays l D cA (sh a 19) (sh a 21) hq3 H.size) ⟨Nat.le_of_ble_eq_true rfl, Nat.le_of_ble_eq_true rfl⟩ ⟨Nat.le_refl _, Nat.le_refl _⟩ hPc hDc rfl rfl rfl hl.1 rfl (Nat.le_of_ble_eq_true rfl) dX10_pays_28) hP hD hS hA [19, 20, 21, 22, 23, 24, 25, 26] rfl (by decide) rfl (fun H locs hP hD hS => ?_)
    have hP : va_P D vwCl (w_X cA a (pt S 22 1 q3)) H := hP
    have hD : va_D A (w_X cA a (pt S 22 1 q3)) := hD
    refine lv_aload_n (pc := 31) hx hb dX10_pays_31 rfl (lv_at hl 0 rfl) ?_
    refine ge_RX10_54_X_0_0 (pc := 32) C hP dX10_pays_32 ?_
    refine ge_RX10_183_X_0_19 (pc := 35) C hP dX10_pays_35 ?_
    refine lv_iload_n (pc := 38) hx hb dX10_pays_38 rfl (lv_at hl 1 rfl) ?_
    obtain ⟨h4, hf⟩ := pt_g hf
    refine ld_X_0_20 (pc := 39) (j := p1.toNatClampNeg) C hP h4 rfl dX10_pays_39 ?_
    cases hf
    exact ret_i C hP hD hS dX10_pays_40
  · have hf := pt_t c2 hf
    refine lv_iconst (v := (-1 : Int32)) (pc := 11) hx hb dX10_pays_11 (by decide) ?_
    cases hf
    exact ret_i C hP hD hS dX10_pays_12
set_option maxRecDepth 100000 in
set_option maxHeartbeats 4000000 in
theorem kX10_pays (l : Launch) (D : va_G) (cA : Nat → ClassId) (a : Nat → Nat) {N : Nat} {S : St} {p1 : Int32} {z : Int32 × St} (hf : fX10_pays N S p1 = some z) : CtI l yX10_pays cX10_pays 2 (some .int) 2 48 D cA (w_X cA a S) (w_X cA a z.2) [.ref (a 0), .int p1] z.1 := by
  intro sz
  refine Met.ofW (cc := cX10_pays) (maxL := 2) (ret := (some .int)) (by decide) rfl ?_
  intro p e s m args below meth c s₁ B hml hv
  obtain ⟨rfl, hsz, hP, hK, hD0⟩ := hv
  subst hsz
  have C : Cx p s m _ meth c D cA cX10_pays 2 RX10 (some .int) := Cx.of B hml hK
  have hD := hD0.self (sz := s.heap.size)
  have hA : ∀ q : Nat, s.heap.size ≤ q → va_A (w_X cA a S) s.heap.size q := fun q h => Or.inr h
  have hS : va_S (va_A (w_X cA a S) s.heap.size) s.heap s.heap [] := va_S.rf
  have hl := lv_entry ([.ref (a 0), .int p1]) (n := 2) (Nat.le_of_ble_eq_true rfl)
  rw [lg_entry_eq]
  generalize (lg_sl ([.ref (a 0), .int p1]) ++ List.replicate (2 - (lg_sl ([.ref (a 0), .int p1])).length) Slot.unset).toArray = ls at hl ⊢
  exact wX10_pays C hA hf hP hD hS hl
theorem fl_RX10_192 : Cond.fieldLink RX10 192 "SevenOnStrike$Told" "week" "I" ∈ wsL_law := by decide +kernel
theorem ge_RX10_192_X_0_21 (C : Cx p s m args meth c D cA cc nL RX10 ret) (hP : va_P D vwCl (w_X cA a S) H) (hdg : decode cc pc = .ok (.getfield 192, 3)) (kk : W p l e R s m args below meth c H locs cells slots Q (F0 m (pc + 3) ls (.int (S 25 0) :: rest))) : W p l e R s m args below meth c H locs cells slots Q (F0 m pc ls (.ref (a 21) :: rest)) := by
  obtain ⟨hx, hb, -, hown, hts, hK, -, -, -⟩ := C
  exact va_get (D := D) (ci := 8) (v := .int (S 25 0)) (C := RX9) (T := TX9) (N := 7) hx hb hts inlX9 hown hK hP 21 rfl rfl 4 (by decide) (hts _ fl_RX10_192) (fun _ h9 => h9) rfl hdg kk
def fX10_workingDays_j29 (N : Nat) (S : St) (g4 : Int32 × Int32 → Option (Int32)) (x1 : Int32) (x2 : Int32) : Option (Int32) :=
  g4 ((x1, (x2 + 1)))
def fX10_workingDays_b4 (N : Nat) (S : St) (g4 : Int32 × Int32 → Option (Int32)) (x1 : Int32) (x2 : Int32) : Option (Int32) :=
  if (S 25 0) < x2 then (some x1) else (Option.bind (fX0_isOnStrike N (sh S 2) x2) (fun q2 => if q2 = 0 then (fX10_workingDays_j29 N S g4 ((x1 + 1)) x2) else (fX10_workingDays_j29 N S g4 x1 x2)))
def fX10_workingDays_l4 (N : Nat) (S : St) (k : Nat) (q : Int32 × Int32) : Option (Int32) := lpN (fun g q => fX10_workingDays_b4 N S g q.1 q.2) k q
def fX10_workingDays (N : Nat) (S : St) : Option (Int32) :=
  fX10_workingDays_l4 N S N (((0 : Int32), (1 : Int32)))
set_option maxRecDepth 100000 in
set_option maxHeartbeats 4000000 in
theorem wX10_workingDays_29 (C : Cx p s m args meth c D cA cX10_workingDays 3 RX10 (some .int)) (hA : ∀ q : Nat, s.heap.size ≤ q → A q) {N : Nat} {z : Int32} {S : St} {g4 : Int32 × Int32 → Option (Int32)} (hg4 : ∀ (x1 : Int32) (x2 : Int32), g4 (x1, x2) = some z → ∀ (H : Heap) (locs : List Loc) (ls : Array Slot), va_P D vwCl (w_X cA a S) H → va_D A (w_X cA a S) → va_S A s.heap H locs → lv_has ls 3 [(0, .ref (a 0)), (1, .int x1), (2, .int x2)] → W p l e (rmU 1 21 0 0) s m args below meth c H locs 0 0 (MQ below (QI D A z (w_X cA a S)) args s 0 0 A) (F0 m 4 ls [])) {x1 : Int32} {x2 : Int32} (hf : fX10_workingDays_j29 N S g4 x1 x2 = some z) {H : Heap} {locs : List Loc} {ls : Array Slot} (hP : va_P D vwCl (w_X cA a S) H) (hD : va_D A (w_X cA a S)) (hS : va_S A s.heap H locs) (hl : lv_has ls 3 [(0, .ref (a 0)), (1, .int x1), (2, .int x2)]) : W p l e (rmU 1 21 0 0) s m args below meth c H locs 0 0 (MQ below (QI D A z (w_X cA a S)) args s 0 0 A) (F0 m 29 ls []) := by
  obtain ⟨hx, hb, hml, hown, hts, hK, hN, hr, hlk⟩ := id C
  unfold fX10_workingDays_j29 at hf
  refine lv_iinc (v := (x2 + 1)) (lv' := [(2, .int ((x2 + 1))), (0, .ref (a 0)), (1, .int x1)]) (pc := 29) hx hb dX10_workingDays_29 hl (k := 2) rfl (by rfl) (by decide) rfl (fun ls hl => ?_)
  refine lv_goto (tgt := 4) (pc := 32) hx hb dX10_workingDays_32 (by decide) ?_
  exact hg4 x1 ((x2 + 1)) hf _ _ _ hP hD hS (lv_sub hl [1, 2, 0] rfl)
set_option maxRecDepth 100000 in
set_option maxHeartbeats 4000000 in
theorem wX10_workingDays_4 (C : Cx p s m args meth c D cA cX10_workingDays 3 RX10 (some .int)) (hA : ∀ q : Nat, s.heap.size ≤ q → A q) {N : Nat} {z : Int32} {S : St} : ∀ (k : Nat) (x1 : Int32) (x2 : Int32), fX10_workingDays_l4 N S k (x1, x2) = some z → ∀ (H : Heap) (locs : List Loc) (ls : Array Slot), va_P D vwCl (w_X cA a S) H → va_D A (w_X cA a S) → va_S A s.heap H locs → lv_has ls 3 [(0, .ref (a 0)), (1, .int x1), (2, .int x2)] → W p l e (rmU 1 21 0 0) s m args below meth c H locs 0 0 (MQ below (QI D A z (w_X cA a S)) args s 0 0 A) (F0 m 4 ls []) := by
  obtain ⟨hx, hb, hml, hown, hts, hK, hN, hr, hlk⟩ := id C
  intro k
  induction k with
  | zero =>
    intro x1 x2 hf
    have hf : (none : Option (Int32)) = some z := hf
    cases hf
  | succ k hg4 =>
    intro x1 x2 hf H locs ls hP hD hS hl
    have hf : fX10_workingDays_b4 N S (fX10_workingDays_l4 N S k) x1 x2 = some z := hf
    unfold fX10_workingDays_b4 at hf
    refine lv_iload_n (pc := 4) hx hb dX10_workingDays_4 rfl (lv_at hl 2 rfl) ?_
    refine lv_aload_n (pc := 5) hx hb dX10_workingDays_5 rfl (lv_at hl 0 rfl) ?_
    refine ge_RX10_61_X_0_0 (pc := 6) C hP dX10_workingDays_6 ?_
    refine ge_RX10_192_X_0_21 (pc := 9) C hP dX10_workingDays_9 ?_
    refine lv_icmp_gt (tgt := 35) (pc := 12) hx hb dX10_workingDays_12 (by decide) (fun c1 => ?_) (fun c1 => ?_)
    · have hf := pt_t c1 hf
      refine lv_iload_n (pc := 35) hx hb dX10_workingDays_35 rfl (lv_at hl 1 rfl) ?_
      cases hf
      exact ret_i C hP hD hS dX10_workingDays_36
    · have hf := pt_f c1 hf
      refine lv_aload_n (pc := 15) hx hb dX10_workingDays_15 rfl (lv_at hl 0 rfl) ?_
      refine ge_RX10_19_X_0_0 (pc := 16) C hP dX10_workingDays_16 ?_
      refine lv_iload_n (pc := 19) hx hb dX10_workingDays_19 rfl (lv_at hl 2 rfl) ?_
      obtain ⟨q2, hq2, hf⟩ := pt_b hf
      have hPc : va_P D vwCl (w_F cA (sh a 3) (sh S 2)) H := hP.sub [3, 4] rfl
      have hDc : va_D A (w_F cA (sh a 3) (sh S 2)) := hD.sub [3, 4] (by decide) rfl
      refine prt_i (runU_V (pc := 20) (As := [.int x2]) (b := a 3) (rest := []) (ci := 0) (q0 := 0) C lk_RX10_104 (kX0_isOnStrike l D cA (sh a 3) hq2 H.size) ⟨Nat.le_of_ble_eq_true rfl, Nat.le_of_ble_eq_true rfl⟩ ⟨Nat.le_refl _, Nat.le_refl _⟩ hPc hDc rfl rfl rfl hl.1 rfl (Nat.le_of_ble_eq_true rfl) dX10_workingDays_20) hP hD hS hA [3, 4] rfl (fun H locs hP hD hS => ?_)
      refine lv_if_ne (tgt := 29) (pc := 23) hx hb dX10_workingDays_23 (by decide) (fun c3 => ?_) (fun c3 => ?_)
      · have hf := pt_f c3 hf
        exact wX10_workingDays_29 C hA hg4 hf hP hD hS (lv_sub hl [0, 1, 2] rfl)
      · have hf := pt_t c3 hf
        refine lv_iinc (v := (x1 + 1)) (lv' := [(1, .int ((x1 + 1))), (0, .ref (a 0)), (2, .int x2)]) (pc := 26) hx hb dX10_workingDays_26 hl (k := 1) rfl (by rfl) (by decide) rfl (fun ls hl => ?_)
        exact wX10_workingDays_29 C hA hg4 hf hP hD hS (lv_sub hl [1, 0, 2] rfl)
set_option maxRecDepth 100000 in
set_option maxHeartbeats 4000000 in
theorem wX10_workingDays (C : Cx p s m args meth c D cA cX10_workingDays 3 RX10 (some .int)) (hA : ∀ q : Nat, s.heap.size ≤ q → A q) {N : Nat} {z : Int32} {S : St} (hf : fX10_workingDays N S = some z) {H : Heap} {locs : List Loc} {ls : Array Slot} (hP : va_P D vwCl (w_X cA a S) H) (hD : va_D A (w_X cA a S)) (hS : va_S A s.heap H locs) (hl : lv_has ls 3 [(0, .ref (a 0))]) : W p l e (rmU 1 21 0 0) s m args below meth c H locs 0 0 (MQ below (QI D A z (w_X cA a S)) args s 0 0 A) (F0 m 0 ls []) := by
  obtain ⟨hx, hb, hml, hown, hts, hK, hN, hr, hlk⟩ := id C
  unfold fX10_workingDays at hf
  refine lv_iconst (v := (0 : Int32)) (pc := 0) hx hb dX10_workingDays_0 (by decide) ?_
  refine lv_istore_n (lv' := [(1, .int ((0 : Int32))), (0, .ref (a 0))]) (pc := 1) hx hb dX10_workingDays_1 rfl hl (by decide) rfl (fun ls hl => ?_)
  refine lv_iconst (v := (1 : Int32)) (pc := 2) hx hb dX10_workingDays_2 (by decide) ?_
  refine lv_istore_n (lv' := [(2, .int ((1 : Int32))), (1, .int ((0 : Int32))), (0, .ref (a 0))]) (pc := 3) hx hb dX10_workingDays_3 rfl hl (by decide) rfl (fun ls hl => ?_)
  exact wX10_workingDays_4 C hA  _ ((0 : Int32)) ((1 : Int32)) hf _ _ _ hP hD hS (lv_sub hl [2, 1, 0] rfl)
set_option maxRecDepth 100000 in
set_option maxHeartbeats 4000000 in
theorem kX10_workingDays (l : Launch) (D : va_G) (cA : Nat → ClassId) (a : Nat → Nat) {N : Nat} {S : St} {z : Int32} (hf : fX10_workingDays N S = some z) : CtI l yX10_workingDays cX10_workingDays 3 (some .int) 1 21 D cA (w_X cA a S) (w_X cA a S) [.ref (a 0)] z := by
  intro sz
  refine Met.ofW (cc := cX10_workingDays) (maxL := 3) (ret := (some .int)) (by decide) rfl ?_
  intro p e s m args below meth c s₁ B hml hv
  obtain ⟨rfl, hsz, hP, hK, hD0⟩ := hv
  subst hsz
  have C : Cx p s m _ meth c D cA cX10_workingDays 3 RX10 (some .int) := Cx.of B hml hK
  have hD := hD0.self (sz := s.heap.size)
  have hA : ∀ q : Nat, s.heap.size ≤ q → va_A (w_X cA a S) s.heap.size q := fun q h => Or.inr h
  have hS : va_S (va_A (w_X cA a S) s.heap.size) s.heap s.heap [] := va_S.rf
  have hl := lv_entry ([.ref (a 0)]) (n := 3) (Nat.le_of_ble_eq_true rfl)
  rw [lg_entry_eq]
  generalize (lg_sl ([.ref (a 0)]) ++ List.replicate (3 - (lg_sl ([.ref (a 0)])).length) Slot.unset).toArray = ls at hl ⊢
  exact wX10_workingDays C hA hf hP hD hS hl
theorem lk_RX10_189 : LkV RX10 189 yX10_workingDays cX10_workingDays 3 (some .int) 0 := ⟨⟨by decide +kernel, by decide +kernel, by decide +kernel, by decide +kernel, by decide +kernel, by decide +kernel⟩, by decide +kernel, by decide +kernel⟩
def fX10_day_j66 (N : Nat) (S : St) (p1 : Int32) (g32 : Int32 × Int32 → Option (Int32)) (x3 : Int32) (x4 : Int32) : Option (Int32) :=
  g32 ((x3, (x4 + 1)))
def fX10_day_b32 (N : Nat) (S : St) (p1 : Int32) (g32 : Int32 × Int32 → Option (Int32)) (x3 : Int32) (x4 : Int32) : Option (Int32) :=
  if (S 25 0) < x4 then (some ((-4 : Int32))) else (Option.bind (fX0_isOnStrike N (sh S 2) x4) (fun q2 => if q2 = 0 then (if x3 = 0 then (some x4) else (fX10_day_j66 N S p1 g32 ((x3 + (-1))) x4)) else (fX10_day_j66 N S p1 g32 x3 x4)))
def fX10_day_l32 (N : Nat) (S : St) (p1 : Int32) (k : Nat) (q : Int32 × Int32) : Option (Int32) := lpN (fun g q => fX10_day_b32 N S p1 g q.1 q.2) k q
def fX10_day (N : Nat) (S : St) (p1 : Int32) : Option (Int32) :=
  Option.bind (fX10_isWithin N p1 ((0 : Int32)) ((9999 : Int32))) (fun q1 => if q1 = 0 then (some ((-1 : Int32))) else (Option.bind (fX10_workingDays N S) (fun q3 => if 0 < q3 then (if ¬ q3 = 0 then (fX10_day_l32 N S p1 N (((p1 - p1 / q3 * q3), (1 : Int32)))) else none) else (some ((-4 : Int32))))))
set_option maxRecDepth 100000 in
set_option maxHeartbeats 4000000 in
theorem wX10_day_66 (C : Cx p s m args meth c D cA cX10_day 5 RX10 (some .int)) (hA : ∀ q : Nat, s.heap.size ≤ q → A q) {N : Nat} {z : Int32} {S : St} {p1 : Int32} {g32 : Int32 × Int32 → Option (Int32)} (hg32 : ∀ (x3 : Int32) (x4 : Int32), g32 (x3, x4) = some z → ∀ (H : Heap) (locs : List Loc) (ls : Array Slot), va_P D vwCl (w_X cA a S) H → va_D A (w_X cA a S) → va_S A s.heap H locs → lv_has ls 5 [(0, .ref (a 0)), (3, .int x3), (4, .int x4)] → W p l e (rmU 2 43 0 0) s m args below meth c H locs 0 0 (MQ below (QI D A z (w_X cA a S)) args s 0 0 A) (F0 m 32 ls [])) {x3 : Int32} {x4 : Int32} (hf : fX10_day_j66 N S p1 g32 x3 x4 = some z) {H : Heap} {locs : List Loc} {ls : Array Slot} (hP : va_P D vwCl (w_X cA a S) H) (hD : va_D A (w_X cA a S)) (hS : va_S A s.heap H locs) (hl : lv_has ls 5 [(0, .ref (a 0)), (3, .int x3), (4, .int x4)]) : W p l e (rmU 2 43 0 0) s m args below meth c H locs 0 0 (MQ below (QI D A z (w_X cA a S)) args s 0 0 A) (F0 m 66 ls []) := by
  obtain ⟨hx, hb, hml, hown, hts, hK, hN, hr, hlk⟩ := id C
  unfold fX10_day_j66 at hf
  refine lv_iinc (v := (x4 + 1)) (lv' := [(4, .int ((x4 + 1))), (0, .ref (a 0)), (3, .int x3)]) (pc := 66) hx hb dX10_day_66 hl (k := 2) rfl (by rfl) (by decide) rfl (fun ls hl => ?_)
  refine lv_goto (tgt := 32) (pc := 69) hx hb dX10_day_69 (by decide) ?_
  exact hg32 x3 ((x4 + 1)) hf _ _ _ hP hD hS (lv_sub hl [1, 2, 0] rfl)
set_option maxRecDepth 100000 in
set_option maxHeartbeats 4000000 in
theorem wX10_day_32 (C : Cx p s m args meth c D cA cX10_day 5 RX10 (some .int)) (hA : ∀ q : Nat, s.heap.size ≤ q → A q) {N : Nat} {z : Int32} {S : St} {p1 : Int32} : ∀ (k : Nat) (x3 : Int32) (x4 : Int32), fX10_day_l32 N S p1 k (x3, x4) = some z → ∀ (H : Heap) (locs : List Loc) (ls : Array Slot), va_P D vwCl (w_X cA a S) H → va_D A (w_X cA a S) → va_S A s.heap H locs → lv_has ls 5 [(0, .ref (a 0)), (3, .int x3), (4, .int x4)] → W p l e (rmU 2 43 0 0) s m args below meth c H locs 0 0 (MQ below (QI D A z (w_X cA a S)) args s 0 0 A) (F0 m 32 ls []) := by
  obtain ⟨hx, hb, hml, hown, hts, hK, hN, hr, hlk⟩ := id C
  intro k
  induction k with
  | zero =>
    intro x3 x4 hf
    have hf : (none : Option (Int32)) = some z := hf
    cases hf
  | succ k hg32 =>
    intro x3 x4 hf H locs ls hP hD hS hl
    have hf : fX10_day_b32 N S p1 (fX10_day_l32 N S p1 k) x3 x4 = some z := hf
    unfold fX10_day_b32 at hf
    refine lv_iload (pc := 32) hx hb dX10_day_32 (lv_at hl 2 rfl) ?_
    refine lv_aload_n (pc := 34) hx hb dX10_day_34 rfl (lv_at hl 0 rfl) ?_
    refine ge_RX10_61_X_0_0 (pc := 35) C hP dX10_day_35 ?_
    refine ge_RX10_192_X_0_21 (pc := 38) C hP dX10_day_38 ?_
    refine lv_icmp_gt (tgt := 72) (pc := 41) hx hb dX10_day_41 (by decide) (fun c1 => ?_) (fun c1 => ?_)
    · have hf := pt_t c1 hf
      refine lv_bipush (v := (-4 : Int32)) (pc := 72) hx hb dX10_day_72 (by decide) ?_
      cases hf
      exact ret_i C hP hD hS dX10_day_74
    · have hf := pt_f c1 hf
      refine lv_aload_n (pc := 44) hx hb dX10_day_44 rfl (lv_at hl 0 rfl) ?_
      refine ge_RX10_19_X_0_0 (pc := 45) C hP dX10_day_45 ?_
      refine lv_iload (pc := 48) hx hb dX10_day_48 (lv_at hl 2 rfl) ?_
      obtain ⟨q2, hq2, hf⟩ := pt_b hf
      have hPc : va_P D vwCl (w_F cA (sh a 3) (sh S 2)) H := hP.sub [3, 4] rfl
      have hDc : va_D A (w_F cA (sh a 3) (sh S 2)) := hD.sub [3, 4] (by decide) rfl
      refine prt_i (runU_V (pc := 50) (As := [.int x4]) (b := a 3) (rest := []) (ci := 0) (q0 := 0) C lk_RX10_104 (kX0_isOnStrike l D cA (sh a 3) hq2 H.size) ⟨Nat.le_of_ble_eq_true rfl, Nat.le_of_ble_eq_true rfl⟩ ⟨Nat.le_refl _, Nat.le_refl _⟩ hPc hDc rfl rfl rfl hl.1 rfl (Nat.le_of_ble_eq_true rfl) dX10_day_50) hP hD hS hA [3, 4] rfl (fun H locs hP hD hS => ?_)
      refine lv_if_ne (tgt := 66) (pc := 53) hx hb dX10_day_53 (by decide) (fun c3 => ?_) (fun c3 => ?_)
      · have hf := pt_f c3 hf
        exact wX10_day_66 C hA hg32 hf hP hD hS (lv_sub hl [0, 1, 2] rfl)
      · have hf := pt_t c3 hf
        refine lv_iload_n (pc := 56) hx hb dX10_day_56 rfl (lv_at hl 1 rfl) ?_
        refine lv_if_ne (tgt := 63) (pc := 57) hx hb dX10_day_57 (by decide) (fun c4 => ?_) (fun c4 => ?_)
        · have hf := pt_f c4 hf
          refine lv_iinc (v := (x3 + (-1))) (lv' := [(3, .int ((x3 + (-1)))), (0, .ref (a 0)), (4, .int x4)]) (pc := 63) hx hb dX10_day_63 hl (k := 1) rfl (by rfl) (by decide) rfl (fun ls hl => ?_)
          exact wX10_day_66 C hA hg32 hf hP hD hS (lv_sub hl [1, 0, 2] rfl)
        · have hf := pt_t c4 hf
          refine lv_iload (pc := 60) hx hb dX10_day_60 (lv_at hl 2 rfl) ?_
          cases hf
          exact ret_i C hP hD hS dX10_day_62
set_option maxRecDepth 100000 in
set_option maxHeartbeats 4000000 in
theorem wX10_day (C : Cx p s m args meth c D cA cX10_day 5 RX10 (some .int)) (hA : ∀ q : Nat, s.heap.size ≤ q → A q) {N : Nat} {z : Int32} {S : St} {p1 : Int32} (hf : fX10_day N S p1 = some z) {H : Heap} {locs : List Loc} {ls : Array Slot} (hP : va_P D vwCl (w_X cA a S) H) (hD : va_D A (w_X cA a S)) (hS : va_S A s.heap H locs) (hl : lv_has ls 5 [(0, .ref (a 0)), (1, .int p1)]) : W p l e (rmU 2 43 0 0) s m args below meth c H locs 0 0 (MQ below (QI D A z (w_X cA a S)) args s 0 0 A) (F0 m 0 ls []) := by
  obtain ⟨hx, hb, hml, hown, hts, hK, hN, hr, hlk⟩ := id C
  unfold fX10_day at hf
  refine lv_iload_n (pc := 0) hx hb dX10_day_0 rfl (lv_at hl 1 rfl) ?_
  refine lv_iconst (v := (0 : Int32)) (pc := 1) hx hb dX10_day_1 (by decide) ?_
  refine lv_sipush (v := (9999 : Int32)) (pc := 2) hx hb dX10_day_2 (by decide) ?_
  obtain ⟨q1, hq1, hf⟩ := pt_b hf
  have hPc : va_P D vwCl ([] : va_W) H := hP.sub [] rfl
  have hDc : va_D A ([] : va_W) := hD.sub [] (by decide) rfl
  refine prt_i (runU_S (pc := 5) (As := [.int p1, .int ((0 : Int32)), .int ((9999 : Int32))]) (rest := []) C lk_RX10_100 (kX10_isWithin l D cA hq1 H.size) ⟨Nat.le_of_ble_eq_true rfl, Nat.le_of_ble_eq_true rfl⟩ ⟨Nat.le_refl _, Nat.le_refl _⟩ hPc hDc hl.1 rfl (Nat.le_of_ble_eq_true rfl) dX10_day_5) hP hD hS hA [] rfl (fun H locs hP hD hS => ?_)
  refine lv_if_ne (tgt := 13) (pc := 8) hx hb dX10_day_8 (by decide) (fun c2 => ?_) (fun c2 => ?_)
  · have hf := pt_f c2 hf
    refine lv_aload_n (pc := 13) hx hb dX10_day_13 rfl (lv_at hl 0 rfl) ?_
    obtain ⟨q3, hq3, hf⟩ := pt_b hf
    refine all_i (runU_V (pc := 14) (As := []) (b := a 0) (rest := []) (ci := 9) (q0 := 0) C lk_RX10_189 (kX10_workingDays l D cA a hq3 H.size) ⟨Nat.le_of_ble_eq_true rfl, Nat.le_of_ble_eq_true rfl⟩ ⟨Nat.le_refl _, Nat.le_refl _⟩ hP hD rfl rfl rfl hl.1 rfl (Nat.le_of_ble_eq_true rfl) dX10_day_14) hD hS hA (fun H locs hP hD hS => ?_)
    refine lv_istore_n (lv' := [(2, .int q3), (0, .ref (a 0)), (1, .int p1)]) (pc := 17) hx hb dX10_day_17 rfl hl (by decide) rfl (fun ls hl => ?_)
    refine lv_iload_n (pc := 18) hx hb dX10_day_18 rfl (lv_at hl 0 rfl) ?_
    refine lv_if_gt (tgt := 25) (pc := 19) hx hb dX10_day_19 (by decide) (fun c4 => ?_) (fun c4 => ?_)
    · have hf := pt_t c4 hf
      refine lv_iload_n (pc := 25) hx hb dX10_day_25 rfl (lv_at hl 2 rfl) ?_
      refine lv_iload_n (pc := 26) hx hb dX10_day_26 rfl (lv_at hl 0 rfl) ?_
      obtain ⟨h5, hf⟩ := pt_g hf
      refine lv_irem (pc := 27) hx hb dX10_day_27 h5 ?_
      refine lv_istore_n (lv' := [(3, .int ((p1 - p1 / q3 * q3))), (2, .int q3), (0, .ref (a 0)), (1, .int p1)]) (pc := 28) hx hb dX10_day_28 rfl hl (by decide) rfl (fun ls hl => ?_)
      refine lv_iconst (v := (1 : Int32)) (pc := 29) hx hb dX10_day_29 (by decide) ?_
      refine lv_istore (lv' := [(4, .int ((1 : Int32))), (3, .int ((p1 - p1 / q3 * q3))), (2, .int q3), (0, .ref (a 0)), (1, .int p1)]) (pc := 30) hx hb dX10_day_30 hl (by decide) rfl (fun ls hl => ?_)
      exact wX10_day_32 C hA  _ ((p1 - p1 / q3 * q3)) ((1 : Int32)) hf _ _ _ hP hD hS (lv_sub hl [3, 1, 0] rfl)
    · have hf := pt_f c4 hf
      refine lv_bipush (v := (-4 : Int32)) (pc := 22) hx hb dX10_day_22 (by decide) ?_
      cases hf
      exact ret_i C hP hD hS dX10_day_24
  · have hf := pt_t c2 hf
    refine lv_iconst (v := (-1 : Int32)) (pc := 11) hx hb dX10_day_11 (by decide) ?_
    cases hf
    exact ret_i C hP hD hS dX10_day_12
set_option maxRecDepth 100000 in
set_option maxHeartbeats 4000000 in
theorem kX10_day (l : Launch) (D : va_G) (cA : Nat → ClassId) (a : Nat → Nat) {N : Nat} {S : St} {p1 : Int32} {z : Int32} (hf : fX10_day N S p1 = some z) : CtI l yX10_day cX10_day 5 (some .int) 2 43 D cA (w_X cA a S) (w_X cA a S) [.ref (a 0), .int p1] z := by
  intro sz
  refine Met.ofW (cc := cX10_day) (maxL := 5) (ret := (some .int)) (by decide) rfl ?_
  intro p e s m args below meth c s₁ B hml hv
  obtain ⟨rfl, hsz, hP, hK, hD0⟩ := hv
  subst hsz
  have C : Cx p s m _ meth c D cA cX10_day 5 RX10 (some .int) := Cx.of B hml hK
  have hD := hD0.self (sz := s.heap.size)
  have hA : ∀ q : Nat, s.heap.size ≤ q → va_A (w_X cA a S) s.heap.size q := fun q h => Or.inr h
  have hS : va_S (va_A (w_X cA a S) s.heap.size) s.heap s.heap [] := va_S.rf
  have hl := lv_entry ([.ref (a 0), .int p1]) (n := 5) (Nat.le_of_ble_eq_true rfl)
  rw [lg_entry_eq]
  generalize (lg_sl ([.ref (a 0), .int p1]) ++ List.replicate (5 - (lg_sl ([.ref (a 0), .int p1])).length) Slot.unset).toArray = ls at hl ⊢
  exact wX10_day C hA hf hP hD hS hl
def fX10_agree_j33 (N : Nat) (S : St) (x2 : Int32) : Option (Int32) :=
  some (((S 25 0) * x2))
def fX10_agree_b14 (N : Nat) (S : St) (g14 : Int32 × Int32 → Option (Int32)) (x1 : Int32) (x2 : Int32) : Option (Int32) :=
  if x1 < x2 then (some ((-4 : Int32))) else (if ¬ x1 = 0 then (if (((S 25 0) * x2) - ((S 25 0) * x2) / x1 * x1) = 0 then (fX10_agree_j33 N S x2) else (g14 ((x1, (x2 + 1))))) else none)
def fX10_agree_l14 (N : Nat) (S : St) (k : Nat) (q : Int32 × Int32) : Option (Int32) := lpN (fun g q => fX10_agree_b14 N S g q.1 q.2) k q
def fX10_agree (N : Nat) (S : St) : Option (Int32) :=
  Option.bind (fX10_workingDays N S) (fun q1 => if 0 < q1 then (fX10_agree_l14 N S N ((q1, (1 : Int32)))) else (some ((-4 : Int32))))
set_option maxRecDepth 100000 in
set_option maxHeartbeats 4000000 in
theorem wX10_agree_33 (C : Cx p s m args meth c D cA cX10_agree 3 RX10 (some .int)) (hA : ∀ q : Nat, s.heap.size ≤ q → A q) {N : Nat} {z : Int32} {S : St} {x2 : Int32} (hf : fX10_agree_j33 N S x2 = some z) {H : Heap} {locs : List Loc} {ls : Array Slot} (hP : va_P D vwCl (w_X cA a S) H) (hD : va_D A (w_X cA a S)) (hS : va_S A s.heap H locs) (hl : lv_has ls 3 [(0, .ref (a 0)), (2, .int x2)]) : W p l e (rmU 2 43 0 0) s m args below meth c H locs 0 0 (MQ below (QI D A z (w_X cA a S)) args s 0 0 A) (F0 m 33 ls []) := by
  obtain ⟨hx, hb, hml, hown, hts, hK, hN, hr, hlk⟩ := id C
  unfold fX10_agree_j33 at hf
  refine lv_aload_n (pc := 33) hx hb dX10_agree_33 rfl (lv_at hl 0 rfl) ?_
  refine ge_RX10_61_X_0_0 (pc := 34) C hP dX10_agree_34 ?_
  refine ge_RX10_192_X_0_21 (pc := 37) C hP dX10_agree_37 ?_
  refine lv_iload_n (pc := 40) hx hb dX10_agree_40 rfl (lv_at hl 1 rfl) ?_
  refine lv_imul (pc := 41) hx hb dX10_agree_41 ?_
  cases hf
  exact ret_i C hP hD hS dX10_agree_42
set_option maxRecDepth 100000 in
set_option maxHeartbeats 4000000 in
theorem wX10_agree_14 (C : Cx p s m args meth c D cA cX10_agree 3 RX10 (some .int)) (hA : ∀ q : Nat, s.heap.size ≤ q → A q) {N : Nat} {z : Int32} {S : St} : ∀ (k : Nat) (x1 : Int32) (x2 : Int32), fX10_agree_l14 N S k (x1, x2) = some z → ∀ (H : Heap) (locs : List Loc) (ls : Array Slot), va_P D vwCl (w_X cA a S) H → va_D A (w_X cA a S) → va_S A s.heap H locs → lv_has ls 3 [(0, .ref (a 0)), (1, .int x1), (2, .int x2)] → W p l e (rmU 2 43 0 0) s m args below meth c H locs 0 0 (MQ below (QI D A z (w_X cA a S)) args s 0 0 A) (F0 m 14 ls []) := by
  obtain ⟨hx, hb, hml, hown, hts, hK, hN, hr, hlk⟩ := id C
  intro k
  induction k with
  | zero =>
    intro x1 x2 hf
    have hf : (none : Option (Int32)) = some z := hf
    cases hf
  | succ k hg14 =>
    intro x1 x2 hf H locs ls hP hD hS hl
    have hf : fX10_agree_b14 N S (fX10_agree_l14 N S k) x1 x2 = some z := hf
    unfold fX10_agree_b14 at hf
    refine lv_iload_n (pc := 14) hx hb dX10_agree_14 rfl (lv_at hl 2 rfl) ?_
    refine lv_iload_n (pc := 15) hx hb dX10_agree_15 rfl (lv_at hl 1 rfl) ?_
    refine lv_icmp_gt (tgt := 49) (pc := 16) hx hb dX10_agree_16 (by decide) (fun c1 => ?_) (fun c1 => ?_)
    · have hf := pt_t c1 hf
      refine lv_bipush (v := (-4 : Int32)) (pc := 49) hx hb dX10_agree_49 (by decide) ?_
      cases hf
      exact ret_i C hP hD hS dX10_agree_51
    · have hf := pt_f c1 hf
      refine lv_aload_n (pc := 19) hx hb dX10_agree_19 rfl (lv_at hl 0 rfl) ?_
      refine ge_RX10_61_X_0_0 (pc := 20) C hP dX10_agree_20 ?_
      refine ge_RX10_192_X_0_21 (pc := 23) C hP dX10_agree_23 ?_
      refine lv_iload_n (pc := 26) hx hb dX10_agree_26 rfl (lv_at hl 2 rfl) ?_
      refine lv_imul (pc := 27) hx hb dX10_agree_27 ?_
      refine lv_iload_n (pc := 28) hx hb dX10_agree_28 rfl (lv_at hl 1 rfl) ?_
      obtain ⟨h2, hf⟩ := pt_g hf
      refine lv_irem (pc := 29) hx hb dX10_agree_29 h2 ?_
      refine lv_if_ne (tgt := 43) (pc := 30) hx hb dX10_agree_30 (by decide) (fun c3 => ?_) (fun c3 => ?_)
      · have hf := pt_f c3 hf
        refine lv_iinc (v := (x2 + 1)) (lv' := [(2, .int ((x2 + 1))), (0, .ref (a 0)), (1, .int x1)]) (pc := 43) hx hb dX10_agree_43 hl (k := 2) rfl (by rfl) (by decide) rfl (fun ls hl => ?_)
        refine lv_goto (tgt := 14) (pc := 46) hx hb dX10_agree_46 (by decide) ?_
        exact hg14 x1 ((x2 + 1)) hf _ _ _ hP hD hS (lv_sub hl [1, 2, 0] rfl)
      · have hf := pt_t c3 hf
        exact wX10_agree_33 C hA  hf hP hD hS (lv_sub hl [0, 2] rfl)
set_option maxRecDepth 100000 in
set_option maxHeartbeats 4000000 in
theorem wX10_agree (C : Cx p s m args meth c D cA cX10_agree 3 RX10 (some .int)) (hA : ∀ q : Nat, s.heap.size ≤ q → A q) {N : Nat} {z : Int32} {S : St} (hf : fX10_agree N S = some z) {H : Heap} {locs : List Loc} {ls : Array Slot} (hP : va_P D vwCl (w_X cA a S) H) (hD : va_D A (w_X cA a S)) (hS : va_S A s.heap H locs) (hl : lv_has ls 3 [(0, .ref (a 0))]) : W p l e (rmU 2 43 0 0) s m args below meth c H locs 0 0 (MQ below (QI D A z (w_X cA a S)) args s 0 0 A) (F0 m 0 ls []) := by
  obtain ⟨hx, hb, hml, hown, hts, hK, hN, hr, hlk⟩ := id C
  unfold fX10_agree at hf
  refine lv_aload_n (pc := 0) hx hb dX10_agree_0 rfl (lv_at hl 0 rfl) ?_
  obtain ⟨q1, hq1, hf⟩ := pt_b hf
  refine all_i (runU_V (pc := 1) (As := []) (b := a 0) (rest := []) (ci := 9) (q0 := 0) C lk_RX10_189 (kX10_workingDays l D cA a hq1 H.size) ⟨Nat.le_of_ble_eq_true rfl, Nat.le_of_ble_eq_true rfl⟩ ⟨Nat.le_refl _, Nat.le_refl _⟩ hP hD rfl rfl rfl hl.1 rfl (Nat.le_of_ble_eq_true rfl) dX10_agree_1) hD hS hA (fun H locs hP hD hS => ?_)
  refine lv_istore_n (lv' := [(1, .int q1), (0, .ref (a 0))]) (pc := 4) hx hb dX10_agree_4 rfl hl (by decide) rfl (fun ls hl => ?_)
  refine lv_iload_n (pc := 5) hx hb dX10_agree_5 rfl (lv_at hl 0 rfl) ?_
  refine lv_if_gt (tgt := 12) (pc := 6) hx hb dX10_agree_6 (by decide) (fun c2 => ?_) (fun c2 => ?_)
  · have hf := pt_t c2 hf
    refine lv_iconst (v := (1 : Int32)) (pc := 12) hx hb dX10_agree_12 (by decide) ?_
    refine lv_istore_n (lv' := [(2, .int ((1 : Int32))), (1, .int q1), (0, .ref (a 0))]) (pc := 13) hx hb dX10_agree_13 rfl hl (by decide) rfl (fun ls hl => ?_)
    exact wX10_agree_14 C hA  _ q1 ((1 : Int32)) hf _ _ _ hP hD hS (lv_sub hl [2, 1, 0] rfl)
  · have hf := pt_f c2 hf
    refine lv_bipush (v := (-4 : Int32)) (pc := 9) hx hb dX10_agree_9 (by decide) ?_
    cases hf
    exact ret_i C hP hD hS dX10_agree_11
set_option maxRecDepth 100000 in
set_option maxHeartbeats 4000000 in
theorem kX10_agree (l : Launch) (D : va_G) (cA : Nat → ClassId) (a : Nat → Nat) {N : Nat} {S : St} {z : Int32} (hf : fX10_agree N S = some z) : CtI l yX10_agree cX10_agree 3 (some .int) 2 43 D cA (w_X cA a S) (w_X cA a S) [.ref (a 0)] z := by
  intro sz
  refine Met.ofW (cc := cX10_agree) (maxL := 3) (ret := (some .int)) (by decide) rfl ?_
  intro p e s m args below meth c s₁ B hml hv
  obtain ⟨rfl, hsz, hP, hK, hD0⟩ := hv
  subst hsz
  have C : Cx p s m _ meth c D cA cX10_agree 3 RX10 (some .int) := Cx.of B hml hK
  have hD := hD0.self (sz := s.heap.size)
  have hA : ∀ q : Nat, s.heap.size ≤ q → va_A (w_X cA a S) s.heap.size q := fun q h => Or.inr h
  have hS : va_S (va_A (w_X cA a S) s.heap.size) s.heap s.heap [] := va_S.rf
  have hl := lv_entry ([.ref (a 0)]) (n := 3) (Nat.le_of_ble_eq_true rfl)
  rw [lg_entry_eq]
  generalize (lg_sl ([.ref (a 0)]) ++ List.replicate (3 - (lg_sl ([.ref (a 0)])).length) Slot.unset).toArray = ls at hl ⊢
  exact wX10_agree C hA hf hP hD hS hl
end PClC
