def swA (a : Nat → Nat) : Nat → Nat := fun k => if 21 ≤ k ∧ k < 27 then a (k + 6) else if 27 ≤ k ∧ k < 33 then a (k - 6) else a k
def swS (S : St) : St := fun k => if 23 ≤ k ∧ k < 32 then S (k + 9) else if 32 ≤ k ∧ k < 41 then S (k - 9) else S k
section PLay
variable {p : Program} {l : Launch} {e : Env} {R : Room} {s : State} {m : MethodId} {args : Array Value} {below : List Frame} {meth : Method} {c : Code} {H : Heap} {locs : List Loc} {cells slots : Nat} {Q : State → Prop}
variable {D : va_G} {cA : Nat → ClassId} {cc : ByteArray} {nL : Nat} {own : String} {ret : Option FieldType} {pc : Nat} {ls : Array Slot} {rest : List Value} {A : Nat → Prop} {a b d : Nat → Nat} {S T U : St}
def w_Xa (cA : Nat → ClassId) (a : Nat → Nat) (S : St) : va_W := [(a 0, .inr (9, [.ref (a 1), .ref (a 3), .ref (a 5), .ref (a 8), .ref (a 14), .ref (a 17), .ref (a 19), .ref (a 27), .ref (a 27)])), (a 1, .inr (6, [.ref (a 2), .int (S 0 0)])), (a 2, .inl (cA 1, 200, .inl (S 1))), (a 3, .inr (0, [.int (S 2 0), .ref (a 4)])), (a 4, .inl (cA 0, 10, .inl (S 3))), (a 5, .inr (3, [.ref (a 6), .ref (a 7), .int (S 4 0)])), (a 6, .inl (cA 0, 8, .inl (S 5))), (a 7, .inl (cA 0, 8, .inl (S 6))), (a 8, .inr (1, [.ref (a 9), .int (S 7 0)])), (a 9, .inl (cA 3, 2, .inr (.inr (.inr (.inr (qf2 (a 10) (a 12))))))), (a 10, .inr (0, [.int (S 8 0), .ref (a 11)])), (a 11, .inl (cA 0, 10, .inl (S 9))), (a 12, .inr (0, [.int (S 10 0), .ref (a 13)])), (a 13, .inl (cA 0, 10, .inl (S 11))), (a 14, .inr (2, [.ref (a 15), .ref (a 16), .int (S 12 0)])), (a 15, .inl (cA 0, 8, .inl (S 13))), (a 16, .inl (cA 0, 8, .inl (S 14))), (a 17, .inr (4, [.ref (a 18), .int (S 15 0), .int (S 16 0), .int (S 17 0), .int (S 18 0), .int (S 19 0), .int (S 20 0)])), (a 18, .inl (cA 2, 1000, .inl (S 21))), (a 19, .inr (7, [.ref (a 20)])), (a 20, .inl (cA 0, 201, .inl (S 22))), (a 21, .inr (8, [.ref (a 22), .ref (a 24), .int (S 23 0), .int (S 24 0), .int (S 25 0), .ref (a 25), .int (S 26 0)])), (a 22, .inr (0, [.int (S 28 0), .ref (a 23)])), (a 23, .inl (cA 0, 10, .inl (S 29))), (a 24, .inl (cA 0, 6, .inl (S 27))), (a 25, .inr (5, [.ref (a 26), .int (S 30 0)])), (a 26, .inl (cA 1, 20, .inl (S 31))), (a 27, .inr (8, [.ref (a 28), .ref (a 30), .int (S 32 0), .int (S 33 0), .int (S 34 0), .ref (a 31), .int (S 35 0)])), (a 28, .inr (0, [.int (S 37 0), .ref (a 29)])), (a 29, .inl (cA 0, 10, .inl (S 38))), (a 30, .inl (cA 0, 6, .inl (S 36))), (a 31, .inr (5, [.ref (a 32), .int (S 39 0)])), (a 32, .inl (cA 1, 20, .inl (S 40)))]
theorem pr_RX10_61_X_0_0_27 (C : Cx p s m args meth c D cA cc nL RX10 ret) (hP : va_P D vwCl (w_X cA a S) H) (hD : va_D A (w_X cA a S)) (hS : va_S A s.heap H locs) (hdg : decode cc pc = .ok (.putfield 61, 3)) (kk : ∀ (H1 : Heap) (locs1 : List Loc), va_P D vwCl (w_Xa cA a S) H1 → va_D A (w_Xa cA a S) → va_S A s.heap H1 locs1 → W p l e R s m args below meth c H1 locs1 cells slots Q (F0 m (pc + 3) ls rest)) : W p l e R s m args below meth c H locs cells slots Q (F0 m pc ls (.ref (a 27) :: .ref (a 0) :: rest)) := by
  obtain ⟨hx, hb, -, hown, hts, hK, -, -, -⟩ := C
  exact va_put (D := D) (ci := 9) (v := .ref (a 27)) (ty := .object "SevenOnStrike$Told") (C := RX10) (T := TX10) (N := 9) hx hb hts inlX10 tyX10 tyX10_ok nmX10 hown hK hP hD hS 0 rfl rfl 7 (by decide) (hts _ fl_RX10_61) (fun _ h9 => h9) rfl (by decide +kernel) rfl rfl (Nat.le_of_ble_eq_true rfl) hdg (fun H1 locs1 h1 h2 h3 => kk H1 locs1 h1 h2 h3)
def w_Y (cA : Nat → ClassId) (a : Nat → Nat) (S : St) : va_W := [(a 0, .inr (9, [.ref (a 1), .ref (a 3), .ref (a 5), .ref (a 8), .ref (a 14), .ref (a 17), .ref (a 19), .ref (a 27), .ref (a 21)])), (a 1, .inr (6, [.ref (a 2), .int (S 0 0)])), (a 2, .inl (cA 1, 200, .inl (S 1))), (a 3, .inr (0, [.int (S 2 0), .ref (a 4)])), (a 4, .inl (cA 0, 10, .inl (S 3))), (a 5, .inr (3, [.ref (a 6), .ref (a 7), .int (S 4 0)])), (a 6, .inl (cA 0, 8, .inl (S 5))), (a 7, .inl (cA 0, 8, .inl (S 6))), (a 8, .inr (1, [.ref (a 9), .int (S 7 0)])), (a 9, .inl (cA 3, 2, .inr (.inr (.inr (.inr (qf2 (a 10) (a 12))))))), (a 10, .inr (0, [.int (S 8 0), .ref (a 11)])), (a 11, .inl (cA 0, 10, .inl (S 9))), (a 12, .inr (0, [.int (S 10 0), .ref (a 13)])), (a 13, .inl (cA 0, 10, .inl (S 11))), (a 14, .inr (2, [.ref (a 15), .ref (a 16), .int (S 12 0)])), (a 15, .inl (cA 0, 8, .inl (S 13))), (a 16, .inl (cA 0, 8, .inl (S 14))), (a 17, .inr (4, [.ref (a 18), .int (S 15 0), .int (S 16 0), .int (S 17 0), .int (S 18 0), .int (S 19 0), .int (S 20 0)])), (a 18, .inl (cA 2, 1000, .inl (S 21))), (a 19, .inr (7, [.ref (a 20)])), (a 20, .inl (cA 0, 201, .inl (S 22))), (a 21, .inr (8, [.ref (a 22), .ref (a 24), .int (S 23 0), .int (S 24 0), .int (S 25 0), .ref (a 25), .int (S 26 0)])), (a 22, .inr (0, [.int (S 28 0), .ref (a 23)])), (a 23, .inl (cA 0, 10, .inl (S 29))), (a 24, .inl (cA 0, 6, .inl (S 27))), (a 25, .inr (5, [.ref (a 26), .int (S 30 0)])), (a 26, .inl (cA 1, 20, .inl (S 31))), (a 27, .inr (8, [.ref (a 28), .ref (a 30), .int (S 32 0), .int (S 33 0), .int (S 34 0), .ref (a 31), .int (S 35 0)])), (a 28, .inr (0, [.int (S 37 0), .ref (a 29)])), (a 29, .inl (cA 0, 10, .inl (S 38))), (a 30, .inl (cA 0, 6, .inl (S 36))), (a 31, .inr (5, [.ref (a 32), .int (S 39 0)])), (a 32, .inl (cA 1, 20, .inl (S 40)))]
theorem pr_RX10_65_Xa_0_0_21 (C : Cx p s m args meth c D cA cc nL RX10 ret) (hP : va_P D vwCl (w_Xa cA a S) H) (hD : va_D A (w_Xa cA a S)) (hS : va_S A s.heap H locs) (hdg : decode cc pc = .ok (.putfield 65, 3)) (kk : ∀ (H1 : Heap) (locs1 : List Loc), va_P D vwCl (w_Y cA a S) H1 → va_D A (w_Y cA a S) → va_S A s.heap H1 locs1 → W p l e R s m args below meth c H1 locs1 cells slots Q (F0 m (pc + 3) ls rest)) : W p l e R s m args below meth c H locs cells slots Q (F0 m pc ls (.ref (a 21) :: .ref (a 0) :: rest)) := by
  obtain ⟨hx, hb, -, hown, hts, hK, -, -, -⟩ := C
  exact va_put (D := D) (ci := 9) (v := .ref (a 21)) (ty := .object "SevenOnStrike$Told") (C := RX10) (T := TX10) (N := 9) hx hb hts inlX10 tyX10 tyX10_ok nmX10 hown hK hP hD hS 0 rfl rfl 8 (by decide) (hts _ fl_RX10_65) (fun _ h9 => h9) rfl (by decide +kernel) rfl rfl (Nat.le_of_ble_eq_true rfl) hdg (fun H1 locs1 h1 h2 h3 => kk H1 locs1 h1 h2 h3)
theorem ge_RX10_19_Y_0_0 (C : Cx p s m args meth c D cA cc nL RX10 ret) (hP : va_P D vwCl (w_Y cA a S) H) (hdg : decode cc pc = .ok (.getfield 19, 3)) (kk : W p l e R s m args below meth c H locs cells slots Q (F0 m (pc + 3) ls (.ref (a 3) :: rest))) : W p l e R s m args below meth c H locs cells slots Q (F0 m pc ls (.ref (a 0) :: rest)) := by
  obtain ⟨hx, hb, -, hown, hts, hK, -, -, -⟩ := C
  exact va_get (D := D) (ci := 9) (v := .ref (a 3)) (C := RX10) (T := TX10) (N := 9) hx hb hts inlX10 hown hK hP 0 rfl rfl 1 (by decide) (hts _ fl_RX10_19) (fun _ h9 => h9) rfl hdg kk
theorem ge_RX10_61_Y_0_0 (C : Cx p s m args meth c D cA cc nL RX10 ret) (hP : va_P D vwCl (w_Y cA a S) H) (hdg : decode cc pc = .ok (.getfield 61, 3)) (kk : W p l e R s m args below meth c H locs cells slots Q (F0 m (pc + 3) ls (.ref (a 27) :: rest))) : W p l e R s m args below meth c H locs cells slots Q (F0 m pc ls (.ref (a 0) :: rest)) := by
  obtain ⟨hx, hb, -, hown, hts, hK, -, -, -⟩ := C
  exact va_get (D := D) (ci := 9) (v := .ref (a 27)) (C := RX10) (T := TX10) (N := 9) hx hb hts inlX10 hown hK hP 0 rfl rfl 7 (by decide) (hts _ fl_RX10_61) (fun _ h9 => h9) rfl hdg kk
theorem fl_RX10_230 : Cond.fieldLink RX10 230 "SevenOnStrike$Told" "figures" "LSevenOnStrike$Figures;" ∈ wsL_law := by decide +kernel
theorem ge_RX10_230_Y_0_27 (C : Cx p s m args meth c D cA cc nL RX10 ret) (hP : va_P D vwCl (w_Y cA a S) H) (hdg : decode cc pc = .ok (.getfield 230, 3)) (kk : W p l e R s m args below meth c H locs cells slots Q (F0 m (pc + 3) ls (.ref (a 28) :: rest))) : W p l e R s m args below meth c H locs cells slots Q (F0 m pc ls (.ref (a 27) :: rest)) := by
  obtain ⟨hx, hb, -, hown, hts, hK, -, -, -⟩ := C
  exact va_get (D := D) (ci := 8) (v := .ref (a 28)) (C := RX9) (T := TX9) (N := 7) hx hb hts inlX9 hown hK hP 27 rfl rfl 0 (by decide) (hts _ fl_RX10_230) (fun _ h9 => h9) rfl hdg kk
theorem lk_RX10_231 : LkV RX10 231 yX0_copyFrom cX0_copyFrom 2 none 1 := ⟨⟨by decide +kernel, by decide +kernel, by decide +kernel, by decide +kernel, by decide +kernel, by decide +kernel⟩, by decide +kernel, by decide +kernel⟩
theorem ge_RX10_40_Y_0_0 (C : Cx p s m args meth c D cA cc nL RX10 ret) (hP : va_P D vwCl (w_Y cA a S) H) (hdg : decode cc pc = .ok (.getfield 40, 3)) (kk : W p l e R s m args below meth c H locs cells slots Q (F0 m (pc + 3) ls (.ref (a 14) :: rest))) : W p l e R s m args below meth c H locs cells slots Q (F0 m pc ls (.ref (a 0) :: rest)) := by
  obtain ⟨hx, hb, -, hown, hts, hK, -, -, -⟩ := C
  exact va_get (D := D) (ci := 9) (v := .ref (a 14)) (C := RX10) (T := TX10) (N := 9) hx hb hts inlX10 hown hK hP 0 rfl rfl 4 (by decide) (hts _ fl_RX10_40) (fun _ h9 => h9) rfl hdg kk
theorem pu_RX10_212_Y_0_14 {v : Int32} (C : Cx p s m args meth c D cA cc nL RX10 ret) (hP : va_P D vwCl (w_Y cA a S) H) (hD : va_D A (w_Y cA a S)) (hS : va_S A s.heap H locs) (hdg : decode cc pc = .ok (.putfield 212, 3)) (kk : ∀ (H1 : Heap) (locs1 : List Loc), va_P D vwCl (w_Y cA a (stf S 12 v)) H1 → va_D A (w_Y cA a (stf S 12 v)) → va_S A s.heap H1 locs1 → W p l e R s m args below meth c H1 locs1 cells slots Q (F0 m (pc + 3) ls rest)) : W p l e R s m args below meth c H locs cells slots Q (F0 m pc ls (.int v :: .ref (a 14) :: rest)) := by
  obtain ⟨hx, hb, -, hown, hts, hK, -, -, -⟩ := C
  exact va_put (D := D) (ci := 2) (v := .int v) (ty := .int) (C := RX2) (T := TX2) (N := 3) hx hb hts inlX2 tyX2 tyX2_ok nmX2 hown hK hP hD hS 14 rfl rfl 2 (by decide) (hts _ fl_RX10_212) (fun _ h9 => h9) rfl (by decide +kernel) rfl rfl (Nat.le_of_ble_eq_true rfl) hdg (fun H1 locs1 h1 h2 h3 => kk H1 locs1 h1 h2 h3)
theorem ge_RX10_26_Y_0_0 (C : Cx p s m args meth c D cA cc nL RX10 ret) (hP : va_P D vwCl (w_Y cA a S) H) (hdg : decode cc pc = .ok (.getfield 26, 3)) (kk : W p l e R s m args below meth c H locs cells slots Q (F0 m (pc + 3) ls (.ref (a 5) :: rest))) : W p l e R s m args below meth c H locs cells slots Q (F0 m pc ls (.ref (a 0) :: rest)) := by
  obtain ⟨hx, hb, -, hown, hts, hK, -, -, -⟩ := C
  exact va_get (D := D) (ci := 9) (v := .ref (a 5)) (C := RX10) (T := TX10) (N := 9) hx hb hts inlX10 hown hK hP 0 rfl rfl 2 (by decide) (hts _ fl_RX10_26) (fun _ h9 => h9) rfl hdg kk
theorem pu_RX10_128_Y_0_5 {v : Int32} (C : Cx p s m args meth c D cA cc nL RX10 ret) (hP : va_P D vwCl (w_Y cA a S) H) (hD : va_D A (w_Y cA a S)) (hS : va_S A s.heap H locs) (hdg : decode cc pc = .ok (.putfield 128, 3)) (kk : ∀ (H1 : Heap) (locs1 : List Loc), va_P D vwCl (w_Y cA a (stf S 4 v)) H1 → va_D A (w_Y cA a (stf S 4 v)) → va_S A s.heap H1 locs1 → W p l e R s m args below meth c H1 locs1 cells slots Q (F0 m (pc + 3) ls rest)) : W p l e R s m args below meth c H locs cells slots Q (F0 m pc ls (.int v :: .ref (a 5) :: rest)) := by
  obtain ⟨hx, hb, -, hown, hts, hK, -, -, -⟩ := C
  exact va_put (D := D) (ci := 3) (v := .int v) (ty := .int) (C := RX4) (T := TX4) (N := 3) hx hb hts inlX4 tyX4 tyX4_ok nmX4 hown hK hP hD hS 5 rfl rfl 2 (by decide) (hts _ fl_RX10_128) (fun _ h9 => h9) rfl (by decide +kernel) rfl rfl (Nat.le_of_ble_eq_true rfl) hdg (fun H1 locs1 h1 h2 h3 => kk H1 locs1 h1 h2 h3)
theorem ge_RX10_33_Y_0_0 (C : Cx p s m args meth c D cA cc nL RX10 ret) (hP : va_P D vwCl (w_Y cA a S) H) (hdg : decode cc pc = .ok (.getfield 33, 3)) (kk : W p l e R s m args below meth c H locs cells slots Q (F0 m (pc + 3) ls (.ref (a 8) :: rest))) : W p l e R s m args below meth c H locs cells slots Q (F0 m pc ls (.ref (a 0) :: rest)) := by
  obtain ⟨hx, hb, -, hown, hts, hK, -, -, -⟩ := C
  exact va_get (D := D) (ci := 9) (v := .ref (a 8)) (C := RX10) (T := TX10) (N := 9) hx hb hts inlX10 hown hK hP 0 rfl rfl 3 (by decide) (hts _ fl_RX10_33) (fun _ h9 => h9) rfl hdg kk
theorem pu_RX10_226_Y_0_8 {v : Int32} (C : Cx p s m args meth c D cA cc nL RX10 ret) (hP : va_P D vwCl (w_Y cA a S) H) (hD : va_D A (w_Y cA a S)) (hS : va_S A s.heap H locs) (hdg : decode cc pc = .ok (.putfield 226, 3)) (kk : ∀ (H1 : Heap) (locs1 : List Loc), va_P D vwCl (w_Y cA a (stf S 7 v)) H1 → va_D A (w_Y cA a (stf S 7 v)) → va_S A s.heap H1 locs1 → W p l e R s m args below meth c H1 locs1 cells slots Q (F0 m (pc + 3) ls rest)) : W p l e R s m args below meth c H locs cells slots Q (F0 m pc ls (.int v :: .ref (a 8) :: rest)) := by
  obtain ⟨hx, hb, -, hown, hts, hK, -, -, -⟩ := C
  exact va_put (D := D) (ci := 1) (v := .int v) (ty := .int) (C := RX1) (T := TX1) (N := 2) hx hb hts inlX1 tyX1 tyX1_ok nmX1 hown hK hP hD hS 8 rfl rfl 1 (by decide) (hts _ fl_RX10_226) (fun _ h9 => h9) rfl (by decide +kernel) rfl rfl (Nat.le_of_ble_eq_true rfl) hdg (fun H1 locs1 h1 h2 h3 => kk H1 locs1 h1 h2 h3)
def fX10_layText (N : Nat) (a : Nat → Nat) (S : St) : Option (Int32 × (Nat → Nat) × St) :=
  Option.bind (fX9_readFrom N (sh S 32) (sh S 0)) (fun q1 => if q1.1 = (-4 : Int32) then (Option.bind (fX0_copyFrom N (sh (pt S 32 9 q1.2) 2) (sh (pt S 32 9 q1.2) 37)) (fun q3 => some ((1 : Int32), swA a, swS (stf (stf (stf (pt (pt S 32 9 q1.2) 2 2 q3) 12 ((0 : Int32))) 4 ((0 : Int32))) 7 ((0 : Int32)))))) else (some ((0 : Int32), a, (pt S 32 9 q1.2))))
set_option maxRecDepth 100000 in
set_option maxHeartbeats 4000000 in
theorem wX10_layText (C : Cx p s m args meth c D cA cX10_layText 2 RX10 (some .boolean)) (hA : ∀ q : Nat, s.heap.size ≤ q → A q) {N : Nat} {z : Int32 × (Nat → Nat) × St} {S : St} (hf : fX10_layText N a S = some z) {H : Heap} {locs : List Loc} {ls : Array Slot} (hP : va_P D vwCl (w_X cA a S) H) (hD : va_D A (w_X cA a S)) (hS : va_S A s.heap H locs) (hl : lv_has ls 2 [(0, .ref (a 0))]) : W p l e (rmU 5 112 0 0) s m args below meth c H locs 0 0 (MQ below (QI D A z.1 (w_X cA z.2.1 z.2.2)) args s 0 0 A) (F0 m 0 ls []) := by
  obtain ⟨hx, hb, hml, hown, hts, hK, hN, hr, hlk⟩ := id C
  unfold fX10_layText at hf
  refine lv_aload_n (pc := 0) hx hb dX10_layText_0 rfl (lv_at hl 0 rfl) ?_
  refine ge_RX10_65_X_0_0 (pc := 1) C hP dX10_layText_1 ?_
  refine lv_aload_n (pc := 4) hx hb dX10_layText_4 rfl (lv_at hl 0 rfl) ?_
  refine ge_RX10_10_X_0_0 (pc := 5) C hP dX10_layText_5 ?_
  obtain ⟨q1, hq1, hf⟩ := pt_b hf
  have hPc : va_P D vwCl (w_D_T cA (sh a 27) (sh S 32) (sh a 1) (sh S 0)) H := hP.sub [27, 28, 29, 30, 31, 32, 1, 2] rfl
  have hDc : va_D A (w_D_T cA (sh a 27) (sh S 32) (sh a 1) (sh S 0)) := hD.sub [27, 28, 29, 30, 31, 32, 1, 2] (by decide) rfl
  refine upd_i (W1 := (w_D_T cA (sh a 27) q1.2 (sh a 1) (sh S 0))) (runU_V (pc := 8) (As := [.ref (a 1)]) (b := a 27) (rest := []) (ci := 8) (q0 := 0) C lk_RX10_89 (kX9_readFrom l D cA (sh a 27) (sh a 1) hq1 H.size) ⟨Nat.le_of_ble_eq_true rfl, Nat.le_of_ble_eq_true rfl⟩ ⟨Nat.le_refl _, Nat.le_refl _⟩ hPc hDc rfl rfl rfl hl.1 rfl (Nat.le_of_ble_eq_true rfl) dX10_layText_8) hP hD hS hA [27, 28, 29, 30, 31, 32, 1, 2] rfl (by decide) rfl (fun H locs hP hD hS => ?_)
  have hP : va_P D vwCl (w_X cA a (pt S 32 9 q1.2)) H := hP
  have hD : va_D A (w_X cA a (pt S 32 9 q1.2)) := hD
  refine lv_bipush (v := (-4 : Int32)) (pc := 11) hx hb dX10_layText_11 (by decide) ?_
  refine lv_icmp_eq (tgt := 18) (pc := 13) hx hb dX10_layText_13 (by decide) (fun c2 => ?_) (fun c2 => ?_)
  · have hf := pt_t c2 hf
    refine lv_aload_n (pc := 18) hx hb dX10_layText_18 rfl (lv_at hl 0 rfl) ?_
    refine ge_RX10_61_X_0_0 (pc := 19) C hP dX10_layText_19 ?_
    refine lv_astore_n (lv' := [(1, .ref (a 21)), (0, .ref (a 0))]) (pc := 22) hx hb dX10_layText_22 rfl hl (by decide) rfl (fun ls hl => ?_)
    refine lv_aload_n (pc := 23) hx hb dX10_layText_23 rfl (lv_at hl 1 rfl) ?_
    refine lv_aload_n (pc := 24) hx hb dX10_layText_24 rfl (lv_at hl 1 rfl) ?_
    refine ge_RX10_65_X_0_0 (pc := 25) C hP dX10_layText_25 ?_
    refine pr_RX10_61_X_0_0_27 (pc := 28) C hP hD hS dX10_layText_28 (fun H locs hP hD hS => ?_)
    refine lv_aload_n (pc := 31) hx hb dX10_layText_31 rfl (lv_at hl 1 rfl) ?_
    refine lv_aload_n (pc := 32) hx hb dX10_layText_32 rfl (lv_at hl 0 rfl) ?_
    refine pr_RX10_65_Xa_0_0_21 (pc := 33) C hP hD hS dX10_layText_33 (fun H locs hP hD hS => ?_)
    refine lv_aload_n (pc := 36) hx hb dX10_layText_36 rfl (lv_at hl 1 rfl) ?_
    refine ge_RX10_19_Y_0_0 (pc := 37) C hP dX10_layText_37 ?_
    refine lv_aload_n (pc := 40) hx hb dX10_layText_40 rfl (lv_at hl 1 rfl) ?_
    refine ge_RX10_61_Y_0_0 (pc := 41) C hP dX10_layText_41 ?_
    refine ge_RX10_230_Y_0_27 (pc := 44) C hP dX10_layText_44 ?_
    obtain ⟨q3, hq3, hf⟩ := pt_b hf
    have hPc : va_P D vwCl (w_F_F cA (sh a 3) (sh (pt S 32 9 q1.2) 2) (sh a 28) (sh (pt S 32 9 q1.2) 37)) H := hP.sub [3, 4, 28, 29] rfl
    have hDc : va_D A (w_F_F cA (sh a 3) (sh (pt S 32 9 q1.2) 2) (sh a 28) (sh (pt S 32 9 q1.2) 37)) := hD.sub [3, 4, 28, 29] (by decide) rfl
    refine upd_v (W1 := (w_F_F cA (sh a 3) q3 (sh a 28) (sh (pt S 32 9 q1.2) 37))) (runU_V (pc := 47) (As := [.ref (a 28)]) (b := a 3) (rest := []) (ci := 0) (q0 := 0) C lk_RX10_231 (kX0_copyFrom l D cA (sh a 3) (sh a 28) hq3 H.size) ⟨Nat.le_of_ble_eq_true rfl, Nat.le_of_ble_eq_true rfl⟩ ⟨Nat.le_refl _, Nat.le_refl _⟩ hPc hDc rfl rfl rfl hl.1 rfl (Nat.le_of_ble_eq_true rfl) dX10_layText_47) hP hD hS hA [3, 4, 28, 29] rfl (by decide) rfl (fun H locs hP hD hS => ?_)
    have hP : va_P D vwCl (w_Y cA a (pt (pt S 32 9 q1.2) 2 2 q3)) H := hP
    have hD : va_D A (w_Y cA a (pt (pt S 32 9 q1.2) 2 2 q3)) := hD
    refine lv_aload_n (pc := 50) hx hb dX10_layText_50 rfl (lv_at hl 1 rfl) ?_
    refine ge_RX10_40_Y_0_0 (pc := 51) C hP dX10_layText_51 ?_
    refine lv_iconst (v := (0 : Int32)) (pc := 54) hx hb dX10_layText_54 (by decide) ?_
    refine pu_RX10_212_Y_0_14 (pc := 55) C hP hD hS dX10_layText_55 (fun H locs hP hD hS => ?_)
    refine lv_aload_n (pc := 58) hx hb dX10_layText_58 rfl (lv_at hl 1 rfl) ?_
    refine ge_RX10_26_Y_0_0 (pc := 59) C hP dX10_layText_59 ?_
    refine lv_iconst (v := (0 : Int32)) (pc := 62) hx hb dX10_layText_62 (by decide) ?_
    refine pu_RX10_128_Y_0_5 (pc := 63) C hP hD hS dX10_layText_63 (fun H locs hP hD hS => ?_)
    refine lv_aload_n (pc := 66) hx hb dX10_layText_66 rfl (lv_at hl 1 rfl) ?_
    refine ge_RX10_33_Y_0_0 (pc := 67) C hP dX10_layText_67 ?_
    refine lv_iconst (v := (0 : Int32)) (pc := 70) hx hb dX10_layText_70 (by decide) ?_
    refine pu_RX10_226_Y_0_8 (pc := 71) C hP hD hS dX10_layText_71 (fun H locs hP hD hS => ?_)
    refine lv_iconst (v := (1 : Int32)) (pc := 74) hx hb dX10_layText_74 (by decide) ?_
    cases hf
    exact ret_z C (Or.inr rfl) (hP.sub [0, 1, 2, 3, 4, 5, 6, 7, 8, 9, 10, 11, 12, 13, 14, 15, 16, 17, 18, 19, 20, 27, 28, 29, 30, 31, 32, 21, 22, 23, 24, 25, 26] rfl) (hD.sub [0, 1, 2, 3, 4, 5, 6, 7, 8, 9, 10, 11, 12, 13, 14, 15, 16, 17, 18, 19, 20, 27, 28, 29, 30, 31, 32, 21, 22, 23, 24, 25, 26] (by decide) rfl) hS dX10_layText_75
  · have hf := pt_f c2 hf
    refine lv_iconst (v := (0 : Int32)) (pc := 16) hx hb dX10_layText_16 (by decide) ?_
    cases hf
    exact ret_z C (Or.inl rfl) hP hD hS dX10_layText_17
set_option maxRecDepth 100000 in
set_option maxHeartbeats 4000000 in
theorem kX10_layText (l : Launch) (D : va_G) (cA : Nat → ClassId) (a : Nat → Nat) {N : Nat} {S : St} {z : Int32 × (Nat → Nat) × St} (hf : fX10_layText N a S = some z) : CtI l yX10_layText cX10_layText 2 (some .boolean) 5 112 D cA (w_X cA a S) (w_X cA z.2.1 z.2.2) [.ref (a 0)] z.1 := by
  intro sz
  refine Met.ofW (cc := cX10_layText) (maxL := 2) (ret := (some .boolean)) (by decide) rfl ?_
  intro p e s m args below meth c s₁ B hml hv
  obtain ⟨rfl, hsz, hP, hK, hD0⟩ := hv
  subst hsz
  have C : Cx p s m _ meth c D cA cX10_layText 2 RX10 (some .boolean) := Cx.of B hml hK
  have hD := hD0.self (sz := s.heap.size)
  have hA : ∀ q : Nat, s.heap.size ≤ q → va_A (w_X cA a S) s.heap.size q := fun q h => Or.inr h
  have hS : va_S (va_A (w_X cA a S) s.heap.size) s.heap s.heap [] := va_S.rf
  have hl := lv_entry ([.ref (a 0)]) (n := 2) (Nat.le_of_ble_eq_true rfl)
  rw [lg_entry_eq]
  generalize (lg_sl ([.ref (a 0)]) ++ List.replicate (2 - (lg_sl ([.ref (a 0)])).length) Slot.unset).toArray = ls at hl ⊢
  exact wX10_layText C hA hf hP hD hS hl
theorem lay_a0 {N : Nat} {a : Nat → Nat} {S : St} {z : Int32 × (Nat → Nat) × St} (hf : fX10_layText N a S = some z) : z.2.1 0 = a 0 := by
  unfold fX10_layText at hf
  obtain ⟨q1, -, hf⟩ := pt_b hf
  split at hf
  · obtain ⟨q3, -, hf⟩ := pt_b hf
    cases hf
    rfl
  · cases hf
    rfl
def fX10_lay (N : Nat) (a : Nat → Nat) (S : St) : Option (Int32 × (Nat → Nat) × St) :=
  Option.bind (fX10_layText N a S) (fun q1 => if q1.1 = 0 then (some ((-2 : Int32), q1.2.1, q1.2.2)) else (Option.bind (fX0_strikers N (sh q1.2.2 2)) (fun q2 => some (q2, q1.2.1, q1.2.2))))
theorem lk_RX10_74 : LkV RX10 74 yX10_layText cX10_layText 2 (some .boolean) 0 := ⟨⟨by decide +kernel, by decide +kernel, by decide +kernel, by decide +kernel, by decide +kernel, by decide +kernel⟩, by decide +kernel, by decide +kernel⟩

set_option maxRecDepth 100000 in
set_option maxHeartbeats 4000000 in
theorem wX10_lay (C : Cx p s m args meth c D cA cX10_lay 1 RX10 (some .int)) (hA : ∀ q : Nat, s.heap.size ≤ q → A q) {N : Nat} {z : Int32 × (Nat → Nat) × St} {S : St} (hf : fX10_lay N a S = some z) {H : Heap} {locs : List Loc} {ls : Array Slot} (hP : va_P D vwCl (w_X cA a S) H) (hD : va_D A (w_X cA a S)) (hS : va_S A s.heap H locs) (hl : lv_has ls 1 [(0, .ref (a 0))]) : W p l e (rmU 7 155 0 0) s m args below meth c H locs 0 0 (MQ below (QI D A z.1 (w_X cA z.2.1 z.2.2)) args s 0 0 A) (F0 m 0 ls []) := by
  obtain ⟨hx, hb, hml, hown, hts, hK, hN, hr, hlk⟩ := id C
  unfold fX10_lay at hf
  refine lv_aload_n (pc := 0) hx hb dX10_lay_0 rfl (lv_at hl 0 rfl) ?_
  obtain ⟨q1, hq1, hf⟩ := pt_b hf
  refine all_i (runU_V (pc := 1) (As := []) (b := a 0) (rest := []) (ci := 9) (q0 := 0) C lk_RX10_74 (kX10_layText l D cA a hq1 H.size) ⟨Nat.le_of_ble_eq_true rfl, Nat.le_of_ble_eq_true rfl⟩ ⟨Nat.le_refl _, Nat.le_refl _⟩ hP hD rfl rfl rfl hl.1 rfl (Nat.le_of_ble_eq_true rfl) dX10_lay_1) hD hS hA (fun H locs hP hD hS => ?_)
  have h0 := lay_a0 hq1
  have hl : lv_has ls 1 [(0, .ref (q1.2.1 0))] := by rw [h0]; exact hl
  obtain ⟨r, a, S⟩ := q1
  refine lv_if_eq (tgt := 17) (pc := 4) hx hb dX10_lay_4 (by decide) (fun c2 => ?_) (fun c2 => ?_)
  · have hf := pt_t c2 hf
    refine lv_bipush (v := (-2 : Int32)) (pc := 17) hx hb dX10_lay_17 (by decide) ?_
    cases hf
    exact ret_i C hP hD hS dX10_lay_19
  · have hf := pt_f c2 hf
    refine lv_aload_n (pc := 7) hx hb dX10_lay_7 rfl (lv_at hl 0 rfl) ?_
    refine ge_RX10_19_X_0_0 (pc := 8) (S := S) (a := a) C hP dX10_lay_8 ?_
    obtain ⟨q2, hq2, hf⟩ := pt_b hf
    have hPc : va_P D vwCl (w_F cA (sh a 3) (sh S 2)) H := hP.sub [3, 4] rfl
    have hDc : va_D A (w_F cA (sh a 3) (sh S 2)) := hD.sub [3, 4] (by decide) rfl
    refine prt_i (runU_V (pc := 11) (As := []) (b := a 3) (rest := []) (ci := 0) (q0 := 0) C lk_RX10_93 (kX0_strikers l D cA (sh a 3) hq2 H.size) ⟨Nat.le_of_ble_eq_true rfl, Nat.le_of_ble_eq_true rfl⟩ ⟨Nat.le_refl _, Nat.le_refl _⟩ hPc hDc rfl rfl rfl hl.1 rfl (Nat.le_of_ble_eq_true rfl) dX10_lay_11) hP hD hS hA [3, 4] rfl (fun H locs hP hD hS => ?_)
    refine lv_goto (tgt := 19) (pc := 14) hx hb dX10_lay_14 (by decide) ?_
    cases hf
    exact ret_i C hP hD hS dX10_lay_19
set_option maxRecDepth 100000 in
set_option maxHeartbeats 4000000 in
theorem kX10_lay (l : Launch) (D : va_G) (cA : Nat → ClassId) (a : Nat → Nat) {N : Nat} {S : St} {z : Int32 × (Nat → Nat) × St} (hf : fX10_lay N a S = some z) : CtI l yX10_lay cX10_lay 1 (some .int) 7 155 D cA (w_X cA a S) (w_X cA z.2.1 z.2.2) [.ref (a 0)] z.1 := by
  intro sz
  refine Met.ofW (cc := cX10_lay) (maxL := 1) (ret := (some .int)) (by decide) rfl ?_
  intro p e s m args below meth c s₁ B hml hv
  obtain ⟨rfl, hsz, hP, hK, hD0⟩ := hv
  subst hsz
  have C : Cx p s m _ meth c D cA cX10_lay 1 RX10 (some .int) := Cx.of B hml hK
  have hD := hD0.self (sz := s.heap.size)
  have hA : ∀ q : Nat, s.heap.size ≤ q → va_A (w_X cA a S) s.heap.size q := fun q h => Or.inr h
  have hS : va_S (va_A (w_X cA a S) s.heap.size) s.heap s.heap [] := va_S.rf
  have hl := lv_entry ([.ref (a 0)]) (n := 1) (Nat.le_of_ble_eq_true rfl)
  rw [lg_entry_eq]
  generalize (lg_sl ([.ref (a 0)]) ++ List.replicate (1 - (lg_sl ([.ref (a 0)])).length) Slot.unset).toArray = ls at hl ⊢
  exact wX10_lay C hA hf hP hD hS hl
theorem lay_a0' {N : Nat} {a : Nat → Nat} {S : St} {z : Int32 × (Nat → Nat) × St} (hf : fX10_lay N a S = some z) : z.2.1 0 = a 0 := by
  unfold fX10_lay at hf
  obtain ⟨q1, hq, hf⟩ := pt_b hf
  have h := lay_a0 hq
  split at hf
  · cases hf
    exact h
  · obtain ⟨q3, -, hf⟩ := pt_b hf
    cases hf
    exact h
end PLay
