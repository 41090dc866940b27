section PClB
variable {p : Program} {l : Launch} {e : Env} {R : Room} {s : State} {m : MethodId} {args : Array Value} {below : List Frame} {meth : Method} {c : Code} {H : Heap} {locs : List Loc} {cells slots : Nat} {Q : State → Prop}
variable {D : va_G} {cA : Nat → ClassId} {cc : ByteArray} {nL : Nat} {own : String} {ret : Option FieldType} {pc : Nat} {ls : Array Slot} {rest : List Value} {A : Nat → Prop} {a b d : Nat → Nat} {S T U : St}
def w_S (cA : Nat → ClassId) (a : Nat → Nat) (S : St) : va_W := [(a 0, .inr (4, [.ref (a 1), .int (S 0 0), .int (S 1 0), .int (S 2 0), .int (S 3 0), .int (S 4 0), .int (S 5 0)])), (a 1, .inl (cA 2, 1000, .inl (S 6)))]
theorem fl_RX5_19 : Cond.fieldLink RX5 19 "SevenOnStrike$Speech" "found" "I" ∈ wsL_law := by decide +kernel
theorem ge_RX5_19_S_0_0 (C : Cx p s m args meth c D cA cc nL RX5 ret) (hP : va_P D vwCl (w_S cA a S) H) (hdg : decode cc pc = .ok (.getfield 19, 3)) (kk : W p l e R s m args below meth c H locs cells slots Q (F0 m (pc + 3) ls (.int (S 1 0) :: rest))) : W p l e R s m args below meth c H locs cells slots Q (F0 m pc ls (.ref (a 0) :: rest)) := by
  obtain ⟨hx, hb, -, hown, hts, hK, -, -, -⟩ := C
  exact va_get (D := D) (ci := 4) (v := .int (S 1 0)) (C := RX5) (T := TX5) (N := 7) hx hb hts inlX5 hown hK hP 0 rfl rfl 2 (by decide) (hts _ fl_RX5_19) (fun _ h9 => h9) rfl hdg kk
theorem pu_RX5_19_S_0_0 {v : Int32} (C : Cx p s m args meth c D cA cc nL RX5 ret) (hP : va_P D vwCl (w_S cA a S) H) (hD : va_D A (w_S cA a S)) (hS : va_S A s.heap H locs) (hdg : decode cc pc = .ok (.putfield 19, 3)) (kk : ∀ (H1 : Heap) (locs1 : List Loc), va_P D vwCl (w_S cA a (stf S 1 v)) H1 → va_D A (w_S cA a (stf S 1 v)) → va_S A s.heap H1 locs1 → W p l e R s m args below meth c H1 locs1 cells slots Q (F0 m (pc + 3) ls rest)) : W p l e R s m args below meth c H locs cells slots Q (F0 m pc ls (.int v :: .ref (a 0) :: rest)) := by
  obtain ⟨hx, hb, -, hown, hts, hK, -, -, -⟩ := C
  exact va_put (D := D) (ci := 4) (v := .int v) (ty := .int) (C := RX5) (T := TX5) (N := 7) hx hb hts inlX5 tyX5 tyX5_ok nmX5 hown hK hP hD hS 0 rfl rfl 2 (by decide) (hts _ fl_RX5_19) (fun _ h9 => h9) rfl (by decide +kernel) rfl rfl (Nat.le_of_ble_eq_true rfl) hdg (fun H1 locs1 h1 h2 h3 => kk H1 locs1 h1 h2 h3)
theorem fl_RX5_22 : Cond.fieldLink RX5 22 "SevenOnStrike$Speech" "letters" "I" ∈ wsL_law := by decide +kernel
theorem pu_RX5_22_S_0_0 {v : Int32} (C : Cx p s m args meth c D cA cc nL RX5 ret) (hP : va_P D vwCl (w_S cA a S) H) (hD : va_D A (w_S cA a S)) (hS : va_S A s.heap H locs) (hdg : decode cc pc = .ok (.putfield 22, 3)) (kk : ∀ (H1 : Heap) (locs1 : List Loc), va_P D vwCl (w_S cA a (stf S 2 v)) H1 → va_D A (w_S cA a (stf S 2 v)) → va_S A s.heap H1 locs1 → W p l e R s m args below meth c H1 locs1 cells slots Q (F0 m (pc + 3) ls rest)) : W p l e R s m args below meth c H locs cells slots Q (F0 m pc ls (.int v :: .ref (a 0) :: rest)) := by
  obtain ⟨hx, hb, -, hown, hts, hK, -, -, -⟩ := C
  exact va_put (D := D) (ci := 4) (v := .int v) (ty := .int) (C := RX5) (T := TX5) (N := 7) hx hb hts inlX5 tyX5 tyX5_ok nmX5 hown hK hP hD hS 0 rfl rfl 3 (by decide) (hts _ fl_RX5_22) (fun _ h9 => h9) rfl (by decide +kernel) rfl rfl (Nat.le_of_ble_eq_true rfl) hdg (fun H1 locs1 h1 h2 h3 => kk H1 locs1 h1 h2 h3)
theorem fl_RX5_25 : Cond.fieldLink RX5 25 "SevenOnStrike$Speech" "kind" "I" ∈ wsL_law := by decide +kernel
theorem pu_RX5_25_S_0_0 {v : Int32} (C : Cx p s m args meth c D cA cc nL RX5 ret) (hP : va_P D vwCl (w_S cA a S) H) (hD : va_D A (w_S cA a S)) (hS : va_S A s.heap H locs) (hdg : decode cc pc = .ok (.putfield 25, 3)) (kk : ∀ (H1 : Heap) (locs1 : List Loc), va_P D vwCl (w_S cA a (stf S 3 v)) H1 → va_D A (w_S cA a (stf S 3 v)) → va_S A s.heap H1 locs1 → W p l e R s m args below meth c H1 locs1 cells slots Q (F0 m (pc + 3) ls rest)) : W p l e R s m args below meth c H locs cells slots Q (F0 m pc ls (.int v :: .ref (a 0) :: rest)) := by
  obtain ⟨hx, hb, -, hown, hts, hK, -, -, -⟩ := C
  exact va_put (D := D) (ci := 4) (v := .int v) (ty := .int) (C := RX5) (T := TX5) (N := 7) hx hb hts inlX5 tyX5 tyX5_ok nmX5 hown hK hP hD hS 0 rfl rfl 4 (by decide) (hts _ fl_RX5_25) (fun _ h9 => h9) rfl (by decide +kernel) rfl rfl (Nat.le_of_ble_eq_true rfl) hdg (fun H1 locs1 h1 h2 h3 => kk H1 locs1 h1 h2 h3)
theorem fl_RX5_28 : Cond.fieldLink RX5 28 "SevenOnStrike$Speech" "first" "I" ∈ wsL_law := by decide +kernel
theorem pu_RX5_28_S_0_0 {v : Int32} (C : Cx p s m args meth c D cA cc nL RX5 ret) (hP : va_P D vwCl (w_S cA a S) H) (hD : va_D A (w_S cA a S)) (hS : va_S A s.heap H locs) (hdg : decode cc pc = .ok (.putfield 28, 3)) (kk : ∀ (H1 : Heap) (locs1 : List Loc), va_P D vwCl (w_S cA a (stf S 4 v)) H1 → va_D A (w_S cA a (stf S 4 v)) → va_S A s.heap H1 locs1 → W p l e R s m args below meth c H1 locs1 cells slots Q (F0 m (pc + 3) ls rest)) : W p l e R s m args below meth c H locs cells slots Q (F0 m pc ls (.int v :: .ref (a 0) :: rest)) := by
  obtain ⟨hx, hb, -, hown, hts, hK, -, -, -⟩ := C
  exact va_put (D := D) (ci := 4) (v := .int v) (ty := .int) (C := RX5) (T := TX5) (N := 7) hx hb hts inlX5 tyX5 tyX5_ok nmX5 hown hK hP hD hS 0 rfl rfl 5 (by decide) (hts _ fl_RX5_28) (fun _ h9 => h9) rfl (by decide +kernel) rfl rfl (Nat.le_of_ble_eq_true rfl) hdg (fun H1 locs1 h1 h2 h3 => kk H1 locs1 h1 h2 h3)
theorem fl_RX5_31 : Cond.fieldLink RX5 31 "SevenOnStrike$Speech" "second" "I" ∈ wsL_law := by decide +kernel
theorem pu_RX5_31_S_0_0 {v : Int32} (C : Cx p s m args meth c D cA cc nL RX5 ret) (hP : va_P D vwCl (w_S cA a S) H) (hD : va_D A (w_S cA a S)) (hS : va_S A s.heap H locs) (hdg : decode cc pc = .ok (.putfield 31, 3)) (kk : ∀ (H1 : Heap) (locs1 : List Loc), va_P D vwCl (w_S cA a (stf S 5 v)) H1 → va_D A (w_S cA a (stf S 5 v)) → va_S A s.heap H1 locs1 → W p l e R s m args below meth c H1 locs1 cells slots Q (F0 m (pc + 3) ls rest)) : W p l e R s m args below meth c H locs cells slots Q (F0 m pc ls (.int v :: .ref (a 0) :: rest)) := by
  obtain ⟨hx, hb, -, hown, hts, hK, -, -, -⟩ := C
  exact va_put (D := D) (ci := 4) (v := .int v) (ty := .int) (C := RX5) (T := TX5) (N := 7) hx hb hts inlX5 tyX5 tyX5_ok nmX5 hown hK hP hD hS 0 rfl rfl 6 (by decide) (hts _ fl_RX5_31) (fun _ h9 => h9) rfl (by decide +kernel) rfl rfl (Nat.le_of_ble_eq_true rfl) hdg (fun H1 locs1 h1 h2 h3 => kk H1 locs1 h1 h2 h3)
theorem ge_RX5_22_S_0_0 (C : Cx p s m args meth c D cA cc nL RX5 ret) (hP : va_P D vwCl (w_S cA a S) H) (hdg : decode cc pc = .ok (.getfield 22, 3)) (kk : W p l e R s m args below meth c H locs cells slots Q (F0 m (pc + 3) ls (.int (S 2 0) :: rest))) : W p l e R s m args below meth c H locs cells slots Q (F0 m pc ls (.ref (a 0) :: rest)) := by
  obtain ⟨hx, hb, -, hown, hts, hK, -, -, -⟩ := C
  exact va_get (D := D) (ci := 4) (v := .int (S 2 0)) (C := RX5) (T := TX5) (N := 7) hx hb hts inlX5 hown hK hP 0 rfl rfl 3 (by decide) (hts _ fl_RX5_22) (fun _ h9 => h9) rfl hdg kk
theorem lk_RX5_50 : LkS RX5 50 yX3_lengthOf cX3_lengthOf 1 (some .int) 1 := ⟨⟨by decide +kernel, by decide +kernel, by decide +kernel, by decide +kernel, by decide +kernel, by decide +kernel⟩, by decide +kernel⟩
def fX5_take_j58 (N : Nat) (p1 : Int32) (p2 : Int32) (p3 : Int32) (S : St) : Option (St) :=
  some ((stf S 1 (((S 1 0) + (1 : Int32)))))
def fX5_take_j37 (N : Nat) (p1 : Int32) (p2 : Int32) (p3 : Int32) (x4 : Int32) (S : St) : Option (St) :=
  fX5_take_j58 N p1 p2 p3 ((stf (stf (stf (stf S 2 x4) 3 p1) 4 p2) 5 p3))
def fX5_take_j21 (N : Nat) (p1 : Int32) (p2 : Int32) (p3 : Int32) (x4 : Int32) (S : St) : Option (St) :=
  if (S 1 0) = 0 then (fX5_take_j37 N p1 p2 p3 x4 S) else (if (S 2 0) ≤ x4 then (fX5_take_j58 N p1 p2 p3 S) else (fX5_take_j37 N p1 p2 p3 x4 S))
def fX5_take (N : Nat) (S : St) (p1 : Int32) (p2 : Int32) (p3 : Int32) : Option (St) :=
  Option.bind (fX3_lengthOf N p2) (fun q1 => if p1 = 0 then (fX5_take_j21 N p1 p2 p3 q1 S) else (Option.bind (fX3_lengthOf N p3) (fun q3 => fX5_take_j21 N p1 p2 p3 ((q1 + ((1 : Int32) + q3))) S)))
set_option maxRecDepth 100000 in
set_option maxHeartbeats 4000000 in
theorem wX5_take_58 (C : Cx p s m args meth c D cA cX5_take 5 RX5 none) (hA : ∀ q : Nat, s.heap.size ≤ q → A q) {N : Nat} {z : St} {p1 : Int32} {p2 : Int32} {p3 : Int32} {S : St} (hf : fX5_take_j58 N p1 p2 p3 S = some z) {H : Heap} {locs : List Loc} {ls : Array Slot} (hP : va_P D vwCl (w_S cA a S) H) (hD : va_D A (w_S cA a S)) (hS : va_S A s.heap H locs) (hl : lv_has ls 5 [(0, .ref (a 0))]) : W p l e (rmU 1 20 0 0) s m args below meth c H locs 0 0 (MQ below (QV D A (w_S cA a z)) args s 0 0 A) (F0 m 58 ls []) := by
  obtain ⟨hx, hb, hml, hown, hts, hK, hN, hr, hlk⟩ := id C
  unfold fX5_take_j58 at hf
  refine lv_aload_n (pc := 58) hx hb dX5_take_58 rfl (lv_at hl 0 rfl) ?_
  refine lv_dup (pc := 59) hx hb dX5_take_59 rfl ?_
  refine ge_RX5_19_S_0_0 (pc := 60) C hP dX5_take_60 ?_
  refine lv_iconst (v := (1 : Int32)) (pc := 63) hx hb dX5_take_63 (by decide) ?_
  refine lv_iadd (pc := 64) hx hb dX5_take_64 ?_
  refine pu_RX5_19_S_0_0 (pc := 65) C hP hD hS dX5_take_65 (fun H locs hP hD hS => ?_)
  cases hf
  exact ret_v C hP hD hS dX5_take_68
set_option maxRecDepth 100000 in
set_option maxHeartbeats 4000000 in
theorem wX5_take_37 (C : Cx p s m args meth c D cA cX5_take 5 RX5 none) (hA : ∀ q : Nat, s.heap.size ≤ q → A q) {N : Nat} {z : St} {p1 : Int32} {p2 : Int32} {p3 : Int32} {x4 : Int32} {S : St} (hf : fX5_take_j37 N p1 p2 p3 x4 S = some z) {H : Heap} {locs : List Loc} {ls : Array Slot} (hP : va_P D vwCl (w_S cA a S) H) (hD : va_D A (w_S cA a S)) (hS : va_S A s.heap H locs) (hl : lv_has ls 5 [(0, .ref (a 0)), (1, .int p1), (2, .int p2), (3, .int p3), (4, .int x4)]) : W p l e (rmU 1 20 0 0) s m args below meth c H locs 0 0 (MQ below (QV D A (w_S cA a z)) args s 0 0 A) (F0 m 37 ls []) := by
  obtain ⟨hx, hb, hml, hown, hts, hK, hN, hr, hlk⟩ := id C
  unfold fX5_take_j37 at hf
  refine lv_aload_n (pc := 37) hx hb dX5_take_37 rfl (lv_at hl 0 rfl) ?_
  refine lv_iload (pc := 38) hx hb dX5_take_38 (lv_at hl 4 rfl) ?_
  refine pu_RX5_22_S_0_0 (pc := 40) C hP hD hS dX5_take_40 (fun H locs hP hD hS => ?_)
  refine lv_aload_n (pc := 43) hx hb dX5_take_43 rfl (lv_at hl 0 rfl) ?_
  refine lv_iload_n (pc := 44) hx hb dX5_take_44 rfl (lv_at hl 1 rfl) ?_
  refine pu_RX5_25_S_0_0 (pc := 45) C hP hD hS dX5_take_45 (fun H locs hP hD hS => ?_)
  refine lv_aload_n (pc := 48) hx hb dX5_take_48 rfl (lv_at hl 0 rfl) ?_
  refine lv_iload_n (pc := 49) hx hb dX5_take_49 rfl (lv_at hl 2 rfl) ?_
  refine pu_RX5_28_S_0_0 (pc := 50) C hP hD hS dX5_take_50 (fun H locs hP hD hS => ?_)
  refine lv_aload_n (pc := 53) hx hb dX5_take_53 rfl (lv_at hl 0 rfl) ?_
  refine lv_iload_n (pc := 54) hx hb dX5_take_54 rfl (lv_at hl 3 rfl) ?_
  refine pu_RX5_31_S_0_0 (pc := 55) C hP hD hS dX5_take_55 (fun H locs hP hD hS => ?_)
  exact wX5_take_58 C hA  hf hP hD hS (lv_sub hl [0] rfl)
set_option maxRecDepth 100000 in
set_option maxHeartbeats 4000000 in
theorem wX5_take_21 (C : Cx p s m args meth c D cA cX5_take 5 RX5 none) (hA : ∀ q : Nat, s.heap.size ≤ q → A q) {N : Nat} {z : St} {p1 : Int32} {p2 : Int32} {p3 : Int32} {x4 : Int32} {S : St} (hf : fX5_take_j21 N p1 p2 p3 x4 S = some z) {H : Heap} {locs : List Loc} {ls : Array Slot} (hP : va_P D vwCl (w_S cA a S) H) (hD : va_D A (w_S cA a S)) (hS : va_S A s.heap H locs) (hl : lv_has ls 5 [(0, .ref (a 0)), (1, .int p1), (2, .int p2), (3, .int p3), (4, .int x4)]) : W p l e (rmU 1 20 0 0) s m args below meth c H locs 0 0 (MQ below (QV D A (w_S cA a z)) args s 0 0 A) (F0 m 21 ls []) := by
  obtain ⟨hx, hb, hml, hown, hts, hK, hN, hr, hlk⟩ := id C
  unfold fX5_take_j21 at hf
  refine lv_aload_n (pc := 21) hx hb dX5_take_21 rfl (lv_at hl 0 rfl) ?_
  refine ge_RX5_19_S_0_0 (pc := 22) C hP dX5_take_22 ?_
  refine lv_if_eq (tgt := 37) (pc := 25) hx hb dX5_take_25 (by decide) (fun c1 => ?_) (fun c1 => ?_)
  · have hf := pt_t c1 hf
    exact wX5_take_37 C hA  hf hP hD hS (lv_sub hl [0, 1, 2, 3, 4] rfl)
  · have hf := pt_f c1 hf
    refine lv_iload (pc := 28) hx hb dX5_take_28 (lv_at hl 4 rfl) ?_
    refine lv_aload_n (pc := 30) hx hb dX5_take_30 rfl (lv_at hl 0 rfl) ?_
    refine ge_RX5_22_S_0_0 (pc := 31) C hP dX5_take_31 ?_
    refine lv_icmp_ge (tgt := 58) (pc := 34) hx hb dX5_take_34 (by decide) (fun c2 => ?_) (fun c2 => ?_)
    · have hf := pt_t c2 hf
      exact wX5_take_58 C hA  hf hP hD hS (lv_sub hl [0] rfl)
    · have hf := pt_f c2 hf
      exact wX5_take_37 C hA  hf hP hD hS (lv_sub hl [0, 1, 2, 3, 4] rfl)
set_option maxRecDepth 100000 in
set_option maxHeartbeats 4000000 in
theorem wX5_take (C : Cx p s m args meth c D cA cX5_take 5 RX5 none) (hA : ∀ q : Nat, s.heap.size ≤ q → A q) {N : Nat} {z : St} {S : St} {p1 : Int32} {p2 : Int32} {p3 : Int32} (hf : fX5_take N S p1 p2 p3 = some z) {H : Heap} {locs : List Loc} {ls : Array Slot} (hP : va_P D vwCl (w_S cA a S) H) (hD : va_D A (w_S cA a S)) (hS : va_S A s.heap H locs) (hl : lv_has ls 5 [(0, .ref (a 0)), (1, .int p1), (2, .int p2), (3, .int p3)]) : W p l e (rmU 1 20 0 0) s m args below meth c H locs 0 0 (MQ below (QV D A (w_S cA a z)) args s 0 0 A) (F0 m 0 ls []) := by
  obtain ⟨hx, hb, hml, hown, hts, hK, hN, hr, hlk⟩ := id C
  unfold fX5_take at hf
  refine lv_iload_n (pc := 0) hx hb dX5_take_0 rfl (lv_at hl 2 rfl) ?_
  obtain ⟨q1, hq1, hf⟩ := pt_b hf
  have hPc : va_P D vwCl ([] : va_W) H := hP.sub [] rfl
  have hDc : va_D A ([] : va_W) := hD.sub [] (by decide) rfl
  refine prt_i (runU_S (pc := 1) (As := [.int p2]) (rest := []) C lk_RX5_50 (kX3_lengthOf l D cA hq1 H.size) ⟨Nat.le_of_ble_eq_true rfl, Nat.le_of_ble_eq_true rfl⟩ ⟨Nat.le_refl _, Nat.le_refl _⟩ hPc hDc hl.1 rfl (Nat.le_of_ble_eq_true rfl) dX5_take_1) hP hD hS hA [] rfl (fun H locs hP hD hS => ?_)
  refine lv_istore (lv' := [(4, .int q1), (0, .ref (a 0)), (1, .int p1), (2, .int p2), (3, .int p3)]) (pc := 4) hx hb dX5_take_4 hl (by decide) rfl (fun ls hl => ?_)
  refine lv_iload_n (pc := 6) hx hb dX5_take_6 rfl (lv_at hl 2 rfl) ?_
  refine lv_if_eq (tgt := 21) (pc := 7) hx hb dX5_take_7 (by decide) (fun c2 => ?_) (fun c2 => ?_)
  · have hf := pt_t c2 hf
    exact wX5_take_21 C hA  hf hP hD hS (lv_sub hl [1, 2, 3, 4, 0] rfl)
  · have hf := pt_f c2 hf
    refine lv_iload (pc := 10) hx hb dX5_take_10 (lv_at hl 0 rfl) ?_
    refine lv_iconst (v := (1 : Int32)) (pc := 12) hx hb dX5_take_12 (by decide) ?_
    refine lv_iload_n (pc := 13) hx hb dX5_take_13 rfl (lv_at hl 4 rfl) ?_
    obtain ⟨q3, hq3, hf⟩ := pt_b hf
    have hPc : va_P D vwCl ([] : va_W) H := hP.sub [] rfl
    have hDc : va_D A ([] : va_W) := hD.sub [] (by decide) rfl
    refine prt_i (runU_S (pc := 14) (As := [.int p3]) (rest := [.int ((1 : Int32)), .int q1]) C lk_RX5_50 (kX3_lengthOf l D cA hq3 H.size) ⟨Nat.le_of_ble_eq_true rfl, Nat.le_of_ble_eq_true rfl⟩ ⟨Nat.le_refl _, Nat.le_refl _⟩ hPc hDc hl.1 rfl (Nat.le_of_ble_eq_true rfl) dX5_take_14) hP hD hS hA [] rfl (fun H locs hP hD hS => ?_)
    refine lv_iadd (pc := 17) hx hb dX5_take_17 ?_
    refine lv_iadd (pc := 18) hx hb dX5_take_18 ?_
    refine lv_istore (lv' := [(4, .int ((q1 + ((1 : Int32) + q3)))), (0, .ref (a 0)), (1, .int p1), (2, .int p2), (3, .int p3)]) (pc := 19) hx hb dX5_take_19 hl (by decide) rfl (fun ls hl => ?_)
    exact wX5_take_21 C hA  hf hP hD hS (lv_sub hl [1, 2, 3, 4, 0] rfl)
set_option maxRecDepth 100000 in
set_option maxHeartbeats 4000000 in
theorem kX5_take (l : Launch) (D : va_G) (cA : Nat → ClassId) (a : Nat → Nat) {N : Nat} {S : St} {p1 : Int32} {p2 : Int32} {p3 : Int32} {z : St} (hf : fX5_take N S p1 p2 p3 = some z) : CtV l yX5_take cX5_take 5 none 1 20 D cA (w_S cA a S) (w_S cA a z) [.ref (a 0), .int p1, .int p2, .int p3] := by
  intro sz
  refine Met.ofW (cc := cX5_take) (maxL := 5) (ret := none) (by decide) rfl ?_
  intro p e s m args below meth c s₁ B hml hv
  obtain ⟨rfl, hsz, hP, hK, hD0⟩ := hv
  subst hsz
  have C : Cx p s m _ meth c D cA cX5_take 5 RX5 none := Cx.of B hml hK
  have hD := hD0.self (sz := s.heap.size)
  have hA : ∀ q : Nat, s.heap.size ≤ q → va_A (w_S cA a S) s.heap.size q := fun q h => Or.inr h
  have hS : va_S (va_A (w_S cA a S) s.heap.size) s.heap s.heap [] := va_S.rf
  have hl := lv_entry ([.ref (a 0), .int p1, .int p2, .int p3]) (n := 5) (Nat.le_of_ble_eq_true rfl)
  rw [lg_entry_eq]
  generalize (lg_sl ([.ref (a 0), .int p1, .int p2, .int p3]) ++ List.replicate (5 - (lg_sl ([.ref (a 0), .int p1, .int p2, .int p3])).length) Slot.unset).toArray = ls at hl ⊢
  exact wX5_take C hA hf hP hD hS hl
theorem fl_RX5_9 : Cond.fieldLink RX5 9 "SevenOnStrike$Speech" "canSay" "[Z" ∈ wsL_law := by decide +kernel
theorem ge_RX5_9_S_0_0 (C : Cx p s m args meth c D cA cc nL RX5 ret) (hP : va_P D vwCl (w_S cA a S) H) (hdg : decode cc pc = .ok (.getfield 9, 3)) (kk : W p l e R s m args below meth c H locs cells slots Q (F0 m (pc + 3) ls (.ref (a 1) :: rest))) : W p l e R s m args below meth c H locs cells slots Q (F0 m pc ls (.ref (a 0) :: rest)) := by
  obtain ⟨hx, hb, -, hown, hts, hK, -, -, -⟩ := C
  exact va_get (D := D) (ci := 4) (v := .ref (a 1)) (C := RX5) (T := TX5) (N := 7) hx hb hts inlX5 hown hK hP 0 rfl rfl 0 (by decide) (hts _ fl_RX5_9) (fun _ h9 => h9) rfl hdg kk
theorem ld_S_0_1 {i : Int32} {j : Nat} (C : Cx p s m args meth c D cA cc nL own ret) (hP : va_P D vwCl (w_S cA a S) H) (hin : vp_in i 1000) (hj : i.toNatClampNeg = j) (hdg : decode cc pc = .ok (.baload, 1)) (kk : W p l e R s m args below meth c H locs cells slots Q (F0 m (pc + 1) ls (.int (S 6 j) :: rest))) : W p l e R s m args below meth c H locs cells slots Q (F0 m pc ls (.int i :: .ref (a 1) :: rest)) := by
  obtain ⟨hx, hb, -, hown, hts, hK, -, -, -⟩ := C
  subst hj
  exact va_zald hx hb hK hP 1 2 rfl rfl hin hdg kk
theorem lk_RX5_38 : LkV RX5 38 yX5_take cX5_take 5 none 3 := ⟨⟨by decide +kernel, by decide +kernel, by decide +kernel, by decide +kernel, by decide +kernel, by decide +kernel⟩, by decide +kernel, by decide +kernel⟩
def fX5_takeIfSaid (N : Nat) (S : St) (p1 : Int32) (p2 : Int32) (p3 : Int32) : Option (St) :=
  if ¬ (p2 < 0 ∨ 1000 ≤ p2.toNatClampNeg) then (if (S 6 p2.toNatClampNeg) = 0 then (some S) else (if ¬ (p3 < 0 ∨ 1000 ≤ p3.toNatClampNeg) then (if (S 6 p3.toNatClampNeg) = 0 then (some S) else (Option.bind (fX5_take N S p1 p2 p3) (fun q5 => some q5))) else none)) else none
set_option maxRecDepth 100000 in
set_option maxHeartbeats 4000000 in
theorem wX5_takeIfSaid (C : Cx p s m args meth c D cA cX5_takeIfSaid 4 RX5 none) (hA : ∀ q : Nat, s.heap.size ≤ q → A q) {N : Nat} {z : St} {S : St} {p1 : Int32} {p2 : Int32} {p3 : Int32} (hf : fX5_takeIfSaid N S p1 p2 p3 = some z) {H : Heap} {locs : List Loc} {ls : Array Slot} (hP : va_P D vwCl (w_S cA a S) H) (hD : va_D A (w_S cA a S)) (hS : va_S A s.heap H locs) (hl : lv_has ls 4 [(0, .ref (a 0)), (1, .int p1), (2, .int p2), (3, .int p3)]) : W p l e (rmU 2 44 0 0) s m args below meth c H locs 0 0 (MQ below (QV D A (w_S cA a z)) args s 0 0 A) (F0 m 0 ls []) := by
  obtain ⟨hx, hb, hml, hown, hts, hK, hN, hr, hlk⟩ := id C
  unfold fX5_takeIfSaid at hf
  refine lv_aload_n (pc := 0) hx hb dX5_takeIfSaid_0 rfl (lv_at hl 0 rfl) ?_
  refine ge_RX5_9_S_0_0 (pc := 1) C hP dX5_takeIfSaid_1 ?_
  refine lv_iload_n (pc := 4) hx hb dX5_takeIfSaid_4 rfl (lv_at hl 2 rfl) ?_
  obtain ⟨h1, hf⟩ := pt_g hf
  refine ld_S_0_1 (pc := 5) (j := p2.toNatClampNeg) C hP h1 rfl dX5_takeIfSaid_5 ?_
  refine lv_if_eq (tgt := 25) (pc := 6) hx hb dX5_takeIfSaid_6 (by decide) (fun c2 => ?_) (fun c2 => ?_)
  · have hf := pt_t c2 hf
    cases hf
    exact ret_v C hP hD hS dX5_takeIfSaid_25
  · have hf := pt_f c2 hf
    refine lv_aload_n (pc := 9) hx hb dX5_takeIfSaid_9 rfl (lv_at hl 0 rfl) ?_
    refine ge_RX5_9_S_0_0 (pc := 10) C hP dX5_takeIfSaid_10 ?_
    refine lv_iload_n (pc := 13) hx hb dX5_takeIfSaid_13 rfl (lv_at hl 3 rfl) ?_
    obtain ⟨h3, hf⟩ := pt_g hf
    refine ld_S_0_1 (pc := 14) (j := p3.toNatClampNeg) C hP h3 rfl dX5_takeIfSaid_14 ?_
    refine lv_if_eq (tgt := 25) (pc := 15) hx hb dX5_takeIfSaid_15 (by decide) (fun c4 => ?_) (fun c4 => ?_)
    · have hf := pt_t c4 hf
      cases hf
      exact ret_v C hP hD hS dX5_takeIfSaid_25
    · have hf := pt_f c4 hf
      refine lv_aload_n (pc := 18) hx hb dX5_takeIfSaid_18 rfl (lv_at hl 0 rfl) ?_
      refine lv_iload_n (pc := 19) hx hb dX5_takeIfSaid_19 rfl (lv_at hl 1 rfl) ?_
      refine lv_iload_n (pc := 20) hx hb dX5_takeIfSaid_20 rfl (lv_at hl 2 rfl) ?_
      refine lv_iload_n (pc := 21) hx hb dX5_takeIfSaid_21 rfl (lv_at hl 3 rfl) ?_
      obtain ⟨q5, hq5, hf⟩ := pt_b hf
      refine all_v (runU_V (pc := 22) (As := [.int p1, .int p2, .int p3]) (b := a 0) (rest := []) (ci := 4) (q0 := 0) C lk_RX5_38 (kX5_take l D cA a hq5 H.size) ⟨Nat.le_of_ble_eq_true rfl, Nat.le_of_ble_eq_true rfl⟩ ⟨Nat.le_refl _, Nat.le_refl _⟩ hP hD rfl rfl rfl hl.1 rfl (Nat.le_of_ble_eq_true rfl) dX5_takeIfSaid_22) hD hS hA (fun H locs hP hD hS => ?_)
      cases hf
      exact ret_v C hP hD hS dX5_takeIfSaid_25
set_option maxRecDepth 100000 in
set_option maxHeartbeats 4000000 in
theorem kX5_takeIfSaid (l : Launch) (D : va_G) (cA : Nat → ClassId) (a : Nat → Nat) {N : Nat} {S : St} {p1 : Int32} {p2 : Int32} {p3 : Int32} {z : St} (hf : fX5_takeIfSaid N S p1 p2 p3 = some z) : CtV l yX5_takeIfSaid cX5_takeIfSaid 4 none 2 44 D cA (w_S cA a S) (w_S cA a z) [.ref (a 0), .int p1, .int p2, .int p3] := by
  intro sz
  refine Met.ofW (cc := cX5_takeIfSaid) (maxL := 4) (ret := none) (by decide) rfl ?_
  intro p e s m args below meth c s₁ B hml hv
  obtain ⟨rfl, hsz, hP, hK, hD0⟩ := hv
  subst hsz
  have C : Cx p s m _ meth c D cA cX5_takeIfSaid 4 RX5 none := Cx.of B hml hK
  have hD := hD0.self (sz := s.heap.size)
  have hA : ∀ q : Nat, s.heap.size ≤ q → va_A (w_S cA a S) s.heap.size q := fun q h => Or.inr h
  have hS : va_S (va_A (w_S cA a S) s.heap.size) s.heap s.heap [] := va_S.rf
  have hl := lv_entry ([.ref (a 0), .int p1, .int p2, .int p3]) (n := 4) (Nat.le_of_ble_eq_true rfl)
  rw [lg_entry_eq]
  generalize (lg_sl ([.ref (a 0), .int p1, .int p2, .int p3]) ++ List.replicate (4 - (lg_sl ([.ref (a 0), .int p1, .int p2, .int p3])).length) Slot.unset).toArray = ls at hl ⊢
  exact wX5_takeIfSaid C hA hf hP hD hS hl
theorem lk_RX5_45 : LkS RX5 45 yX3_canSay cX3_canSay 4 (some .boolean) 2 := ⟨⟨by decide +kernel, by decide +kernel, by decide +kernel, by decide +kernel, by decide +kernel, by decide +kernel⟩, by decide +kernel⟩
theorem sr_S_0_1 {i v : Int32} {j : Nat} (C : Cx p s m args meth c D cA cc nL own ret) (hP : va_P D vwCl (w_S cA a S) H) (hD : va_D A (w_S cA a S)) (hS : va_S A s.heap H locs) (hin : vp_in i 1000) (hj : i.toNatClampNeg = j) (hdg : decode cc pc = .ok (.bastore, 1)) (kk : ∀ (H1 : Heap) (locs1 : List Loc), va_P D vwCl (w_S cA a (sti S 6 j (vp_nar .boolean v))) H1 → va_D A (w_S cA a (sti S 6 j (vp_nar .boolean v))) → va_S A s.heap H1 locs1 → W p l e R s m args below meth c H1 locs1 cells slots Q (F0 m (pc + 1) ls rest)) : W p l e R s m args below meth c H locs cells slots Q (F0 m pc ls (.int v :: .int i :: .ref (a 1) :: rest)) := by
  obtain ⟨hx, hb, -, hown, hts, hK, -, -, -⟩ := C
  subst hj
  exact va_zast hx hb hK hP hD hS 1 2 rfl rfl hin hdg (fun H1 locs1 h1 h2 h3 => kk H1 locs1 h1 h2 h3)
theorem fl_RX5_15 : Cond.fieldLink RX5 15 "SevenOnStrike$Speech" "rowMask" "I" ∈ wsL_law := by decide +kernel
theorem ge_RX5_15_S_0_0 (C : Cx p s m args meth c D cA cc nL RX5 ret) (hP : va_P D vwCl (w_S cA a S) H) (hdg : decode cc pc = .ok (.getfield 15, 3)) (kk : W p l e R s m args below meth c H locs cells slots Q (F0 m (pc + 3) ls (.int (S 0 0) :: rest))) : W p l e R s m args below meth c H locs cells slots Q (F0 m pc ls (.ref (a 0) :: rest)) := by
  obtain ⟨hx, hb, -, hown, hts, hK, -, -, -⟩ := C
  exact va_get (D := D) (ci := 4) (v := .int (S 0 0)) (C := RX5) (T := TX5) (N := 7) hx hb hts inlX5 hown hK hP 0 rfl rfl 1 (by decide) (hts _ fl_RX5_15) (fun _ h9 => h9) rfl hdg kk
theorem pu_RX5_15_S_0_0 {v : Int32} (C : Cx p s m args meth c D cA cc nL RX5 ret) (hP : va_P D vwCl (w_S cA a S) H) (hD : va_D A (w_S cA a S)) (hS : va_S A s.heap H locs) (hdg : decode cc pc = .ok (.putfield 15, 3)) (kk : ∀ (H1 : Heap) (locs1 : List Loc), va_P D vwCl (w_S cA a (stf S 0 v)) H1 → va_D A (w_S cA a (stf S 0 v)) → va_S A s.heap H1 locs1 → W p l e R s m args below meth c H1 locs1 cells slots Q (F0 m (pc + 3) ls rest)) : W p l e R s m args below meth c H locs cells slots Q (F0 m pc ls (.int v :: .ref (a 0) :: rest)) := by
  obtain ⟨hx, hb, -, hown, hts, hK, -, -, -⟩ := C
  exact va_put (D := D) (ci := 4) (v := .int v) (ty := .int) (C := RX5) (T := TX5) (N := 7) hx hb hts inlX5 tyX5 tyX5_ok nmX5 hown hK hP hD hS 0 rfl rfl 1 (by decide) (hts _ fl_RX5_15) (fun _ h9 => h9) rfl (by decide +kernel) rfl rfl (Nat.le_of_ble_eq_true rfl) hdg (fun H1 locs1 h1 h2 h3 => kk H1 locs1 h1 h2 h3)
def fX5_fillRow_b16 (N : Nat) (p1 : Int32) (g16 : Int32 × St → Option (St)) (x2 : Int32) (S : St) : Option (St) :=
  if (999 : Int32) < x2 then (some S) else (Option.bind (fX3_canSay N p1 x2) (fun q2 => if ¬ (x2 < 0 ∨ 1000 ≤ x2.toNatClampNeg) then (g16 (((x2 + 1), (sti S 6 x2.toNatClampNeg (vp_nar .boolean q2))))) else none))
def fX5_fillRow_l16 (N : Nat) (p1 : Int32) (k : Nat) (q : Int32 × St) : Option (St) := lpN (fun g q => fX5_fillRow_b16 N p1 g q.1 q.2) k q
def fX5_fillRow (N : Nat) (S : St) (p1 : Int32) : Option (St) :=
  if (S 0 0) = p1 then (some S) else (fX5_fillRow_l16 N p1 N (((0 : Int32), (stf S 0 p1))))
set_option maxRecDepth 100000 in
set_option maxHeartbeats 4000000 in
theorem wX5_fillRow_16 (C : Cx p s m args meth c D cA cX5_fillRow 3 RX5 none) (hA : ∀ q : Nat, s.heap.size ≤ q → A q) {N : Nat} {z : St} {p1 : Int32} : ∀ (k : Nat) (x2 : Int32) (S : St), fX5_fillRow_l16 N p1 k (x2, S) = some z → ∀ (H : Heap) (locs : List Loc) (ls : Array Slot), va_P D vwCl (w_S cA a S) H → va_D A (w_S cA a S) → va_S A s.heap H locs → lv_has ls 3 [(0, .ref (a 0)), (1, .int p1), (2, .int x2)] → W p l e (rmU 1 23 0 0) s m args below meth c H locs 0 0 (MQ below (QV D A (w_S cA a z)) args s 0 0 A) (F0 m 16 ls []) := by
  obtain ⟨hx, hb, hml, hown, hts, hK, hN, hr, hlk⟩ := id C
  intro k
  induction k with
  | zero =>
    intro x2 S hf
    have hf : (none : Option (St)) = some z := hf
    cases hf
  | succ k hg16 =>
    intro x2 S hf H locs ls hP hD hS hl
    have hf : fX5_fillRow_b16 N p1 (fX5_fillRow_l16 N p1 k) x2 S = some z := hf
    unfold fX5_fillRow_b16 at hf
    refine lv_iload_n (pc := 16) hx hb dX5_fillRow_16 rfl (lv_at hl 2 rfl) ?_
    refine lv_sipush (v := (999 : Int32)) (pc := 17) hx hb dX5_fillRow_17 (by decide) ?_
    refine lv_icmp_gt (tgt := 40) (pc := 20) hx hb dX5_fillRow_20 (by decide) (fun c1 => ?_) (fun c1 => ?_)
    · have hf := pt_t c1 hf
      cases hf
      exact ret_v C hP hD hS dX5_fillRow_40
    · have hf := pt_f c1 hf
      refine lv_aload_n (pc := 23) hx hb dX5_fillRow_23 rfl (lv_at hl 0 rfl) ?_
      refine ge_RX5_9_S_0_0 (pc := 24) C hP dX5_fillRow_24 ?_
      refine lv_iload_n (pc := 27) hx hb dX5_fillRow_27 rfl (lv_at hl 2 rfl) ?_
      refine lv_iload_n (pc := 28) hx hb dX5_fillRow_28 rfl (lv_at hl 1 rfl) ?_
      refine lv_iload_n (pc := 29) hx hb dX5_fillRow_29 rfl (lv_at hl 2 rfl) ?_
      obtain ⟨q2, hq2, hf⟩ := pt_b hf
      have hPc : va_P D vwCl ([] : va_W) H := hP.sub [] rfl
      have hDc : va_D A ([] : va_W) := hD.sub [] (by decide) rfl
      refine prt_i (runU_S (pc := 30) (As := [.int p1, .int x2]) (rest := [.int x2, .ref (a 1)]) C lk_RX5_45 (kX3_canSay l D cA hq2 H.size) ⟨Nat.le_of_ble_eq_true rfl, Nat.le_of_ble_eq_true rfl⟩ ⟨Nat.le_refl _, Nat.le_refl _⟩ hPc hDc hl.1 rfl (Nat.le_of_ble_eq_true rfl) dX5_fillRow_30) hP hD hS hA [] rfl (fun H locs hP hD hS => ?_)
      obtain ⟨h3, hf⟩ := pt_g hf
      refine sr_S_0_1 (pc := 33) (j := x2.toNatClampNeg) C hP hD hS h3 rfl dX5_fillRow_33 (fun H locs hP hD hS => ?_)
      refine lv_iinc (v := (x2 + 1)) (lv' := [(2, .int ((x2 + 1))), (0, .ref (a 0)), (1, .int p1)]) (pc := 34) hx hb dX5_fillRow_34 hl (k := 2) rfl (by rfl) (by decide) rfl (fun ls hl => ?_)
      refine lv_goto (tgt := 16) (pc := 37) hx hb dX5_fillRow_37 (by decide) ?_
      exact hg16 ((x2 + 1)) ((sti S 6 x2.toNatClampNeg (vp_nar .boolean q2))) hf _ _ _ hP hD hS (lv_sub hl [1, 2, 0] rfl)
set_option maxRecDepth 100000 in
set_option maxHeartbeats 4000000 in
theorem wX5_fillRow (C : Cx p s m args meth c D cA cX5_fillRow 3 RX5 none) (hA : ∀ q : Nat, s.heap.size ≤ q → A q) {N : Nat} {z : St} {S : St} {p1 : Int32} (hf : fX5_fillRow N S p1 = some z) {H : Heap} {locs : List Loc} {ls : Array Slot} (hP : va_P D vwCl (w_S cA a S) H) (hD : va_D A (w_S cA a S)) (hS : va_S A s.heap H locs) (hl : lv_has ls 3 [(0, .ref (a 0)), (1, .int p1)]) : W p l e (rmU 1 23 0 0) s m args below meth c H locs 0 0 (MQ below (QV D A (w_S cA a z)) args s 0 0 A) (F0 m 0 ls []) := by
  obtain ⟨hx, hb, hml, hown, hts, hK, hN, hr, hlk⟩ := id C
  unfold fX5_fillRow at hf
  refine lv_aload_n (pc := 0) hx hb dX5_fillRow_0 rfl (lv_at hl 0 rfl) ?_
  refine ge_RX5_15_S_0_0 (pc := 1) C hP dX5_fillRow_1 ?_
  refine lv_iload_n (pc := 4) hx hb dX5_fillRow_4 rfl (lv_at hl 1 rfl) ?_
  refine lv_icmp_ne (tgt := 9) (pc := 5) hx hb dX5_fillRow_5 (by decide) (fun c1 => ?_) (fun c1 => ?_)
  · have hf := pt_f c1 hf
    refine lv_aload_n (pc := 9) hx hb dX5_fillRow_9 rfl (lv_at hl 0 rfl) ?_
    refine lv_iload_n (pc := 10) hx hb dX5_fillRow_10 rfl (lv_at hl 1 rfl) ?_
    refine pu_RX5_15_S_0_0 (pc := 11) C hP hD hS dX5_fillRow_11 (fun H locs hP hD hS => ?_)
    refine lv_iconst (v := (0 : Int32)) (pc := 14) hx hb dX5_fillRow_14 (by decide) ?_
    refine lv_istore_n (lv' := [(2, .int ((0 : Int32))), (0, .ref (a 0)), (1, .int p1)]) (pc := 15) hx hb dX5_fillRow_15 rfl hl (by decide) rfl (fun ls hl => ?_)
    exact wX5_fillRow_16 C hA  _ ((0 : Int32)) ((stf S 0 p1)) hf _ _ _ hP hD hS (lv_sub hl [1, 2, 0] rfl)
  · have hf := pt_t c1 hf
    cases hf
    exact ret_v C hP hD hS dX5_fillRow_8
set_option maxRecDepth 100000 in
set_option maxHeartbeats 4000000 in
theorem kX5_fillRow (l : Launch) (D : va_G) (cA : Nat → ClassId) (a : Nat → Nat) {N : Nat} {S : St} {p1 : Int32} {z : St} (hf : fX5_fillRow N S p1 = some z) : CtV l yX5_fillRow cX5_fillRow 3 none 1 23 D cA (w_S cA a S) (w_S cA a z) [.ref (a 0), .int p1] := by
  intro sz
  refine Met.ofW (cc := cX5_fillRow) (maxL := 3) (ret := none) (by decide) rfl ?_
  intro p e s m args below meth c s₁ B hml hv
  obtain ⟨rfl, hsz, hP, hK, hD0⟩ := hv
  subst hsz
  have C : Cx p s m _ meth c D cA cX5_fillRow 3 RX5 none := Cx.of B hml hK
  have hD := hD0.self (sz := s.heap.size)
  have hA : ∀ q : Nat, s.heap.size ≤ q → va_A (w_S cA a S) s.heap.size q := fun q h => Or.inr h
  have hS : va_S (va_A (w_S cA a S) s.heap.size) s.heap s.heap [] := va_S.rf
  have hl := lv_entry ([.ref (a 0), .int p1]) (n := 3) (Nat.le_of_ble_eq_true rfl)
  rw [lg_entry_eq]
  generalize (lg_sl ([.ref (a 0), .int p1]) ++ List.replicate (3 - (lg_sl ([.ref (a 0), .int p1])).length) Slot.unset).toArray = ls at hl ⊢
  exact wX5_fillRow C hA hf hP hD hS hl
theorem lk_RX5_42 : LkV RX5 42 yX5_takeIfSaid cX5_takeIfSaid 4 none 3 := ⟨⟨by decide +kernel, by decide +kernel, by decide +kernel, by decide +kernel, by decide +kernel, by decide +kernel⟩, by decide +kernel, by decide +kernel⟩
theorem lk_RX5_34 : LkV RX5 34 yX5_fillRow cX5_fillRow 3 none 1 := ⟨⟨by decide +kernel, by decide +kernel, by decide +kernel, by decide +kernel, by decide +kernel, by decide +kernel⟩, by decide +kernel, by decide +kernel⟩
def fX5_find_j126 (N : Nat) (p1 : Int32) (p2 : Int32) (g104 : Int32 × St → Option (St)) (x3 : Int32) (S : St) : Option (St) :=
  g104 (((x3 + 1), S))
def fX5_find_b104 (N : Nat) (p1 : Int32) (p2 : Int32) (g104 : Int32 × St → Option (St)) (x3 : Int32) (S : St) : Option (St) :=
  if p1 < (x3 * x3) then (some S) else (if ¬ x3 = 0 then (if (p1 - p1 / x3 * x3) = 0 then (if ¬ x3 = 0 then (Option.bind (fX5_takeIfSaid N S ((3 : Int32)) x3 ((p1 / x3))) (fun q5 => fX5_find_j126 N p1 p2 g104 x3 q5)) else none) else (fX5_find_j126 N p1 p2 g104 x3 S)) else none)
def fX5_find_l104 (N : Nat) (p1 : Int32) (p2 : Int32) (k : Nat) (q : Int32 × St) : Option (St) := lpN (fun g q => fX5_find_b104 N p1 p2 g q.1 q.2) k q
def fX5_find_j102 (N : Nat) (p1 : Int32) (p2 : Int32) (S : St) : Option (St) :=
  fX5_find_l104 N p1 p2 N (((1 : Int32), S))
def fX5_find_b82 (N : Nat) (p1 : Int32) (p2 : Int32) (g82 : Int32 × St → Option (St)) (x3 : Int32) (S : St) : Option (St) :=
  if (999 : Int32) < x3 then (fX5_find_j102 N p1 p2 S) else (Option.bind (fX5_takeIfSaid N S ((3 : Int32)) ((0 : Int32)) x3) (fun q2 => g82 (((x3 + 1), q2))))
def fX5_find_l82 (N : Nat) (p1 : Int32) (p2 : Int32) (k : Nat) (q : Int32 × St) : Option (St) := lpN (fun g q => fX5_find_b82 N p1 p2 g q.1 q.2) k q
def fX5_find_j76 (N : Nat) (p1 : Int32) (p2 : Int32) (S : St) : Option (St) :=
  if p1 = 0 then (fX5_find_l82 N p1 p2 N (((0 : Int32), S))) else (fX5_find_j102 N p1 p2 S)
def fX5_find_b52 (N : Nat) (p1 : Int32) (p2 : Int32) (g52 : Int32 × St → Option (St)) (x3 : Int32) (S : St) : Option (St) :=
  if (999 : Int32) < (p1 + x3) then (fX5_find_j76 N p1 p2 S) else (Option.bind (fX5_takeIfSaid N S ((2 : Int32)) ((p1 + x3)) x3) (fun q2 => g52 (((x3 + 1), q2))))
def fX5_find_l52 (N : Nat) (p1 : Int32) (p2 : Int32) (k : Nat) (q : Int32 × St) : Option (St) := lpN (fun g q => fX5_find_b52 N p1 p2 g q.1 q.2) k q
def fX5_find_j50 (N : Nat) (p1 : Int32) (p2 : Int32) (S : St) : Option (St) :=
  fX5_find_l52 N p1 p2 N (((1 : Int32), S))
def fX5_find_b28 (N : Nat) (p1 : Int32) (p2 : Int32) (g28 : Int32 × St → Option (St)) (x3 : Int32) (S : St) : Option (St) :=
  if (p1 - x3) < x3 then (fX5_find_j50 N p1 p2 S) else (Option.bind (fX5_takeIfSaid N S ((1 : Int32)) x3 ((p1 - x3))) (fun q2 => g28 (((x3 + 1), q2))))
def fX5_find_l28 (N : Nat) (p1 : Int32) (p2 : Int32) (k : Nat) (q : Int32 × St) : Option (St) := lpN (fun g q => fX5_find_b28 N p1 p2 g q.1 q.2) k q
def fX5_find_j26 (N : Nat) (p1 : Int32) (p2 : Int32) (S : St) : Option (St) :=
  fX5_find_l28 N p1 p2 N (((0 : Int32), S))
def fX5_find (N : Nat) (S : St) (p1 : Int32) (p2 : Int32) : Option (St) :=
  Option.bind (fX5_fillRow N S p2) (fun q1 => if ¬ (p1 < 0 ∨ 1000 ≤ p1.toNatClampNeg) then (if ((stf q1 1 ((0 : Int32))) 6 p1.toNatClampNeg) = 0 then (fX5_find_j26 N p1 p2 ((stf q1 1 ((0 : Int32))))) else (Option.bind (fX5_take N (stf q1 1 ((0 : Int32))) ((0 : Int32)) p1 ((0 : Int32))) (fun q4 => fX5_find_j26 N p1 p2 q4))) else none)
set_option maxRecDepth 100000 in
set_option maxHeartbeats 4000000 in
theorem wX5_find_126 (C : Cx p s m args meth c D cA cX5_find 4 RX5 none) (hA : ∀ q : Nat, s.heap.size ≤ q → A q) {N : Nat} {z : St} {p1 : Int32} {p2 : Int32} {g104 : Int32 × St → Option (St)} (hg104 : ∀ (x3 : Int32) (S : St), g104 (x3, S) = some z → ∀ (H : Heap) (locs : List Loc) (ls : Array Slot), va_P D vwCl (w_S cA a S) H → va_D A (w_S cA a S) → va_S A s.heap H locs → lv_has ls 4 [(0, .ref (a 0)), (1, .int p1), (3, .int x3)] → W p l e (rmU 3 67 0 0) s m args below meth c H locs 0 0 (MQ below (QV D A (w_S cA a z)) args s 0 0 A) (F0 m 104 ls [])) {x3 : Int32} {S : St} (hf : fX5_find_j126 N p1 p2 g104 x3 S = some z) {H : Heap} {locs : List Loc} {ls : Array Slot} (hP : va_P D vwCl (w_S cA a S) H) (hD : va_D A (w_S cA a S)) (hS : va_S A s.heap H locs) (hl : lv_has ls 4 [(0, .ref (a 0)), (1, .int p1), (3, .int x3)]) : W p l e (rmU 3 67 0 0) s m args below meth c H locs 0 0 (MQ below (QV D A (w_S cA a z)) args s 0 0 A) (F0 m 126 ls []) := by
  obtain ⟨hx, hb, hml, hown, hts, hK, hN, hr, hlk⟩ := id C
  unfold fX5_find_j126 at hf
  refine lv_iinc (v := (x3 + 1)) (lv' := [(3, .int ((x3 + 1))), (0, .ref (a 0)), (1, .int p1)]) (pc := 126) hx hb dX5_find_126 hl (k := 2) rfl (by rfl) (by decide) rfl (fun ls hl => ?_)
  refine lv_goto (tgt := 104) (pc := 129) hx hb dX5_find_129 (by decide) ?_
  exact hg104 ((x3 + 1)) S hf _ _ _ hP hD hS (lv_sub hl [1, 2, 0] rfl)
set_option maxRecDepth 100000 in
set_option maxHeartbeats 4000000 in
theorem wX5_find_104 (C : Cx p s m args meth c D cA cX5_find 4 RX5 none) (hA : ∀ q : Nat, s.heap.size ≤ q → A q) {N : Nat} {z : St} {p1 : Int32} {p2 : Int32} : ∀ (k : Nat) (x3 : Int32) (S : St), fX5_find_l104 N p1 p2 k (x3, S) = some z → ∀ (H : Heap) (locs : List Loc) (ls : Array Slot), va_P D vwCl (w_S cA a S) H → va_D A (w_S cA a S) → va_S A s.heap H locs → lv_has ls 4 [(0, .ref (a 0)), (1, .int p1), (3, .int x3)] → W p l e (rmU 3 67 0 0) s m args below meth c H locs 0 0 (MQ below (QV D A (w_S cA a z)) args s 0 0 A) (F0 m 104 ls []) := by
  obtain ⟨hx, hb, hml, hown, hts, hK, hN, hr, hlk⟩ := id C
  intro k
  induction k with
  | zero =>
    intro x3 S hf
    have hf : (none : Option (St)) = some z := hf
    cases hf
  | succ k hg104 =>
    intro x3 S hf H locs ls hP hD hS hl
    have hf : fX5_find_b104 N p1 p2 (fX5_find_l104 N p1 p2 k) x3 S = some z := hf
    unfold fX5_find_b104 at hf
    refine lv_iload_n (pc := 104) hx hb dX5_find_104 rfl (lv_at hl 2 rfl) ?_
    refine lv_iload_n (pc := 105) hx hb dX5_find_105 rfl (lv_at hl 2 rfl) ?_
    refine lv_imul (pc := 106) hx hb dX5_find_106 ?_
    refine lv_iload_n (pc := 107) hx hb dX5_find_107 rfl (lv_at hl 1 rfl) ?_
    refine lv_icmp_gt (tgt := 132) (pc := 108) hx hb dX5_find_108 (by decide) (fun c1 => ?_) (fun c1 => ?_)
    · have hf := pt_t c1 hf
      cases hf
      exact ret_v C hP hD hS dX5_find_132
    · have hf := pt_f c1 hf
      refine lv_iload_n (pc := 111) hx hb dX5_find_111 rfl (lv_at hl 1 rfl) ?_
      refine lv_iload_n (pc := 112) hx hb dX5_find_112 rfl (lv_at hl 2 rfl) ?_
      obtain ⟨h2, hf⟩ := pt_g hf
      refine lv_irem (pc := 113) hx hb dX5_find_113 h2 ?_
      refine lv_if_ne (tgt := 126) (pc := 114) hx hb dX5_find_114 (by decide) (fun c3 => ?_) (fun c3 => ?_)
      · have hf := pt_f c3 hf
        exact wX5_find_126 C hA hg104 hf hP hD hS (lv_sub hl [0, 1, 2] rfl)
      · have hf := pt_t c3 hf
        refine lv_aload_n (pc := 117) hx hb dX5_find_117 rfl (lv_at hl 0 rfl) ?_
        refine lv_iconst (v := (3 : Int32)) (pc := 118) hx hb dX5_find_118 (by decide) ?_
        refine lv_iload_n (pc := 119) hx hb dX5_find_119 rfl (lv_at hl 2 rfl) ?_
        refine lv_iload_n (pc := 120) hx hb dX5_find_120 rfl (lv_at hl 1 rfl) ?_
        refine lv_iload_n (pc := 121) hx hb dX5_find_121 rfl (lv_at hl 2 rfl) ?_
        obtain ⟨h4, hf⟩ := pt_g hf
        refine lv_idiv (pc := 122) hx hb dX5_find_122 h4 ?_
        obtain ⟨q5, hq5, hf⟩ := pt_b hf
        refine all_v (runU_V (pc := 123) (As := [.int ((3 : Int32)), .int x3, .int ((p1 / x3))]) (b := a 0) (rest := []) (ci := 4) (q0 := 0) C lk_RX5_42 (kX5_takeIfSaid l D cA a hq5 H.size) ⟨Nat.le_of_ble_eq_true rfl, Nat.le_of_ble_eq_true rfl⟩ ⟨Nat.le_refl _, Nat.le_refl _⟩ hP hD rfl rfl rfl hl.1 rfl (Nat.le_of_ble_eq_true rfl) dX5_find_123) hD hS hA (fun H locs hP hD hS => ?_)
        exact wX5_find_126 C hA hg104 hf hP hD hS (lv_sub hl [0, 1, 2] rfl)
set_option maxRecDepth 100000 in
set_option maxHeartbeats 4000000 in
theorem wX5_find_102 (C : Cx p s m args meth c D cA cX5_find 4 RX5 none) (hA : ∀ q : Nat, s.heap.size ≤ q → A q) {N : Nat} {z : St} {p1 : Int32} {p2 : Int32} {S : St} (hf : fX5_find_j102 N p1 p2 S = some z) {H : Heap} {locs : List Loc} {ls : Array Slot} (hP : va_P D vwCl (w_S cA a S) H) (hD : va_D A (w_S cA a S)) (hS : va_S A s.heap H locs) (hl : lv_has ls 4 [(0, .ref (a 0)), (1, .int p1)]) : W p l e (rmU 3 67 0 0) s m args below meth c H locs 0 0 (MQ below (QV D A (w_S cA a z)) args s 0 0 A) (F0 m 102 ls []) := by
  obtain ⟨hx, hb, hml, hown, hts, hK, hN, hr, hlk⟩ := id C
  unfold fX5_find_j102 at hf
  refine lv_iconst (v := (1 : Int32)) (pc := 102) hx hb dX5_find_102 (by decide) ?_
  refine lv_istore_n (lv' := [(3, .int ((1 : Int32))), (0, .ref (a 0)), (1, .int p1)]) (pc := 103) hx hb dX5_find_103 rfl hl (by decide) rfl (fun ls hl => ?_)
  exact wX5_find_104 C hA  _ ((1 : Int32)) S hf _ _ _ hP hD hS (lv_sub hl [1, 2, 0] rfl)
set_option maxRecDepth 100000 in
set_option maxHeartbeats 4000000 in
theorem wX5_find_82 (C : Cx p s m args meth c D cA cX5_find 4 RX5 none) (hA : ∀ q : Nat, s.heap.size ≤ q → A q) {N : Nat} {z : St} {p1 : Int32} {p2 : Int32} : ∀ (k : Nat) (x3 : Int32) (S : St), fX5_find_l82 N p1 p2 k (x3, S) = some z → ∀ (H : Heap) (locs : List Loc) (ls : Array Slot), va_P D vwCl (w_S cA a S) H → va_D A (w_S cA a S) → va_S A s.heap H locs → lv_has ls 4 [(0, .ref (a 0)), (1, .int p1), (3, .int x3)] → W p l e (rmU 3 67 0 0) s m args below meth c H locs 0 0 (MQ below (QV D A (w_S cA a z)) args s 0 0 A) (F0 m 82 ls []) := by
  obtain ⟨hx, hb, hml, hown, hts, hK, hN, hr, hlk⟩ := id C
  intro k
  induction k with
  | zero =>
    intro x3 S hf
    have hf : (none : Option (St)) = some z := hf
    cases hf
  | succ k hg82 =>
    intro x3 S hf H locs ls hP hD hS hl
    have hf : fX5_find_b82 N p1 p2 (fX5_find_l82 N p1 p2 k) x3 S = some z := hf
    unfold fX5_find_b82 at hf
    refine lv_iload_n (pc := 82) hx hb dX5_find_82 rfl (lv_at hl 2 rfl) ?_
    refine lv_sipush (v := (999 : Int32)) (pc := 83) hx hb dX5_find_83 (by decide) ?_
    refine lv_icmp_gt (tgt := 102) (pc := 86) hx hb dX5_find_86 (by decide) (fun c1 => ?_) (fun c1 => ?_)
    · have hf := pt_t c1 hf
      exact wX5_find_102 C hA  hf hP hD hS (lv_sub hl [0, 1] rfl)
    · have hf := pt_f c1 hf
      refine lv_aload_n (pc := 89) hx hb dX5_find_89 rfl (lv_at hl 0 rfl) ?_
      refine lv_iconst (v := (3 : Int32)) (pc := 90) hx hb dX5_find_90 (by decide) ?_
      refine lv_iconst (v := (0 : Int32)) (pc := 91) hx hb dX5_find_91 (by decide) ?_
      refine lv_iload_n (pc := 92) hx hb dX5_find_92 rfl (lv_at hl 2 rfl) ?_
      obtain ⟨q2, hq2, hf⟩ := pt_b hf
      refine all_v (runU_V (pc := 93) (As := [.int ((3 : Int32)), .int ((0 : Int32)), .int x3]) (b := a 0) (rest := []) (ci := 4) (q0 := 0) C lk_RX5_42 (kX5_takeIfSaid l D cA a hq2 H.size) ⟨Nat.le_of_ble_eq_true rfl, Nat.le_of_ble_eq_true rfl⟩ ⟨Nat.le_refl _, Nat.le_refl _⟩ hP hD rfl rfl rfl hl.1 rfl (Nat.le_of_ble_eq_true rfl) dX5_find_93) hD hS hA (fun H locs hP hD hS => ?_)
      refine lv_iinc (v := (x3 + 1)) (lv' := [(3, .int ((x3 + 1))), (0, .ref (a 0)), (1, .int p1)]) (pc := 96) hx hb dX5_find_96 hl (k := 2) rfl (by rfl) (by decide) rfl (fun ls hl => ?_)
      refine lv_goto (tgt := 82) (pc := 99) hx hb dX5_find_99 (by decide) ?_
      exact hg82 ((x3 + 1)) q2 hf _ _ _ hP hD hS (lv_sub hl [1, 2, 0] rfl)
set_option maxRecDepth 100000 in
set_option maxHeartbeats 4000000 in
theorem wX5_find_76 (C : Cx p s m args meth c D cA cX5_find 4 RX5 none) (hA : ∀ q : Nat, s.heap.size ≤ q → A q) {N : Nat} {z : St} {p1 : Int32} {p2 : Int32} {S : St} (hf : fX5_find_j76 N p1 p2 S = some z) {H : Heap} {locs : List Loc} {ls : Array Slot} (hP : va_P D vwCl (w_S cA a S) H) (hD : va_D A (w_S cA a S)) (hS : va_S A s.heap H locs) (hl : lv_has ls 4 [(0, .ref (a 0)), (1, .int p1)]) : W p l e (rmU 3 67 0 0) s m args below meth c H locs 0 0 (MQ below (QV D A (w_S cA a z)) args s 0 0 A) (F0 m 76 ls []) := by
  obtain ⟨hx, hb, hml, hown, hts, hK, hN, hr, hlk⟩ := id C
  unfold fX5_find_j76 at hf
  refine lv_iload_n (pc := 76) hx hb dX5_find_76 rfl (lv_at hl 1 rfl) ?_
  refine lv_if_ne (tgt := 102) (pc := 77) hx hb dX5_find_77 (by decide) (fun c1 => ?_) (fun c1 => ?_)
  · have hf := pt_f c1 hf
    exact wX5_find_102 C hA  hf hP hD hS (lv_sub hl [0, 1] rfl)
  · have hf := pt_t c1 hf
    refine lv_iconst (v := (0 : Int32)) (pc := 80) hx hb dX5_find_80 (by decide) ?_
    refine lv_istore_n (lv' := [(3, .int ((0 : Int32))), (0, .ref (a 0)), (1, .int p1)]) (pc := 81) hx hb dX5_find_81 rfl hl (by decide) rfl (fun ls hl => ?_)
    exact wX5_find_82 C hA  _ ((0 : Int32)) S hf _ _ _ hP hD hS (lv_sub hl [1, 2, 0] rfl)
set_option maxRecDepth 100000 in
set_option maxHeartbeats 4000000 in
theorem wX5_find_52 (C : Cx p s m args meth c D cA cX5_find 4 RX5 none) (hA : ∀ q : Nat, s.heap.size ≤ q → A q) {N : Nat} {z : St} {p1 : Int32} {p2 : Int32} : ∀ (k : Nat) (x3 : Int32) (S : St), fX5_find_l52 N p1 p2 k (x3, S) = some z → ∀ (H : Heap) (locs : List Loc) (ls : Array Slot), va_P D vwCl (w_S cA a S) H → va_D A (w_S cA a S) → va_S A s.heap H locs → lv_has ls 4 [(0, .ref (a 0)), (1, .int p1), (3, .int x3)] → W p l e (rmU 3 67 0 0) s m args below meth c H locs 0 0 (MQ below (QV D A (w_S cA a z)) args s 0 0 A) (F0 m 52 ls []) := by
  obtain ⟨hx, hb, hml, hown, hts, hK, hN, hr, hlk⟩ := id C
  intro k
  induction k with
  | zero =>
    intro x3 S hf
    have hf : (none : Option (St)) = some z := hf
    cases hf
  | succ k hg52 =>
    intro x3 S hf H locs ls hP hD hS hl
    have hf : fX5_find_b52 N p1 p2 (fX5_find_l52 N p1 p2 k) x3 S = some z := hf
    unfold fX5_find_b52 at hf
    refine lv_iload_n (pc := 52) hx hb dX5_find_52 rfl (lv_at hl 1 rfl) ?_
    refine lv_iload_n (pc := 53) hx hb dX5_find_53 rfl (lv_at hl 2 rfl) ?_
    refine lv_iadd (pc := 54) hx hb dX5_find_54 ?_
    refine lv_sipush (v := (999 : Int32)) (pc := 55) hx hb dX5_find_55 (by decide) ?_
    refine lv_icmp_gt (tgt := 76) (pc := 58) hx hb dX5_find_58 (by decide) (fun c1 => ?_) (fun c1 => ?_)
    · have hf := pt_t c1 hf
      exact wX5_find_76 C hA  hf hP hD hS (lv_sub hl [0, 1] rfl)
    · have hf := pt_f c1 hf
      refine lv_aload_n (pc := 61) hx hb dX5_find_61 rfl (lv_at hl 0 rfl) ?_
      refine lv_iconst (v := (2 : Int32)) (pc := 62) hx hb dX5_find_62 (by decide) ?_
      refine lv_iload_n (pc := 63) hx hb dX5_find_63 rfl (lv_at hl 1 rfl) ?_
      refine lv_iload_n (pc := 64) hx hb dX5_find_64 rfl (lv_at hl 2 rfl) ?_
      refine lv_iadd (pc := 65) hx hb dX5_find_65 ?_
      refine lv_iload_n (pc := 66) hx hb dX5_find_66 rfl (lv_at hl 2 rfl) ?_
      obtain ⟨q2, hq2, hf⟩ := pt_b hf
      refine all_v (runU_V (pc := 67) (As := [.int ((2 : Int32)), .int ((p1 + x3)), .int x3]) (b := a 0) (rest := []) (ci := 4) (q0 := 0) C lk_RX5_42 (kX5_takeIfSaid l D cA a hq2 H.size) ⟨Nat.le_of_ble_eq_true rfl, Nat.le_of_ble_eq_true rfl⟩ ⟨Nat.le_refl _, Nat.le_refl _⟩ hP hD rfl rfl rfl hl.1 rfl (Nat.le_of_ble_eq_true rfl) dX5_find_67) hD hS hA (fun H locs hP hD hS => ?_)
      refine lv_iinc (v := (x3 + 1)) (lv' := [(3, .int ((x3 + 1))), (0, .ref (a 0)), (1, .int p1)]) (pc := 70) hx hb dX5_find_70 hl (k := 2) rfl (by rfl) (by decide) rfl (fun ls hl => ?_)
      refine lv_goto (tgt := 52) (pc := 73) hx hb dX5_find_73 (by decide) ?_
      exact hg52 ((x3 + 1)) q2 hf _ _ _ hP hD hS (lv_sub hl [1, 2, 0] rfl)
set_option maxRecDepth 100000 in
set_option maxHeartbeats 4000000 in
theorem wX5_find_50 (C : Cx p s m args meth c D cA cX5_find 4 RX5 none) (hA : ∀ q : Nat, s.heap.size ≤ q → A q) {N : Nat} {z : St} {p1 : Int32} {p2 : Int32} {S : St} (hf : fX5_find_j50 N p1 p2 S = some z) {H : Heap} {locs : List Loc} {ls : Array Slot} (hP : va_P D vwCl (w_S cA a S) H) (hD : va_D A (w_S cA a S)) (hS : va_S A s.heap H locs) (hl : lv_has ls 4 [(0, .ref (a 0)), (1, .int p1)]) : W p l e (rmU 3 67 0 0) s m args below meth c H locs 0 0 (MQ below (QV D A (w_S cA a z)) args s 0 0 A) (F0 m 50 ls []) := by
  obtain ⟨hx, hb, hml, hown, hts, hK, hN, hr, hlk⟩ := id C
  unfold fX5_find_j50 at hf
  refine lv_iconst (v := (1 : Int32)) (pc := 50) hx hb dX5_find_50 (by decide) ?_
  refine lv_istore_n (lv' := [(3, .int ((1 : Int32))), (0, .ref (a 0)), (1, .int p1)]) (pc := 51) hx hb dX5_find_51 rfl hl (by decide) rfl (fun ls hl => ?_)
  exact wX5_find_52 C hA  _ ((1 : Int32)) S hf _ _ _ hP hD hS (lv_sub hl [1, 2, 0] rfl)
set_option maxRecDepth 100000 in
set_option maxHeartbeats 4000000 in
theorem wX5_find_28 (C : Cx p s m args meth c D cA cX5_find 4 RX5 none) (hA : ∀ q : Nat, s.heap.size ≤ q → A q) {N : Nat} {z : St} {p1 : Int32} {p2 : Int32} : ∀ (k : Nat) (x3 : Int32) (S : St), fX5_find_l28 N p1 p2 k (x3, S) = some z → ∀ (H : Heap) (locs : List Loc) (ls : Array Slot), va_P D vwCl (w_S cA a S) H → va_D A (w_S cA a S) → va_S A s.heap H locs → lv_has ls 4 [(0, .ref (a 0)), (1, .int p1), (3, .int x3)] → W p l e (rmU 3 67 0 0) s m args below meth c H locs 0 0 (MQ below (QV D A (w_S cA a z)) args s 0 0 A) (F0 m 28 ls []) := by
  obtain ⟨hx, hb, hml, hown, hts, hK, hN, hr, hlk⟩ := id C
  intro k
  induction k with
  | zero =>
    intro x3 S hf
    have hf : (none : Option (St)) = some z := hf
    cases hf
  | succ k hg28 =>
    intro x3 S hf H locs ls hP hD hS hl
    have hf : fX5_find_b28 N p1 p2 (fX5_find_l28 N p1 p2 k) x3 S = some z := hf
    unfold fX5_find_b28 at hf
    refine lv_iload_n (pc := 28) hx hb dX5_find_28 rfl (lv_at hl 2 rfl) ?_
    refine lv_iload_n (pc := 29) hx hb dX5_find_29 rfl (lv_at hl 1 rfl) ?_
    refine lv_iload_n (pc := 30) hx hb dX5_find_30 rfl (lv_at hl 2 rfl) ?_
    refine lv_isub (pc := 31) hx hb dX5_find_31 ?_
    refine lv_icmp_gt (tgt := 50) (pc := 32) hx hb dX5_find_32 (by decide) (fun c1 => ?_) (fun c1 => ?_)
    · have hf := pt_t c1 hf
      exact wX5_find_50 C hA  hf hP hD hS (lv_sub hl [0, 1] rfl)
    · have hf := pt_f c1 hf
      refine lv_aload_n (pc := 35) hx hb dX5_find_35 rfl (lv_at hl 0 rfl) ?_
      refine lv_iconst (v := (1 : Int32)) (pc := 36) hx hb dX5_find_36 (by decide) ?_
      refine lv_iload_n (pc := 37) hx hb dX5_find_37 rfl (lv_at hl 2 rfl) ?_
      refine lv_iload_n (pc := 38) hx hb dX5_find_38 rfl (lv_at hl 1 rfl) ?_
      refine lv_iload_n (pc := 39) hx hb dX5_find_39 rfl (lv_at hl 2 rfl) ?_
      refine lv_isub (pc := 40) hx hb dX5_find_40 ?_
      obtain ⟨q2, hq2, hf⟩ := pt_b hf
      refine all_v (runU_V (pc := 41) (As := [.int ((1 : Int32)), .int x3, .int ((p1 - x3))]) (b := a 0) (rest := []) (ci := 4) (q0 := 0) C lk_RX5_42 (kX5_takeIfSaid l D cA a hq2 H.size) ⟨Nat.le_of_ble_eq_true rfl, Nat.le_of_ble_eq_true rfl⟩ ⟨Nat.le_refl _, Nat.le_refl _⟩ hP hD rfl rfl rfl hl.1 rfl (Nat.le_of_ble_eq_true rfl) dX5_find_41) hD hS hA (fun H locs hP hD hS => ?_)
      refine lv_iinc (v := (x3 + 1)) (lv' := [(3, .int ((x3 + 1))), (0, .ref (a 0)), (1, .int p1)]) (pc := 44) hx hb dX5_find_44 hl (k := 2) rfl (by rfl) (by decide) rfl (fun ls hl => ?_)
      refine lv_goto (tgt := 28) (pc := 47) hx hb dX5_find_47 (by decide) ?_
      exact hg28 ((x3 + 1)) q2 hf _ _ _ hP hD hS (lv_sub hl [1, 2, 0] rfl)
set_option maxRecDepth 100000 in
set_option maxHeartbeats 4000000 in
theorem wX5_find_26 (C : Cx p s m args meth c D cA cX5_find 4 RX5 none) (hA : ∀ q : Nat, s.heap.size ≤ q → A q) {N : Nat} {z : St} {p1 : Int32} {p2 : Int32} {S : St} (hf : fX5_find_j26 N p1 p2 S = some z) {H : Heap} {locs : List Loc} {ls : Array Slot} (hP : va_P D vwCl (w_S cA a S) H) (hD : va_D A (w_S cA a S)) (hS : va_S A s.heap H locs) (hl : lv_has ls 4 [(0, .ref (a 0)), (1, .int p1)]) : W p l e (rmU 3 67 0 0) s m args below meth c H locs 0 0 (MQ below (QV D A (w_S cA a z)) args s 0 0 A) (F0 m 26 ls []) := by
  obtain ⟨hx, hb, hml, hown, hts, hK, hN, hr, hlk⟩ := id C
  unfold fX5_find_j26 at hf
  refine lv_iconst (v := (0 : Int32)) (pc := 26) hx hb dX5_find_26 (by decide) ?_
  refine lv_istore_n (lv' := [(3, .int ((0 : Int32))), (0, .ref (a 0)), (1, .int p1)]) (pc := 27) hx hb dX5_find_27 rfl hl (by decide) rfl (fun ls hl => ?_)
  exact wX5_find_28 C hA  _ ((0 : Int32)) S hf _ _ _ hP hD hS (lv_sub hl [1, 2, 0] rfl)
set_option maxRecDepth 100000 in
set_option maxHeartbeats 4000000 in
theorem wX5_find (C : Cx p s m args meth c D cA cX5_find 4 RX5 none) (hA : ∀ q : Nat, s.heap.size ≤ q → A q) {N : Nat} {z : St} {S : St} {p1 : Int32} {p2 : Int32} (hf : fX5_find N S p1 p2 = some z) {H : Heap} {locs : List Loc} {ls : Array Slot} (hP : va_P D vwCl (w_S cA a S) H) (hD : va_D A (w_S cA a S)) (hS : va_S A s.heap H locs) (hl : lv_has ls 4 [(0, .ref (a 0)), (1, .int p1), (2, .int p2)]) : W p l e (rmU 3 67 0 0) s m args below meth c H locs 0 0 (MQ below (QV D A (w_S cA a z)) args s 0 0 A) (F0 m 0 ls []) := by
  obtain ⟨hx, hb, hml, hown, hts, hK, hN, hr, hlk⟩ := id C
  unfold fX5_find at hf
  refine lv_aload_n (pc := 0) hx hb dX5_find_0 rfl (lv_at hl 0 rfl) ?_
  refine lv_iload_n (pc := 1) hx hb dX5_find_1 rfl (lv_at hl 2 rfl) ?_
  obtain ⟨q1, hq1, hf⟩ := pt_b hf
  refine all_v (runU_V (pc := 2) (As := [.int p2]) (b := a 0) (rest := []) (ci := 4) (q0 := 0) C lk_RX5_34 (kX5_fillRow l D cA a hq1 H.size) ⟨Nat.le_of_ble_eq_true rfl, Nat.le_of_ble_eq_true rfl⟩ ⟨Nat.le_refl _, Nat.le_refl _⟩ hP hD rfl rfl rfl hl.1 rfl (Nat.le_of_ble_eq_true rfl) dX5_find_2) hD hS hA (fun H locs hP hD hS => ?_)
  refine lv_aload_n (pc := 5) hx hb dX5_find_5 rfl (lv_at hl 0 rfl) ?_
  refine lv_iconst (v := (0 : Int32)) (pc := 6) hx hb dX5_find_6 (by decide) ?_
  refine pu_RX5_19_S_0_0 (pc := 7) C hP hD hS dX5_find_7 (fun H locs hP hD hS => ?_)
  refine lv_aload_n (pc := 10) hx hb dX5_find_10 rfl (lv_at hl 0 rfl) ?_
  refine ge_RX5_9_S_0_0 (pc := 11) C hP dX5_find_11 ?_
  refine lv_iload_n (pc := 14) hx hb dX5_find_14 rfl (lv_at hl 1 rfl) ?_
  obtain ⟨h2, hf⟩ := pt_g hf
  refine ld_S_0_1 (pc := 15) (j := p1.toNatClampNeg) C hP h2 rfl dX5_find_15 ?_
  refine lv_if_eq (tgt := 26) (pc := 16) hx hb dX5_find_16 (by decide) (fun c3 => ?_) (fun c3 => ?_)
  · have hf := pt_t c3 hf
    exact wX5_find_26 C hA  hf hP hD hS (lv_sub hl [0, 1] rfl)
  · have hf := pt_f c3 hf
    refine lv_aload_n (pc := 19) hx hb dX5_find_19 rfl (lv_at hl 0 rfl) ?_
    refine lv_iconst (v := (0 : Int32)) (pc := 20) hx hb dX5_find_20 (by decide) ?_
    refine lv_iload_n (pc := 21) hx hb dX5_find_21 rfl (lv_at hl 1 rfl) ?_
    refine lv_iconst (v := (0 : Int32)) (pc := 22) hx hb dX5_find_22 (by decide) ?_
    obtain ⟨q4, hq4, hf⟩ := pt_b hf
    refine all_v (runU_V (pc := 23) (As := [.int ((0 : Int32)), .int p1, .int ((0 : Int32))]) (b := a 0) (rest := []) (ci := 4) (q0 := 0) C lk_RX5_38 (kX5_take l D cA a hq4 H.size) ⟨Nat.le_of_ble_eq_true rfl, Nat.le_of_ble_eq_true rfl⟩ ⟨Nat.le_refl _, Nat.le_refl _⟩ hP hD rfl rfl rfl hl.1 rfl (Nat.le_of_ble_eq_true rfl) dX5_find_23) hD hS hA (fun H locs hP hD hS => ?_)
    exact wX5_find_26 C hA  hf hP hD hS (lv_sub hl [0, 1] rfl)
set_option maxRecDepth 100000 in
set_option maxHeartbeats 4000000 in
theorem kX5_find (l : Launch) (D : va_G) (cA : Nat → ClassId) (a : Nat → Nat) {N : Nat} {S : St} {p1 : Int32} {p2 : Int32} {z : St} (hf : fX5_find N S p1 p2 = some z) : CtV l yX5_find cX5_find 4 none 3 67 D cA (w_S cA a S) (w_S cA a z) [.ref (a 0), .int p1, .int p2] := by
  intro sz
  refine Met.ofW (cc := cX5_find) (maxL := 4) (ret := none) (by decide) rfl ?_
  intro p e s m args below meth c s₁ B hml hv
  obtain ⟨rfl, hsz, hP, hK, hD0⟩ := hv
  subst hsz
  have C : Cx p s m _ meth c D cA cX5_find 4 RX5 none := Cx.of B hml hK
  have hD := hD0.self (sz := s.heap.size)
  have hA : ∀ q : Nat, s.heap.size ≤ q → va_A (w_S cA a S) s.heap.size q := fun q h => Or.inr h
  have hS : va_S (va_A (w_S cA a S) s.heap.size) s.heap s.heap [] := va_S.rf
  have hl := lv_entry ([.ref (a 0), .int p1, .int p2]) (n := 4) (Nat.le_of_ble_eq_true rfl)
  rw [lg_entry_eq]
  generalize (lg_sl ([.ref (a 0), .int p1, .int p2]) ++ List.replicate (4 - (lg_sl ([.ref (a 0), .int p1, .int p2])).length) Slot.unset).toArray = ls at hl ⊢
  exact wX5_find C hA hf hP hD hS hl
def w_L (cA : Nat → ClassId) (a : Nat → Nat) (S : St) : va_W := [(a 0, .inr (7, [.ref (a 1)])), (a 1, .inl (cA 0, 201, .inl (S 0)))]
theorem fl_RX8_9 : Cond.fieldLink RX8 9 "SevenOnStrike$Till" "row" "[I" ∈ wsL_law := by decide +kernel
theorem ge_RX8_9_L_0_0 (C : Cx p s m args meth c D cA cc nL RX8 ret) (hP : va_P D vwCl (w_L cA a S) H) (hdg : decode cc pc = .ok (.getfield 9, 3)) (kk : W p l e R s m args below meth c H locs cells slots Q (F0 m (pc + 3) ls (.ref (a 1) :: rest))) : W p l e R s m args below meth c H locs cells slots Q (F0 m pc ls (.ref (a 0) :: rest)) := by
  obtain ⟨hx, hb, -, hown, hts, hK, -, -, -⟩ := C
  exact va_get (D := D) (ci := 7) (v := .ref (a 1)) (C := RX8) (T := TX8) (N := 1) hx hb hts inlX8 hown hK hP 0 rfl rfl 0 (by decide) (hts _ fl_RX8_9) (fun _ h9 => h9) rfl hdg kk
theorem sr_L_0_1 {i v : Int32} {j : Nat} (C : Cx p s m args meth c D cA cc nL own ret) (hP : va_P D vwCl (w_L cA a S) H) (hD : va_D A (w_L cA a S)) (hS : va_S A s.heap H locs) (hin : vp_in i 201) (hj : i.toNatClampNeg = j) (hdg : decode cc pc = .ok (.iastore, 1)) (kk : ∀ (H1 : Heap) (locs1 : List Loc), va_P D vwCl (w_L cA a (sti S 0 j v)) H1 → va_D A (w_L cA a (sti S 0 j v)) → va_S A s.heap H1 locs1 → W p l e R s m args below meth c H1 locs1 cells slots Q (F0 m (pc + 1) ls rest)) : W p l e R s m args below meth c H locs cells slots Q (F0 m pc ls (.int v :: .int i :: .ref (a 1) :: rest)) := by
  obtain ⟨hx, hb, -, hown, hts, hK, -, -, -⟩ := C
  subst hj
  exact va_iast hx hb hK hP hD hS 1 0 rfl rfl hin hdg (fun H1 locs1 h1 h2 h3 => kk H1 locs1 h1 h2 h3)
def fX8_startWith_b9 (N : Nat) (p1 : Int32) (p2 : Int32) (g9 : Int32 × St → Option (St)) (x3 : Int32) (S : St) : Option (St) :=
  if (200 : Int32) < x3 then (some S) else (if ¬ (x3 < 0 ∨ 201 ≤ x3.toNatClampNeg) then (g9 (((x3 + 1), (sti S 0 x3.toNatClampNeg p2)))) else none)
def fX8_startWith_l9 (N : Nat) (p1 : Int32) (p2 : Int32) (k : Nat) (q : Int32 × St) : Option (St) := lpN (fun g q => fX8_startWith_b9 N p1 p2 g q.1 q.2) k q
def fX8_startWith (N : Nat) (S : St) (p1 : Int32) (p2 : Int32) : Option (St) :=
  fX8_startWith_l9 N p1 p2 N (((1 : Int32), (sti S 0 0 p1)))
set_option maxRecDepth 100000 in
set_option maxHeartbeats 4000000 in
theorem wX8_startWith_9 (C : Cx p s m args meth c D cA cX8_startWith 4 RX8 none) (hA : ∀ q : Nat, s.heap.size ≤ q → A q) {N : Nat} {z : St} {p1 : Int32} {p2 : Int32} : ∀ (k : Nat) (x3 : Int32) (S : St), fX8_startWith_l9 N p1 p2 k (x3, S) = some z → ∀ (H : Heap) (locs : List Loc) (ls : Array Slot), va_P D vwCl (w_L cA a S) H → va_D A (w_L cA a S) → va_S A s.heap H locs → lv_has ls 4 [(0, .ref (a 0)), (2, .int p2), (3, .int x3)] → W p l e (rmU 0 0 0 0) s m args below meth c H locs 0 0 (MQ below (QV D A (w_L cA a z)) args s 0 0 A) (F0 m 9 ls []) := by
  obtain ⟨hx, hb, hml, hown, hts, hK, hN, hr, hlk⟩ := id C
  intro k
  induction k with
  | zero =>
    intro x3 S hf
    have hf : (none : Option (St)) = some z := hf
    cases hf
  | succ k hg9 =>
    intro x3 S hf H locs ls hP hD hS hl
    have hf : fX8_startWith_b9 N p1 p2 (fX8_startWith_l9 N p1 p2 k) x3 S = some z := hf
    unfold fX8_startWith_b9 at hf
    refine lv_iload_n (pc := 9) hx hb dX8_startWith_9 rfl (lv_at hl 2 rfl) ?_
    refine lv_sipush (v := (200 : Int32)) (pc := 10) hx hb dX8_startWith_10 (by decide) ?_
    refine lv_icmp_gt (tgt := 29) (pc := 13) hx hb dX8_startWith_13 (by decide) (fun c1 => ?_) (fun c1 => ?_)
    · have hf := pt_t c1 hf
      cases hf
      exact ret_v C hP hD hS dX8_startWith_29
    · have hf := pt_f c1 hf
      refine lv_aload_n (pc := 16) hx hb dX8_startWith_16 rfl (lv_at hl 0 rfl) ?_
      refine ge_RX8_9_L_0_0 (pc := 17) C hP dX8_startWith_17 ?_
      refine lv_iload_n (pc := 20) hx hb dX8_startWith_20 rfl (lv_at hl 2 rfl) ?_
      refine lv_iload_n (pc := 21) hx hb dX8_startWith_21 rfl (lv_at hl 1 rfl) ?_
      obtain ⟨h2, hf⟩ := pt_g hf
      refine sr_L_0_1 (pc := 22) (j := x3.toNatClampNeg) C hP hD hS h2 rfl dX8_startWith_22 (fun H locs hP hD hS => ?_)
      refine lv_iinc (v := (x3 + 1)) (lv' := [(3, .int ((x3 + 1))), (0, .ref (a 0)), (2, .int p2)]) (pc := 23) hx hb dX8_startWith_23 hl (k := 2) rfl (by rfl) (by decide) rfl (fun ls hl => ?_)
      refine lv_goto (tgt := 9) (pc := 26) hx hb dX8_startWith_26 (by decide) ?_
      exact hg9 ((x3 + 1)) ((sti S 0 x3.toNatClampNeg p2)) hf _ _ _ hP hD hS (lv_sub hl [1, 2, 0] rfl)
set_option maxRecDepth 100000 in
set_option maxHeartbeats 4000000 in
theorem wX8_startWith (C : Cx p s m args meth c D cA cX8_startWith 4 RX8 none) (hA : ∀ q : Nat, s.heap.size ≤ q → A q) {N : Nat} {z : St} {S : St} {p1 : Int32} {p2 : Int32} (hf : fX8_startWith N S p1 p2 = some z) {H : Heap} {locs : List Loc} {ls : Array Slot} (hP : va_P D vwCl (w_L cA a S) H) (hD : va_D A (w_L cA a S)) (hS : va_S A s.heap H locs) (hl : lv_has ls 4 [(0, .ref (a 0)), (1, .int p1), (2, .int p2)]) : W p l e (rmU 0 0 0 0) s m args below meth c H locs 0 0 (MQ below (QV D A (w_L cA a z)) args s 0 0 A) (F0 m 0 ls []) := by
  obtain ⟨hx, hb, hml, hown, hts, hK, hN, hr, hlk⟩ := id C
  unfold fX8_startWith at hf
  refine lv_aload_n (pc := 0) hx hb dX8_startWith_0 rfl (lv_at hl 0 rfl) ?_
  refine ge_RX8_9_L_0_0 (pc := 1) C hP dX8_startWith_1 ?_
  refine lv_iconst (v := (0 : Int32)) (pc := 4) hx hb dX8_startWith_4 (by decide) ?_
  refine lv_iload_n (pc := 5) hx hb dX8_startWith_5 rfl (lv_at hl 1 rfl) ?_
  refine sr_L_0_1 (pc := 6) (j := 0) C hP hD hS (inK rfl) rfl dX8_startWith_6 (fun H locs hP hD hS => ?_)
  refine lv_iconst (v := (1 : Int32)) (pc := 7) hx hb dX8_startWith_7 (by decide) ?_
  refine lv_istore_n (lv' := [(3, .int ((1 : Int32))), (0, .ref (a 0)), (1, .int p1), (2, .int p2)]) (pc := 8) hx hb dX8_startWith_8 rfl hl (by decide) rfl (fun ls hl => ?_)
  exact wX8_startWith_9 C hA  _ ((1 : Int32)) ((sti S 0 0 p1)) hf _ _ _ hP hD hS (lv_sub hl [1, 3, 0] rfl)
set_option maxRecDepth 100000 in
set_option maxHeartbeats 4000000 in
theorem kX8_startWith (l : Launch) (D : va_G) (cA : Nat → ClassId) (a : Nat → Nat) {N : Nat} {S : St} {p1 : Int32} {p2 : Int32} {z : St} (hf : fX8_startWith N S p1 p2 = some z) : CtV l yX8_startWith cX8_startWith 4 none 0 0 D cA (w_L cA a S) (w_L cA a z) [.ref (a 0), .int p1, .int p2] := by
  intro sz
  refine Met.ofW (cc := cX8_startWith) (maxL := 4) (ret := none) (by decide) rfl ?_
  intro p e s m args below meth c s₁ B hml hv
  obtain ⟨rfl, hsz, hP, hK, hD0⟩ := hv
  subst hsz
  have C : Cx p s m _ meth c D cA cX8_startWith 4 RX8 none := Cx.of B hml hK
  have hD := hD0.self (sz := s.heap.size)
  have hA : ∀ q : Nat, s.heap.size ≤ q → va_A (w_L cA a S) s.heap.size q := fun q h => Or.inr h
  have hS : va_S (va_A (w_L cA a S) s.heap.size) s.heap s.heap [] := va_S.rf
  have hl := lv_entry ([.ref (a 0), .int p1, .int p2]) (n := 4) (Nat.le_of_ble_eq_true rfl)
  rw [lg_entry_eq]
  generalize (lg_sl ([.ref (a 0), .int p1, .int p2]) ++ List.replicate (4 - (lg_sl ([.ref (a 0), .int p1, .int p2])).length) Slot.unset).toArray = ls at hl ⊢
  exact wX8_startWith C hA hf hP hD hS hl
def w_L_D (cA : Nat → ClassId) (a : Nat → Nat) (S : St) (b : Nat → Nat) (T : St) : va_W := [(a 0, .inr (7, [.ref (a 1)])), (a 1, .inl (cA 0, 201, .inl (S 0))), (b 0, .inr (8, [.ref (b 1), .ref (b 3), .int (T 0 0), .int (T 1 0), .int (T 2 0), .ref (b 4), .int (T 3 0)])), (b 1, .inr (0, [.int (T 5 0), .ref (b 2)])), (b 2, .inl (cA 0, 10, .inl (T 6))), (b 3, .inl (cA 0, 6, .inl (T 4))), (b 4, .inr (5, [.ref (b 5), .int (T 7 0)])), (b 5, .inl (cA 1, 20, .inl (T 8)))]
theorem ge_RX8_9_L_D_0_0 (C : Cx p s m args meth c D cA cc nL RX8 ret) (hP : va_P D vwCl (w_L_D cA a S b T) H) (hdg : decode cc pc = .ok (.getfield 9, 3)) (kk : W p l e R s m args below meth c H locs cells slots Q (F0 m (pc + 3) ls (.ref (a 1) :: rest))) : W p l e R s m args below meth c H locs cells slots Q (F0 m pc ls (.ref (a 0) :: rest)) := by
  obtain ⟨hx, hb, -, hown, hts, hK, -, -, -⟩ := C
  exact va_get (D := D) (ci := 7) (v := .ref (a 1)) (C := RX8) (T := TX8) (N := 1) hx hb hts inlX8 hown hK hP 0 rfl rfl 0 (by decide) (hts _ fl_RX8_9) (fun _ h9 => h9) rfl hdg kk
theorem ld_L_D_0_1 {i : Int32} {j : Nat} (C : Cx p s m args meth c D cA cc nL own ret) (hP : va_P D vwCl (w_L_D cA a S b T) H) (hin : vp_in i 201) (hj : i.toNatClampNeg = j) (hdg : decode cc pc = .ok (.iaload, 1)) (kk : W p l e R s m args below meth c H locs cells slots Q (F0 m (pc + 1) ls (.int (S 0 j) :: rest))) : W p l e R s m args below meth c H locs cells slots Q (F0 m pc ls (.int i :: .ref (a 1) :: rest)) := by
  obtain ⟨hx, hb, -, hown, hts, hK, -, -, -⟩ := C
  subst hj
  exact va_iald hx hb hK hP 1 0 rfl rfl hin hdg kk
theorem lm_RX8_34 : Cond.methodLink RX8 34 Lib.Math.min.name ∈ wsL_law ∧ Cond.static Lib.Math.min.name ∈ wsL_law ∧ Cond.initialized "java/lang/Math" ∈ wsL_law ∧ Cond.code Lib.Math.min.name Lib.Math.min.code 2 (some .int) ∈ wsL_law := ⟨by decide +kernel, by decide +kernel, by decide +kernel, by decide +kernel⟩
theorem sr_L_D_0_1 {i v : Int32} {j : Nat} (C : Cx p s m args meth c D cA cc nL own ret) (hP : va_P D vwCl (w_L_D cA a S b T) H) (hD : va_D A (w_L_D cA a S b T)) (hS : va_S A s.heap H locs) (hin : vp_in i 201) (hj : i.toNatClampNeg = j) (hdg : decode cc pc = .ok (.iastore, 1)) (kk : ∀ (H1 : Heap) (locs1 : List Loc), va_P D vwCl (w_L_D cA a (sti S 0 j v) b T) H1 → va_D A (w_L_D cA a (sti S 0 j v) b T) → va_S A s.heap H1 locs1 → W p l e R s m args below meth c H1 locs1 cells slots Q (F0 m (pc + 1) ls rest)) : W p l e R s m args below meth c H locs cells slots Q (F0 m pc ls (.int v :: .int i :: .ref (a 1) :: rest)) := by
  obtain ⟨hx, hb, -, hown, hts, hK, -, -, -⟩ := C
  subst hj
  exact va_iast hx hb hK hP hD hS 1 0 rfl rfl hin hdg (fun H1 locs1 h1 h2 h3 => kk H1 locs1 h1 h2 h3)
theorem fl_RX8_19 : Cond.fieldLink RX8 19 "SevenOnStrike$Told" "coinCount" "I" ∈ wsL_law := by decide +kernel
theorem ge_RX8_19_L_D_1_0 (C : Cx p s m args meth c D cA cc nL RX8 ret) (hP : va_P D vwCl (w_L_D cA a S b T) H) (hdg : decode cc pc = .ok (.getfield 19, 3)) (kk : W p l e R s m args below meth c H locs cells slots Q (F0 m (pc + 3) ls (.int (T 0 0) :: rest))) : W p l e R s m args below meth c H locs cells slots Q (F0 m pc ls (.ref (b 0) :: rest)) := by
  obtain ⟨hx, hb, -, hown, hts, hK, -, -, -⟩ := C
  exact va_get (D := D) (ci := 8) (v := .int (T 0 0)) (C := RX9) (T := TX9) (N := 7) hx hb hts inlX9 hown hK hP 2 rfl rfl 2 (by decide) (hts _ fl_RX8_19) (fun _ h9 => h9) rfl hdg kk
theorem fl_RX8_25 : Cond.fieldLink RX8 25 "SevenOnStrike$Told" "coins" "[I" ∈ wsL_law := by decide +kernel
theorem ge_RX8_25_L_D_1_0 (C : Cx p s m args meth c D cA cc nL RX8 ret) (hP : va_P D vwCl (w_L_D cA a S b T) H) (hdg : decode cc pc = .ok (.getfield 25, 3)) (kk : W p l e R s m args below meth c H locs cells slots Q (F0 m (pc + 3) ls (.ref (b 3) :: rest))) : W p l e R s m args below meth c H locs cells slots Q (F0 m pc ls (.ref (b 0) :: rest)) := by
  obtain ⟨hx, hb, -, hown, hts, hK, -, -, -⟩ := C
  exact va_get (D := D) (ci := 8) (v := .ref (b 3)) (C := RX9) (T := TX9) (N := 7) hx hb hts inlX9 hown hK hP 2 rfl rfl 1 (by decide) (hts _ fl_RX8_25) (fun _ h9 => h9) rfl hdg kk
theorem ld_L_D_1_3 {i : Int32} {j : Nat} (C : Cx p s m args meth c D cA cc nL own ret) (hP : va_P D vwCl (w_L_D cA a S b T) H) (hin : vp_in i 6) (hj : i.toNatClampNeg = j) (hdg : decode cc pc = .ok (.iaload, 1)) (kk : W p l e R s m args below meth c H locs cells slots Q (F0 m (pc + 1) ls (.int (T 4 j) :: rest))) : W p l e R s m args below meth c H locs cells slots Q (F0 m pc ls (.int i :: .ref (b 3) :: rest)) := by
  obtain ⟨hx, hb, -, hown, hts, hK, -, -, -⟩ := C
  subst hj
  exact va_iald hx hb hK hP 5 0 rfl rfl hin hdg kk
theorem lk_RX8_28 : LkS RX8 28 yX3_canSay cX3_canSay 4 (some .boolean) 2 := ⟨⟨by decide +kernel, by decide +kernel, by decide +kernel, by decide +kernel, by decide +kernel, by decide +kernel⟩, by decide +kernel⟩
theorem lk_RX8_15 : LkV RX8 15 yX8_startWith cX8_startWith 4 none 2 := ⟨⟨by decide +kernel, by decide +kernel, by decide +kernel, by decide +kernel, by decide +kernel, by decide +kernel⟩, by decide +kernel, by decide +kernel⟩
def fX8_countFewest_j82 (N : Nat) (T : St) (p2 : Int32) (g10 : Int32 × St → Option (St)) (x3 : Int32) (S : St) : Option (St) :=
  g10 (((x3 + 1), S))
def fX8_countFewest_b39 (N : Nat) (T : St) (p2 : Int32) (g10 : Int32 × St → Option (St)) (g39 : Int32 × Int32 × Int32 × St → Option (St)) (x3 : Int32) (x4 : Int32) (x5 : Int32) (S : St) : Option (St) :=
  if (200 : Int32) < x5 then (fX8_countFewest_j82 N T p2 g10 x3 S) else (if ¬ (x5 < 0 ∨ 201 ≤ x5.toNatClampNeg) then (if ¬ ((x5 - x4) < 0 ∨ 201 ≤ ((x5 - x4)).toNatClampNeg) then (if ¬ (x5 < 0 ∨ 201 ≤ x5.toNatClampNeg) then (g39 ((x3, x4, (x5 + 1), (sti S 0 x5.toNatClampNeg ((if ((S 0 (((x5 - x4)).toNatClampNeg)) + (1 : Int32)) < (S 0 x5.toNatClampNeg) then ((S 0 (((x5 - x4)).toNatClampNeg)) + (1 : Int32)) else (S 0 x5.toNatClampNeg))))))) else none) else none) else none)
def fX8_countFewest_l39 (N : Nat) (T : St) (p2 : Int32) (g10 : Int32 × St → Option (St)) (k : Nat) (q : Int32 × Int32 × Int32 × St) : Option (St) := lpN (fun g q => fX8_countFewest_b39 N T p2 g10 g q.1 q.2.1 q.2.2.1 q.2.2.2) k q
def fX8_countFewest_b10 (N : Nat) (T : St) (p2 : Int32) (g10 : Int32 × St → Option (St)) (x3 : Int32) (S : St) : Option (St) :=
  if (T 0 0) ≤ x3 then (some S) else (if ¬ (x3 < 0 ∨ 6 ≤ x3.toNatClampNeg) then (Option.bind (fX3_canSay N p2 ((T 4 x3.toNatClampNeg))) (fun q3 => if q3 = 0 then (fX8_countFewest_j82 N T p2 g10 x3 S) else (fX8_countFewest_l39 N T p2 g10 N ((x3, (T 4 x3.toNatClampNeg), (T 4 x3.toNatClampNeg), S))))) else none)
def fX8_countFewest_l10 (N : Nat) (T : St) (p2 : Int32) (k : Nat) (q : Int32 × St) : Option (St) := lpN (fun g q => fX8_countFewest_b10 N T p2 g q.1 q.2) k q
def fX8_countFewest (N : Nat) (S : St) (T : St) (p2 : Int32) : Option (St) :=
  Option.bind (fX8_startWith N S ((0 : Int32)) ((201 : Int32))) (fun q1 => fX8_countFewest_l10 N T p2 N (((0 : Int32), q1)))
set_option maxRecDepth 100000 in
set_option maxHeartbeats 4000000 in
theorem wX8_countFewest_82 (C : Cx p s m args meth c D cA cX8_countFewest 6 RX8 none) (hA : ∀ q : Nat, s.heap.size ≤ q → A q) {N : Nat} {z : St} {T : St} {p2 : Int32} {g10 : Int32 × St → Option (St)} (hg10 : ∀ (x3 : Int32) (S : St), g10 (x3, S) = some z → ∀ (H : Heap) (locs : List Loc) (ls : Array Slot), va_P D vwCl (w_L_D cA a S b T) H → va_D A (w_L_D cA a S b T) → va_S A s.heap H locs → lv_has ls 6 [(0, .ref (a 0)), (1, .ref (b 0)), (2, .int p2), (3, .int x3)] → W p l e (rmU 1 23 0 0) s m args below meth c H locs 0 0 (MQ below (QV D A (w_L_D cA a z b T)) args s 0 0 A) (F0 m 10 ls [])) {x3 : Int32} {S : St} (hf : fX8_countFewest_j82 N T p2 g10 x3 S = some z) {H : Heap} {locs : List Loc} {ls : Array Slot} (hP : va_P D vwCl (w_L_D cA a S b T) H) (hD : va_D A (w_L_D cA a S b T)) (hS : va_S A s.heap H locs) (hl : lv_has ls 6 [(0, .ref (a 0)), (1, .ref (b 0)), (2, .int p2), (3, .int x3)]) : W p l e (rmU 1 23 0 0) s m args below meth c H locs 0 0 (MQ below (QV D A (w_L_D cA a z b T)) args s 0 0 A) (F0 m 82 ls []) := by
  obtain ⟨hx, hb, hml, hown, hts, hK, hN, hr, hlk⟩ := id C
  unfold fX8_countFewest_j82 at hf
  refine lv_iinc (v := (x3 + 1)) (lv' := [(3, .int ((x3 + 1))), (0, .ref (a 0)), (1, .ref (b 0)), (2, .int p2)]) (pc := 82) hx hb dX8_countFewest_82 hl (k := 3) rfl (by rfl) (by decide) rfl (fun ls hl => ?_)
  refine lv_goto (tgt := 10) (pc := 85) hx hb dX8_countFewest_85 (by decide) ?_
  exact hg10 ((x3 + 1)) S hf _ _ _ hP hD hS (lv_sub hl [1, 2, 3, 0] rfl)
set_option maxRecDepth 100000 in
set_option maxHeartbeats 4000000 in
theorem wX8_countFewest_39 (C : Cx p s m args meth c D cA cX8_countFewest 6 RX8 none) (hA : ∀ q : Nat, s.heap.size ≤ q → A q) {N : Nat} {z : St} {T : St} {p2 : Int32} {g10 : Int32 × St → Option (St)} (hg10 : ∀ (x3 : Int32) (S : St), g10 (x3, S) = some z → ∀ (H : Heap) (locs : List Loc) (ls : Array Slot), va_P D vwCl (w_L_D cA a S b T) H → va_D A (w_L_D cA a S b T) → va_S A s.heap H locs → lv_has ls 6 [(0, .ref (a 0)), (1, .ref (b 0)), (2, .int p2), (3, .int x3)] → W p l e (rmU 1 23 0 0) s m args below meth c H locs 0 0 (MQ below (QV D A (w_L_D cA a z b T)) args s 0 0 A) (F0 m 10 ls [])) : ∀ (k : Nat) (x3 : Int32) (x4 : Int32) (x5 : Int32) (S : St), fX8_countFewest_l39 N T p2 g10 k (x3, x4, x5, S) = some z → ∀ (H : Heap) (locs : List Loc) (ls : Array Slot), va_P D vwCl (w_L_D cA a S b T) H → va_D A (w_L_D cA a S b T) → va_S A s.heap H locs → lv_has ls 6 [(0, .ref (a 0)), (1, .ref (b 0)), (2, .int p2), (3, .int x3), (4, .int x4), (5, .int x5)] → W p l e (rmU 1 23 0 0) s m args below meth c H locs 0 0 (MQ below (QV D A (w_L_D cA a z b T)) args s 0 0 A) (F0 m 39 ls []) := by
  obtain ⟨hx, hb, hml, hown, hts, hK, hN, hr, hlk⟩ := id C
  intro k
  induction k with
  | zero =>
    intro x3 x4 x5 S hf
    have hf : (none : Option (St)) = some z := hf
    cases hf
  | succ k hg39 =>
    intro x3 x4 x5 S hf H locs ls hP hD hS hl
    have hf : fX8_countFewest_b39 N T p2 g10 (fX8_countFewest_l39 N T p2 g10 k) x3 x4 x5 S = some z := hf
    unfold fX8_countFewest_b39 at hf
    refine lv_iload (pc := 39) hx hb dX8_countFewest_39 (lv_at hl 5 rfl) ?_
    refine lv_sipush (v := (200 : Int32)) (pc := 41) hx hb dX8_countFewest_41 (by decide) ?_
    refine lv_icmp_gt (tgt := 82) (pc := 44) hx hb dX8_countFewest_44 (by decide) (fun c1 => ?_) (fun c1 => ?_)
    · have hf := pt_t c1 hf
      exact wX8_countFewest_82 C hA hg10 hf hP hD hS (lv_sub hl [0, 1, 2, 3] rfl)
    · have hf := pt_f c1 hf
      refine lv_aload_n (pc := 47) hx hb dX8_countFewest_47 rfl (lv_at hl 0 rfl) ?_
      refine ge_RX8_9_L_D_0_0 (pc := 48) C hP dX8_countFewest_48 ?_
      refine lv_iload (pc := 51) hx hb dX8_countFewest_51 (lv_at hl 5 rfl) ?_
      refine lv_aload_n (pc := 53) hx hb dX8_countFewest_53 rfl (lv_at hl 0 rfl) ?_
      refine ge_RX8_9_L_D_0_0 (pc := 54) C hP dX8_countFewest_54 ?_
      refine lv_iload (pc := 57) hx hb dX8_countFewest_57 (lv_at hl 5 rfl) ?_
      obtain ⟨h2, hf⟩ := pt_g hf
      refine ld_L_D_0_1 (pc := 59) (j := x5.toNatClampNeg) C hP h2 rfl dX8_countFewest_59 ?_
      refine lv_aload_n (pc := 60) hx hb dX8_countFewest_60 rfl (lv_at hl 0 rfl) ?_
      refine ge_RX8_9_L_D_0_0 (pc := 61) C hP dX8_countFewest_61 ?_
      refine lv_iload (pc := 64) hx hb dX8_countFewest_64 (lv_at hl 5 rfl) ?_
      refine lv_iload (pc := 66) hx hb dX8_countFewest_66 (lv_at hl 4 rfl) ?_
      refine lv_isub (pc := 68) hx hb dX8_countFewest_68 ?_
      obtain ⟨h3, hf⟩ := pt_g hf
      refine ld_L_D_0_1 (pc := 69) (j := ((x5 - x4)).toNatClampNeg) C hP h3 rfl dX8_countFewest_69 ?_
      refine lv_iconst (v := (1 : Int32)) (pc := 70) hx hb dX8_countFewest_70 (by decide) ?_
      refine lv_iadd (pc := 71) hx hb dX8_countFewest_71 ?_
      refine va_mmin (pc := 72) hx hb (hml.trans hl.1.symm) hown (hts _ lm_RX8_34.1) (hts _ lm_RX8_34.2.1) (hts _ lm_RX8_34.2.2.1) (hts _ lm_RX8_34.2.2.2) (Nat.le_of_ble_eq_true rfl) (Nat.le_of_ble_eq_true rfl) (Nat.zero_le _) (Nat.zero_le _) dX8_countFewest_72 ?_
      obtain ⟨h4, hf⟩ := pt_g hf
      refine sr_L_D_0_1 (pc := 75) (j := x5.toNatClampNeg) C hP hD hS h4 rfl dX8_countFewest_75 (fun H locs hP hD hS => ?_)
      refine lv_iinc (v := (x5 + 1)) (lv' := [(5, .int ((x5 + 1))), (0, .ref (a 0)), (1, .ref (b 0)), (2, .int p2), (3, .int x3), (4, .int x4)]) (pc := 76) hx hb dX8_countFewest_76 hl (k := 5) rfl (by rfl) (by decide) rfl (fun ls hl => ?_)
      refine lv_goto (tgt := 39) (pc := 79) hx hb dX8_countFewest_79 (by decide) ?_
      exact hg39 x3 x4 ((x5 + 1)) ((sti S 0 x5.toNatClampNeg ((if ((S 0 (((x5 - x4)).toNatClampNeg)) + (1 : Int32)) < (S 0 x5.toNatClampNeg) then ((S 0 (((x5 - x4)).toNatClampNeg)) + (1 : Int32)) else (S 0 x5.toNatClampNeg))))) hf _ _ _ hP hD hS (lv_sub hl [1, 2, 3, 4, 5, 0] rfl)
set_option maxRecDepth 100000 in
set_option maxHeartbeats 4000000 in
theorem wX8_countFewest_10 (C : Cx p s m args meth c D cA cX8_countFewest 6 RX8 none) (hA : ∀ q : Nat, s.heap.size ≤ q → A q) {N : Nat} {z : St} {T : St} {p2 : Int32} : ∀ (k : Nat) (x3 : Int32) (S : St), fX8_countFewest_l10 N T p2 k (x3, S) = some z → ∀ (H : Heap) (locs : List Loc) (ls : Array Slot), va_P D vwCl (w_L_D cA a S b T) H → va_D A (w_L_D cA a S b T) → va_S A s.heap H locs → lv_has ls 6 [(0, .ref (a 0)), (1, .ref (b 0)), (2, .int p2), (3, .int x3)] → W p l e (rmU 1 23 0 0) s m args below meth c H locs 0 0 (MQ below (QV D A (w_L_D cA a z b T)) args s 0 0 A) (F0 m 10 ls []) := by
  obtain ⟨hx, hb, hml, hown, hts, hK, hN, hr, hlk⟩ := id C
  intro k
  induction k with
  | zero =>
    intro x3 S hf
    have hf : (none : Option (St)) = some z := hf
    cases hf
  | succ k hg10 =>
    intro x3 S hf H locs ls hP hD hS hl
    have hf : fX8_countFewest_b10 N T p2 (fX8_countFewest_l10 N T p2 k) x3 S = some z := hf
    unfold fX8_countFewest_b10 at hf
    refine lv_iload_n (pc := 10) hx hb dX8_countFewest_10 rfl (lv_at hl 3 rfl) ?_
    refine lv_aload_n (pc := 11) hx hb dX8_countFewest_11 rfl (lv_at hl 1 rfl) ?_
    refine ge_RX8_19_L_D_1_0 (pc := 12) C hP dX8_countFewest_12 ?_
    refine lv_icmp_ge (tgt := 88) (pc := 15) hx hb dX8_countFewest_15 (by decide) (fun c1 => ?_) (fun c1 => ?_)
    · have hf := pt_t c1 hf
      cases hf
      exact ret_v C hP hD hS dX8_countFewest_88
    · have hf := pt_f c1 hf
      refine lv_aload_n (pc := 18) hx hb dX8_countFewest_18 rfl (lv_at hl 1 rfl) ?_
      refine ge_RX8_25_L_D_1_0 (pc := 19) C hP dX8_countFewest_19 ?_
      refine lv_iload_n (pc := 22) hx hb dX8_countFewest_22 rfl (lv_at hl 3 rfl) ?_
      obtain ⟨h2, hf⟩ := pt_g hf
      refine ld_L_D_1_3 (pc := 23) (j := x3.toNatClampNeg) C hP h2 rfl dX8_countFewest_23 ?_
      refine lv_istore (lv' := [(4, .int ((T 4 x3.toNatClampNeg))), (0, .ref (a 0)), (1, .ref (b 0)), (2, .int p2), (3, .int x3)]) (pc := 24) hx hb dX8_countFewest_24 hl (by decide) rfl (fun ls hl => ?_)
      refine lv_iload_n (pc := 26) hx hb dX8_countFewest_26 rfl (lv_at hl 3 rfl) ?_
      refine lv_iload (pc := 27) hx hb dX8_countFewest_27 (lv_at hl 0 rfl) ?_
      obtain ⟨q3, hq3, hf⟩ := pt_b hf
      have hPc : va_P D vwCl ([] : va_W) H := hP.sub [] rfl
      have hDc : va_D A ([] : va_W) := hD.sub [] (by decide) rfl
      refine prt_i (runU_S (pc := 29) (As := [.int p2, .int ((T 4 x3.toNatClampNeg))]) (rest := []) C lk_RX8_28 (kX3_canSay l D cA hq3 H.size) ⟨Nat.le_of_ble_eq_true rfl, Nat.le_of_ble_eq_true rfl⟩ ⟨Nat.le_refl _, Nat.le_refl _⟩ hPc hDc hl.1 rfl (Nat.le_of_ble_eq_true rfl) dX8_countFewest_29) hP hD hS hA [] rfl (fun H locs hP hD hS => ?_)
      refine lv_if_eq (tgt := 82) (pc := 32) hx hb dX8_countFewest_32 (by decide) (fun c4 => ?_) (fun c4 => ?_)
      · have hf := pt_t c4 hf
        exact wX8_countFewest_82 C hA hg10 hf hP hD hS (lv_sub hl [1, 2, 3, 4] rfl)
      · have hf := pt_f c4 hf
        refine lv_iload (pc := 35) hx hb dX8_countFewest_35 (lv_at hl 0 rfl) ?_
        refine lv_istore (lv' := [(5, .int ((T 4 x3.toNatClampNeg))), (4, .int ((T 4 x3.toNatClampNeg))), (0, .ref (a 0)), (1, .ref (b 0)), (2, .int p2), (3, .int x3)]) (pc := 37) hx hb dX8_countFewest_37 hl (by decide) rfl (fun ls hl => ?_)
        exact wX8_countFewest_39 C hA hg10 _ x3 ((T 4 x3.toNatClampNeg)) ((T 4 x3.toNatClampNeg)) S hf _ _ _ hP hD hS (lv_sub hl [2, 3, 4, 5, 1, 0] rfl)
set_option maxRecDepth 100000 in
set_option maxHeartbeats 4000000 in
theorem wX8_countFewest (C : Cx p s m args meth c D cA cX8_countFewest 6 RX8 none) (hA : ∀ q : Nat, s.heap.size ≤ q → A q) {N : Nat} {z : St} {S : St} {T : St} {p2 : Int32} (hf : fX8_countFewest N S T p2 = some z) {H : Heap} {locs : List Loc} {ls : Array Slot} (hP : va_P D vwCl (w_L_D cA a S b T) H) (hD : va_D A (w_L_D cA a S b T)) (hS : va_S A s.heap H locs) (hl : lv_has ls 6 [(0, .ref (a 0)), (1, .ref (b 0)), (2, .int p2)]) : W p l e (rmU 1 23 0 0) s m args below meth c H locs 0 0 (MQ below (QV D A (w_L_D cA a z b T)) args s 0 0 A) (F0 m 0 ls []) := by
  obtain ⟨hx, hb, hml, hown, hts, hK, hN, hr, hlk⟩ := id C
  unfold fX8_countFewest at hf
  refine lv_aload_n (pc := 0) hx hb dX8_countFewest_0 rfl (lv_at hl 0 rfl) ?_
  refine lv_iconst (v := (0 : Int32)) (pc := 1) hx hb dX8_countFewest_1 (by decide) ?_
  refine lv_sipush (v := (201 : Int32)) (pc := 2) hx hb dX8_countFewest_2 (by decide) ?_
  obtain ⟨q1, hq1, hf⟩ := pt_b hf
  have hPc : va_P D vwCl (w_L cA a S) H := hP.sub [0, 1] rfl
  have hDc : va_D A (w_L cA a S) := hD.sub [0, 1] (by decide) rfl
  refine upd_v (W1 := (w_L cA a q1)) (runU_V (pc := 5) (As := [.int ((0 : Int32)), .int ((201 : Int32))]) (b := a 0) (rest := []) (ci := 7) (q0 := 0) C lk_RX8_15 (kX8_startWith l D cA a hq1 H.size) ⟨Nat.le_of_ble_eq_true rfl, Nat.le_of_ble_eq_true rfl⟩ ⟨Nat.le_refl _, Nat.le_refl _⟩ hPc hDc rfl rfl rfl hl.1 rfl (Nat.le_of_ble_eq_true rfl) dX8_countFewest_5) hP hD hS hA [0, 1] rfl (by decide) rfl (fun H locs hP hD hS => ?_)
  have hP : va_P D vwCl (w_L_D cA a q1 b T) H := hP
  have hD : va_D A (w_L_D cA a q1 b T) := hD
  refine lv_iconst (v := (0 : Int32)) (pc := 8) hx hb dX8_countFewest_8 (by decide) ?_
  refine lv_istore_n (lv' := [(3, .int ((0 : Int32))), (0, .ref (a 0)), (1, .ref (b 0)), (2, .int p2)]) (pc := 9) hx hb dX8_countFewest_9 rfl hl (by decide) rfl (fun ls hl => ?_)
  exact wX8_countFewest_10 C hA  _ ((0 : Int32)) q1 hf _ _ _ hP hD hS (lv_sub hl [1, 2, 3, 0] rfl)
set_option maxRecDepth 100000 in
set_option maxHeartbeats 4000000 in
theorem kX8_countFewest (l : Launch) (D : va_G) (cA : Nat → ClassId) (a : Nat → Nat) (b : Nat → Nat) {N : Nat} {S : St} {T : St} {p2 : Int32} {z : St} (hf : fX8_countFewest N S T p2 = some z) : CtV l yX8_countFewest cX8_countFewest 6 none 1 23 D cA (w_L_D cA a S b T) (w_L_D cA a z b T) [.ref (a 0), .ref (b 0), .int p2] := by
  intro sz
  refine Met.ofW (cc := cX8_countFewest) (maxL := 6) (ret := none) (by decide) rfl ?_
  intro p e s m args below meth c s₁ B hml hv
  obtain ⟨rfl, hsz, hP, hK, hD0⟩ := hv
  subst hsz
  have C : Cx p s m _ meth c D cA cX8_countFewest 6 RX8 none := Cx.of B hml hK
  have hD := hD0.self (sz := s.heap.size)
  have hA : ∀ q : Nat, s.heap.size ≤ q → va_A (w_L_D cA a S b T) s.heap.size q := fun q h => Or.inr h
  have hS : va_S (va_A (w_L_D cA a S b T) s.heap.size) s.heap s.heap [] := va_S.rf
  have hl := lv_entry ([.ref (a 0), .ref (b 0), .int p2]) (n := 6) (Nat.le_of_ble_eq_true rfl)
  rw [lg_entry_eq]
  generalize (lg_sl ([.ref (a 0), .ref (b 0), .int p2]) ++ List.replicate (6 - (lg_sl ([.ref (a 0), .ref (b 0), .int p2])).length) Slot.unset).toArray = ls at hl ⊢
  exact wX8_countFewest C hA hf hP hD hS hl
theorem ld_L_0_1 {i : Int32} {j : Nat} (C : Cx p s m args meth c D cA cc nL own ret) (hP : va_P D vwCl (w_L cA a S) H) (hin : vp_in i 201) (hj : i.toNatClampNeg = j) (hdg : decode cc pc = .ok (.iaload, 1)) (kk : W p l e R s m args below meth c H locs cells slots Q (F0 m (pc + 1) ls (.int (S 0 j) :: rest))) : W p l e R s m args below meth c H locs cells slots Q (F0 m pc ls (.int i :: .ref (a 1) :: rest)) := by
  obtain ⟨hx, hb, -, hown, hts, hK, -, -, -⟩ := C
  subst hj
  exact va_iald hx hb hK hP 1 0 rfl rfl hin hdg kk
def fX8_isMade (N : Nat) (S : St) (p1 : Int32) : Option (Int32) :=
  if ¬ (p1 < 0 ∨ 201 ≤ p1.toNatClampNeg) then (if (201 : Int32) ≤ (S 0 p1.toNatClampNeg) then (some ((0 : Int32))) else (some ((1 : Int32)))) else none
set_option maxRecDepth 100000 in
set_option maxHeartbeats 4000000 in
theorem wX8_isMade (C : Cx p s m args meth c D cA cX8_isMade 2 RX8 (some .boolean)) (hA : ∀ q : Nat, s.heap.size ≤ q → A q) {N : Nat} {z : Int32} {S : St} {p1 : Int32} (hf : fX8_isMade N S p1 = some z) {H : Heap} {locs : List Loc} {ls : Array Slot} (hP : va_P D vwCl (w_L cA a S) H) (hD : va_D A (w_L cA a S)) (hS : va_S A s.heap H locs) (hl : lv_has ls 2 [(0, .ref (a 0)), (1, .int p1)]) : W p l e (rmU 0 0 0 0) s m args below meth c H locs 0 0 (MQ below (QI D A z (w_L cA a S)) args s 0 0 A) (F0 m 0 ls []) := by
  obtain ⟨hx, hb, hml, hown, hts, hK, hN, hr, hlk⟩ := id C
  unfold fX8_isMade at hf
  refine lv_aload_n (pc := 0) hx hb dX8_isMade_0 rfl (lv_at hl 0 rfl) ?_
  refine ge_RX8_9_L_0_0 (pc := 1) C hP dX8_isMade_1 ?_
  refine lv_iload_n (pc := 4) hx hb dX8_isMade_4 rfl (lv_at hl 1 rfl) ?_
  obtain ⟨h1, hf⟩ := pt_g hf
  refine ld_L_0_1 (pc := 5) (j := p1.toNatClampNeg) C hP h1 rfl dX8_isMade_5 ?_
  refine lv_sipush (v := (201 : Int32)) (pc := 6) hx hb dX8_isMade_6 (by decide) ?_
  refine lv_icmp_ge (tgt := 16) (pc := 9) hx hb dX8_isMade_9 (by decide) (fun c2 => ?_) (fun c2 => ?_)
  · have hf := pt_t c2 hf
    refine lv_iconst (v := (0 : Int32)) (pc := 16) hx hb dX8_isMade_16 (by decide) ?_
    cases hf
    exact ret_z C (Or.inl rfl) hP hD hS dX8_isMade_17
  · have hf := pt_f c2 hf
    refine lv_iconst (v := (1 : Int32)) (pc := 12) hx hb dX8_isMade_12 (by decide) ?_
    refine lv_goto (tgt := 17) (pc := 13) hx hb dX8_isMade_13 (by decide) ?_
    cases hf
    exact ret_z C (Or.inr rfl) hP hD hS dX8_isMade_17
set_option maxRecDepth 100000 in
set_option maxHeartbeats 4000000 in
theorem kX8_isMade (l : Launch) (D : va_G) (cA : Nat → ClassId) (a : Nat → Nat) {N : Nat} {S : St} {p1 : Int32} {z : Int32} (hf : fX8_isMade N S p1 = some z) : CtI l yX8_isMade cX8_isMade 2 (some .boolean) 0 0 D cA (w_L cA a S) (w_L cA a S) [.ref (a 0), .int p1] z := by
  intro sz
  refine Met.ofW (cc := cX8_isMade) (maxL := 2) (ret := (some .boolean)) (by decide) rfl ?_
  intro p e s m args below meth c s₁ B hml hv
  obtain ⟨rfl, hsz, hP, hK, hD0⟩ := hv
  subst hsz
  have C : Cx p s m _ meth c D cA cX8_isMade 2 RX8 (some .boolean) := Cx.of B hml hK
  have hD := hD0.self (sz := s.heap.size)
  have hA : ∀ q : Nat, s.heap.size ≤ q → va_A (w_L cA a S) s.heap.size q := fun q h => Or.inr h
  have hS : va_S (va_A (w_L cA a S) s.heap.size) s.heap s.heap [] := va_S.rf
  have hl := lv_entry ([.ref (a 0), .int p1]) (n := 2) (Nat.le_of_ble_eq_true rfl)
  rw [lg_entry_eq]
  generalize (lg_sl ([.ref (a 0), .int p1]) ++ List.replicate (2 - (lg_sl ([.ref (a 0), .int p1])).length) Slot.unset).toArray = ls at hl ⊢
  exact wX8_isMade C hA hf hP hD hS hl
def fX8_countWays_j71 (N : Nat) (T : St) (p2 : Int32) (g8 : Int32 × St → Option (St)) (x3 : Int32) (S : St) : Option (St) :=
  g8 (((x3 + 1), S))
def fX8_countWays_b37 (N : Nat) (T : St) (p2 : Int32) (g8 : Int32 × St → Option (St)) (g37 : Int32 × Int32 × Int32 × St → Option (St)) (x3 : Int32) (x4 : Int32) (x5 : Int32) (S : St) : Option (St) :=
  if (200 : Int32) < x5 then (fX8_countWays_j71 N T p2 g8 x3 S) else (if ¬ (x5 < 0 ∨ 201 ≤ x5.toNatClampNeg) then (if ¬ ((x5 - x4) < 0 ∨ 201 ≤ ((x5 - x4)).toNatClampNeg) then (if ¬ (x5 < 0 ∨ 201 ≤ x5.toNatClampNeg) then (g37 ((x3, x4, (x5 + 1), (sti S 0 x5.toNatClampNeg (((S 0 x5.toNatClampNeg) + (S 0 (((x5 - x4)).toNatClampNeg)))))))) else none) else none) else none)
def fX8_countWays_l37 (N : Nat) (T : St) (p2 : Int32) (g8 : Int32 × St → Option (St)) (k : Nat) (q : Int32 × Int32 × Int32 × St) : Option (St) := lpN (fun g q => fX8_countWays_b37 N T p2 g8 g q.1 q.2.1 q.2.2.1 q.2.2.2) k q
def fX8_countWays_b8 (N : Nat) (T : St) (p2 : Int32) (g8 : Int32 × St → Option (St)) (x3 : Int32) (S : St) : Option (St) :=
  if (T 0 0) ≤ x3 then (some S) else (if ¬ (x3 < 0 ∨ 6 ≤ x3.toNatClampNeg) then (Option.bind (fX3_canSay N p2 ((T 4 x3.toNatClampNeg))) (fun q3 => if q3 = 0 then (fX8_countWays_j71 N T p2 g8 x3 S) else (fX8_countWays_l37 N T p2 g8 N ((x3, (T 4 x3.toNatClampNeg), (T 4 x3.toNatClampNeg), S))))) else none)
def fX8_countWays_l8 (N : Nat) (T : St) (p2 : Int32) (k : Nat) (q : Int32 × St) : Option (St) := lpN (fun g q => fX8_countWays_b8 N T p2 g q.1 q.2) k q
def fX8_countWays (N : Nat) (S : St) (T : St) (p2 : Int32) : Option (St) :=
  Option.bind (fX8_startWith N S ((1 : Int32)) ((0 : Int32))) (fun q1 => fX8_countWays_l8 N T p2 N (((0 : Int32), q1)))
set_option maxRecDepth 100000 in
set_option maxHeartbeats 4000000 in
theorem wX8_countWays_71 (C : Cx p s m args meth c D cA cX8_countWays 6 RX8 none) (hA : ∀ q : Nat, s.heap.size ≤ q → A q) {N : Nat} {z : St} {T : St} {p2 : Int32} {g8 : Int32 × St → Option (St)} (hg8 : ∀ (x3 : Int32) (S : St), g8 (x3, S) = some z → ∀ (H : Heap) (locs : List Loc) (ls : Array Slot), va_P D vwCl (w_L_D cA a S b T) H → va_D A (w_L_D cA a S b T) → va_S A s.heap H locs → lv_has ls 6 [(0, .ref (a 0)), (1, .ref (b 0)), (2, .int p2), (3, .int x3)] → W p l e (rmU 1 23 0 0) s m args below meth c H locs 0 0 (MQ below (QV D A (w_L_D cA a z b T)) args s 0 0 A) (F0 m 8 ls [])) {x3 : Int32} {S : St} (hf : fX8_countWays_j71 N T p2 g8 x3 S = some z) {H : Heap} {locs : List Loc} {ls : Array Slot} (hP : va_P D vwCl (w_L_D cA a S b T) H) (hD : va_D A (w_L_D cA a S b T)) (hS : va_S A s.heap H locs) (hl : lv_has ls 6 [(0, .ref (a 0)), (1, .ref (b 0)), (2, .int p2), (3, .int x3)]) : W p l e (rmU 1 23 0 0) s m args below meth c H locs 0 0 (MQ below (QV D A (w_L_D cA a z b T)) args s 0 0 A) (F0 m 71 ls []) := by
  obtain ⟨hx, hb, hml, hown, hts, hK, hN, hr, hlk⟩ := id C
  unfold fX8_countWays_j71 at hf
  refine lv_iinc (v := (x3 + 1)) (lv' := [(3, .int ((x3 + 1))), (0, .ref (a 0)), (1, .ref (b 0)), (2, .int p2)]) (pc := 71) hx hb dX8_countWays_71 hl (k := 3) rfl (by rfl) (by decide) rfl (fun ls hl => ?_)
  refine lv_goto (tgt := 8) (pc := 74) hx hb dX8_countWays_74 (by decide) ?_
  exact hg8 ((x3 + 1)) S hf _ _ _ hP hD hS (lv_sub hl [1, 2, 3, 0] rfl)
set_option maxRecDepth 100000 in
set_option maxHeartbeats 4000000 in
theorem wX8_countWays_37 (C : Cx p s m args meth c D cA cX8_countWays 6 RX8 none) (hA : ∀ q : Nat, s.heap.size ≤ q → A q) {N : Nat} {z : St} {T : St} {p2 : Int32} {g8 : Int32 × St → Option (St)} (hg8 : ∀ (x3 : Int32) (S : St), g8 (x3, S) = some z → ∀ (H : Heap) (locs : List Loc) (ls : Array Slot), va_P D vwCl (w_L_D cA a S b T) H → va_D A (w_L_D cA a S b T) → va_S A s.heap H locs → lv_has ls 6 [(0, .ref (a 0)), (1, .ref (b 0)), (2, .int p2), (3, .int x3)] → W p l e (rmU 1 23 0 0) s m args below meth c H locs 0 0 (MQ below (QV D A (w_L_D cA a z b T)) args s 0 0 A) (F0 m 8 ls [])) : ∀ (k : Nat) (x3 : Int32) (x4 : Int32) (x5 : Int32) (S : St), fX8_countWays_l37 N T p2 g8 k (x3, x4, x5, S) = some z → ∀ (H : Heap) (locs : List Loc) (ls : Array Slot), va_P D vwCl (w_L_D cA a S b T) H → va_D A (w_L_D cA a S b T) → va_S A s.heap H locs → lv_has ls 6 [(0, .ref (a 0)), (1, .ref (b 0)), (2, .int p2), (3, .int x3), (4, .int x4), (5, .int x5)] → W p l e (rmU 1 23 0 0) s m args below meth c H locs 0 0 (MQ below (QV D A (w_L_D cA a z b T)) args s 0 0 A) (F0 m 37 ls []) := by
  obtain ⟨hx, hb, hml, hown, hts, hK, hN, hr, hlk⟩ := id C
  intro k
  induction k with
  | zero =>
    intro x3 x4 x5 S hf
    have hf : (none : Option (St)) = some z := hf
    cases hf
  | succ k hg37 =>
    intro x3 x4 x5 S hf H locs ls hP hD hS hl
    have hf : fX8_countWays_b37 N T p2 g8 (fX8_countWays_l37 N T p2 g8 k) x3 x4 x5 S = some z := hf
    unfold fX8_countWays_b37 at hf
    refine lv_iload (pc := 37) hx hb dX8_countWays_37 (lv_at hl 5 rfl) ?_
    refine lv_sipush (v := (200 : Int32)) (pc := 39) hx hb dX8_countWays_39 (by decide) ?_
    refine lv_icmp_gt (tgt := 71) (pc := 42) hx hb dX8_countWays_42 (by decide) (fun c1 => ?_) (fun c1 => ?_)
    · have hf := pt_t c1 hf
      exact wX8_countWays_71 C hA hg8 hf hP hD hS (lv_sub hl [0, 1, 2, 3] rfl)
    · have hf := pt_f c1 hf
      refine lv_aload_n (pc := 45) hx hb dX8_countWays_45 rfl (lv_at hl 0 rfl) ?_
      refine ge_RX8_9_L_D_0_0 (pc := 46) C hP dX8_countWays_46 ?_
      refine lv_iload (pc := 49) hx hb dX8_countWays_49 (lv_at hl 5 rfl) ?_
      refine lv_dup2_11 (pc := 51) hx hb dX8_countWays_51 rfl rfl ?_
      obtain ⟨h2, hf⟩ := pt_g hf
      refine ld_L_D_0_1 (pc := 52) (j := x5.toNatClampNeg) C hP h2 rfl dX8_countWays_52 ?_
      refine lv_aload_n (pc := 53) hx hb dX8_countWays_53 rfl (lv_at hl 0 rfl) ?_
      refine ge_RX8_9_L_D_0_0 (pc := 54) C hP dX8_countWays_54 ?_
      refine lv_iload (pc := 57) hx hb dX8_countWays_57 (lv_at hl 5 rfl) ?_
      refine lv_iload (pc := 59) hx hb dX8_countWays_59 (lv_at hl 4 rfl) ?_
      refine lv_isub (pc := 61) hx hb dX8_countWays_61 ?_
      obtain ⟨h3, hf⟩ := pt_g hf
      refine ld_L_D_0_1 (pc := 62) (j := ((x5 - x4)).toNatClampNeg) C hP h3 rfl dX8_countWays_62 ?_
      refine lv_iadd (pc := 63) hx hb dX8_countWays_63 ?_
      obtain ⟨h4, hf⟩ := pt_g hf
      refine sr_L_D_0_1 (pc := 64) (j := x5.toNatClampNeg) C hP hD hS h4 rfl dX8_countWays_64 (fun H locs hP hD hS => ?_)
      refine lv_iinc (v := (x5 + 1)) (lv' := [(5, .int ((x5 + 1))), (0, .ref (a 0)), (1, .ref (b 0)), (2, .int p2), (3, .int x3), (4, .int x4)]) (pc := 65) hx hb dX8_countWays_65 hl (k := 5) rfl (by rfl) (by decide) rfl (fun ls hl => ?_)
      refine lv_goto (tgt := 37) (pc := 68) hx hb dX8_countWays_68 (by decide) ?_
      exact hg37 x3 x4 ((x5 + 1)) ((sti S 0 x5.toNatClampNeg (((S 0 x5.toNatClampNeg) + (S 0 (((x5 - x4)).toNatClampNeg)))))) hf _ _ _ hP hD hS (lv_sub hl [1, 2, 3, 4, 5, 0] rfl)
set_option maxRecDepth 100000 in
set_option maxHeartbeats 4000000 in
theorem wX8_countWays_8 (C : Cx p s m args meth c D cA cX8_countWays 6 RX8 none) (hA : ∀ q : Nat, s.heap.size ≤ q → A q) {N : Nat} {z : St} {T : St} {p2 : Int32} : ∀ (k : Nat) (x3 : Int32) (S : St), fX8_countWays_l8 N T p2 k (x3, S) = some z → ∀ (H : Heap) (locs : List Loc) (ls : Array Slot), va_P D vwCl (w_L_D cA a S b T) H → va_D A (w_L_D cA a S b T) → va_S A s.heap H locs → lv_has ls 6 [(0, .ref (a 0)), (1, .ref (b 0)), (2, .int p2), (3, .int x3)] → W p l e (rmU 1 23 0 0) s m args below meth c H locs 0 0 (MQ below (QV D A (w_L_D cA a z b T)) args s 0 0 A) (F0 m 8 ls []) := by
  obtain ⟨hx, hb, hml, hown, hts, hK, hN, hr, hlk⟩ := id C
  intro k
  induction k with
  | zero =>
    intro x3 S hf
    have hf : (none : Option (St)) = some z := hf
    cases hf
  | succ k hg8 =>
    intro x3 S hf H locs ls hP hD hS hl
    have hf : fX8_countWays_b8 N T p2 (fX8_countWays_l8 N T p2 k) x3 S = some z := hf
    unfold fX8_countWays_b8 at hf
    refine lv_iload_n (pc := 8) hx hb dX8_countWays_8 rfl (lv_at hl 3 rfl) ?_
    refine lv_aload_n (pc := 9) hx hb dX8_countWays_9 rfl (lv_at hl 1 rfl) ?_
    refine ge_RX8_19_L_D_1_0 (pc := 10) C hP dX8_countWays_10 ?_
    refine lv_icmp_ge (tgt := 77) (pc := 13) hx hb dX8_countWays_13 (by decide) (fun c1 => ?_) (fun c1 => ?_)
    · have hf := pt_t c1 hf
      cases hf
      exact ret_v C hP hD hS dX8_countWays_77
    · have hf := pt_f c1 hf
      refine lv_aload_n (pc := 16) hx hb dX8_countWays_16 rfl (lv_at hl 1 rfl) ?_
      refine ge_RX8_25_L_D_1_0 (pc := 17) C hP dX8_countWays_17 ?_
      refine lv_iload_n (pc := 20) hx hb dX8_countWays_20 rfl (lv_at hl 3 rfl) ?_
      obtain ⟨h2, hf⟩ := pt_g hf
      refine ld_L_D_1_3 (pc := 21) (j := x3.toNatClampNeg) C hP h2 rfl dX8_countWays_21 ?_
      refine lv_istore (lv' := [(4, .int ((T 4 x3.toNatClampNeg))), (0, .ref (a 0)), (1, .ref (b 0)), (2, .int p2), (3, .int x3)]) (pc := 22) hx hb dX8_countWays_22 hl (by decide) rfl (fun ls hl => ?_)
      refine lv_iload_n (pc := 24) hx hb dX8_countWays_24 rfl (lv_at hl 3 rfl) ?_
      refine lv_iload (pc := 25) hx hb dX8_countWays_25 (lv_at hl 0 rfl) ?_
      obtain ⟨q3, hq3, hf⟩ := pt_b hf
      have hPc : va_P D vwCl ([] : va_W) H := hP.sub [] rfl
      have hDc : va_D A ([] : va_W) := hD.sub [] (by decide) rfl
      refine prt_i (runU_S (pc := 27) (As := [.int p2, .int ((T 4 x3.toNatClampNeg))]) (rest := []) C lk_RX8_28 (kX3_canSay l D cA hq3 H.size) ⟨Nat.le_of_ble_eq_true rfl, Nat.le_of_ble_eq_true rfl⟩ ⟨Nat.le_refl _, Nat.le_refl _⟩ hPc hDc hl.1 rfl (Nat.le_of_ble_eq_true rfl) dX8_countWays_27) hP hD hS hA [] rfl (fun H locs hP hD hS => ?_)
      refine lv_if_eq (tgt := 71) (pc := 30) hx hb dX8_countWays_30 (by decide) (fun c4 => ?_) (fun c4 => ?_)
      · have hf := pt_t c4 hf
        exact wX8_countWays_71 C hA hg8 hf hP hD hS (lv_sub hl [1, 2, 3, 4] rfl)
      · have hf := pt_f c4 hf
        refine lv_iload (pc := 33) hx hb dX8_countWays_33 (lv_at hl 0 rfl) ?_
        refine lv_istore (lv' := [(5, .int ((T 4 x3.toNatClampNeg))), (4, .int ((T 4 x3.toNatClampNeg))), (0, .ref (a 0)), (1, .ref (b 0)), (2, .int p2), (3, .int x3)]) (pc := 35) hx hb dX8_countWays_35 hl (by decide) rfl (fun ls hl => ?_)
        exact wX8_countWays_37 C hA hg8 _ x3 ((T 4 x3.toNatClampNeg)) ((T 4 x3.toNatClampNeg)) S hf _ _ _ hP hD hS (lv_sub hl [2, 3, 4, 5, 1, 0] rfl)
set_option maxRecDepth 100000 in
set_option maxHeartbeats 4000000 in
theorem wX8_countWays (C : Cx p s m args meth c D cA cX8_countWays 6 RX8 none) (hA : ∀ q : Nat, s.heap.size ≤ q → A q) {N : Nat} {z : St} {S : St} {T : St} {p2 : Int32} (hf : fX8_countWays N S T p2 = some z) {H : Heap} {locs : List Loc} {ls : Array Slot} (hP : va_P D vwCl (w_L_D cA a S b T) H) (hD : va_D A (w_L_D cA a S b T)) (hS : va_S A s.heap H locs) (hl : lv_has ls 6 [(0, .ref (a 0)), (1, .ref (b 0)), (2, .int p2)]) : W p l e (rmU 1 23 0 0) s m args below meth c H locs 0 0 (MQ below (QV D A (w_L_D cA a z b T)) args s 0 0 A) (F0 m 0 ls []) := by
  obtain ⟨hx, hb, hml, hown, hts, hK, hN, hr, hlk⟩ := id C
  unfold fX8_countWays at hf
  refine lv_aload_n (pc := 0) hx hb dX8_countWays_0 rfl (lv_at hl 0 rfl) ?_
  refine lv_iconst (v := (1 : Int32)) (pc := 1) hx hb dX8_countWays_1 (by decide) ?_
  refine lv_iconst (v := (0 : Int32)) (pc := 2) hx hb dX8_countWays_2 (by decide) ?_
  obtain ⟨q1, hq1, hf⟩ := pt_b hf
  have hPc : va_P D vwCl (w_L cA a S) H := hP.sub [0, 1] rfl
  have hDc : va_D A (w_L cA a S) := hD.sub [0, 1] (by decide) rfl
  refine upd_v (W1 := (w_L cA a q1)) (runU_V (pc := 3) (As := [.int ((1 : Int32)), .int ((0 : Int32))]) (b := a 0) (rest := []) (ci := 7) (q0 := 0) C lk_RX8_15 (kX8_startWith l D cA a hq1 H.size) ⟨Nat.le_of_ble_eq_true rfl, Nat.le_of_ble_eq_true rfl⟩ ⟨Nat.le_refl _, Nat.le_refl _⟩ hPc hDc rfl rfl rfl hl.1 rfl (Nat.le_of_ble_eq_true rfl) dX8_countWays_3) hP hD hS hA [0, 1] rfl (by decide) rfl (fun H locs hP hD hS => ?_)
  have hP : va_P D vwCl (w_L_D cA a q1 b T) H := hP
  have hD : va_D A (w_L_D cA a q1 b T) := hD
  refine lv_iconst (v := (0 : Int32)) (pc := 6) hx hb dX8_countWays_6 (by decide) ?_
  refine lv_istore_n (lv' := [(3, .int ((0 : Int32))), (0, .ref (a 0)), (1, .ref (b 0)), (2, .int p2)]) (pc := 7) hx hb dX8_countWays_7 rfl hl (by decide) rfl (fun ls hl => ?_)
  exact wX8_countWays_8 C hA  _ ((0 : Int32)) q1 hf _ _ _ hP hD hS (lv_sub hl [1, 2, 3, 0] rfl)
set_option maxRecDepth 100000 in
set_option maxHeartbeats 4000000 in
theorem kX8_countWays (l : Launch) (D : va_G) (cA : Nat → ClassId) (a : Nat → Nat) (b : Nat → Nat) {N : Nat} {S : St} {T : St} {p2 : Int32} {z : St} (hf : fX8_countWays N S T p2 = some z) : CtV l yX8_countWays cX8_countWays 6 none 1 23 D cA (w_L_D cA a S b T) (w_L_D cA a z b T) [.ref (a 0), .ref (b 0), .int p2] := by
  intro sz
  refine Met.ofW (cc := cX8_countWays) (maxL := 6) (ret := none) (by decide) rfl ?_
  intro p e s m args below meth c s₁ B hml hv
  obtain ⟨rfl, hsz, hP, hK, hD0⟩ := hv
  subst hsz
  have C : Cx p s m _ meth c D cA cX8_countWays 6 RX8 none := Cx.of B hml hK
  have hD := hD0.self (sz := s.heap.size)
  have hA : ∀ q : Nat, s.heap.size ≤ q → va_A (w_L_D cA a S b T) s.heap.size q := fun q h => Or.inr h
  have hS : va_S (va_A (w_L_D cA a S b T) s.heap.size) s.heap s.heap [] := va_S.rf
  have hl := lv_entry ([.ref (a 0), .ref (b 0), .int p2]) (n := 6) (Nat.le_of_ble_eq_true rfl)
  rw [lg_entry_eq]
  generalize (lg_sl ([.ref (a 0), .ref (b 0), .int p2]) ++ List.replicate (6 - (lg_sl ([.ref (a 0), .ref (b 0), .int p2])).length) Slot.unset).toArray = ls at hl ⊢
  exact wX8_countWays C hA hf hP hD hS hl
def fX9_isDigit (N : Nat) (p0 : Int32) : Option (Int32) :=
  if p0 < (48 : Int32) then (some ((0 : Int32))) else (if (57 : Int32) < p0 then (some ((0 : Int32))) else (some ((1 : Int32))))
set_option maxRecDepth 100000 in
set_option maxHeartbeats 4000000 in
theorem wX9_isDigit (C : Cx p s m args meth c D cA cX9_isDigit 1 RX9 (some .boolean)) (hA : ∀ q : Nat, s.heap.size ≤ q → A q) {N : Nat} {z : Int32} {p0 : Int32} (hf : fX9_isDigit N p0 = some z) {H : Heap} {locs : List Loc} {ls : Array Slot} (hP : va_P D vwCl ([] : va_W) H) (hD : va_D A ([] : va_W)) (hS : va_S A s.heap H locs) (hl : lv_has ls 1 [(0, .int p0)]) : W p l e (rmU 0 0 0 0) s m args below meth c H locs 0 0 (MQ below (QI D A z ([] : va_W)) args s 0 0 A) (F0 m 0 ls []) := by
  obtain ⟨hx, hb, hml, hown, hts, hK, hN, hr, hlk⟩ := id C
  unfold fX9_isDigit at hf
  refine lv_iload_n (pc := 0) hx hb dX9_isDigit_0 rfl (lv_at hl 0 rfl) ?_
  refine lv_bipush (v := (48 : Int32)) (pc := 1) hx hb dX9_isDigit_1 (by decide) ?_
  refine lv_icmp_lt (tgt := 16) (pc := 3) hx hb dX9_isDigit_3 (by decide) (fun c1 => ?_) (fun c1 => ?_)
  · have hf := pt_t c1 hf
    refine lv_iconst (v := (0 : Int32)) (pc := 16) hx hb dX9_isDigit_16 (by decide) ?_
    cases hf
    exact ret_z C (Or.inl rfl) hP hD hS dX9_isDigit_17
  · have hf := pt_f c1 hf
    refine lv_iload_n (pc := 6) hx hb dX9_isDigit_6 rfl (lv_at hl 0 rfl) ?_
    refine lv_bipush (v := (57 : Int32)) (pc := 7) hx hb dX9_isDigit_7 (by decide) ?_
    refine lv_icmp_gt (tgt := 16) (pc := 9) hx hb dX9_isDigit_9 (by decide) (fun c2 => ?_) (fun c2 => ?_)
    · have hf := pt_t c2 hf
      refine lv_iconst (v := (0 : Int32)) (pc := 16) hx hb dX9_isDigit_16 (by decide) ?_
      cases hf
      exact ret_z C (Or.inl rfl) hP hD hS dX9_isDigit_17
    · have hf := pt_f c2 hf
      refine lv_iconst (v := (1 : Int32)) (pc := 12) hx hb dX9_isDigit_12 (by decide) ?_
      refine lv_goto (tgt := 17) (pc := 13) hx hb dX9_isDigit_13 (by decide) ?_
      cases hf
      exact ret_z C (Or.inr rfl) hP hD hS dX9_isDigit_17
set_option maxRecDepth 100000 in
set_option maxHeartbeats 4000000 in
theorem kX9_isDigit (l : Launch) (D : va_G) (cA : Nat → ClassId) {N : Nat} {p0 : Int32} {z : Int32} (hf : fX9_isDigit N p0 = some z) : CtI l yX9_isDigit cX9_isDigit 1 (some .boolean) 0 0 D cA ([] : va_W) ([] : va_W) [.int p0] z := by
  intro sz
  refine Met.ofW (cc := cX9_isDigit) (maxL := 1) (ret := (some .boolean)) (by decide) rfl ?_
  intro p e s m args below meth c s₁ B hml hv
  obtain ⟨rfl, hsz, hP, hK, hD0⟩ := hv
  subst hsz
  have C : Cx p s m _ meth c D cA cX9_isDigit 1 RX9 (some .boolean) := Cx.of B hml hK
  have hD := hD0.self (sz := s.heap.size)
  have hA : ∀ q : Nat, s.heap.size ≤ q → va_A ([] : va_W) s.heap.size q := fun q h => Or.inr h
  have hS : va_S (va_A ([] : va_W) s.heap.size) s.heap s.heap [] := va_S.rf
  have hl := lv_entry ([.int p0]) (n := 1) (Nat.le_of_ble_eq_true rfl)
  rw [lg_entry_eq]
  generalize (lg_sl ([.int p0]) ++ List.replicate (1 - (lg_sl ([.int p0])).length) Slot.unset).toArray = ls at hl ⊢
  exact wX9_isDigit C hA hf hP hD hS hl
def w_D_T (cA : Nat → ClassId) (a : Nat → Nat) (S : St) (b : Nat → Nat) (T : St) : va_W := [(a 0, .inr (8, [.ref (a 1), .ref (a 3), .int (S 0 0), .int (S 1 0), .int (S 2 0), .ref (a 4), .int (S 3 0)])), (a 1, .inr (0, [.int (S 5 0), .ref (a 2)])), (a 2, .inl (cA 0, 10, .inl (S 6))), (a 3, .inl (cA 0, 6, .inl (S 4))), (a 4, .inr (5, [.ref (a 5), .int (S 7 0)])), (a 5, .inl (cA 1, 20, .inl (S 8))), (b 0, .inr (6, [.ref (b 1), .int (T 0 0)])), (b 1, .inl (cA 1, 200, .inl (T 1)))]
theorem fl_RX9_39 : Cond.fieldLink RX9 39 "SevenOnStrike$Told" "at" "I" ∈ wsL_law := by decide +kernel
theorem ge_RX9_39_D_T_0_0 (C : Cx p s m args meth c D cA cc nL RX9 ret) (hP : va_P D vwCl (w_D_T cA a S b T) H) (hdg : decode cc pc = .ok (.getfield 39, 3)) (kk : W p l e R s m args below meth c H locs cells slots Q (F0 m (pc + 3) ls (.int (S 3 0) :: rest))) : W p l e R s m args below meth c H locs cells slots Q (F0 m pc ls (.ref (a 0) :: rest)) := by
  obtain ⟨hx, hb, -, hown, hts, hK, -, -, -⟩ := C
  exact va_get (D := D) (ci := 8) (v := .int (S 3 0)) (C := RX9) (T := TX9) (N := 7) hx hb hts inlX9 hown hK hP 0 rfl rfl 6 (by decide) (hts _ fl_RX9_39) (fun _ h9 => h9) rfl hdg kk
theorem lk_RX9_55 : LkV RX9 55 yX7_letterAt cX7_letterAt 2 (some .int) 1 := ⟨⟨by decide +kernel, by decide +kernel, by decide +kernel, by decide +kernel, by decide +kernel, by decide +kernel⟩, by decide +kernel, by decide +kernel⟩
theorem lk_RX9_98 : LkS RX9 98 yX9_isDigit cX9_isDigit 1 (some .boolean) 1 := ⟨⟨by decide +kernel, by decide +kernel, by decide +kernel, by decide +kernel, by decide +kernel, by decide +kernel⟩, by decide +kernel⟩
theorem lm_RX9_108 : Cond.methodLink RX9 108 Lib.Math.max.name ∈ wsL_law ∧ Cond.static Lib.Math.max.name ∈ wsL_law ∧ Cond.initialized "java/lang/Math" ∈ wsL_law ∧ Cond.code Lib.Math.max.name Lib.Math.max.code 2 (some .int) ∈ wsL_law := ⟨by decide +kernel, by decide +kernel, by decide +kernel, by decide +kernel⟩
theorem pu_RX9_39_D_T_0_0 {v : Int32} (C : Cx p s m args meth c D cA cc nL RX9 ret) (hP : va_P D vwCl (w_D_T cA a S b T) H) (hD : va_D A (w_D_T cA a S b T)) (hS : va_S A s.heap H locs) (hdg : decode cc pc = .ok (.putfield 39, 3)) (kk : ∀ (H1 : Heap) (locs1 : List Loc), va_P D vwCl (w_D_T cA a (stf S 3 v) b T) H1 → va_D A (w_D_T cA a (stf S 3 v) b T) → va_S A s.heap H1 locs1 → W p l e R s m args below meth c H1 locs1 cells slots Q (F0 m (pc + 3) ls rest)) : W p l e R s m args below meth c H locs cells slots Q (F0 m pc ls (.int v :: .ref (a 0) :: rest)) := by
  obtain ⟨hx, hb, -, hown, hts, hK, -, -, -⟩ := C
  exact va_put (D := D) (ci := 8) (v := .int v) (ty := .int) (C := RX9) (T := TX9) (N := 7) hx hb hts inlX9 tyX9 tyX9_ok nmX9 hown hK hP hD hS 0 rfl rfl 6 (by decide) (hts _ fl_RX9_39) (fun _ h9 => h9) rfl (by decide +kernel) rfl rfl (Nat.le_of_ble_eq_true rfl) hdg (fun H1 locs1 h1 h2 h3 => kk H1 locs1 h1 h2 h3)
def fX9_readNumber_b4 (N : Nat) (T : St) (g4 : Int32 × Int32 × St → Option (Int32 × St)) (x2 : Int32) (x3 : Int32) (S : St) : Option (Int32 × St) :=
  if (2 : Int32) ≤ x3 then (some (x2, S)) else (Option.bind (fX7_letterAt N T ((S 3 0))) (fun q2 => Option.bind (fX9_isDigit N q2) (fun q3 => if q3 = 0 then (some (x2, S)) else (Option.bind (fX7_letterAt N T ((S 3 0))) (fun q5 => nm (((((if x2 < (0 : Int32) then (0 : Int32) else x2) * (10 : Int32)) + q5) - (48 : Int32))) (fun v6 => g4 ((v6, (x3 + 1), (stf S 3 (((S 3 0) + (1 : Int32))))))))))))
def fX9_readNumber_l4 (N : Nat) (T : St) (k : Nat) (q : Int32 × Int32 × St) : Option (Int32 × St) := lpN (fun g q => fX9_readNumber_b4 N T g q.1 q.2.1 q.2.2) k q
def fX9_readNumber (N : Nat) (S : St) (T : St) : Option (Int32 × St) :=
  fX9_readNumber_l4 N T N (((-1 : Int32), (0 : Int32), S))
set_option maxRecDepth 100000 in
set_option maxHeartbeats 4000000 in
theorem wX9_readNumber_4 (C : Cx p s m args meth c D cA cX9_readNumber 4 RX9 (some .int)) (hA : ∀ q : Nat, s.heap.size ≤ q → A q) {N : Nat} {z : Int32 × St} {T : St} : ∀ (k : Nat) (x2 : Int32) (x3 : Int32) (S : St), fX9_readNumber_l4 N T k (x2, x3, S) = some z → ∀ (H : Heap) (locs : List Loc) (ls : Array Slot), va_P D vwCl (w_D_T cA a S b T) H → va_D A (w_D_T cA a S b T) → va_S A s.heap H locs → lv_has ls 4 [(0, .ref (a 0)), (1, .ref (b 0)), (2, .int x2), (3, .int x3)] → W p l e (rmU 1 21 0 0) s m args below meth c H locs 0 0 (MQ below (QI D A z.1 (w_D_T cA a z.2 b T)) args s 0 0 A) (F0 m 4 ls []) := by
  obtain ⟨hx, hb, hml, hown, hts, hK, hN, hr, hlk⟩ := id C
  intro k
  induction k with
  | zero =>
    intro x2 x3 S hf
    have hf : (none : Option (Int32 × St)) = some z := hf
    cases hf
  | succ k hg4 =>
    intro x2 x3 S hf H locs ls hP hD hS hl
    have hf : fX9_readNumber_b4 N T (fX9_readNumber_l4 N T k) x2 x3 S = some z := hf
    unfold fX9_readNumber_b4 at hf
    refine lv_iload_n (pc := 4) hx hb dX9_readNumber_4 rfl (lv_at hl 3 rfl) ?_
    refine lv_iconst (v := (2 : Int32)) (pc := 5) hx hb dX9_readNumber_5 (by decide) ?_
    refine lv_icmp_ge (tgt := 60) (pc := 6) hx hb dX9_readNumber_6 (by decide) (fun c1 => ?_) (fun c1 => ?_)
    · have hf := pt_t c1 hf
      refine lv_iload_n (pc := 60) hx hb dX9_readNumber_60 rfl (lv_at hl 2 rfl) ?_
      cases hf
      exact ret_i C hP hD hS dX9_readNumber_61
    · have hf := pt_f c1 hf
      refine lv_aload_n (pc := 9) hx hb dX9_readNumber_9 rfl (lv_at hl 1 rfl) ?_
      refine lv_aload_n (pc := 10) hx hb dX9_readNumber_10 rfl (lv_at hl 0 rfl) ?_
      refine ge_RX9_39_D_T_0_0 (pc := 11) C hP dX9_readNumber_11 ?_
      obtain ⟨q2, hq2, hf⟩ := pt_b hf
      have hPc : va_P D vwCl (w_T cA b T) H := hP.sub [6, 7] rfl
      have hDc : va_D A (w_T cA b T) := hD.sub [6, 7] (by decide) rfl
      refine prt_i (runU_V (pc := 14) (As := [.int ((S 3 0))]) (b := b 0) (rest := []) (ci := 6) (q0 := 0) C lk_RX9_55 (kX7_letterAt l D cA b hq2 H.size) ⟨Nat.le_of_ble_eq_true rfl, Nat.le_of_ble_eq_true rfl⟩ ⟨Nat.le_refl _, Nat.le_refl _⟩ hPc hDc rfl rfl rfl hl.1 rfl (Nat.le_of_ble_eq_true rfl) dX9_readNumber_14) hP hD hS hA [6, 7] rfl (fun H locs hP hD hS => ?_)
      obtain ⟨q3, hq3, hf⟩ := pt_b hf
      have hPc : va_P D vwCl ([] : va_W) H := hP.sub [] rfl
      have hDc : va_D A ([] : va_W) := hD.sub [] (by decide) rfl
      refine prt_i (runU_S (pc := 17) (As := [.int q2]) (rest := []) C lk_RX9_98 (kX9_isDigit l D cA hq3 H.size) ⟨Nat.le_of_ble_eq_true rfl, Nat.le_of_ble_eq_true rfl⟩ ⟨Nat.le_refl _, Nat.le_refl _⟩ hPc hDc hl.1 rfl (Nat.le_of_ble_eq_true rfl) dX9_readNumber_17) hP hD hS hA [] rfl (fun H locs hP hD hS => ?_)
      refine lv_if_eq (tgt := 60) (pc := 20) hx hb dX9_readNumber_20 (by decide) (fun c4 => ?_) (fun c4 => ?_)
      · have hf := pt_t c4 hf
        refine lv_iload_n (pc := 60) hx hb dX9_readNumber_60 rfl (lv_at hl 2 rfl) ?_
        cases hf
        exact ret_i C hP hD hS dX9_readNumber_61
      · have hf := pt_f c4 hf
        refine lv_iload_n (pc := 23) hx hb dX9_readNumber_23 rfl (lv_at hl 2 rfl) ?_
        refine lv_iconst (v := (0 : Int32)) (pc := 24) hx hb dX9_readNumber_24 (by decide) ?_
        refine va_mmax (pc := 25) hx hb (hml.trans hl.1.symm) hown (hts _ lm_RX9_108.1) (hts _ lm_RX9_108.2.1) (hts _ lm_RX9_108.2.2.1) (hts _ lm_RX9_108.2.2.2) (Nat.le_of_ble_eq_true rfl) (Nat.le_of_ble_eq_true rfl) (Nat.zero_le _) (Nat.zero_le _) dX9_readNumber_25 ?_
        refine lv_bipush (v := (10 : Int32)) (pc := 28) hx hb dX9_readNumber_28 (by decide) ?_
        refine lv_imul (pc := 30) hx hb dX9_readNumber_30 ?_
        refine lv_aload_n (pc := 31) hx hb dX9_readNumber_31 rfl (lv_at hl 1 rfl) ?_
        refine lv_aload_n (pc := 32) hx hb dX9_readNumber_32 rfl (lv_at hl 0 rfl) ?_
        refine ge_RX9_39_D_T_0_0 (pc := 33) C hP dX9_readNumber_33 ?_
        obtain ⟨q5, hq5, hf⟩ := pt_b hf
        have hPc : va_P D vwCl (w_T cA b T) H := hP.sub [6, 7] rfl
        have hDc : va_D A (w_T cA b T) := hD.sub [6, 7] (by decide) rfl
        refine prt_i (runU_V (pc := 36) (As := [.int ((S 3 0))]) (b := b 0) (rest := [.int (((if x2 < (0 : Int32) then (0 : Int32) else x2) * (10 : Int32)))]) (ci := 6) (q0 := 0) C lk_RX9_55 (kX7_letterAt l D cA b hq5 H.size) ⟨Nat.le_of_ble_eq_true rfl, Nat.le_of_ble_eq_true rfl⟩ ⟨Nat.le_refl _, Nat.le_refl _⟩ hPc hDc rfl rfl rfl hl.1 rfl (Nat.le_of_ble_eq_true rfl) dX9_readNumber_36) hP hD hS hA [6, 7] rfl (fun H locs hP hD hS => ?_)
        refine lv_iadd (pc := 39) hx hb dX9_readNumber_39 ?_
        refine lv_bipush (v := (48 : Int32)) (pc := 40) hx hb dX9_readNumber_40 (by decide) ?_
        refine lv_isub (pc := 42) hx hb dX9_readNumber_42 ?_
        refine lv_topi (fun v6 ev6 => ?_)
        have hf := pt_n ev6 hf
        refine lv_istore_n (lv' := [(2, .int v6), (0, .ref (a 0)), (1, .ref (b 0)), (3, .int x3)]) (pc := 43) hx hb dX9_readNumber_43 rfl hl (by decide) rfl (fun ls hl => ?_)
        refine lv_aload_n (pc := 44) hx hb dX9_readNumber_44 rfl (lv_at hl 1 rfl) ?_
        refine lv_dup (pc := 45) hx hb dX9_readNumber_45 rfl ?_
        refine ge_RX9_39_D_T_0_0 (pc := 46) C hP dX9_readNumber_46 ?_
        refine lv_iconst (v := (1 : Int32)) (pc := 49) hx hb dX9_readNumber_49 (by decide) ?_
        refine lv_iadd (pc := 50) hx hb dX9_readNumber_50 ?_
        refine pu_RX9_39_D_T_0_0 (pc := 51) C hP hD hS dX9_readNumber_51 (fun H locs hP hD hS => ?_)
        refine lv_iinc (v := (x3 + 1)) (lv' := [(3, .int ((x3 + 1))), (2, .int v6), (0, .ref (a 0)), (1, .ref (b 0))]) (pc := 54) hx hb dX9_readNumber_54 hl (k := 3) rfl (by rfl) (by decide) rfl (fun ls hl => ?_)
        refine lv_goto (tgt := 4) (pc := 57) hx hb dX9_readNumber_57 (by decide) ?_
        exact hg4 v6 ((x3 + 1)) ((stf S 3 (((S 3 0) + (1 : Int32))))) hf _ _ _ hP hD hS (lv_sub hl [2, 3, 1, 0] rfl)
set_option maxRecDepth 100000 in
set_option maxHeartbeats 4000000 in
theorem wX9_readNumber (C : Cx p s m args meth c D cA cX9_readNumber 4 RX9 (some .int)) (hA : ∀ q : Nat, s.heap.size ≤ q → A q) {N : Nat} {z : Int32 × St} {S : St} {T : St} (hf : fX9_readNumber N S T = some z) {H : Heap} {locs : List Loc} {ls : Array Slot} (hP : va_P D vwCl (w_D_T cA a S b T) H) (hD : va_D A (w_D_T cA a S b T)) (hS : va_S A s.heap H locs) (hl : lv_has ls 4 [(0, .ref (a 0)), (1, .ref (b 0))]) : W p l e (rmU 1 21 0 0) s m args below meth c H locs 0 0 (MQ below (QI D A z.1 (w_D_T cA a z.2 b T)) args s 0 0 A) (F0 m 0 ls []) := by
  obtain ⟨hx, hb, hml, hown, hts, hK, hN, hr, hlk⟩ := id C
  unfold fX9_readNumber at hf
  refine lv_iconst (v := (-1 : Int32)) (pc := 0) hx hb dX9_readNumber_0 (by decide) ?_
  refine lv_istore_n (lv' := [(2, .int ((-1 : Int32))), (0, .ref (a 0)), (1, .ref (b 0))]) (pc := 1) hx hb dX9_readNumber_1 rfl hl (by decide) rfl (fun ls hl => ?_)
  refine lv_iconst (v := (0 : Int32)) (pc := 2) hx hb dX9_readNumber_2 (by decide) ?_
  refine lv_istore_n (lv' := [(3, .int ((0 : Int32))), (2, .int ((-1 : Int32))), (0, .ref (a 0)), (1, .ref (b 0))]) (pc := 3) hx hb dX9_readNumber_3 rfl hl (by decide) rfl (fun ls hl => ?_)
  exact wX9_readNumber_4 C hA  _ ((-1 : Int32)) ((0 : Int32)) S hf _ _ _ hP hD hS (lv_sub hl [2, 3, 1, 0] rfl)
set_option maxRecDepth 100000 in
set_option maxHeartbeats 4000000 in
theorem kX9_readNumber (l : Launch) (D : va_G) (cA : Nat → ClassId) (a : Nat → Nat) (b : Nat → Nat) {N : Nat} {S : St} {T : St} {z : Int32 × St} (hf : fX9_readNumber N S T = some z) : CtI l yX9_readNumber cX9_readNumber 4 (some .int) 1 21 D cA (w_D_T cA a S b T) (w_D_T cA a z.2 b T) [.ref (a 0), .ref (b 0)] z.1 := by
  intro sz
  refine Met.ofW (cc := cX9_readNumber) (maxL := 4) (ret := (some .int)) (by decide) rfl ?_
  intro p e s m args below meth c s₁ B hml hv
  obtain ⟨rfl, hsz, hP, hK, hD0⟩ := hv
  subst hsz
  have C : Cx p s m _ meth c D cA cX9_readNumber 4 RX9 (some .int) := Cx.of B hml hK
  have hD := hD0.self (sz := s.heap.size)
  have hA : ∀ q : Nat, s.heap.size ≤ q → va_A (w_D_T cA a S b T) s.heap.size q := fun q h => Or.inr h
  have hS : va_S (va_A (w_D_T cA a S b T) s.heap.size) s.heap s.heap [] := va_S.rf
  have hl := lv_entry ([.ref (a 0), .ref (b 0)]) (n := 4) (Nat.le_of_ble_eq_true rfl)
  rw [lg_entry_eq]
  generalize (lg_sl ([.ref (a 0), .ref (b 0)]) ++ List.replicate (4 - (lg_sl ([.ref (a 0), .ref (b 0)])).length) Slot.unset).toArray = ls at hl ⊢
  exact wX9_readNumber C hA hf hP hD hS hl
def w_D (cA : Nat → ClassId) (a : Nat → Nat) (S : St) : va_W := [(a 0, .inr (8, [.ref (a 1), .ref (a 3), .int (S 0 0), .int (S 1 0), .int (S 2 0), .ref (a 4), .int (S 3 0)])), (a 1, .inr (0, [.int (S 5 0), .ref (a 2)])), (a 2, .inl (cA 0, 10, .inl (S 6))), (a 3, .inl (cA 0, 6, .inl (S 4))), (a 4, .inr (5, [.ref (a 5), .int (S 7 0)])), (a 5, .inl (cA 1, 20, .inl (S 8)))]
theorem fl_RX9_22 : Cond.fieldLink RX9 22 "SevenOnStrike$Told" "coinCount" "I" ∈ wsL_law := by decide +kernel
theorem ge_RX9_22_D_0_0 (C : Cx p s m args meth c D cA cc nL RX9 ret) (hP : va_P D vwCl (w_D cA a S) H) (hdg : decode cc pc = .ok (.getfield 22, 3)) (kk : W p l e R s m args below meth c H locs cells slots Q (F0 m (pc + 3) ls (.int (S 0 0) :: rest))) : W p l e R s m args below meth c H locs cells slots Q (F0 m pc ls (.ref (a 0) :: rest)) := by
  obtain ⟨hx, hb, -, hown, hts, hK, -, -, -⟩ := C
  exact va_get (D := D) (ci := 8) (v := .int (S 0 0)) (C := RX9) (T := TX9) (N := 7) hx hb hts inlX9 hown hK hP 0 rfl rfl 2 (by decide) (hts _ fl_RX9_22) (fun _ h9 => h9) rfl hdg kk
theorem fl_RX9_18 : Cond.fieldLink RX9 18 "SevenOnStrike$Told" "coins" "[I" ∈ wsL_law := by decide +kernel
theorem ge_RX9_18_D_0_0 (C : Cx p s m args meth c D cA cc nL RX9 ret) (hP : va_P D vwCl (w_D cA a S) H) (hdg : decode cc pc = .ok (.getfield 18, 3)) (kk : W p l e R s m args below meth c H locs cells slots Q (F0 m (pc + 3) ls (.ref (a 3) :: rest))) : W p l e R s m args below meth c H locs cells slots Q (F0 m pc ls (.ref (a 0) :: rest)) := by
  obtain ⟨hx, hb, -, hown, hts, hK, -, -, -⟩ := C
  exact va_get (D := D) (ci := 8) (v := .ref (a 3)) (C := RX9) (T := TX9) (N := 7) hx hb hts inlX9 hown hK hP 0 rfl rfl 1 (by decide) (hts _ fl_RX9_18) (fun _ h9 => h9) rfl hdg kk
theorem ld_D_0_3 {i : Int32} {j : Nat} (C : Cx p s m args meth c D cA cc nL own ret) (hP : va_P D vwCl (w_D cA a S) H) (hin : vp_in i 6) (hj : i.toNatClampNeg = j) (hdg : decode cc pc = .ok (.iaload, 1)) (kk : W p l e R s m args below meth c H locs cells slots Q (F0 m (pc + 1) ls (.int (S 4 j) :: rest))) : W p l e R s m args below meth c H locs cells slots Q (F0 m pc ls (.int i :: .ref (a 3) :: rest)) := by
  obtain ⟨hx, hb, -, hown, hts, hK, -, -, -⟩ := C
  subst hj
  exact va_iald hx hb hK hP 3 0 rfl rfl hin hdg kk
def fX9_hasCoin_b2 (N : Nat) (S : St) (p1 : Int32) (g2 : Int32 → Option (Int32)) (x2 : Int32) : Option (Int32) :=
  if (S 0 0) ≤ x2 then (some ((0 : Int32))) else (if ¬ (x2 < 0 ∨ 6 ≤ x2.toNatClampNeg) then (if (S 4 x2.toNatClampNeg) = p1 then (some ((1 : Int32))) else (g2 ((x2 + 1)))) else none)
def fX9_hasCoin_l2 (N : Nat) (S : St) (p1 : Int32) (k : Nat) (q : Int32) : Option (Int32) := lpN (fun g q => fX9_hasCoin_b2 N S p1 g q) k q
def fX9_hasCoin (N : Nat) (S : St) (p1 : Int32) : Option (Int32) :=
  fX9_hasCoin_l2 N S p1 N ((0 : Int32))
set_option maxRecDepth 100000 in
set_option maxHeartbeats 4000000 in
theorem wX9_hasCoin_2 (C : Cx p s m args meth c D cA cX9_hasCoin 3 RX9 (some .boolean)) (hA : ∀ q : Nat, s.heap.size ≤ q → A q) {N : Nat} {z : Int32} {S : St} {p1 : Int32} : ∀ (k : Nat) (x2 : Int32), fX9_hasCoin_l2 N S p1 k x2 = some z → ∀ (H : Heap) (locs : List Loc) (ls : Array Slot), va_P D vwCl (w_D cA a S) H → va_D A (w_D cA a S) → va_S A s.heap H locs → lv_has ls 3 [(0, .ref (a 0)), (1, .int p1), (2, .int x2)] → W p l e (rmU 0 0 0 0) s m args below meth c H locs 0 0 (MQ below (QI D A z (w_D cA a S)) args s 0 0 A) (F0 m 2 ls []) := by
  obtain ⟨hx, hb, hml, hown, hts, hK, hN, hr, hlk⟩ := id C
  intro k
  induction k with
  | zero =>
    intro x2 hf
    have hf : (none : Option (Int32)) = some z := hf
    cases hf
  | succ k hg2 =>
    intro x2 hf H locs ls hP hD hS hl
    have hf : fX9_hasCoin_b2 N S p1 (fX9_hasCoin_l2 N S p1 k) x2 = some z := hf
    unfold fX9_hasCoin_b2 at hf
    refine lv_iload_n (pc := 2) hx hb dX9_hasCoin_2 rfl (lv_at hl 2 rfl) ?_
    refine lv_aload_n (pc := 3) hx hb dX9_hasCoin_3 rfl (lv_at hl 0 rfl) ?_
    refine ge_RX9_22_D_0_0 (pc := 4) C hP dX9_hasCoin_4 ?_
    refine lv_icmp_ge (tgt := 28) (pc := 7) hx hb dX9_hasCoin_7 (by decide) (fun c1 => ?_) (fun c1 => ?_)
    · have hf := pt_t c1 hf
      refine lv_iconst (v := (0 : Int32)) (pc := 28) hx hb dX9_hasCoin_28 (by decide) ?_
      cases hf
      exact ret_z C (Or.inl rfl) hP hD hS dX9_hasCoin_29
    · have hf := pt_f c1 hf
      refine lv_aload_n (pc := 10) hx hb dX9_hasCoin_10 rfl (lv_at hl 0 rfl) ?_
      refine ge_RX9_18_D_0_0 (pc := 11) C hP dX9_hasCoin_11 ?_
      refine lv_iload_n (pc := 14) hx hb dX9_hasCoin_14 rfl (lv_at hl 2 rfl) ?_
      obtain ⟨h2, hf⟩ := pt_g hf
      refine ld_D_0_3 (pc := 15) (j := x2.toNatClampNeg) C hP h2 rfl dX9_hasCoin_15 ?_
      refine lv_iload_n (pc := 16) hx hb dX9_hasCoin_16 rfl (lv_at hl 1 rfl) ?_
      refine lv_icmp_ne (tgt := 22) (pc := 17) hx hb dX9_hasCoin_17 (by decide) (fun c3 => ?_) (fun c3 => ?_)
      · have hf := pt_f c3 hf
        refine lv_iinc (v := (x2 + 1)) (lv' := [(2, .int ((x2 + 1))), (0, .ref (a 0)), (1, .int p1)]) (pc := 22) hx hb dX9_hasCoin_22 hl (k := 2) rfl (by rfl) (by decide) rfl (fun ls hl => ?_)
        refine lv_goto (tgt := 2) (pc := 25) hx hb dX9_hasCoin_25 (by decide) ?_
        exact hg2 ((x2 + 1)) hf _ _ _ hP hD hS (lv_sub hl [1, 2, 0] rfl)
      · have hf := pt_t c3 hf
        refine lv_iconst (v := (1 : Int32)) (pc := 20) hx hb dX9_hasCoin_20 (by decide) ?_
        cases hf
        exact ret_z C (Or.inr rfl) hP hD hS dX9_hasCoin_21
set_option maxRecDepth 100000 in
set_option maxHeartbeats 4000000 in
theorem wX9_hasCoin (C : Cx p s m args meth c D cA cX9_hasCoin 3 RX9 (some .boolean)) (hA : ∀ q : Nat, s.heap.size ≤ q → A q) {N : Nat} {z : Int32} {S : St} {p1 : Int32} (hf : fX9_hasCoin N S p1 = some z) {H : Heap} {locs : List Loc} {ls : Array Slot} (hP : va_P D vwCl (w_D cA a S) H) (hD : va_D A (w_D cA a S)) (hS : va_S A s.heap H locs) (hl : lv_has ls 3 [(0, .ref (a 0)), (1, .int p1)]) : W p l e (rmU 0 0 0 0) s m args below meth c H locs 0 0 (MQ below (QI D A z (w_D cA a S)) args s 0 0 A) (F0 m 0 ls []) := by
  obtain ⟨hx, hb, hml, hown, hts, hK, hN, hr, hlk⟩ := id C
  unfold fX9_hasCoin at hf
  refine lv_iconst (v := (0 : Int32)) (pc := 0) hx hb dX9_hasCoin_0 (by decide) ?_
  refine lv_istore_n (lv' := [(2, .int ((0 : Int32))), (0, .ref (a 0)), (1, .int p1)]) (pc := 1) hx hb dX9_hasCoin_1 rfl hl (by decide) rfl (fun ls hl => ?_)
  exact wX9_hasCoin_2 C hA  _ ((0 : Int32)) hf _ _ _ hP hD hS (lv_sub hl [1, 2, 0] rfl)
set_option maxRecDepth 100000 in
set_option maxHeartbeats 4000000 in
theorem kX9_hasCoin (l : Launch) (D : va_G) (cA : Nat → ClassId) (a : Nat → Nat) {N : Nat} {S : St} {p1 : Int32} {z : Int32} (hf : fX9_hasCoin N S p1 = some z) : CtI l yX9_hasCoin cX9_hasCoin 3 (some .boolean) 0 0 D cA (w_D cA a S) (w_D cA a S) [.ref (a 0), .int p1] z := by
  intro sz
  refine Met.ofW (cc := cX9_hasCoin) (maxL := 3) (ret := (some .boolean)) (by decide) rfl ?_
  intro p e s m args below meth c s₁ B hml hv
  obtain ⟨rfl, hsz, hP, hK, hD0⟩ := hv
  subst hsz
  have C : Cx p s m _ meth c D cA cX9_hasCoin 3 RX9 (some .boolean) := Cx.of B hml hK
  have hD := hD0.self (sz := s.heap.size)
  have hA : ∀ q : Nat, s.heap.size ≤ q → va_A (w_D cA a S) s.heap.size q := fun q h => Or.inr h
  have hS : va_S (va_A (w_D cA a S) s.heap.size) s.heap s.heap [] := va_S.rf
  have hl := lv_entry ([.ref (a 0), .int p1]) (n := 3) (Nat.le_of_ble_eq_true rfl)
  rw [lg_entry_eq]
  generalize (lg_sl ([.ref (a 0), .int p1]) ++ List.replicate (3 - (lg_sl ([.ref (a 0), .int p1])).length) Slot.unset).toArray = ls at hl ⊢
  exact wX9_hasCoin C hA hf hP hD hS hl
theorem lk_RX9_77 : LkV RX9 77 yX9_readNumber cX9_readNumber 4 (some .int) 1 := ⟨⟨by decide +kernel, by decide +kernel, by decide +kernel, by decide +kernel, by decide +kernel, by decide +kernel⟩, by decide +kernel, by decide +kernel⟩
theorem lk_RX9_81 : LkN RX9 81 yX10_isFigure cX10_isFigure 1 (some .boolean) 1 ∧ Cond.static yX10_isFigure ∈ wsL_law := ⟨⟨by decide +kernel, by decide +kernel, by decide +kernel, by decide +kernel, by decide +kernel, by decide +kernel⟩, by decide +kernel⟩
theorem fl_RX9_12 : Cond.fieldLink RX9 12 "SevenOnStrike$Told" "figures" "LSevenOnStrike$Figures;" ∈ wsL_law := by decide +kernel
theorem ge_RX9_12_D_T_0_0 (C : Cx p s m args meth c D cA cc nL RX9 ret) (hP : va_P D vwCl (w_D_T cA a S b T) H) (hdg : decode cc pc = .ok (.getfield 12, 3)) (kk : W p l e R s m args below meth c H locs cells slots Q (F0 m (pc + 3) ls (.ref (a 1) :: rest))) : W p l e R s m args below meth c H locs cells slots Q (F0 m pc ls (.ref (a 0) :: rest)) := by
  obtain ⟨hx, hb, -, hown, hts, hK, -, -, -⟩ := C
  exact va_get (D := D) (ci := 8) (v := .ref (a 1)) (C := RX9) (T := TX9) (N := 7) hx hb hts inlX9 hown hK hP 0 rfl rfl 0 (by decide) (hts _ fl_RX9_12) (fun _ h9 => h9) rfl hdg kk
theorem fl_RX9_85 : Cond.fieldLink RX9 85 "SevenOnStrike$Figures" "mask" "I" ∈ wsL_law := by decide +kernel
theorem ge_RX9_85_D_T_0_1 (C : Cx p s m args meth c D cA cc nL RX9 ret) (hP : va_P D vwCl (w_D_T cA a S b T) H) (hdg : decode cc pc = .ok (.getfield 85, 3)) (kk : W p l e R s m args below meth c H locs cells slots Q (F0 m (pc + 3) ls (.int (S 5 0) :: rest))) : W p l e R s m args below meth c H locs cells slots Q (F0 m pc ls (.ref (a 1) :: rest)) := by
  obtain ⟨hx, hb, -, hown, hts, hK, -, -, -⟩ := C
  exact va_get (D := D) (ci := 0) (v := .int (S 5 0)) (C := RX0) (T := TX0) (N := 2) hx hb hts inlX0 hown hK hP 1 rfl rfl 0 (by decide) (hts _ fl_RX9_85) (fun _ h9 => h9) rfl hdg kk
theorem pu_RX9_85_D_T_0_1 {v : Int32} (C : Cx p s m args meth c D cA cc nL RX9 ret) (hP : va_P D vwCl (w_D_T cA a S b T) H) (hD : va_D A (w_D_T cA a S b T)) (hS : va_S A s.heap H locs) (hdg : decode cc pc = .ok (.putfield 85, 3)) (kk : ∀ (H1 : Heap) (locs1 : List Loc), va_P D vwCl (w_D_T cA a (stf S 5 v) b T) H1 → va_D A (w_D_T cA a (stf S 5 v) b T) → va_S A s.heap H1 locs1 → W p l e R s m args below meth c H1 locs1 cells slots Q (F0 m (pc + 3) ls rest)) : W p l e R s m args below meth c H locs cells slots Q (F0 m pc ls (.int v :: .ref (a 1) :: rest)) := by
  obtain ⟨hx, hb, -, hown, hts, hK, -, -, -⟩ := C
  exact va_put (D := D) (ci := 0) (v := .int v) (ty := .int) (C := RX0) (T := TX0) (N := 2) hx hb hts inlX0 tyX0 tyX0_ok nmX0 hown hK hP hD hS 1 rfl rfl 0 (by decide) (hts _ fl_RX9_85) (fun _ h9 => h9) rfl (by decide +kernel) rfl rfl (Nat.le_of_ble_eq_true rfl) hdg (fun H1 locs1 h1 h2 h3 => kk H1 locs1 h1 h2 h3)
def fX9_readStrike (N : Nat) (S : St) (T : St) : Option (Int32 × St) :=
  Option.bind (fX9_readNumber N S T) (fun q1 => Option.bind (fX10_isFigure N q1.1) (fun q2 => if q2 = 0 then (some ((0 : Int32), q1.2)) else (some ((1 : Int32), (stf q1.2 5 (((q1.2 5 0) ||| ((1 : Int32) <<< (q1.1 &&& 31)))))))))
set_option maxRecDepth 100000 in
set_option maxHeartbeats 4000000 in
theorem wX9_readStrike (C : Cx p s m args meth c D cA cX9_readStrike 3 RX9 (some .boolean)) (hA : ∀ q : Nat, s.heap.size ≤ q → A q) {N : Nat} {z : Int32 × St} {S : St} {T : St} (hf : fX9_readStrike N S T = some z) {H : Heap} {locs : List Loc} {ls : Array Slot} (hP : va_P D vwCl (w_D_T cA a S b T) H) (hD : va_D A (w_D_T cA a S b T)) (hS : va_S A s.heap H locs) (hl : lv_has ls 3 [(0, .ref (a 0)), (1, .ref (b 0))]) : W p l e (rmU 2 44 0 0) s m args below meth c H locs 0 0 (MQ below (QI D A z.1 (w_D_T cA a z.2 b T)) args s 0 0 A) (F0 m 0 ls []) := by
  obtain ⟨hx, hb, hml, hown, hts, hK, hN, hr, hlk⟩ := id C
  unfold fX9_readStrike at hf
  refine lv_aload_n (pc := 0) hx hb dX9_readStrike_0 rfl (lv_at hl 0 rfl) ?_
  refine lv_aload_n (pc := 1) hx hb dX9_readStrike_1 rfl (lv_at hl 1 rfl) ?_
  obtain ⟨q1, hq1, hf⟩ := pt_b hf
  refine all_i (runU_V (pc := 2) (As := [.ref (b 0)]) (b := a 0) (rest := []) (ci := 8) (q0 := 0) C lk_RX9_77 (kX9_readNumber l D cA a b hq1 H.size) ⟨Nat.le_of_ble_eq_true rfl, Nat.le_of_ble_eq_true rfl⟩ ⟨Nat.le_refl _, Nat.le_refl _⟩ hP hD rfl rfl rfl hl.1 rfl (Nat.le_of_ble_eq_true rfl) dX9_readStrike_2) hD hS hA (fun H locs hP hD hS => ?_)
  refine lv_istore_n (lv' := [(2, .int q1.1), (0, .ref (a 0)), (1, .ref (b 0))]) (pc := 5) hx hb dX9_readStrike_5 rfl hl (by decide) rfl (fun ls hl => ?_)
  refine lv_iload_n (pc := 6) hx hb dX9_readStrike_6 rfl (lv_at hl 0 rfl) ?_
  obtain ⟨q2, hq2, hf⟩ := pt_b hf
  have hPc : va_P D vwCl ([] : va_W) H := hP.sub [] rfl
  have hDc : va_D A ([] : va_W) := hD.sub [] (by decide) rfl
  refine prt_i (runU_SN (pc := 7) (As := [.int q1.1]) (rest := []) C lk_RX9_81 (kX10_isFigure l D cA hq2 H.size) ⟨Nat.le_of_ble_eq_true rfl, Nat.le_of_ble_eq_true rfl⟩ ⟨Nat.le_refl _, Nat.le_refl _⟩ hPc hDc hl.1 rfl (Nat.le_of_ble_eq_true rfl) dX9_readStrike_7) hP hD hS hA [] rfl (fun H locs hP hD hS => ?_)
  refine lv_if_ne (tgt := 15) (pc := 10) hx hb dX9_readStrike_10 (by decide) (fun c3 => ?_) (fun c3 => ?_)
  · have hf := pt_f c3 hf
    refine lv_aload_n (pc := 15) hx hb dX9_readStrike_15 rfl (lv_at hl 1 rfl) ?_
    refine ge_RX9_12_D_T_0_0 (pc := 16) C hP dX9_readStrike_16 ?_
    refine lv_dup (pc := 19) hx hb dX9_readStrike_19 rfl ?_
    refine ge_RX9_85_D_T_0_1 (pc := 20) C hP dX9_readStrike_20 ?_
    refine lv_iconst (v := (1 : Int32)) (pc := 23) hx hb dX9_readStrike_23 (by decide) ?_
    refine lv_iload_n (pc := 24) hx hb dX9_readStrike_24 rfl (lv_at hl 0 rfl) ?_
    refine lv_ishl (pc := 25) hx hb dX9_readStrike_25 ?_
    refine lv_ior (pc := 26) hx hb dX9_readStrike_26 ?_
    refine pu_RX9_85_D_T_0_1 (pc := 27) C hP hD hS dX9_readStrike_27 (fun H locs hP hD hS => ?_)
    refine lv_iconst (v := (1 : Int32)) (pc := 30) hx hb dX9_readStrike_30 (by decide) ?_
    cases hf
    exact ret_z C (Or.inr rfl) hP hD hS dX9_readStrike_31
  · have hf := pt_t c3 hf
    refine lv_iconst (v := (0 : Int32)) (pc := 13) hx hb dX9_readStrike_13 (by decide) ?_
    cases hf
    exact ret_z C (Or.inl rfl) hP hD hS dX9_readStrike_14
set_option maxRecDepth 100000 in
set_option maxHeartbeats 4000000 in
theorem kX9_readStrike (l : Launch) (D : va_G) (cA : Nat → ClassId) (a : Nat → Nat) (b : Nat → Nat) {N : Nat} {S : St} {T : St} {z : Int32 × St} (hf : fX9_readStrike N S T = some z) : CtI l yX9_readStrike cX9_readStrike 3 (some .boolean) 2 44 D cA (w_D_T cA a S b T) (w_D_T cA a z.2 b T) [.ref (a 0), .ref (b 0)] z.1 := by
  intro sz
  refine Met.ofW (cc := cX9_readStrike) (maxL := 3) (ret := (some .boolean)) (by decide) rfl ?_
  intro p e s m args below meth c s₁ B hml hv
  obtain ⟨rfl, hsz, hP, hK, hD0⟩ := hv
  subst hsz
  have C : Cx p s m _ meth c D cA cX9_readStrike 3 RX9 (some .boolean) := Cx.of B hml hK
  have hD := hD0.self (sz := s.heap.size)
  have hA : ∀ q : Nat, s.heap.size ≤ q → va_A (w_D_T cA a S b T) s.heap.size q := fun q h => Or.inr h
  have hS : va_S (va_A (w_D_T cA a S b T) s.heap.size) s.heap s.heap [] := va_S.rf
  have hl := lv_entry ([.ref (a 0), .ref (b 0)]) (n := 3) (Nat.le_of_ble_eq_true rfl)
  rw [lg_entry_eq]
  generalize (lg_sl ([.ref (a 0), .ref (b 0)]) ++ List.replicate (3 - (lg_sl ([.ref (a 0), .ref (b 0)])).length) Slot.unset).toArray = ls at hl ⊢
  exact wX9_readStrike C hA hf hP hD hS hl
theorem fl_RX9_88 : Cond.fieldLink RX9 88 "SevenOnStrike$Figures" "standIns" "[I" ∈ wsL_law := by decide +kernel
theorem ge_RX9_88_D_T_0_1 (C : Cx p s m args meth c D cA cc nL RX9 ret) (hP : va_P D vwCl (w_D_T cA a S b T) H) (hdg : decode cc pc = .ok (.getfield 88, 3)) (kk : W p l e R s m args below meth c H locs cells slots Q (F0 m (pc + 3) ls (.ref (a 2) :: rest))) : W p l e R s m args below meth c H locs cells slots Q (F0 m pc ls (.ref (a 1) :: rest)) := by
  obtain ⟨hx, hb, -, hown, hts, hK, -, -, -⟩ := C
  exact va_get (D := D) (ci := 0) (v := .ref (a 2)) (C := RX0) (T := TX0) (N := 2) hx hb hts inlX0 hown hK hP 1 rfl rfl 1 (by decide) (hts _ fl_RX9_88) (fun _ h9 => h9) rfl hdg kk
theorem sr_D_T_0_2 {i v : Int32} {j : Nat} (C : Cx p s m args meth c D cA cc nL own ret) (hP : va_P D vwCl (w_D_T cA a S b T) H) (hD : va_D A (w_D_T cA a S b T)) (hS : va_S A s.heap H locs) (hin : vp_in i 10) (hj : i.toNatClampNeg = j) (hdg : decode cc pc = .ok (.iastore, 1)) (kk : ∀ (H1 : Heap) (locs1 : List Loc), va_P D vwCl (w_D_T cA a (sti S 6 j v) b T) H1 → va_D A (w_D_T cA a (sti S 6 j v) b T) → va_S A s.heap H1 locs1 → W p l e R s m args below meth c H1 locs1 cells slots Q (F0 m (pc + 1) ls rest)) : W p l e R s m args below meth c H locs cells slots Q (F0 m pc ls (.int v :: .int i :: .ref (a 2) :: rest)) := by
  obtain ⟨hx, hb, -, hown, hts, hK, -, -, -⟩ := C
  subst hj
  exact va_iast hx hb hK hP hD hS 2 0 rfl rfl hin hdg (fun H1 locs1 h1 h2 h3 => kk H1 locs1 h1 h2 h3)
def fX9_readStandIn (N : Nat) (S : St) (T : St) : Option (Int32 × St) :=
  Option.bind (fX9_readNumber N S T) (fun q1 => Option.bind (fX10_isFigure N q1.1) (fun q2 => if q2 = 0 then (some ((0 : Int32), q1.2)) else (Option.bind (fX7_letterAt N T ((q1.2 3 0))) (fun q4 => if q4 = (44 : Int32) then (Option.bind (fX9_readNumber N (stf q1.2 3 (((q1.2 3 0) + (1 : Int32)))) T) (fun q6 => Option.bind (fX10_isFigure N q6.1) (fun q7 => if q7 = 0 then (some ((0 : Int32), q6.2)) else (if ¬ (q1.1 < 0 ∨ 10 ≤ q1.1.toNatClampNeg) then (some ((1 : Int32), (sti q6.2 6 q1.1.toNatClampNeg q6.1))) else none)))) else (some ((0 : Int32), q1.2))))))
set_option maxRecDepth 100000 in
set_option maxHeartbeats 4000000 in
theorem wX9_readStandIn (C : Cx p s m args meth c D cA cX9_readStandIn 4 RX9 (some .boolean)) (hA : ∀ q : Nat, s.heap.size ≤ q → A q) {N : Nat} {z : Int32 × St} {S : St} {T : St} (hf : fX9_readStandIn N S T = some z) {H : Heap} {locs : List Loc} {ls : Array Slot} (hP : va_P D vwCl (w_D_T cA a S b T) H) (hD : va_D A (w_D_T cA a S b T)) (hS : va_S A s.heap H locs) (hl : lv_has ls 4 [(0, .ref (a 0)), (1, .ref (b 0))]) : W p l e (rmU 2 44 0 0) s m args below meth c H locs 0 0 (MQ below (QI D A z.1 (w_D_T cA a z.2 b T)) args s 0 0 A) (F0 m 0 ls []) := by
  obtain ⟨hx, hb, hml, hown, hts, hK, hN, hr, hlk⟩ := id C
  unfold fX9_readStandIn at hf
  refine lv_aload_n (pc := 0) hx hb dX9_readStandIn_0 rfl (lv_at hl 0 rfl) ?_
  refine lv_aload_n (pc := 1) hx hb dX9_readStandIn_1 rfl (lv_at hl 1 rfl) ?_
  obtain ⟨q1, hq1, hf⟩ := pt_b hf
  refine all_i (runU_V (pc := 2) (As := [.ref (b 0)]) (b := a 0) (rest := []) (ci := 8) (q0 := 0) C lk_RX9_77 (kX9_readNumber l D cA a b hq1 H.size) ⟨Nat.le_of_ble_eq_true rfl, Nat.le_of_ble_eq_true rfl⟩ ⟨Nat.le_refl _, Nat.le_refl _⟩ hP hD rfl rfl rfl hl.1 rfl (Nat.le_of_ble_eq_true rfl) dX9_readStandIn_2) hD hS hA (fun H locs hP hD hS => ?_)
  refine lv_istore_n (lv' := [(2, .int q1.1), (0, .ref (a 0)), (1, .ref (b 0))]) (pc := 5) hx hb dX9_readStandIn_5 rfl hl (by decide) rfl (fun ls hl => ?_)
  refine lv_iload_n (pc := 6) hx hb dX9_readStandIn_6 rfl (lv_at hl 0 rfl) ?_
  obtain ⟨q2, hq2, hf⟩ := pt_b hf
  have hPc : va_P D vwCl ([] : va_W) H := hP.sub [] rfl
  have hDc : va_D A ([] : va_W) := hD.sub [] (by decide) rfl
  refine prt_i (runU_SN (pc := 7) (As := [.int q1.1]) (rest := []) C lk_RX9_81 (kX10_isFigure l D cA hq2 H.size) ⟨Nat.le_of_ble_eq_true rfl, Nat.le_of_ble_eq_true rfl⟩ ⟨Nat.le_refl _, Nat.le_refl _⟩ hPc hDc hl.1 rfl (Nat.le_of_ble_eq_true rfl) dX9_readStandIn_7) hP hD hS hA [] rfl (fun H locs hP hD hS => ?_)
  refine lv_if_eq (tgt := 26) (pc := 10) hx hb dX9_readStandIn_10 (by decide) (fun c3 => ?_) (fun c3 => ?_)
  · have hf := pt_t c3 hf
    refine lv_iconst (v := (0 : Int32)) (pc := 26) hx hb dX9_readStandIn_26 (by decide) ?_
    cases hf
    exact ret_z C (Or.inl rfl) hP hD hS dX9_readStandIn_27
  · have hf := pt_f c3 hf
    refine lv_aload_n (pc := 13) hx hb dX9_readStandIn_13 rfl (lv_at hl 2 rfl) ?_
    refine lv_aload_n (pc := 14) hx hb dX9_readStandIn_14 rfl (lv_at hl 1 rfl) ?_
    refine ge_RX9_39_D_T_0_0 (pc := 15) C hP dX9_readStandIn_15 ?_
    obtain ⟨q4, hq4, hf⟩ := pt_b hf
    have hPc : va_P D vwCl (w_T cA b T) H := hP.sub [6, 7] rfl
    have hDc : va_D A (w_T cA b T) := hD.sub [6, 7] (by decide) rfl
    refine prt_i (runU_V (pc := 18) (As := [.int ((q1.2 3 0))]) (b := b 0) (rest := []) (ci := 6) (q0 := 0) C lk_RX9_55 (kX7_letterAt l D cA b hq4 H.size) ⟨Nat.le_of_ble_eq_true rfl, Nat.le_of_ble_eq_true rfl⟩ ⟨Nat.le_refl _, Nat.le_refl _⟩ hPc hDc rfl rfl rfl hl.1 rfl (Nat.le_of_ble_eq_true rfl) dX9_readStandIn_18) hP hD hS hA [6, 7] rfl (fun H locs hP hD hS => ?_)
    refine lv_bipush (v := (44 : Int32)) (pc := 21) hx hb dX9_readStandIn_21 (by decide) ?_
    refine lv_icmp_eq (tgt := 28) (pc := 23) hx hb dX9_readStandIn_23 (by decide) (fun c5 => ?_) (fun c5 => ?_)
    · have hf := pt_t c5 hf
      refine lv_aload_n (pc := 28) hx hb dX9_readStandIn_28 rfl (lv_at hl 1 rfl) ?_
      refine lv_dup (pc := 29) hx hb dX9_readStandIn_29 rfl ?_
      refine ge_RX9_39_D_T_0_0 (pc := 30) C hP dX9_readStandIn_30 ?_
      refine lv_iconst (v := (1 : Int32)) (pc := 33) hx hb dX9_readStandIn_33 (by decide) ?_
      refine lv_iadd (pc := 34) hx hb dX9_readStandIn_34 ?_
      refine pu_RX9_39_D_T_0_0 (pc := 35) C hP hD hS dX9_readStandIn_35 (fun H locs hP hD hS => ?_)
      refine lv_aload_n (pc := 38) hx hb dX9_readStandIn_38 rfl (lv_at hl 1 rfl) ?_
      refine lv_aload_n (pc := 39) hx hb dX9_readStandIn_39 rfl (lv_at hl 2 rfl) ?_
      obtain ⟨q6, hq6, hf⟩ := pt_b hf
      refine all_i (runU_V (pc := 40) (As := [.ref (b 0)]) (b := a 0) (rest := []) (ci := 8) (q0 := 0) C lk_RX9_77 (kX9_readNumber l D cA a b hq6 H.size) ⟨Nat.le_of_ble_eq_true rfl, Nat.le_of_ble_eq_true rfl⟩ ⟨Nat.le_refl _, Nat.le_refl _⟩ hP hD rfl rfl rfl hl.1 rfl (Nat.le_of_ble_eq_true rfl) dX9_readStandIn_40) hD hS hA (fun H locs hP hD hS => ?_)
      refine lv_istore_n (lv' := [(3, .int q6.1), (2, .int q1.1), (0, .ref (a 0)), (1, .ref (b 0))]) (pc := 43) hx hb dX9_readStandIn_43 rfl hl (by decide) rfl (fun ls hl => ?_)
      refine lv_iload_n (pc := 44) hx hb dX9_readStandIn_44 rfl (lv_at hl 0 rfl) ?_
      obtain ⟨q7, hq7, hf⟩ := pt_b hf
      have hPc : va_P D vwCl ([] : va_W) H := hP.sub [] rfl
      have hDc : va_D A ([] : va_W) := hD.sub [] (by decide) rfl
      refine prt_i (runU_SN (pc := 45) (As := [.int q6.1]) (rest := []) C lk_RX9_81 (kX10_isFigure l D cA hq7 H.size) ⟨Nat.le_of_ble_eq_true rfl, Nat.le_of_ble_eq_true rfl⟩ ⟨Nat.le_refl _, Nat.le_refl _⟩ hPc hDc hl.1 rfl (Nat.le_of_ble_eq_true rfl) dX9_readStandIn_45) hP hD hS hA [] rfl (fun H locs hP hD hS => ?_)
      refine lv_if_ne (tgt := 53) (pc := 48) hx hb dX9_readStandIn_48 (by decide) (fun c8 => ?_) (fun c8 => ?_)
      · have hf := pt_f c8 hf
        refine lv_aload_n (pc := 53) hx hb dX9_readStandIn_53 rfl (lv_at hl 2 rfl) ?_
        refine ge_RX9_12_D_T_0_0 (pc := 54) C hP dX9_readStandIn_54 ?_
        refine ge_RX9_88_D_T_0_1 (pc := 57) C hP dX9_readStandIn_57 ?_
        refine lv_iload_n (pc := 60) hx hb dX9_readStandIn_60 rfl (lv_at hl 1 rfl) ?_
        refine lv_iload_n (pc := 61) hx hb dX9_readStandIn_61 rfl (lv_at hl 0 rfl) ?_
        obtain ⟨h9, hf⟩ := pt_g hf
        refine sr_D_T_0_2 (pc := 62) (j := q1.1.toNatClampNeg) C hP hD hS h9 rfl dX9_readStandIn_62 (fun H locs hP hD hS => ?_)
        refine lv_iconst (v := (1 : Int32)) (pc := 63) hx hb dX9_readStandIn_63 (by decide) ?_
        cases hf
        exact ret_z C (Or.inr rfl) hP hD hS dX9_readStandIn_64
      · have hf := pt_t c8 hf
        refine lv_iconst (v := (0 : Int32)) (pc := 51) hx hb dX9_readStandIn_51 (by decide) ?_
        cases hf
        exact ret_z C (Or.inl rfl) hP hD hS dX9_readStandIn_52
    · have hf := pt_f c5 hf
      refine lv_iconst (v := (0 : Int32)) (pc := 26) hx hb dX9_readStandIn_26 (by decide) ?_
      cases hf
      exact ret_z C (Or.inl rfl) hP hD hS dX9_readStandIn_27
set_option maxRecDepth 100000 in
set_option maxHeartbeats 4000000 in
theorem kX9_readStandIn (l : Launch) (D : va_G) (cA : Nat → ClassId) (a : Nat → Nat) (b : Nat → Nat) {N : Nat} {S : St} {T : St} {z : Int32 × St} (hf : fX9_readStandIn N S T = some z) : CtI l yX9_readStandIn cX9_readStandIn 4 (some .boolean) 2 44 D cA (w_D_T cA a S b T) (w_D_T cA a z.2 b T) [.ref (a 0), .ref (b 0)] z.1 := by
  intro sz
  refine Met.ofW (cc := cX9_readStandIn) (maxL := 4) (ret := (some .boolean)) (by decide) rfl ?_
  intro p e s m args below meth c s₁ B hml hv
  obtain ⟨rfl, hsz, hP, hK, hD0⟩ := hv
  subst hsz
  have C : Cx p s m _ meth c D cA cX9_readStandIn 4 RX9 (some .boolean) := Cx.of B hml hK
  have hD := hD0.self (sz := s.heap.size)
  have hA : ∀ q : Nat, s.heap.size ≤ q → va_A (w_D_T cA a S b T) s.heap.size q := fun q h => Or.inr h
  have hS : va_S (va_A (w_D_T cA a S b T) s.heap.size) s.heap s.heap [] := va_S.rf
  have hl := lv_entry ([.ref (a 0), .ref (b 0)]) (n := 4) (Nat.le_of_ble_eq_true rfl)
  rw [lg_entry_eq]
  generalize (lg_sl ([.ref (a 0), .ref (b 0)]) ++ List.replicate (4 - (lg_sl ([.ref (a 0), .ref (b 0)])).length) Slot.unset).toArray = ls at hl ⊢
  exact wX9_readStandIn C hA hf hP hD hS hl
theorem ge_RX9_22_D_T_0_0 (C : Cx p s m args meth c D cA cc nL RX9 ret) (hP : va_P D vwCl (w_D_T cA a S b T) H) (hdg : decode cc pc = .ok (.getfield 22, 3)) (kk : W p l e R s m args below meth c H locs cells slots Q (F0 m (pc + 3) ls (.int (S 0 0) :: rest))) : W p l e R s m args below meth c H locs cells slots Q (F0 m pc ls (.ref (a 0) :: rest)) := by
  obtain ⟨hx, hb, -, hown, hts, hK, -, -, -⟩ := C
  exact va_get (D := D) (ci := 8) (v := .int (S 0 0)) (C := RX9) (T := TX9) (N := 7) hx hb hts inlX9 hown hK hP 0 rfl rfl 2 (by decide) (hts _ fl_RX9_22) (fun _ h9 => h9) rfl hdg kk
theorem lk_RX9_91 : LkV RX9 91 yX9_hasCoin cX9_hasCoin 3 (some .boolean) 1 := ⟨⟨by decide +kernel, by decide +kernel, by decide +kernel, by decide +kernel, by decide +kernel, by decide +kernel⟩, by decide +kernel, by decide +kernel⟩
theorem ge_RX9_18_D_T_0_0 (C : Cx p s m args meth c D cA cc nL RX9 ret) (hP : va_P D vwCl (w_D_T cA a S b T) H) (hdg : decode cc pc = .ok (.getfield 18, 3)) (kk : W p l e R s m args below meth c H locs cells slots Q (F0 m (pc + 3) ls (.ref (a 3) :: rest))) : W p l e R s m args below meth c H locs cells slots Q (F0 m pc ls (.ref (a 0) :: rest)) := by
  obtain ⟨hx, hb, -, hown, hts, hK, -, -, -⟩ := C
  exact va_get (D := D) (ci := 8) (v := .ref (a 3)) (C := RX9) (T := TX9) (N := 7) hx hb hts inlX9 hown hK hP 0 rfl rfl 1 (by decide) (hts _ fl_RX9_18) (fun _ h9 => h9) rfl hdg kk
theorem sr_D_T_0_3 {i v : Int32} {j : Nat} (C : Cx p s m args meth c D cA cc nL own ret) (hP : va_P D vwCl (w_D_T cA a S b T) H) (hD : va_D A (w_D_T cA a S b T)) (hS : va_S A s.heap H locs) (hin : vp_in i 6) (hj : i.toNatClampNeg = j) (hdg : decode cc pc = .ok (.iastore, 1)) (kk : ∀ (H1 : Heap) (locs1 : List Loc), va_P D vwCl (w_D_T cA a (sti S 4 j v) b T) H1 → va_D A (w_D_T cA a (sti S 4 j v) b T) → va_S A s.heap H1 locs1 → W p l e R s m args below meth c H1 locs1 cells slots Q (F0 m (pc + 1) ls rest)) : W p l e R s m args below meth c H locs cells slots Q (F0 m pc ls (.int v :: .int i :: .ref (a 3) :: rest)) := by
  obtain ⟨hx, hb, -, hown, hts, hK, -, -, -⟩ := C
  subst hj
  exact va_iast hx hb hK hP hD hS 3 0 rfl rfl hin hdg (fun H1 locs1 h1 h2 h3 => kk H1 locs1 h1 h2 h3)
theorem pu_RX9_22_D_T_0_0 {v : Int32} (C : Cx p s m args meth c D cA cc nL RX9 ret) (hP : va_P D vwCl (w_D_T cA a S b T) H) (hD : va_D A (w_D_T cA a S b T)) (hS : va_S A s.heap H locs) (hdg : decode cc pc = .ok (.putfield 22, 3)) (kk : ∀ (H1 : Heap) (locs1 : List Loc), va_P D vwCl (w_D_T cA a (stf S 0 v) b T) H1 → va_D A (w_D_T cA a (stf S 0 v) b T) → va_S A s.heap H1 locs1 → W p l e R s m args below meth c H1 locs1 cells slots Q (F0 m (pc + 3) ls rest)) : W p l e R s m args below meth c H locs cells slots Q (F0 m pc ls (.int v :: .ref (a 0) :: rest)) := by
  obtain ⟨hx, hb, -, hown, hts, hK, -, -, -⟩ := C
  exact va_put (D := D) (ci := 8) (v := .int v) (ty := .int) (C := RX9) (T := TX9) (N := 7) hx hb hts inlX9 tyX9 tyX9_ok nmX9 hown hK hP hD hS 0 rfl rfl 2 (by decide) (hts _ fl_RX9_22) (fun _ h9 => h9) rfl (by decide +kernel) rfl rfl (Nat.le_of_ble_eq_true rfl) hdg (fun H1 locs1 h1 h2 h3 => kk H1 locs1 h1 h2 h3)
def fX9_readCoin (N : Nat) (S : St) (T : St) : Option (Int32 × St) :=
  Option.bind (fX9_readNumber N S T) (fun q1 => if q1.1 < (1 : Int32) then (some ((0 : Int32), q1.2)) else (if (6 : Int32) ≤ (q1.2 0 0) then (some ((0 : Int32), q1.2)) else (Option.bind (fX9_hasCoin N q1.2 q1.1) (fun q4 => if q4 = 0 then (if ¬ ((q1.2 0 0) < 0 ∨ 6 ≤ ((q1.2 0 0)).toNatClampNeg) then (some ((1 : Int32), (stf (sti q1.2 4 (((q1.2 0 0)).toNatClampNeg) q1.1) 0 ((((sti q1.2 4 (((q1.2 0 0)).toNatClampNeg) q1.1) 0 0) + (1 : Int32)))))) else none) else (some ((0 : Int32), q1.2))))))
set_option maxRecDepth 100000 in
set_option maxHeartbeats 4000000 in
theorem wX9_readCoin (C : Cx p s m args meth c D cA cX9_readCoin 3 RX9 (some .boolean)) (hA : ∀ q : Nat, s.heap.size ≤ q → A q) {N : Nat} {z : Int32 × St} {S : St} {T : St} (hf : fX9_readCoin N S T = some z) {H : Heap} {locs : List Loc} {ls : Array Slot} (hP : va_P D vwCl (w_D_T cA a S b T) H) (hD : va_D A (w_D_T cA a S b T)) (hS : va_S A s.heap H locs) (hl : lv_has ls 3 [(0, .ref (a 0)), (1, .ref (b 0))]) : W p l e (rmU 2 44 0 0) s m args below meth c H locs 0 0 (MQ below (QI D A z.1 (w_D_T cA a z.2 b T)) args s 0 0 A) (F0 m 0 ls []) := by
  obtain ⟨hx, hb, hml, hown, hts, hK, hN, hr, hlk⟩ := id C
  unfold fX9_readCoin at hf
  refine lv_aload_n (pc := 0) hx hb dX9_readCoin_0 rfl (lv_at hl 0 rfl) ?_
  refine lv_aload_n (pc := 1) hx hb dX9_readCoin_1 rfl (lv_at hl 1 rfl) ?_
  obtain ⟨q1, hq1, hf⟩ := pt_b hf
  refine all_i (runU_V (pc := 2) (As := [.ref (b 0)]) (b := a 0) (rest := []) (ci := 8) (q0 := 0) C lk_RX9_77 (kX9_readNumber l D cA a b hq1 H.size) ⟨Nat.le_of_ble_eq_true rfl, Nat.le_of_ble_eq_true rfl⟩ ⟨Nat.le_refl _, Nat.le_refl _⟩ hP hD rfl rfl rfl hl.1 rfl (Nat.le_of_ble_eq_true rfl) dX9_readCoin_2) hD hS hA (fun H locs hP hD hS => ?_)
  refine lv_istore_n (lv' := [(2, .int q1.1), (0, .ref (a 0)), (1, .ref (b 0))]) (pc := 5) hx hb dX9_readCoin_5 rfl hl (by decide) rfl (fun ls hl => ?_)
  refine lv_iload_n (pc := 6) hx hb dX9_readCoin_6 rfl (lv_at hl 0 rfl) ?_
  refine lv_iconst (v := (1 : Int32)) (pc := 7) hx hb dX9_readCoin_7 (by decide) ?_
  refine lv_icmp_lt (tgt := 28) (pc := 8) hx hb dX9_readCoin_8 (by decide) (fun c2 => ?_) (fun c2 => ?_)
  · have hf := pt_t c2 hf
    refine lv_iconst (v := (0 : Int32)) (pc := 28) hx hb dX9_readCoin_28 (by decide) ?_
    cases hf
    exact ret_z C (Or.inl rfl) hP hD hS dX9_readCoin_29
  · have hf := pt_f c2 hf
    refine lv_aload_n (pc := 11) hx hb dX9_readCoin_11 rfl (lv_at hl 1 rfl) ?_
    refine ge_RX9_22_D_T_0_0 (pc := 12) C hP dX9_readCoin_12 ?_
    refine lv_bipush (v := (6 : Int32)) (pc := 15) hx hb dX9_readCoin_15 (by decide) ?_
    refine lv_icmp_ge (tgt := 28) (pc := 17) hx hb dX9_readCoin_17 (by decide) (fun c3 => ?_) (fun c3 => ?_)
    · have hf := pt_t c3 hf
      refine lv_iconst (v := (0 : Int32)) (pc := 28) hx hb dX9_readCoin_28 (by decide) ?_
      cases hf
      exact ret_z C (Or.inl rfl) hP hD hS dX9_readCoin_29
    · have hf := pt_f c3 hf
      refine lv_aload_n (pc := 20) hx hb dX9_readCoin_20 rfl (lv_at hl 1 rfl) ?_
      refine lv_iload_n (pc := 21) hx hb dX9_readCoin_21 rfl (lv_at hl 0 rfl) ?_
      obtain ⟨q4, hq4, hf⟩ := pt_b hf
      have hPc : va_P D vwCl (w_D cA a q1.2) H := hP.sub [0, 1, 2, 3, 4, 5] rfl
      have hDc : va_D A (w_D cA a q1.2) := hD.sub [0, 1, 2, 3, 4, 5] (by decide) rfl
      refine prt_i (runU_V (pc := 22) (As := [.int q1.1]) (b := a 0) (rest := []) (ci := 8) (q0 := 0) C lk_RX9_91 (kX9_hasCoin l D cA a hq4 H.size) ⟨Nat.le_of_ble_eq_true rfl, Nat.le_of_ble_eq_true rfl⟩ ⟨Nat.le_refl _, Nat.le_refl _⟩ hPc hDc rfl rfl rfl hl.1 rfl (Nat.le_of_ble_eq_true rfl) dX9_readCoin_22) hP hD hS hA [0, 1, 2, 3, 4, 5] rfl (fun H locs hP hD hS => ?_)
      refine lv_if_eq (tgt := 30) (pc := 25) hx hb dX9_readCoin_25 (by decide) (fun c5 => ?_) (fun c5 => ?_)
      · have hf := pt_t c5 hf
        refine lv_aload_n (pc := 30) hx hb dX9_readCoin_30 rfl (lv_at hl 1 rfl) ?_
        refine ge_RX9_18_D_T_0_0 (pc := 31) C hP dX9_readCoin_31 ?_
        refine lv_aload_n (pc := 34) hx hb dX9_readCoin_34 rfl (lv_at hl 1 rfl) ?_
        refine ge_RX9_22_D_T_0_0 (pc := 35) C hP dX9_readCoin_35 ?_
        refine lv_iload_n (pc := 38) hx hb dX9_readCoin_38 rfl (lv_at hl 0 rfl) ?_
        obtain ⟨h6, hf⟩ := pt_g hf
        refine sr_D_T_0_3 (pc := 39) (j := ((q1.2 0 0)).toNatClampNeg) C hP hD hS h6 rfl dX9_readCoin_39 (fun H locs hP hD hS => ?_)
        refine lv_aload_n (pc := 40) hx hb dX9_readCoin_40 rfl (lv_at hl 1 rfl) ?_
        refine lv_dup (pc := 41) hx hb dX9_readCoin_41 rfl ?_
        refine ge_RX9_22_D_T_0_0 (pc := 42) C hP dX9_readCoin_42 ?_
        refine lv_iconst (v := (1 : Int32)) (pc := 45) hx hb dX9_readCoin_45 (by decide) ?_
        refine lv_iadd (pc := 46) hx hb dX9_readCoin_46 ?_
        refine pu_RX9_22_D_T_0_0 (pc := 47) C hP hD hS dX9_readCoin_47 (fun H locs hP hD hS => ?_)
        refine lv_iconst (v := (1 : Int32)) (pc := 50) hx hb dX9_readCoin_50 (by decide) ?_
        cases hf
        exact ret_z C (Or.inr rfl) hP hD hS dX9_readCoin_51
      · have hf := pt_f c5 hf
        refine lv_iconst (v := (0 : Int32)) (pc := 28) hx hb dX9_readCoin_28 (by decide) ?_
        cases hf
        exact ret_z C (Or.inl rfl) hP hD hS dX9_readCoin_29
set_option maxRecDepth 100000 in
set_option maxHeartbeats 4000000 in
theorem kX9_readCoin (l : Launch) (D : va_G) (cA : Nat → ClassId) (a : Nat → Nat) (b : Nat → Nat) {N : Nat} {S : St} {T : St} {z : Int32 × St} (hf : fX9_readCoin N S T = some z) : CtI l yX9_readCoin cX9_readCoin 3 (some .boolean) 2 44 D cA (w_D_T cA a S b T) (w_D_T cA a z.2 b T) [.ref (a 0), .ref (b 0)] z.1 := by
  intro sz
  refine Met.ofW (cc := cX9_readCoin) (maxL := 3) (ret := (some .boolean)) (by decide) rfl ?_
  intro p e s m args below meth c s₁ B hml hv
  obtain ⟨rfl, hsz, hP, hK, hD0⟩ := hv
  subst hsz
  have C : Cx p s m _ meth c D cA cX9_readCoin 3 RX9 (some .boolean) := Cx.of B hml hK
  have hD := hD0.self (sz := s.heap.size)
  have hA : ∀ q : Nat, s.heap.size ≤ q → va_A (w_D_T cA a S b T) s.heap.size q := fun q h => Or.inr h
  have hS : va_S (va_A (w_D_T cA a S b T) s.heap.size) s.heap s.heap [] := va_S.rf
  have hl := lv_entry ([.ref (a 0), .ref (b 0)]) (n := 3) (Nat.le_of_ble_eq_true rfl)
  rw [lg_entry_eq]
  generalize (lg_sl ([.ref (a 0), .ref (b 0)]) ++ List.replicate (3 - (lg_sl ([.ref (a 0), .ref (b 0)])).length) Slot.unset).toArray = ls at hl ⊢
  exact wX9_readCoin C hA hf hP hD hS hl
theorem fl_RX9_26 : Cond.fieldLink RX9 26 "SevenOnStrike$Told" "sides" "I" ∈ wsL_law := by decide +kernel
theorem pu_RX9_26_D_T_0_0 {v : Int32} (C : Cx p s m args meth c D cA cc nL RX9 ret) (hP : va_P D vwCl (w_D_T cA a S b T) H) (hD : va_D A (w_D_T cA a S b T)) (hS : va_S A s.heap H locs) (hdg : decode cc pc = .ok (.putfield 26, 3)) (kk : ∀ (H1 : Heap) (locs1 : List Loc), va_P D vwCl (w_D_T cA a (stf S 1 v) b T) H1 → va_D A (w_D_T cA a (stf S 1 v) b T) → va_S A s.heap H1 locs1 → W p l e R s m args below meth c H1 locs1 cells slots Q (F0 m (pc + 3) ls rest)) : W p l e R s m args below meth c H locs cells slots Q (F0 m pc ls (.int v :: .ref (a 0) :: rest)) := by
  obtain ⟨hx, hb, -, hown, hts, hK, -, -, -⟩ := C
  exact va_put (D := D) (ci := 8) (v := .int v) (ty := .int) (C := RX9) (T := TX9) (N := 7) hx hb hts inlX9 tyX9 tyX9_ok nmX9 hown hK hP hD hS 0 rfl rfl 3 (by decide) (hts _ fl_RX9_26) (fun _ h9 => h9) rfl (by decide +kernel) rfl rfl (Nat.le_of_ble_eq_true rfl) hdg (fun H1 locs1 h1 h2 h3 => kk H1 locs1 h1 h2 h3)
theorem ge_RX9_26_D_T_0_0 (C : Cx p s m args meth c D cA cc nL RX9 ret) (hP : va_P D vwCl (w_D_T cA a S b T) H) (hdg : decode cc pc = .ok (.getfield 26, 3)) (kk : W p l e R s m args below meth c H locs cells slots Q (F0 m (pc + 3) ls (.int (S 1 0) :: rest))) : W p l e R s m args below meth c H locs cells slots Q (F0 m pc ls (.ref (a 0) :: rest)) := by
  obtain ⟨hx, hb, -, hown, hts, hK, -, -, -⟩ := C
  exact va_get (D := D) (ci := 8) (v := .int (S 1 0)) (C := RX9) (T := TX9) (N := 7) hx hb hts inlX9 hown hK hP 0 rfl rfl 3 (by decide) (hts _ fl_RX9_26) (fun _ h9 => h9) rfl hdg kk
theorem lk_RX9_94 : LkN RX9 94 yX10_isWithin cX10_isWithin 3 (some .boolean) 3 ∧ Cond.static yX10_isWithin ∈ wsL_law := ⟨⟨by decide +kernel, by decide +kernel, by decide +kernel, by decide +kernel, by decide +kernel, by decide +kernel⟩, by decide +kernel⟩
def fX9_readSides (N : Nat) (S : St) (T : St) : Option (Int32 × St) :=
  Option.bind (fX9_readNumber N S T) (fun q1 => Option.bind (fX10_isWithin N (((stf q1.2 1 q1.1) 1 0)) ((2 : Int32)) ((9 : Int32))) (fun q2 => if q2 = 0 ∨ q2 = 1 then (some (q2, (stf q1.2 1 q1.1))) else none))
set_option maxRecDepth 100000 in
set_option maxHeartbeats 4000000 in
theorem wX9_readSides (C : Cx p s m args meth c D cA cX9_readSides 2 RX9 (some .boolean)) (hA : ∀ q : Nat, s.heap.size ≤ q → A q) {N : Nat} {z : Int32 × St} {S : St} {T : St} (hf : fX9_readSides N S T = some z) {H : Heap} {locs : List Loc} {ls : Array Slot} (hP : va_P D vwCl (w_D_T cA a S b T) H) (hD : va_D A (w_D_T cA a S b T)) (hS : va_S A s.heap H locs) (hl : lv_has ls 2 [(0, .ref (a 0)), (1, .ref (b 0))]) : W p l e (rmU 2 44 0 0) s m args below meth c H locs 0 0 (MQ below (QI D A z.1 (w_D_T cA a z.2 b T)) args s 0 0 A) (F0 m 0 ls []) := by
  obtain ⟨hx, hb, hml, hown, hts, hK, hN, hr, hlk⟩ := id C
  unfold fX9_readSides at hf
  refine lv_aload_n (pc := 0) hx hb dX9_readSides_0 rfl (lv_at hl 0 rfl) ?_
  refine lv_aload_n (pc := 1) hx hb dX9_readSides_1 rfl (lv_at hl 0 rfl) ?_
  refine lv_aload_n (pc := 2) hx hb dX9_readSides_2 rfl (lv_at hl 1 rfl) ?_
  obtain ⟨q1, hq1, hf⟩ := pt_b hf
  refine all_i (runU_V (pc := 3) (As := [.ref (b 0)]) (b := a 0) (rest := [.ref (a 0)]) (ci := 8) (q0 := 0) C lk_RX9_77 (kX9_readNumber l D cA a b hq1 H.size) ⟨Nat.le_of_ble_eq_true rfl, Nat.le_of_ble_eq_true rfl⟩ ⟨Nat.le_refl _, Nat.le_refl _⟩ hP hD rfl rfl rfl hl.1 rfl (Nat.le_of_ble_eq_true rfl) dX9_readSides_3) hD hS hA (fun H locs hP hD hS => ?_)
  refine pu_RX9_26_D_T_0_0 (pc := 6) C hP hD hS dX9_readSides_6 (fun H locs hP hD hS => ?_)
  refine lv_aload_n (pc := 9) hx hb dX9_readSides_9 rfl (lv_at hl 0 rfl) ?_
  refine ge_RX9_26_D_T_0_0 (pc := 10) C hP dX9_readSides_10 ?_
  refine lv_iconst (v := (2 : Int32)) (pc := 13) hx hb dX9_readSides_13 (by decide) ?_
  refine lv_bipush (v := (9 : Int32)) (pc := 14) hx hb dX9_readSides_14 (by decide) ?_
  obtain ⟨q2, hq2, hf⟩ := pt_b hf
  have hPc : va_P D vwCl ([] : va_W) H := hP.sub [] rfl
  have hDc : va_D A ([] : va_W) := hD.sub [] (by decide) rfl
  refine prt_i (runU_SN (pc := 16) (As := [.int (((stf q1.2 1 q1.1) 1 0)), .int ((2 : Int32)), .int ((9 : Int32))]) (rest := []) C lk_RX9_94 (kX10_isWithin l D cA hq2 H.size) ⟨Nat.le_of_ble_eq_true rfl, Nat.le_of_ble_eq_true rfl⟩ ⟨Nat.le_refl _, Nat.le_refl _⟩ hPc hDc hl.1 rfl (Nat.le_of_ble_eq_true rfl) dX9_readSides_16) hP hD hS hA [] rfl (fun H locs hP hD hS => ?_)
  obtain ⟨h3, hf⟩ := pt_g hf
  cases hf
  exact ret_z C h3 hP hD hS dX9_readSides_19
set_option maxRecDepth 100000 in
set_option maxHeartbeats 4000000 in
theorem kX9_readSides (l : Launch) (D : va_G) (cA : Nat → ClassId) (a : Nat → Nat) (b : Nat → Nat) {N : Nat} {S : St} {T : St} {z : Int32 × St} (hf : fX9_readSides N S T = some z) : CtI l yX9_readSides cX9_readSides 2 (some .boolean) 2 44 D cA (w_D_T cA a S b T) (w_D_T cA a z.2 b T) [.ref (a 0), .ref (b 0)] z.1 := by
  intro sz
  refine Met.ofW (cc := cX9_readSides) (maxL := 2) (ret := (some .boolean)) (by decide) rfl ?_
  intro p e s m args below meth c s₁ B hml hv
  obtain ⟨rfl, hsz, hP, hK, hD0⟩ := hv
  subst hsz
  have C : Cx p s m _ meth c D cA cX9_readSides 2 RX9 (some .boolean) := Cx.of B hml hK
  have hD := hD0.self (sz := s.heap.size)
  have hA : ∀ q : Nat, s.heap.size ≤ q → va_A (w_D_T cA a S b T) s.heap.size q := fun q h => Or.inr h
  have hS : va_S (va_A (w_D_T cA a S b T) s.heap.size) s.heap s.heap [] := va_S.rf
  have hl := lv_entry ([.ref (a 0), .ref (b 0)]) (n := 2) (Nat.le_of_ble_eq_true rfl)
  rw [lg_entry_eq]
  generalize (lg_sl ([.ref (a 0), .ref (b 0)]) ++ List.replicate (2 - (lg_sl ([.ref (a 0), .ref (b 0)])).length) Slot.unset).toArray = ls at hl ⊢
  exact wX9_readSides C hA hf hP hD hS hl
theorem fl_RX9_29 : Cond.fieldLink RX9 29 "SevenOnStrike$Told" "week" "I" ∈ wsL_law := by decide +kernel
theorem pu_RX9_29_D_T_0_0 {v : Int32} (C : Cx p s m args meth c D cA cc nL RX9 ret) (hP : va_P D vwCl (w_D_T cA a S b T) H) (hD : va_D A (w_D_T cA a S b T)) (hS : va_S A s.heap H locs) (hdg : decode cc pc = .ok (.putfield 29, 3)) (kk : ∀ (H1 : Heap) (locs1 : List Loc), va_P D vwCl (w_D_T cA a (stf S 2 v) b T) H1 → va_D A (w_D_T cA a (stf S 2 v) b T) → va_S A s.heap H1 locs1 → W p l e R s m args below meth c H1 locs1 cells slots Q (F0 m (pc + 3) ls rest)) : W p l e R s m args below meth c H locs cells slots Q (F0 m pc ls (.int v :: .ref (a 0) :: rest)) := by
  obtain ⟨hx, hb, -, hown, hts, hK, -, -, -⟩ := C
  exact va_put (D := D) (ci := 8) (v := .int v) (ty := .int) (C := RX9) (T := TX9) (N := 7) hx hb hts inlX9 tyX9 tyX9_ok nmX9 hown hK hP hD hS 0 rfl rfl 4 (by decide) (hts _ fl_RX9_29) (fun _ h9 => h9) rfl (by decide +kernel) rfl rfl (Nat.le_of_ble_eq_true rfl) hdg (fun H1 locs1 h1 h2 h3 => kk H1 locs1 h1 h2 h3)
theorem ge_RX9_29_D_T_0_0 (C : Cx p s m args meth c D cA cc nL RX9 ret) (hP : va_P D vwCl (w_D_T cA a S b T) H) (hdg : decode cc pc = .ok (.getfield 29, 3)) (kk : W p l e R s m args below meth c H locs cells slots Q (F0 m (pc + 3) ls (.int (S 2 0) :: rest))) : W p l e R s m args below meth c H locs cells slots Q (F0 m pc ls (.ref (a 0) :: rest)) := by
  obtain ⟨hx, hb, -, hown, hts, hK, -, -, -⟩ := C
  exact va_get (D := D) (ci := 8) (v := .int (S 2 0)) (C := RX9) (T := TX9) (N := 7) hx hb hts inlX9 hown hK hP 0 rfl rfl 4 (by decide) (hts _ fl_RX9_29) (fun _ h9 => h9) rfl hdg kk
def fX9_readWeek (N : Nat) (S : St) (T : St) : Option (Int32 × St) :=
  Option.bind (fX9_readNumber N S T) (fun q1 => Option.bind (fX10_isWithin N (((stf q1.2 2 q1.1) 2 0)) ((1 : Int32)) ((9 : Int32))) (fun q2 => if q2 = 0 ∨ q2 = 1 then (some (q2, (stf q1.2 2 q1.1))) else none))
set_option maxRecDepth 100000 in
set_option maxHeartbeats 4000000 in
theorem wX9_readWeek (C : Cx p s m args meth c D cA cX9_readWeek 2 RX9 (some .boolean)) (hA : ∀ q : Nat, s.heap.size ≤ q → A q) {N : Nat} {z : Int32 × St} {S : St} {T : St} (hf : fX9_readWeek N S T = some z) {H : Heap} {locs : List Loc} {ls : Array Slot} (hP : va_P D vwCl (w_D_T cA a S b T) H) (hD : va_D A (w_D_T cA a S b T)) (hS : va_S A s.heap H locs) (hl : lv_has ls 2 [(0, .ref (a 0)), (1, .ref (b 0))]) : W p l e (rmU 2 44 0 0) s m args below meth c H locs 0 0 (MQ below (QI D A z.1 (w_D_T cA a z.2 b T)) args s 0 0 A) (F0 m 0 ls []) := by
  obtain ⟨hx, hb, hml, hown, hts, hK, hN, hr, hlk⟩ := id C
  unfold fX9_readWeek at hf
  refine lv_aload_n (pc := 0) hx hb dX9_readWeek_0 rfl (lv_at hl 0 rfl) ?_
  refine lv_aload_n (pc := 1) hx hb dX9_readWeek_1 rfl (lv_at hl 0 rfl) ?_
  refine lv_aload_n (pc := 2) hx hb dX9_readWeek_2 rfl (lv_at hl 1 rfl) ?_
  obtain ⟨q1, hq1, hf⟩ := pt_b hf
  refine all_i (runU_V (pc := 3) (As := [.ref (b 0)]) (b := a 0) (rest := [.ref (a 0)]) (ci := 8) (q0 := 0) C lk_RX9_77 (kX9_readNumber l D cA a b hq1 H.size) ⟨Nat.le_of_ble_eq_true rfl, Nat.le_of_ble_eq_true rfl⟩ ⟨Nat.le_refl _, Nat.le_refl _⟩ hP hD rfl rfl rfl hl.1 rfl (Nat.le_of_ble_eq_true rfl) dX9_readWeek_3) hD hS hA (fun H locs hP hD hS => ?_)
  refine pu_RX9_29_D_T_0_0 (pc := 6) C hP hD hS dX9_readWeek_6 (fun H locs hP hD hS => ?_)
  refine lv_aload_n (pc := 9) hx hb dX9_readWeek_9 rfl (lv_at hl 0 rfl) ?_
  refine ge_RX9_29_D_T_0_0 (pc := 10) C hP dX9_readWeek_10 ?_
  refine lv_iconst (v := (1 : Int32)) (pc := 13) hx hb dX9_readWeek_13 (by decide) ?_
  refine lv_bipush (v := (9 : Int32)) (pc := 14) hx hb dX9_readWeek_14 (by decide) ?_
  obtain ⟨q2, hq2, hf⟩ := pt_b hf
  have hPc : va_P D vwCl ([] : va_W) H := hP.sub [] rfl
  have hDc : va_D A ([] : va_W) := hD.sub [] (by decide) rfl
  refine prt_i (runU_SN (pc := 16) (As := [.int (((stf q1.2 2 q1.1) 2 0)), .int ((1 : Int32)), .int ((9 : Int32))]) (rest := []) C lk_RX9_94 (kX10_isWithin l D cA hq2 H.size) ⟨Nat.le_of_ble_eq_true rfl, Nat.le_of_ble_eq_true rfl⟩ ⟨Nat.le_refl _, Nat.le_refl _⟩ hPc hDc hl.1 rfl (Nat.le_of_ble_eq_true rfl) dX9_readWeek_16) hP hD hS hA [] rfl (fun H locs hP hD hS => ?_)
  obtain ⟨h3, hf⟩ := pt_g hf
  cases hf
  exact ret_z C h3 hP hD hS dX9_readWeek_19
set_option maxRecDepth 100000 in
set_option maxHeartbeats 4000000 in
theorem kX9_readWeek (l : Launch) (D : va_G) (cA : Nat → ClassId) (a : Nat → Nat) (b : Nat → Nat) {N : Nat} {S : St} {T : St} {z : Int32 × St} (hf : fX9_readWeek N S T = some z) : CtI l yX9_readWeek cX9_readWeek 2 (some .boolean) 2 44 D cA (w_D_T cA a S b T) (w_D_T cA a z.2 b T) [.ref (a 0), .ref (b 0)] z.1 := by
  intro sz
  refine Met.ofW (cc := cX9_readWeek) (maxL := 2) (ret := (some .boolean)) (by decide) rfl ?_
  intro p e s m args below meth c s₁ B hml hv
  obtain ⟨rfl, hsz, hP, hK, hD0⟩ := hv
  subst hsz
  have C : Cx p s m _ meth c D cA cX9_readWeek 2 RX9 (some .boolean) := Cx.of B hml hK
  have hD := hD0.self (sz := s.heap.size)
  have hA : ∀ q : Nat, s.heap.size ≤ q → va_A (w_D_T cA a S b T) s.heap.size q := fun q h => Or.inr h
  have hS : va_S (va_A (w_D_T cA a S b T) s.heap.size) s.heap s.heap [] := va_S.rf
  have hl := lv_entry ([.ref (a 0), .ref (b 0)]) (n := 2) (Nat.le_of_ble_eq_true rfl)
  rw [lg_entry_eq]
  generalize (lg_sl ([.ref (a 0), .ref (b 0)]) ++ List.replicate (2 - (lg_sl ([.ref (a 0), .ref (b 0)])).length) Slot.unset).toArray = ls at hl ⊢
  exact wX9_readWeek C hA hf hP hD hS hl
theorem fl_RX9_35 : Cond.fieldLink RX9 35 "SevenOnStrike$Told" "sum" "LSevenOnStrike$Sum;" ∈ wsL_law := by decide +kernel
theorem ge_RX9_35_D_T_0_0 (C : Cx p s m args meth c D cA cc nL RX9 ret) (hP : va_P D vwCl (w_D_T cA a S b T) H) (hdg : decode cc pc = .ok (.getfield 35, 3)) (kk : W p l e R s m args below meth c H locs cells slots Q (F0 m (pc + 3) ls (.ref (a 4) :: rest))) : W p l e R s m args below meth c H locs cells slots Q (F0 m pc ls (.ref (a 0) :: rest)) := by
  obtain ⟨hx, hb, -, hown, hts, hK, -, -, -⟩ := C
  exact va_get (D := D) (ci := 8) (v := .ref (a 4)) (C := RX9) (T := TX9) (N := 7) hx hb hts inlX9 hown hK hP 0 rfl rfl 5 (by decide) (hts _ fl_RX9_35) (fun _ h9 => h9) rfl hdg kk
theorem lk_RX9_104 : LkV RX9 104 yX6_append cX6_append 2 none 1 := ⟨⟨by decide +kernel, by decide +kernel, by decide +kernel, by decide +kernel, by decide +kernel, by decide +kernel⟩, by decide +kernel, by decide +kernel⟩
theorem lk_RX9_101 : LkS RX9 101 yX6_isSign cX6_isSign 1 (some .boolean) 1 := ⟨⟨by decide +kernel, by decide +kernel, by decide +kernel, by decide +kernel, by decide +kernel, by decide +kernel⟩, by decide +kernel⟩
theorem fl_RX9_45 : Cond.fieldLink RX9 45 "SevenOnStrike$Sum" "length" "I" ∈ wsL_law := by decide +kernel
theorem pu_RX9_45_D_T_0_4 {v : Int32} (C : Cx p s m args meth c D cA cc nL RX9 ret) (hP : va_P D vwCl (w_D_T cA a S b T) H) (hD : va_D A (w_D_T cA a S b T)) (hS : va_S A s.heap H locs) (hdg : decode cc pc = .ok (.putfield 45, 3)) (kk : ∀ (H1 : Heap) (locs1 : List Loc), va_P D vwCl (w_D_T cA a (stf S 7 v) b T) H1 → va_D A (w_D_T cA a (stf S 7 v) b T) → va_S A s.heap H1 locs1 → W p l e R s m args below meth c H1 locs1 cells slots Q (F0 m (pc + 3) ls rest)) : W p l e R s m args below meth c H locs cells slots Q (F0 m pc ls (.int v :: .ref (a 4) :: rest)) := by
  obtain ⟨hx, hb, -, hown, hts, hK, -, -, -⟩ := C
  exact va_put (D := D) (ci := 5) (v := .int v) (ty := .int) (C := RX6) (T := TX6) (N := 2) hx hb hts inlX6 tyX6 tyX6_ok nmX6 hown hK hP hD hS 4 rfl rfl 1 (by decide) (hts _ fl_RX9_45) (fun _ h9 => h9) rfl (by decide +kernel) rfl rfl (Nat.le_of_ble_eq_true rfl) hdg (fun H1 locs1 h1 h2 h3 => kk H1 locs1 h1 h2 h3)
def fX9_readSum_j85 (N : Nat) (T : St) (x2 : Int32) (S : St) : Option (Int32 × St) :=
  if x2 ≤ 0 then (some ((0 : Int32), S)) else (some ((1 : Int32), S))
def fX9_readSum_j60 (N : Nat) (T : St) (g12 : Int32 × Int32 × St → Option (Int32 × St)) (x2 : Int32) (x3 : Int32) (x4 : Int32) (S : St) : Option (Int32 × St) :=
  Option.bind (fX6_append N (sh S 7) x4) (fun q1 => g12 ((x2, (x3 + 1), (stf (pt S 7 2 q1) 3 ((((pt S 7 2 q1) 3 0) + (1 : Int32)))))))
def fX9_readSum_b12 (N : Nat) (T : St) (g12 : Int32 × Int32 × St → Option (Int32 × St)) (x2 : Int32) (x3 : Int32) (S : St) : Option (Int32 × St) :=
  if (20 : Int32) ≤ x3 then (fX9_readSum_j85 N T x2 S) else (Option.bind (fX7_letterAt N T ((S 3 0))) (fun q2 => Option.bind (fX9_isDigit N q2) (fun q3 => if q3 = 0 then (Option.bind (fX6_isSign N q2) (fun q5 => if q5 = 0 then (fX9_readSum_j85 N T x2 S) else (if x2 ≤ 0 then (fX9_readSum_j85 N T x2 S) else (fX9_readSum_j60 N T g12 ((0 : Int32)) x3 q2 S)))) else (if (x2 + 1) ≤ (4 : Int32) then (fX9_readSum_j60 N T g12 ((x2 + 1)) x3 q2 S) else (some ((0 : Int32), S))))))
def fX9_readSum_l12 (N : Nat) (T : St) (k : Nat) (q : Int32 × Int32 × St) : Option (Int32 × St) := lpN (fun g q => fX9_readSum_b12 N T g q.1 q.2.1 q.2.2) k q
def fX9_readSum (N : Nat) (S : St) (T : St) : Option (Int32 × St) :=
  fX9_readSum_l12 N T N (((0 : Int32), (0 : Int32), (stf S 7 ((0 : Int32)))))
set_option maxRecDepth 100000 in
set_option maxHeartbeats 4000000 in
theorem wX9_readSum_85 (C : Cx p s m args meth c D cA cX9_readSum 5 RX9 (some .boolean)) (hA : ∀ q : Nat, s.heap.size ≤ q → A q) {N : Nat} {z : Int32 × St} {T : St} {x2 : Int32} {S : St} (hf : fX9_readSum_j85 N T x2 S = some z) {H : Heap} {locs : List Loc} {ls : Array Slot} (hP : va_P D vwCl (w_D_T cA a S b T) H) (hD : va_D A (w_D_T cA a S b T)) (hS : va_S A s.heap H locs) (hl : lv_has ls 5 [(2, .int x2)]) : W p l e (rmU 1 21 0 0) s m args below meth c H locs 0 0 (MQ below (QI D A z.1 (w_D_T cA a z.2 b T)) args s 0 0 A) (F0 m 85 ls []) := by
  obtain ⟨hx, hb, hml, hown, hts, hK, hN, hr, hlk⟩ := id C
  unfold fX9_readSum_j85 at hf
  refine lv_iload_n (pc := 85) hx hb dX9_readSum_85 rfl (lv_at hl 0 rfl) ?_
  refine lv_if_le (tgt := 93) (pc := 86) hx hb dX9_readSum_86 (by decide) (fun c1 => ?_) (fun c1 => ?_)
  · have hf := pt_t c1 hf
    refine lv_iconst (v := (0 : Int32)) (pc := 93) hx hb dX9_readSum_93 (by decide) ?_
    cases hf
    exact ret_z C (Or.inl rfl) hP hD hS dX9_readSum_94
  · have hf := pt_f c1 hf
    refine lv_iconst (v := (1 : Int32)) (pc := 89) hx hb dX9_readSum_89 (by decide) ?_
    refine lv_goto (tgt := 94) (pc := 90) hx hb dX9_readSum_90 (by decide) ?_
    cases hf
    exact ret_z C (Or.inr rfl) hP hD hS dX9_readSum_94
set_option maxRecDepth 100000 in
set_option maxHeartbeats 4000000 in
theorem wX9_readSum_60 (C : Cx p s m args meth c D cA cX9_readSum 5 RX9 (some .boolean)) (hA : ∀ q : Nat, s.heap.size ≤ q → A q) {N : Nat} {z : Int32 × St} {T : St} {g12 : Int32 × Int32 × St → Option (Int32 × St)} (hg12 : ∀ (x2 : Int32) (x3 : Int32) (S : St), g12 (x2, x3, S) = some z → ∀ (H : Heap) (locs : List Loc) (ls : Array Slot), va_P D vwCl (w_D_T cA a S b T) H → va_D A (w_D_T cA a S b T) → va_S A s.heap H locs → lv_has ls 5 [(0, .ref (a 0)), (1, .ref (b 0)), (2, .int x2), (3, .int x3)] → W p l e (rmU 1 21 0 0) s m args below meth c H locs 0 0 (MQ below (QI D A z.1 (w_D_T cA a z.2 b T)) args s 0 0 A) (F0 m 12 ls [])) {x2 : Int32} {x3 : Int32} {x4 : Int32} {S : St} (hf : fX9_readSum_j60 N T g12 x2 x3 x4 S = some z) {H : Heap} {locs : List Loc} {ls : Array Slot} (hP : va_P D vwCl (w_D_T cA a S b T) H) (hD : va_D A (w_D_T cA a S b T)) (hS : va_S A s.heap H locs) (hl : lv_has ls 5 [(0, .ref (a 0)), (1, .ref (b 0)), (2, .int x2), (3, .int x3), (4, .int x4)]) : W p l e (rmU 1 21 0 0) s m args below meth c H locs 0 0 (MQ below (QI D A z.1 (w_D_T cA a z.2 b T)) args s 0 0 A) (F0 m 60 ls []) := by
  obtain ⟨hx, hb, hml, hown, hts, hK, hN, hr, hlk⟩ := id C
  unfold fX9_readSum_j60 at hf
  refine lv_aload_n (pc := 60) hx hb dX9_readSum_60 rfl (lv_at hl 0 rfl) ?_
  refine ge_RX9_35_D_T_0_0 (pc := 61) C hP dX9_readSum_61 ?_
  refine lv_iload (pc := 64) hx hb dX9_readSum_64 (lv_at hl 4 rfl) ?_
  obtain ⟨q1, hq1, hf⟩ := pt_b hf
  have hPc : va_P D vwCl (w_U cA (sh a 4) (sh S 7)) H := hP.sub [4, 5] rfl
  have hDc : va_D A (w_U cA (sh a 4) (sh S 7)) := hD.sub [4, 5] (by decide) rfl
  refine upd_v (W1 := (w_U cA (sh a 4) q1)) (runU_V (pc := 66) (As := [.int x4]) (b := a 4) (rest := []) (ci := 5) (q0 := 0) C lk_RX9_104 (kX6_append l D cA (sh a 4) hq1 H.size) ⟨Nat.le_of_ble_eq_true rfl, Nat.le_of_ble_eq_true rfl⟩ ⟨Nat.le_refl _, Nat.le_refl _⟩ hPc hDc rfl rfl rfl hl.1 rfl (Nat.le_of_ble_eq_true rfl) dX9_readSum_66) hP hD hS hA [4, 5] rfl (by decide) rfl (fun H locs hP hD hS => ?_)
  have hP : va_P D vwCl (w_D_T cA a (pt S 7 2 q1) b T) H := hP
  have hD : va_D A (w_D_T cA a (pt S 7 2 q1) b T) := hD
  refine lv_aload_n (pc := 69) hx hb dX9_readSum_69 rfl (lv_at hl 0 rfl) ?_
  refine lv_dup (pc := 70) hx hb dX9_readSum_70 rfl ?_
  refine ge_RX9_39_D_T_0_0 (pc := 71) C hP dX9_readSum_71 ?_
  refine lv_iconst (v := (1 : Int32)) (pc := 74) hx hb dX9_readSum_74 (by decide) ?_
  refine lv_iadd (pc := 75) hx hb dX9_readSum_75 ?_
  refine pu_RX9_39_D_T_0_0 (pc := 76) C hP hD hS dX9_readSum_76 (fun H locs hP hD hS => ?_)
  refine lv_iinc (v := (x3 + 1)) (lv' := [(3, .int ((x3 + 1))), (0, .ref (a 0)), (1, .ref (b 0)), (2, .int x2), (4, .int x4)]) (pc := 79) hx hb dX9_readSum_79 hl (k := 3) rfl (by rfl) (by decide) rfl (fun ls hl => ?_)
  refine lv_goto (tgt := 12) (pc := 82) hx hb dX9_readSum_82 (by decide) ?_
  exact hg12 x2 ((x3 + 1)) ((stf (pt S 7 2 q1) 3 ((((pt S 7 2 q1) 3 0) + (1 : Int32))))) hf _ _ _ hP hD hS (lv_sub hl [1, 2, 3, 0] rfl)
set_option maxRecDepth 100000 in
set_option maxHeartbeats 4000000 in
theorem wX9_readSum_12 (C : Cx p s m args meth c D cA cX9_readSum 5 RX9 (some .boolean)) (hA : ∀ q : Nat, s.heap.size ≤ q → A q) {N : Nat} {z : Int32 × St} {T : St} : ∀ (k : Nat) (x2 : Int32) (x3 : Int32) (S : St), fX9_readSum_l12 N T k (x2, x3, S) = some z → ∀ (H : Heap) (locs : List Loc) (ls : Array Slot), va_P D vwCl (w_D_T cA a S b T) H → va_D A (w_D_T cA a S b T) → va_S A s.heap H locs → lv_has ls 5 [(0, .ref (a 0)), (1, .ref (b 0)), (2, .int x2), (3, .int x3)] → W p l e (rmU 1 21 0 0) s m args below meth c H locs 0 0 (MQ below (QI D A z.1 (w_D_T cA a z.2 b T)) args s 0 0 A) (F0 m 12 ls []) := by
  obtain ⟨hx, hb, hml, hown, hts, hK, hN, hr, hlk⟩ := id C
  intro k
  induction k with
  | zero =>
    intro x2 x3 S hf
    have hf : (none : Option (Int32 × St)) = some z := hf
    cases hf
  | succ k hg12 =>
    intro x2 x3 S hf H locs ls hP hD hS hl
    have hf : fX9_readSum_b12 N T (fX9_readSum_l12 N T k) x2 x3 S = some z := hf
    unfold fX9_readSum_b12 at hf
    refine lv_iload_n (pc := 12) hx hb dX9_readSum_12 rfl (lv_at hl 3 rfl) ?_
    refine lv_bipush (v := (20 : Int32)) (pc := 13) hx hb dX9_readSum_13 (by decide) ?_
    refine lv_icmp_ge (tgt := 85) (pc := 15) hx hb dX9_readSum_15 (by decide) (fun c1 => ?_) (fun c1 => ?_)
    · have hf := pt_t c1 hf
      exact wX9_readSum_85 C hA  hf hP hD hS (lv_sub hl [2] rfl)
    · have hf := pt_f c1 hf
      refine lv_aload_n (pc := 18) hx hb dX9_readSum_18 rfl (lv_at hl 1 rfl) ?_
      refine lv_aload_n (pc := 19) hx hb dX9_readSum_19 rfl (lv_at hl 0 rfl) ?_
      refine ge_RX9_39_D_T_0_0 (pc := 20) C hP dX9_readSum_20 ?_
      obtain ⟨q2, hq2, hf⟩ := pt_b hf
      have hPc : va_P D vwCl (w_T cA b T) H := hP.sub [6, 7] rfl
      have hDc : va_D A (w_T cA b T) := hD.sub [6, 7] (by decide) rfl
      refine prt_i (runU_V (pc := 23) (As := [.int ((S 3 0))]) (b := b 0) (rest := []) (ci := 6) (q0 := 0) C lk_RX9_55 (kX7_letterAt l D cA b hq2 H.size) ⟨Nat.le_of_ble_eq_true rfl, Nat.le_of_ble_eq_true rfl⟩ ⟨Nat.le_refl _, Nat.le_refl _⟩ hPc hDc rfl rfl rfl hl.1 rfl (Nat.le_of_ble_eq_true rfl) dX9_readSum_23) hP hD hS hA [6, 7] rfl (fun H locs hP hD hS => ?_)
      refine lv_istore (lv' := [(4, .int q2), (0, .ref (a 0)), (1, .ref (b 0)), (2, .int x2), (3, .int x3)]) (pc := 26) hx hb dX9_readSum_26 hl (by decide) rfl (fun ls hl => ?_)
      refine lv_iload (pc := 28) hx hb dX9_readSum_28 (lv_at hl 0 rfl) ?_
      obtain ⟨q3, hq3, hf⟩ := pt_b hf
      have hPc : va_P D vwCl ([] : va_W) H := hP.sub [] rfl
      have hDc : va_D A ([] : va_W) := hD.sub [] (by decide) rfl
      refine prt_i (runU_S (pc := 30) (As := [.int q2]) (rest := []) C lk_RX9_98 (kX9_isDigit l D cA hq3 H.size) ⟨Nat.le_of_ble_eq_true rfl, Nat.le_of_ble_eq_true rfl⟩ ⟨Nat.le_refl _, Nat.le_refl _⟩ hPc hDc hl.1 rfl (Nat.le_of_ble_eq_true rfl) dX9_readSum_30) hP hD hS hA [] rfl (fun H locs hP hD hS => ?_)
      refine lv_if_eq (tgt := 46) (pc := 33) hx hb dX9_readSum_33 (by decide) (fun c4 => ?_) (fun c4 => ?_)
      · have hf := pt_t c4 hf
        refine lv_iload (pc := 46) hx hb dX9_readSum_46 (lv_at hl 0 rfl) ?_
        obtain ⟨q5, hq5, hf⟩ := pt_b hf
        have hPc : va_P D vwCl ([] : va_W) H := hP.sub [] rfl
        have hDc : va_D A ([] : va_W) := hD.sub [] (by decide) rfl
        refine prt_i (runU_S (pc := 48) (As := [.int q2]) (rest := []) C lk_RX9_101 (kX6_isSign l D cA hq5 H.size) ⟨Nat.le_of_ble_eq_true rfl, Nat.le_of_ble_eq_true rfl⟩ ⟨Nat.le_refl _, Nat.le_refl _⟩ hPc hDc hl.1 rfl (Nat.le_of_ble_eq_true rfl) dX9_readSum_48) hP hD hS hA [] rfl (fun H locs hP hD hS => ?_)
        refine lv_if_eq (tgt := 85) (pc := 51) hx hb dX9_readSum_51 (by decide) (fun c6 => ?_) (fun c6 => ?_)
        · have hf := pt_t c6 hf
          exact wX9_readSum_85 C hA  hf hP hD hS (lv_sub hl [3] rfl)
        · have hf := pt_f c6 hf
          refine lv_iload_n (pc := 54) hx hb dX9_readSum_54 rfl (lv_at hl 3 rfl) ?_
          refine lv_if_le (tgt := 85) (pc := 55) hx hb dX9_readSum_55 (by decide) (fun c7 => ?_) (fun c7 => ?_)
          · have hf := pt_t c7 hf
            exact wX9_readSum_85 C hA  hf hP hD hS (lv_sub hl [3] rfl)
          · have hf := pt_f c7 hf
            refine lv_iconst (v := (0 : Int32)) (pc := 58) hx hb dX9_readSum_58 (by decide) ?_
            refine lv_istore_n (lv' := [(2, .int ((0 : Int32))), (4, .int q2), (0, .ref (a 0)), (1, .ref (b 0)), (3, .int x3)]) (pc := 59) hx hb dX9_readSum_59 rfl hl (by decide) rfl (fun ls hl => ?_)
            exact wX9_readSum_60 C hA hg12 hf hP hD hS (lv_sub hl [2, 3, 0, 4, 1] rfl)
      · have hf := pt_f c4 hf
        refine lv_iinc (v := (x2 + 1)) (lv' := [(2, .int ((x2 + 1))), (4, .int q2), (0, .ref (a 0)), (1, .ref (b 0)), (3, .int x3)]) (pc := 36) hx hb dX9_readSum_36 hl (k := 3) rfl (by rfl) (by decide) rfl (fun ls hl => ?_)
        refine lv_iload_n (pc := 39) hx hb dX9_readSum_39 rfl (lv_at hl 0 rfl) ?_
        refine lv_iconst (v := (4 : Int32)) (pc := 40) hx hb dX9_readSum_40 (by decide) ?_
        refine lv_icmp_le (tgt := 60) (pc := 41) hx hb dX9_readSum_41 (by decide) (fun c8 => ?_) (fun c8 => ?_)
        · have hf := pt_t c8 hf
          exact wX9_readSum_60 C hA hg12 hf hP hD hS (lv_sub hl [2, 3, 0, 4, 1] rfl)
        · have hf := pt_f c8 hf
          refine lv_iconst (v := (0 : Int32)) (pc := 44) hx hb dX9_readSum_44 (by decide) ?_
          cases hf
          exact ret_z C (Or.inl rfl) hP hD hS dX9_readSum_45
set_option maxRecDepth 100000 in
set_option maxHeartbeats 4000000 in
theorem wX9_readSum (C : Cx p s m args meth c D cA cX9_readSum 5 RX9 (some .boolean)) (hA : ∀ q : Nat, s.heap.size ≤ q → A q) {N : Nat} {z : Int32 × St} {S : St} {T : St} (hf : fX9_readSum N S T = some z) {H : Heap} {locs : List Loc} {ls : Array Slot} (hP : va_P D vwCl (w_D_T cA a S b T) H) (hD : va_D A (w_D_T cA a S b T)) (hS : va_S A s.heap H locs) (hl : lv_has ls 5 [(0, .ref (a 0)), (1, .ref (b 0))]) : W p l e (rmU 1 21 0 0) s m args below meth c H locs 0 0 (MQ below (QI D A z.1 (w_D_T cA a z.2 b T)) args s 0 0 A) (F0 m 0 ls []) := by
  obtain ⟨hx, hb, hml, hown, hts, hK, hN, hr, hlk⟩ := id C
  unfold fX9_readSum at hf
  refine lv_iconst (v := (0 : Int32)) (pc := 0) hx hb dX9_readSum_0 (by decide) ?_
  refine lv_istore_n (lv' := [(2, .int ((0 : Int32))), (0, .ref (a 0)), (1, .ref (b 0))]) (pc := 1) hx hb dX9_readSum_1 rfl hl (by decide) rfl (fun ls hl => ?_)
  refine lv_aload_n (pc := 2) hx hb dX9_readSum_2 rfl (lv_at hl 1 rfl) ?_
  refine ge_RX9_35_D_T_0_0 (pc := 3) C hP dX9_readSum_3 ?_
  refine lv_iconst (v := (0 : Int32)) (pc := 6) hx hb dX9_readSum_6 (by decide) ?_
  refine pu_RX9_45_D_T_0_4 (pc := 7) C hP hD hS dX9_readSum_7 (fun H locs hP hD hS => ?_)
  refine lv_iconst (v := (0 : Int32)) (pc := 10) hx hb dX9_readSum_10 (by decide) ?_
  refine lv_istore_n (lv' := [(3, .int ((0 : Int32))), (2, .int ((0 : Int32))), (0, .ref (a 0)), (1, .ref (b 0))]) (pc := 11) hx hb dX9_readSum_11 rfl hl (by decide) rfl (fun ls hl => ?_)
  exact wX9_readSum_12 C hA  _ ((0 : Int32)) ((0 : Int32)) ((stf S 7 ((0 : Int32)))) hf _ _ _ hP hD hS (lv_sub hl [2, 3, 1, 0] rfl)
set_option maxRecDepth 100000 in
set_option maxHeartbeats 4000000 in
theorem kX9_readSum (l : Launch) (D : va_G) (cA : Nat → ClassId) (a : Nat → Nat) (b : Nat → Nat) {N : Nat} {S : St} {T : St} {z : Int32 × St} (hf : fX9_readSum N S T = some z) : CtI l yX9_readSum cX9_readSum 5 (some .boolean) 1 21 D cA (w_D_T cA a S b T) (w_D_T cA a z.2 b T) [.ref (a 0), .ref (b 0)] z.1 := by
  intro sz
  refine Met.ofW (cc := cX9_readSum) (maxL := 5) (ret := (some .boolean)) (by decide) rfl ?_
  intro p e s m args below meth c s₁ B hml hv
  obtain ⟨rfl, hsz, hP, hK, hD0⟩ := hv
  subst hsz
  have C : Cx p s m _ meth c D cA cX9_readSum 5 RX9 (some .boolean) := Cx.of B hml hK
  have hD := hD0.self (sz := s.heap.size)
  have hA : ∀ q : Nat, s.heap.size ≤ q → va_A (w_D_T cA a S b T) s.heap.size q := fun q h => Or.inr h
  have hS : va_S (va_A (w_D_T cA a S b T) s.heap.size) s.heap s.heap [] := va_S.rf
  have hl := lv_entry ([.ref (a 0), .ref (b 0)]) (n := 5) (Nat.le_of_ble_eq_true rfl)
  rw [lg_entry_eq]
  generalize (lg_sl ([.ref (a 0), .ref (b 0)]) ++ List.replicate (5 - (lg_sl ([.ref (a 0), .ref (b 0)])).length) Slot.unset).toArray = ls at hl ⊢
  exact wX9_readSum C hA hf hP hD hS hl
theorem lk_RX9_65 : LkV RX9 65 yX9_readCoin cX9_readCoin 3 (some .boolean) 1 := ⟨⟨by decide +kernel, by decide +kernel, by decide +kernel, by decide +kernel, by decide +kernel, by decide +kernel⟩, by decide +kernel, by decide +kernel⟩
theorem lk_RX9_68 : LkV RX9 68 yX9_readSides cX9_readSides 2 (some .boolean) 1 := ⟨⟨by decide +kernel, by decide +kernel, by decide +kernel, by decide +kernel, by decide +kernel, by decide +kernel⟩, by decide +kernel, by decide +kernel⟩
theorem lk_RX9_74 : LkV RX9 74 yX9_readSum cX9_readSum 5 (some .boolean) 1 := ⟨⟨by decide +kernel, by decide +kernel, by decide +kernel, by decide +kernel, by decide +kernel, by decide +kernel⟩, by decide +kernel, by decide +kernel⟩
theorem lk_RX9_62 : LkV RX9 62 yX9_readStandIn cX9_readStandIn 4 (some .boolean) 1 := ⟨⟨by decide +kernel, by decide +kernel, by decide +kernel, by decide +kernel, by decide +kernel, by decide +kernel⟩, by decide +kernel, by decide +kernel⟩
theorem lk_RX9_71 : LkV RX9 71 yX9_readWeek cX9_readWeek 2 (some .boolean) 1 := ⟨⟨by decide +kernel, by decide +kernel, by decide +kernel, by decide +kernel, by decide +kernel, by decide +kernel⟩, by decide +kernel, by decide +kernel⟩
theorem lk_RX9_59 : LkV RX9 59 yX9_readStrike cX9_readStrike 3 (some .boolean) 1 := ⟨⟨by decide +kernel, by decide +kernel, by decide +kernel, by decide +kernel, by decide +kernel, by decide +kernel⟩, by decide +kernel, by decide +kernel⟩
def fX9_readItem (N : Nat) (S : St) (T : St) : Option (Int32 × St) :=
  Option.bind (fX7_letterAt N T ((S 3 0))) (fun q1 => if q1 = (99 : Int32) then (Option.bind (fX9_readCoin N (stf S 3 (((S 3 0) + (1 : Int32)))) T) (fun q3 => if q3.1 = 0 ∨ q3.1 = 1 then (some (q3.1, q3.2)) else none)) else (if q1 = (100 : Int32) then (Option.bind (fX9_readSides N (stf S 3 (((S 3 0) + (1 : Int32)))) T) (fun q6 => if q6.1 = 0 ∨ q6.1 = 1 then (some (q6.1, q6.2)) else none)) else (if q1 = (101 : Int32) then (Option.bind (fX9_readSum N (stf S 3 (((S 3 0) + (1 : Int32)))) T) (fun q9 => if q9.1 = 0 ∨ q9.1 = 1 then (some (q9.1, q9.2)) else none)) else (if q1 = (102 : Int32) then (Option.bind (fX9_readStandIn N (stf S 3 (((S 3 0) + (1 : Int32)))) T) (fun q12 => if q12.1 = 0 ∨ q12.1 = 1 then (some (q12.1, q12.2)) else none)) else (if q1 = (119 : Int32) then (Option.bind (fX9_readWeek N (stf S 3 (((S 3 0) + (1 : Int32)))) T) (fun q15 => if q15.1 = 0 ∨ q15.1 = 1 then (some (q15.1, q15.2)) else none)) else (if q1 = (120 : Int32) then (Option.bind (fX9_readStrike N (stf S 3 (((S 3 0) + (1 : Int32)))) T) (fun q18 => if q18.1 = 0 ∨ q18.1 = 1 then (some (q18.1, q18.2)) else none)) else (some ((0 : Int32), (stf S 3 (((S 3 0) + (1 : Int32))))))))))))
set_option maxRecDepth 100000 in
set_option maxHeartbeats 4000000 in
theorem wX9_readItem (C : Cx p s m args meth c D cA cX9_readItem 3 RX9 (some .boolean)) (hA : ∀ q : Nat, s.heap.size ≤ q → A q) {N : Nat} {z : Int32 × St} {S : St} {T : St} (hf : fX9_readItem N S T = some z) {H : Heap} {locs : List Loc} {ls : Array Slot} (hP : va_P D vwCl (w_D_T cA a S b T) H) (hD : va_D A (w_D_T cA a S b T)) (hS : va_S A s.heap H locs) (hl : lv_has ls 3 [(0, .ref (a 0)), (1, .ref (b 0))]) : W p l e (rmU 3 67 0 0) s m args below meth c H locs 0 0 (MQ below (QI D A z.1 (w_D_T cA a z.2 b T)) args s 0 0 A) (F0 m 0 ls []) := by
  obtain ⟨hx, hb, hml, hown, hts, hK, hN, hr, hlk⟩ := id C
  unfold fX9_readItem at hf
  refine lv_aload_n (pc := 0) hx hb dX9_readItem_0 rfl (lv_at hl 1 rfl) ?_
  refine lv_aload_n (pc := 1) hx hb dX9_readItem_1 rfl (lv_at hl 0 rfl) ?_
  refine ge_RX9_39_D_T_0_0 (pc := 2) C hP dX9_readItem_2 ?_
  obtain ⟨q1, hq1, hf⟩ := pt_b hf
  have hPc : va_P D vwCl (w_T cA b T) H := hP.sub [6, 7] rfl
  have hDc : va_D A (w_T cA b T) := hD.sub [6, 7] (by decide) rfl
  refine prt_i (runU_V (pc := 5) (As := [.int ((S 3 0))]) (b := b 0) (rest := []) (ci := 6) (q0 := 0) C lk_RX9_55 (kX7_letterAt l D cA b hq1 H.size) ⟨Nat.le_of_ble_eq_true rfl, Nat.le_of_ble_eq_true rfl⟩ ⟨Nat.le_refl _, Nat.le_refl _⟩ hPc hDc rfl rfl rfl hl.1 rfl (Nat.le_of_ble_eq_true rfl) dX9_readItem_5) hP hD hS hA [6, 7] rfl (fun H locs hP hD hS => ?_)
  refine lv_istore_n (lv' := [(2, .int q1), (0, .ref (a 0)), (1, .ref (b 0))]) (pc := 8) hx hb dX9_readItem_8 rfl hl (by decide) rfl (fun ls hl => ?_)
  refine lv_aload_n (pc := 9) hx hb dX9_readItem_9 rfl (lv_at hl 1 rfl) ?_
  refine lv_dup (pc := 10) hx hb dX9_readItem_10 rfl ?_
  refine ge_RX9_39_D_T_0_0 (pc := 11) C hP dX9_readItem_11 ?_
  refine lv_iconst (v := (1 : Int32)) (pc := 14) hx hb dX9_readItem_14 (by decide) ?_
  refine lv_iadd (pc := 15) hx hb dX9_readItem_15 ?_
  refine pu_RX9_39_D_T_0_0 (pc := 16) C hP hD hS dX9_readItem_16 (fun H locs hP hD hS => ?_)
  refine lv_iload_n (pc := 19) hx hb dX9_readItem_19 rfl (lv_at hl 0 rfl) ?_
  by_cases c2 : q1 = (99 : Int32)
  · have hf := pt_t c2 hf
    refine lv_lookup (off := 72) (tgt := 92) (pc := 20) hx hb dX9_readItem_20 (by decide) (by rw [c2]; decide) (by decide) ?_
    refine lv_aload_n (pc := 92) hx hb dX9_readItem_92 rfl (lv_at hl 1 rfl) ?_
    refine lv_aload_n (pc := 93) hx hb dX9_readItem_93 rfl (lv_at hl 2 rfl) ?_
    obtain ⟨q3, hq3, hf⟩ := pt_b hf
    refine all_i (runU_V (pc := 94) (As := [.ref (b 0)]) (b := a 0) (rest := []) (ci := 8) (q0 := 0) C lk_RX9_65 (kX9_readCoin l D cA a b hq3 H.size) ⟨Nat.le_of_ble_eq_true rfl, Nat.le_of_ble_eq_true rfl⟩ ⟨Nat.le_refl _, Nat.le_refl _⟩ hP hD rfl rfl rfl hl.1 rfl (Nat.le_of_ble_eq_true rfl) dX9_readItem_94) hD hS hA (fun H locs hP hD hS => ?_)
    obtain ⟨h4, hf⟩ := pt_g hf
    cases hf
    exact ret_z C h4 hP hD hS dX9_readItem_97
  · have hf := pt_f c2 hf
    by_cases c5 : q1 = (100 : Int32)
    · have hf := pt_t c5 hf
      refine lv_lookup (off := 78) (tgt := 98) (pc := 20) hx hb dX9_readItem_20 (by decide) (by rw [c5]; decide) (by decide) ?_
      refine lv_aload_n (pc := 98) hx hb dX9_readItem_98 rfl (lv_at hl 1 rfl) ?_
      refine lv_aload_n (pc := 99) hx hb dX9_readItem_99 rfl (lv_at hl 2 rfl) ?_
      obtain ⟨q6, hq6, hf⟩ := pt_b hf
      refine all_i (runU_V (pc := 100) (As := [.ref (b 0)]) (b := a 0) (rest := []) (ci := 8) (q0 := 0) C lk_RX9_68 (kX9_readSides l D cA a b hq6 H.size) ⟨Nat.le_of_ble_eq_true rfl, Nat.le_of_ble_eq_true rfl⟩ ⟨Nat.le_refl _, Nat.le_refl _⟩ hP hD rfl rfl rfl hl.1 rfl (Nat.le_of_ble_eq_true rfl) dX9_readItem_100) hD hS hA (fun H locs hP hD hS => ?_)
      obtain ⟨h7, hf⟩ := pt_g hf
      cases hf
      exact ret_z C h7 hP hD hS dX9_readItem_103
    · have hf := pt_f c5 hf
      by_cases c8 : q1 = (101 : Int32)
      · have hf := pt_t c8 hf
        refine lv_lookup (off := 90) (tgt := 110) (pc := 20) hx hb dX9_readItem_20 (by decide) (by rw [c8]; decide) (by decide) ?_
        refine lv_aload_n (pc := 110) hx hb dX9_readItem_110 rfl (lv_at hl 1 rfl) ?_
        refine lv_aload_n (pc := 111) hx hb dX9_readItem_111 rfl (lv_at hl 2 rfl) ?_
        obtain ⟨q9, hq9, hf⟩ := pt_b hf
        refine all_i (runU_V (pc := 112) (As := [.ref (b 0)]) (b := a 0) (rest := []) (ci := 8) (q0 := 0) C lk_RX9_74 (kX9_readSum l D cA a b hq9 H.size) ⟨Nat.le_of_ble_eq_true rfl, Nat.le_of_ble_eq_true rfl⟩ ⟨Nat.le_refl _, Nat.le_refl _⟩ hP hD rfl rfl rfl hl.1 rfl (Nat.le_of_ble_eq_true rfl) dX9_readItem_112) hD hS hA (fun H locs hP hD hS => ?_)
        obtain ⟨h10, hf⟩ := pt_g hf
        cases hf
        exact ret_z C h10 hP hD hS dX9_readItem_115
      · have hf := pt_f c8 hf
        by_cases c11 : q1 = (102 : Int32)
        · have hf := pt_t c11 hf
          refine lv_lookup (off := 66) (tgt := 86) (pc := 20) hx hb dX9_readItem_20 (by decide) (by rw [c11]; decide) (by decide) ?_
          refine lv_aload_n (pc := 86) hx hb dX9_readItem_86 rfl (lv_at hl 1 rfl) ?_
          refine lv_aload_n (pc := 87) hx hb dX9_readItem_87 rfl (lv_at hl 2 rfl) ?_
          obtain ⟨q12, hq12, hf⟩ := pt_b hf
          refine all_i (runU_V (pc := 88) (As := [.ref (b 0)]) (b := a 0) (rest := []) (ci := 8) (q0 := 0) C lk_RX9_62 (kX9_readStandIn l D cA a b hq12 H.size) ⟨Nat.le_of_ble_eq_true rfl, Nat.le_of_ble_eq_true rfl⟩ ⟨Nat.le_refl _, Nat.le_refl _⟩ hP hD rfl rfl rfl hl.1 rfl (Nat.le_of_ble_eq_true rfl) dX9_readItem_88) hD hS hA (fun H locs hP hD hS => ?_)
          obtain ⟨h13, hf⟩ := pt_g hf
          cases hf
          exact ret_z C h13 hP hD hS dX9_readItem_91
        · have hf := pt_f c11 hf
          by_cases c14 : q1 = (119 : Int32)
          · have hf := pt_t c14 hf
            refine lv_lookup (off := 84) (tgt := 104) (pc := 20) hx hb dX9_readItem_20 (by decide) (by rw [c14]; decide) (by decide) ?_
            refine lv_aload_n (pc := 104) hx hb dX9_readItem_104 rfl (lv_at hl 1 rfl) ?_
            refine lv_aload_n (pc := 105) hx hb dX9_readItem_105 rfl (lv_at hl 2 rfl) ?_
            obtain ⟨q15, hq15, hf⟩ := pt_b hf
            refine all_i (runU_V (pc := 106) (As := [.ref (b 0)]) (b := a 0) (rest := []) (ci := 8) (q0 := 0) C lk_RX9_71 (kX9_readWeek l D cA a b hq15 H.size) ⟨Nat.le_of_ble_eq_true rfl, Nat.le_of_ble_eq_true rfl⟩ ⟨Nat.le_refl _, Nat.le_refl _⟩ hP hD rfl rfl rfl hl.1 rfl (Nat.le_of_ble_eq_true rfl) dX9_readItem_106) hD hS hA (fun H locs hP hD hS => ?_)
            obtain ⟨h16, hf⟩ := pt_g hf
            cases hf
            exact ret_z C h16 hP hD hS dX9_readItem_109
          · have hf := pt_f c14 hf
            by_cases c17 : q1 = (120 : Int32)
            · have hf := pt_t c17 hf
              refine lv_lookup (off := 60) (tgt := 80) (pc := 20) hx hb dX9_readItem_20 (by decide) (by rw [c17]; decide) (by decide) ?_
              refine lv_aload_n (pc := 80) hx hb dX9_readItem_80 rfl (lv_at hl 1 rfl) ?_
              refine lv_aload_n (pc := 81) hx hb dX9_readItem_81 rfl (lv_at hl 2 rfl) ?_
              obtain ⟨q18, hq18, hf⟩ := pt_b hf
              refine all_i (runU_V (pc := 82) (As := [.ref (b 0)]) (b := a 0) (rest := []) (ci := 8) (q0 := 0) C lk_RX9_59 (kX9_readStrike l D cA a b hq18 H.size) ⟨Nat.le_of_ble_eq_true rfl, Nat.le_of_ble_eq_true rfl⟩ ⟨Nat.le_refl _, Nat.le_refl _⟩ hP hD rfl rfl rfl hl.1 rfl (Nat.le_of_ble_eq_true rfl) dX9_readItem_82) hD hS hA (fun H locs hP hD hS => ?_)
              obtain ⟨h19, hf⟩ := pt_g hf
              cases hf
              exact ret_z C h19 hP hD hS dX9_readItem_85
            · have hf := pt_f c17 hf
              refine lv_lookup (off := 96) (tgt := 116) (pc := 20) hx hb dX9_readItem_20 (by decide) (by show Op.lookupswitch.offset [(99, 72), (100, 78), (101, 90), (102, 66), (119, 84), (120, 60)] _ _ = _; rw [lv_osw (a := 99) c2 (by decide), lv_osw (a := 100) c5 (by decide), lv_osw (a := 101) c8 (by decide), lv_osw (a := 102) c11 (by decide), lv_osw (a := 119) c14 (by decide), lv_osw (a := 120) c17 (by decide)]; rfl) (by decide) ?_
              refine lv_iconst (v := (0 : Int32)) (pc := 116) hx hb dX9_readItem_116 (by decide) ?_
              cases hf
              exact ret_z C (Or.inl rfl) hP hD hS dX9_readItem_117
set_option maxRecDepth 100000 in
set_option maxHeartbeats 4000000 in
theorem kX9_readItem (l : Launch) (D : va_G) (cA : Nat → ClassId) (a : Nat → Nat) (b : Nat → Nat) {N : Nat} {S : St} {T : St} {z : Int32 × St} (hf : fX9_readItem N S T = some z) : CtI l yX9_readItem cX9_readItem 3 (some .boolean) 3 67 D cA (w_D_T cA a S b T) (w_D_T cA a z.2 b T) [.ref (a 0), .ref (b 0)] z.1 := by
  intro sz
  refine Met.ofW (cc := cX9_readItem) (maxL := 3) (ret := (some .boolean)) (by decide) rfl ?_
  intro p e s m args below meth c s₁ B hml hv
  obtain ⟨rfl, hsz, hP, hK, hD0⟩ := hv
  subst hsz
  have C : Cx p s m _ meth c D cA cX9_readItem 3 RX9 (some .boolean) := Cx.of B hml hK
  have hD := hD0.self (sz := s.heap.size)
  have hA : ∀ q : Nat, s.heap.size ≤ q → va_A (w_D_T cA a S b T) s.heap.size q := fun q h => Or.inr h
  have hS : va_S (va_A (w_D_T cA a S b T) s.heap.size) s.heap s.heap [] := va_S.rf
  have hl := lv_entry ([.ref (a 0), .ref (b 0)]) (n := 3) (Nat.le_of_ble_eq_true rfl)
  rw [lg_entry_eq]
  generalize (lg_sl ([.ref (a 0), .ref (b 0)]) ++ List.replicate (3 - (lg_sl ([.ref (a 0), .ref (b 0)])).length) Slot.unset).toArray = ls at hl ⊢
  exact wX9_readItem C hA hf hP hD hS hl
theorem fl_RX9_50 : Cond.fieldLink RX9 50 "SevenOnStrike$Text" "length" "I" ∈ wsL_law := by decide +kernel
theorem ge_RX9_50_D_T_1_0 (C : Cx p s m args meth c D cA cc nL RX9 ret) (hP : va_P D vwCl (w_D_T cA a S b T) H) (hdg : decode cc pc = .ok (.getfield 50, 3)) (kk : W p l e R s m args below meth c H locs cells slots Q (F0 m (pc + 3) ls (.int (T 0 0) :: rest))) : W p l e R s m args below meth c H locs cells slots Q (F0 m pc ls (.ref (b 0) :: rest)) := by
  obtain ⟨hx, hb, -, hown, hts, hK, -, -, -⟩ := C
  exact va_get (D := D) (ci := 6) (v := .int (T 0 0)) (C := RX7) (T := TX7) (N := 2) hx hb hts inlX7 hown hK hP 6 rfl rfl 1 (by decide) (hts _ fl_RX9_50) (fun _ h9 => h9) rfl hdg kk
theorem lk_RX9_51 : LkV RX9 51 yX9_readItem cX9_readItem 3 (some .boolean) 1 := ⟨⟨by decide +kernel, by decide +kernel, by decide +kernel, by decide +kernel, by decide +kernel, by decide +kernel⟩, by decide +kernel, by decide +kernel⟩
theorem lk_RX9_42 : LkV RX9 42 yX0_clear cX0_clear 2 none 0 := ⟨⟨by decide +kernel, by decide +kernel, by decide +kernel, by decide +kernel, by decide +kernel, by decide +kernel⟩, by decide +kernel, by decide +kernel⟩
def fX9_readFrom_b39 (N : Nat) (T : St) (g39 : Int32 × St → Option (Int32 × St)) (x2 : Int32) (S : St) : Option (Int32 × St) :=
  if (200 : Int32) ≤ x2 then (some ((-4 : Int32), S)) else (if (T 0 0) ≤ (S 3 0) then (some ((-4 : Int32), S)) else (Option.bind (fX9_readItem N S T) (fun q3 => if q3.1 = 0 then (some ((S 3 0), q3.2)) else (Option.bind (fX7_letterAt N T ((q3.2 3 0))) (fun q5 => if q5 = (59 : Int32) then (g39 (((x2 + 1), (stf q3.2 3 (((q3.2 3 0) + (1 : Int32))))))) else (some ((S 3 0), q3.2)))))))
def fX9_readFrom_l39 (N : Nat) (T : St) (k : Nat) (q : Int32 × St) : Option (Int32 × St) := lpN (fun g q => fX9_readFrom_b39 N T g q.1 q.2) k q
def fX9_readFrom (N : Nat) (S : St) (T : St) : Option (Int32 × St) :=
  Option.bind (fX0_clear N (sh S 5)) (fun q1 => fX9_readFrom_l39 N T N (((0 : Int32), (stf (stf (stf (stf (stf (pt S 5 2 q1) 0 ((0 : Int32))) 1 ((6 : Int32))) 2 ((7 : Int32))) 7 ((0 : Int32))) 3 ((0 : Int32))))))
set_option maxRecDepth 100000 in
set_option maxHeartbeats 4000000 in
theorem wX9_readFrom_39 (C : Cx p s m args meth c D cA cX9_readFrom 4 RX9 (some .int)) (hA : ∀ q : Nat, s.heap.size ≤ q → A q) {N : Nat} {z : Int32 × St} {T : St} : ∀ (k : Nat) (x2 : Int32) (S : St), fX9_readFrom_l39 N T k (x2, S) = some z → ∀ (H : Heap) (locs : List Loc) (ls : Array Slot), va_P D vwCl (w_D_T cA a S b T) H → va_D A (w_D_T cA a S b T) → va_S A s.heap H locs → lv_has ls 4 [(0, .ref (a 0)), (1, .ref (b 0)), (2, .int x2)] → W p l e (rmU 4 89 0 0) s m args below meth c H locs 0 0 (MQ below (QI D A z.1 (w_D_T cA a z.2 b T)) args s 0 0 A) (F0 m 39 ls []) := by
  obtain ⟨hx, hb, hml, hown, hts, hK, hN, hr, hlk⟩ := id C
  intro k
  induction k with
  | zero =>
    intro x2 S hf
    have hf : (none : Option (Int32 × St)) = some z := hf
    cases hf
  | succ k hg39 =>
    intro x2 S hf H locs ls hP hD hS hl
    have hf : fX9_readFrom_b39 N T (fX9_readFrom_l39 N T k) x2 S = some z := hf
    unfold fX9_readFrom_b39 at hf
    refine lv_iload_n (pc := 39) hx hb dX9_readFrom_39 rfl (lv_at hl 2 rfl) ?_
    refine lv_sipush (v := (200 : Int32)) (pc := 40) hx hb dX9_readFrom_40 (by decide) ?_
    refine lv_icmp_ge (tgt := 101) (pc := 43) hx hb dX9_readFrom_43 (by decide) (fun c1 => ?_) (fun c1 => ?_)
    · have hf := pt_t c1 hf
      refine lv_bipush (v := (-4 : Int32)) (pc := 101) hx hb dX9_readFrom_101 (by decide) ?_
      cases hf
      exact ret_i C hP hD hS dX9_readFrom_103
    · have hf := pt_f c1 hf
      refine lv_aload_n (pc := 46) hx hb dX9_readFrom_46 rfl (lv_at hl 0 rfl) ?_
      refine ge_RX9_39_D_T_0_0 (pc := 47) C hP dX9_readFrom_47 ?_
      refine lv_aload_n (pc := 50) hx hb dX9_readFrom_50 rfl (lv_at hl 1 rfl) ?_
      refine ge_RX9_50_D_T_1_0 (pc := 51) C hP dX9_readFrom_51 ?_
      refine lv_icmp_ge (tgt := 101) (pc := 54) hx hb dX9_readFrom_54 (by decide) (fun c2 => ?_) (fun c2 => ?_)
      · have hf := pt_t c2 hf
        refine lv_bipush (v := (-4 : Int32)) (pc := 101) hx hb dX9_readFrom_101 (by decide) ?_
        cases hf
        exact ret_i C hP hD hS dX9_readFrom_103
      · have hf := pt_f c2 hf
        refine lv_aload_n (pc := 57) hx hb dX9_readFrom_57 rfl (lv_at hl 0 rfl) ?_
        refine ge_RX9_39_D_T_0_0 (pc := 58) C hP dX9_readFrom_58 ?_
        refine lv_istore_n (lv' := [(3, .int ((S 3 0))), (0, .ref (a 0)), (1, .ref (b 0)), (2, .int x2)]) (pc := 61) hx hb dX9_readFrom_61 rfl hl (by decide) rfl (fun ls hl => ?_)
        refine lv_aload_n (pc := 62) hx hb dX9_readFrom_62 rfl (lv_at hl 1 rfl) ?_
        refine lv_aload_n (pc := 63) hx hb dX9_readFrom_63 rfl (lv_at hl 2 rfl) ?_
        obtain ⟨q3, hq3, hf⟩ := pt_b hf
        refine all_i (runU_V (pc := 64) (As := [.ref (b 0)]) (b := a 0) (rest := []) (ci := 8) (q0 := 0) C lk_RX9_51 (kX9_readItem l D cA a b hq3 H.size) ⟨Nat.le_of_ble_eq_true rfl, Nat.le_of_ble_eq_true rfl⟩ ⟨Nat.le_refl _, Nat.le_refl _⟩ hP hD rfl rfl rfl hl.1 rfl (Nat.le_of_ble_eq_true rfl) dX9_readFrom_64) hD hS hA (fun H locs hP hD hS => ?_)
        refine lv_if_eq (tgt := 83) (pc := 67) hx hb dX9_readFrom_67 (by decide) (fun c4 => ?_) (fun c4 => ?_)
        · have hf := pt_t c4 hf
          refine lv_iload_n (pc := 83) hx hb dX9_readFrom_83 rfl (lv_at hl 0 rfl) ?_
          cases hf
          exact ret_i C hP hD hS dX9_readFrom_84
        · have hf := pt_f c4 hf
          refine lv_aload_n (pc := 70) hx hb dX9_readFrom_70 rfl (lv_at hl 2 rfl) ?_
          refine lv_aload_n (pc := 71) hx hb dX9_readFrom_71 rfl (lv_at hl 1 rfl) ?_
          refine ge_RX9_39_D_T_0_0 (pc := 72) C hP dX9_readFrom_72 ?_
          obtain ⟨q5, hq5, hf⟩ := pt_b hf
          have hPc : va_P D vwCl (w_T cA b T) H := hP.sub [6, 7] rfl
          have hDc : va_D A (w_T cA b T) := hD.sub [6, 7] (by decide) rfl
          refine prt_i (runU_V (pc := 75) (As := [.int ((q3.2 3 0))]) (b := b 0) (rest := []) (ci := 6) (q0 := 0) C lk_RX9_55 (kX7_letterAt l D cA b hq5 H.size) ⟨Nat.le_of_ble_eq_true rfl, Nat.le_of_ble_eq_true rfl⟩ ⟨Nat.le_refl _, Nat.le_refl _⟩ hPc hDc rfl rfl rfl hl.1 rfl (Nat.le_of_ble_eq_true rfl) dX9_readFrom_75) hP hD hS hA [6, 7] rfl (fun H locs hP hD hS => ?_)
          refine lv_bipush (v := (59 : Int32)) (pc := 78) hx hb dX9_readFrom_78 (by decide) ?_
          refine lv_icmp_eq (tgt := 85) (pc := 80) hx hb dX9_readFrom_80 (by decide) (fun c6 => ?_) (fun c6 => ?_)
          · have hf := pt_t c6 hf
            refine lv_aload_n (pc := 85) hx hb dX9_readFrom_85 rfl (lv_at hl 1 rfl) ?_
            refine lv_dup (pc := 86) hx hb dX9_readFrom_86 rfl ?_
            refine ge_RX9_39_D_T_0_0 (pc := 87) C hP dX9_readFrom_87 ?_
            refine lv_iconst (v := (1 : Int32)) (pc := 90) hx hb dX9_readFrom_90 (by decide) ?_
            refine lv_iadd (pc := 91) hx hb dX9_readFrom_91 ?_
            refine pu_RX9_39_D_T_0_0 (pc := 92) C hP hD hS dX9_readFrom_92 (fun H locs hP hD hS => ?_)
            refine lv_iinc (v := (x2 + 1)) (lv' := [(2, .int ((x2 + 1))), (3, .int ((S 3 0))), (0, .ref (a 0)), (1, .ref (b 0))]) (pc := 95) hx hb dX9_readFrom_95 hl (k := 3) rfl (by rfl) (by decide) rfl (fun ls hl => ?_)
            refine lv_goto (tgt := 39) (pc := 98) hx hb dX9_readFrom_98 (by decide) ?_
            exact hg39 ((x2 + 1)) ((stf q3.2 3 (((q3.2 3 0) + (1 : Int32))))) hf _ _ _ hP hD hS (lv_sub hl [2, 3, 0] rfl)
          · have hf := pt_f c6 hf
            refine lv_iload_n (pc := 83) hx hb dX9_readFrom_83 rfl (lv_at hl 0 rfl) ?_
            cases hf
            exact ret_i C hP hD hS dX9_readFrom_84
set_option maxRecDepth 100000 in
set_option maxHeartbeats 4000000 in
theorem wX9_readFrom (C : Cx p s m args meth c D cA cX9_readFrom 4 RX9 (some .int)) (hA : ∀ q : Nat, s.heap.size ≤ q → A q) {N : Nat} {z : Int32 × St} {S : St} {T : St} (hf : fX9_readFrom N S T = some z) {H : Heap} {locs : List Loc} {ls : Array Slot} (hP : va_P D vwCl (w_D_T cA a S b T) H) (hD : va_D A (w_D_T cA a S b T)) (hS : va_S A s.heap H locs) (hl : lv_has ls 4 [(0, .ref (a 0)), (1, .ref (b 0))]) : W p l e (rmU 4 89 0 0) s m args below meth c H locs 0 0 (MQ below (QI D A z.1 (w_D_T cA a z.2 b T)) args s 0 0 A) (F0 m 0 ls []) := by
  obtain ⟨hx, hb, hml, hown, hts, hK, hN, hr, hlk⟩ := id C
  unfold fX9_readFrom at hf
  refine lv_aload_n (pc := 0) hx hb dX9_readFrom_0 rfl (lv_at hl 0 rfl) ?_
  refine ge_RX9_12_D_T_0_0 (pc := 1) C hP dX9_readFrom_1 ?_
  obtain ⟨q1, hq1, hf⟩ := pt_b hf
  have hPc : va_P D vwCl (w_F cA (sh a 1) (sh S 5)) H := hP.sub [1, 2] rfl
  have hDc : va_D A (w_F cA (sh a 1) (sh S 5)) := hD.sub [1, 2] (by decide) rfl
  refine upd_v (W1 := (w_F cA (sh a 1) q1)) (runU_V (pc := 4) (As := []) (b := a 1) (rest := []) (ci := 0) (q0 := 0) C lk_RX9_42 (kX0_clear l D cA (sh a 1) hq1 H.size) ⟨Nat.le_of_ble_eq_true rfl, Nat.le_of_ble_eq_true rfl⟩ ⟨Nat.le_refl _, Nat.le_refl _⟩ hPc hDc rfl rfl rfl hl.1 rfl (Nat.le_of_ble_eq_true rfl) dX9_readFrom_4) hP hD hS hA [1, 2] rfl (by decide) rfl (fun H locs hP hD hS => ?_)
  have hP : va_P D vwCl (w_D_T cA a (pt S 5 2 q1) b T) H := hP
  have hD : va_D A (w_D_T cA a (pt S 5 2 q1) b T) := hD
  refine lv_aload_n (pc := 7) hx hb dX9_readFrom_7 rfl (lv_at hl 0 rfl) ?_
  refine lv_iconst (v := (0 : Int32)) (pc := 8) hx hb dX9_readFrom_8 (by decide) ?_
  refine pu_RX9_22_D_T_0_0 (pc := 9) C hP hD hS dX9_readFrom_9 (fun H locs hP hD hS => ?_)
  refine lv_aload_n (pc := 12) hx hb dX9_readFrom_12 rfl (lv_at hl 0 rfl) ?_
  refine lv_bipush (v := (6 : Int32)) (pc := 13) hx hb dX9_readFrom_13 (by decide) ?_
  refine pu_RX9_26_D_T_0_0 (pc := 15) C hP hD hS dX9_readFrom_15 (fun H locs hP hD hS => ?_)
  refine lv_aload_n (pc := 18) hx hb dX9_readFrom_18 rfl (lv_at hl 0 rfl) ?_
  refine lv_bipush (v := (7 : Int32)) (pc := 19) hx hb dX9_readFrom_19 (by decide) ?_
  refine pu_RX9_29_D_T_0_0 (pc := 21) C hP hD hS dX9_readFrom_21 (fun H locs hP hD hS => ?_)
  refine lv_aload_n (pc := 24) hx hb dX9_readFrom_24 rfl (lv_at hl 0 rfl) ?_
  refine ge_RX9_35_D_T_0_0 (pc := 25) C hP dX9_readFrom_25 ?_
  refine lv_iconst (v := (0 : Int32)) (pc := 28) hx hb dX9_readFrom_28 (by decide) ?_
  refine pu_RX9_45_D_T_0_4 (pc := 29) C hP hD hS dX9_readFrom_29 (fun H locs hP hD hS => ?_)
  refine lv_aload_n (pc := 32) hx hb dX9_readFrom_32 rfl (lv_at hl 0 rfl) ?_
  refine lv_iconst (v := (0 : Int32)) (pc := 33) hx hb dX9_readFrom_33 (by decide) ?_
  refine pu_RX9_39_D_T_0_0 (pc := 34) C hP hD hS dX9_readFrom_34 (fun H locs hP hD hS => ?_)
  refine lv_iconst (v := (0 : Int32)) (pc := 37) hx hb dX9_readFrom_37 (by decide) ?_
  refine lv_istore_n (lv' := [(2, .int ((0 : Int32))), (0, .ref (a 0)), (1, .ref (b 0))]) (pc := 38) hx hb dX9_readFrom_38 rfl hl (by decide) rfl (fun ls hl => ?_)
  exact wX9_readFrom_39 C hA  _ ((0 : Int32)) ((stf (stf (stf (stf (stf (pt S 5 2 q1) 0 ((0 : Int32))) 1 ((6 : Int32))) 2 ((7 : Int32))) 7 ((0 : Int32))) 3 ((0 : Int32)))) hf _ _ _ hP hD hS (lv_sub hl [1, 2, 0] rfl)
set_option maxRecDepth 100000 in
set_option maxHeartbeats 4000000 in
theorem kX9_readFrom (l : Launch) (D : va_G) (cA : Nat → ClassId) (a : Nat → Nat) (b : Nat → Nat) {N : Nat} {S : St} {T : St} {z : Int32 × St} (hf : fX9_readFrom N S T = some z) : CtI l yX9_readFrom cX9_readFrom 4 (some .int) 4 89 D cA (w_D_T cA a S b T) (w_D_T cA a z.2 b T) [.ref (a 0), .ref (b 0)] z.1 := by
  intro sz
  refine Met.ofW (cc := cX9_readFrom) (maxL := 4) (ret := (some .int)) (by decide) rfl ?_
  intro p e s m args below meth c s₁ B hml hv
  obtain ⟨rfl, hsz, hP, hK, hD0⟩ := hv
  subst hsz
  have C : Cx p s m _ meth c D cA cX9_readFrom 4 RX9 (some .int) := Cx.of B hml hK
  have hD := hD0.self (sz := s.heap.size)
  have hA : ∀ q : Nat, s.heap.size ≤ q → va_A (w_D_T cA a S b T) s.heap.size q := fun q h => Or.inr h
  have hS : va_S (va_A (w_D_T cA a S b T) s.heap.size) s.heap s.heap [] := va_S.rf
  have hl := lv_entry ([.ref (a 0), .ref (b 0)]) (n := 4) (Nat.le_of_ble_eq_true rfl)
  rw [lg_entry_eq]
  generalize (lg_sl ([.ref (a 0), .ref (b 0)]) ++ List.replicate (4 - (lg_sl ([.ref (a 0), .ref (b 0)])).length) Slot.unset).toArray = ls at hl ⊢
  exact wX9_readFrom C hA hf hP hD hS hl
end PClB
